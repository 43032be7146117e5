/-! chains: a live request with a successor stands right before it, and the successor waits -/
def ar_C (n : Nat) (st hs : Nat → Int32) : Prop := ∀ p, p < n → ¬ st p = 2 → ¬ hs p = 0 → p + 1 < n ∧ st (p + 1) = 0
/-- no live predecessor -/
def ar_H (st hs : Nat → Int32) (p : Nat) : Prop := ∀ r, r + 1 = p → st r = 2 ∨ hs r = 0
/-- p is reached from f through links -/
def ar_R (hs : Nat → Int32) (f p : Nat) : Prop := f ≤ p ∧ ∀ r, f ≤ r → r < p → ¬ hs r = 0
def ar_T (st : Nat → Int32) : Prop := ∀ p, st p = 0 ∨ st p = 1 ∨ st p = 2
theorem ar_02 : ¬ (0 : Int32) = 2 := by decide
theorem ar_12 : ¬ (1 : Int32) = 2 := by decide
theorem ar_10 : ¬ (1 : Int32) = 0 := by decide
theorem ar_01 : ¬ (0 : Int32) = 1 := by decide
theorem ar_20 : ¬ (2 : Int32) = 0 := by decide
theorem ar_21 : ¬ (2 : Int32) = 1 := by decide
theorem ar_C_up {n : Nat} {st hs : Nat → Int32} (h : ar_C n st hs) {p : Nat} (hH : ar_H st hs p) (x : Int32) (hp : ¬ st p = 2) : ar_C n (upd st p x) hs := by
  intro r hr ha hh
  have hal : ¬ st r = 2 := by
    by_cases e : r = p
    · rw [e]; exact hp
    · rw [pk_un e] at ha; exact ha
  have h1 := h r hr hal hh
  refine ⟨h1.1, ?_⟩
  by_cases e : r + 1 = p
  · rcases hH r e with z | z
    · exact absurd z hal
    · exact absurd z hh
  · rw [pk_un e]; exact h1.2
theorem ar_H_pend {n : Nat} {st hs : Nat → Int32} (h : ar_C n st hs) {p : Nat} (hp : p < n) (h1 : st p = 1) : ar_H st hs p := by
  intro r hr
  by_cases a : st r = 2
  · exact Or.inl a
  · by_cases b : hs r = 0
    · exact Or.inr b
    · have := (h r (by omega) a b).2
      rw [hr, h1] at this
      exact absurd this ar_10
theorem ar_reach {n : Nat} {st hs : Nat → Int32} (h : ar_C n st hs) {f : Nat} (hf : f < n) (ha : ¬ st f = 2) : ∀ d, ar_R hs f (f + d) → f + d < n ∧ ¬ st (f + d) = 2 := by
  intro d
  induction d with
  | zero => intro _; exact ⟨hf, ha⟩
  | succ d ih =>
    intro hR
    have h1 := ih ⟨by omega, fun r h1 h2 => hR.2 r h1 (by omega)⟩
    have h2 := h (f + d) h1.1 h1.2 (hR.2 (f + d) (by omega) (by omega))
    refine ⟨by omega, ?_⟩
    rw [show f + (d + 1) = f + d + 1 by omega, h2.2]
    exact ar_02
theorem ar_reachH {n : Nat} {st hs : Nat → Int32} (h : ar_C n st hs) {f p : Nat} (hf : f < n) (ha : ¬ st f = 2) (hR : ar_R hs f p) (hH : ar_H st hs p) : p = f := by
  by_cases e : p = f
  · exact e
  · have h0 : f < p := by have := hR.1; omega
    have h1 := ar_reach h hf ha (p - 1 - f) ⟨by omega, fun r h1 h2 => hR.2 r h1 (by omega)⟩
    rw [show f + (p - 1 - f) = p - 1 by omega] at h1
    rcases hH (p - 1) (by omega) with z | z
    · exact absurd z h1.2
    · exact absurd z (hR.2 (p - 1) (by omega) (by omega))
/-! what a chain's cancelling, a cancel, a run leave as it is -/
def ar_FC (hs st st' : Nat → Int32) (f : Nat) : Prop := ∀ p, st' p = st p ∨ (st' p = 2 ∧ ar_R hs f p ∧ (p = f ∨ st p = 0))
def ar_FK (n : Nat) (hs st st' : Nat → Int32) : Prop := ∀ p, st' p = st p ∨ (st' p = 2 ∧ ∃ f, f < n ∧ st f = 1 ∧ ar_R hs f p ∧ (p = f ∨ st p = 0))
def ar_FR (n : Nat) (hs st tk st' tk' : Nat → Int32) (f : Nat) : Prop :=
  (∀ p, st' p = 1 → tk' p = 0 → st p = 1 ∧ tk p = 0 ∧ p ≠ f) ∧ (∀ h, f < h → hs (h - 1) = 0 → (∀ p, h ≤ p → p < n → st p = 0) → ∀ p, h ≤ p → p < n → st' p = 0)
theorem ar_FC_1 {hs st : Nat → Int32} {f : Nat} : ar_FC hs st (upd st f 2) f := by
  intro p
  by_cases e : p = f
  · subst e; exact Or.inr ⟨pk_us, ⟨Nat.le_refl _, fun r h1 h2 => by omega⟩, Or.inl rfl⟩
  · exact Or.inl (pk_un e)
theorem ar_FC_S {hs st st' : Nat → Int32} {f : Nat} (hh : ¬ hs f = 0) (h0 : st (f + 1) = 0) (h : ar_FC hs (upd st f 2) st' (f + 1)) : ar_FC hs st st' f := by
  intro p
  by_cases e : p = f
  · subst e
    rcases h p with z | ⟨_, z, _⟩
    · rw [pk_us] at z
      exact Or.inr ⟨z, ⟨Nat.le_refl _, fun r h1 h2 => by omega⟩, Or.inl rfl⟩
    · have := z.1; omega
  · rcases h p with z | ⟨z1, z2, z3⟩
    · rw [pk_un e] at z; exact Or.inl z
    · refine Or.inr ⟨z1, ⟨by have := z2.1; omega, fun r h1 h2 => ?_⟩, Or.inr ?_⟩
      · by_cases er : r = f
        · rw [er]; exact hh
        · exact z2.2 r (by omega) h2
      · rcases z3 with z3 | z3
        · rw [z3]; exact h0
        · rw [pk_un e] at z3; exact z3
theorem ar_FK_0 {n : Nat} {hs st : Nat → Int32} : ar_FK n hs st st := fun _ => Or.inl rfl
theorem ar_FK_S {n : Nat} {hs st st1 st2 : Nat → Int32} {f : Nat} (hf : f < n) (h1 : st f = 1) (hC : ar_FC hs st st1 f) (hK : ar_FK n hs st1 st2) : ar_FK n hs st st2 := by
  intro p
  rcases hK p with z | ⟨z, g, hg, g1, g2, g3⟩
  · rcases hC p with y | ⟨y1, y2, y3⟩
    · exact Or.inl (z.trans y)
    · exact Or.inr ⟨z.trans y1, f, hf, h1, y2, y3⟩
  · refine Or.inr ⟨z, g, hg, ?_, g2, ?_⟩
    · rcases hC g with y | ⟨y1, _⟩
      · rw [← y]; exact g1
      · rw [y1] at g1; exact absurd g1 ar_21
    · rcases g3 with g3 | g3
      · exact Or.inl g3
      · rcases hC p with y | ⟨y1, _⟩
        · rw [y] at g3; exact Or.inr g3
        · rw [y1] at g3; exact absurd g3 ar_20
/-- the request that cancels stays as it is -/
theorem ar_FK_c {n : Nat} {hs st st' : Nat → Int32} (h : ar_C n st hs) (hK : ar_FK n hs st st') {p : Nat} (h0 : st p = 0) (hH : ar_H st hs p) : st' p = 0 := by
  rcases hK p with z | ⟨_, f, hf, f1, f2, _⟩
  · rw [z]; exact h0
  · have := ar_reachH h hf (by rw [f1]; exact ar_12) f2 hH
    rw [this, f1] at h0
    exact absurd h0 ar_10
theorem ar_FK_2 {n : Nat} {hs st st' : Nat → Int32} (hK : ar_FK n hs st st') {p : Nat} (h2 : st p = 2) : st' p = 2 := by
  rcases hK p with z | ⟨z, _⟩
  · rw [z]; exact h2
  · exact z
theorem ar_FK_H {n : Nat} {hs st st' : Nat → Int32} (hK : ar_FK n hs st st') {p : Nat} (h : ar_H st hs p) : ar_H st' hs p := by
  intro r hr
  rcases h r hr with z | z
  · exact Or.inl (ar_FK_2 hK z)
  · exact Or.inr z
/-- whole chains that have not begun stay as they are -/
theorem ar_FK_h {n : Nat} {hs st st' : Nat → Int32} (hK : ar_FK n hs st st') {h : Nat} (hh : 0 < h → hs (h - 1) = 0) (h0 : ∀ p, h ≤ p → p < n → st p = 0) : ∀ p, h ≤ p → p < n → st' p = 0 := by
  intro p h1 h2
  rcases hK p with z | ⟨_, f, hf, f1, f2, _⟩
  · rw [z]; exact h0 p h1 h2
  · have hlt : f < h := by
      by_cases e : f < h
      · exact e
      · have := h0 f (by omega) hf
        rw [f1] at this; exact absurd this ar_10
    exact absurd (hh (by omega)) (f2.2 (h - 1) (by omega) (by omega))
theorem ar_FK_1 {n : Nat} {hs st st' : Nat → Int32} (hK : ar_FK n hs st st') {p : Nat} (h1 : st' p = 1) : st p = 1 := by
  rcases hK p with z | ⟨z, _⟩
  · rw [← z]; exact h1
  · rw [z] at h1; exact absurd h1 ar_21
theorem ar_FC_1s {hs st st' : Nat → Int32} {f : Nat} (hK : ar_FC hs st st' f) {p : Nat} (h1 : st' p = 1) : st p = 1 := by
  rcases hK p with z | ⟨z, _⟩
  · rw [← z]; exact h1
  · rw [z] at h1; exact absurd h1 ar_21
theorem ar_FC_h {n : Nat} {hs st st' : Nat → Int32} {f : Nat} (hK : ar_FC hs st st' f) {h : Nat} (hf : f < h) (hh : hs (h - 1) = 0) (h0 : ∀ p, h ≤ p → p < n → st p = 0) : ∀ p, h ≤ p → p < n → st' p = 0 := by
  intro p h1 h2
  rcases hK p with z | ⟨_, f2, _⟩
  · rw [z]; exact h0 p h1 h2
  · exact absurd hh (f2.2 (h - 1) (by omega) (by omega))
/-! counting -/
def ar_cn (P : Nat → Bool) (a : Nat) : Nat → Nat
  | 0 => 0
  | d + 1 => (if P a then 1 else 0) + ar_cn P (a + 1) d
theorem ar_cn_c {P Q : Nat → Bool} : ∀ d a, (∀ p, a ≤ p → p < a + d → P p = Q p) → ar_cn P a d = ar_cn Q a d := by
  intro d
  induction d with
  | zero => intro a _; rfl
  | succ d ih =>
    intro a h
    unfold ar_cn
    rw [h a (by omega) (by omega), ih (a + 1) (fun p h1 h2 => h p (by omega) (by omega))]
theorem ar_cn_le {P : Nat → Bool} : ∀ d a, ar_cn P a d ≤ d := by
  intro d
  induction d with
  | zero => intro a; exact Nat.le_refl _
  | succ d ih =>
    intro a
    unfold ar_cn
    have := ih (a + 1)
    split <;> omega
/-- a place at in the arrays of X cuts the live requests at k -/
def ar_cut (e : Nat → Nat) (m at' k : Nat) : Prop := k ≤ m ∧ (∀ j, j < k → e j < at') ∧ (∀ j, k ≤ j → j < m → at' ≤ e j)
theorem ar_cut0 {e : Nat → Nat} {m : Nat} : ar_cut e m 0 0 := ⟨Nat.zero_le _, fun j h => absurd h (by omega), fun j _ _ => Nat.zero_le _⟩
theorem ar_cut_n {n m k : Nat} {st : Nat → Int32} {e : Nat → Nat} (h : ar_E n m st e) (hc : ar_cut e m n k) : k = m := by
  by_cases e1 : k = m
  · exact e1
  · have h1 := hc.1
    have h2 := hc.2.2 k (Nat.le_refl _) (by omega)
    have h3 := (h.2.1 k (by omega)).1
    omega
theorem ar_cut_a {n m k a : Nat} {st : Nat → Int32} {e : Nat → Nat} (h : ar_E n m st e) (hc : ar_cut e m a k) (ha : a < n) (hl : ¬ st a = 2) : k < m ∧ e k = a ∧ ar_cut e m (a + 1) (k + 1) := by
  obtain ⟨j, hj, rfl⟩ := h.2.2 a ha hl
  have hjk : j = k := by
    rcases Nat.lt_trichotomy j k with h1 | h1 | h1
    · have := hc.2.1 j h1; omega
    · exact h1
    · have h2 := h.1 k j h1 hj
      have h3 := hc.2.2 k (Nat.le_refl _) (by omega)
      omega
  subst hjk
  refine ⟨hj, rfl, by omega, fun i hi => ?_, fun i h1 h2 => ?_⟩
  · by_cases e1 : i = j
    · rw [e1]; omega
    · have := hc.2.1 i (by omega); omega
  · have := h.1 j i (by omega) h2; omega
theorem ar_cut_d {n m k a : Nat} {st : Nat → Int32} {e : Nat → Nat} (h : ar_E n m st e) (hc : ar_cut e m a k) (hl : st a = 2) : ar_cut e m (a + 1) k := by
  refine ⟨hc.1, fun i hi => by have := hc.2.1 i hi; omega, fun i h1 h2 => ?_⟩
  have h3 := hc.2.2 i h1 h2
  have h4 := (h.2.1 i h2).2
  by_cases e1 : e i = a
  · rw [e1] at h4; exact absurd hl h4
  · omega
theorem ar_cut_le {n m k a : Nat} {st : Nat → Int32} {e : Nat → Nat} (h : ar_E n m st e) (hc : ar_cut e m a k) : k ≤ a := by
  have hm : ∀ j, j < m → j ≤ e j := by
    intro j
    induction j with
    | zero => intro _; omega
    | succ j ih => intro hj; have := h.1 j (j + 1) (by omega) hj; have := ih (by omega); omega
  by_cases e1 : k = 0
  · omega
  · have h1 := hc.1
    have h2 := hc.2.1 (k - 1) (by omega)
    have h3 := hm (k - 1) (by omega)
    omega
theorem ar_E_le {n m : Nat} {st : Nat → Int32} {e : Nat → Nat} (h : ar_E n m st e) : m ≤ n := by
  by_cases e1 : m = 0
  · omega
  · have hc : ar_cut e m n m := ⟨Nat.le_refl _, fun j hj => (h.2.1 j hj).1, fun j h1 h2 => by omega⟩
    exact ar_cut_le h hc
theorem ar_cn_E {n m : Nat} {st : Nat → Int32} {e : Nat → Nat} (h : ar_E n m st e) {P : Nat → Bool} (hP : ∀ p, P p = true → ¬ st p = 2) : ∀ d a k, a + d = n → ar_cut e m a k → ar_cn (fun j => P (e j)) k (m - k) = ar_cn P a d := by
  intro d
  induction d with
  | zero =>
    intro a k ha hc
    have : k = m := ar_cut_n h (by rw [← ha]; exact hc)
    rw [this, Nat.sub_self]; rfl
  | succ d ih =>
    intro a k ha hc
    by_cases hl : st a = 2
    · have h1 := ih (a + 1) k (by omega) (ar_cut_d h hc hl)
      rw [h1]
      show _ = (if P a then 1 else 0) + ar_cn P (a + 1) d
      rw [if_neg (fun z => hP a z hl), Nat.zero_add]
    · obtain ⟨h1, h2, h3⟩ := ar_cut_a h hc (by omega) hl
      have h4 := ih (a + 1) (k + 1) (by omega) h3
      rw [show m - k = (m - (k + 1)) + 1 by omega]
      show (if P (e k) then 1 else 0) + ar_cn (fun j => P (e j)) (k + 1) (m - (k + 1)) = (if P a then 1 else 0) + ar_cn P (a + 1) d
      rw [h4, h2]
