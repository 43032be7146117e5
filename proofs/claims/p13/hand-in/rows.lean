section
/-! arrays: what stands behind i, below n, moves down by one -/
def ar_sh {α : Type} (a : Nat → α) (i n : Nat) : Nat → α := fun j => if i ≤ j ∧ j + 1 < n then a (j + 1) else a j
theorem ar_sh0 {α : Type} (a : Nat → α) (i : Nat) : ar_sh a i (i + 1) = a := by
  funext j
  have h : ¬ (i ≤ j ∧ j + 1 < i + 1) := by omega
  exact if_neg h
theorem ar_sh_hi {α : Type} (a : Nat → α) {i n j : Nat} (h : i ≤ j ∧ j + 1 < n) : ar_sh a i n j = a (j + 1) := if_pos h
theorem ar_sh_lo {α : Type} (a : Nat → α) {i n j : Nat} (h : ¬ (i ≤ j ∧ j + 1 < n)) : ar_sh a i n j = a j := if_neg h
theorem ar_shS (a : Nat → Int32) {i j : Nat} (h : i ≤ j) : upd (ar_sh a i (j + 1)) j (ar_sh a i (j + 1) (j + 1)) = ar_sh a i (j + 2) := by
  funext p
  by_cases hp : p = j
  · subst hp
    rw [pk_us, ar_sh_lo a (by omega), ar_sh_hi a (by omega)]
  · rw [pk_un hp]
    by_cases hc : i ≤ p ∧ p + 1 < j + 1
    · rw [ar_sh_hi a hc, ar_sh_hi a (by omega)]
    · rw [ar_sh_lo a hc, ar_sh_lo a (by omega)]
theorem ar_shL (a : Nat → Int64) {i j : Nat} (h : i ≤ j) : vp_updL (ar_sh a i (j + 1)) j (ar_sh a i (j + 1) (j + 1)) = ar_sh a i (j + 2) := by
  funext p
  by_cases hp : p = j
  · subst hp
    rw [pk_uLs, ar_sh_lo a (by omega), ar_sh_hi a (by omega)]
  · rw [pk_uLn hp]
    by_cases hc : i ≤ p ∧ p + 1 < j + 1
    · rw [ar_sh_hi a hc, ar_sh_hi a (by omega)]
    · rw [ar_sh_lo a hc, ar_sh_lo a (by omega)]
/-! a boolean array -/
def ar_B (a : Nat → Int32) : Prop := ∀ j, a j = 0 ∨ a j = 1
theorem ar_B_nar {a : Nat → Int32} (h : ar_B a) (j : Nat) : vp_nar .boolean (a j) = a j := by
  rcases h j with h | h <;> rw [h] <;> rfl
theorem ar_B0 : ar_B (fun _ => 0) := fun _ => Or.inl rfl
theorem ar_Bu {a : Nat → Int32} (h : ar_B a) {k : Nat} {x : Int32} (hx : x = 0 ∨ x = 1) : ar_B (upd a k x) := by
  intro j
  by_cases hj : j = k
  · subst hj; rw [pk_us]; exact hx
  · rw [pk_un hj]; exact h j
theorem ar_Bs {a : Nat → Int32} (h : ar_B a) (i n : Nat) : ar_B (ar_sh a i n) := by
  intro j
  by_cases hc : i ≤ j ∧ j + 1 < n
  · rw [ar_sh_hi a hc]; exact h _
  · rw [ar_sh_lo a hc]; exact h _
/-! the live requests: e j is the place, in the arrays of X, of the reference's j-th live request -/
def ar_E (n m : Nat) (st : Nat → Int32) (e : Nat → Nat) : Prop :=
  (∀ i j, i < j → j < m → e i < e j) ∧ (∀ j, j < m → e j < n ∧ ¬ st (e j) = 2) ∧ (∀ p, p < n → ¬ st p = 2 → ∃ j, j < m ∧ e j = p)
theorem ar_E_inj {n m : Nat} {st : Nat → Int32} {e : Nat → Nat} (h : ar_E n m st e) {i j : Nat} (hi : i < m) (hj : j < m) (he : e i = e j) : i = j := by
  rcases Nat.lt_trichotomy i j with h1 | h1 | h1
  · have := h.1 i j h1 hj; omega
  · exact h1
  · have := h.1 j i h1 hi; omega
theorem ar_E_ne {n m : Nat} {st : Nat → Int32} {e : Nat → Nat} (h : ar_E n m st e) {i j : Nat} (hi : i < m) (hj : j < m) (hn : i ≠ j) : e i ≠ e j :=
  fun he => hn (ar_E_inj h hi hj he)
theorem ar_E_lt {n m : Nat} {st : Nat → Int32} {e : Nat → Nat} (h : ar_E n m st e) {i j : Nat} (hi : i < m) (hj : j < m) (he : e i < e j) : i < j := by
  rcases Nat.lt_trichotomy i j with h1 | h1 | h1
  · exact h1
  · subst h1; omega
  · have := h.1 j i h1 hi; omega
theorem ar_sh_c {e : Nat → Nat} {i m : Nat} : ∀ j, j < m - 1 → (j < i ∧ ar_sh e i m j = e j) ∨ (i ≤ j ∧ ar_sh e i m j = e (j + 1)) := by
  intro j hj
  by_cases hc : i ≤ j ∧ j + 1 < m
  · exact Or.inr ⟨hc.1, ar_sh_hi e hc⟩
  · exact Or.inl ⟨by omega, ar_sh_lo e hc⟩
theorem ar_E_rm {n m : Nat} {st : Nat → Int32} {e : Nat → Nat} (h : ar_E n m st e) {i : Nat} (hi : i < m) : ar_E n (m - 1) (upd st (e i) 2) (ar_sh e i m) := by
  refine ⟨?_, ?_, ?_⟩
  · intro a b hab hb
    rcases ar_sh_c (e := e) (i := i) (m := m) a (by omega) with ⟨h1, h2⟩ | ⟨h1, h2⟩ <;> rcases ar_sh_c (e := e) (i := i) (m := m) b hb with ⟨h3, h4⟩ | ⟨h3, h4⟩ <;> rw [h2, h4]
    · exact h.1 a b hab (by omega)
    · exact h.1 a (b + 1) (by omega) (by omega)
    · omega
    · exact h.1 (a + 1) (b + 1) (by omega) (by omega)
  · intro j hj
    rcases ar_sh_c (e := e) (i := i) (m := m) j hj with ⟨h1, h2⟩ | ⟨h1, h2⟩ <;> rw [h2]
    · refine ⟨(h.2.1 j (by omega)).1, ?_⟩
      rw [pk_un (ar_E_ne h (by omega) hi (by omega))]
      exact (h.2.1 j (by omega)).2
    · refine ⟨(h.2.1 (j + 1) (by omega)).1, ?_⟩
      rw [pk_un (ar_E_ne h (by omega) hi (by omega))]
      exact (h.2.1 (j + 1) (by omega)).2
  · intro p hp hne
    have hpe : p ≠ e i := by intro hh; exact hne (by rw [hh]; exact pk_us)
    rw [pk_un hpe] at hne
    obtain ⟨j, hj, rfl⟩ := h.2.2 p hp hne
    have hji : j ≠ i := fun hh => hpe (by rw [hh])
    by_cases hc : j < i
    · exact ⟨j, by omega, ar_sh_lo e (by omega)⟩
    · refine ⟨j - 1, by omega, ?_⟩
      rw [ar_sh_hi e (by omega), show j - 1 + 1 = j by omega]
theorem ar_E_st {n m : Nat} {st st' : Nat → Int32} {e : Nat → Nat} (h : ar_E n m st e) (hs : ∀ p, p < n → (st' p = 2 ↔ st p = 2)) : ar_E n m st' e :=
  ⟨h.1, fun j hj => ⟨(h.2.1 j hj).1, fun z => (h.2.1 j hj).2 ((hs _ (h.2.1 j hj).1).mp z)⟩, fun p hp z => h.2.2 p hp (fun y => z ((hs p hp).mpr y))⟩
theorem ar_E_id {n : Nat} {st : Nat → Int32} (h : ∀ p, p < n → ¬ st p = 2) : ar_E n n st (fun j => j) :=
  ⟨fun _ _ h _ => h, fun j hj => ⟨hj, h j hj⟩, fun p hp _ => ⟨p, hp, rfl⟩⟩
/-! views -/
def ar_V {α : Type} (e : Nat → Nat) (m : Nat) (a g : Nat → α) : Prop := ∀ j, j < m → a j = g (e j)
theorem ar_V_rm {α : Type} {e : Nat → Nat} {m : Nat} {a g : Nat → α} (h : ar_V e m a g) (i : Nat) : ar_V (ar_sh e i m) (m - 1) (ar_sh a i m) g := by
  intro j hj
  by_cases hc : i ≤ j ∧ j + 1 < m
  · rw [ar_sh_hi a hc, ar_sh_hi e hc]; exact h (j + 1) hc.2
  · rw [ar_sh_lo a hc, ar_sh_lo e hc]; exact h j (by omega)
theorem ar_V_up {n m : Nat} {st : Nat → Int32} {e : Nat → Nat} (hE : ar_E n m st e) {a g : Nat → Int32} (h : ar_V e m a g) {i : Nat} (hi : i < m) (x : Int32) : ar_V e m (upd a i x) (upd g (e i) x) := by
  intro j hj
  by_cases hji : j = i
  · subst hji; rw [pk_us, pk_us]
  · rw [pk_un hji, pk_un (ar_E_ne hE hj hi hji)]; exact h j hj
theorem ar_V_g {α : Type} {e : Nat → Nat} {m : Nat} {a g g' : Nat → α} (h : ar_V e m a g) (hg : ∀ j, j < m → g' (e j) = g (e j)) : ar_V e m a g' :=
  fun j hj => (h j hj).trans (hg j hj).symm
theorem ar_V_id {α : Type} {m : Nat} {a g : Nat → α} : ar_V (fun j => j) m a g ↔ ∀ j, j < m → a j = g j := Iff.rfl
end
section
/-! chains: a live request with a successor stands right before it, and the successor waits -/
def ar_C (n : Nat) (st hs : Nat → Int32) : Prop := ∀ p, p < n → ¬ st p = 2 → ¬ hs p = 0 → p + 1 < n ∧ st (p + 1) = 0
/-- no live predecessor -/
def ar_H (st hs : Nat → Int32) (p : Nat) : Prop := ∀ r, r + 1 = p → st r = 2 ∨ hs r = 0
/-- p is reached from f through links -/
def ar_R (hs : Nat → Int32) (f p : Nat) : Prop := f ≤ p ∧ ∀ r, f ≤ r → r < p → ¬ hs r = 0
def ar_T (st : Nat → Int32) : Prop := ∀ p, st p = 0 ∨ st p = 1 ∨ st p = 2
theorem ar_02 : ¬ (0 : Int32) = 2 := by decide
theorem ar_12 : ¬ (1 : Int32) = 2 := by decide
theorem ar_10 : ¬ (1 : Int32) = 0 := by decide
theorem ar_01 : ¬ (0 : Int32) = 1 := by decide
theorem ar_20 : ¬ (2 : Int32) = 0 := by decide
theorem ar_21 : ¬ (2 : Int32) = 1 := by decide
theorem ar_C_up {n : Nat} {st hs : Nat → Int32} (h : ar_C n st hs) {p : Nat} (hH : ar_H st hs p) (x : Int32) (hp : ¬ st p = 2) : ar_C n (upd st p x) hs := by
  intro r hr ha hh
  have hal : ¬ st r = 2 := by
    by_cases e : r = p
    · rw [e]; exact hp
    · rw [pk_un e] at ha; exact ha
  have h1 := h r hr hal hh
  refine ⟨h1.1, ?_⟩
  by_cases e : r + 1 = p
  · rcases hH r e with z | z
    · exact absurd z hal
    · exact absurd z hh
  · rw [pk_un e]; exact h1.2
theorem ar_H_pend {n : Nat} {st hs : Nat → Int32} (h : ar_C n st hs) {p : Nat} (hp : p < n) (h1 : st p = 1) : ar_H st hs p := by
  intro r hr
  by_cases a : st r = 2
  · exact Or.inl a
  · by_cases b : hs r = 0
    · exact Or.inr b
    · have := (h r (by omega) a b).2
      rw [hr, h1] at this
      exact absurd this ar_10
theorem ar_reach {n : Nat} {st hs : Nat → Int32} (h : ar_C n st hs) {f : Nat} (hf : f < n) (ha : ¬ st f = 2) : ∀ d, ar_R hs f (f + d) → f + d < n ∧ ¬ st (f + d) = 2 := by
  intro d
  induction d with
  | zero => intro _; exact ⟨hf, ha⟩
  | succ d ih =>
    intro hR
    have h1 := ih ⟨by omega, fun r h1 h2 => hR.2 r h1 (by omega)⟩
    have h2 := h (f + d) h1.1 h1.2 (hR.2 (f + d) (by omega) (by omega))
    refine ⟨by omega, ?_⟩
    rw [show f + (d + 1) = f + d + 1 by omega, h2.2]
    exact ar_02
theorem ar_reachH {n : Nat} {st hs : Nat → Int32} (h : ar_C n st hs) {f p : Nat} (hf : f < n) (ha : ¬ st f = 2) (hR : ar_R hs f p) (hH : ar_H st hs p) : p = f := by
  by_cases e : p = f
  · exact e
  · have h0 : f < p := by have := hR.1; omega
    have h1 := ar_reach h hf ha (p - 1 - f) ⟨by omega, fun r h1 h2 => hR.2 r h1 (by omega)⟩
    rw [show f + (p - 1 - f) = p - 1 by omega] at h1
    rcases hH (p - 1) (by omega) with z | z
    · exact absurd z h1.2
    · exact absurd z (hR.2 (p - 1) (by omega) (by omega))
/-! what a chain's cancelling, a cancel, a run leave as it is -/
def ar_FC (hs st st' : Nat → Int32) (f : Nat) : Prop := ∀ p, st' p = st p ∨ (st' p = 2 ∧ ar_R hs f p ∧ (p = f ∨ st p = 0))
def ar_FK (n : Nat) (hs st st' : Nat → Int32) : Prop := ∀ p, st' p = st p ∨ (st' p = 2 ∧ ∃ f, f < n ∧ st f = 1 ∧ ar_R hs f p ∧ (p = f ∨ st p = 0))
def ar_FR (n : Nat) (hs st tk st' tk' : Nat → Int32) (f : Nat) : Prop :=
  (∀ p, st' p = 1 → tk' p = 0 → st p = 1 ∧ tk p = 0 ∧ p ≠ f) ∧ (∀ h, f < h → hs (h - 1) = 0 → (∀ p, h ≤ p → p < n → st p = 0) → ∀ p, h ≤ p → p < n → st' p = 0)
theorem ar_FC_1 {hs st : Nat → Int32} {f : Nat} : ar_FC hs st (upd st f 2) f := by
  intro p
  by_cases e : p = f
  · subst e; exact Or.inr ⟨pk_us, ⟨Nat.le_refl _, fun r h1 h2 => by omega⟩, Or.inl rfl⟩
  · exact Or.inl (pk_un e)
theorem ar_FC_S {hs st st' : Nat → Int32} {f : Nat} (hh : ¬ hs f = 0) (h0 : st (f + 1) = 0) (h : ar_FC hs (upd st f 2) st' (f + 1)) : ar_FC hs st st' f := by
  intro p
  by_cases e : p = f
  · subst e
    rcases h p with z | ⟨_, z, _⟩
    · rw [pk_us] at z
      exact Or.inr ⟨z, ⟨Nat.le_refl _, fun r h1 h2 => by omega⟩, Or.inl rfl⟩
    · have := z.1; omega
  · rcases h p with z | ⟨z1, z2, z3⟩
    · rw [pk_un e] at z; exact Or.inl z
    · refine Or.inr ⟨z1, ⟨by have := z2.1; omega, fun r h1 h2 => ?_⟩, Or.inr ?_⟩
      · by_cases er : r = f
        · rw [er]; exact hh
        · exact z2.2 r (by omega) h2
      · rcases z3 with z3 | z3
        · rw [z3]; exact h0
        · rw [pk_un e] at z3; exact z3
theorem ar_FK_0 {n : Nat} {hs st : Nat → Int32} : ar_FK n hs st st := fun _ => Or.inl rfl
theorem ar_FK_S {n : Nat} {hs st st1 st2 : Nat → Int32} {f : Nat} (hf : f < n) (h1 : st f = 1) (hC : ar_FC hs st st1 f) (hK : ar_FK n hs st1 st2) : ar_FK n hs st st2 := by
  intro p
  rcases hK p with z | ⟨z, g, hg, g1, g2, g3⟩
  · rcases hC p with y | ⟨y1, y2, y3⟩
    · exact Or.inl (z.trans y)
    · exact Or.inr ⟨z.trans y1, f, hf, h1, y2, y3⟩
  · refine Or.inr ⟨z, g, hg, ?_, g2, ?_⟩
    · rcases hC g with y | ⟨y1, _⟩
      · rw [← y]; exact g1
      · rw [y1] at g1; exact absurd g1 ar_21
    · rcases g3 with g3 | g3
      · exact Or.inl g3
      · rcases hC p with y | ⟨y1, _⟩
        · rw [y] at g3; exact Or.inr g3
        · rw [y1] at g3; exact absurd g3 ar_20
/-- the request that cancels stays as it is -/
theorem ar_FK_c {n : Nat} {hs st st' : Nat → Int32} (h : ar_C n st hs) (hK : ar_FK n hs st st') {p : Nat} (h0 : st p = 0) (hH : ar_H st hs p) : st' p = 0 := by
  rcases hK p with z | ⟨_, f, hf, f1, f2, _⟩
  · rw [z]; exact h0
  · have := ar_reachH h hf (by rw [f1]; exact ar_12) f2 hH
    rw [this, f1] at h0
    exact absurd h0 ar_10
theorem ar_FK_2 {n : Nat} {hs st st' : Nat → Int32} (hK : ar_FK n hs st st') {p : Nat} (h2 : st p = 2) : st' p = 2 := by
  rcases hK p with z | ⟨z, _⟩
  · rw [z]; exact h2
  · exact z
theorem ar_FK_H {n : Nat} {hs st st' : Nat → Int32} (hK : ar_FK n hs st st') {p : Nat} (h : ar_H st hs p) : ar_H st' hs p := by
  intro r hr
  rcases h r hr with z | z
  · exact Or.inl (ar_FK_2 hK z)
  · exact Or.inr z
/-- whole chains that have not begun stay as they are -/
theorem ar_FK_h {n : Nat} {hs st st' : Nat → Int32} (hK : ar_FK n hs st st') {h : Nat} (hh : 0 < h → hs (h - 1) = 0) (h0 : ∀ p, h ≤ p → p < n → st p = 0) : ∀ p, h ≤ p → p < n → st' p = 0 := by
  intro p h1 h2
  rcases hK p with z | ⟨_, f, hf, f1, f2, _⟩
  · rw [z]; exact h0 p h1 h2
  · have hlt : f < h := by
      by_cases e : f < h
      · exact e
      · have := h0 f (by omega) hf
        rw [f1] at this; exact absurd this ar_10
    exact absurd (hh (by omega)) (f2.2 (h - 1) (by omega) (by omega))
theorem ar_FK_1 {n : Nat} {hs st st' : Nat → Int32} (hK : ar_FK n hs st st') {p : Nat} (h1 : st' p = 1) : st p = 1 := by
  rcases hK p with z | ⟨z, _⟩
  · rw [← z]; exact h1
  · rw [z] at h1; exact absurd h1 ar_21
theorem ar_FC_1s {hs st st' : Nat → Int32} {f : Nat} (hK : ar_FC hs st st' f) {p : Nat} (h1 : st' p = 1) : st p = 1 := by
  rcases hK p with z | ⟨z, _⟩
  · rw [← z]; exact h1
  · rw [z] at h1; exact absurd h1 ar_21
theorem ar_FC_h {n : Nat} {hs st st' : Nat → Int32} {f : Nat} (hK : ar_FC hs st st' f) {h : Nat} (hf : f < h) (hh : hs (h - 1) = 0) (h0 : ∀ p, h ≤ p → p < n → st p = 0) : ∀ p, h ≤ p → p < n → st' p = 0 := by
  intro p h1 h2
  rcases hK p with z | ⟨_, f2, _⟩
  · rw [z]; exact h0 p h1 h2
  · exact absurd hh (f2.2 (h - 1) (by omega) (by omega))
/-! counting -/
def ar_cn (P : Nat → Bool) (a : Nat) : Nat → Nat
  | 0 => 0
  | d + 1 => (if P a then 1 else 0) + ar_cn P (a + 1) d
theorem ar_cn_c {P Q : Nat → Bool} : ∀ d a, (∀ p, a ≤ p → p < a + d → P p = Q p) → ar_cn P a d = ar_cn Q a d := by
  intro d
  induction d with
  | zero => intro a _; rfl
  | succ d ih =>
    intro a h
    unfold ar_cn
    rw [h a (by omega) (by omega), ih (a + 1) (fun p h1 h2 => h p (by omega) (by omega))]
theorem ar_cn_le {P : Nat → Bool} : ∀ d a, ar_cn P a d ≤ d := by
  intro d
  induction d with
  | zero => intro a; exact Nat.le_refl _
  | succ d ih =>
    intro a
    unfold ar_cn
    have := ih (a + 1)
    split <;> omega
/-- a place at in the arrays of X cuts the live requests at k -/
def ar_cut (e : Nat → Nat) (m at' k : Nat) : Prop := k ≤ m ∧ (∀ j, j < k → e j < at') ∧ (∀ j, k ≤ j → j < m → at' ≤ e j)
theorem ar_cut0 {e : Nat → Nat} {m : Nat} : ar_cut e m 0 0 := ⟨Nat.zero_le _, fun j h => absurd h (by omega), fun j _ _ => Nat.zero_le _⟩
theorem ar_cut_n {n m k : Nat} {st : Nat → Int32} {e : Nat → Nat} (h : ar_E n m st e) (hc : ar_cut e m n k) : k = m := by
  by_cases e1 : k = m
  · exact e1
  · have h1 := hc.1
    have h2 := hc.2.2 k (Nat.le_refl _) (by omega)
    have h3 := (h.2.1 k (by omega)).1
    omega
theorem ar_cut_a {n m k a : Nat} {st : Nat → Int32} {e : Nat → Nat} (h : ar_E n m st e) (hc : ar_cut e m a k) (ha : a < n) (hl : ¬ st a = 2) : k < m ∧ e k = a ∧ ar_cut e m (a + 1) (k + 1) := by
  obtain ⟨j, hj, rfl⟩ := h.2.2 a ha hl
  have hjk : j = k := by
    rcases Nat.lt_trichotomy j k with h1 | h1 | h1
    · have := hc.2.1 j h1; omega
    · exact h1
    · have h2 := h.1 k j h1 hj
      have h3 := hc.2.2 k (Nat.le_refl _) (by omega)
      omega
  subst hjk
  refine ⟨hj, rfl, by omega, fun i hi => ?_, fun i h1 h2 => ?_⟩
  · by_cases e1 : i = j
    · rw [e1]; omega
    · have := hc.2.1 i (by omega); omega
  · have := h.1 j i (by omega) h2; omega
theorem ar_cut_d {n m k a : Nat} {st : Nat → Int32} {e : Nat → Nat} (h : ar_E n m st e) (hc : ar_cut e m a k) (hl : st a = 2) : ar_cut e m (a + 1) k := by
  refine ⟨hc.1, fun i hi => by have := hc.2.1 i hi; omega, fun i h1 h2 => ?_⟩
  have h3 := hc.2.2 i h1 h2
  have h4 := (h.2.1 i h2).2
  by_cases e1 : e i = a
  · rw [e1] at h4; exact absurd hl h4
  · omega
theorem ar_cut_le {n m k a : Nat} {st : Nat → Int32} {e : Nat → Nat} (h : ar_E n m st e) (hc : ar_cut e m a k) : k ≤ a := by
  have hm : ∀ j, j < m → j ≤ e j := by
    intro j
    induction j with
    | zero => intro _; omega
    | succ j ih => intro hj; have := h.1 j (j + 1) (by omega) hj; have := ih (by omega); omega
  by_cases e1 : k = 0
  · omega
  · have h1 := hc.1
    have h2 := hc.2.1 (k - 1) (by omega)
    have h3 := hm (k - 1) (by omega)
    omega
theorem ar_E_le {n m : Nat} {st : Nat → Int32} {e : Nat → Nat} (h : ar_E n m st e) : m ≤ n := by
  by_cases e1 : m = 0
  · omega
  · have hc : ar_cut e m n m := ⟨Nat.le_refl _, fun j hj => (h.2.1 j hj).1, fun j h1 h2 => by omega⟩
    exact ar_cut_le h hc
theorem ar_cn_E {n m : Nat} {st : Nat → Int32} {e : Nat → Nat} (h : ar_E n m st e) {P : Nat → Bool} (hP : ∀ p, P p = true → ¬ st p = 2) : ∀ d a k, a + d = n → ar_cut e m a k → ar_cn (fun j => P (e j)) k (m - k) = ar_cn P a d := by
  intro d
  induction d with
  | zero =>
    intro a k ha hc
    have : k = m := ar_cut_n h (by rw [← ha]; exact hc)
    rw [this, Nat.sub_self]; rfl
  | succ d ih =>
    intro a k ha hc
    by_cases hl : st a = 2
    · have h1 := ih (a + 1) k (by omega) (ar_cut_d h hc hl)
      rw [h1]
      show _ = (if P a then 1 else 0) + ar_cn P (a + 1) d
      rw [if_neg (fun z => hP a z hl), Nat.zero_add]
    · obtain ⟨h1, h2, h3⟩ := ar_cut_a h hc (by omega) hl
      have h4 := ih (a + 1) (k + 1) (by omega) h3
      rw [show m - k = (m - (k + 1)) + 1 by omega]
      show (if P (e k) then 1 else 0) + ar_cn (fun j => P (e j)) (k + 1) (m - (k + 1)) = (if P a then 1 else 0) + ar_cn P (a + 1) d
      rw [h4, h2]
end
section
/-! the completions' history: the t-th posted is H t, with the result V t; those below Pp are popped -/
def am_u (H : Nat → Nat) (k x : Nat) : Nat → Nat := fun j => if j = k then x else H j
theorem am_us {H : Nat → Nat} {k x : Nat} : am_u H k x k = x := if_pos rfl
theorem am_un {H : Nat → Nat} {k j x : Nat} (h : j ≠ k) : am_u H k x j = H j := if_neg h
/-- X's ring holds the history from Pp on -/
def am_D (F D Pp : Nat) (T R : Nat → Int32) (H : Nat → Nat) (V : Nat → Int32) : Prop := ∀ j, j < D → T ((F + j) % 48) = nI (1000 + H (Pp + j)) ∧ R ((F + j) % 48) = V (Pp + j)
theorem am_D_S {F D Pp : Nat} {T R : Nat → Int32} {H : Nat → Nat} {V : Nat → Int32} (h : am_D F D Pp T R H V) (hD : D < 48) (x : Nat) (r : Int32) :
    am_D F (D + 1) Pp (upd T ((F + D) % 48) (nI (1000 + x))) (upd R ((F + D) % 48) r) (am_u H (Pp + D) x) (upd V (Pp + D) r) := by
  intro j hj
  by_cases e : j = D
  · subst e; rw [pk_us, pk_us, am_us, pk_us]; exact ⟨rfl, rfl⟩
  · rw [pk_un (by omega), pk_un (by omega), am_un (by omega), pk_un (by omega)]; exact h j (by omega)
theorem am_D_pop {F D Pp : Nat} {T R : Nat → Int32} {H : Nat → Nat} {V : Nat → Int32} (h : am_D F (D + 1) Pp T R H V) : am_D ((F + 1) % 48) D (Pp + 1) T R H V := by
  intro j hj
  have := h (j + 1) (by omega)
  rw [show ((F + 1) % 48 + j) % 48 = (F + (j + 1)) % 48 by omega, show Pp + 1 + j = Pp + (j + 1) by omega]
  exact this
/-- what stays as it is while chains run: the requests' numbers, their links -/
def am_S (n E : Nat) (tg hs : Nat → Int32) (id : Nat → Nat) (pr : Nat → Bool) : Prop :=
  (∀ p, p < n → tg p = nI (1000 + id p) ∧ id p < E) ∧ (∀ p r, p < r → r < n → id p < id r) ∧ (∀ p, p < n → (¬ hs p = 0 ↔ pr (id p) = true)) ∧ (∀ p, p < n → ¬ hs p = 0 → p + 1 < n ∧ id (p + 1) = id p + 1)
/-- who is live, who is posted, in which order -/
def am_L (n m E Pt : Nat) (st hs : Nat → Int32) (e id : Nat → Nat) (pr : Nat → Bool) (H : Nat → Nat) (V : Nat → Int32) : Prop :=
  ar_E n m st e ∧ m + Pt = E ∧ ar_C n st hs ∧ (∀ t, t < Pt → H t < E) ∧ (∀ t t', t < t' → t' < Pt → H t ≠ H t') ∧ (∀ t p, t < Pt → p < n → ¬ st p = 2 → H t ≠ id p) ∧
  (∀ i, i < E → (∃ p, p < n ∧ ¬ st p = 2 ∧ id p = i) ∨ (∃ t, t < Pt ∧ H t = i)) ∧
  (∀ t i, t < Pt → H t = i + 1 → pr i = true → ∃ t', t' < t ∧ H t' = i ∧ (V t' < 0 → V t = -125))
/-- a request that failed has no live successor; but for x -/
def am_N (n Pt : Nat) (st : Nat → Int32) (id : Nat → Nat) (pr : Nat → Bool) (H : Nat → Nat) (V : Nat → Int32) (x : Nat) : Prop :=
  ∀ t, t < Pt → V t < 0 → pr (H t) = true → H t ≠ x → ∀ p, p < n → ¬ st p = 2 → id p ≠ H t + 1
section
variable {n m E Pt : Nat} {st hs tg : Nat → Int32} {e id : Nat → Nat} {pr : Nat → Bool} {H : Nat → Nat} {V : Nat → Int32}
theorem am_inj (hS : am_S n E tg hs id pr) {p r : Nat} (hp : p < n) (hr : r < n) (h : id p = id r) : p = r := by
  rcases Nat.lt_trichotomy p r with z | z | z
  · have := hS.2.1 p r z hr; omega
  · exact z
  · have := hS.2.1 r p z hp; omega
theorem am_post (hS : am_S n E tg hs id pr) (h : am_L n m E Pt st hs e id pr H V) {i : Nat} (hi : i < m) (hH : ar_H st hs (e i)) (r : Int32)
    (hr : ∀ t, t < Pt → H t + 1 = id (e i) → pr (H t) = true → V t < 0 → r = -125) :
    am_L n (m - 1) E (Pt + 1) (upd st (e i) 2) hs (ar_sh e i m) id pr (am_u H Pt (id (e i))) (upd V Pt r) := by
  obtain ⟨hE, hm, hC, h1, h2, h3, h4, h5⟩ := h
  have hal := hE.2.1 i hi
  refine ⟨ar_E_rm hE hi, by omega, ar_C_up hC hH 2 hal.2, fun t ht => ?_, fun t t' a b => ?_, fun t p a b c => ?_, fun j hj => ?_, fun t j a b c => ?_⟩
  · by_cases z : t = Pt
    · rw [z, am_us]; exact (hS.1 (e i) hal.1).2
    · rw [am_un z]; exact h1 t (by omega)
  · by_cases z : t' = Pt
    · rw [z, am_us, am_un (by omega)]; exact h3 t (e i) (by omega) hal.1 hal.2
    · rw [am_un z, am_un (by omega)]; exact h2 t t' a (by omega)
  · have hpe : p ≠ e i := fun w => c (by rw [w]; exact pk_us)
    rw [pk_un hpe] at c
    by_cases z : t = Pt
    · rw [z, am_us]; exact fun w => hpe (am_inj hS b hal.1 w.symm)
    · rw [am_un z]; exact h3 t p (by omega) b c
  · by_cases z : j = id (e i)
    · exact Or.inr ⟨Pt, by omega, by rw [am_us, z]⟩
    · rcases h4 j hj with ⟨p, a, b, c⟩ | ⟨t, a, b⟩
      · refine Or.inl ⟨p, a, ?_, c⟩
        rw [pk_un (fun w => z (by rw [← c, w]))]; exact b
      · exact Or.inr ⟨t, by omega, by rw [am_un (by omega)]; exact b⟩
  · by_cases z : t = Pt
    · subst z
      rw [am_us] at b
      have hj : j < E := by have := (hS.1 (e i) hal.1).2; omega
      rcases h4 j hj with ⟨p, a1, b1, c1⟩ | ⟨t', a1, b1⟩
      · have hh : ¬ hs p = 0 := (hS.2.2.1 p a1).mpr (by rw [c1]; exact c)
        obtain ⟨g1, g2⟩ := hS.2.2.2 p a1 hh
        have g3 : p + 1 = e i := am_inj hS g1 hal.1 (by rw [g2, c1, b])
        rcases hH p g3 with w | w
        · exact absurd w b1
        · exact absurd w hh
      · refine ⟨t', a1, by rw [am_un (by omega)]; exact b1, fun w => ?_⟩
        rw [pk_un (by omega)] at w
        rw [pk_us]
        exact hr t' a1 (by rw [b1, b]) (by rw [b1]; exact c) w
    · rw [am_un z] at b
      obtain ⟨t', a1, b1, c1⟩ := h5 t j (by omega) b c
      refine ⟨t', a1, by rw [am_un (by omega)]; exact b1, fun w => ?_⟩
      rw [pk_un (by omega)] at w
      rw [pk_un z]
      exact c1 w
theorem am_N_p (hS : am_S n E tg hs id pr) {p : Nat} (hp : p < n) {x : Nat} (h : am_N n Pt st id pr H V x) (hx : x = E ∨ x + 1 = id p) (h1 : ∀ t, t < Pt → H t < E) (r : Int32) : am_N n (Pt + 1) (upd st p 2) id pr (am_u H Pt (id p)) (upd V Pt r) (id p) := by
  intro t a b c d q f g
  have hqp : q ≠ p := fun w => g (by rw [w]; exact pk_us)
  rw [pk_un hqp] at g
  by_cases z : t = Pt
  · rw [z, am_us] at d; exact absurd rfl d
  · rw [am_un z] at c d ⊢
    rw [pk_un z] at b
    by_cases y : H t = x
    · intro w
      rcases hx with hx | hx
      · have := h1 t (by omega); omega
      · exact hqp (am_inj hS f hp (by rw [w, y, hx]))
    · exact h t (by omega) b c y q f g
theorem am_N_e {x : Nat} (h : am_N n Pt st id pr H V x) (hx : pr x = false) (y : Nat) : am_N n Pt st id pr H V y := by
  intro t a b c d q f g
  by_cases z : H t = x
  · rw [z, hx] at c; exact absurd c (by decide)
  · exact h t a b c z q f g
theorem am_N_0 {p : Nat} (h : am_N n Pt st id pr H V E) {r : Int32} (hr : ¬ r < 0) : am_N n (Pt + 1) (upd st p 2) id pr (am_u H Pt (id p)) (upd V Pt r) E := by
  intro t a b c d q f g
  by_cases z : t = Pt
  · rw [z, pk_us] at b; exact absurd b hr
  · rw [am_un z] at c d ⊢
    rw [pk_un z] at b
    refine h t (by omega) b c d q f (fun w => g ?_)
    by_cases y : q = p
    · rw [y]; exact pk_us
    · rw [pk_un y]; exact w
theorem am_N_st {st' : Nat → Int32} {x : Nat} (h : am_N n Pt st id pr H V x) (hs' : ∀ p, p < n → st p = 2 → st' p = 2) : am_N n Pt st' id pr H V x :=
  fun t a b c d q f g => h t a b c d q f (fun w => g (hs' q f w))
theorem am_L_pend (h : am_L n m E Pt st hs e id pr H V) {p : Nat} (hp : ¬ st p = 2) (hH : ar_H st hs p) : am_L n m E Pt (upd st p 1) hs e id pr H V := by
  obtain ⟨hE, hm, hC, h1, h2, h3, h4, h5⟩ := h
  have hst : ∀ q, q < n → (upd st p 1 q = 2 ↔ st q = 2) := by
    intro q _
    by_cases z : q = p
    · rw [z, pk_us]; exact ⟨fun w => absurd w ar_12, fun w => absurd w hp⟩
    · rw [pk_un z]
  refine ⟨ar_E_st hE hst, hm, ar_C_up hC hH 1 hp, h1, h2, fun t q a b c => h3 t q a b (fun w => c ((hst q b).mpr w)), fun i hi => ?_, h5⟩
  rcases h4 i hi with ⟨q, a, b, c⟩ | w
  · exact Or.inl ⟨q, a, fun w => b ((hst q a).mp w), c⟩
  · exact Or.inr w
end
end
section
theorem ar_uc (a : Nat → Int32) {p : Nat} (x : Int32) (hp : p < 2 ^ 31) : upd a (nI p).toNatClampNeg x = upd a p x := by rw [nI_clamp hp]
theorem ar_ur (a b : Nat → Int32) {p r : Nat} (hp : p < 2 ^ 31) (hr : r < 2 ^ 31) : upd a (nI p).toNatClampNeg (b (nI r).toNatClampNeg) = upd a p (b r) := by rw [nI_clamp hp, nI_clamp hr]
theorem ar_ub (a : Nat → Int32) {p : Nat} (x : Int32) (hp : p < 2 ^ 31) (hx : x = 0 ∨ x = 1) : upd a (nI p).toNatClampNeg (vp_nar .boolean x) = upd a p x := by
  rw [nI_clamp hp]
  rcases hx with h | h <;> rw [h] <;> rfl
theorem ar_urb (a b : Nat → Int32) {p r : Nat} (hp : p < 2 ^ 31) (hr : r < 2 ^ 31) (hb : ar_B b) : upd a (nI p).toNatClampNeg (vp_nar .boolean (b (nI r).toNatClampNeg)) = upd a p (b r) := by rw [nI_clamp hp, nI_clamp hr, ar_B_nar hb]
theorem ar_r48 (a b : Nat) (h : a + b < 2 ^ 31) : nI a + nI b - (nI a + nI b) / 48 * 48 = nI ((a + b) % 48) := by
  rw [nI_add]; exact pk_rem (d := 48) h (by decide) (by decide)
theorem ar_r16 (a b : Nat) (h : a + b < 2 ^ 31) : nI a + nI b - (nI a + nI b) / 16 * 16 = nI ((a + b) % 16) := by
  rw [nI_add]; exact pk_rem (d := 16) h (by decide) (by decide)
theorem ar_n1 {a b : Nat} (h : b = a + 1) : nI a + 1 = nI b := by rw [h, nI_1]
theorem ar_FR_1 {n : Nat} {hs st tk : Nat → Int32} {f : Nat} : ar_FR n hs st tk (upd st f 2) tk f := by
  refine ⟨fun p h1 h2 => ?_, fun h h1 h2 h3 p h4 h5 => ?_⟩
  · have e : p ≠ f := fun w => by rw [w, pk_us] at h1; exact ar_21 h1
    rw [pk_un e] at h1
    exact ⟨h1, h2, e⟩
  · rw [pk_un (by omega)]; exact h3 p h4 h5
theorem ar_FR_W {n : Nat} {hs st tk : Nat → Int32} {f : Nat} {t : Int32} (ht : ¬ t = 0) : ar_FR n hs st tk (upd st f 1) (upd tk f t) f := by
  refine ⟨fun p h1 h2 => ?_, fun h h1 h2 h3 p h4 h5 => ?_⟩
  · have e : p ≠ f := fun w => by rw [w, pk_us] at h2; exact ht h2
    rw [pk_un e] at h1 h2
    exact ⟨h1, h2, e⟩
  · rw [pk_un (by omega)]; exact h3 p h4 h5
theorem ar_FR_S {n : Nat} {hs st tk st' tk' : Nat → Int32} {f : Nat} (hh : ¬ hs f = 0) (h : ar_FR n hs (upd st f 2) tk st' tk' (f + 1)) : ar_FR n hs st tk st' tk' f := by
  refine ⟨fun p h1 h2 => ?_, fun g h1 h2 h3 p h4 h5 => ?_⟩
  · obtain ⟨a1, a2, a3⟩ := h.1 p h1 h2
    have e : p ≠ f := fun w => by rw [w, pk_us] at a1; exact ar_21 a1
    rw [pk_un e] at a1
    exact ⟨a1, a2, e⟩
  · have e : g ≠ f + 1 := fun w => hh (by rw [w, show f + 1 - 1 = f by omega] at h2; exact h2)
    exact h.2 g (by omega) h2 (fun p b1 b2 => by rw [pk_un (by omega)]; exact h3 p b1 b2) p h4 h5
theorem ar_FR_C {n : Nat} {hs st tk st' : Nat → Int32} {f : Nat} (hh : ¬ hs f = 0) (h : ar_FC hs (upd st f 2) st' (f + 1)) : ar_FR n hs st tk st' tk f := by
  refine ⟨fun p h1 h2 => ?_, fun g h1 h2 h3 p h4 h5 => ?_⟩
  · have a1 := ar_FC_1s h h1
    have e : p ≠ f := fun w => by rw [w, pk_us] at a1; exact ar_21 a1
    rw [pk_un e] at a1
    exact ⟨a1, h2, e⟩
  · have e : g ≠ f + 1 := fun w => hh (by rw [w, show f + 1 - 1 = f by omega] at h2; exact h2)
    exact ar_FC_h h (by omega) h2 (fun p b1 b2 => by rw [pk_un (by omega)]; exact h3 p b1 b2) p h4 h5
theorem ar_FR_K {n : Nat} {hs st st1 tk st' tk' : Nat → Int32} {f : Nat} (hK : ar_FK n hs st st1) (h : ar_FR n hs st1 tk st' tk' f) : ar_FR n hs st tk st' tk' f := by
  refine ⟨fun p h1 h2 => ?_, fun g h1 h2 h3 p h4 h5 => ?_⟩
  · obtain ⟨a1, a2, a3⟩ := h.1 p h1 h2
    exact ⟨ar_FK_1 hK a1, a2, a3⟩
  · exact h.2 g h1 h2 (ar_FK_h hK (fun _ => h2) h3) p h4 h5
section
variable {S C F n qF qN c o : Nat} {Lz : Int32} {xO xA xB xT op A B tg hs T R st tk bl bf : Nat → Int32}
theorem ax_post (post : St2 → Prop) {p : Nat} {res : Int32} (hp : p < 32) (hC : C ≤ 16) (hF : F < 48) (hD : c + o < 48)
    (hA : o = 0 → c < C → post (nI S, nI C, Lz, nI qF, nI qN, nI F, nI (c + 1 + o), nI (c + 1), nI n, xO, xA, xB, xT, upd T ((F + (c + o)) % 48) (tg p), upd R ((F + (c + o)) % 48) res, op, A, B, tg, upd st p 2, tk, hs, bl, bf))
    (hB : ¬ (o = 0 ∧ c < C) → post (nI S, nI C, Lz, nI qF, nI qN, nI F, nI (c + (o + 1)), nI c, nI n, xO, xA, xB, xT, upd T ((F + (c + o)) % 48) (tg p), upd R ((F + (c + o)) % 48) res, op, A, B, tg, upd st p 2, tk, hs, bl, bf)) : wpX_post post (nI S, nI C, Lz, nI qF, nI qN, nI F, nI (c + o), nI c, nI n, xO, xA, xB, xT, T, R, op, A, B, tg, st, tk, hs, bl, bf) (nI p) res := by
  have hs : (F + (c + o)) % 48 < 48 := Nat.mod_lt _ (by omega)
  refine And.intro (vp_in_nI hp (by omega)) (nm_r (ar_uc st 2 (by omega)) ⟨by decide, nm_r (ar_r48 F (c + o) (by omega)) ⟨vp_in_nI hp (by omega), vp_in_nI hs (by omega), nm_r (ar_ur T tg (by omega) (by omega)) ⟨vp_in_nI hs (by omega), nm_r (ar_uc R res (by omega)) ?_⟩⟩⟩)
  by_cases z : o = 0
  · refine br_t (by rw [z]; rfl) ?_
    by_cases y : c < C
    · exact br_f (nI_ge y (by omega)) (nm_r (nI_1 c) (nm_r (ar_n1 (by omega)) (hA z y)))
    · exact br_t (nI_le (by omega) (by omega)) (nm_r (ar_n1 (by omega)) (hB (fun w => y w.2)))
  · exact br_f (by rw [nI_eq (by omega) (by omega)]; omega) (nm_r (ar_n1 (by omega)) (hB (fun w => z w.1)))
end
/-- popped, and popped as failed -/
def am_B (Pp : Nat) (H : Nat → Nat) (V : Nat → Int32) (sn ng : Nat → Bool) : Prop := (∀ i, sn i = true ↔ ∃ t, t < Pp ∧ H t = i) ∧ (∀ i, ng i = true ↔ ∃ t, t < Pp ∧ H t = i ∧ V t < 0)
def am_P (n : Nat) (st op : Nat → Int32) : Prop := ∀ p, p < n → st p = 1 → ¬ op p = 5
def am_W (C F n E : Nat) (tg hs : Nat → Int32) (id : Nat → Nat) (pr : Nat → Bool) : Prop := C ≤ 16 ∧ n ≤ 32 ∧ F < 48 ∧ am_S n E tg hs id pr
def am_G (S C qF qN F n E Pp : Nat) (Lz : Int32) (xO xA xB xT op A B tg hs : Nat → Int32) (id : Nat → Nat) (pr sn ng : Nat → Bool) (st tk : Nat → Int32) (x : Nat) (u : St2) : Prop :=
  ∃ (c o m Pt : Nat) (e H : Nat → Nat) (V T R bl bf : Nat → Int32), u = (nI S, nI C, Lz, nI qF, nI qN, nI F, nI (c + o), nI c, nI n, xO, xA, xB, xT, T, R, op, A, B, tg, st, tk, hs, bl, bf) ∧ Pp + (c + o) = Pt ∧ am_D F (c + o) Pp T R H V ∧ am_L n m E Pt st hs e id pr H V ∧ am_N n Pt st id pr H V x ∧ am_B Pp H V sn ng ∧ am_P n st op ∧ c ≤ C ∧ m + o ≤ 32
theorem am_B_S {Pp Pt : Nat} {H : Nat → Nat} {V : Nat → Int32} {sn ng : Nat → Bool} (h : am_B Pp H V sn ng) (hP : Pp ≤ Pt) (y : Nat) (r : Int32) : am_B Pp (am_u H Pt y) (upd V Pt r) sn ng := by
  refine ⟨fun i => (h.1 i).trans ⟨?_, ?_⟩, fun i => (h.2 i).trans ⟨?_, ?_⟩⟩
  · rintro ⟨t, a, b⟩; exact ⟨t, a, by rw [am_un (by omega)]; exact b⟩
  · rintro ⟨t, a, b⟩; rw [am_un (by omega)] at b; exact ⟨t, a, b⟩
  · rintro ⟨t, a, b, c⟩; exact ⟨t, a, by rw [am_un (by omega)]; exact b, by rw [pk_un (by omega)]; exact c⟩
  · rintro ⟨t, a, b, c⟩; rw [am_un (by omega)] at b; rw [pk_un (by omega)] at c; exact ⟨t, a, b, c⟩
section
variable {S C qF qN F n E Pp : Nat} {Lz : Int32} {xO xA xB xT op A B tg hs : Nat → Int32} {id : Nat → Nat} {pr sn ng : Nat → Bool} {st tk : Nat → Int32} {u : St2}
theorem am_G_C {x : Nat} (hG : am_G S C qF qN F n E Pp Lz xO xA xB xT op A B tg hs id pr sn ng st tk x u) : ar_C n st hs := by
  obtain ⟨c, o, m, Pt, e, H, V, T, R, bl, bf, rfl, hPt, hD, hL, hNn, hB, hP, hc, hmo⟩ := hG
  exact hL.2.2.1
theorem am_G_x {x : Nat} (hG : am_G S C qF qN F n E Pp Lz xO xA xB xT op A B tg hs id pr sn ng st tk x u) (hx : pr x = false) (y : Nat) : am_G S C qF qN F n E Pp Lz xO xA xB xT op A B tg hs id pr sn ng st tk y u := by
  obtain ⟨c, o, m, Pt, e, H, V, T, R, bl, bf, rfl, hPt, hD, hL, hNn, hB, hP, hc, hmo⟩ := hG
  exact ⟨c, o, m, Pt, e, H, V, T, R, bl, bf, rfl, hPt, hD, hL, am_N_e hNn hx y, hB, hP, hc, hmo⟩
theorem am_wpost (hW : am_W C F n E tg hs id pr) {x : Nat} (hG : am_G S C qF qN F n E Pp Lz xO xA xB xT op A B tg hs id pr sn ng st tk x u) {p : Nat} (hp : p < n) (ha : ¬ st p = 2) (hH : ar_H st hs p) (r : Int32) (hx : x = E ∨ (x + 1 = id p ∧ r = -125)) (post : St2 → Prop)
    (h : ∀ u', am_G S C qF qN F n E Pp Lz xO xA xB xT op A B tg hs id pr sn ng (upd st p 2) tk (id p) u' → (¬ r < 0 → x = E → am_G S C qF qN F n E Pp Lz xO xA xB xT op A B tg hs id pr sn ng (upd st p 2) tk E u') → post u') : wpX_post post u (nI p) r := by
  obtain ⟨hC, hn, hF, hS⟩ := hW
  obtain ⟨c, o, m, Pt, e, H, V, T, R, bl, bf, rfl, hPt, hD, hL, hNn, hB, hP, hc, hmo⟩ := hG
  obtain ⟨i, hi, rfl⟩ := hL.1.2.2 p hp ha
  have hmn := ar_E_le hL.1
  have hr : ∀ t, t < Pt → H t + 1 = id (e i) → pr (H t) = true → V t < 0 → r = -125 := by
    intro t a b c d
    rcases hx with hx | hx
    · have h1 := hL.2.2.2.1 t a
      exact absurd b.symm (hNn t a d c (by omega) (e i) hp ha)
    · exact hx.2
  have hx' : x = E ∨ x + 1 = id (e i) := by
    rcases hx with hx | hx
    · exact Or.inl hx
    · exact Or.inr hx.1
  have hL' := am_post hS hL hi hH r hr
  have hN1 := am_N_p hS hp hNn hx' hL.2.2.2.1 r
  have hB' := am_B_S hB (show Pp ≤ Pt by omega) (id (e i)) r
  have hD' := am_D_S hD (by omega) (id (e i)) r
  rw [hPt] at hD'
  have hP' : am_P n (upd st (e i) 2) op := by
    intro p a b
    by_cases z : p = e i
    · rw [z, pk_us] at b; exact absurd b ar_21
    · rw [pk_un z] at b; exact hP p a b
  have htg : tg (e i) = nI (1000 + id (e i)) := (hS.1 (e i) hp).1
  refine ax_post post (by omega) hC hF (by omega) (fun ho hcC => ?_) (fun hno => ?_)
  · subst ho
    rw [htg]
    exact h _ ⟨c + 1, 0, m - 1, Pt + 1, _, _, _, _, _, bl, bf, rfl, by omega, hD', hL', hN1, hB', hP', by omega, by omega⟩ (fun a b => ⟨c + 1, 0, m - 1, Pt + 1, _, _, _, _, _, bl, bf, rfl, by omega, hD', hL', am_N_0 (by rw [← b]; exact hNn) a, hB', hP', by omega, by omega⟩)
  · rw [htg]
    exact h _ ⟨c, o + 1, m - 1, Pt + 1, _, _, _, _, _, bl, bf, rfl, by omega, hD', hL', hN1, hB', hP', hc, by omega⟩ (fun a b => ⟨c, o + 1, m - 1, Pt + 1, _, _, _, _, _, bl, bf, rfl, by omega, hD', hL', am_N_0 (by rw [← b]; exact hNn) a, hB', hP', hc, by omega⟩)
end
end
section
def ar_blk (a : Int32) : Prop := ¬ a < 0 ∧ a < 16
def ar_buf (b : Int32) : Prop := ¬ b < 0 ∧ b < 8
/-- a request that waits: valid, and of a kind that waits -/
def ar_ok (o a b : Int32) : Prop := ((o = 1 ∨ o = 2) ∧ ar_blk a ∧ ar_buf b) ∨ (o = 3 ∧ ar_blk a) ∨ (o = 4 ∧ ¬ a < 1 ∧ ¬ 16 < a)
/-- the arguments are valid -/
def ar_vd (o a b : Int32) : Prop := ar_ok o a b ∨ o = 0 ∨ o = 5
theorem ar_nl {a b : Int32} (h : ¬ b ≤ a) : a < b := Int32.not_le.mp h
theorem ar_ln {a b : Int32} (h : b ≤ a) : ¬ a < b := Int32.not_lt.mpr h
theorem ar_ok_k {o a b : Int32} (h : ar_ok o a b) : o = 1 ∨ o = 2 ∨ o = 3 ∨ o = 4 := by
  rcases h with ⟨h | h, _⟩ | ⟨h, _⟩ | ⟨h, _⟩
  · exact Or.inl h
  · exact Or.inr (Or.inl h)
  · exact Or.inr (Or.inr (Or.inl h))
  · exact Or.inr (Or.inr (Or.inr h))
theorem ar_vd_k {o a b : Int32} (h : ar_vd o a b) : ¬ o < 0 ∧ ¬ 5 < o := by
  rcases h with h | h | h
  · rcases ar_ok_k h with h | h | h | h <;> subst h <;> decide
  · subst h; decide
  · subst h; decide
theorem ar_ok_1 {o a b : Int32} (h : ar_ok o a b) (e : o = 1 ∨ o = 2) : ar_blk a ∧ ar_buf b := by
  rcases h with ⟨_, h⟩ | ⟨h, _⟩ | ⟨h, _⟩
  · exact h
  · subst h; exact absurd e (by decide)
  · subst h; exact absurd e (by decide)
theorem ar_ok_3 {o a b : Int32} (h : ar_ok o a b) (e : o = 3) : ar_blk a := by
  rcases h with ⟨h, h2, _⟩ | ⟨_, h⟩ | ⟨h, _⟩
  · exact h2
  · exact h
  · subst h; exact absurd e (by decide)
theorem ar_ok_4 {o a b : Int32} (h : ar_ok o a b) (e : o = 4) : ¬ a < 1 ∧ ¬ 16 < a := by
  rcases h with ⟨h | h, _⟩ | ⟨h, _⟩ | ⟨_, h⟩
  · subst h; exact absurd e (by decide)
  · subst h; exact absurd e (by decide)
  · subst h; exact absurd e (by decide)
  · exact h
theorem ar_blk_in {a : Int32} (h : ar_blk a) : vp_in a 16 := by
  obtain ⟨j, hj, rfl⟩ := nI_of h.1
  exact vp_in_nI ((nI_ltI (b := 16) hj (by decide)).mp h.2) (by decide)
theorem ar_buf_in {a : Int32} (h : ar_buf a) : vp_in a 8 := by
  obtain ⟨j, hj, rfl⟩ := nI_of h.1
  exact vp_in_nI ((nI_ltI (b := 8) hj (by decide)).mp h.2) (by decide)
theorem ax_blk (post : Int32 → Prop) (x : Int32) (h1 : ar_blk x → post 1) (h0 : ¬ ar_blk x → post 0) : wpX_isBlock post () x :=
  br_c (fun h => h0 (fun w => w.1 h)) (fun h => br_c (fun h2 => h0 (fun w => ar_ln h2 w.2)) (fun h2 => h1 ⟨h, ar_nl h2⟩))
theorem ax_buf (post : Int32 → Prop) (x : Int32) (h1 : ar_buf x → post 1) (h0 : ¬ ar_buf x → post 0) : wpX_isBuffer post () x :=
  br_c (fun h => h0 (fun w => w.1 h)) (fun h => br_c (fun h2 => h0 (fun w => ar_ln h2 w.2)) (fun h2 => h1 ⟨h, ar_nl h2⟩))
section
variable {S C F n qF qN c o : Nat} {Lz : Int32} {xO xA xB xT op A B tg hs T R st tk bl bf : Nat → Int32}
theorem ax_va54 (post : Int32 → Prop) {p : Nat} (hp : p < 32) (h1 : ar_blk (A p) ∧ ar_buf (B p) → post 1) (h0 : ¬ (ar_blk (A p) ∧ ar_buf (B p)) → post 0) : wX_hasValidArguments_54 post (nI p) (A p) (nI S) (nI C) Lz (nI qF) (nI qN) (nI F) (nI (c + o)) (nI c) (nI n) xO xA xB xT T R op A B tg st tk hs bl bf := by
  unfold wX_hasValidArguments_54
  refine ax_blk _ _ (fun h => br_f (by decide) ⟨vp_in_nI hp (by omega), ?_⟩) (fun h => br_t rfl (h0 (fun w => h w.1)))
  rw [nI_clamp (by omega)]
  exact ax_buf _ _ (fun h2 => br_f (by decide) (h1 ⟨h, h2⟩)) (fun h2 => br_t rfl (h0 (fun w => h2 w.2)))
theorem ax_va (post : Int32 → Prop) {p : Nat} (hp : p < 32) (h1 : ar_vd (op p) (A p) (B p) → post 1) (h0 : ¬ ar_vd (op p) (A p) (B p) → post 0) : wpX_hasValidArguments post (nI S, nI C, Lz, nI qF, nI qN, nI F, nI (c + o), nI c, nI n, xO, xA, xB, xT, T, R, op, A, B, tg, st, tk, hs, bl, bf) (nI p) := by
  refine And.intro (vp_in_nI hp (by omega)) (nm_r (e' := A p) (by rw [nI_clamp (by omega)]) ⟨vp_in_nI hp (by omega), nm_r (e' := op p) (by rw [nI_clamp (by omega)]) ?_⟩)
  refine br_c (fun h => h0 (fun w => (ar_vd_k w).1 h)) (fun _ => br_c (fun h => h0 (fun w => (ar_vd_k w).2 h)) (fun _ => br_c (fun h => h1 (Or.inr (Or.inl h))) (fun n0 => ?_)))
  refine br_c (fun h => ax_va54 _ hp (fun w => h1 (Or.inl (Or.inl ⟨Or.inl h, w⟩))) (fun w => h0 (fun y => ?_))) (fun n1 => ?_)
  · rcases y with y | y | y
    · exact w (ar_ok_1 y (Or.inl h))
    · exact n0 y
    · rw [h] at y; exact absurd y (by decide)
  refine br_c (fun h => ax_va54 _ hp (fun w => h1 (Or.inl (Or.inl ⟨Or.inr h, w⟩))) (fun w => h0 (fun y => ?_))) (fun n2 => ?_)
  · rcases y with y | y | y
    · exact w (ar_ok_1 y (Or.inr h))
    · exact n0 y
    · rw [h] at y; exact absurd y (by decide)
  refine br_c (fun h => ax_blk _ _ (fun w => ⟨rfl, h1 (Or.inl (Or.inr (Or.inl ⟨h, w⟩)))⟩) (fun w => ⟨rfl, h0 (fun y => ?_)⟩)) (fun n3 => ?_)
  · rcases y with y | y | y
    · exact w (ar_ok_3 y h)
    · exact n0 y
    · rw [h] at y; exact absurd y (by decide)
  refine br_c (fun h => br_c (fun w => h0 (fun y => ?_)) (fun w => br_c (fun z => h0 (fun y => ?_)) (fun z => h1 (Or.inl (Or.inr (Or.inr ⟨h, w, z⟩)))))) (fun n4 => br_c (fun h => h1 (Or.inr (Or.inr h))) (fun _ => trivial))
  · rcases y with y | y | y
    · exact (ar_ok_4 y h).1 w
    · exact n0 y
    · rw [h] at y; exact absurd y (by decide)
  · rcases y with y | y | y
    · exact (ar_ok_4 y h).2 z
    · exact n0 y
    · rw [h] at y; exact absurd y (by decide)
theorem ax_tw (post : Int32 → Prop) {p : Nat} (hp : p < 32) (h0 : ¬ ar_ok (op p) (A p) (B p) → post 0) (h1 : ar_ok (op p) (A p) (B p) → ¬ op p = 4 → post Lz) (h4 : ar_ok (op p) (A p) (B p) → op p = 4 → post (A p)) : wpX_ticksToWait post (nI S, nI C, Lz, nI qF, nI qN, nI F, nI (c + o), nI c, nI n, xO, xA, xB, xT, T, R, op, A, B, tg, st, tk, hs, bl, bf) (nI p) := by
  unfold wpX_ticksToWait
  refine ax_va _ hp (fun hv => br_f (by decide) ⟨vp_in_nI hp (by omega), nm_r (e' := op p) (by rw [nI_clamp (by omega)]) ?_⟩) (fun hv => br_t rfl (h0 (fun w => hv (Or.inl w))))
  have hk : ¬ op p = 0 → ¬ op p = 5 → ar_ok (op p) (A p) (B p) := fun a b => by
    rcases hv with h | h | h
    · exact h
    · exact absurd h a
    · exact absurd h b
  refine br_c (fun h => h0 (fun w => ?_)) (fun g1 => br_c (fun h => h0 (fun w => ?_)) (fun g4 => ?_))
  · rcases ar_ok_k w with y | y | y | y <;> rw [y] at h <;> exact absurd h (by decide)
  · rcases ar_ok_k w with y | y | y | y <;> rw [y] at h <;> exact absurd h (by decide)
  · have n0 : ¬ op p = 0 := fun y => by rw [y] at g1; exact absurd g1 (by decide)
    have n5 : ¬ op p = 5 := fun y => by rw [y] at g4; exact absurd g4 (by decide)
    refine br_c (fun h => h1 (hk n0 n5) (by rw [h]; decide)) (fun _ => br_c (fun h => h1 (hk n0 n5) (by rw [h]; decide)) (fun _ => br_c (fun h => h1 (hk n0 n5) (by rw [h]; decide)) (fun _ => br_c (fun h => ⟨vp_in_nI hp (by omega), ?_⟩) (fun _ => trivial))))
    rw [nI_clamp (by omega)]
    exact h4 (hk n0 n5) h
theorem ax_exec (post : Int32 → St2 → Prop) {p : Nat} (hp : p < 32) (hi : ¬ ar_vd (op p) (A p) (B p) → post (-22) (nI S, nI C, Lz, nI qF, nI qN, nI F, nI (c + o), nI c, nI n, xO, xA, xB, xT, T, R, op, A, B, tg, st, tk, hs, bl, bf)) (h0 : op p = 0 → post 0 (nI S, nI C, Lz, nI qF, nI qN, nI F, nI (c + o), nI c, nI n, xO, xA, xB, xT, T, R, op, A, B, tg, st, tk, hs, bl, bf))
    (h1 : op p = 1 → ar_ok (op p) (A p) (B p) → post 0 (nI S, nI C, Lz, nI qF, nI qN, nI F, nI (c + o), nI c, nI n, xO, xA, xB, xT, T, R, op, A, B, tg, st, tk, hs, bl, upd bf (B p).toNatClampNeg (bl (A p).toNatClampNeg)))
    (h2 : op p = 2 → ar_ok (op p) (A p) (B p) → post 0 (nI S, nI C, Lz, nI qF, nI qN, nI F, nI (c + o), nI c, nI n, xO, xA, xB, xT, T, R, op, A, B, tg, st, tk, hs, upd bl (A p).toNatClampNeg (bf (B p).toNatClampNeg), bf))
    (h3 : op p = 3 → ar_ok (op p) (A p) (B p) → (bl (A p).toNatClampNeg = B p → post 0 (nI S, nI C, Lz, nI qF, nI qN, nI F, nI (c + o), nI c, nI n, xO, xA, xB, xT, T, R, op, A, B, tg, st, tk, hs, bl, bf)) ∧ (¬ bl (A p).toNatClampNeg = B p → post (-74) (nI S, nI C, Lz, nI qF, nI qN, nI F, nI (c + o), nI c, nI n, xO, xA, xB, xT, T, R, op, A, B, tg, st, tk, hs, bl, bf)))
    (h4 : op p = 4 → ar_ok (op p) (A p) (B p) → post 0 (nI S, nI C, Lz, nI qF, nI qN, nI F, nI (c + o), nI c, nI n, xO, xA, xB, xT, T, R, op, A, B, tg, st, tk, hs, bl, bf))
    (h5 : op p = 5 → ∀ P : Int32 → St2 → Prop, (∀ r u', post r u' → P r u') → wpX_cancelPending P (nI S, nI C, Lz, nI qF, nI qN, nI F, nI (c + o), nI c, nI n, xO, xA, xB, xT, T, R, op, A, B, tg, st, tk, hs, bl, bf) (A p)) : wpX_execute post (nI S, nI C, Lz, nI qF, nI qN, nI F, nI (c + o), nI c, nI n, xO, xA, xB, xT, T, R, op, A, B, tg, st, tk, hs, bl, bf) (nI p) := by
  unfold wpX_execute
  refine ax_va _ hp (fun hv => br_f (by decide) ⟨vp_in_nI hp (by omega), nm_r (e' := A p) (by rw [nI_clamp (by omega)]) ⟨vp_in_nI hp (by omega), nm_r (e' := B p) (by rw [nI_clamp (by omega)]) ⟨vp_in_nI hp (by omega), nm_r (e' := op p) (by rw [nI_clamp (by omega)]) ?_⟩⟩⟩) (fun hv => br_t rfl (hi hv))
  have hk : ¬ op p = 0 → ¬ op p = 5 → ar_ok (op p) (A p) (B p) := fun a b => by
    rcases hv with h | h | h
    · exact h
    · exact absurd h a
    · exact absurd h b
  have h6 : ¬ op p < 0 ∧ ¬ 5 < op p := ar_vd_k hv
  refine br_c (fun h => h0 ?_) (fun g1 => br_f h6.2 ?_)
  · rcases hv with w | w | w
    · rcases ar_ok_k w with y | y | y | y <;> rw [y] at h <;> exact absurd h (by decide)
    · exact w
    · rw [w] at h; exact absurd h (by decide)
  · have n0 : ¬ op p = 0 := fun y => by rw [y] at g1; exact absurd g1 (by decide)
    refine br_c (fun h => ?_) (fun n1 => br_c (fun h => ?_) (fun n2 => br_c (fun h => ?_) (fun n3 => br_c (fun h => ?_) (fun n4 => br_c (fun h => ?_) (fun _ => trivial)))))
    · have hk' := hk n0 (by rw [h]; decide)
      have hb := ar_ok_1 hk' (Or.inl h)
      exact ⟨ar_blk_in hb.1, ar_buf_in hb.2, nm_e (h1 h hk')⟩
    · have hk' := hk n0 (by rw [h]; decide)
      have hb := ar_ok_1 hk' (Or.inr h)
      exact ⟨ar_buf_in hb.2, ar_blk_in hb.1, nm_e (h2 h hk')⟩
    · have hk' := hk n0 (by rw [h]; decide)
      have hb := ar_ok_3 hk' h
      exact ⟨ar_blk_in hb, h3 h hk'⟩
    · exact h4 h (hk n0 (by rw [h]; decide))
    · exact h5 h _ (fun r u' hpost => by
        obtain ⟨w0, w1, w2, w3, w4, w5, w6, w7, w8, w9, w10, w11, w12, w13, w14, w15, w16, w17, w18, w19, w20, w21, w22, w23⟩ := u'
        exact hpost)
end
end
section
def lx_pcc (post : St2 → Prop) (k : Nat) (x : Int32) (u : St2) : Prop := match u with
  | (f_sqCapacity, f_cqCapacity, f_latency, f_sqFirst, f_sqCount, f_doneFirst, f_doneCount, f_cqCount, f_reqCount, a_sqOpFlags, a_sqA, a_sqB, a_sqTag, a_doneTag, a_doneResult, a_reqOpcode, a_reqA, a_reqB, a_reqTag, a_reqState, a_reqTicks, a_reqHasSuccessor, a_blocks, a_buffers) => wX_postCanceledChain_2 post k x f_sqCapacity f_cqCapacity f_latency f_sqFirst f_sqCount f_doneFirst f_doneCount f_cqCount f_reqCount a_sqOpFlags a_sqA a_sqB a_sqTag a_doneTag a_doneResult a_reqOpcode a_reqA a_reqB a_reqTag a_reqState a_reqTicks a_reqHasSuccessor a_blocks a_buffers
theorem lx_pcc_w (post : St2 → Prop) (k : Nat) (x : Int32) : ∀ u : St2, lx_pcc post k x u → wpX_postCanceledChain post u x
  | (f_sqCapacity, f_cqCapacity, f_latency, f_sqFirst, f_sqCount, f_doneFirst, f_doneCount, f_cqCount, f_reqCount, a_sqOpFlags, a_sqA, a_sqB, a_sqTag, a_doneTag, a_doneResult, a_reqOpcode, a_reqA, a_reqB, a_reqTag, a_reqState, a_reqTicks, a_reqHasSuccessor, a_blocks, a_buffers), h => ⟨k, h⟩
def lx_cp (post : Int32 → St2 → Prop) (a : Int32) (k : Nat) (x y : Int32) (u : St2) : Prop := match u with
  | (f_sqCapacity, f_cqCapacity, f_latency, f_sqFirst, f_sqCount, f_doneFirst, f_doneCount, f_cqCount, f_reqCount, a_sqOpFlags, a_sqA, a_sqB, a_sqTag, a_doneTag, a_doneResult, a_reqOpcode, a_reqA, a_reqB, a_reqTag, a_reqState, a_reqTicks, a_reqHasSuccessor, a_blocks, a_buffers) => wX_cancelPending_4 post a k x y f_sqCapacity f_cqCapacity f_latency f_sqFirst f_sqCount f_doneFirst f_doneCount f_cqCount f_reqCount a_sqOpFlags a_sqA a_sqB a_sqTag a_doneTag a_doneResult a_reqOpcode a_reqA a_reqB a_reqTag a_reqState a_reqTicks a_reqHasSuccessor a_blocks a_buffers
theorem lx_cp_w (post : Int32 → St2 → Prop) (a : Int32) (k : Nat) : ∀ u : St2, lx_cp post a k 0 0 u → wpX_cancelPending post u a
  | (f_sqCapacity, f_cqCapacity, f_latency, f_sqFirst, f_sqCount, f_doneFirst, f_doneCount, f_cqCount, f_reqCount, a_sqOpFlags, a_sqA, a_sqB, a_sqTag, a_doneTag, a_doneResult, a_reqOpcode, a_reqA, a_reqB, a_reqTag, a_reqState, a_reqTicks, a_reqHasSuccessor, a_blocks, a_buffers), h => ⟨k, h⟩
def lx_rc (post : St2 → Prop) (k : Nat) (x : Int32) (u : St2) : Prop := match u with
  | (f_sqCapacity, f_cqCapacity, f_latency, f_sqFirst, f_sqCount, f_doneFirst, f_doneCount, f_cqCount, f_reqCount, a_sqOpFlags, a_sqA, a_sqB, a_sqTag, a_doneTag, a_doneResult, a_reqOpcode, a_reqA, a_reqB, a_reqTag, a_reqState, a_reqTicks, a_reqHasSuccessor, a_blocks, a_buffers) => wX_runChain_2 post k x f_sqCapacity f_cqCapacity f_latency f_sqFirst f_sqCount f_doneFirst f_doneCount f_cqCount f_reqCount a_sqOpFlags a_sqA a_sqB a_sqTag a_doneTag a_doneResult a_reqOpcode a_reqA a_reqB a_reqTag a_reqState a_reqTicks a_reqHasSuccessor a_blocks a_buffers
theorem lx_rc_w (post : St2 → Prop) (k : Nat) (x : Int32) : ∀ u : St2, lx_rc post k x u → wpX_runChain post u x
  | (f_sqCapacity, f_cqCapacity, f_latency, f_sqFirst, f_sqCount, f_doneFirst, f_doneCount, f_cqCount, f_reqCount, a_sqOpFlags, a_sqA, a_sqB, a_sqTag, a_doneTag, a_doneResult, a_reqOpcode, a_reqA, a_reqB, a_reqTag, a_reqState, a_reqTicks, a_reqHasSuccessor, a_blocks, a_buffers), h => ⟨k, h⟩
def lx_28 (post : St2 → Prop) (k : Nat) (x z : Int32) (u : St2) : Prop := match u with
  | (f_sqCapacity, f_cqCapacity, f_latency, f_sqFirst, f_sqCount, f_doneFirst, f_doneCount, f_cqCount, f_reqCount, a_sqOpFlags, a_sqA, a_sqB, a_sqTag, a_doneTag, a_doneResult, a_reqOpcode, a_reqA, a_reqB, a_reqTag, a_reqState, a_reqTicks, a_reqHasSuccessor, a_blocks, a_buffers) => wX_runChain_28 post (wX_runChain_2 post k) x z f_sqCapacity f_cqCapacity f_latency f_sqFirst f_sqCount f_doneFirst f_doneCount f_cqCount f_reqCount a_sqOpFlags a_sqA a_sqB a_sqTag a_doneTag a_doneResult a_reqOpcode a_reqA a_reqB a_reqTag a_reqState a_reqTicks a_reqHasSuccessor a_blocks a_buffers
section
variable {S C qF qN F n E Pp : Nat} {Lz : Int32} {xO xA xB xT op A B tg hs : Nat → Int32} {id : Nat → Nat} {pr sn ng : Nat → Bool} {st tk : Nat → Int32} {u : St2}
theorem am_chain (hW : am_W C F n E tg hs id pr) (post : St2 → Prop) : ∀ d f (st : Nat → Int32) (x : Nat) (u : St2), f + d = n → 0 < d → am_G S C qF qN F n E Pp Lz xO xA xB xT op A B tg hs id pr sn ng st tk x u → (x = E ∨ x + 1 = id f) → ¬ st f = 2 → ar_H st hs f →
    (∀ u' st', am_G S C qF qN F n E Pp Lz xO xA xB xT op A B tg hs id pr sn ng st' tk E u' → ar_FC hs st st' f → post u') → ∀ k, d < k → lx_pcc post k (nI f) u := by
  have hW' := hW
  obtain ⟨hC, hn, hF, hS⟩ := hW'
  intro d
  induction d with
  | zero => intro f st x u _ h0; exact absurd h0 (by omega)
  | succ d ih =>
    intro f st x u hf _ hG hx ha hH hp k hk
    obtain ⟨k', rfl⟩ : ∃ k', k = k' + 1 := ⟨k - 1, by omega⟩
    have hx2 : x = E ∨ (x + 1 = id f ∧ (-125 : Int32) = -125) := by
      rcases hx with z | z
      · exact Or.inl z
      · exact Or.inr ⟨z, rfl⟩
    have hCh := am_G_C hG
    have hw := fun post => am_wpost hW hG (show f < n by omega) ha hH (-125) hx2 post
    have hpr : hs f = 0 → pr (id f) = false := fun z => by
      by_cases y : pr (id f) = true
      · exact absurd z ((hS.2.2.1 f (by omega)).mpr y)
      · exact Bool.eq_false_iff.mpr y
    obtain ⟨c, o, m, Pt, e, H, V, T, R, bl, bf, rfl, hPt, hD, hL, hNn, hB, hP, hc, hmo⟩ := hG
    refine br_f (nI_ge (by omega) (by omega)) (hw _ (fun u1 hG1 _ => ?_))
    have hG1' := hG1
    obtain ⟨c1, o1, m1, Pt1, e1, H1, V1, T1, R1, bl1, bf1, rfl, hPt1, hD1, hL1, hNn1, hB1, hP1, hc1, hmo1⟩ := hG1
    refine And.intro (vp_in_nI (by omega) (by omega)) ?_
    by_cases hh : hs f = 0
    · exact br_t (by rw [nI_clamp (by omega)]; exact hh) (hp _ _ (am_G_x hG1' (hpr hh) E) ar_FC_1)
    · obtain ⟨g1, g2⟩ := hCh f (by omega) ha hh
      obtain ⟨g3, g4⟩ := hS.2.2.2 f (by omega) hh
      refine br_f (by rw [nI_clamp (by omega)]; exact hh) (nm_r (nI_1 f) (ih (f + 1) _ _ _ (by omega) (by omega) hG1' (Or.inr g4.symm) (by rw [pk_un (by omega), g2]; exact ar_02) (fun r hr => Or.inl (by rw [show r = f by omega]; exact pk_us)) (fun u' st' a b => hp u' st' a (ar_FC_S hh g2 b)) k' (by omega)))
theorem am_cancel (hW : am_W C F n E tg hs id pr) (a : Int32) (post : Int32 → St2 → Prop) : ∀ d f (st : Nat → Int32) (x : Int32) (u : St2), f + d = n → am_G S C qF qN F n E Pp Lz xO xA xB xT op A B tg hs id pr sn ng st tk E u →
    (∀ r u' st', am_G S C qF qN F n E Pp Lz xO xA xB xT op A B tg hs id pr sn ng st' tk E u' → ar_FK n hs st st' → post r u') → ∀ k, d < k → lx_cp post a k x (nI f) u := by
  have hW' := hW
  obtain ⟨hC, hn, hF, hS⟩ := hW'
  intro d
  induction d with
  | zero =>
    intro f st x u hf hG hp k hk
    obtain ⟨k', rfl⟩ : ∃ k', k = k' + 1 := ⟨k - 1, by omega⟩
    have h1 := fun r => hp r u st hG ar_FK_0
    obtain ⟨c, o, m, Pt, e, H, V, T, R, bl, bf, rfl, hPt, hD, hL, hNn, hB, hP, hc, hmo⟩ := hG
    exact br_t (nI_le (by omega) (by omega)) (br_c (fun _ => h1 _) (fun _ => h1 _))
  | succ d ih =>
    intro f st x u hf hG hp k hk
    obtain ⟨k', rfl⟩ : ∃ k', k = k' + 1 := ⟨k - 1, by omega⟩
    have hCh := am_G_C hG
    have hnext : ∀ y : Int32, lx_cp post a k' y (nI (f + 1)) u := fun y => ih (f + 1) st y u (by omega) hG hp k' (by omega)
    have hG' := hG
    obtain ⟨c, o, m, Pt, e, H, V, T, R, bl, bf, rfl, hPt, hD, hL, hNn, hB, hP, hc, hmo⟩ := hG
    refine br_f (nI_ge (by omega) (by omega)) ⟨vp_in_nI (by omega) (by omega), ?_⟩
    by_cases z : st f = 1
    · refine br_t (by rw [nI_clamp (by omega)]; exact z) ⟨vp_in_nI (by omega) (by omega), ?_⟩
      by_cases y : tg f = a
      · refine br_t (by rw [nI_clamp (by omega)]; exact y) (lx_pcc_w _ (n - f + 1) _ _ (am_chain hW _ (n - f) f st E _ (by omega) (by omega) hG' (Or.inl rfl) (by rw [z]; exact ar_12) (ar_H_pend hCh (by omega) z) (fun u' st' g1 g2 => ?_) _ (by omega)))
        have h3 := ih (f + 1) st' (x + 1) u' (by omega) g1 (fun r u2 st2 a1 a2 => hp r u2 st2 a1 (ar_FK_S (by omega) z g2 a2)) k' (by omega)
        obtain ⟨c1, o1, m1, Pt1, e1, H1, V1, T1, R1, bl1, bf1, rfl, hPt1, hD1, hL1, hNn1, hB1, hP1, hc1, hmo1⟩ := g1
        exact nm_e (nm_r (nI_1 f) h3)
      · exact br_f (by rw [nI_clamp (by omega)]; exact y) (nm_r (nI_1 f) (hnext x))
    · exact br_f (by rw [nI_clamp (by omega)]; exact z) (nm_r (nI_1 f) (hnext x))
theorem am_exec (hW : am_W C F n E tg hs id pr) (post : Int32 → St2 → Prop) {p : Nat} (hp : p < n) (hG : am_G S C qF qN F n E Pp Lz xO xA xB xT op A B tg hs id pr sn ng st tk E u)
    (h : ∀ r u' st', am_G S C qF qN F n E Pp Lz xO xA xB xT op A B tg hs id pr sn ng st' tk E u' → ar_FK n hs st st' → (¬ op p = 5 → st' = st) → post r u') : wpX_execute post u (nI p) := by
  have hW' := hW
  obtain ⟨hC, hn, hF, hS⟩ := hW'
  have hcan : op p = 5 → ∀ P : Int32 → St2 → Prop, (∀ r u', post r u' → P r u') → wpX_cancelPending P u (A p) := fun h5 P hP => lx_cp_w P (A p) (n + 1) u (am_cancel hW (A p) P n 0 st 0 u (by omega) hG (fun r u' st' a b => hP r u' (h r u' st' a b (fun w => absurd h5 w))) (n + 1) (by omega))
  obtain ⟨c, o, m, Pt, e, H, V, T, R, bl, bf, rfl, hPt, hD, hL, hNn, hB, hP, hc, hmo⟩ := hG
  have hdev : ∀ r (bl' bf' : Nat → Int32), post r (nI S, nI C, Lz, nI qF, nI qN, nI F, nI (c + o), nI c, nI n, xO, xA, xB, xT, T, R, op, A, B, tg, st, tk, hs, bl', bf') := fun r bl' bf' => h r _ st ⟨c, o, m, Pt, e, H, V, T, R, bl', bf', rfl, hPt, hD, hL, hNn, hB, hP, hc, hmo⟩ ar_FK_0 (fun _ => rfl)
  exact ax_exec post (by omega) (fun _ => hdev _ _ _) (fun _ => hdev _ _ _) (fun _ _ => hdev _ _ _) (fun _ _ => hdev _ _ _) (fun _ _ => ⟨fun _ => hdev _ _ _, fun _ => hdev _ _ _⟩) (fun _ _ => hdev _ _ _) hcan
theorem am_run (hW : am_W C F n E tg hs id pr) (post : St2 → Prop) : ∀ d f (st tk : Nat → Int32) (u : St2), f + d = n → 0 < d → am_G S C qF qN F n E Pp Lz xO xA xB xT op A B tg hs id pr sn ng st tk E u → (st f = 0 ∨ st f = 1) → ar_H st hs f →
    (∀ u' st' tk', am_G S C qF qN F n E Pp Lz xO xA xB xT op A B tg hs id pr sn ng st' tk' E u' → ar_FR n hs st tk st' tk' f → post u') → ∀ k, d < k → lx_rc post k (nI f) u := by
  have hW' := hW
  obtain ⟨hC, hn, hF, hS⟩ := hW'
  intro d
  induction d with
  | zero => intro f st tk u _ h0; exact absurd h0 (by omega)
  | succ d ih =>
    intro f st tk u hf _ hG ha hH hp k hk
    obtain ⟨k', rfl⟩ : ∃ k', k = k' + 1 := ⟨k - 1, by omega⟩
    have hCh := am_G_C hG
    have hG' := hG
    obtain ⟨c, o, m, Pt, e, H, V, T, R, bl, bf, rfl, hPt, hD, hL, hNn, hB, hP, hc, hmo⟩ := hG
    have hpr : hs f = 0 → pr (id f) = false := fun z => by
      by_cases y : pr (id f) = true
      · exact absurd z ((hS.2.2.1 f (by omega)).mpr y)
      · exact Bool.eq_false_iff.mpr y
    have h28 : ∀ t : Int32, (¬ t ≤ 0 → st f = 0 ∧ ¬ op f = 5) → wX_runChain_28 post (wX_runChain_2 post k') (nI f) t (nI S) (nI C) Lz (nI qF) (nI qN) (nI F) (nI (c + o)) (nI c) (nI n) xO xA xB xT T R op A B tg st tk hs bl bf := by
      intro t ht
      refine br_c (fun _ => am_exec hW _ (show f < n by omega) hG' (fun r u1 st1 hG1 hF1 hst1 => ?_)) (fun gt => ?_)
      · have ha1 : st1 f = 0 ∨ st1 f = 1 := by
          rcases ha with z | z
          · exact Or.inl (ar_FK_c hCh hF1 z hH)
          · rw [hst1 (hP f (by omega) z)]; exact Or.inr z
        have hal1 : ¬ st1 f = 2 := by
          rcases ha1 with z | z <;> rw [z]
          · exact ar_02
          · exact ar_12
        have hH1 := ar_FK_H hF1 hH
        have hCh1 := am_G_C hG1
        have hw := fun post => am_wpost hW hG1 (show f < n by omega) hal1 hH1 r (Or.inl rfl) post
        obtain ⟨c1, o1, m1, Pt1, e1, H1, V1, T1, R1, bl1, bf1, rfl, hPt1, hD1, hL1, hNn1, hB1, hP1, hc1, hmo1⟩ := hG1
        refine hw _ (fun u2 hG2 hG2E => ?_)
        have hG2' := hG2
        obtain ⟨c2, o2, m2, Pt2, e2, H2, V2, T2, R2, bl2, bf2, rfl, hPt2, hD2, hL2, hNn2, hB2, hP2, hc2, hmo2⟩ := hG2
        refine And.intro (vp_in_nI (by omega) (by omega)) ?_
        by_cases hh : hs f = 0
        · exact br_t (by rw [nI_clamp (by omega)]; exact hh) (hp _ _ _ (am_G_x hG2' (hpr hh) E) (ar_FR_K hF1 ar_FR_1))
        · obtain ⟨g1, g2⟩ := hCh1 f (by omega) hal1 hh
          obtain ⟨g3, g4⟩ := hS.2.2.2 f (by omega) hh
          have hst2 : upd st1 f 2 (f + 1) = 0 := by rw [pk_un (by omega)]; exact g2
          have hH2 : ar_H (upd st1 f 2) hs (f + 1) := fun r hr => Or.inl (by rw [show r = f by omega]; exact pk_us)
          refine br_f (by rw [nI_clamp (by omega)]; exact hh) (br_c (fun hr => ?_) (fun hr => ?_))
          · have h3 := ih (f + 1) (upd st1 f 2) tk _ (by omega) (by omega) (hG2E (Int32.not_lt.mpr hr) rfl) (Or.inl hst2) hH2 (fun u3 st3 tk3 a1 a2 => hp u3 st3 tk3 a1 (ar_FR_K hF1 (ar_FR_S hh a2))) k' (by omega)
            exact nm_r (nI_1 f) h3
          · rw [nI_1 f]
            refine lx_pcc_w _ (n - (f + 1) + 1) _ _ (am_chain hW _ (n - (f + 1)) (f + 1) (upd st1 f 2) (id f) _ (by omega) (by omega) hG2' (Or.inr g4.symm) (by rw [hst2]; exact ar_02) hH2 (fun u3 st3 a1 a2 => ?_) _ (by omega))
            have h5 := hp u3 st3 tk a1 (ar_FR_K hF1 (ar_FR_C hh a2))
            obtain ⟨c3, o3, m3, Pt3, e3, H3, V3, T3, R3, bl3, bf3, rfl, hPt3, hD3, hL3, hNn3, hB3, hP3, hc3, hmo3⟩ := a1
            exact h5
      · obtain ⟨z, y⟩ := ht gt
        have hG1 : am_G S C qF qN F n E Pp Lz xO xA xB xT op A B tg hs id pr sn ng (upd st f 1) (upd tk f t) E (nI S, nI C, Lz, nI qF, nI qN, nI F, nI (c + o), nI c, nI n, xO, xA, xB, xT, T, R, op, A, B, tg, upd st f 1, upd tk f t, hs, bl, bf) := by
          refine ⟨c, o, m, Pt, e, H, V, T, R, bl, bf, rfl, hPt, hD, am_L_pend hL (by rw [z]; exact ar_02) hH, am_N_st hNn (fun p _ w => ?_), hB, fun p a b => ?_, hc, hmo⟩
          · by_cases ep : p = f
            · rw [ep, z] at w; exact absurd w ar_02
            · rw [pk_un ep]; exact w
          · by_cases ep : p = f
            · rw [ep]; exact y
            · rw [pk_un ep] at b; exact hP p a b
        exact ⟨vp_in_nI (by omega) (by omega), nm_r (ar_uc st 1 (by omega)) ⟨vp_in_nI (by omega) (by omega), nm_r (ar_uc tk t (by omega)) (hp _ _ _ hG1 (ar_FR_W (fun w => gt (by rw [w]; decide))))⟩⟩
    refine br_f (nI_ge (by omega) (by omega)) ⟨vp_in_nI (by omega) (by omega), br_c (fun z => ?_) (fun _ => h28 0 (fun w => absurd (show (0 : Int32) ≤ 0 by decide) w))⟩
    rw [nI_clamp (by omega)] at z
    refine ax_tw _ (by omega) (fun _ => h28 0 (fun w => absurd (show (0 : Int32) ≤ 0 by decide) w)) (fun hk _ => h28 _ (fun _ => ⟨z, fun w => ?_⟩)) (fun hk _ => h28 _ (fun _ => ⟨z, fun w => ?_⟩))
    · rcases ar_ok_k hk with y | y | y | y <;> rw [y] at w <;> exact absurd w (by decide)
    · rcases ar_ok_k hk with y | y | y | y <;> rw [y] at w <;> exact absurd w (by decide)
end
end
section
/-- counted down below j -/
def ar_cd (P : Nat → Bool) (tk : Nat → Int32) (j : Nat) : Nat → Int32 := fun p => if p < j ∧ P p = true then tk p - 1 else tk p
theorem ar_cd_0 {P : Nat → Bool} {tk : Nat → Int32} : ar_cd P tk 0 = tk := by
  funext p
  exact if_neg (by omega)
theorem ar_cd_1 {P : Nat → Bool} {tk : Nat → Int32} {j : Nat} (h : P j = true) (hj : j < 2 ^ 31) : upd (ar_cd P tk j) (nI j).toNatClampNeg (ar_cd P tk j (nI j).toNatClampNeg - 1) = ar_cd P tk (j + 1) := by
  rw [nI_clamp hj]
  funext p
  by_cases e : p = j
  · subst e
    rw [pk_us]
    unfold ar_cd
    rw [if_neg (by omega), if_pos ⟨by omega, h⟩]
  · rw [pk_un e]
    unfold ar_cd
    by_cases z : p < j ∧ P p = true
    · rw [if_pos z, if_pos ⟨by omega, z.2⟩]
    · rw [if_neg z, if_neg (fun w => z ⟨by omega, w.2⟩)]
theorem ar_cd_n {P : Nat → Bool} {tk : Nat → Int32} {j : Nat} (h : P j = false) : ar_cd P tk (j + 1) = ar_cd P tk j := by
  funext p
  unfold ar_cd
  by_cases z : p < j ∧ P p = true
  · rw [if_pos z, if_pos ⟨by omega, z.2⟩]
  · rw [if_neg z, if_neg (fun w => z ⟨?_, w.2⟩)]
    by_cases e : p = j
    · rw [e, h] at w; exact absurd w.2 (by decide)
    · omega
section
variable {S C F n qF qN c o m : Nat} {Lz : Int32} {xO xA xB xT op A B tg hs T R st tk bl bf : Nat → Int32}
theorem ax_cd (post : St2 → Prop) (hn : n ≤ 32) (hp : post (nI S, nI C, Lz, nI qF, nI qN, nI F, nI (c + o), nI c, nI n, xO, xA, xB, xT, T, R, op, A, B, tg, st, ar_cd (fun p => decide (st p = 1)) tk n, hs, bl, bf)) : ∀ d j, j + d = n → wX_countDown_2 post (nI S) (nI C) Lz (nI qF) (nI qN) (nI F) (nI (c + o)) (nI c) (nI n) (d + 1) (nI j) xO xA xB xT T R op A B tg st (ar_cd (fun p => decide (st p = 1)) tk j) hs bl bf := by
  intro d
  induction d with
  | zero =>
    intro j hj
    have e : j = n := by omega
    subst e
    exact br_t (nI_le (Nat.le_refl _) (by omega)) hp
  | succ d ih =>
    intro j hj
    have i0 : vp_in (nI j) 32 := vp_in_nI (by omega) (by omega)
    refine br_f (nI_ge (by omega) (by omega)) ⟨i0, ?_⟩
    by_cases z : st j = 1
    · exact br_t (by rw [nI_clamp (by omega)]; exact z) ⟨i0, i0, nm_r (ar_cd_1 (decide_eq_true z) (by omega)) (nm_r (nI_1 j) (ih (j + 1) (by omega)))⟩
    · have h := ih (j + 1) (by omega)
      rw [ar_cd_n (decide_eq_false z)] at h
      exact br_f (by rw [nI_clamp (by omega)]; exact z) (nm_r (nI_1 j) h)
/-- dropPosted: k places are filled, those from a on are as they were -/
def ar_D (e : Nat → Nat) (a k : Nat) (g g' : Nat → Int32) : Prop := (∀ j, j < k → g' j = g (e j)) ∧ (∀ p, a ≤ p → g' p = g p)
theorem ar_D_0 {e : Nat → Nat} {g : Nat → Int32} : ar_D e 0 0 g g := ⟨fun j h => absurd h (by omega), fun _ _ => rfl⟩
theorem ar_D_d {e : Nat → Nat} {a k : Nat} {g g' : Nat → Int32} (h : ar_D e a k g g') : ar_D e (a + 1) k g g' := ⟨h.1, fun p hp => h.2 p (by omega)⟩
theorem ar_D_a {e : Nat → Nat} {a k : Nat} {g g' : Nat → Int32} (h : ar_D e a k g g') (hk : k ≤ a) (he : e k = a) : ar_D e (a + 1) (k + 1) g (upd g' k (g' a)) := by
  refine ⟨fun j hj => ?_, fun p hp => ?_⟩
  · by_cases z : j = k
    · rw [z, pk_us, he]; exact h.2 a (Nat.le_refl _)
    · rw [pk_un z]; exact h.1 j (by omega)
  · rw [pk_un (by omega)]; exact h.2 p (by omega)
theorem ax_drop (post : St2 → Prop) (hn : n ≤ 32) {e : Nat → Nat} (hE : ar_E n m st e)
    (hp : ∀ op' A' B' tg' st' tk' hs' : Nat → Int32, (∀ j, j < m → op' j = op (e j)) → (∀ j, j < m → A' j = A (e j)) → (∀ j, j < m → B' j = B (e j)) → (∀ j, j < m → tg' j = tg (e j)) → (∀ j, j < m → st' j = st (e j)) → (∀ j, j < m → tk' j = tk (e j)) → (∀ j, j < m → hs' j = hs (e j)) → ar_B hs' → post (nI S, nI C, Lz, nI qF, nI qN, nI F, nI (c + o), nI c, nI m, xO, xA, xB, xT, T, R, op', A', B', tg', st', tk', hs', bl, bf)) :
    ∀ d a k (op' A' B' tg' st' tk' hs' : Nat → Int32), a + d = n → ar_cut e m a k → ar_D e a k op op' → ar_D e a k A A' → ar_D e a k B B' → ar_D e a k tg tg' → ar_D e a k st st' → ar_D e a k tk tk' → ar_D e a k hs hs' → ar_B hs' → wX_dropPosted_4 post (d + 1) (nI k) (nI a) (nI S) (nI C) Lz (nI qF) (nI qN) (nI F) (nI (c + o)) (nI c) (nI n) xO xA xB xT T R op' A' B' tg' st' tk' hs' bl bf := by
  intro d
  induction d with
  | zero =>
    intro a k op' A' B' tg' st' tk' hs' ha hc d1 d2 d3 d4 d5 d6 d7 hb
    have e1 : a = n := by omega
    subst e1
    have e2 := ar_cut_n hE hc
    subst e2
    exact br_t (nI_le (Nat.le_refl _) (by omega)) (hp op' A' B' tg' st' tk' hs' d1.1 d2.1 d3.1 d4.1 d5.1 d6.1 d7.1 hb)
  | succ d ih =>
    intro a k op' A' B' tg' st' tk' hs' ha hc d1 d2 d3 d4 d5 d6 d7 hb
    have hka := ar_cut_le hE hc
    have hsa : st' a = st a := d5.2 a (Nat.le_refl _)
    have i0 : vp_in (nI a) 32 := vp_in_nI (by omega) (by omega)
    have i1 : vp_in (nI k) 32 := vp_in_nI (by omega) (by omega)
    refine br_f (nI_ge (by omega) (by omega)) ⟨i0, ?_⟩
    by_cases z : st a = 2
    · exact br_t (by rw [nI_clamp (by omega), hsa]; exact z) (nm_r (nI_1 a) (ih (a + 1) k op' A' B' tg' st' tk' hs' (by omega) (ar_cut_d hE hc z) (ar_D_d d1) (ar_D_d d2) (ar_D_d d3) (ar_D_d d4) (ar_D_d d5) (ar_D_d d6) (ar_D_d d7) hb))
    · obtain ⟨h1, h2, h3⟩ := ar_cut_a hE hc (by omega) z
      refine br_f (by rw [nI_clamp (by omega), hsa]; exact z) (And.intro i0 ⟨i1, nm_r (ar_ur op' op' (by omega) (by omega)) ⟨i0, i1, nm_r (ar_ur A' A' (by omega) (by omega)) ⟨i0, i1, nm_r (ar_ur B' B' (by omega) (by omega)) ⟨i0, i1, nm_r (ar_ur tg' tg' (by omega) (by omega)) ⟨i0, i1, nm_r (ar_ur st' st' (by omega) (by omega)) ⟨i0, i1, nm_r (ar_ur tk' tk' (by omega) (by omega)) ⟨i0, i1, nm_r (ar_urb hs' hs' (by omega) (by omega) hb) (nm_r (nI_1 k) (nm_r (nI_1 a) ?_))⟩⟩⟩⟩⟩⟩⟩)
      exact ih (a + 1) (k + 1) _ _ _ _ _ _ _ (by omega) h3 (ar_D_a d1 hka h2) (ar_D_a d2 hka h2) (ar_D_a d3 hka h2) (ar_D_a d4 hka h2) (ar_D_a d5 hka h2) (ar_D_a d6 hka h2) (ar_D_a d7 hka h2) (ar_Bu hb (hb a))
theorem ax_dropPosted (post : St2 → Prop) (hn : n ≤ 32) {e : Nat → Nat} (hE : ar_E n m st e) (hb : ar_B hs)
    (hp : ∀ op' A' B' tg' st' tk' hs' : Nat → Int32, (∀ j, j < m → op' j = op (e j)) → (∀ j, j < m → A' j = A (e j)) → (∀ j, j < m → B' j = B (e j)) → (∀ j, j < m → tg' j = tg (e j)) → (∀ j, j < m → st' j = st (e j)) → (∀ j, j < m → tk' j = tk (e j)) → (∀ j, j < m → hs' j = hs (e j)) → ar_B hs' → post (nI S, nI C, Lz, nI qF, nI qN, nI F, nI (c + o), nI c, nI m, xO, xA, xB, xT, T, R, op', A', B', tg', st', tk', hs', bl, bf)) : wpX_dropPosted post (nI S, nI C, Lz, nI qF, nI qN, nI F, nI (c + o), nI c, nI n, xO, xA, xB, xT, T, R, op, A, B, tg, st, tk, hs, bl, bf) :=
  ⟨_, ax_drop post hn hE hp n 0 0 op A B tg st tk hs (by omega) ar_cut0 ar_D_0 ar_D_0 ar_D_0 ar_D_0 ar_D_0 ar_D_0 ar_D_0 hb⟩
end
theorem am_close {n m E Pt : Nat} {st hs tg op : Nat → Int32} {e id : Nat → Nat} {pr : Nat → Bool} {H : Nat → Nat} {V : Nat → Int32} {op' tg' st' hs' : Nat → Int32} (hS : am_S n E tg hs id pr) (h : am_L n m E Pt st hs e id pr H V) (hN : am_N n Pt st id pr H V E) (hP : am_P n st op)
    (c1 : ∀ j, j < m → op' j = op (e j)) (c4 : ∀ j, j < m → tg' j = tg (e j)) (c5 : ∀ j, j < m → st' j = st (e j)) (c7 : ∀ j, j < m → hs' j = hs (e j)) :
    am_S m E tg' hs' (fun j => id (e j)) pr ∧ am_L m m E Pt st' hs' (fun j => j) (fun j => id (e j)) pr H V ∧ am_N m Pt st' (fun j => id (e j)) pr H V E ∧ am_P m st' op' := by
  obtain ⟨hE, hm, hC, h1, h2, h3, h4, h5⟩ := h
  have hal : ∀ p, p < m → ¬ st' p = 2 := fun p hp => by rw [c5 p hp]; exact (hE.2.1 p hp).2
  have hnx : ∀ p, p < m → ¬ hs' p = 0 → p + 1 < m ∧ e (p + 1) = e p + 1 ∧ st (e p + 1) = 0 := by
    intro p hp hh
    rw [c7 p hp] at hh
    have hb := hE.2.1 p hp
    obtain ⟨d1, d2⟩ := hC (e p) hb.1 hb.2 hh
    obtain ⟨j, hj, ej⟩ := hE.2.2 (e p + 1) d1 (by rw [d2]; exact ar_02)
    have hpj : p < j := ar_E_lt hE hp hj (by omega)
    have hp1 : p + 1 < m := by omega
    have hj1 : j = p + 1 := by
      by_cases e1 : j = p + 1
      · exact e1
      · have a1 := hE.1 p (p + 1) (by omega) hp1
        have a2 := hE.1 (p + 1) j (by omega) hj
        omega
    rw [hj1] at ej
    exact ⟨hp1, ej, d2⟩
  refine ⟨⟨fun p hp => ?_, fun p r a b => ?_, fun p hp => ?_, fun p hp hh => ?_⟩, ⟨ar_E_id hal, hm, fun p hp a b => ?_, h1, h2, fun t p a b c => ?_, fun i hi => ?_, h5⟩, fun t a b c d q f g => ?_, fun p a b => ?_⟩
  · rw [c4 p hp]; exact hS.1 (e p) (hE.2.1 p hp).1
  · exact hS.2.1 (e p) (e r) (hE.1 p r a b) (hE.2.1 r b).1
  · rw [c7 p hp]; exact hS.2.2.1 (e p) (hE.2.1 p hp).1
  · obtain ⟨a1, a2, a3⟩ := hnx p hp hh
    refine ⟨a1, ?_⟩
    show id (e (p + 1)) = id (e p) + 1
    rw [a2]
    rw [c7 p hp] at hh
    exact (hS.2.2.2 (e p) (hE.2.1 p hp).1 hh).2
  · obtain ⟨a1, a2, a3⟩ := hnx p hp b
    exact ⟨a1, by rw [c5 _ a1, a2]; exact a3⟩
  · exact h3 t (e p) a (hE.2.1 p b).1 (hE.2.1 p b).2
  · rcases h4 i hi with ⟨p, a, b, c⟩ | w
    · obtain ⟨j, hj, rfl⟩ := hE.2.2 p a b
      exact Or.inl ⟨j, hj, hal j hj, c⟩
    · exact Or.inr w
  · exact hN t a b c d (e q) (hE.2.1 q f).1 (hE.2.1 q f).2
  · rw [c5 p a] at b
    rw [c1 p a]
    exact hP (e p) (hE.2.1 p a).1 b
/-- between two calls -/
def am_R (E Pp acc : Nat) (pr sn ng lk : Nat → Bool) (u : St2) : Prop :=
  ∃ (S C qF qN F n : Nat) (Lz : Int32) (xO xA xB xT op A B tg hs st tk : Nat → Int32) (id : Nat → Nat) (c o Pt : Nat) (H : Nat → Nat) (V T R bl bf : Nat → Int32),
    u = (nI S, nI C, Lz, nI qF, nI qN, nI F, nI (c + o), nI c, nI n, xO, xA, xB, xT, T, R, op, A, B, tg, st, tk, hs, bl, bf) ∧ Pp + (c + o) = Pt ∧ am_D F (c + o) Pp T R H V ∧ am_L n n E Pt st hs (fun j => j) id pr H V ∧ am_N n Pt st id pr H V E ∧ am_B Pp H V sn ng ∧ am_P n st op ∧ c ≤ C ∧ n + o ≤ 32 ∧
    am_W C F n E tg hs id pr ∧ ar_B hs ∧ E + qN = acc ∧ qN ≤ S ∧ S ≤ 16 ∧ qF < 16 ∧ (∀ j, j < qN → xT ((qF + j) % 16) = nI (1000 + (E + j)) ∧ (¬ xO ((qF + j) % 16) &&& 16 = 0 ↔ lk (E + j) = true)) ∧ (∀ i, pr i = true → i + 1 < E)
section
variable {S C qF qN F n E Pp : Nat} {Lz : Int32} {xO xA xB xT op A B tg hs : Nat → Int32} {id : Nat → Nat} {pr sn ng : Nat → Bool} {st tk : Nat → Int32} {u : St2}
theorem am_flush (hW : am_W C F n E tg hs id pr) {x : Nat} (hG : am_G S C qF qN F n E Pp Lz xO xA xB xT op A B tg hs id pr sn ng st tk x u) (post : St2 → Prop) (h : ∀ u', am_G S C qF qN F n E Pp Lz xO xA xB xT op A B tg hs id pr sn ng st tk x u' → post u') : wpX_flush post u := by
  obtain ⟨hC, hn, hF, hS⟩ := hW
  obtain ⟨c, o, m, Pt, e, H, V, T, R, bl, bf, rfl, hPt, hD, hL, hNn, hB, hP, hc, hmo⟩ := hG
  refine br_c (fun z => ?_) (fun z => ?_)
  · have z' : C ≤ c + o := (nI_leI (by omega) (by omega)).mp z
    exact h _ ⟨C, c + o - C, m, Pt, e, H, V, T, R, bl, bf, by rw [show C + (c + o - C) = c + o by omega], by omega, by rw [show C + (c + o - C) = c + o by omega]; exact hD, hL, hNn, hB, hP, by omega, by omega⟩
  · have z' : ¬ C ≤ c + o := fun w => z (nI_le w (by omega))
    exact h _ ⟨c + o, 0, m, Pt, e, H, V, T, R, bl, bf, rfl, by omega, hD, hL, hNn, hB, hP, by omega, by omega⟩
theorem am_count (hW : am_W C F n E tg hs id pr) {x : Nat} (hG : am_G S C qF qN F n E Pp Lz xO xA xB xT op A B tg hs id pr sn ng st tk x u) (post : St2 → Prop) (h : ∀ u' tk', am_G S C qF qN F n E Pp Lz xO xA xB xT op A B tg hs id pr sn ng st tk' x u' → post u') : wpX_countDown post u := by
  obtain ⟨hC, hn, hF, hS⟩ := hW
  obtain ⟨c, o, m, Pt, e, H, V, T, R, bl, bf, rfl, hPt, hD, hL, hNn, hB, hP, hc, hmo⟩ := hG
  have h2 := ax_cd (st := st) (tk := tk) post hn (h _ _ ⟨c, o, m, Pt, e, H, V, T, R, bl, bf, rfl, hPt, hD, hL, hNn, hB, hP, hc, hmo⟩) n 0 (by omega)
  rw [ar_cd_0] at h2
  exact ⟨_, h2⟩
theorem am_drop (hW : am_W C F n E tg hs id pr) (hbh : ar_B hs) {acc : Nat} {lk : Nat → Bool} (hacc : E + qN = acc) (hqS : qN ≤ S) (hS16 : S ≤ 16) (hqF : qF < 16) (hq : ∀ j, j < qN → xT ((qF + j) % 16) = nI (1000 + (E + j)) ∧ (¬ xO ((qF + j) % 16) &&& 16 = 0 ↔ lk (E + j) = true)) (hpr : ∀ i, pr i = true → i + 1 < E)
    (hG : am_G S C qF qN F n E Pp Lz xO xA xB xT op A B tg hs id pr sn ng st tk E u) (post : St2 → Prop) (h : ∀ u', am_R E Pp acc pr sn ng lk u' → post u') : wpX_dropPosted post u := by
  obtain ⟨hC, hn, hF, hS⟩ := hW
  obtain ⟨c, o, m, Pt, e, H, V, T, R, bl, bf, rfl, hPt, hD, hL, hNn, hB, hP, hc, hmo⟩ := hG
  have hmn := ar_E_le hL.1
  refine ax_dropPosted post hn hL.1 hbh (fun op' A' B' tg' st' tk' hs' d1 d2 d3 d4 d5 d6 d7 hb => h _ ?_)
  obtain ⟨a1, a2, a3, a4⟩ := am_close hS hL hNn hP d1 d4 d5 d7
  exact ⟨S, C, qF, qN, F, m, Lz, xO, xA, xB, xT, op', A', B', tg', hs', st', tk', (fun j => id (e j)), c, o, Pt, H, V, T, R, bl, bf, rfl, hPt, hD, a2, a3, hB, a4, hc, hmo, ⟨hC, by omega, hF, a1⟩, hb, hacc, hqS, hS16, hqF, hq, hpr⟩
end
end
section
def lx_tk (post : Int32 → St2 → Prop) (a : Int32) (k : Nat) (x : Int32) (u : St2) : Prop := match u with
  | (f_sqCapacity, f_cqCapacity, f_latency, f_sqFirst, f_sqCount, f_doneFirst, f_doneCount, f_cqCount, f_reqCount, a_sqOpFlags, a_sqA, a_sqB, a_sqTag, a_doneTag, a_doneResult, a_reqOpcode, a_reqA, a_reqB, a_reqTag, a_reqState, a_reqTicks, a_reqHasSuccessor, a_blocks, a_buffers) => wX_tick_15 post a k x f_sqCapacity f_cqCapacity f_latency f_sqFirst f_sqCount f_doneFirst f_doneCount f_cqCount f_reqCount a_sqOpFlags a_sqA a_sqB a_sqTag a_doneTag a_doneResult a_reqOpcode a_reqA a_reqB a_reqTag a_reqState a_reqTicks a_reqHasSuccessor a_blocks a_buffers
def lx_te (post : Int32 → St2 → Prop) (a : Int32) (u : St2) : Prop := match u with
  | (f_sqCapacity, f_cqCapacity, f_latency, f_sqFirst, f_sqCount, f_doneFirst, f_doneCount, f_cqCount, f_reqCount, a_sqOpFlags, a_sqA, a_sqB, a_sqTag, a_doneTag, a_doneResult, a_reqOpcode, a_reqA, a_reqB, a_reqTag, a_reqState, a_reqTicks, a_reqHasSuccessor, a_blocks, a_buffers) => wpX_dropPosted (fun u => match u with | (f_sqCapacity, f_cqCapacity, f_latency, f_sqFirst, f_sqCount, f_doneFirst, f_doneCount, f_cqCount, f_reqCount, a_sqOpFlags, a_sqA, a_sqB, a_sqTag, a_doneTag, a_doneResult, a_reqOpcode, a_reqA, a_reqB, a_reqTag, a_reqState, a_reqTicks, a_reqHasSuccessor, a_blocks, a_buffers) => post (a - f_reqCount) (f_sqCapacity, f_cqCapacity, f_latency, f_sqFirst, f_sqCount, f_doneFirst, f_doneCount, f_cqCount, f_reqCount, a_sqOpFlags, a_sqA, a_sqB, a_sqTag, a_doneTag, a_doneResult, a_reqOpcode, a_reqA, a_reqB, a_reqTag, a_reqState, a_reqTicks, a_reqHasSuccessor, a_blocks, a_buffers)) (f_sqCapacity, f_cqCapacity, f_latency, f_sqFirst, f_sqCount, f_doneFirst, f_doneCount, f_cqCount, f_reqCount, a_sqOpFlags, a_sqA, a_sqB, a_sqTag, a_doneTag, a_doneResult, a_reqOpcode, a_reqA, a_reqB, a_reqTag, a_reqState, a_reqTicks, a_reqHasSuccessor, a_blocks, a_buffers)
section
variable {S C qF qN F n E Pp : Nat} {Lz : Int32} {xO xA xB xT op A B tg hs : Nat → Int32} {id : Nat → Nat} {pr sn ng : Nat → Bool} {st tk : Nat → Int32} {u : St2}
theorem am_tloop (hW : am_W C F n E tg hs id pr) (post : Int32 → St2 → Prop) (hend : ∀ (st tk : Nat → Int32) (u : St2), am_G S C qF qN F n E Pp Lz xO xA xB xT op A B tg hs id pr sn ng st tk E u → lx_te post (nI n) u) : ∀ d f (st tk : Nat → Int32) (u : St2), f + d = n → am_G S C qF qN F n E Pp Lz xO xA xB xT op A B tg hs id pr sn ng st tk E u → ∀ k, d < k → lx_tk post (nI n) k (nI f) u := by
  have hW' := hW
  obtain ⟨hC, hn, hF, hS⟩ := hW'
  intro d
  induction d with
  | zero =>
    intro f st tk u hf hG k hk
    obtain ⟨k', rfl⟩ : ∃ k', k = k' + 1 := ⟨k - 1, by omega⟩
    have h1 := hend st tk u hG
    obtain ⟨c, o, m, Pt, e, H, V, T, R, bl, bf, rfl, hPt, hD, hL, hNn, hB, hP, hc, hmo⟩ := hG
    exact br_t (nI_le (by omega) (by omega)) h1
  | succ d ih =>
    intro f st tk u hf hG k hk
    obtain ⟨k', rfl⟩ : ∃ k', k = k' + 1 := ⟨k - 1, by omega⟩
    have hnext := ih (f + 1) st tk u (by omega) hG k' (by omega)
    have hCh := am_G_C hG
    have hG' := hG
    obtain ⟨c, o, m, Pt, e, H, V, T, R, bl, bf, rfl, hPt, hD, hL, hNn, hB, hP, hc, hmo⟩ := hG
    refine br_f (nI_ge (by omega) (by omega)) ⟨vp_in_nI (by omega) (by omega), ?_⟩
    by_cases z : st f = 1
    · refine br_t (by rw [nI_clamp (by omega)]; exact z) ⟨vp_in_nI (by omega) (by omega), br_c (fun y => ?_) (fun _ => nm_r (nI_1 f) hnext)⟩
      refine lx_rc_w _ (d + 2) _ _ (am_run hW _ (d + 1) f st tk _ (by omega) (by omega) hG' (Or.inr z) (ar_H_pend hCh (by omega) z) (fun u' st' tk' g1 _ => ?_) (d + 2) (by omega))
      have h3 := ih (f + 1) st' tk' u' (by omega) g1 k' (by omega)
      obtain ⟨c1, o1, m1, Pt1, e1, H1, V1, T1, R1, bl1, bf1, rfl, hPt1, hD1, hL1, hNn1, hB1, hP1, hc1, hmo1⟩ := g1
      exact nm_r (nI_1 f) h3
    · exact br_f (by rw [nI_clamp (by omega)]; exact z) (nm_r (nI_1 f) hnext)
end
theorem am_tick {E Pp acc : Nat} {pr sn ng lk : Nat → Bool} {u : St2} (hR : am_R E Pp acc pr sn ng lk u) (post : Int32 → St2 → Prop) (h : ∀ r u', am_R E Pp acc pr sn ng lk u' → post r u') : wpX_tick post u := by
  obtain ⟨S, C, qF, qN, F, n, Lz, xO, xA, xB, xT, op, A, B, tg, hs, st, tk, id, c, o, Pt, H, V, T, R, bl, bf, rfl, hPt, hD, hL, hNn, hB, hP, hc, hmo, hW, hbh, hacc, hqS, hS16, hqF, hq, hpr⟩ := hR
  have hW' := hW
  obtain ⟨hC, hn, hF, hS⟩ := hW'
  have hG : am_G S C qF qN F n E Pp Lz xO xA xB xT op A B tg hs id pr sn ng st tk E (nI S, nI C, Lz, nI qF, nI qN, nI F, nI (c + o), nI c, nI n, xO, xA, xB, xT, T, R, op, A, B, tg, st, tk, hs, bl, bf) := ⟨c, o, n, Pt, (fun j => j), H, V, T, R, bl, bf, rfl, hPt, hD, hL, hNn, hB, hP, hc, hmo⟩
  have hend : ∀ (st tk : Nat → Int32) (u : St2), am_G S C qF qN F n E Pp Lz xO xA xB xT op A B tg hs id pr sn ng st tk E u → lx_te post (nI n) u := by
    intro st tk u hG
    have hd := fun P => am_drop hW hbh hacc hqS hS16 hqF hq hpr hG P
    obtain ⟨c1, o1, m1, Pt1, e1, H1, V1, T1, R1, bl1, bf1, rfl, hPt1, hD1, hL1, hNn1, hB1, hP1, hc1, hmo1⟩ := hG
    refine hd _ (fun u' hR' => ?_)
    have h2 := fun r => h r u' hR'
    obtain ⟨w0, w1, w2, w3, w4, w5, w6, w7, w8, w9, w10, w11, w12, w13, w14, w15, w16, w17, w18, w19, w20, w21, w22, w23⟩ := u'
    exact h2 _
  unfold wpX_tick
  refine am_flush hW hG _ (fun u1 hG1 => ?_)
  have hcnt := fun P => am_count hW hG1 P
  obtain ⟨c1, o1, m1, Pt1, e1, H1, V1, T1, R1, bl1, bf1, rfl, hPt1, hD1, hL1, hNn1, hB1, hP1, hc1, hmo1⟩ := hG1
  refine hcnt _ (fun u2 tk2 hG2 => ?_)
  have h3 := am_tloop hW post hend n 0 st tk2 u2 (by omega) hG2 (n + 1) (by omega)
  obtain ⟨c2, o2, m2, Pt2, e2, H2, V2, T2, R2, bl2, bf2, rfl, hPt2, hD2, hL2, hNn2, hB2, hP2, hc2, hmo2⟩ := hG2
  exact ⟨_, h3⟩
end
section
def ar_fl (x : Int32) : Int32 := if x &&& 16 = 0 then 0 else 1
theorem ar_fl_B (x : Int32) : ar_fl x = 0 ∨ ar_fl x = 1 := by
  unfold ar_fl
  by_cases h : x &&& 16 = 0
  · rw [if_pos h]; exact Or.inl rfl
  · rw [if_neg h]; exact Or.inr rfl
/-- the last of the new ones has no successor -/
def ar_he (hs : Nat → Int32) (n0 k : Nat) : Nat → Int32 := fun p => if 0 < k ∧ p = n0 + k - 1 then 0 else hs p
theorem ar_he_0 {hs : Nat → Int32} {n0 : Nat} : ar_he hs n0 0 = hs := by
  funext p
  exact if_neg (by omega)
theorem ar_he_k {hs : Nat → Int32} {n0 k : Nat} (h : 0 < k) : upd hs (n0 + k - 1) 0 = ar_he hs n0 k := by
  funext p
  unfold ar_he
  by_cases e : p = n0 + k - 1
  · rw [if_pos ⟨h, e⟩, e, pk_us]
  · rw [if_neg (fun w => e w.2), pk_un e]
theorem ar_he_B {hs : Nat → Int32} {n0 k : Nat} (h : ar_B hs) : ar_B (ar_he hs n0 k) := by
  intro p
  unfold ar_he
  by_cases e : 0 < k ∧ p = n0 + k - 1
  · rw [if_pos e]; exact Or.inl rfl
  · rw [if_neg e]; exact h p
/-- while entries are taken -/
def am_U (n0 E k : Nat) (tg hs st op : Nat → Int32) (id : Nat → Nat) (pr lk : Nat → Bool) : Prop :=
  am_S n0 E tg hs id pr ∧ ar_C n0 st hs ∧ (∀ p, p < n0 → ¬ st p = 2) ∧ am_P n0 st op ∧ (∀ j, j < k → tg (n0 + j) = nI (1000 + (E + j)) ∧ (¬ hs (n0 + j) = 0 ↔ lk (E + j) = true) ∧ st (n0 + j) = 0)
theorem am_U_S {n0 E k : Nat} {tg hs st op : Nat → Int32} {id : Nat → Nat} {pr lk : Nat → Bool} (h : am_U n0 E k tg hs st op id pr lk) {fh : Int32} (hf : ¬ fh = 0 ↔ lk (E + k) = true) (x : Int32) :
    am_U n0 E (k + 1) (upd tg (n0 + k) (nI (1000 + (E + k)))) (upd hs (n0 + k) fh) (upd st (n0 + k) 0) (upd op (n0 + k) x) id pr lk := by
  obtain ⟨hS, hC, ha, hP, hn⟩ := h
  refine ⟨⟨fun p hp => ?_, hS.2.1, fun p hp => ?_, fun p hp hh => ?_⟩, fun p hp a b => ?_, fun p hp => ?_, fun p hp a => ?_, fun j hj => ?_⟩
  · rw [pk_un (by omega)]; exact hS.1 p hp
  · rw [pk_un (by omega)]; exact hS.2.2.1 p hp
  · rw [pk_un (by omega)] at hh; exact hS.2.2.2 p hp hh
  · rw [pk_un (by omega)] at a b
    obtain ⟨c1, c2⟩ := hC p hp a b
    exact ⟨c1, by rw [pk_un (by omega)]; exact c2⟩
  · rw [pk_un (by omega)]; exact ha p hp
  · rw [pk_un (by omega)] at a
    rw [pk_un (by omega)]; exact hP p hp a
  · by_cases z : j = k
    · subst z
      rw [pk_us, pk_us, pk_us]; exact ⟨rfl, hf, rfl⟩
    · rw [pk_un (by omega), pk_un (by omega), pk_un (by omega)]; exact hn j (by omega)
/-- the old requests and the history, all live ones alive -/
def am_O (n0 E Pt : Nat) (id : Nat → Nat) (pr : Nat → Bool) (H : Nat → Nat) (V : Nat → Int32) : Prop :=
  n0 + Pt = E ∧ (∀ t, t < Pt → H t < E) ∧ (∀ t t', t < t' → t' < Pt → H t ≠ H t') ∧ (∀ t p, t < Pt → p < n0 → H t ≠ id p) ∧ (∀ i, i < E → (∃ p, p < n0 ∧ id p = i) ∨ (∃ t, t < Pt ∧ H t = i)) ∧
  (∀ t i, t < Pt → H t = i + 1 → pr i = true → ∃ t', t' < t ∧ H t' = i ∧ (V t' < 0 → V t = -125)) ∧ (∀ t, t < Pt → V t < 0 → pr (H t) = true → ∀ p, p < n0 → id p ≠ H t + 1)
theorem am_O_of {n0 E Pt : Nat} {st hs : Nat → Int32} {id : Nat → Nat} {pr : Nat → Bool} {H : Nat → Nat} {V : Nat → Int32} (h : am_L n0 n0 E Pt st hs (fun j => j) id pr H V) (hN : am_N n0 Pt st id pr H V E) : am_O n0 E Pt id pr H V := by
  obtain ⟨hE, hm, hC, h1, h2, h3, h4, h5⟩ := h
  have hal : ∀ p, p < n0 → ¬ st p = 2 := fun p hp => (hE.2.1 p hp).2
  refine ⟨hm, h1, h2, fun t p a b => h3 t p a b (hal p b), fun i hi => ?_, h5, fun t a b c p d => hN t a b c (by have := h1 t a; omega) p d (hal p d)⟩
  rcases h4 i hi with ⟨p, a, b, c⟩ | w
  · exact Or.inl ⟨p, a, c⟩
  · exact Or.inr w
def am_id (id : Nat → Nat) (n0 E : Nat) : Nat → Nat := fun p => if p < n0 then id p else E + (p - n0)
def am_pr (pr lk : Nat → Bool) (E k : Nat) : Nat → Bool := fun i => if E ≤ i ∧ i + 1 < E + k then lk i else pr i
theorem am_new {n0 E Pt k : Nat} {tg hs st op : Nat → Int32} {id : Nat → Nat} {pr lk : Nat → Bool} {H : Nat → Nat} {V : Nat → Int32} (hO : am_O n0 E Pt id pr H V) (hU : am_U n0 E k tg hs st op id pr lk) (hpr : ∀ i, pr i = true → i + 1 < E) :
    am_S (n0 + k) (E + k) tg (ar_he hs n0 k) (am_id id n0 E) (am_pr pr lk E k) ∧ am_L (n0 + k) (n0 + k) (E + k) Pt st (ar_he hs n0 k) (fun j => j) (am_id id n0 E) (am_pr pr lk E k) H V ∧ am_N (n0 + k) Pt st (am_id id n0 E) (am_pr pr lk E k) H V (E + k) ∧ am_P (n0 + k) st op := by
  obtain ⟨hm, h1, h2, h3, h4, h5, h6⟩ := hO
  obtain ⟨hS, hC, ha, hP, hn⟩ := hU
  have q0 : ∀ p, p < n0 → am_id id n0 E p = id p := fun p hp => if_pos hp
  have q1 : ∀ p, n0 ≤ p → am_id id n0 E p = E + (p - n0) := fun p hp => if_neg (by omega)
  have e0 : ∀ p, p < n0 → ar_he hs n0 k p = hs p := fun p hp => if_neg (by omega)
  have r0 : ∀ i, i < E → am_pr pr lk E k i = pr i := fun i hi => if_neg (by omega)
  have hnew : ∀ p, n0 ≤ p → p < n0 + k → tg p = nI (1000 + (E + (p - n0))) ∧ (¬ hs p = 0 ↔ lk (E + (p - n0)) = true) ∧ st p = 0 := by
    intro p a b
    have := hn (p - n0) (by omega)
    rw [show n0 + (p - n0) = p by omega] at this
    exact this
  have hl : ∀ p, n0 ≤ p → p < n0 + k → ¬ ar_he hs n0 k p = 0 → p + 1 < n0 + k := by
    intro p a b c
    by_cases z : p = n0 + k - 1
    · exact absurd (if_pos ⟨by omega, z⟩) c
    · omega
  have hal : ∀ p, p < n0 + k → ¬ st p = 2 := by
    intro p hp
    by_cases z : p < n0
    · exact ha p z
    · rw [(hnew p (by omega) hp).2.2]; exact ar_02
  refine ⟨⟨fun p hp => ?_, fun p r a b => ?_, fun p hp => ?_, fun p hp hh => ?_⟩, ⟨ar_E_id hal, by omega, fun p hp a b => ?_, fun t ht => ?_, h2, fun t p a b c => ?_, fun i hi => ?_, fun t i a b c => ?_⟩, fun t a b c d q f g => ?_, fun p a b => ?_⟩
  · by_cases z : p < n0
    · rw [q0 p z]; have := hS.1 p z; exact ⟨this.1, by omega⟩
    · rw [q1 p (by omega)]; exact ⟨(hnew p (by omega) hp).1, by omega⟩
  · by_cases z : r < n0
    · rw [q0 p (by omega), q0 r z]; exact hS.2.1 p r a z
    · rw [q1 r (by omega)]
      by_cases y : p < n0
      · rw [q0 p y]; have := (hS.1 p y).2; omega
      · rw [q1 p (by omega)]; omega
  · by_cases z : p < n0
    · rw [e0 p z, q0 p z, r0 _ (hS.1 p z).2]; exact hS.2.2.1 p z
    · rw [q1 p (by omega)]
      by_cases y : p = n0 + k - 1
      · have y1 : ar_he hs n0 k p = 0 := if_pos ⟨by omega, y⟩
        have y2 : am_pr pr lk E k (E + (p - n0)) = pr (E + (p - n0)) := if_neg (by omega)
        rw [y1, y2]
        exact ⟨fun w => absurd rfl w, fun w => by have := hpr _ w; omega⟩
      · have y1 : ar_he hs n0 k p = hs p := if_neg (fun w => y w.2)
        have y2 : am_pr pr lk E k (E + (p - n0)) = lk (E + (p - n0)) := if_pos (by omega)
        rw [y1, y2]
        exact (hnew p (by omega) hp).2.1
  · by_cases z : p < n0
    · rw [e0 p z] at hh
      obtain ⟨c1, c2⟩ := hS.2.2.2 p z hh
      exact ⟨by omega, by rw [q0 p z, q0 (p + 1) c1]; exact c2⟩
    · have := hl p (by omega) hp hh
      exact ⟨this, by rw [q1 p (by omega), q1 (p + 1) (by omega)]; omega⟩
  · by_cases z : p < n0
    · rw [e0 p z] at b
      obtain ⟨c1, c2⟩ := hC p z a b
      exact ⟨by omega, c2⟩
    · have := hl p (by omega) hp b
      exact ⟨this, (hnew (p + 1) (by omega) this).2.2⟩
  · have := h1 t ht; omega
  · by_cases z : p < n0
    · rw [q0 p z]; exact h3 t p a z
    · rw [q1 p (by omega)]; have := h1 t a; omega
  · by_cases z : i < E
    · rcases h4 i z with ⟨p, a, b⟩ | w
      · exact Or.inl ⟨p, by omega, hal p (by omega), by rw [q0 p a]; exact b⟩
      · exact Or.inr w
    · exact Or.inl ⟨n0 + (i - E), by omega, hal _ (by omega), by rw [q1 _ (by omega)]; omega⟩
  · have := h1 t a
    rw [r0 i (by omega)] at c
    exact h5 t i a b c
  · have h7 := h1 t a
    rw [r0 _ h7] at c
    by_cases z : q < n0
    · rw [q0 q z]; exact h6 t a b c q z
    · rw [q1 q (by omega)]; have := hpr _ c; omega
  · by_cases z : p < n0
    · exact hP p z b
    · rw [(hnew p (by omega) a).2.2] at b; exact absurd b ar_01
section
variable {S C F n qF qN c o : Nat} {Lz : Int32} {xO xA xB xT op A B tg hs T R st tk bl bf : Nat → Int32}
theorem ar_m16 {a : Nat} (h : a < 2 ^ 30) : nI a + 1 - (nI a + 1) / 16 * 16 = nI ((a + 1) % 16) := by
  rw [nI_1]; exact pk_rem (d := 16) (by omega) (by decide) (by decide)
theorem ax_take (post : St2 → Prop) {N : Nat} (hq : qF < 16) (hn : n < 32)
    (hp : post (nI S, nI C, Lz, nI ((qF + 1) % 16), nI N, nI F, nI (c + o), nI c, nI (n + 1), xO, xA, xB, xT, T, R, upd op n (xO qF &&& 15), upd A n (xA qF), upd B n (xB qF), upd tg n (xT qF), upd st n 0, upd tk n 0, upd hs n (ar_fl (xO qF)), bl, bf)) : wpX_takeEntry post (nI S, nI C, Lz, nI qF, nI (N + 1), nI F, nI (c + o), nI c, nI n, xO, xA, xB, xT, T, R, op, A, B, tg, st, tk, hs, bl, bf) := by
  have i0 : vp_in (nI qF) 16 := vp_in_nI hq (by omega)
  have i1 : vp_in (nI n) 32 := vp_in_nI hn (by omega)
  refine And.intro i0 (nm_r (e' := xO qF) (by rw [nI_clamp (by omega)]) ⟨i1, nm_r (ar_uc op _ (by omega)) ?_⟩)
  have key : ∀ z : Int32, z = ar_fl (xO qF) → wX_takeEntry_43 post z (nI n) (nI S) (nI C) Lz (nI qF) (nI (N + 1)) (nI F) (nI (c + o)) (nI c) (nI n) xO xA xB xT T R (upd op n (xO qF &&& 15)) A B tg st tk hs bl bf := by
    intro z hz
    subst hz
    exact And.intro i1 (nm_r (ar_ub hs _ (by omega) (ar_fl_B _)) ⟨i0, i1, nm_r (ar_ur A xA (by omega) (by omega)) ⟨i0, i1, nm_r (ar_ur B xB (by omega) (by omega)) ⟨i0, i1, nm_r (ar_ur tg xT (by omega) (by omega)) ⟨i1, nm_r (ar_uc st 0 (by omega)) ⟨i1, nm_r (ar_uc tk 0 (by omega)) (nm_r (nI_1 n) ⟨by decide, nm_r (ar_m16 (by omega)) (nm_r (nI_pred N) hp)⟩)⟩⟩⟩⟩⟩)
  exact br_c (fun h => key 0 (if_pos h).symm) (fun h => key 1 (if_neg h).symm)
end
end
section
def lx_cs (post : St2 → Prop) (a b c : Int32) (k : Nat) (x : Int32) (u : St2) : Prop := match u with
  | (f_sqCapacity, f_cqCapacity, f_latency, f_sqFirst, f_sqCount, f_doneFirst, f_doneCount, f_cqCount, f_reqCount, a_sqOpFlags, a_sqA, a_sqB, a_sqTag, a_doneTag, a_doneResult, a_reqOpcode, a_reqA, a_reqB, a_reqTag, a_reqState, a_reqTicks, a_reqHasSuccessor, a_blocks, a_buffers) => wX_consume_18 post a b c k x f_sqCapacity f_cqCapacity f_latency f_sqFirst f_sqCount f_doneFirst f_doneCount f_cqCount f_reqCount a_sqOpFlags a_sqA a_sqB a_sqTag a_doneTag a_doneResult a_reqOpcode a_reqA a_reqB a_reqTag a_reqState a_reqTicks a_reqHasSuccessor a_blocks a_buffers
def lx_52 (post : St2 → Prop) (a : Int32) (u : St2) : Prop := match u with
  | (f_sqCapacity, f_cqCapacity, f_latency, f_sqFirst, f_sqCount, f_doneFirst, f_doneCount, f_cqCount, f_reqCount, a_sqOpFlags, a_sqA, a_sqB, a_sqTag, a_doneTag, a_doneResult, a_reqOpcode, a_reqA, a_reqB, a_reqTag, a_reqState, a_reqTicks, a_reqHasSuccessor, a_blocks, a_buffers) => wX_consume_52 post a f_sqCapacity f_cqCapacity f_latency f_sqFirst f_sqCount f_doneFirst f_doneCount f_cqCount f_reqCount a_sqOpFlags a_sqA a_sqB a_sqTag a_doneTag a_doneResult a_reqOpcode a_reqA a_reqB a_reqTag a_reqState a_reqTicks a_reqHasSuccessor a_blocks a_buffers
def lx_22 (post : Int32 → St2 → Prop) (a b : Int32) (k : Nat) (x : Int32) (u : St2) : Prop := match u with
  | (f_sqCapacity, f_cqCapacity, f_latency, f_sqFirst, f_sqCount, f_doneFirst, f_doneCount, f_cqCount, f_reqCount, a_sqOpFlags, a_sqA, a_sqB, a_sqTag, a_doneTag, a_doneResult, a_reqOpcode, a_reqA, a_reqB, a_reqTag, a_reqState, a_reqTicks, a_reqHasSuccessor, a_blocks, a_buffers) => wX_enter_22 post a b k x f_sqCapacity f_cqCapacity f_latency f_sqFirst f_sqCount f_doneFirst f_doneCount f_cqCount f_reqCount a_sqOpFlags a_sqA a_sqB a_sqTag a_doneTag a_doneResult a_reqOpcode a_reqA a_reqB a_reqTag a_reqState a_reqTicks a_reqHasSuccessor a_blocks a_buffers
def lx_ee (post : Int32 → St2 → Prop) (a b : Int32) (u : St2) : Prop := match u with
  | (f_sqCapacity, f_cqCapacity, f_latency, f_sqFirst, f_sqCount, f_doneFirst, f_doneCount, f_cqCount, f_reqCount, a_sqOpFlags, a_sqA, a_sqB, a_sqTag, a_doneTag, a_doneResult, a_reqOpcode, a_reqA, a_reqB, a_reqTag, a_reqState, a_reqTicks, a_reqHasSuccessor, a_blocks, a_buffers) => wpX_dropPosted (fun u => match u with | (f_sqCapacity, f_cqCapacity, f_latency, f_sqFirst, f_sqCount, f_doneFirst, f_doneCount, f_cqCount, f_reqCount, a_sqOpFlags, a_sqA, a_sqB, a_sqTag, a_doneTag, a_doneResult, a_reqOpcode, a_reqA, a_reqB, a_reqTag, a_reqState, a_reqTicks, a_reqHasSuccessor, a_blocks, a_buffers) => post (b - a) (f_sqCapacity, f_cqCapacity, f_latency, f_sqFirst, f_sqCount, f_doneFirst, f_doneCount, f_cqCount, f_reqCount, a_sqOpFlags, a_sqA, a_sqB, a_sqTag, a_doneTag, a_doneResult, a_reqOpcode, a_reqA, a_reqB, a_reqTag, a_reqState, a_reqTicks, a_reqHasSuccessor, a_blocks, a_buffers)) (f_sqCapacity, f_cqCapacity, f_latency, f_sqFirst, f_sqCount, f_doneFirst, f_doneCount, f_cqCount, f_reqCount, a_sqOpFlags, a_sqA, a_sqB, a_sqTag, a_doneTag, a_doneResult, a_reqOpcode, a_reqA, a_reqB, a_reqTag, a_reqState, a_reqTicks, a_reqHasSuccessor, a_blocks, a_buffers)
def am_K (S C F E n0 c o : Nat) (Lz : Int32) (id : Nat → Nat) (pr lk : Nat → Bool) (xO xA xB xT T R bl bf : Nat → Int32) (k N : Nat) (u : St2) : Prop :=
  ∃ (qF : Nat) (op A B tg hs st tk : Nat → Int32), u = (nI S, nI C, Lz, nI qF, nI N, nI F, nI (c + o), nI c, nI (n0 + k), xO, xA, xB, xT, T, R, op, A, B, tg, st, tk, hs, bl, bf) ∧ am_U n0 E k tg hs st op id pr lk ∧ n0 + k + o ≤ 32 ∧ qF < 16 ∧ ar_B hs ∧ (∀ j, j < N → xT ((qF + j) % 16) = nI (1000 + (E + k + j)) ∧ (¬ xO ((qF + j) % 16) &&& 16 = 0 ↔ lk (E + k + j) = true))
theorem ar_fl_k {x : Int32} {b : Bool} (h : ¬ x &&& 16 = 0 ↔ b = true) : ¬ ar_fl x = 0 ↔ b = true := by
  refine Iff.trans ?_ h
  unfold ar_fl
  by_cases z : x &&& 16 = 0
  · rw [if_pos z]; exact ⟨fun w => absurd rfl w, fun w => absurd z w⟩
  · rw [if_neg z]; exact ⟨fun _ => z, fun _ => ar_10⟩
section
variable {S C F E n0 c o : Nat} {Lz : Int32} {id : Nat → Nat} {pr lk : Nat → Bool} {xO xA xB xT T R bl bf : Nat → Int32}
theorem am_take (X1 : Int32) (post : St2 → Prop) : ∀ (N k : Nat) (u : St2), am_K S C F E n0 c o Lz id pr lk xO xA xB xT T R bl bf k N u → k + N ≤ 16 →
    (∀ k' N' u', k' + N' = k + N → am_K S C F E n0 c o Lz id pr lk xO xA xB xT T R bl bf k' N' u' → lx_52 post (nI n0) u') → ∀ f, N < f → lx_cs post X1 (nI o) (nI n0) f (nI k) u := by
  intro N
  induction N with
  | zero =>
    intro k u hK hk hp f hf
    obtain ⟨f', rfl⟩ : ∃ f', f = f' + 1 := ⟨f - 1, by omega⟩
    have h1 := hp k 0 u rfl hK
    obtain ⟨qF, op, A, B, tg, hs, st, tk, rfl, hU, hno, hqF, hb, hq⟩ := hK
    exact br_c (fun _ => h1) (fun _ => br_t (by decide) h1)
  | succ N ih =>
    intro k u hK hk hp f hf
    obtain ⟨f', rfl⟩ : ∃ f', f = f' + 1 := ⟨f - 1, by omega⟩
    have h1 := hp k (N + 1) u rfl hK
    obtain ⟨qF, op, A, B, tg, hs, st, tk, rfl, hU, hno, hqF, hb, hq⟩ := hK
    refine br_c (fun _ => h1) (fun hx => br_f (nI_nle (by omega) (by omega)) ?_)
    by_cases hfull : 32 ≤ n0 + k + o
    · exact br_t (by rw [nI_add]; exact nI_le (a := 32) hfull (by omega)) h1
    · refine br_f (by rw [nI_add]; exact nI_ge (b := 32) (by omega) (by decide)) (ax_take _ hqF (by omega) (nm_r (nI_1 k) ?_))
      have hq0 := hq 0 (by omega)
      rw [show (qF + 0) % 16 = qF by omega, show E + k + 0 = E + k by omega] at hq0
      have hU' := am_U_S hU (ar_fl_k hq0.2) (xO qF &&& 15)
      rw [← hq0.1] at hU'
      refine ih (k + 1) _ ⟨(qF + 1) % 16, _, _, _, _, _, _, _, rfl, hU', by omega, by omega, ar_Bu hb (ar_fl_B _), fun j hj => ?_⟩ (by omega) (fun k' N' u' a b => hp k' N' u' (by omega) b) f' (by omega)
      have := hq (j + 1) (by omega)
      rw [show (qF + (j + 1)) % 16 = ((qF + 1) % 16 + j) % 16 by omega, show E + k + (j + 1) = E + (k + 1) + j by omega] at this
      exact this
end
section
variable {S C qF qN F n E Pp : Nat} {Lz : Int32} {xO xA xB xT op A B tg hs : Nat → Int32} {id : Nat → Nat} {pr sn ng : Nat → Bool} {st tk : Nat → Int32} {u : St2}
theorem am_eloop (hW : am_W C F n E tg hs id pr) {n0 k : Nat} (hk : n0 + k = n) (hfst : ∀ r, r + 1 = n0 → hs r = 0) (post : Int32 → St2 → Prop) (hend : ∀ (st tk : Nat → Int32) (u : St2), am_G S C qF qN F n E Pp Lz xO xA xB xT op A B tg hs id pr sn ng st tk E u → lx_ee post (nI n0) (nI n) u) :
    ∀ d i (st tk : Nat → Int32) (u : St2), i + d = k → am_G S C qF qN F n E Pp Lz xO xA xB xT op A B tg hs id pr sn ng st tk E u → (∀ h, n0 + i ≤ h → (h = n0 ∨ hs (h - 1) = 0) → ∀ p, h ≤ p → p < n → st p = 0) → ∀ f, d < f → lx_22 post (nI n0) (nI n) f (nI (n0 + i)) u := by
  have hW' := hW
  obtain ⟨hC, hn, hF, hS⟩ := hW'
  intro d
  induction d with
  | zero =>
    intro i st tk u hi hG hInv f hf
    obtain ⟨f', rfl⟩ : ∃ f', f = f' + 1 := ⟨f - 1, by omega⟩
    have h1 := hend st tk u hG
    obtain ⟨c, o, m, Pt, e, H, V, T, R, bl, bf, rfl, hPt, hD, hL, hNn, hB, hP, hc, hmo⟩ := hG
    exact br_t (nI_le (by omega) (by omega)) h1
  | succ d ih =>
    intro i st tk u hi hG hInv f hf
    obtain ⟨f', rfl⟩ : ∃ f', f = f' + 1 := ⟨f - 1, by omega⟩
    have e1 : ¬ i = 0 → nI (n0 + i) - 1 = nI (n0 + i - 1) := fun _ => by
      have := nI_pred (n0 + i - 1)
      rw [show n0 + i - 1 + 1 = n0 + i by omega] at this
      exact this
    by_cases hz : i = 0 ∨ hs (n0 + i - 1) = 0
    · have hst : st (n0 + i) = 0 := by
        refine hInv (n0 + i) (Nat.le_refl _) ?_ (n0 + i) (Nat.le_refl _) (by omega)
        rcases hz with z | z
        · exact Or.inl (by omega)
        · exact Or.inr z
      have hH : ar_H st hs (n0 + i) := by
        intro r hr
        rcases hz with z | z
        · exact Or.inr (hfst r (by omega))
        · rw [show n0 + i - 1 = r by omega] at z; exact Or.inr z
      have hG' := hG
      obtain ⟨c, o, m, Pt, e, H, V, T, R, bl, bf, rfl, hPt, hD, hL, hNn, hB, hP, hc, hmo⟩ := hG
      have h46 : wX_enter_46 post (wX_enter_22 post (nI n0) (nI n) f') (nI n0) (nI n) (nI (n0 + i)) (nI S) (nI C) Lz (nI qF) (nI qN) (nI F) (nI (c + o)) (nI c) (nI n) xO xA xB xT T R op A B tg st tk hs bl bf := by
        unfold wX_enter_46
        refine lx_rc_w _ (d + 2) _ _ (am_run hW _ (d + 1) (n0 + i) st tk _ (by omega) (by omega) hG' (Or.inl hst) hH (fun u' st' tk' g1 g2 => ?_) (d + 2) (by omega))
        have h3 := ih (i + 1) st' tk' u' (by omega) g1 (fun h h1 h2 p h3 h4 => by
          have h5 : hs (h - 1) = 0 := by
            rcases h2 with z | z
            · omega
            · exact z
          exact g2.2 h (by omega) h5 (hInv h (by omega) (Or.inr h5)) p h3 h4) f' (by omega)
        obtain ⟨c1, o1, m1, Pt1, e1, H1, V1, T1, R1, bl1, bf1, rfl, hPt1, hD1, hL1, hNn1, hB1, hP1, hc1, hmo1⟩ := g1
        exact nm_r (nI_1 (n0 + i)) h3
      refine br_f (nI_ge (by omega) (by omega)) ?_
      by_cases y : i = 0
      · exact br_t (by rw [y]; rfl) h46
      · have z : hs (n0 + i - 1) = 0 := by
          rcases hz with z | z
          · exact absurd z y
          · exact z
        exact br_f (by rw [nI_eq (by omega) (by omega)]; omega) ⟨by rw [e1 y]; exact vp_in_nI (by omega) (by omega), br_t (by rw [e1 y, nI_clamp (by omega)]; exact z) h46⟩
    · have hi0 : ¬ i = 0 := fun w => hz (Or.inl w)
      have h3 := ih (i + 1) st tk u (by omega) hG (fun h h1 => hInv h (by omega)) f' (by omega)
      obtain ⟨c, o, m, Pt, e, H, V, T, R, bl, bf, rfl, hPt, hD, hL, hNn, hB, hP, hc, hmo⟩ := hG
      exact br_f (nI_ge (by omega) (by omega)) (br_f (by rw [nI_eq (by omega) (by omega)]; omega) ⟨by rw [e1 hi0]; exact vp_in_nI (by omega) (by omega), br_f (by rw [e1 hi0, nI_clamp (by omega)]; exact fun w => hz (Or.inr w)) (nm_r (nI_1 (n0 + i)) h3)⟩)
end
section
variable {S C F n qF qN c o : Nat} {Lz : Int32} {xO xA xB xT op A B tg hs T R st tk bl bf : Nat → Int32}
theorem ax_flush (post : St2 → Prop) (hC : C ≤ 16) (hc : c ≤ C) (ho : o ≤ 32) (h : ∀ c' o', c' + o' = c + o → c' ≤ C → o' ≤ o → post (nI S, nI C, Lz, nI qF, nI qN, nI F, nI (c' + o'), nI c', nI n, xO, xA, xB, xT, T, R, op, A, B, tg, st, tk, hs, bl, bf)) : wpX_flush post (nI S, nI C, Lz, nI qF, nI qN, nI F, nI (c + o), nI c, nI n, xO, xA, xB, xT, T, R, op, A, B, tg, st, tk, hs, bl, bf) := by
  refine br_c (fun z => ?_) (fun z => ?_)
  · have z' : C ≤ c + o := (nI_leI (by omega) (by omega)).mp z
    have h1 := h C (c + o - C) (by omega) (by omega) (by omega)
    rw [show C + (c + o - C) = c + o by omega] at h1
    exact h1
  · have z' : ¬ C ≤ c + o := fun w => z (nI_le w (by omega))
    exact h (c + o) 0 (by omega) (by omega) (by omega)
end
theorem am_pr_lt {pr lk : Nat → Bool} {E k : Nat} (hpr : ∀ i, pr i = true → i + 1 < E) : ∀ i, am_pr pr lk E k i = true → i + 1 < E + k := by
  intro i hi
  unfold am_pr at hi
  by_cases z : E ≤ i ∧ i + 1 < E + k
  · exact z.2
  · rw [if_neg z] at hi; have := hpr i hi; omega
theorem am_enter {E Pp acc : Nat} {pr sn ng lk : Nat → Bool} {u : St2} (hR : am_R E Pp acc pr sn ng lk u) (X1 : Int32) (post : Int32 → St2 → Prop) (h : ∀ k u', E + k ≤ acc → am_R (E + k) Pp acc (am_pr pr lk E k) sn ng lk u' → post (nI k) u') : wpX_enter post u X1 := by
  obtain ⟨S, C, qF, qN, F, n0, Lz, xO, xA, xB, xT, op0, A0, B0, tg0, hs0, st0, tk0, id, c0, o0, Pt, H, V, T, R, bl, bf, rfl, hPt, hD0, hL0, hNn0, hB0, hP0, hc0, hmo0, hW0, hbh, hacc, hqS, hS16, hqF, hq, hpr⟩ := hR
  obtain ⟨hC, hn0, hF, hS0⟩ := hW0
  have hO := am_O_of hL0 hNn0
  have hU0 : am_U n0 E 0 tg0 hs0 st0 op0 id pr lk := ⟨hS0, hL0.2.2.1, fun p hp => (hL0.1.2.1 p hp).2, hP0, fun j hj => absurd hj (by omega)⟩
  unfold wpX_enter
  refine ax_flush _ hC hc0 (by omega) (fun c o h1 h2 h3 => ?_)
  have e2 : nI (c + o) - nI c = nI o := by rw [pk_sub (by omega), show c + o - c = o by omega]
  refine nm_r e2 ⟨qN + 1, am_take (S := S) (C := C) (F := F) (E := E) (n0 := n0) (c := c) (o := o) (Lz := Lz) (id := id) (pr := pr) (lk := lk) (xO := xO) (xA := xA) (xB := xB) (xT := xT) (T := T) (R := R) (bl := bl) (bf := bf) X1 _ qN 0 _ ⟨qF, op0, A0, B0, tg0, hs0, st0, tk0, rfl, hU0, by omega, hqF, hbh, hq⟩ (by omega) (fun k N u2 hkN hK => ?_) (qN + 1) (by omega)⟩
  obtain ⟨qF1, op, A, B, tg, hs, st, tk, rfl, hU, hno, hqF1, hb, hq1⟩ := hK
  obtain ⟨a1, a2, a3, a4⟩ := am_new hO hU hpr
  have hWn : am_W C F (n0 + k) (E + k) tg (ar_he hs n0 k) (am_id id n0 E) (am_pr pr lk E k) := ⟨hC, by omega, hF, a1⟩
  have hD' : am_D F (c + o) Pp T R H V := by rw [h1]; exact hD0
  have hG : am_G S C qF1 N F (n0 + k) (E + k) Pp Lz xO xA xB xT op A B tg (ar_he hs n0 k) (am_id id n0 E) (am_pr pr lk E k) sn ng st tk (E + k) (nI S, nI C, Lz, nI qF1, nI N, nI F, nI (c + o), nI c, nI (n0 + k), xO, xA, xB, xT, T, R, op, A, B, tg, st, tk, ar_he hs n0 k, bl, bf) :=
    ⟨c, o, n0 + k, Pt, (fun j => j), H, V, T, R, bl, bf, rfl, by omega, hD', a2, a3, hB0, a4, h2, by omega⟩
  have hst : ∀ p, n0 ≤ p → p < n0 + k → st p = 0 := fun p g1 g2 => by
    have := (hU.2.2.2.2 (p - n0) (by omega)).2.2
    rw [show n0 + (p - n0) = p by omega] at this
    exact this
  have hfst : ∀ r, r + 1 = n0 → ar_he hs n0 k r = 0 := by
    intro r hr
    have e1 : ar_he hs n0 k r = hs r := if_neg (by omega)
    rw [e1]
    by_cases z : hs r = 0
    · exact z
    · have := (hU.2.1 r (by omega) (hU.2.2.1 r (by omega)) z).1
      omega
  have hend : ∀ (st tk : Nat → Int32) (u : St2), am_G S C qF1 N F (n0 + k) (E + k) Pp Lz xO xA xB xT op A B tg (ar_he hs n0 k) (am_id id n0 E) (am_pr pr lk E k) sn ng st tk (E + k) u → lx_ee post (nI n0) (nI (n0 + k)) u := by
    intro st tk u hG
    have hd := fun P => am_drop (lk := lk) (acc := acc) hWn (ar_he_B hb) (by omega) (by omega) hS16 hqF1 hq1 (am_pr_lt hpr) hG P
    obtain ⟨c1, o1, m1, Pt1, e1, H1, V1, T1, R1, bl1, bf1, rfl, hPt1, hD1, hL1, hNn1, hB1, hP1, hc1, hmo1⟩ := hG
    refine hd _ (fun u' hR' => ?_)
    have h2 := h k u' (by omega) hR'
    rw [show nI k = nI (n0 + k) - nI n0 by rw [pk_sub (by omega), show n0 + k - n0 = k by omega]] at h2
    obtain ⟨w0, w1, w2, w3, w4, w5, w6, w7, w8, w9, w10, w11, w12, w13, w14, w15, w16, w17, w18, w19, w20, w21, w22, w23⟩ := u'
    exact h2
  have key := am_eloop hWn (n0 := n0) (k := k) rfl hfst post hend k 0 st tk _ (by omega) hG (fun g g1 _ p g3 g4 => hst p (by omega) g4) (k + 1) (by omega)
  by_cases z : k = 0
  · subst z
    rw [ar_he_0] at key
    exact br_t (nI_le (by omega) (by omega)) ⟨_, key⟩
  · have e1 : nI (n0 + k) - 1 = nI (n0 + k - 1) := by
      have := nI_pred (n0 + k - 1)
      rw [show n0 + k - 1 + 1 = n0 + k by omega] at this
      exact this
    refine br_f (nI_ge (by omega) (by omega)) ⟨by rw [e1]; exact vp_in_nI (by omega) (by omega), nm_r (e' := ar_he hs n0 k) ?_ ⟨_, key⟩⟩
    rw [e1, nI_clamp (by omega), ar_he_k (by omega)]
end
section
theorem wb_tb (n : Nat) : (lN n).toBitVec = BitVec.ofNat 64 n := rfl
theorem wb_inj {a b : Int64} (h : a.toBitVec = b.toBitVec) : a = b := Int64.toBitVec_inj.mp h
theorem wb_tn {n : Nat} (h : n < 2 ^ 64) : (lN n).toBitVec.toNat = n := by rw [wb_tb, BitVec.toNat_ofNat, Nat.mod_eq_of_lt h]
theorem wb_of (x : Int64) : ∃ n, n < 2 ^ 64 ∧ x = lN n := ⟨x.toBitVec.toNat, x.toBitVec.isLt, wb_inj (by rw [wb_tb]; simp)⟩
theorem wb_of32 (x : Int32) : ∃ n, n < 2 ^ 32 ∧ x = nI n := ⟨x.toBitVec.toNat, x.toBitVec.isLt, Int32.toBitVec_inj.mp (by show _ = BitVec.ofNat 32 _; simp)⟩
theorem wb_c : ∀ k, k < 64 → ((nI k).toInt64 &&& 63) = lN k := by decide +kernel
theorem wb_cu : ∀ k, k < 64 → ((nI k).toInt64.toUInt64 &&& Int64.toUInt64 63) = UInt64.ofNat k := by decide +kernel
theorem wb_sm : ∀ k, k < 64 → (BitVec.ofNat 64 k).smod 64 = BitVec.ofNat 64 k := by decide +kernel
theorem wb_pw {a b : Nat} (h : a ≤ b) : 2 ^ b = 2 ^ a * 2 ^ (b - a) := by rw [← Nat.pow_add]; congr 1; omega
theorem wb_lt2 {a b : Nat} (h : a < b) : 2 ^ a < 2 ^ b := Nat.pow_lt_pow_right (by decide) h
theorem wb_mod (n : Nat) : lN n = lN (n % 2 ^ 64) := wb_inj (by rw [wb_tb, wb_tb]; apply BitVec.eq_of_toNat_eq; rw [BitVec.toNat_ofNat, BitVec.toNat_ofNat, Nat.mod_mod])
theorem wb_shr {n k : Nat} (hn : n < 2 ^ 64) (hk : k < 64) : ((lN n).toUInt64 >>> ((nI k).toInt64.toUInt64 &&& Int64.toUInt64 63)).toInt64 = lN (n / 2 ^ k) := by
  rw [wb_cu k hk]
  apply wb_inj
  apply BitVec.eq_of_toNat_eq
  show ((lN n).toUInt64 >>> UInt64.ofNat k).toNat = (BitVec.ofNat 64 _).toNat
  have h1 : (UInt64.ofNat k).toNat = k := by
    show (BitVec.ofNat 64 k).toNat = k
    rw [BitVec.toNat_ofNat, Nat.mod_eq_of_lt (by omega)]
  have h2 : (lN n).toUInt64.toNat = n := wb_tn hn
  rw [UInt64.toNat_shiftRight, h1, h2, Nat.mod_eq_of_lt hk, Nat.shiftRight_eq_div_pow, BitVec.toNat_ofNat, Nat.mod_eq_of_lt (Nat.lt_of_le_of_lt (Nat.div_le_self _ _) hn)]
theorem wb_shl (n : Nat) {k : Nat} (hk : k < 64) : lN n <<< ((nI k).toInt64 &&& 63) = lN (n * 2 ^ k) := by
  rw [wb_c k hk]
  apply wb_inj
  rw [Int64.toBitVec_shiftLeft, wb_tb, wb_tb, wb_tb, wb_sm k hk]
  apply BitVec.eq_of_toNat_eq
  rw [BitVec.shiftLeft_eq', BitVec.toNat_shiftLeft, BitVec.toNat_ofNat, BitVec.toNat_ofNat, BitVec.toNat_ofNat, Nat.mod_eq_of_lt (show k < 2 ^ 64 by omega), Nat.shiftLeft_eq, Nat.mul_mod, Nat.mod_mod, ← Nat.mul_mod]
theorem wb_and {a b : Nat} (ha : a < 2 ^ 64) (hb : b < 2 ^ 64) : lN a &&& lN b = lN (a &&& b) := by
  apply wb_inj
  rw [Int64.toBitVec_and, wb_tb, wb_tb, wb_tb]
  apply BitVec.eq_of_toNat_eq
  rw [BitVec.toNat_and, BitVec.toNat_ofNat, BitVec.toNat_ofNat, BitVec.toNat_ofNat, Nat.mod_eq_of_lt ha, Nat.mod_eq_of_lt hb, Nat.mod_eq_of_lt (Nat.and_lt_two_pow _ hb)]
theorem wb_or {a b : Nat} (ha : a < 2 ^ 64) (hb : b < 2 ^ 64) : lN a ||| lN b = lN (a ||| b) := by
  apply wb_inj
  rw [Int64.toBitVec_or, wb_tb, wb_tb, wb_tb]
  apply BitVec.eq_of_toNat_eq
  rw [BitVec.toNat_or, BitVec.toNat_ofNat, BitVec.toNat_ofNat, BitVec.toNat_ofNat, Nat.mod_eq_of_lt ha, Nat.mod_eq_of_lt hb, Nat.mod_eq_of_lt (Nat.or_lt_two_pow ha hb)]
theorem wb_mask {n k : Nat} (hn : n < 2 ^ 64) (hk : k < 64) : lN n &&& lN (2 ^ k - 1) = lN (n % 2 ^ k) := by
  rw [wb_and hn (by have := wb_lt2 hk; omega), Nat.and_two_pow_sub_one_eq_mod]
theorem wb_a1 {n : Nat} (hn : n < 2 ^ 64) : lN n &&& 1 = lN (n % 2) := wb_mask (k := 1) hn (by decide)
theorem wb_bit {n k : Nat} (hn : n < 2 ^ 64) (hk : k < 64) : ((lN n).toUInt64 >>> ((nI k).toInt64.toUInt64 &&& Int64.toUInt64 63)).toInt64 &&& 1 = lN (n / 2 ^ k % 2) := by
  rw [wb_shr hn hk, wb_a1 (Nat.lt_of_le_of_lt (Nat.div_le_self _ _) hn)]
/-! bits of a long -/
def am_ad (f : Nat → Bool) (y : Nat) : Nat → Bool := fun i => if i = y then true else f i
def am_bits (w : Int64) (f : Nat → Bool) : Prop := ∃ M, M < 2 ^ 64 ∧ w = lN M ∧ ∀ i, i < 64 → M.testBit i = f i
theorem am_bits_0 {f : Nat → Bool} (h : ∀ i, i < 64 → f i = false) : am_bits 0 f := ⟨0, by decide, rfl, fun i hi => by rw [Nat.zero_testBit, h i hi]⟩
theorem am_bits_c {w : Int64} {f g : Nat → Bool} (h : am_bits w f) (hg : ∀ i, i < 64 → g i = f i) : am_bits w g := by
  obtain ⟨M, h1, h2, h3⟩ := h
  exact ⟨M, h1, h2, fun i hi => by rw [h3 i hi, hg i hi]⟩
theorem am_bits_or {w : Int64} {f : Nat → Bool} (h : am_bits w f) {y : Nat} (hy : y < 64) : am_bits (w ||| ((1 : Int64) <<< ((nI y).toInt64 &&& 63))) (am_ad f y) := by
  obtain ⟨M, h1, rfl, h3⟩ := h
  have e1 : (1 : Int64) <<< ((nI y).toInt64 &&& 63) = lN (2 ^ y) := by
    have := wb_shl 1 hy
    rw [Nat.one_mul] at this
    exact this
  have h4 : 2 ^ y < 2 ^ 64 := wb_lt2 hy
  refine ⟨M ||| 2 ^ y, Nat.or_lt_two_pow h1 h4, by rw [e1, wb_or h1 h4], fun i hi => ?_⟩
  rw [Nat.testBit_or, h3 i hi, Nat.testBit_two_pow]
  unfold am_ad
  by_cases z : i = y
  · subst z; simp
  · rw [if_neg z, decide_eq_false (fun w => z w.symm), Bool.or_false]
theorem am_bit (post : Int32 → Prop) {w : Int64} {f : Nat → Bool} (h : am_bits w f) {y : Nat} (hy : y < 64) (h1 : f y = true → post 1) (h0 : f y = false → post 0) : wpL_bit post () w (nI y) := by
  obtain ⟨M, a1, rfl, a3⟩ := h
  have e1 := wb_bit a1 hy
  have e2 := a3 y hy
  rw [Nat.testBit_eq_decide_div_mod_eq] at e2
  refine br_f (nI_pos (by omega)) (br_f (nI_ge (b := 64) hy (by decide)) ?_)
  rw [e1]
  by_cases z : M / 2 ^ y % 2 = 1
  · rw [z]
    refine br_f (by decide) (h1 (by rw [← e2]; exact decide_eq_true z))
  · have z' : M / 2 ^ y % 2 = 0 := by omega
    rw [z']
    exact br_t rfl (h0 (by rw [← e2]; exact decide_eq_false z))
theorem am_obs (post : Int32 → Prop) {se ne pa : Int64} {sn ng pr : Nat → Bool} {y E : Nat} {r : Int32} (h1 : am_bits se sn) (h2 : am_bits ne ng) (h3 : am_bits pa pr) (hy : y < E) (hE : E ≤ 64) (hs : sn y = false) (hc : ∀ i, i + 1 = y → pr i = true → sn i = true ∧ (ng i = true → r = -125)) (hp : post 1) : wpL_obsOk post () se ne pa (nI y) r (nI E) := by
  refine br_f (nI_pos (by omega)) (br_f (nI_ge hy (by omega)) (br_f (nI_ge (b := 64) (by omega) (by decide)) (am_bit _ h1 (by omega) (fun w => ?_) (fun _ => br_t rfl ?_))))
  · rw [hs] at w; exact absurd w (by decide)
  · by_cases z : y = 0
    · exact br_t (by rw [z]; decide) hp
    · have e1 : nI y - 1 = nI (y - 1) := by
        have := nI_pred (y - 1)
        rw [show y - 1 + 1 = y by omega] at this
        exact this
      refine br_f (nI_nle (by omega) (by omega)) ?_
      rw [e1]
      refine am_bit _ h3 (by omega) (fun w => br_f (by decide) ?_) (fun w => br_t rfl hp)
      obtain ⟨b1, b2⟩ := hc (y - 1) (by omega) w
      refine am_bit _ h1 (by omega) (fun _ => br_f (by decide) ?_) (fun w => ?_)
      · exact am_bit _ h2 (by omega) (fun w => br_f (by decide) (br_t (b2 w) hp)) (fun _ => br_t rfl hp)
      · rw [b1] at w; exact absurd w (by decide)
end
section
section
variable {E Pp acc : Nat} {pr sn ng lk : Nat → Bool} {u : St2}
theorem am_counts (hR : am_R E Pp acc pr sn ng lk u) : ∃ n c o : Nat, n + Pp + c + o = E ∧ o ≤ 32 ∧ n ≤ 32 ∧ c ≤ 16 ∧ (∀ post : Int32 → Prop, post (nI o) → wpX_overflowCount post u) ∧ (∀ post : Int32 → Prop, post (nI n) → wpX_liveCount post u) ∧ (∀ post : Int32 → Prop, post (nI c) → wpX_cqReady post u) := by
  obtain ⟨S, C, qF, qN, F, n, Lz, xO, xA, xB, xT, op, A, B, tg, hs, st, tk, id, c, o, Pt, H, V, T, R, bl, bf, rfl, hPt, hD, hL, hNn, hB, hP, hc, hmo, hW, hbh, hacc, hqS, hS16, hqF, hq, hpr⟩ := hR
  have hm := hL.2.1
  obtain ⟨hC, hn, hF, hS⟩ := hW
  refine ⟨n, c, o, by omega, by omega, hn, by omega, fun post hp => ?_, fun post hp => hp, fun post hp => hp⟩
  show post (nI (c + o) - nI c)
  rw [pk_sub (by omega), show c + o - c = o by omega]
  exact hp
theorem am_setBuffer (hR : am_R E Pp acc pr sn ng lk u) (x y : Int32) (post : Int32 → St2 → Prop) (h : ∀ r u', am_R E Pp acc pr sn ng lk u' → post r u') : wpX_setBuffer post u x y := by
  have h0 := fun r => h r u hR
  obtain ⟨S, C, qF, qN, F, n, Lz, xO, xA, xB, xT, op, A, B, tg, hs, st, tk, id, c, o, Pt, H, V, T, R, bl, bf, rfl, hPt, hD, hL, hNn, hB, hP, hc, hmo, hW, hbh, hacc, hqS, hS16, hqF, hq, hpr⟩ := hR
  unfold wpX_setBuffer
  exact ax_buf _ _ (fun z => br_f (by decide) ⟨ar_buf_in z, nm_e (h _ _ ⟨S, C, qF, qN, F, n, Lz, xO, xA, xB, xT, op, A, B, tg, hs, st, tk, id, c, o, Pt, H, V, T, R, bl, _, rfl, hPt, hD, hL, hNn, hB, hP, hc, hmo, hW, hbh, hacc, hqS, hS16, hqF, hq, hpr⟩)⟩) (fun _ => br_t rfl (h0 0))
theorem am_prep (hR : am_R E Pp acc pr sn ng lk u) (x a b : Int32) {lk' : Nat → Bool} (h1 : ∀ i, i < acc → lk' i = lk i) (h2 : ¬ x &&& 16 = 0 ↔ lk' acc = true) (post : Int32 → St2 → Prop) (hp0 : am_R E Pp acc pr sn ng lk u → post 0 u) (hp1 : ∀ u', am_R E Pp (acc + 1) pr sn ng lk' u' → post 1 u') : wpX_prep post u x a b (nI (1000 + acc)) := by
  have h0 := hp0 hR
  obtain ⟨S, C, qF, qN, F, n, Lz, xO, xA, xB, xT, op, A, B, tg, hs, st, tk, id, c, o, Pt, H, V, T, R, bl, bf, rfl, hPt, hD, hL, hNn, hB, hP, hc, hmo, hW, hbh, hacc, hqS, hS16, hqF, hq, hpr⟩ := hR
  by_cases h : qN < S
  · have i0 : vp_in (nI ((qF + qN) % 16)) 16 := vp_in_nI (Nat.mod_lt _ (by omega)) (by omega)
    have hm : (qF + qN) % 16 < 2 ^ 31 := by omega
    refine br_t (nI_lt h (by omega)) ⟨by decide, nm_r (ar_r16 qF qN (by omega)) ⟨i0, nm_r (ar_uc xO x hm) ⟨i0, nm_r (ar_uc xA a hm) ⟨i0, nm_r (ar_uc xB b hm) ⟨i0, nm_r (ar_uc xT (nI (1000 + acc)) hm) (nm_r (nI_1 qN) (hp1 _ ?_))⟩⟩⟩⟩⟩
    refine ⟨S, C, qF, qN + 1, F, n, Lz, _, _, _, _, op, A, B, tg, hs, st, tk, id, c, o, Pt, H, V, T, R, bl, bf, rfl, hPt, hD, hL, hNn, hB, hP, hc, hmo, hW, hbh, by omega, by omega, hS16, hqF, fun j hj => ?_, hpr⟩
    by_cases z : j = qN
    · subst z
      rw [pk_us, pk_us, hacc]
      exact ⟨rfl, h2⟩
    · rw [pk_un (by omega), pk_un (by omega), h1 (E + j) (by omega)]
      exact hq j (by omega)
  · exact br_f (nI_nlt (by omega) (by omega)) h0
/-- the completion at place j -/
theorem ax_tag {S C F n qF qN D : Nat} {Lz cq : Int32} {xO xA xB xT op A B tg hs T R st tk bl bf : Nat → Int32} (post : Int32 → Prop) {j : Nat} (hj : j < D) (hD : D ≤ 48) (hF : F < 48) (hp : post (T ((F + j) % 48))) : wpX_cqTag post (nI S, nI C, Lz, nI qF, nI qN, nI F, nI D, cq, nI n, xO, xA, xB, xT, T, R, op, A, B, tg, st, tk, hs, bl, bf) (nI j) := by
  have e1 := ar_r48 F j (by omega)
  refine br_f (nI_pos (by omega)) (br_t (nI_lt hj (by omega)) ⟨by decide, by rw [e1]; exact vp_in_nI (Nat.mod_lt _ (by omega)) (by omega), ?_⟩)
  rw [e1, nI_clamp (by omega)]; exact hp
theorem ax_res {S C F n qF qN D : Nat} {Lz cq : Int32} {xO xA xB xT op A B tg hs T R st tk bl bf : Nat → Int32} (post : Int32 → Prop) {j : Nat} (hj : j < D) (hD : D ≤ 48) (hF : F < 48) (hp : post (R ((F + j) % 48))) : wpX_cqResult post (nI S, nI C, Lz, nI qF, nI qN, nI F, nI D, cq, nI n, xO, xA, xB, xT, T, R, op, A, B, tg, st, tk, hs, bl, bf) (nI j) := by
  have e1 := ar_r48 F j (by omega)
  refine br_f (nI_pos (by omega)) (br_t (nI_lt hj (by omega)) ⟨by decide, by rw [e1]; exact vp_in_nI (Nat.mod_lt _ (by omega)) (by omega), ?_⟩)
  rw [e1, nI_clamp (by omega)]; exact hp
/-- what the t-th completion is, when those before it have been seen -/
theorem am_seen {n m Pt k : Nat} {st hs : Nat → Int32} {e id H : Nat → Nat} {V : Nat → Int32} (hL : am_L n m E Pt st hs e id pr H V) (hk : k < Pt) (hB : am_B k H V sn ng) :
    H k < E ∧ sn (H k) = false ∧ (∀ i, i + 1 = H k → pr i = true → sn i = true ∧ (ng i = true → V k = -125)) := by
  obtain ⟨hE, hm, hC, h1, h2, h3, h4, h5⟩ := hL
  refine ⟨h1 k hk, ?_, fun i hi hp => ?_⟩
  · by_cases z : sn (H k) = true
    · obtain ⟨t, a, b⟩ := (hB.1 (H k)).mp z
      exact absurd b (h2 t k a hk)
    · exact Bool.eq_false_iff.mpr z
  · obtain ⟨t', a, b, c⟩ := h5 k i hk hi.symm hp
    refine ⟨(hB.1 i).mpr ⟨t', a, b⟩, fun w => ?_⟩
    obtain ⟨t, a1, b1, c1⟩ := (hB.2 i).mp w
    have : t = t' := by
      rcases Nat.lt_trichotomy t t' with z | z | z
      · exact absurd (b1.trans b.symm) (h2 t t' z (by omega))
      · exact z
      · exact absurd (b.trans b1.symm) (h2 t' t z (by omega))
    rw [this] at c1
    exact c c1
theorem am_B_n {k : Nat} {H : Nat → Nat} {V : Nat → Int32} (hB : am_B k H V sn ng) : am_B (k + 1) H V (am_ad sn (H k)) (if V k < 0 then am_ad ng (H k) else ng) := by
  refine ⟨fun i => ?_, fun i => ?_⟩
  · unfold am_ad
    by_cases z : i = H k
    · rw [if_pos z]; exact ⟨fun _ => ⟨k, by omega, z.symm⟩, fun _ => rfl⟩
    · rw [if_neg z, hB.1 i]
      refine ⟨fun ⟨t, a, b⟩ => ⟨t, by omega, b⟩, fun ⟨t, a, b⟩ => ⟨t, ?_, b⟩⟩
      by_cases y : t = k
      · rw [y] at b; exact absurd b.symm z
      · omega
  · by_cases v : V k < 0
    · rw [if_pos v]
      unfold am_ad
      by_cases z : i = H k
      · rw [if_pos z]; exact ⟨fun _ => ⟨k, by omega, z.symm, v⟩, fun _ => rfl⟩
      · rw [if_neg z, hB.2 i]
        refine ⟨fun ⟨t, a, b, c⟩ => ⟨t, by omega, b, c⟩, fun ⟨t, a, b, c⟩ => ⟨t, ?_, b, c⟩⟩
        by_cases y : t = k
        · rw [y] at b; exact absurd b.symm z
        · omega
    · rw [if_neg v, hB.2 i]
      refine ⟨fun ⟨t, a, b, c⟩ => ⟨t, by omega, b, c⟩, fun ⟨t, a, b, c⟩ => ⟨t, ?_, b, c⟩⟩
      by_cases y : t = k
      · rw [y] at c; exact absurd c v
      · omega
theorem am_pop (hR : am_R E Pp acc pr sn ng lk u) :
    ((∀ post : Int32 → Prop, post 0 → wpX_cqReady post u) ∧ (∃ t, ∀ post : Int32 → Prop, post t → wpX_cqTag post u 0) ∧ (∃ t, ∀ post : Int32 → Prop, post t → wpX_cqResult post u 0) ∧ (∀ post : Int32 → St2 → Prop, post 0 u → wpX_pop post u)) ∨
    (∃ c y r u', 0 < c ∧ c ≤ 16 ∧ (∀ post : Int32 → Prop, post (nI c) → wpX_cqReady post u) ∧ (∀ post : Int32 → Prop, post (nI (1000 + y)) → wpX_cqTag post u 0) ∧ (∀ post : Int32 → Prop, post r → wpX_cqResult post u 0) ∧ (∀ post : Int32 → St2 → Prop, post 1 u' → wpX_pop post u) ∧
      am_R E (Pp + 1) acc pr (am_ad sn y) (if r < 0 then am_ad ng y else ng) lk u' ∧ y < E ∧ sn y = false ∧ (∀ i, i + 1 = y → pr i = true → sn i = true ∧ (ng i = true → r = -125))) := by
  obtain ⟨S, C, qF, qN, F, n, Lz, xO, xA, xB, xT, op, A, B, tg, hs, st, tk, id, c, o, Pt, H, V, T, R, bl, bf, rfl, hPt, hD, hL, hNn, hB, hP, hc, hmo, hW, hbh, hacc, hqS, hS16, hqF, hq, hpr⟩ := hR
  have hW' := hW
  obtain ⟨hC, hn, hF, hS⟩ := hW'
  by_cases h : c = 0
  · refine Or.inl ⟨fun post hp => by subst h; exact hp, ?_, ?_, fun post hp => br_t (by rw [h]; rfl) hp⟩
    · by_cases z : 0 < c + o
      · exact ⟨_, fun post hp => ax_tag (j := 0) post z (by omega) hF hp⟩
      · exact ⟨0, fun post hp => br_f (by decide) (br_f (by rw [show c + o = 0 by omega]; decide) hp)⟩
    · by_cases z : 0 < c + o
      · exact ⟨_, fun post hp => ax_res (j := 0) post z (by omega) hF hp⟩
      · exact ⟨0, fun post hp => br_f (by decide) (br_f (by rw [show c + o = 0 by omega]; decide) hp)⟩
  · obtain ⟨c', rfl⟩ : ∃ c', c = c' + 1 := ⟨c - 1, by omega⟩
    have h0 := hD 0 (by omega)
    rw [show Pp + 0 = Pp by omega] at h0
    have hse := am_seen hL (show Pp < Pt by omega) hB
    have e1 : nI (c' + 1 + o) - 1 = nI (c' + o) := by rw [show c' + 1 + o = c' + o + 1 by omega, nI_pred]
    have e3 : nI F + 1 - (nI F + 1) / 48 * 48 = nI ((F + 1) % 48) := by
      rw [nI_1]; exact pk_rem (d := 48) (by omega) (by decide) (by decide)
    refine Or.inr ⟨c' + 1, H Pp, V Pp, _, by omega, by omega, fun post hp => hp, fun post hp => ax_tag (j := 0) post (by omega) (by omega) hF (by rw [h0.1]; exact hp), fun post hp => ax_res (j := 0) post (by omega) (by omega) hF (by rw [h0.2]; exact hp),
      fun post hp => br_f (nI_ne0 (by omega) (by omega)) ⟨by decide, nm_r e3 (nm_r e1 (nm_r (nI_pred c') hp))⟩, ?_, hse.1, hse.2.1, hse.2.2⟩
    refine ⟨S, C, qF, qN, (F + 1) % 48, n, Lz, xO, xA, xB, xT, op, A, B, tg, hs, st, tk, id, c', o, Pt, H, V, T, R, bl, bf, rfl, by omega, am_D_pop (by rw [show c' + o + 1 = c' + 1 + o by omega]; exact hD), hL, hNn, am_B_n hB, hP, by omega, hmo, ⟨hC, hn, by omega, hS⟩, hbh, hacc, hqS, hS16, hqF, hq, hpr⟩
end
end
section
theorem ax_ltag {S C F n qF qN D : Nat} {Lz cq : Int32} {xO xA xB xT op A B tg hs T R st tk bl bf : Nat → Int32} (post : Int32 → Prop) {j : Nat} (hj : j < n) (hn : n ≤ 32) (hp : post (tg j)) : wpX_liveTag post (nI S, nI C, Lz, nI qF, nI qN, nI F, nI D, cq, nI n, xO, xA, xB, xT, T, R, op, A, B, tg, st, tk, hs, bl, bf) (nI j) := by
  refine br_f (nI_pos (by omega)) (br_t (nI_lt hj (by omega)) ⟨vp_in_nI (by omega) (by omega), ?_⟩)
  rw [nI_clamp (by omega)]; exact hp
theorem ax_lst {S C F n qF qN D : Nat} {Lz cq : Int32} {xO xA xB xT op A B tg hs T R st tk bl bf : Nat → Int32} (post : Int32 → Prop) {j : Nat} (hj : j < n) (hn : n ≤ 32) (hp : ∀ z : Int32, (¬ st j = 1 → z = 0) → (hs j = 0 → post (2 * z + 0)) ∧ (¬ hs j = 0 → post (2 * z + 1))) : wpX_liveState post (nI S, nI C, Lz, nI qF, nI qN, nI F, nI D, cq, nI n, xO, xA, xB, xT, T, R, op, A, B, tg, st, tk, hs, bl, bf) (nI j) := by
  have i0 : vp_in (nI j) 32 := vp_in_nI (by omega) (by omega)
  have key : ∀ z : Int32, (¬ st j = 1 → z = 0) → wX_liveState_34 post (nI j) z (nI S) (nI C) Lz (nI qF) (nI qN) (nI F) (nI D) cq (nI n) xO xA xB xT T R op A B tg st tk hs bl bf := fun z hz => by
    refine And.intro i0 ?_
    rw [nI_clamp (by omega)]
    exact hp z hz
  refine br_f (nI_pos (by omega)) (br_t (nI_lt hj (by omega)) ⟨i0, ?_⟩)
  by_cases z : st j = 1
  · exact br_t (by rw [nI_clamp (by omega)]; exact z) ⟨i0, key _ (fun w => absurd z w)⟩
  · exact br_f (by rw [nI_clamp (by omega)]; exact z) (key 0 (fun _ => rfl))
theorem am_1000 (y : Nat) : nI (1000 + y) - 1000 = nI y := by
  have := pk_sub (a := 1000 + y) (b := 1000) (by omega)
  rw [show 1000 + y - 1000 = y by omega] at this
  exact this
theorem am_odd (z : Int32) : (2 * z + 1) &&& 1 = 1 := by
  rw [pk_and (2 * z + 1) (m := 1) 1 (by decide)]
  rw [Int32.toBitVec_add, Int32.toBitVec_mul, BitVec.toNat_add, BitVec.toNat_mul]
  have h2 : (2 : Int32).toBitVec.toNat = 2 := by decide
  have h1 : (1 : Int32).toBitVec.toNat = 1 := by decide
  rw [h2, h1]
  have : (2 * z.toBitVec.toNat % 2 ^ 32 + 1) % 2 ^ 32 % 2 ^ 1 = 1 := by omega
  rw [this]
  rfl
section
variable {S C F n qF qN c o E Pp Pt m kc ks L : Nat} {Lz : Int32} {xs : Nat → Int32} {xO xA xB xT op A B tg hs T R st tk bl bf V : Nat → Int32} {id H : Nat → Nat} {pr : Nat → Bool} {pa : Int64}
theorem al_690 (post : Int32 → Prop) (hp1 : post 1) (hL : am_L n n E Pt st hs (fun j => j) id pr H V) (hS : am_S n E tg hs id pr) (hn : n ≤ 32) (hE : E ≤ 64) (hpa : am_bits pa pr) : ∀ d j (se : Int64) (sn : Nat → Bool), j + d = n → am_bits se sn → (∀ i, sn i = true → (∃ t, t < Pt ∧ H t = i) ∨ (∃ p, p < j ∧ id p = i)) →
    wL_law_690 post L xs (nI E) pa (nI n) kc ks (nI S) (nI C) Lz (nI qF) (nI qN) (nI F) (nI (c + o)) (nI c) (nI n) xO xA xB xT T R op A B tg st tk hs bl bf (d + 1) se (nI j) := by
  intro d
  induction d with
  | zero =>
    intro j se sn hj hb hs
    exact br_t (nI_le (by omega) (by omega)) hp1
  | succ d ih =>
    intro j se sn hj hb hsn
    have hid := hS.1 j (by omega)
    have hlt : ∀ p, p < j → id p ≠ id j := fun p hp => by have := hS.2.1 p j hp (by omega); omega
    have hns : sn (id j) = false := by
      by_cases z : sn (id j) = true
      · rcases hsn _ z with ⟨t, a, b⟩ | ⟨p, a, b⟩
        · exact absurd b (hL.2.2.2.2.2.1 t j a (by omega) (hL.1.2.1 j (by omega)).2)
        · exact absurd b (hlt p a)
      · exact Bool.eq_false_iff.mpr z
    have hih := ih (j + 1) _ _ (by omega) (am_bits_or hb (show id j < 64 by omega)) (fun i hi => by
      unfold am_ad at hi
      by_cases z : i = id j
      · exact Or.inr ⟨j, by omega, z.symm⟩
      · rw [if_neg z] at hi
        rcases hsn i hi with w | ⟨p, a, b⟩
        · exact Or.inl w
        · exact Or.inr ⟨p, by omega, b⟩)
    refine br_f (nI_ge (by omega) (by omega)) (ax_ltag _ (j := j) (by omega) hn ?_)
    refine nm_r (e' := nI (id j)) (by rw [hid.1]; exact am_1000 _) (br_f (nI_pos (by omega)) (br_f (nI_ge hid.2 (by omega)) (br_f (nI_ge (b := 64) (by omega) (by decide)) ?_)))
    refine am_bit _ hb (by omega) (fun w => ?_) (fun _ => br_t rfl (nm_e ?_))
    · rw [hns] at w; exact absurd w (by decide)
    · refine am_bit _ hpa (by omega) (fun w => br_f (by decide) ?_) (fun _ => br_t rfl (nm_r (nI_1 j) hih))
      have hh : ¬ hs j = 0 := (hS.2.2.1 j (by omega)).mpr w
      obtain ⟨g1, g2⟩ := hS.2.2.2 j (by omega) hh
      have g3 := (hL.2.2.1 j (by omega) (hL.1.2.1 j (by omega)).2 hh).2
      refine ax_lst _ (by omega) hn (fun z _ => ⟨fun w => absurd w hh, fun _ => br_t (am_odd z) ?_⟩)
      have e1 : nI j + 1 = nI (j + 1) := nI_1 j
      refine br_f (by rw [e1]; exact nI_ge g1 (by omega)) ?_
      rw [e1]
      refine ax_ltag _ g1 hn (br_t ?_ ?_)
      · rw [(hS.1 (j + 1) g1).1, hid.1, g2, nI_1]
        rfl
      · refine ax_lst _ g1 hn (fun z hz => ?_)
        have z0 : z = 0 := hz (by rw [g3]; exact ar_01)
        subst z0
        exact ⟨fun _ => br_t (by decide) (nm_e hih), fun _ => br_f (by decide) (br_t (by decide) (nm_e hih))⟩
theorem al_592 (post : Int32 → Prop) (hp1 : post 1) (hL : am_L n n E Pt st hs (fun j => j) id pr H V) (hS : am_S n E tg hs id pr) (hn : n ≤ 32) (hE : E ≤ 64) (hF : F < 48) (hPt : Pp + (c + o) = Pt) (hco : c + o ≤ 48) (hD : am_D F (c + o) Pp T R H V) (hpa : am_bits pa pr) :
    ∀ d j (se ne : Int64) (sn ng : Nat → Bool), j + d = c + o → am_B (Pp + j) H V sn ng → am_bits se sn → am_bits ne ng → wL_law_592 post L xs (nI E) pa (nI (c + o)) kc ks (nI S) (nI C) Lz (nI qF) (nI qN) (nI F) (nI (c + o)) (nI c) (nI n) xO xA xB xT T R op A B tg st tk hs bl bf (d + 1) se ne (nI j) := by
  intro d
  induction d with
  | zero =>
    intro j se ne sn ng hj hB h1 h2
    refine br_t (nI_le (by omega) (by omega)) (br_f (nI_pos (n := n) (by omega)) (br_t (nI_le (b := 64) (by omega) (by decide)) ⟨n + 1, al_690 post hp1 hL hS hn hE hpa n 0 se sn (by omega) h1 (fun i hi => ?_)⟩))
    obtain ⟨t, a, b⟩ := (hB.1 i).mp hi
    exact Or.inl ⟨t, by omega, b⟩
  | succ d ih =>
    intro j se ne sn ng hj hB h1 h2
    have hDj := hD j (by omega)
    obtain ⟨s1, s2, s3⟩ := am_seen hL (show Pp + j < Pt by omega) hB
    have hB' := am_B_n hB
    have h1' := am_bits_or h1 (show H (Pp + j) < 64 by omega)
    have h2' := am_bits_or h2 (show H (Pp + j) < 64 by omega)
    refine br_f (nI_ge (by omega) (by omega)) (ax_tag _ (by omega) hco hF (nm_r (e' := nI (H (Pp + j))) (by rw [hDj.1]; exact am_1000 _) (ax_res _ (by omega) hco hF ?_)))
    rw [hDj.2]
    refine am_obs _ h1 h2 hpa s1 hE s2 s3 (br_f (by decide) (nm_e ?_))
    by_cases v : V (Pp + j) < 0
    · rw [if_pos v] at hB'
      exact br_f (Int32.not_le.mpr v) (nm_e (nm_r (nI_1 j) (ih (j + 1) _ _ _ _ (by omega) hB' h1' h2')))
    · rw [if_neg v] at hB'
      exact br_t (Int32.not_lt.mp v) (nm_r (nI_1 j) (ih (j + 1) _ _ _ _ (by omega) hB' h1' h2))
end
end
section
def ll_57 (post : Int32 → Prop) (L : Nat) (xs : Nat → Int32) (kc ks k : Nat) (x2 x3 x4 : Int32) (x5 x7 x9 x11 : Int64) (x13 : Int32) (u : St2) : Prop := match u with
  | (f_sqCapacity, f_cqCapacity, f_latency, f_sqFirst, f_sqCount, f_doneFirst, f_doneCount, f_cqCount, f_reqCount, a_sqOpFlags, a_sqA, a_sqB, a_sqTag, a_doneTag, a_doneResult, a_reqOpcode, a_reqA, a_reqB, a_reqTag, a_reqState, a_reqTicks, a_reqHasSuccessor, a_blocks, a_buffers) => wL_law_57 post L xs kc ks k x2 x3 x4 x5 x7 x9 x11 x13 f_sqCapacity f_cqCapacity f_latency f_sqFirst f_sqCount f_doneFirst f_doneCount f_cqCount f_reqCount a_sqOpFlags a_sqA a_sqB a_sqTag a_doneTag a_doneResult a_reqOpcode a_reqA a_reqB a_reqTag a_reqState a_reqTicks a_reqHasSuccessor a_blocks a_buffers
def ll_517 (post : Int32 → Prop) (L : Nat) (xs : Nat → Int32) (kc ks k : Nat) (x2 x3 x4 : Int32) (x5 x7 x9 x11 : Int64) (x13 : Int32) (u : St2) : Prop := match u with
  | (f_sqCapacity, f_cqCapacity, f_latency, f_sqFirst, f_sqCount, f_doneFirst, f_doneCount, f_cqCount, f_reqCount, a_sqOpFlags, a_sqA, a_sqB, a_sqTag, a_doneTag, a_doneResult, a_reqOpcode, a_reqA, a_reqB, a_reqTag, a_reqState, a_reqTicks, a_reqHasSuccessor, a_blocks, a_buffers) => wL_law_517 post L xs (wL_law_57 post L xs kc ks k) x2 x3 x4 x5 x7 x9 x11 x13 kc ks f_sqCapacity f_cqCapacity f_latency f_sqFirst f_sqCount f_doneFirst f_doneCount f_cqCount f_reqCount a_sqOpFlags a_sqA a_sqB a_sqTag a_doneTag a_doneResult a_reqOpcode a_reqA a_reqB a_reqTag a_reqState a_reqTicks a_reqHasSuccessor a_blocks a_buffers
theorem al_517 {post : Int32 → Prop} {L kc ks k E Pp acc P : Nat} {xs : Nat → Int32} {x2 : Int32} {x5 x7 x9 x11 : Int64} {pr sn ng lk : Nat → Bool} {u : St2} (hR : am_R E Pp acc pr sn ng lk u) (hP : P < 1000) (hJ : ll_57 post L xs kc ks k x2 (nI E) (nI Pp) x5 x7 x9 x11 (nI (P + 4)) u) : ll_517 post L xs kc ks k x2 (nI E) (nI Pp) x5 x7 x9 x11 (nI P) u := by
  obtain ⟨n, c, o, h1, h2, h3, h4, h5, h6, h7⟩ := am_counts hR
  have e1 : nI E = ((nI n + nI Pp) + nI c) + nI o := by rw [nI_add, nI_add, nI_add, h1]
  obtain ⟨f_sqCapacity, f_cqCapacity, f_latency, f_sqFirst, f_sqCount, f_doneFirst, f_doneCount, f_cqCount, f_reqCount, a_sqOpFlags, a_sqA, a_sqB, a_sqTag, a_doneTag, a_doneResult, a_reqOpcode, a_reqA, a_reqB, a_reqTag, a_reqState, a_reqTicks, a_reqHasSuccessor, a_blocks, a_buffers⟩ := u
  unfold ll_517
  dsimp only
  unfold wL_law_517
  exact h5 _ (br_f (nI_pos (by omega)) (br_t (nI_le (b := 32) h2 (by decide)) (h6 _ (h7 _ (br_t e1 (nm_r (e' := nI (P + 4)) (nI_add P 4) hJ))))))
theorem al_cell (post : Int32 → Prop) {L : Nat} {xs : Nat → Int32} {P : Nat} (hL : L < 2 ^ 31) (hP : P < 2 ^ 31) (h : ∀ v, post v) : wpL_cell post L xs () (nI P) := by
  by_cases z : L ≤ P
  · exact br_t (nI_le z hP) (h _)
  · exact br_f (nI_ge (by omega) hL) ⟨vp_in_nI (by omega) hL, h _⟩
theorem am_f1 : ∀ v, v < 8 → ¬ (nI v ||| 16) &&& 16 = 0 := by decide +kernel
theorem am_f0 : ∀ v, v < 8 → (nI v ||| 0) &&& 16 = 0 := by decide +kernel
section
variable {f_sqCapacity f_cqCapacity f_latency f_sqFirst f_sqCount f_doneFirst f_doneCount f_cqCount f_reqCount : Int32} {a_sqOpFlags a_sqA a_sqB a_sqTag a_doneTag a_doneResult a_reqOpcode a_reqA a_reqB a_reqTag a_reqState a_reqTicks a_reqHasSuccessor a_blocks a_buffers : Nat → Int32}
variable {post : Int32 → Prop} {L kc ks k E Pp acc P : Nat} {xs : Nat → Int32} {li pa se ne : Int64} {pr sn ng lk : Nat → Bool}
theorem al_344 {kk : Nat} {X2 X4 X13 : Int32} (hk : E + kk ≤ 64) (hli : am_bits li lk) (hpr : ∀ i, pr i = true → i + 1 < E) (hend : ∀ pa', am_bits pa' (am_pr pr lk E kk) → ll_517 post L xs kc ks k X2 (nI (E + kk)) X4 li pa' se ne X13 (f_sqCapacity, f_cqCapacity, f_latency, f_sqFirst, f_sqCount, f_doneFirst, f_doneCount, f_cqCount, f_reqCount, a_sqOpFlags, a_sqA, a_sqB, a_sqTag, a_doneTag, a_doneResult, a_reqOpcode, a_reqA, a_reqB, a_reqTag, a_reqState, a_reqTicks, a_reqHasSuccessor, a_blocks, a_buffers)) :
    ∀ d i (pa : Int64), i + d = E + (kk - 1) → E ≤ i → am_bits pa (fun j => if E ≤ j ∧ j < i then lk j else pr j) → wL_law_344 post L xs (wL_law_57 post L xs kc ks k) X2 (nI E) X4 li se ne X13 (nI kk) kc ks f_sqCapacity f_cqCapacity f_latency f_sqFirst f_sqCount f_doneFirst f_doneCount f_cqCount f_reqCount a_sqOpFlags a_sqA a_sqB a_sqTag a_doneTag a_doneResult a_reqOpcode a_reqA a_reqB a_reqTag a_reqState a_reqTicks a_reqHasSuccessor a_blocks a_buffers (d + 1) pa (nI i) := by
  intro d
  induction d with
  | zero =>
    intro i pa hi hE hb
    refine br_t ?_ (nm_r (nI_add E kk) (hend pa (am_bits_c hb (fun j hj => ?_))))
    · by_cases z : E + kk = 0
      · have z1 : E = 0 := by omega
        have z2 : kk = 0 := by omega
        subst z1 z2
        have z3 : i = 0 := by omega
        subst z3
        decide
      · have := nI_pred (E + kk - 1)
        rw [show E + kk - 1 + 1 = E + kk by omega] at this
        rw [nI_add, this]
        exact nI_le (by omega) (by omega)
    · unfold am_pr
      by_cases z : E ≤ j ∧ j < i
      · rw [if_pos z, if_pos (by omega)]
      · rw [if_neg z, if_neg (by omega)]
  | succ d ih =>
    intro i pa hi hE hb
    have e1 : nI E + nI kk - 1 = nI (E + kk - 1) := by
      have := nI_pred (E + kk - 1)
      rw [show E + kk - 1 + 1 = E + kk by omega] at this
      rw [nI_add, this]
    refine br_f (by rw [e1]; exact nI_ge (by omega) (by omega)) (am_bit _ hli (by omega) (fun w => br_f (by decide) (nm_e (nm_r (nI_1 i) (ih (i + 1) _ (by omega) (by omega) (am_bits_c (am_bits_or hb (show i < 64 by omega)) (fun j hj => ?_)))))) (fun w => br_t rfl (nm_r (nI_1 i) (ih (i + 1) _ (by omega) (by omega) (am_bits_c hb (fun j hj => ?_))))))
    · unfold am_ad
      by_cases z : j = i
      · subst z
        rw [if_pos (by omega), if_pos rfl, w]
      · rw [if_neg z]
        show (if E ≤ j ∧ j < i + 1 then lk j else pr j) = (if E ≤ j ∧ j < i then lk j else pr j)
        by_cases y : E ≤ j ∧ j < i
        · rw [if_pos y, if_pos (by omega)]
        · rw [if_neg y, if_neg (by omega)]
    · by_cases z : j = i
      · subst z
        rw [if_pos (by omega), if_neg (by omega), w]
        by_cases y : pr j = true
        · have := hpr j y; omega
        · exact (Bool.eq_false_iff.mpr y).symm
      · by_cases y : E ≤ j ∧ j < i
        · rw [if_pos y, if_pos (by omega)]
        · rw [if_neg y, if_neg (by omega)]
/-- an entry made and prepped -/
theorem al_267 (hR : am_R E Pp acc pr sn ng lk (f_sqCapacity, f_cqCapacity, f_latency, f_sqFirst, f_sqCount, f_doneFirst, f_doneCount, f_cqCount, f_reqCount, a_sqOpFlags, a_sqA, a_sqB, a_sqTag, a_doneTag, a_doneResult, a_reqOpcode, a_reqA, a_reqB, a_reqTag, a_reqState, a_reqTicks, a_reqHasSuccessor, a_blocks, a_buffers)) (ha : acc < 64) (hli : am_bits li lk) (hlk : ∀ i, acc ≤ i → lk i = false)
    (h0 : ll_517 post L xs kc ks k (nI acc) (nI E) (nI Pp) li pa se ne (nI P) (f_sqCapacity, f_cqCapacity, f_latency, f_sqFirst, f_sqCount, f_doneFirst, f_doneCount, f_cqCount, f_reqCount, a_sqOpFlags, a_sqA, a_sqB, a_sqTag, a_doneTag, a_doneResult, a_reqOpcode, a_reqA, a_reqB, a_reqTag, a_reqState, a_reqTicks, a_reqHasSuccessor, a_blocks, a_buffers))
    (h1 : ∀ u' lk' li', am_R E Pp (acc + 1) pr sn ng lk' u' → am_bits li' lk' → (∀ i, acc + 1 ≤ i → lk' i = false) → ll_517 post L xs kc ks k (nI (acc + 1)) (nI E) (nI Pp) li' pa se ne (nI P) u') {v : Nat} (hv : v < 8) (y a b : Int32) :
    wL_law_254 post L xs (wL_law_57 post L xs kc ks k) (nI acc) (nI E) (nI Pp) li pa se ne (nI P) (nI v) y a b kc ks f_sqCapacity f_cqCapacity f_latency f_sqFirst f_sqCount f_doneFirst f_doneCount f_cqCount f_reqCount a_sqOpFlags a_sqA a_sqB a_sqTag a_doneTag a_doneResult a_reqOpcode a_reqA a_reqB a_reqTag a_reqState a_reqTicks a_reqHasSuccessor a_blocks a_buffers := by
  have e1 : (1000 : Int32) + nI acc = nI (1000 + acc) := nI_add 1000 acc
  refine br_c (fun z => ?_) (fun z => ?_)
  · unfold wL_law_267
    refine nm_e ?_
    rw [e1]
    refine am_prep hR _ a b (lk' := lk) (fun i _ => rfl) ⟨fun w => absurd (am_f0 v hv) w, fun w => by rw [hlk acc (Nat.le_refl _)] at w; exact absurd w (by decide)⟩ _ (fun _ => br_t rfl h0) (fun u' hR' => ?_)
    have h2 := h1 u' lk li hR' hli (fun i hi => hlk i (by omega))
    obtain ⟨w0, w1, w2, w3, w4, w5, w6, w7, w8, w9, w10, w11, w12, w13, w14, w15, w16, w17, w18, w19, w20, w21, w22, w23⟩ := u'
    exact br_f (by decide) (br_t z (nm_r (nI_1 acc) h2))
  · unfold wL_law_267
    refine nm_e ?_
    rw [e1]
    have ht : am_ad lk acc acc = true := if_pos rfl
    refine am_prep hR _ a b (lk' := am_ad lk acc) (fun i hi => if_neg (by omega)) ⟨fun _ => ht, fun _ => am_f1 v hv⟩ _ (fun _ => br_t rfl h0) (fun u' hR' => ?_)
    have h2 := h1 u' (am_ad lk acc) _ hR' (am_bits_or hli ha) (fun i hi => (if_neg (by omega)).trans (hlk i (by omega)))
    obtain ⟨w0, w1, w2, w3, w4, w5, w6, w7, w8, w9, w10, w11, w12, w13, w14, w15, w16, w17, w18, w19, w20, w21, w22, w23⟩ := u'
    exact br_f (by decide) (br_f z (nm_e (nm_r (nI_1 acc) h2)))
theorem al_132 (hR : am_R E Pp acc pr sn ng lk (f_sqCapacity, f_cqCapacity, f_latency, f_sqFirst, f_sqCount, f_doneFirst, f_doneCount, f_cqCount, f_reqCount, a_sqOpFlags, a_sqA, a_sqB, a_sqTag, a_doneTag, a_doneResult, a_reqOpcode, a_reqA, a_reqB, a_reqTag, a_reqState, a_reqTicks, a_reqHasSuccessor, a_blocks, a_buffers)) (ha : acc < 64) (hli : am_bits li lk) (hlk : ∀ i, acc ≤ i → lk i = false)
    (h0 : ll_517 post L xs kc ks k (nI acc) (nI E) (nI Pp) li pa se ne (nI P) (f_sqCapacity, f_cqCapacity, f_latency, f_sqFirst, f_sqCount, f_doneFirst, f_doneCount, f_cqCount, f_reqCount, a_sqOpFlags, a_sqA, a_sqB, a_sqTag, a_doneTag, a_doneResult, a_reqOpcode, a_reqA, a_reqB, a_reqTag, a_reqState, a_reqTicks, a_reqHasSuccessor, a_blocks, a_buffers))
    (h1 : ∀ u' lk' li', am_R E Pp (acc + 1) pr sn ng lk' u' → am_bits li' lk' → (∀ i, acc + 1 ≤ i → lk' i = false) → ll_517 post L xs kc ks k (nI (acc + 1)) (nI E) (nI Pp) li' pa se ne (nI P) u') {v : Nat} (hv : v < 8) (X15 X16 X17 : Int32) :
    wL_law_132 post L xs (wL_law_57 post L xs kc ks k) (nI acc) (nI E) (nI Pp) li pa se ne (nI P) X15 X16 X17 (nI v) kc ks f_sqCapacity f_cqCapacity f_latency f_sqFirst f_sqCount f_doneFirst f_doneCount f_cqCount f_reqCount a_sqOpFlags a_sqA a_sqB a_sqTag a_doneTag a_doneResult a_reqOpcode a_reqA a_reqB a_reqTag a_reqState a_reqTicks a_reqHasSuccessor a_blocks a_buffers := by
  have k254 := al_267 hR ha hli hlk h0 h1 hv
  have k242 : ∀ y a b : Int32, wL_law_242 post L xs (wL_law_57 post L xs kc ks k) (nI acc) (nI E) (nI Pp) li pa se ne (nI P) X17 (nI v) y a b kc ks f_sqCapacity f_cqCapacity f_latency f_sqFirst f_sqCount f_doneFirst f_doneCount f_cqCount f_reqCount a_sqOpFlags a_sqA a_sqB a_sqTag a_doneTag a_doneResult a_reqOpcode a_reqA a_reqB a_reqTag a_reqState a_reqTicks a_reqHasSuccessor a_blocks a_buffers := fun y a b =>
    br_c (fun _ => nm_e (k254 y a _)) (fun _ => k254 y a b)
  have hne : ¬ nI acc + 1 = 0 := by rw [nI_1]; exact nI_ne0 (by omega) (by omega)
  have k165 : ∀ y z : Int32, wL_law_165 post L xs (wL_law_57 post L xs kc ks k) (nI acc) (nI E) (nI Pp) li pa se ne (nI P) X16 X17 (nI v) y z kc ks f_sqCapacity f_cqCapacity f_latency f_sqFirst f_sqCount f_doneFirst f_doneCount f_cqCount f_reqCount a_sqOpFlags a_sqA a_sqB a_sqTag a_doneTag a_doneResult a_reqOpcode a_reqA a_reqB a_reqTag a_reqState a_reqTicks a_reqHasSuccessor a_blocks a_buffers := fun y z =>
    nm_e (br_c (fun _ => br_c (fun _ => k242 y _ _) (fun _ => k242 y _ _)) (fun _ => br_c (fun _ => ⟨hne, nm_e (k242 y _ _)⟩) (fun _ => br_c (fun _ => k242 y _ _) (fun _ => k242 y _ _))))
  have k146 : ∀ y : Int32, wL_law_146 post L xs (wL_law_57 post L xs kc ks k) (nI acc) (nI E) (nI Pp) li pa se ne (nI P) X15 X16 X17 (nI v) y kc ks f_sqCapacity f_cqCapacity f_latency f_sqFirst f_sqCount f_doneFirst f_doneCount f_cqCount f_reqCount a_sqOpFlags a_sqA a_sqB a_sqTag a_doneTag a_doneResult a_reqOpcode a_reqA a_reqB a_reqTag a_reqState a_reqTicks a_reqHasSuccessor a_blocks a_buffers := fun y =>
    br_c (fun _ => k165 y 1) (fun _ => k165 y 0)
  exact br_c (fun _ => k146 0) (fun _ => k146 1)
end
end
section
theorem am_R_E {E Pp acc : Nat} {pr sn ng lk : Nat → Bool} {u : St2} (hR : am_R E Pp acc pr sn ng lk u) : E ≤ acc ∧ (∀ i, pr i = true → i + 1 < E) := by
  obtain ⟨S, C, qF, qN, F, n, Lz, xO, xA, xB, xT, op, A, B, tg, hs, st, tk, id, c, o, Pt, H, V, T, R, bl, bf, rfl, hPt, hD, hL, hNn, hB, hP, hc, hmo, hW, hbh, hacc, hqS, hS16, hqF, hq, hpr⟩ := hR
  exact ⟨by omega, hpr⟩
theorem al_57 {L kc ks : Nat} {xs : Nat → Int32} (hL : L ≤ 260) : ∀ (k P E Pp acc : Nat) (pr sn ng lk : Nat → Bool) (u : St2) (li pa se ne : Int64), am_R E Pp acc pr sn ng lk u → am_bits li lk → am_bits pa pr → am_bits se sn → am_bits ne ng → acc ≤ 64 → (∀ i, acc ≤ i → lk i = false) → L + 4 ≤ P + 4 * k → P ≤ L + 3 →
    ll_57 (fun r => r = 1) L xs kc ks k (nI acc) (nI E) (nI Pp) li pa se ne (nI P) u := by
  intro k
  induction k with
  | zero => intro P E Pp acc pr sn ng lk u li pa se ne hR h1 h2 h3 h4 h5 h6 h7 h8; omega
  | succ k ih =>
    intro P E Pp acc pr sn ng lk u li pa se ne hR hli hpa hse hne hac hlk hfu hPL
    obtain ⟨hEa, hprE⟩ := am_R_E hR
    by_cases hz : L ≤ P
    · obtain ⟨S, C, qF, qN, F, n, Lz, xO, xA, xB, xT, op, A, B, tg, hs, st, tk, id, c, o, Pt, H, V, T, R, bl, bf, rfl, hPt, hD, hL, hNn, hB, hP, hc, hmo, hW, hbh, hacc, hqS, hS16, hqF, hq, hpr⟩ := hR
      obtain ⟨hC, hn, hF, hS⟩ := hW
      have e1 : nI c + (nI (c + o) - nI c) = nI (c + o) := by rw [pk_sub (by omega), nI_add, show c + (c + o - c) = c + o by omega]
      exact br_t (nI_le hz (by omega)) (nm_r (e' := nI (c + o)) e1 (br_f (nI_pos (by omega)) (br_t (nI_le (b := 64) (by omega) (by decide)) ⟨c + o + 1, al_592 (fun r => r = 1) rfl hL hS hn (by omega) hF hPt (by omega) hD hpa (c + o) 0 se ne sn ng (by omega) hB hse hne⟩)))
    · have hnx : ∀ (E' Pp' acc' : Nat) (pr' sn' ng' lk' : Nat → Bool) (u' : St2) (li' pa' se' ne' : Int64), am_R E' Pp' acc' pr' sn' ng' lk' u' → am_bits li' lk' → am_bits pa' pr' → am_bits se' sn' → am_bits ne' ng' → acc' ≤ 64 → (∀ i, acc' ≤ i → lk' i = false) → ll_517 (fun r => r = 1) L xs kc ks k (nI acc') (nI E') (nI Pp') li' pa' se' ne' (nI P) u' :=
        fun E' Pp' acc' pr' sn' ng' lk' u' li' pa' se' ne' a1 a2 a3 a4 a5 a6 a7 => al_517 a1 (by omega) (ih (P + 4) E' Pp' acc' pr' sn' ng' lk' u' li' pa' se' ne' a1 a2 a3 a4 a5 a6 a7 (by omega) (by omega))
      have h517 := hnx E Pp acc pr sn ng lk u li pa se ne hR hli hpa hse hne hac hlk
      have hent := fun x post => am_enter hR x post
      have htic := fun post => am_tick hR post
      have hpop := am_pop hR
      have hR' := hR
      obtain ⟨S, C, qF, qN, F, n, Lz, xO, xA, xB, xT, op, A, B, tg, hs, st, tk, id, c, o, Pt, H, V, T, R, bl, bf, rfl, hPt, hD, hL, hNn, hB, hP, hc, hmo, hW, hbh, hacc, hqS, hS16, hqF, hq, hpr⟩ := hR
      refine br_f (nI_ge (by omega) (by omega)) (al_cell _ (by omega) (by omega) (fun v0 => nm_e ?_))
      rw [nI_1 P]
      refine al_cell _ (by omega) (by omega) (fun v1 => ?_)
      rw [show nI P + 2 = nI (P + 2) from nI_add P 2]
      refine al_cell _ (by omega) (by omega) (fun v2 => ?_)
      rw [show nI P + 3 = nI (P + 3) from nI_add P 3]
      refine al_cell _ (by omega) (by omega) (fun v3 => ?_)
      refine br_c (fun _ => ?_) (fun _ => br_c (fun _ => ?_) (fun _ => br_c (fun _ => ?_) (fun _ => ?_)))
      · by_cases ha : acc < 64
        · have hp132 := fun v hv => al_132 (post := fun r => r = 1) (L := L) (xs := xs) (kc := kc) (ks := ks) (k := k) (P := P) (v := v) hR' ha hli hlk h517 (fun u' lk' li' a1 a2 a3 => hnx E Pp (acc + 1) pr sn ng lk' u' li' pa se ne a1 a2 hpa hse hne (by omega) a3) hv v1 v2 v3
          obtain ⟨v, hv, ev⟩ := pk_andE v1 (m := 7) 3 (by decide)
          refine br_f (nI_ge (b := 64) ha (by decide)) (nm_r ev (br_c (fun _ => hp132 2 (by decide)) (fun _ => hp132 v hv)))
        · exact br_t (nI_le (a := 64) (by omega) (by omega)) h517
      · refine hent _ _ (fun kk u' hkk hR2 => ?_)
        have hend : ∀ pa', am_bits pa' (am_pr pr lk E kk) → ll_517 (fun r => r = 1) L xs kc ks k (nI acc) (nI (E + kk)) (nI Pp) li pa' se ne (nI P) u' := fun pa' hp' => hnx (E + kk) Pp acc (am_pr pr lk E kk) sn ng lk u' li pa' se ne hR2 hli hp' hse hne hac hlk
        obtain ⟨w0, w1, w2, w3, w4, w5, w6, w7, w8, w9, w10, w11, w12, w13, w14, w15, w16, w17, w18, w19, w20, w21, w22, w23⟩ := u'
        refine br_f (nI_pos (by omega)) (br_t (by rw [nI_add]; exact nI_le hkk (by omega)) ⟨kk - 1 + 1, al_344 (by omega) hli hprE hend (kk - 1) E pa (by omega) (Nat.le_refl _) (am_bits_c hpa (fun j hj => if_neg (by omega)))⟩)
      · refine htic _ (fun r u' hR2 => ?_)
        have hset := fun x y post => am_setBuffer hR2 x y post
        obtain ⟨w0, w1, w2, w3, w4, w5, w6, w7, w8, w9, w10, w11, w12, w13, w14, w15, w16, w17, w18, w19, w20, w21, w22, w23⟩ := u'
        refine hset _ _ _ (fun r2 u2 hR3 => ?_)
        have h6 := hnx E Pp acc pr sn ng lk u2 li pa se ne hR3 hli hpa hse hne hac hlk
        obtain ⟨y0, y1, y2, y3, y4, y5, y6, y7, y8, y9, y10, y11, y12, y13, y14, y15, y16, y17, y18, y19, y20, y21, y22, y23⟩ := u2
        exact h6
      · rcases hpop with ⟨p1, ⟨t1, p2⟩, ⟨t2, p3⟩, p4⟩ | ⟨cc, y, r, u', q0, q1, p1, p2, p3, p4, hR2, s1, s2, s3⟩
        · refine p1 _ (br_t (by decide) ?_)
          unfold wL_law_428
          exact p2 _ (p3 _ (p4 _ (br_t rfl (br_t rfl h517))))
        · have hse' := am_bits_or hse (show y < 64 by omega)
          have hne' := am_bits_or hne (show y < 64 by omega)
          refine p1 _ (br_f (nI_nle q0 (by omega)) ?_)
          unfold wL_law_428
          refine p2 _ (p3 _ (p4 _ ?_))
          by_cases v : r < 0
          · rw [if_pos v] at hR2
            have h6 := hnx E (Pp + 1) acc pr _ _ lk u' li pa _ _ hR2 hli hpa hse' hne' hac hlk
            obtain ⟨y0, y1, y2, y3, y4, y5, y6, y7, y8, y9, y10, y11, y12, y13, y14, y15, y16, y17, y18, y19, y20, y21, y22, y23⟩ := u'
            exact br_t rfl (br_f (by decide) (nm_r (am_1000 y) (am_obs _ hse hne hpa s1 (by omega) s2 s3 (br_f (by decide) (nm_e (br_f (Int32.not_le.mpr v) (nm_e (nm_r (nI_1 Pp) h6))))))))
          · rw [if_neg v] at hR2
            have h6 := hnx E (Pp + 1) acc pr _ _ lk u' li pa _ _ hR2 hli hpa hse' hne hac hlk
            obtain ⟨y0, y1, y2, y3, y4, y5, y6, y7, y8, y9, y10, y11, y12, y13, y14, y15, y16, y17, y18, y19, y20, y21, y22, y23⟩ := u'
            exact br_t rfl (br_f (by decide) (nm_r (am_1000 y) (am_obs _ hse hne hpa s1 (by omega) s2 s3 (br_f (by decide) (nm_e (br_t (Int32.not_lt.mp v) (nm_r (nI_1 Pp) h6)))))))
theorem ar_clampE (x : Int32) {a b : Nat} (hab : a ≤ b) (hb : b < 2 ^ 31) : ∃ j, a ≤ j ∧ j ≤ b ∧ ∀ P : Int32 → Prop, P (nI j) → wpX_clamp P () x (nI a) (nI b) := by
  by_cases g1 : nI a ≤ x
  · by_cases g2 : x ≤ nI b
    · have hx : ¬ x < 0 := fun w => nI_pos (n := a) (by omega) (Int32.lt_of_le_of_lt g1 w)
      obtain ⟨j, hj, rfl⟩ := nI_of hx
      exact ⟨j, (nI_leI (by omega) hj).mp g1, (nI_leI hj hb).mp g2, fun P hP => br_t g1 (br_t g2 hP)⟩
    · exact ⟨b, hab, Nat.le_refl _, fun P hP => br_t g1 (br_f g2 hP)⟩
  · exact ⟨a, Nat.le_refl _, hab, fun P hP => br_f g1 hP⟩
theorem am_R_0 {S C : Nat} {Lz : Int32} (h1 : S ≤ 16) (h2 : C ≤ 16) : am_R 0 0 0 (fun _ => false) (fun _ => false) (fun _ => false) (fun _ => false) (nI S, nI C, Lz, 0, 0, 0, 0, 0, 0, (fun _ => 0), (fun _ => 0), (fun _ => 0), (fun _ => 0), (fun _ => 0), (fun _ => 0), (fun _ => 0), (fun _ => 0), (fun _ => 0), (fun _ => 0), (fun _ => 0), (fun _ => 0), (fun _ => 0), (fun _ => 0), (fun _ => 0)) := by
  have z : ∀ {P : Prop} (j : Nat), j < 0 → P := fun j h => absurd h (by omega)
  exact ⟨S, C, 0, 0, 0, 0, Lz, (fun _ => 0), (fun _ => 0), (fun _ => 0), (fun _ => 0), (fun _ => 0), (fun _ => 0), (fun _ => 0), (fun _ => 0), (fun _ => 0), (fun _ => 0), (fun _ => 0), (fun j => j), 0, 0, 0, (fun j => j), (fun _ => 0), (fun _ => 0), (fun _ => 0), (fun _ => 0), (fun _ => 0), rfl, rfl, fun j h => z j h,
    ⟨⟨fun i j _ h => z j h, fun j h => z j h, fun j h => z j h⟩, rfl, fun j h => z j h, fun j h => z j h, fun i j _ h => z j h, fun j _ h => z j h, fun j h => z j h, fun j _ h => z j h⟩, fun j h => z j h,
    ⟨fun i => ⟨fun w => absurd (show false = true from w) (by decide), fun ⟨t, a, _⟩ => z t a⟩, fun i => ⟨fun w => absurd (show false = true from w) (by decide), fun ⟨t, a, _⟩ => z t a⟩⟩, fun j h => z j h, by omega, by omega,
    ⟨h2, by omega, by omega, fun j h => z j h, fun i j _ h => z j h, fun j h => z j h, fun j h => z j h⟩, ar_B0, rfl, by omega, h1, by omega, fun j h => z j h, fun i w => absurd (show false = true from w) (by decide)⟩
theorem i_vc (xs : Nat → Int32) (L : Nat) (hL : L ≤ 260) : wpL_law (fun r => r = 1) L xs := by
  have hb0 : am_bits 0 (fun _ => false) := am_bits_0 (fun _ _ => rfl)
  unfold wpL_law
  refine al_cell (P := 0) _ (by omega) (by omega) (fun w0 => al_cell (P := 1) _ (by omega) (by omega) (fun w1 => al_cell (P := 2) _ (by omega) (by omega) (fun w2 => ⟨15, 408, by omega, by omega, ?_⟩)))
  obtain ⟨S, _, hS2, hS⟩ := ar_clampE (2 + (w0 &&& 7)) (a := 2) (b := 16) (by decide) (by decide)
  obtain ⟨C, _, hC2, hC⟩ := ar_clampE (2 + (w1 &&& 3)) (a := 2) (b := 16) (by decide) (by decide)
  obtain ⟨Lz, _, hL2, hLz⟩ := ar_clampE (w2 &&& 7) (a := 0) (b := 4) (by decide) (by decide)
  have h57 := al_57 (L := L) (kc := 1 + 15) (ks := 24 + 408) (xs := xs) hL (L + 1) 3 0 0 0 _ _ _ _ _ 0 0 0 0 (am_R_0 (S := S) (C := C) (Lz := nI Lz) hS2 hC2) hb0 hb0 hb0 hb0 (by omega) (fun _ _ => rfl) (by omega) (by omega)
  unfold wpX_init
  dsimp only
  refine ⟨by decide, by decide, by decide, by decide, by decide, by decide, by decide, by decide, by decide, by decide, by decide, by decide, by decide, by decide, by decide, by decide, by decide, by decide, by decide, by decide, by decide, by decide, by decide, by decide, by decide, by decide, by decide, by decide, by decide, by decide, ?_⟩
  exact hS _ (hC _ (hLz _ ⟨L + 1, h57⟩))
end
