def ar_fl (x : Int32) : Int32 := if x &&& 16 = 0 then 0 else 1
theorem ar_fl_B (x : Int32) : ar_fl x = 0 ∨ ar_fl x = 1 := by
  unfold ar_fl
  by_cases h : x &&& 16 = 0
  · rw [if_pos h]; exact Or.inl rfl
  · rw [if_neg h]; exact Or.inr rfl
/-- the last of the new ones has no successor -/
def ar_he (hs : Nat → Int32) (n0 k : Nat) : Nat → Int32 := fun p => if 0 < k ∧ p = n0 + k - 1 then 0 else hs p
theorem ar_he_0 {hs : Nat → Int32} {n0 : Nat} : ar_he hs n0 0 = hs := by
  funext p
  exact if_neg (by omega)
theorem ar_he_k {hs : Nat → Int32} {n0 k : Nat} (h : 0 < k) : upd hs (n0 + k - 1) 0 = ar_he hs n0 k := by
  funext p
  unfold ar_he
  by_cases e : p = n0 + k - 1
  · rw [if_pos ⟨h, e⟩, e, pk_us]
  · rw [if_neg (fun w => e w.2), pk_un e]
theorem ar_he_B {hs : Nat → Int32} {n0 k : Nat} (h : ar_B hs) : ar_B (ar_he hs n0 k) := by
  intro p
  unfold ar_he
  by_cases e : 0 < k ∧ p = n0 + k - 1
  · rw [if_pos e]; exact Or.inl rfl
  · rw [if_neg e]; exact h p
/-- while entries are taken -/
def am_U (n0 E k : Nat) (tg hs st op : Nat → Int32) (id : Nat → Nat) (pr lk : Nat → Bool) : Prop :=
  am_S n0 E tg hs id pr ∧ ar_C n0 st hs ∧ (∀ p, p < n0 → ¬ st p = 2) ∧ am_P n0 st op ∧ (∀ j, j < k → tg (n0 + j) = nI (1000 + (E + j)) ∧ (¬ hs (n0 + j) = 0 ↔ lk (E + j) = true) ∧ st (n0 + j) = 0)
theorem am_U_S {n0 E k : Nat} {tg hs st op : Nat → Int32} {id : Nat → Nat} {pr lk : Nat → Bool} (h : am_U n0 E k tg hs st op id pr lk) {fh : Int32} (hf : ¬ fh = 0 ↔ lk (E + k) = true) (x : Int32) :
    am_U n0 E (k + 1) (upd tg (n0 + k) (nI (1000 + (E + k)))) (upd hs (n0 + k) fh) (upd st (n0 + k) 0) (upd op (n0 + k) x) id pr lk := by
  obtain ⟨hS, hC, ha, hP, hn⟩ := h
  refine ⟨⟨fun p hp => ?_, hS.2.1, fun p hp => ?_, fun p hp hh => ?_⟩, fun p hp a b => ?_, fun p hp => ?_, fun p hp a => ?_, fun j hj => ?_⟩
  · rw [pk_un (by omega)]; exact hS.1 p hp
  · rw [pk_un (by omega)]; exact hS.2.2.1 p hp
  · rw [pk_un (by omega)] at hh; exact hS.2.2.2 p hp hh
  · rw [pk_un (by omega)] at a b
    obtain ⟨c1, c2⟩ := hC p hp a b
    exact ⟨c1, by rw [pk_un (by omega)]; exact c2⟩
  · rw [pk_un (by omega)]; exact ha p hp
  · rw [pk_un (by omega)] at a
    rw [pk_un (by omega)]; exact hP p hp a
  · by_cases z : j = k
    · subst z
      rw [pk_us, pk_us, pk_us]; exact ⟨rfl, hf, rfl⟩
    · rw [pk_un (by omega), pk_un (by omega), pk_un (by omega)]; exact hn j (by omega)
/-- the old requests and the history, all live ones alive -/
def am_O (n0 E Pt : Nat) (id : Nat → Nat) (pr : Nat → Bool) (H : Nat → Nat) (V : Nat → Int32) : Prop :=
  n0 + Pt = E ∧ (∀ t, t < Pt → H t < E) ∧ (∀ t t', t < t' → t' < Pt → H t ≠ H t') ∧ (∀ t p, t < Pt → p < n0 → H t ≠ id p) ∧ (∀ i, i < E → (∃ p, p < n0 ∧ id p = i) ∨ (∃ t, t < Pt ∧ H t = i)) ∧
  (∀ t i, t < Pt → H t = i + 1 → pr i = true → ∃ t', t' < t ∧ H t' = i ∧ (V t' < 0 → V t = -125)) ∧ (∀ t, t < Pt → V t < 0 → pr (H t) = true → ∀ p, p < n0 → id p ≠ H t + 1)
theorem am_O_of {n0 E Pt : Nat} {st hs : Nat → Int32} {id : Nat → Nat} {pr : Nat → Bool} {H : Nat → Nat} {V : Nat → Int32} (h : am_L n0 n0 E Pt st hs (fun j => j) id pr H V) (hN : am_N n0 Pt st id pr H V E) : am_O n0 E Pt id pr H V := by
  obtain ⟨hE, hm, hC, h1, h2, h3, h4, h5⟩ := h
  have hal : ∀ p, p < n0 → ¬ st p = 2 := fun p hp => (hE.2.1 p hp).2
  refine ⟨hm, h1, h2, fun t p a b => h3 t p a b (hal p b), fun i hi => ?_, h5, fun t a b c p d => hN t a b c (by have := h1 t a; omega) p d (hal p d)⟩
  rcases h4 i hi with ⟨p, a, b, c⟩ | w
  · exact Or.inl ⟨p, a, c⟩
  · exact Or.inr w
def am_id (id : Nat → Nat) (n0 E : Nat) : Nat → Nat := fun p => if p < n0 then id p else E + (p - n0)
def am_pr (pr lk : Nat → Bool) (E k : Nat) : Nat → Bool := fun i => if E ≤ i ∧ i + 1 < E + k then lk i else pr i
theorem am_new {n0 E Pt k : Nat} {tg hs st op : Nat → Int32} {id : Nat → Nat} {pr lk : Nat → Bool} {H : Nat → Nat} {V : Nat → Int32} (hO : am_O n0 E Pt id pr H V) (hU : am_U n0 E k tg hs st op id pr lk) (hpr : ∀ i, pr i = true → i + 1 < E) :
    am_S (n0 + k) (E + k) tg (ar_he hs n0 k) (am_id id n0 E) (am_pr pr lk E k) ∧ am_L (n0 + k) (n0 + k) (E + k) Pt st (ar_he hs n0 k) (fun j => j) (am_id id n0 E) (am_pr pr lk E k) H V ∧ am_N (n0 + k) Pt st (am_id id n0 E) (am_pr pr lk E k) H V (E + k) ∧ am_P (n0 + k) st op := by
  obtain ⟨hm, h1, h2, h3, h4, h5, h6⟩ := hO
  obtain ⟨hS, hC, ha, hP, hn⟩ := hU
  have q0 : ∀ p, p < n0 → am_id id n0 E p = id p := fun p hp => if_pos hp
  have q1 : ∀ p, n0 ≤ p → am_id id n0 E p = E + (p - n0) := fun p hp => if_neg (by omega)
  have e0 : ∀ p, p < n0 → ar_he hs n0 k p = hs p := fun p hp => if_neg (by omega)
  have r0 : ∀ i, i < E → am_pr pr lk E k i = pr i := fun i hi => if_neg (by omega)
  have hnew : ∀ p, n0 ≤ p → p < n0 + k → tg p = nI (1000 + (E + (p - n0))) ∧ (¬ hs p = 0 ↔ lk (E + (p - n0)) = true) ∧ st p = 0 := by
    intro p a b
    have := hn (p - n0) (by omega)
    rw [show n0 + (p - n0) = p by omega] at this
    exact this
  have hl : ∀ p, n0 ≤ p → p < n0 + k → ¬ ar_he hs n0 k p = 0 → p + 1 < n0 + k := by
    intro p a b c
    by_cases z : p = n0 + k - 1
    · exact absurd (if_pos ⟨by omega, z⟩) c
    · omega
  have hal : ∀ p, p < n0 + k → ¬ st p = 2 := by
    intro p hp
    by_cases z : p < n0
    · exact ha p z
    · rw [(hnew p (by omega) hp).2.2]; exact ar_02
  refine ⟨⟨fun p hp => ?_, fun p r a b => ?_, fun p hp => ?_, fun p hp hh => ?_⟩, ⟨ar_E_id hal, by omega, fun p hp a b => ?_, fun t ht => ?_, h2, fun t p a b c => ?_, fun i hi => ?_, fun t i a b c => ?_⟩, fun t a b c d q f g => ?_, fun p a b => ?_⟩
  · by_cases z : p < n0
    · rw [q0 p z]; have := hS.1 p z; exact ⟨this.1, by omega⟩
    · rw [q1 p (by omega)]; exact ⟨(hnew p (by omega) hp).1, by omega⟩
  · by_cases z : r < n0
    · rw [q0 p (by omega), q0 r z]; exact hS.2.1 p r a z
    · rw [q1 r (by omega)]
      by_cases y : p < n0
      · rw [q0 p y]; have := (hS.1 p y).2; omega
      · rw [q1 p (by omega)]; omega
  · by_cases z : p < n0
    · rw [e0 p z, q0 p z, r0 _ (hS.1 p z).2]; exact hS.2.2.1 p z
    · rw [q1 p (by omega)]
      by_cases y : p = n0 + k - 1
      · have y1 : ar_he hs n0 k p = 0 := if_pos ⟨by omega, y⟩
        have y2 : am_pr pr lk E k (E + (p - n0)) = pr (E + (p - n0)) := if_neg (by omega)
        rw [y1, y2]
        exact ⟨fun w => absurd rfl w, fun w => by have := hpr _ w; omega⟩
      · have y1 : ar_he hs n0 k p = hs p := if_neg (fun w => y w.2)
        have y2 : am_pr pr lk E k (E + (p - n0)) = lk (E + (p - n0)) := if_pos (by omega)
        rw [y1, y2]
        exact (hnew p (by omega) hp).2.1
  · by_cases z : p < n0
    · rw [e0 p z] at hh
      obtain ⟨c1, c2⟩ := hS.2.2.2 p z hh
      exact ⟨by omega, by rw [q0 p z, q0 (p + 1) c1]; exact c2⟩
    · have := hl p (by omega) hp hh
      exact ⟨this, by rw [q1 p (by omega), q1 (p + 1) (by omega)]; omega⟩
  · by_cases z : p < n0
    · rw [e0 p z] at b
      obtain ⟨c1, c2⟩ := hC p z a b
      exact ⟨by omega, c2⟩
    · have := hl p (by omega) hp b
      exact ⟨this, (hnew (p + 1) (by omega) this).2.2⟩
  · have := h1 t ht; omega
  · by_cases z : p < n0
    · rw [q0 p z]; exact h3 t p a z
    · rw [q1 p (by omega)]; have := h1 t a; omega
  · by_cases z : i < E
    · rcases h4 i z with ⟨p, a, b⟩ | w
      · exact Or.inl ⟨p, by omega, hal p (by omega), by rw [q0 p a]; exact b⟩
      · exact Or.inr w
    · exact Or.inl ⟨n0 + (i - E), by omega, hal _ (by omega), by rw [q1 _ (by omega)]; omega⟩
  · have := h1 t a
    rw [r0 i (by omega)] at c
    exact h5 t i a b c
  · have h7 := h1 t a
    rw [r0 _ h7] at c
    by_cases z : q < n0
    · rw [q0 q z]; exact h6 t a b c q z
    · rw [q1 q (by omega)]; have := hpr _ c; omega
  · by_cases z : p < n0
    · exact hP p z b
    · rw [(hnew p (by omega) a).2.2] at b; exact absurd b ar_01
section
variable {S C F n qF qN c o : Nat} {Lz : Int32} {xO xA xB xT op A B tg hs T R st tk bl bf : Nat → Int32}
theorem ar_m16 {a : Nat} (h : a < 2 ^ 30) : nI a + 1 - (nI a + 1) / 16 * 16 = nI ((a + 1) % 16) := by
  rw [nI_1]; exact pk_rem (d := 16) (by omega) (by decide) (by decide)
theorem ax_take (post : St2 → Prop) {N : Nat} (hq : qF < 16) (hn : n < 32)
    (hp : post (nI S, nI C, Lz, nI ((qF + 1) % 16), nI N, nI F, nI (c + o), nI c, nI (n + 1), xO, xA, xB, xT, T, R, upd op n (xO qF &&& 15), upd A n (xA qF), upd B n (xB qF), upd tg n (xT qF), upd st n 0, upd tk n 0, upd hs n (ar_fl (xO qF)), bl, bf)) : wpX_takeEntry post (nI S, nI C, Lz, nI qF, nI (N + 1), nI F, nI (c + o), nI c, nI n, xO, xA, xB, xT, T, R, op, A, B, tg, st, tk, hs, bl, bf) := by
  have i0 : vp_in (nI qF) 16 := vp_in_nI hq (by omega)
  have i1 : vp_in (nI n) 32 := vp_in_nI hn (by omega)
  refine And.intro i0 (nm_r (e' := xO qF) (by rw [nI_clamp (by omega)]) ⟨i1, nm_r (ar_uc op _ (by omega)) ?_⟩)
  have key : ∀ z : Int32, z = ar_fl (xO qF) → wX_takeEntry_43 post z (nI n) (nI S) (nI C) Lz (nI qF) (nI (N + 1)) (nI F) (nI (c + o)) (nI c) (nI n) xO xA xB xT T R (upd op n (xO qF &&& 15)) A B tg st tk hs bl bf := by
    intro z hz
    subst hz
    exact And.intro i1 (nm_r (ar_ub hs _ (by omega) (ar_fl_B _)) ⟨i0, i1, nm_r (ar_ur A xA (by omega) (by omega)) ⟨i0, i1, nm_r (ar_ur B xB (by omega) (by omega)) ⟨i0, i1, nm_r (ar_ur tg xT (by omega) (by omega)) ⟨i1, nm_r (ar_uc st 0 (by omega)) ⟨i1, nm_r (ar_uc tk 0 (by omega)) (nm_r (nI_1 n) ⟨by decide, nm_r (ar_m16 (by omega)) (nm_r (nI_pred N) hp)⟩)⟩⟩⟩⟩⟩)
  exact br_c (fun h => key 0 (if_pos h).symm) (fun h => key 1 (if_neg h).symm)
end
