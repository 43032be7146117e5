/-! the completions' history: the t-th posted is H t, with the result V t; those below Pp are popped -/
def am_u (H : Nat → Nat) (k x : Nat) : Nat → Nat := fun j => if j = k then x else H j
theorem am_us {H : Nat → Nat} {k x : Nat} : am_u H k x k = x := if_pos rfl
theorem am_un {H : Nat → Nat} {k j x : Nat} (h : j ≠ k) : am_u H k x j = H j := if_neg h
/-- X's ring holds the history from Pp on -/
def am_D (F D Pp : Nat) (T R : Nat → Int32) (H : Nat → Nat) (V : Nat → Int32) : Prop := ∀ j, j < D → T ((F + j) % 48) = nI (1000 + H (Pp + j)) ∧ R ((F + j) % 48) = V (Pp + j)
theorem am_D_S {F D Pp : Nat} {T R : Nat → Int32} {H : Nat → Nat} {V : Nat → Int32} (h : am_D F D Pp T R H V) (hD : D < 48) (x : Nat) (r : Int32) :
    am_D F (D + 1) Pp (upd T ((F + D) % 48) (nI (1000 + x))) (upd R ((F + D) % 48) r) (am_u H (Pp + D) x) (upd V (Pp + D) r) := by
  intro j hj
  by_cases e : j = D
  · subst e; rw [pk_us, pk_us, am_us, pk_us]; exact ⟨rfl, rfl⟩
  · rw [pk_un (by omega), pk_un (by omega), am_un (by omega), pk_un (by omega)]; exact h j (by omega)
theorem am_D_pop {F D Pp : Nat} {T R : Nat → Int32} {H : Nat → Nat} {V : Nat → Int32} (h : am_D F (D + 1) Pp T R H V) : am_D ((F + 1) % 48) D (Pp + 1) T R H V := by
  intro j hj
  have := h (j + 1) (by omega)
  rw [show ((F + 1) % 48 + j) % 48 = (F + (j + 1)) % 48 by omega, show Pp + 1 + j = Pp + (j + 1) by omega]
  exact this
/-- what stays as it is while chains run: the requests' numbers, their links -/
def am_S (n E : Nat) (tg hs : Nat → Int32) (id : Nat → Nat) (pr : Nat → Bool) : Prop :=
  (∀ p, p < n → tg p = nI (1000 + id p) ∧ id p < E) ∧ (∀ p r, p < r → r < n → id p < id r) ∧ (∀ p, p < n → (¬ hs p = 0 ↔ pr (id p) = true)) ∧ (∀ p, p < n → ¬ hs p = 0 → p + 1 < n ∧ id (p + 1) = id p + 1)
/-- who is live, who is posted, in which order -/
def am_L (n m E Pt : Nat) (st hs : Nat → Int32) (e id : Nat → Nat) (pr : Nat → Bool) (H : Nat → Nat) (V : Nat → Int32) : Prop :=
  ar_E n m st e ∧ m + Pt = E ∧ ar_C n st hs ∧ (∀ t, t < Pt → H t < E) ∧ (∀ t t', t < t' → t' < Pt → H t ≠ H t') ∧ (∀ t p, t < Pt → p < n → ¬ st p = 2 → H t ≠ id p) ∧
  (∀ i, i < E → (∃ p, p < n ∧ ¬ st p = 2 ∧ id p = i) ∨ (∃ t, t < Pt ∧ H t = i)) ∧
  (∀ t i, t < Pt → H t = i + 1 → pr i = true → ∃ t', t' < t ∧ H t' = i ∧ (V t' < 0 → V t = -125))
/-- a request that failed has no live successor; but for x -/
def am_N (n Pt : Nat) (st : Nat → Int32) (id : Nat → Nat) (pr : Nat → Bool) (H : Nat → Nat) (V : Nat → Int32) (x : Nat) : Prop :=
  ∀ t, t < Pt → V t < 0 → pr (H t) = true → H t ≠ x → ∀ p, p < n → ¬ st p = 2 → id p ≠ H t + 1
section
variable {n m E Pt : Nat} {st hs tg : Nat → Int32} {e id : Nat → Nat} {pr : Nat → Bool} {H : Nat → Nat} {V : Nat → Int32}
theorem am_inj (hS : am_S n E tg hs id pr) {p r : Nat} (hp : p < n) (hr : r < n) (h : id p = id r) : p = r := by
  rcases Nat.lt_trichotomy p r with z | z | z
  · have := hS.2.1 p r z hr; omega
  · exact z
  · have := hS.2.1 r p z hp; omega
theorem am_post (hS : am_S n E tg hs id pr) (h : am_L n m E Pt st hs e id pr H V) {i : Nat} (hi : i < m) (hH : ar_H st hs (e i)) (r : Int32)
    (hr : ∀ t, t < Pt → H t + 1 = id (e i) → pr (H t) = true → V t < 0 → r = -125) :
    am_L n (m - 1) E (Pt + 1) (upd st (e i) 2) hs (ar_sh e i m) id pr (am_u H Pt (id (e i))) (upd V Pt r) := by
  obtain ⟨hE, hm, hC, h1, h2, h3, h4, h5⟩ := h
  have hal := hE.2.1 i hi
  refine ⟨ar_E_rm hE hi, by omega, ar_C_up hC hH 2 hal.2, fun t ht => ?_, fun t t' a b => ?_, fun t p a b c => ?_, fun j hj => ?_, fun t j a b c => ?_⟩
  · by_cases z : t = Pt
    · rw [z, am_us]; exact (hS.1 (e i) hal.1).2
    · rw [am_un z]; exact h1 t (by omega)
  · by_cases z : t' = Pt
    · rw [z, am_us, am_un (by omega)]; exact h3 t (e i) (by omega) hal.1 hal.2
    · rw [am_un z, am_un (by omega)]; exact h2 t t' a (by omega)
  · have hpe : p ≠ e i := fun w => c (by rw [w]; exact pk_us)
    rw [pk_un hpe] at c
    by_cases z : t = Pt
    · rw [z, am_us]; exact fun w => hpe (am_inj hS b hal.1 w.symm)
    · rw [am_un z]; exact h3 t p (by omega) b c
  · by_cases z : j = id (e i)
    · exact Or.inr ⟨Pt, by omega, by rw [am_us, z]⟩
    · rcases h4 j hj with ⟨p, a, b, c⟩ | ⟨t, a, b⟩
      · refine Or.inl ⟨p, a, ?_, c⟩
        rw [pk_un (fun w => z (by rw [← c, w]))]; exact b
      · exact Or.inr ⟨t, by omega, by rw [am_un (by omega)]; exact b⟩
  · by_cases z : t = Pt
    · subst z
      rw [am_us] at b
      have hj : j < E := by have := (hS.1 (e i) hal.1).2; omega
      rcases h4 j hj with ⟨p, a1, b1, c1⟩ | ⟨t', a1, b1⟩
      · have hh : ¬ hs p = 0 := (hS.2.2.1 p a1).mpr (by rw [c1]; exact c)
        obtain ⟨g1, g2⟩ := hS.2.2.2 p a1 hh
        have g3 : p + 1 = e i := am_inj hS g1 hal.1 (by rw [g2, c1, b])
        rcases hH p g3 with w | w
        · exact absurd w b1
        · exact absurd w hh
      · refine ⟨t', a1, by rw [am_un (by omega)]; exact b1, fun w => ?_⟩
        rw [pk_un (by omega)] at w
        rw [pk_us]
        exact hr t' a1 (by rw [b1, b]) (by rw [b1]; exact c) w
    · rw [am_un z] at b
      obtain ⟨t', a1, b1, c1⟩ := h5 t j (by omega) b c
      refine ⟨t', a1, by rw [am_un (by omega)]; exact b1, fun w => ?_⟩
      rw [pk_un (by omega)] at w
      rw [pk_un z]
      exact c1 w
theorem am_N_p (hS : am_S n E tg hs id pr) {p : Nat} (hp : p < n) {x : Nat} (h : am_N n Pt st id pr H V x) (hx : x = E ∨ x + 1 = id p) (h1 : ∀ t, t < Pt → H t < E) (r : Int32) : am_N n (Pt + 1) (upd st p 2) id pr (am_u H Pt (id p)) (upd V Pt r) (id p) := by
  intro t a b c d q f g
  have hqp : q ≠ p := fun w => g (by rw [w]; exact pk_us)
  rw [pk_un hqp] at g
  by_cases z : t = Pt
  · rw [z, am_us] at d; exact absurd rfl d
  · rw [am_un z] at c d ⊢
    rw [pk_un z] at b
    by_cases y : H t = x
    · intro w
      rcases hx with hx | hx
      · have := h1 t (by omega); omega
      · exact hqp (am_inj hS f hp (by rw [w, y, hx]))
    · exact h t (by omega) b c y q f g
theorem am_N_e {x : Nat} (h : am_N n Pt st id pr H V x) (hx : pr x = false) (y : Nat) : am_N n Pt st id pr H V y := by
  intro t a b c d q f g
  by_cases z : H t = x
  · rw [z, hx] at c; exact absurd c (by decide)
  · exact h t a b c z q f g
theorem am_N_0 {p : Nat} (h : am_N n Pt st id pr H V E) {r : Int32} (hr : ¬ r < 0) : am_N n (Pt + 1) (upd st p 2) id pr (am_u H Pt (id p)) (upd V Pt r) E := by
  intro t a b c d q f g
  by_cases z : t = Pt
  · rw [z, pk_us] at b; exact absurd b hr
  · rw [am_un z] at c d ⊢
    rw [pk_un z] at b
    refine h t (by omega) b c d q f (fun w => g ?_)
    by_cases y : q = p
    · rw [y]; exact pk_us
    · rw [pk_un y]; exact w
theorem am_N_st {st' : Nat → Int32} {x : Nat} (h : am_N n Pt st id pr H V x) (hs' : ∀ p, p < n → st p = 2 → st' p = 2) : am_N n Pt st' id pr H V x :=
  fun t a b c d q f g => h t a b c d q f (fun w => g (hs' q f w))
theorem am_L_pend (h : am_L n m E Pt st hs e id pr H V) {p : Nat} (hp : ¬ st p = 2) (hH : ar_H st hs p) : am_L n m E Pt (upd st p 1) hs e id pr H V := by
  obtain ⟨hE, hm, hC, h1, h2, h3, h4, h5⟩ := h
  have hst : ∀ q, q < n → (upd st p 1 q = 2 ↔ st q = 2) := by
    intro q _
    by_cases z : q = p
    · rw [z, pk_us]; exact ⟨fun w => absurd w ar_12, fun w => absurd w hp⟩
    · rw [pk_un z]
  refine ⟨ar_E_st hE hst, hm, ar_C_up hC hH 1 hp, h1, h2, fun t q a b c => h3 t q a b (fun w => c ((hst q b).mpr w)), fun i hi => ?_, h5⟩
  rcases h4 i hi with ⟨q, a, b, c⟩ | w
  · exact Or.inl ⟨q, a, fun w => b ((hst q a).mp w), c⟩
  · exact Or.inr w
end
