/-! arrays: what stands behind i, below n, moves down by one -/
def ar_sh {α : Type} (a : Nat → α) (i n : Nat) : Nat → α := fun j => if i ≤ j ∧ j + 1 < n then a (j + 1) else a j
theorem ar_sh0 {α : Type} (a : Nat → α) (i : Nat) : ar_sh a i (i + 1) = a := by
  funext j
  have h : ¬ (i ≤ j ∧ j + 1 < i + 1) := by omega
  exact if_neg h
theorem ar_sh_hi {α : Type} (a : Nat → α) {i n j : Nat} (h : i ≤ j ∧ j + 1 < n) : ar_sh a i n j = a (j + 1) := if_pos h
theorem ar_sh_lo {α : Type} (a : Nat → α) {i n j : Nat} (h : ¬ (i ≤ j ∧ j + 1 < n)) : ar_sh a i n j = a j := if_neg h
theorem ar_shS (a : Nat → Int32) {i j : Nat} (h : i ≤ j) : upd (ar_sh a i (j + 1)) j (ar_sh a i (j + 1) (j + 1)) = ar_sh a i (j + 2) := by
  funext p
  by_cases hp : p = j
  · subst hp
    rw [pk_us, ar_sh_lo a (by omega), ar_sh_hi a (by omega)]
  · rw [pk_un hp]
    by_cases hc : i ≤ p ∧ p + 1 < j + 1
    · rw [ar_sh_hi a hc, ar_sh_hi a (by omega)]
    · rw [ar_sh_lo a hc, ar_sh_lo a (by omega)]
theorem ar_shL (a : Nat → Int64) {i j : Nat} (h : i ≤ j) : vp_updL (ar_sh a i (j + 1)) j (ar_sh a i (j + 1) (j + 1)) = ar_sh a i (j + 2) := by
  funext p
  by_cases hp : p = j
  · subst hp
    rw [pk_uLs, ar_sh_lo a (by omega), ar_sh_hi a (by omega)]
  · rw [pk_uLn hp]
    by_cases hc : i ≤ p ∧ p + 1 < j + 1
    · rw [ar_sh_hi a hc, ar_sh_hi a (by omega)]
    · rw [ar_sh_lo a hc, ar_sh_lo a (by omega)]
/-! a boolean array -/
def ar_B (a : Nat → Int32) : Prop := ∀ j, a j = 0 ∨ a j = 1
theorem ar_B_nar {a : Nat → Int32} (h : ar_B a) (j : Nat) : vp_nar .boolean (a j) = a j := by
  rcases h j with h | h <;> rw [h] <;> rfl
theorem ar_B0 : ar_B (fun _ => 0) := fun _ => Or.inl rfl
theorem ar_Bu {a : Nat → Int32} (h : ar_B a) {k : Nat} {x : Int32} (hx : x = 0 ∨ x = 1) : ar_B (upd a k x) := by
  intro j
  by_cases hj : j = k
  · subst hj; rw [pk_us]; exact hx
  · rw [pk_un hj]; exact h j
theorem ar_Bs {a : Nat → Int32} (h : ar_B a) (i n : Nat) : ar_B (ar_sh a i n) := by
  intro j
  by_cases hc : i ≤ j ∧ j + 1 < n
  · rw [ar_sh_hi a hc]; exact h _
  · rw [ar_sh_lo a hc]; exact h _
/-! the live requests: e j is the place, in the arrays of X, of the reference's j-th live request -/
def ar_E (n m : Nat) (st : Nat → Int32) (e : Nat → Nat) : Prop :=
  (∀ i j, i < j → j < m → e i < e j) ∧ (∀ j, j < m → e j < n ∧ ¬ st (e j) = 2) ∧ (∀ p, p < n → ¬ st p = 2 → ∃ j, j < m ∧ e j = p)
theorem ar_E_inj {n m : Nat} {st : Nat → Int32} {e : Nat → Nat} (h : ar_E n m st e) {i j : Nat} (hi : i < m) (hj : j < m) (he : e i = e j) : i = j := by
  rcases Nat.lt_trichotomy i j with h1 | h1 | h1
  · have := h.1 i j h1 hj; omega
  · exact h1
  · have := h.1 j i h1 hi; omega
theorem ar_E_ne {n m : Nat} {st : Nat → Int32} {e : Nat → Nat} (h : ar_E n m st e) {i j : Nat} (hi : i < m) (hj : j < m) (hn : i ≠ j) : e i ≠ e j :=
  fun he => hn (ar_E_inj h hi hj he)
theorem ar_E_lt {n m : Nat} {st : Nat → Int32} {e : Nat → Nat} (h : ar_E n m st e) {i j : Nat} (hi : i < m) (hj : j < m) (he : e i < e j) : i < j := by
  rcases Nat.lt_trichotomy i j with h1 | h1 | h1
  · exact h1
  · subst h1; omega
  · have := h.1 j i h1 hi; omega
theorem ar_sh_c {e : Nat → Nat} {i m : Nat} : ∀ j, j < m - 1 → (j < i ∧ ar_sh e i m j = e j) ∨ (i ≤ j ∧ ar_sh e i m j = e (j + 1)) := by
  intro j hj
  by_cases hc : i ≤ j ∧ j + 1 < m
  · exact Or.inr ⟨hc.1, ar_sh_hi e hc⟩
  · exact Or.inl ⟨by omega, ar_sh_lo e hc⟩
theorem ar_E_rm {n m : Nat} {st : Nat → Int32} {e : Nat → Nat} (h : ar_E n m st e) {i : Nat} (hi : i < m) : ar_E n (m - 1) (upd st (e i) 2) (ar_sh e i m) := by
  refine ⟨?_, ?_, ?_⟩
  · intro a b hab hb
    rcases ar_sh_c (e := e) (i := i) (m := m) a (by omega) with ⟨h1, h2⟩ | ⟨h1, h2⟩ <;> rcases ar_sh_c (e := e) (i := i) (m := m) b hb with ⟨h3, h4⟩ | ⟨h3, h4⟩ <;> rw [h2, h4]
    · exact h.1 a b hab (by omega)
    · exact h.1 a (b + 1) (by omega) (by omega)
    · omega
    · exact h.1 (a + 1) (b + 1) (by omega) (by omega)
  · intro j hj
    rcases ar_sh_c (e := e) (i := i) (m := m) j hj with ⟨h1, h2⟩ | ⟨h1, h2⟩ <;> rw [h2]
    · refine ⟨(h.2.1 j (by omega)).1, ?_⟩
      rw [pk_un (ar_E_ne h (by omega) hi (by omega))]
      exact (h.2.1 j (by omega)).2
    · refine ⟨(h.2.1 (j + 1) (by omega)).1, ?_⟩
      rw [pk_un (ar_E_ne h (by omega) hi (by omega))]
      exact (h.2.1 (j + 1) (by omega)).2
  · intro p hp hne
    have hpe : p ≠ e i := by intro hh; exact hne (by rw [hh]; exact pk_us)
    rw [pk_un hpe] at hne
    obtain ⟨j, hj, rfl⟩ := h.2.2 p hp hne
    have hji : j ≠ i := fun hh => hpe (by rw [hh])
    by_cases hc : j < i
    · exact ⟨j, by omega, ar_sh_lo e (by omega)⟩
    · refine ⟨j - 1, by omega, ?_⟩
      rw [ar_sh_hi e (by omega), show j - 1 + 1 = j by omega]
theorem ar_E_st {n m : Nat} {st st' : Nat → Int32} {e : Nat → Nat} (h : ar_E n m st e) (hs : ∀ p, p < n → (st' p = 2 ↔ st p = 2)) : ar_E n m st' e :=
  ⟨h.1, fun j hj => ⟨(h.2.1 j hj).1, fun z => (h.2.1 j hj).2 ((hs _ (h.2.1 j hj).1).mp z)⟩, fun p hp z => h.2.2 p hp (fun y => z ((hs p hp).mpr y))⟩
theorem ar_E_id {n : Nat} {st : Nat → Int32} (h : ∀ p, p < n → ¬ st p = 2) : ar_E n n st (fun j => j) :=
  ⟨fun _ _ h _ => h, fun j hj => ⟨hj, h j hj⟩, fun p hp _ => ⟨p, hp, rfl⟩⟩
/-! views -/
def ar_V {α : Type} (e : Nat → Nat) (m : Nat) (a g : Nat → α) : Prop := ∀ j, j < m → a j = g (e j)
theorem ar_V_rm {α : Type} {e : Nat → Nat} {m : Nat} {a g : Nat → α} (h : ar_V e m a g) (i : Nat) : ar_V (ar_sh e i m) (m - 1) (ar_sh a i m) g := by
  intro j hj
  by_cases hc : i ≤ j ∧ j + 1 < m
  · rw [ar_sh_hi a hc, ar_sh_hi e hc]; exact h (j + 1) hc.2
  · rw [ar_sh_lo a hc, ar_sh_lo e hc]; exact h j (by omega)
theorem ar_V_up {n m : Nat} {st : Nat → Int32} {e : Nat → Nat} (hE : ar_E n m st e) {a g : Nat → Int32} (h : ar_V e m a g) {i : Nat} (hi : i < m) (x : Int32) : ar_V e m (upd a i x) (upd g (e i) x) := by
  intro j hj
  by_cases hji : j = i
  · subst hji; rw [pk_us, pk_us]
  · rw [pk_un hji, pk_un (ar_E_ne hE hj hi hji)]; exact h j hj
theorem ar_V_g {α : Type} {e : Nat → Nat} {m : Nat} {a g g' : Nat → α} (h : ar_V e m a g) (hg : ∀ j, j < m → g' (e j) = g (e j)) : ar_V e m a g' :=
  fun j hj => (h j hj).trans (hg j hj).symm
theorem ar_V_id {α : Type} {m : Nat} {a g : Nat → α} : ar_V (fun j => j) m a g ↔ ∀ j, j < m → a j = g j := Iff.rfl
