section
theorem pk_us {f : Nat → Int32} {k : Nat} {x : Int32} : upd f k x k = x := if_pos rfl
theorem pk_un {f : Nat → Int32} {k j : Nat} {x : Int32} (h : j ≠ k) : upd f k x j = f j := if_neg h
theorem pk_uLs {f : Nat → Int64} {k : Nat} {x : Int64} : vp_updL f k x k = x := if_pos rfl
theorem pk_uLn {f : Nat → Int64} {k j : Nat} {x : Int64} (h : j ≠ k) : vp_updL f k x j = f j := if_neg h
theorem pk_sub {a b : Nat} (h : b ≤ a) : nI a - nI b = nI (a - b) := by
  obtain ⟨c, rfl⟩ : ∃ c, a = c + b := ⟨a - b, by omega⟩
  rw [← nI_add, Int32.add_sub_cancel, Nat.add_sub_cancel]
theorem pk_m1 (n : Nat) : nI (n + 1) + (-1) = nI n := by
  rw [← nI_1, Int32.add_assoc, show (1 : Int32) + (-1) = 0 from rfl, Int32.add_zero]
theorem pk_mul (a b : Nat) : nI a * nI b = nI (a * b) := (Int32.ofNat_mul a b).symm
theorem pk_div {a d : Nat} (ha : a < 2 ^ 31) (h0 : 0 < d) (hd : d < 2 ^ 31) : nI a / nI d = nI (a / d) := by
  apply Int32.toInt_inj.mp
  rw [lg_idiv_nonneg (by rw [nI_toInt ha]; omega) (by rw [nI_toInt hd]; omega), nI_toInt ha, nI_toInt hd, nI_toInt (Nat.lt_of_le_of_lt (Nat.div_le_self a d) ha)]
  first | rfl | exact (Int.natCast_ediv _ _).symm
theorem pk_rem {a d : Nat} (ha : a < 2 ^ 31) (h0 : 0 < d) (hd : d < 2 ^ 31) : nI a - nI a / nI d * nI d = nI (a % d) := by
  rw [pk_div ha h0 hd, pk_mul, pk_sub (Nat.div_mul_le_self a d)]
  exact congrArg nI (by have := Nat.div_add_mod' a d; omega)
theorem pk_sub_toInt {a b : Nat} (ha : a < 2 ^ 30) (hb : b < 2 ^ 30) : (nI a - nI b).toInt = (a : Int) - b := by
  rw [Int32.toInt_sub, nI_toInt (by omega), nI_toInt (by omega)]
  exact Int.bmod_eq_of_le (by omega) (by omega)
theorem pk_sneg {a b : Nat} (hb : b < 2 ^ 30) (h : a < b) : nI a - nI b < 0 := by
  rw [Int32.lt_iff_toInt_lt, pk_sub_toInt (by omega) hb, show (0 : Int32).toInt = 0 from by decide]
  omega
theorem pk_ix (x : Int32) {n : Nat} (hn : n < 2 ^ 31) : x < 0 ∨ nI n ≤ x ∨ ∃ j : Nat, j < n ∧ x = nI j := by
  by_cases h : x < 0
  · exact Or.inl h
  · obtain ⟨j, hj, rfl⟩ := nI_of h
    by_cases h2 : j < n
    · exact Or.inr (Or.inr ⟨j, h2, rfl⟩)
    · exact Or.inr (Or.inl (nI_le (by omega) hj))
theorem pk_le {x y : Int32} {A B : Prop} (a b : Nat) (f : a ≤ b → A) (g : b < a → B) (hx : x = nI a := by rfl) (hy : y = nI b := by rfl) (ha : a < 2 ^ 31 := by omega) (hb : b < 2 ^ 31 := by omega) : (x ≤ y → A) ∧ (¬ x ≤ y → B) := by
  subst hx hy
  rw [nI_leI ha hb]
  exact ⟨f, fun z => g (by omega)⟩
theorem pk_lt {x y : Int32} {A B : Prop} (a b : Nat) (f : a < b → A) (g : b ≤ a → B) (hx : x = nI a := by rfl) (hy : y = nI b := by rfl) (ha : a < 2 ^ 31 := by omega) (hb : b < 2 ^ 31 := by omega) : (x < y → A) ∧ (¬ x < y → B) := by
  subst hx hy
  rw [nI_ltI ha hb]
  exact ⟨f, fun z => g (by omega)⟩
theorem pk_eq {x y : Int32} {A B : Prop} (a b : Nat) (f : a = b → A) (g : a ≠ b → B) (hx : x = nI a := by rfl) (hy : y = nI b := by rfl) (ha : a < 2 ^ 31 := by omega) (hb : b < 2 ^ 31 := by omega) : (x = y → A) ∧ (¬ x = y → B) := by
  subst hx hy
  rw [nI_eq ha hb]
  exact ⟨f, g⟩
theorem pk_in {x : Int32} (n N : Nat) (h : n < N) (hx : x = nI n := by rfl) (hN : N < 2 ^ 31 := by omega) : vp_in x N := by
  subst hx
  exact vp_in_nI h hN
theorem pk_cl {x : Int32} (n : Nat) (hx : x = nI n := by rfl) (h : n < 2 ^ 31 := by omega) : x.toNatClampNeg = n := by
  subst hx
  exact nI_clamp h
theorem pk_lT {n : Nat} (h : n < 2 ^ 63) : (lN n).toInt = (n : Int) := lg_ofNat_toInt h
theorem pk_lLT {a b : Nat} (ha : a < 2 ^ 63) (hb : b < 2 ^ 63) : lN a < lN b ↔ a < b := by
  rw [Int64.lt_iff_toInt_lt, pk_lT ha, pk_lT hb]; omega
theorem pk_lLE {a b : Nat} (ha : a < 2 ^ 63) (hb : b < 2 ^ 63) : lN a ≤ lN b ↔ a ≤ b := by
  rw [Int64.le_iff_toInt_le, pk_lT ha, pk_lT hb]; omega
theorem pk_lEQ {a b : Nat} (ha : a < 2 ^ 63) (hb : b < 2 ^ 63) : lN a = lN b ↔ a = b := by
  rw [← Int64.toInt_inj, pk_lT ha, pk_lT hb]; omega
/-! arrays: what stands behind i, below n, moves down by one -/
def ar_sh {α : Type} (a : Nat → α) (i n : Nat) : Nat → α := fun j => if i ≤ j ∧ j + 1 < n then a (j + 1) else a j
theorem ar_sh0 {α : Type} (a : Nat → α) (i : Nat) : ar_sh a i (i + 1) = a := by
  funext j
  have h : ¬ (i ≤ j ∧ j + 1 < i + 1) := by omega
  exact if_neg h
theorem ar_sh_hi {α : Type} (a : Nat → α) {i n j : Nat} (h : i ≤ j ∧ j + 1 < n) : ar_sh a i n j = a (j + 1) := if_pos h
theorem ar_sh_lo {α : Type} (a : Nat → α) {i n j : Nat} (h : ¬ (i ≤ j ∧ j + 1 < n)) : ar_sh a i n j = a j := if_neg h
theorem ar_shS (a : Nat → Int32) {i j : Nat} (h : i ≤ j) : upd (ar_sh a i (j + 1)) j (ar_sh a i (j + 1) (j + 1)) = ar_sh a i (j + 2) := by
  funext p
  by_cases hp : p = j
  · subst hp
    rw [pk_us, ar_sh_lo a (by omega), ar_sh_hi a (by omega)]
  · rw [pk_un hp]
    by_cases hc : i ≤ p ∧ p + 1 < j + 1
    · rw [ar_sh_hi a hc, ar_sh_hi a (by omega)]
    · rw [ar_sh_lo a hc, ar_sh_lo a (by omega)]
theorem ar_shL (a : Nat → Int64) {i j : Nat} (h : i ≤ j) : vp_updL (ar_sh a i (j + 1)) j (ar_sh a i (j + 1) (j + 1)) = ar_sh a i (j + 2) := by
  funext p
  by_cases hp : p = j
  · subst hp
    rw [pk_uLs, ar_sh_lo a (by omega), ar_sh_hi a (by omega)]
  · rw [pk_uLn hp]
    by_cases hc : i ≤ p ∧ p + 1 < j + 1
    · rw [ar_sh_hi a hc, ar_sh_hi a (by omega)]
    · rw [ar_sh_lo a hc, ar_sh_lo a (by omega)]
/-! a boolean array -/
def ar_B (a : Nat → Int32) : Prop := ∀ j, a j = 0 ∨ a j = 1
theorem ar_B_nar {a : Nat → Int32} (h : ar_B a) (j : Nat) : vp_nar .boolean (a j) = a j := by
  rcases h j with h | h <;> rw [h] <;> rfl
theorem ar_B0 : ar_B (fun _ => 0) := fun _ => Or.inl rfl
theorem ar_Bu {a : Nat → Int32} (h : ar_B a) {k : Nat} {x : Int32} (hx : x = 0 ∨ x = 1) : ar_B (upd a k x) := by
  intro j
  by_cases hj : j = k
  · subst hj; rw [pk_us]; exact hx
  · rw [pk_un hj]; exact h j
theorem ar_Bs {a : Nat → Int32} (h : ar_B a) (i n : Nat) : ar_B (ar_sh a i n) := by
  intro j
  by_cases hc : i ≤ j ∧ j + 1 < n
  · rw [ar_sh_hi a hc]; exact h _
  · rw [ar_sh_lo a hc]; exact h _
/-! the live requests: e j is the place, in the arrays of X, of the reference's j-th live request -/
def ar_E (n m : Nat) (st : Nat → Int32) (e : Nat → Nat) : Prop :=
  (∀ i j, i < j → j < m → e i < e j) ∧ (∀ j, j < m → e j < n ∧ ¬ st (e j) = 2) ∧ (∀ p, p < n → ¬ st p = 2 → ∃ j, j < m ∧ e j = p)
theorem ar_E_inj {n m : Nat} {st : Nat → Int32} {e : Nat → Nat} (h : ar_E n m st e) {i j : Nat} (hi : i < m) (hj : j < m) (he : e i = e j) : i = j := by
  rcases Nat.lt_trichotomy i j with h1 | h1 | h1
  · have := h.1 i j h1 hj; omega
  · exact h1
  · have := h.1 j i h1 hi; omega
theorem ar_E_ne {n m : Nat} {st : Nat → Int32} {e : Nat → Nat} (h : ar_E n m st e) {i j : Nat} (hi : i < m) (hj : j < m) (hn : i ≠ j) : e i ≠ e j :=
  fun he => hn (ar_E_inj h hi hj he)
theorem ar_E_lt {n m : Nat} {st : Nat → Int32} {e : Nat → Nat} (h : ar_E n m st e) {i j : Nat} (hi : i < m) (hj : j < m) (he : e i < e j) : i < j := by
  rcases Nat.lt_trichotomy i j with h1 | h1 | h1
  · exact h1
  · subst h1; omega
  · have := h.1 j i h1 hi; omega
theorem ar_sh_c {e : Nat → Nat} {i m : Nat} : ∀ j, j < m - 1 → (j < i ∧ ar_sh e i m j = e j) ∨ (i ≤ j ∧ ar_sh e i m j = e (j + 1)) := by
  intro j hj
  by_cases hc : i ≤ j ∧ j + 1 < m
  · exact Or.inr ⟨hc.1, ar_sh_hi e hc⟩
  · exact Or.inl ⟨by omega, ar_sh_lo e hc⟩
theorem ar_E_rm {n m : Nat} {st : Nat → Int32} {e : Nat → Nat} (h : ar_E n m st e) {i : Nat} (hi : i < m) : ar_E n (m - 1) (upd st (e i) 2) (ar_sh e i m) := by
  refine ⟨?_, ?_, ?_⟩
  · intro a b hab hb
    rcases ar_sh_c (e := e) (i := i) (m := m) a (by omega) with ⟨h1, h2⟩ | ⟨h1, h2⟩ <;> rcases ar_sh_c (e := e) (i := i) (m := m) b hb with ⟨h3, h4⟩ | ⟨h3, h4⟩ <;> rw [h2, h4]
    · exact h.1 a b hab (by omega)
    · exact h.1 a (b + 1) (by omega) (by omega)
    · omega
    · exact h.1 (a + 1) (b + 1) (by omega) (by omega)
  · intro j hj
    rcases ar_sh_c (e := e) (i := i) (m := m) j hj with ⟨h1, h2⟩ | ⟨h1, h2⟩ <;> rw [h2]
    · refine ⟨(h.2.1 j (by omega)).1, ?_⟩
      rw [pk_un (ar_E_ne h (by omega) hi (by omega))]
      exact (h.2.1 j (by omega)).2
    · refine ⟨(h.2.1 (j + 1) (by omega)).1, ?_⟩
      rw [pk_un (ar_E_ne h (by omega) hi (by omega))]
      exact (h.2.1 (j + 1) (by omega)).2
  · intro p hp hne
    have hpe : p ≠ e i := by intro hh; exact hne (by rw [hh]; exact pk_us)
    rw [pk_un hpe] at hne
    obtain ⟨j, hj, rfl⟩ := h.2.2 p hp hne
    have hji : j ≠ i := fun hh => hpe (by rw [hh])
    by_cases hc : j < i
    · exact ⟨j, by omega, ar_sh_lo e (by omega)⟩
    · refine ⟨j - 1, by omega, ?_⟩
      rw [ar_sh_hi e (by omega), show j - 1 + 1 = j by omega]
theorem ar_E_st {n m : Nat} {st st' : Nat → Int32} {e : Nat → Nat} (h : ar_E n m st e) (hs : ∀ p, p < n → (st' p = 2 ↔ st p = 2)) : ar_E n m st' e :=
  ⟨h.1, fun j hj => ⟨(h.2.1 j hj).1, fun z => (h.2.1 j hj).2 ((hs _ (h.2.1 j hj).1).mp z)⟩, fun p hp z => h.2.2 p hp (fun y => z ((hs p hp).mpr y))⟩
theorem ar_E_id {n : Nat} {st : Nat → Int32} (h : ∀ p, p < n → ¬ st p = 2) : ar_E n n st (fun j => j) :=
  ⟨fun _ _ h _ => h, fun j hj => ⟨hj, h j hj⟩, fun p hp _ => ⟨p, hp, rfl⟩⟩
/-! views -/
def ar_V {α : Type} (e : Nat → Nat) (m : Nat) (a g : Nat → α) : Prop := ∀ j, j < m → a j = g (e j)
theorem ar_V_rm {α : Type} {e : Nat → Nat} {m : Nat} {a g : Nat → α} (h : ar_V e m a g) (i : Nat) : ar_V (ar_sh e i m) (m - 1) (ar_sh a i m) g := by
  intro j hj
  by_cases hc : i ≤ j ∧ j + 1 < m
  · rw [ar_sh_hi a hc, ar_sh_hi e hc]; exact h (j + 1) hc.2
  · rw [ar_sh_lo a hc, ar_sh_lo e hc]; exact h j (by omega)
theorem ar_V_up {n m : Nat} {st : Nat → Int32} {e : Nat → Nat} (hE : ar_E n m st e) {a g : Nat → Int32} (h : ar_V e m a g) {i : Nat} (hi : i < m) (x : Int32) : ar_V e m (upd a i x) (upd g (e i) x) := by
  intro j hj
  by_cases hji : j = i
  · subst hji; rw [pk_us, pk_us]
  · rw [pk_un hji, pk_un (ar_E_ne hE hj hi hji)]; exact h j hj
theorem ar_V_g {α : Type} {e : Nat → Nat} {m : Nat} {a g g' : Nat → α} (h : ar_V e m a g) (hg : ∀ j, j < m → g' (e j) = g (e j)) : ar_V e m a g' :=
  fun j hj => (h j hj).trans (hg j hj).symm
theorem ar_V_id {α : Type} {m : Nat} {a g : Nat → α} : ar_V (fun j => j) m a g ↔ ∀ j, j < m → a j = g j := Iff.rfl
end
section
/-! chains: a live request with a successor stands right before it, and the successor waits -/
def ar_C (n : Nat) (st hs : Nat → Int32) : Prop := ∀ p, p < n → ¬ st p = 2 → ¬ hs p = 0 → p + 1 < n ∧ st (p + 1) = 0
/-- no live predecessor -/
def ar_H (st hs : Nat → Int32) (p : Nat) : Prop := ∀ r, r + 1 = p → st r = 2 ∨ hs r = 0
/-- p is reached from f through links -/
def ar_R (hs : Nat → Int32) (f p : Nat) : Prop := f ≤ p ∧ ∀ r, f ≤ r → r < p → ¬ hs r = 0
def ar_T (st : Nat → Int32) : Prop := ∀ p, st p = 0 ∨ st p = 1 ∨ st p = 2
theorem ar_02 : ¬ (0 : Int32) = 2 := by decide
theorem ar_12 : ¬ (1 : Int32) = 2 := by decide
theorem ar_10 : ¬ (1 : Int32) = 0 := by decide
theorem ar_01 : ¬ (0 : Int32) = 1 := by decide
theorem ar_20 : ¬ (2 : Int32) = 0 := by decide
theorem ar_21 : ¬ (2 : Int32) = 1 := by decide
theorem ar_C_up {n : Nat} {st hs : Nat → Int32} (h : ar_C n st hs) {p : Nat} (hH : ar_H st hs p) (x : Int32) (hp : ¬ st p = 2) : ar_C n (upd st p x) hs := by
  intro r hr ha hh
  have hal : ¬ st r = 2 := by
    by_cases e : r = p
    · rw [e]; exact hp
    · rw [pk_un e] at ha; exact ha
  have h1 := h r hr hal hh
  refine ⟨h1.1, ?_⟩
  by_cases e : r + 1 = p
  · rcases hH r e with z | z
    · exact absurd z hal
    · exact absurd z hh
  · rw [pk_un e]; exact h1.2
theorem ar_H_pend {n : Nat} {st hs : Nat → Int32} (h : ar_C n st hs) {p : Nat} (hp : p < n) (h1 : st p = 1) : ar_H st hs p := by
  intro r hr
  by_cases a : st r = 2
  · exact Or.inl a
  · by_cases b : hs r = 0
    · exact Or.inr b
    · have := (h r (by omega) a b).2
      rw [hr, h1] at this
      exact absurd this ar_10
theorem ar_reach {n : Nat} {st hs : Nat → Int32} (h : ar_C n st hs) {f : Nat} (hf : f < n) (ha : ¬ st f = 2) : ∀ d, ar_R hs f (f + d) → f + d < n ∧ ¬ st (f + d) = 2 := by
  intro d
  induction d with
  | zero => intro _; exact ⟨hf, ha⟩
  | succ d ih =>
    intro hR
    have h1 := ih ⟨by omega, fun r h1 h2 => hR.2 r h1 (by omega)⟩
    have h2 := h (f + d) h1.1 h1.2 (hR.2 (f + d) (by omega) (by omega))
    refine ⟨by omega, ?_⟩
    rw [show f + (d + 1) = f + d + 1 by omega, h2.2]
    exact ar_02
theorem ar_reachH {n : Nat} {st hs : Nat → Int32} (h : ar_C n st hs) {f p : Nat} (hf : f < n) (ha : ¬ st f = 2) (hR : ar_R hs f p) (hH : ar_H st hs p) : p = f := by
  by_cases e : p = f
  · exact e
  · have h0 : f < p := by have := hR.1; omega
    have h1 := ar_reach h hf ha (p - 1 - f) ⟨by omega, fun r h1 h2 => hR.2 r h1 (by omega)⟩
    rw [show f + (p - 1 - f) = p - 1 by omega] at h1
    rcases hH (p - 1) (by omega) with z | z
    · exact absurd z h1.2
    · exact absurd z (hR.2 (p - 1) (by omega) (by omega))
/-! what a chain's cancelling, a cancel, a run leave as it is -/
def ar_FC (hs st st' : Nat → Int32) (f : Nat) : Prop := ∀ p, st' p = st p ∨ (st' p = 2 ∧ ar_R hs f p ∧ (p = f ∨ st p = 0))
def ar_FK (n : Nat) (hs st st' : Nat → Int32) : Prop := ∀ p, st' p = st p ∨ (st' p = 2 ∧ ∃ f, f < n ∧ st f = 1 ∧ ar_R hs f p ∧ (p = f ∨ st p = 0))
def ar_FR (n : Nat) (hs st tk st' tk' : Nat → Int32) (f : Nat) : Prop :=
  (∀ p, st' p = 1 → tk' p = 0 → st p = 1 ∧ tk p = 0 ∧ p ≠ f) ∧ (∀ h, f < h → hs (h - 1) = 0 → (∀ p, h ≤ p → p < n → st p = 0) → ∀ p, h ≤ p → p < n → st' p = 0)
theorem ar_FC_1 {hs st : Nat → Int32} {f : Nat} : ar_FC hs st (upd st f 2) f := by
  intro p
  by_cases e : p = f
  · subst e; exact Or.inr ⟨pk_us, ⟨Nat.le_refl _, fun r h1 h2 => by omega⟩, Or.inl rfl⟩
  · exact Or.inl (pk_un e)
theorem ar_FC_S {hs st st' : Nat → Int32} {f : Nat} (hh : ¬ hs f = 0) (h0 : st (f + 1) = 0) (h : ar_FC hs (upd st f 2) st' (f + 1)) : ar_FC hs st st' f := by
  intro p
  by_cases e : p = f
  · subst e
    rcases h p with z | ⟨_, z, _⟩
    · rw [pk_us] at z
      exact Or.inr ⟨z, ⟨Nat.le_refl _, fun r h1 h2 => by omega⟩, Or.inl rfl⟩
    · have := z.1; omega
  · rcases h p with z | ⟨z1, z2, z3⟩
    · rw [pk_un e] at z; exact Or.inl z
    · refine Or.inr ⟨z1, ⟨by have := z2.1; omega, fun r h1 h2 => ?_⟩, Or.inr ?_⟩
      · by_cases er : r = f
        · rw [er]; exact hh
        · exact z2.2 r (by omega) h2
      · rcases z3 with z3 | z3
        · rw [z3]; exact h0
        · rw [pk_un e] at z3; exact z3
theorem ar_FK_0 {n : Nat} {hs st : Nat → Int32} : ar_FK n hs st st := fun _ => Or.inl rfl
theorem ar_FK_S {n : Nat} {hs st st1 st2 : Nat → Int32} {f : Nat} (hf : f < n) (h1 : st f = 1) (hC : ar_FC hs st st1 f) (hK : ar_FK n hs st1 st2) : ar_FK n hs st st2 := by
  intro p
  rcases hK p with z | ⟨z, g, hg, g1, g2, g3⟩
  · rcases hC p with y | ⟨y1, y2, y3⟩
    · exact Or.inl (z.trans y)
    · exact Or.inr ⟨z.trans y1, f, hf, h1, y2, y3⟩
  · refine Or.inr ⟨z, g, hg, ?_, g2, ?_⟩
    · rcases hC g with y | ⟨y1, _⟩
      · rw [← y]; exact g1
      · rw [y1] at g1; exact absurd g1 ar_21
    · rcases g3 with g3 | g3
      · exact Or.inl g3
      · rcases hC p with y | ⟨y1, _⟩
        · rw [y] at g3; exact Or.inr g3
        · rw [y1] at g3; exact absurd g3 ar_20
/-- the request that cancels stays as it is -/
theorem ar_FK_c {n : Nat} {hs st st' : Nat → Int32} (h : ar_C n st hs) (hK : ar_FK n hs st st') {p : Nat} (h0 : st p = 0) (hH : ar_H st hs p) : st' p = 0 := by
  rcases hK p with z | ⟨_, f, hf, f1, f2, _⟩
  · rw [z]; exact h0
  · have := ar_reachH h hf (by rw [f1]; exact ar_12) f2 hH
    rw [this, f1] at h0
    exact absurd h0 ar_10
theorem ar_FK_2 {n : Nat} {hs st st' : Nat → Int32} (hK : ar_FK n hs st st') {p : Nat} (h2 : st p = 2) : st' p = 2 := by
  rcases hK p with z | ⟨z, _⟩
  · rw [z]; exact h2
  · exact z
theorem ar_FK_H {n : Nat} {hs st st' : Nat → Int32} (hK : ar_FK n hs st st') {p : Nat} (h : ar_H st hs p) : ar_H st' hs p := by
  intro r hr
  rcases h r hr with z | z
  · exact Or.inl (ar_FK_2 hK z)
  · exact Or.inr z
/-- whole chains that have not begun stay as they are -/
theorem ar_FK_h {n : Nat} {hs st st' : Nat → Int32} (hK : ar_FK n hs st st') {h : Nat} (hh : 0 < h → hs (h - 1) = 0) (h0 : ∀ p, h ≤ p → p < n → st p = 0) : ∀ p, h ≤ p → p < n → st' p = 0 := by
  intro p h1 h2
  rcases hK p with z | ⟨_, f, hf, f1, f2, _⟩
  · rw [z]; exact h0 p h1 h2
  · have hlt : f < h := by
      by_cases e : f < h
      · exact e
      · have := h0 f (by omega) hf
        rw [f1] at this; exact absurd this ar_10
    exact absurd (hh (by omega)) (f2.2 (h - 1) (by omega) (by omega))
theorem ar_FK_1 {n : Nat} {hs st st' : Nat → Int32} (hK : ar_FK n hs st st') {p : Nat} (h1 : st' p = 1) : st p = 1 := by
  rcases hK p with z | ⟨z, _⟩
  · rw [← z]; exact h1
  · rw [z] at h1; exact absurd h1 ar_21
theorem ar_FC_1s {hs st st' : Nat → Int32} {f : Nat} (hK : ar_FC hs st st' f) {p : Nat} (h1 : st' p = 1) : st p = 1 := by
  rcases hK p with z | ⟨z, _⟩
  · rw [← z]; exact h1
  · rw [z] at h1; exact absurd h1 ar_21
theorem ar_FC_h {n : Nat} {hs st st' : Nat → Int32} {f : Nat} (hK : ar_FC hs st st' f) {h : Nat} (hf : f < h) (hh : hs (h - 1) = 0) (h0 : ∀ p, h ≤ p → p < n → st p = 0) : ∀ p, h ≤ p → p < n → st' p = 0 := by
  intro p h1 h2
  rcases hK p with z | ⟨_, f2, _⟩
  · rw [z]; exact h0 p h1 h2
  · exact absurd hh (f2.2 (h - 1) (by omega) (by omega))
/-! counting -/
def ar_cn (P : Nat → Bool) (a : Nat) : Nat → Nat
  | 0 => 0
  | d + 1 => (if P a then 1 else 0) + ar_cn P (a + 1) d
theorem ar_cn_c {P Q : Nat → Bool} : ∀ d a, (∀ p, a ≤ p → p < a + d → P p = Q p) → ar_cn P a d = ar_cn Q a d := by
  intro d
  induction d with
  | zero => intro a _; rfl
  | succ d ih =>
    intro a h
    unfold ar_cn
    rw [h a (by omega) (by omega), ih (a + 1) (fun p h1 h2 => h p (by omega) (by omega))]
theorem ar_cn_le {P : Nat → Bool} : ∀ d a, ar_cn P a d ≤ d := by
  intro d
  induction d with
  | zero => intro a; exact Nat.le_refl _
  | succ d ih =>
    intro a
    unfold ar_cn
    have := ih (a + 1)
    split <;> omega
/-- a place at in the arrays of X cuts the live requests at k -/
def ar_cut (e : Nat → Nat) (m at' k : Nat) : Prop := k ≤ m ∧ (∀ j, j < k → e j < at') ∧ (∀ j, k ≤ j → j < m → at' ≤ e j)
theorem ar_cut0 {e : Nat → Nat} {m : Nat} : ar_cut e m 0 0 := ⟨Nat.zero_le _, fun j h => absurd h (by omega), fun j _ _ => Nat.zero_le _⟩
theorem ar_cut_n {n m k : Nat} {st : Nat → Int32} {e : Nat → Nat} (h : ar_E n m st e) (hc : ar_cut e m n k) : k = m := by
  by_cases e1 : k = m
  · exact e1
  · have h1 := hc.1
    have h2 := hc.2.2 k (Nat.le_refl _) (by omega)
    have h3 := (h.2.1 k (by omega)).1
    omega
theorem ar_cut_a {n m k a : Nat} {st : Nat → Int32} {e : Nat → Nat} (h : ar_E n m st e) (hc : ar_cut e m a k) (ha : a < n) (hl : ¬ st a = 2) : k < m ∧ e k = a ∧ ar_cut e m (a + 1) (k + 1) := by
  obtain ⟨j, hj, rfl⟩ := h.2.2 a ha hl
  have hjk : j = k := by
    rcases Nat.lt_trichotomy j k with h1 | h1 | h1
    · have := hc.2.1 j h1; omega
    · exact h1
    · have h2 := h.1 k j h1 hj
      have h3 := hc.2.2 k (Nat.le_refl _) (by omega)
      omega
  subst hjk
  refine ⟨hj, rfl, by omega, fun i hi => ?_, fun i h1 h2 => ?_⟩
  · by_cases e1 : i = j
    · rw [e1]; omega
    · have := hc.2.1 i (by omega); omega
  · have := h.1 j i (by omega) h2; omega
theorem ar_cut_d {n m k a : Nat} {st : Nat → Int32} {e : Nat → Nat} (h : ar_E n m st e) (hc : ar_cut e m a k) (hl : st a = 2) : ar_cut e m (a + 1) k := by
  refine ⟨hc.1, fun i hi => by have := hc.2.1 i hi; omega, fun i h1 h2 => ?_⟩
  have h3 := hc.2.2 i h1 h2
  have h4 := (h.2.1 i h2).2
  by_cases e1 : e i = a
  · rw [e1] at h4; exact absurd hl h4
  · omega
theorem ar_cut_le {n m k a : Nat} {st : Nat → Int32} {e : Nat → Nat} (h : ar_E n m st e) (hc : ar_cut e m a k) : k ≤ a := by
  have hm : ∀ j, j < m → j ≤ e j := by
    intro j
    induction j with
    | zero => intro _; omega
    | succ j ih => intro hj; have := h.1 j (j + 1) (by omega) hj; have := ih (by omega); omega
  by_cases e1 : k = 0
  · omega
  · have h1 := hc.1
    have h2 := hc.2.1 (k - 1) (by omega)
    have h3 := hm (k - 1) (by omega)
    omega
theorem ar_E_le {n m : Nat} {st : Nat → Int32} {e : Nat → Nat} (h : ar_E n m st e) : m ≤ n := by
  by_cases e1 : m = 0
  · omega
  · have hc : ar_cut e m n m := ⟨Nat.le_refl _, fun j hj => (h.2.1 j hj).1, fun j h1 h2 => by omega⟩
    exact ar_cut_le h hc
theorem ar_cn_E {n m : Nat} {st : Nat → Int32} {e : Nat → Nat} (h : ar_E n m st e) {P : Nat → Bool} (hP : ∀ p, P p = true → ¬ st p = 2) : ∀ d a k, a + d = n → ar_cut e m a k → ar_cn (fun j => P (e j)) k (m - k) = ar_cn P a d := by
  intro d
  induction d with
  | zero =>
    intro a k ha hc
    have : k = m := ar_cut_n h (by rw [← ha]; exact hc)
    rw [this, Nat.sub_self]; rfl
  | succ d ih =>
    intro a k ha hc
    by_cases hl : st a = 2
    · have h1 := ih (a + 1) k (by omega) (ar_cut_d h hc hl)
      rw [h1]
      show _ = (if P a then 1 else 0) + ar_cn P (a + 1) d
      rw [if_neg (fun z => hP a z hl), Nat.zero_add]
    · obtain ⟨h1, h2, h3⟩ := ar_cut_a h hc (by omega) hl
      have h4 := ih (a + 1) (k + 1) (by omega) h3
      rw [show m - k = (m - (k + 1)) + 1 by omega]
      show (if P (e k) then 1 else 0) + ar_cn (fun j => P (e j)) (k + 1) (m - (k + 1)) = (if P a then 1 else 0) + ar_cn P (a + 1) d
      rw [h4, h2]
end
section
/-! the completions: one ring in X, two rows in Y -/
def ar_Z (F c o : Nat) (T cT oT : Nat → Int32) : Prop := (∀ j, j < c → T ((F + j) % 48) = cT j) ∧ (∀ j, j < o → T ((F + (c + j)) % 48) = oT j)
theorem ar_Z_A {F c : Nat} {T cT oT : Nat → Int32} (h : ar_Z F c 0 T cT oT) (hc : c < 48) (x : Int32) : ar_Z F (c + 1) 0 (upd T ((F + c) % 48) x) (upd cT c x) oT := by
  refine ⟨fun j hj => ?_, fun j hj => absurd hj (by omega)⟩
  by_cases e : j = c
  · subst e; rw [pk_us, pk_us]
  · rw [pk_un (by omega), pk_un e]; exact h.1 j (by omega)
theorem ar_Z_B {F c o : Nat} {T cT oT : Nat → Int32} (h : ar_Z F c o T cT oT) (hc : c + o < 48) (x : Int32) : ar_Z F c (o + 1) (upd T ((F + (c + o)) % 48) x) cT (upd oT o x) := by
  refine ⟨fun j hj => ?_, fun j hj => ?_⟩
  · rw [pk_un (by omega)]; exact h.1 j hj
  · by_cases e : j = o
    · subst e; rw [pk_us, pk_us]
    · rw [pk_un (by omega), pk_un e]; exact h.2 j (by omega)
theorem ar_Z_mv {F c o : Nat} {T cT oT : Nat → Int32} (h : ar_Z F c (o + 1) T cT oT) : ar_Z F (c + 1) o T (upd cT c (oT 0)) (ar_sh oT 0 (o + 1)) := by
  refine ⟨fun j hj => ?_, fun j hj => ?_⟩
  · by_cases e : j = c
    · subst e; rw [pk_us]; exact h.2 0 (by omega)
    · rw [pk_un e]; exact h.1 j (by omega)
  · rw [ar_sh_hi oT (by omega), ← h.2 (j + 1) (by omega), show c + 1 + j = c + (j + 1) by omega]
theorem ar_Z_pop {F c o : Nat} {T cT oT : Nat → Int32} (h : ar_Z F (c + 1) o T cT oT) : ar_Z ((F + 1) % 48) c o T (ar_sh cT 0 (c + 1)) oT := by
  refine ⟨fun j hj => ?_, fun j hj => ?_⟩
  · rw [ar_sh_hi cT (by omega), ← h.1 (j + 1) (by omega), show ((F + 1) % 48 + j) % 48 = (F + (j + 1)) % 48 by omega]
  · rw [← h.2 j hj, show ((F + 1) % 48 + (c + j)) % 48 = (F + (c + 1 + j)) % 48 by omega]
/-! the submissions: a ring in X, a row in Y -/
def ar_W (F N : Nat) (a b : Nat → Int32) : Prop := ∀ j, j < N → a ((F + j) % 16) = b j
theorem ar_W_put {F N : Nat} {a b : Nat → Int32} (h : ar_W F N a b) (hN : N < 16) (x : Int32) : ar_W F (N + 1) (upd a ((F + N) % 16) x) (upd b N x) := by
  intro j hj
  by_cases e : j = N
  · subst e; rw [pk_us, pk_us]
  · rw [pk_un (by omega), pk_un e]; exact h j (by omega)
theorem ar_W_0 {F N : Nat} {a b : Nat → Int32} (h : ar_W F (N + 1) a b) (hF : F < 16) : a F = b 0 := by
  have := h 0 (by omega)
  rw [show (F + 0) % 16 = F by omega] at this
  exact this
theorem ar_W_take {F N : Nat} {a b : Nat → Int32} (h : ar_W F (N + 1) a b) : ar_W ((F + 1) % 16) N a (ar_sh b 0 (N + 1)) := by
  intro j hj
  rw [ar_sh_hi b (by omega), ← h (j + 1) (by omega), show ((F + 1) % 16 + j) % 16 = (F + (j + 1)) % 16 by omega]
/-! the live requests, all views together -/
def ar_pd (st : Nat → Int32) : Nat → Int32 := fun p => if st p = 1 then 1 else 0
def ar_su (hs : Nat → Int32) (q : Nat → Nat) : Nat → Int64 := fun p => if hs p = 0 then -1 else lN (q p + 1)
def ar_sq (q : Nat → Nat) : Nat → Int64 := fun p => lN (q p)
def ar_Q (n s : Nat) (st hs : Nat → Int32) (q : Nat → Nat) : Prop := (∀ p r, p < r → r < n → q p < q r) ∧ (∀ p, p < n → ¬ st p = 2 → ¬ hs p = 0 → q (p + 1) = q p + 1) ∧ (∀ p, p < n → q p < s)
def ar_blk (a : Int32) : Prop := ¬ a < 0 ∧ a < 16
def ar_buf (b : Int32) : Prop := ¬ b < 0 ∧ b < 8
/-- a request that waits: valid, and of a kind that waits -/
def ar_ok (o a b : Int32) : Prop := ((o = 1 ∨ o = 2) ∧ ar_blk a ∧ ar_buf b) ∨ (o = 3 ∧ ar_blk a) ∨ (o = 4 ∧ ¬ a < 1 ∧ ¬ 16 < a)
def ar_P (n : Nat) (st op A B : Nat → Int32) : Prop := ∀ p, p < n → st p = 1 → ar_ok (op p) (A p) (B p)
def ar_M (n m s : Nat) (e q : Nat → Nat) (op A B tg st tk hs lOp lA lB lTag lTicks lPend : Nat → Int32) (lSeq lSucc : Nat → Int64) : Prop :=
  ar_E n m st e ∧ ar_V e m lOp op ∧ ar_V e m lA A ∧ ar_V e m lB B ∧ ar_V e m lTag tg ∧ ar_V e m lTicks tk ∧ ar_V e m lPend (ar_pd st) ∧ ar_V e m lSeq (ar_sq q) ∧ ar_V e m lSucc (ar_su hs q) ∧ ar_C n st hs ∧ ar_Q n s st hs q ∧ ar_P n st op A B
theorem ar_Q_st {n s : Nat} {st st' hs : Nat → Int32} {q : Nat → Nat} (h : ar_Q n s st hs q) (hs' : ∀ p, p < n → st p = 2 → st' p = 2) : ar_Q n s st' hs q :=
  ⟨h.1, fun p hp ha hh => h.2.1 p hp (fun z => ha (hs' p hp z)) hh, h.2.2⟩
section
variable {n m s : Nat} {e q : Nat → Nat} {op A B tg st tk hs lOp lA lB lTag lTicks lPend : Nat → Int32} {lSeq lSucc : Nat → Int64}
theorem ar_M_post (h : ar_M n m s e q op A B tg st tk hs lOp lA lB lTag lTicks lPend lSeq lSucc) {i : Nat} (hi : i < m) (hH : ar_H st hs (e i)) :
    ar_M n (m - 1) s (ar_sh e i m) q op A B tg (upd st (e i) 2) tk hs (ar_sh lOp i m) (ar_sh lA i m) (ar_sh lB i m) (ar_sh lTag i m) (ar_sh lTicks i m) (ar_sh lPend i m) (ar_sh lSeq i m) (ar_sh lSucc i m) := by
  obtain ⟨hE, h1, h2, h3, h4, h5, h6, h7, h8, hC, hQ, hP⟩ := h
  have hE' := ar_E_rm hE hi
  refine ⟨hE', ar_V_rm h1 i, ar_V_rm h2 i, ar_V_rm h3 i, ar_V_rm h4 i, ar_V_rm h5 i, ?_, ar_V_rm h7 i, ar_V_rm h8 i, ar_C_up hC hH 2 (hE.2.1 i hi).2, ?_, ?_⟩
  · refine ar_V_g (ar_V_rm h6 i) (fun j hj => ?_)
    have h9 := (hE'.2.1 j hj).2
    have h10 : ar_sh e i m j ≠ e i := fun z => h9 (by rw [z]; exact pk_us)
    unfold ar_pd
    rw [pk_un h10]
  · refine ar_Q_st hQ (fun p _ z => ?_)
    by_cases e1 : p = e i
    · rw [e1]; exact pk_us
    · rw [pk_un e1]; exact z
  · intro p hp h9
    by_cases e1 : p = e i
    · rw [e1, pk_us] at h9; exact absurd h9 ar_21
    · rw [pk_un e1] at h9; exact hP p hp h9
theorem ar_M_pend (h : ar_M n m s e q op A B tg st tk hs lOp lA lB lTag lTicks lPend lSeq lSucc) {i : Nat} (hi : i < m) (hH : ar_H st hs (e i)) (t : Int32) (ho : ar_ok (op (e i)) (A (e i)) (B (e i))) :
    ar_M n m s e q op A B tg (upd st (e i) 1) (upd tk (e i) t) hs lOp lA lB lTag (upd lTicks i t) (upd lPend i 1) lSeq lSucc := by
  obtain ⟨hE, h1, h2, h3, h4, h5, h6, h7, h8, hC, hQ, hP⟩ := h
  have hal := (hE.2.1 i hi).2
  have hst : ∀ p, p < n → (upd st (e i) 1 p = 2 ↔ st p = 2) := by
    intro p _
    by_cases e1 : p = e i
    · rw [e1, pk_us]; exact ⟨fun z => absurd z ar_12, fun z => absurd z hal⟩
    · rw [pk_un e1]
  refine ⟨ar_E_st hE hst, h1, h2, h3, h4, ar_V_up hE h5 hi t, ?_, h7, h8, ar_C_up hC hH 1 hal, ar_Q_st hQ (fun p hp z => (hst p hp).mpr z), ?_⟩
  · refine ar_V_g (ar_V_up hE h6 hi 1) (fun j hj => ?_)
    unfold ar_pd
    by_cases e1 : j = i
    · rw [e1, pk_us, pk_us]; rfl
    · rw [pk_un (ar_E_ne hE hj hi e1), pk_un (ar_E_ne hE hj hi e1)]
  · intro p hp h9
    by_cases e1 : p = e i
    · rw [e1]; exact ho
    · rw [pk_un e1] at h9; exact hP p hp h9
theorem ar_M_ix (h : ar_M n m s e q op A B tg st tk hs lOp lA lB lTag lTicks lPend lSeq lSucc) {p : Nat} (hp : p < n) (ha : ¬ st p = 2) : ∃ i, i < m ∧ e i = p := h.1.2.2 p hp ha
theorem ar_M_seq (h : ar_M n m s e q op A B tg st tk hs lOp lA lB lTag lTicks lPend lSeq lSucc) (hs : s < 2 ^ 31) {i j : Nat} (hi : i < m) (hj : j < m) : lSeq j = lN (q (e i)) ↔ j = i := by
  obtain ⟨hE, -, -, -, -, -, -, h7, -, -, hQ, -⟩ := h
  rw [h7 j hj]
  show lN (q (e j)) = lN (q (e i)) ↔ j = i
  have a1 := hQ.2.2 (e i) (hE.2.1 i hi).1
  have a2 := hQ.2.2 (e j) (hE.2.1 j hj).1
  rw [lN_eq (by omega) (by omega)]
  constructor
  · intro z
    rcases Nat.lt_trichotomy (e i) (e j) with c | c | c
    · have := hQ.1 _ _ c (hE.2.1 j hj).1; omega
    · exact (ar_E_inj hE hi hj c).symm
    · have := hQ.1 _ _ c (hE.2.1 i hi).1; omega
  · intro z; rw [z]
/-- after the call: the live requests stand at their own places again -/
theorem ar_M_drop (h : ar_M n m s e q op A B tg st tk hs lOp lA lB lTag lTicks lPend lSeq lSucc) {op' A' B' tg' st' tk' hs' : Nat → Int32}
    (c1 : ∀ j, j < m → op' j = op (e j)) (c2 : ∀ j, j < m → A' j = A (e j)) (c3 : ∀ j, j < m → B' j = B (e j)) (c4 : ∀ j, j < m → tg' j = tg (e j)) (c5 : ∀ j, j < m → st' j = st (e j)) (c6 : ∀ j, j < m → tk' j = tk (e j)) (c7 : ∀ j, j < m → hs' j = hs (e j)) :
    ar_M m m s (fun j => j) (fun j => q (e j)) op' A' B' tg' st' tk' hs' lOp lA lB lTag lTicks lPend lSeq lSucc ∧ (∀ p, p < m → ¬ st' p = 2) := by
  obtain ⟨hE, h1, h2, h3, h4, h5, h6, h7, h8, hC, hQ, hP⟩ := h
  have hal : ∀ p, p < m → ¬ st' p = 2 := fun p hp => by rw [c5 p hp]; exact (hE.2.1 p hp).2
  have hnx : ∀ p, p < m → ¬ hs' p = 0 → p + 1 < m ∧ e (p + 1) = e p + 1 ∧ st (e p + 1) = 0 := by
    intro p hp hh
    rw [c7 p hp] at hh
    have hb := hE.2.1 p hp
    obtain ⟨d1, d2⟩ := hC (e p) hb.1 hb.2 hh
    obtain ⟨j, hj, ej⟩ := hE.2.2 (e p + 1) d1 (by rw [d2]; exact ar_02)
    have hpj : p < j := ar_E_lt hE hp hj (by omega)
    have hp1 : p + 1 < m := by omega
    have hj1 : j = p + 1 := by
      by_cases e1 : j = p + 1
      · exact e1
      · have a1 := hE.1 p (p + 1) (by omega) hp1
        have a2 := hE.1 (p + 1) j (by omega) hj
        omega
    rw [hj1] at ej
    exact ⟨hp1, ej, d2⟩
  refine ⟨⟨ar_E_id hal, ?_, ?_, ?_, ?_, ?_, ?_, ?_, ?_, ?_, ⟨?_, ?_, ?_⟩, ?_⟩, hal⟩
  · exact fun j hj => (h1 j hj).trans (c1 j hj).symm
  · exact fun j hj => (h2 j hj).trans (c2 j hj).symm
  · exact fun j hj => (h3 j hj).trans (c3 j hj).symm
  · exact fun j hj => (h4 j hj).trans (c4 j hj).symm
  · exact fun j hj => (h5 j hj).trans (c6 j hj).symm
  · intro j hj
    rw [h6 j hj]
    unfold ar_pd
    rw [c5 j hj]
  · exact fun j hj => h7 j hj
  · intro j hj
    rw [h8 j hj]
    unfold ar_su
    rw [c7 j hj]
  · intro p hp _ hh
    obtain ⟨a1, a2, a3⟩ := hnx p hp hh
    exact ⟨a1, by rw [c5 _ a1, a2]; exact a3⟩
  · exact fun p r hpr hr => hQ.1 _ _ (hE.1 p r hpr hr) (hE.2.1 r hr).1
  · intro p hp _ hh
    obtain ⟨a1, a2, a3⟩ := hnx p hp hh
    rw [c7 p hp] at hh
    show q (e (p + 1)) = q (e p) + 1
    rw [a2]
    exact hQ.2.1 (e p) (hE.2.1 p hp).1 (hE.2.1 p hp).2 hh
  · exact fun p hp => hQ.2.2 _ (hE.2.1 p hp).1
  · intro p hp h9
    rw [c5 p hp] at h9
    rw [c1 p hp, c2 p hp, c3 p hp]
    exact hP _ (hE.2.1 p hp).1 h9
end
end
section
theorem ar_uc (a : Nat → Int32) {p : Nat} (x : Int32) (hp : p < 2 ^ 31) : upd a (nI p).toNatClampNeg x = upd a p x := by rw [nI_clamp hp]
theorem ar_ur (a b : Nat → Int32) {p r : Nat} (hp : p < 2 ^ 31) (hr : r < 2 ^ 31) : upd a (nI p).toNatClampNeg (b (nI r).toNatClampNeg) = upd a p (b r) := by rw [nI_clamp hp, nI_clamp hr]
theorem ar_ub (a : Nat → Int32) {p : Nat} (x : Int32) (hp : p < 2 ^ 31) (hx : x = 0 ∨ x = 1) : upd a (nI p).toNatClampNeg (vp_nar .boolean x) = upd a p x := by
  rw [nI_clamp hp]
  rcases hx with h | h <;> rw [h] <;> rfl
theorem ar_urb (a b : Nat → Int32) {p r : Nat} (hp : p < 2 ^ 31) (hr : r < 2 ^ 31) (hb : ar_B b) : upd a (nI p).toNatClampNeg (vp_nar .boolean (b (nI r).toNatClampNeg)) = upd a p (b r) := by rw [nI_clamp hp, nI_clamp hr, ar_B_nar hb]
theorem ar_uL (a : Nat → Int64) {p : Nat} (x : Int64) (hp : p < 2 ^ 31) : vp_updL a (nI p).toNatClampNeg x = vp_updL a p x := by rw [nI_clamp hp]
theorem ar_st1 (a : Nat → Int32) {i j : Nat} (h : i ≤ j) (hj : j < 2 ^ 30) : upd (ar_sh a i (j + 1)) (nI j).toNatClampNeg (ar_sh a i (j + 1) (nI j + 1).toNatClampNeg) = ar_sh a i (j + 1 + 1) := by
  rw [nI_1, nI_clamp (by omega), nI_clamp (by omega)]; exact ar_shS a h
theorem ar_stb (a : Nat → Int32) {i j : Nat} (h : i ≤ j) (hj : j < 2 ^ 30) (hb : ar_B a) : upd (ar_sh a i (j + 1)) (nI j).toNatClampNeg (vp_nar .boolean (ar_sh a i (j + 1) (nI j + 1).toNatClampNeg)) = ar_sh a i (j + 1 + 1) := by
  rw [ar_B_nar (ar_Bs hb _ _)]; exact ar_st1 a h hj
theorem ar_stL (a : Nat → Int64) {i j : Nat} (h : i ≤ j) (hj : j < 2 ^ 30) : vp_updL (ar_sh a i (j + 1)) (nI j).toNatClampNeg (ar_sh a i (j + 1) (nI j + 1).toNatClampNeg) = ar_sh a i (j + 1 + 1) := by
  rw [nI_1, nI_clamp (by omega), nI_clamp (by omega)]; exact ar_shL a h
theorem ar_r48 (a b : Nat) (h : a + b < 2 ^ 31) : nI a + nI b - (nI a + nI b) / 48 * 48 = nI ((a + b) % 48) := by
  rw [nI_add]; exact pk_rem (d := 48) h (by decide) (by decide)
theorem ar_r16 (a b : Nat) (h : a + b < 2 ^ 31) : nI a + nI b - (nI a + nI b) / 16 * 16 = nI ((a + b) % 16) := by
  rw [nI_add]; exact pk_rem (d := 16) h (by decide) (by decide)
theorem ar_n1 {a b : Nat} (h : b = a + 1) : nI a + 1 = nI b := by rw [h, nI_1]
theorem ar_l0 {a : Nat} (h : a < 2 ^ 31) : (0 : Int64) ≤ lN a := (lN_le (a := 0) (b := a) (by omega) h).mpr (Nat.zero_le _)
section
variable {S C L F n s qF qN c o m : Nat} {K po wp : Int32} {xO xA xB xT yO yA yB yT op A B tg hs hd T R st tk bl bf cT cR oT oR lo la lb lt lk ln lP mk : Nat → Int32} {lq ls : Nat → Int64}
theorem ay_rm (post : SY → Prop) {i : Nat} (hm : m ≤ 32) (h1 : ar_B ln) (h2 : ar_B lP) (h3 : ar_B mk)
    (hp : post (nI S, nI C, nI L, nI qN, nI c, nI o, nI (m - 1), lN s, po, wp, yO, yA, yB, yT, cT, cR, oT, oR, ar_sh lo i m, ar_sh la i m, ar_sh lb i m, ar_sh lt i m, ar_sh lk i m, ar_sh ln i m, ar_sh lP i m, ar_sh mk i m, ar_sh lq i m, ar_sh ls i m, hd, bl, bf)) : ∀ d j, j + d + 1 = m → i ≤ j → wY_removeAt_15 post (nI S) (nI C) (nI L) (nI qN) (nI c) (nI o) (nI m) (lN s) po wp (d + 1) (nI j) yO yA yB yT cT cR oT oR (ar_sh lo i (j + 1)) (ar_sh la i (j + 1)) (ar_sh lb i (j + 1)) (ar_sh lt i (j + 1)) (ar_sh lk i (j + 1)) (ar_sh ln i (j + 1)) (ar_sh lP i (j + 1)) (ar_sh mk i (j + 1)) (ar_sh lq i (j + 1)) (ar_sh ls i (j + 1)) hd bl bf := by
  intro d
  induction d with
  | zero =>
    intro j hj hi
    have e : m = j + 1 := by omega
    subst e
    refine br_t ?_ (nm_r (nI_pred j) hp)
    rw [nI_pred]; exact nI_le (Nat.le_refl _) (by omega)
  | succ d ih =>
    intro j hj hi
    have a1 : ¬ nI m - 1 ≤ nI j := by
      rw [show m = (j + d + 1) + 1 by omega, nI_pred]; exact nI_ge (by omega) (by omega)
    have a2 : ¬ (31 : Int32) ≤ nI j := nI_ge (b := 31) (by omega) (by decide)
    have i1 : vp_in (nI j + 1) 32 := by rw [nI_1]; exact vp_in_nI (by omega) (by omega)
    have i0 : vp_in (nI j) 32 := vp_in_nI (by omega) (by omega)
    have hj' : j < 2 ^ 30 := by omega
    exact br_f a1 (br_f a2 ⟨i1, i0, nm_r (ar_st1 lo hi hj') ⟨i1, i0, nm_r (ar_st1 la hi hj') ⟨i1, i0, nm_r (ar_st1 lb hi hj') ⟨i1, i0, nm_r (ar_st1 lt hi hj') ⟨i1, i0, nm_r (ar_st1 lk hi hj') ⟨i1, i0, nm_r (ar_stb ln hi hj' h1) ⟨i1, i0, nm_r (ar_stb lP hi hj' h2) ⟨i1, i0, nm_r (ar_stb mk hi hj' h3) ⟨i1, i0, nm_r (ar_stL lq hi hj') ⟨i1, i0, nm_r (ar_stL ls hi hj') (nm_r (nI_1 j) (ih (j + 1) (by omega) (by omega)))⟩⟩⟩⟩⟩⟩⟩⟩⟩⟩)
theorem ay_removeAt (post : SY → Prop) {i : Nat} (hm : m ≤ 32) (hi : i < m) (h1 : ar_B ln) (h2 : ar_B lP) (h3 : ar_B mk)
    (hp : post (nI S, nI C, nI L, nI qN, nI c, nI o, nI (m - 1), lN s, po, wp, yO, yA, yB, yT, cT, cR, oT, oR, ar_sh lo i m, ar_sh la i m, ar_sh lb i m, ar_sh lt i m, ar_sh lk i m, ar_sh ln i m, ar_sh lP i m, ar_sh mk i m, ar_sh lq i m, ar_sh ls i m, hd, bl, bf)) : wpY_removeAt post (nI S, nI C, nI L, nI qN, nI c, nI o, nI m, lN s, po, wp, yO, yA, yB, yT, cT, cR, oT, oR, lo, la, lb, lt, lk, ln, lP, mk, lq, ls, hd, bl, bf) (nI i) := by
  have h := ay_rm post hm h1 h2 h3 hp (m - 1 - i) i (by omega) (Nat.le_refl _)
  simp only [ar_sh0] at h
  exact br_f (nI_pos (by omega)) (br_t (nI_lt hi (by omega)) ⟨_, h⟩)
theorem ay_find (post : Int32 → Prop) {x : Int64} {i : Nat} (hm : m ≤ 32) (hi : i < m) (hx : lq i = x) (hn : ∀ j, j < i → ¬ lq j = x) (hp : post (nI i)) : ∀ d j, j + d = i → wY_findSeq_2 post x (nI S) (nI C) (nI L) (nI qN) (nI c) (nI o) (nI m) (lN s) po wp yO yA yB yT cT cR oT oR lo la lb lt lk ln lP mk lq ls hd bl bf (d + 1) (nI j) := by
  intro d
  induction d with
  | zero =>
    intro j hj
    have e : j = i := by omega
    subst e
    exact br_f (nI_ge hi (by omega)) (br_f (nI_ge (b := 32) (by omega) (by decide)) ⟨vp_in_nI (by omega) (by omega), br_t (by rw [nI_clamp (by omega)]; exact hx) hp⟩)
  | succ d ih =>
    intro j hj
    exact br_f (nI_ge (by omega) (by omega)) (br_f (nI_ge (b := 32) (by omega) (by decide)) ⟨vp_in_nI (by omega) (by omega), br_f (by rw [nI_clamp (by omega)]; exact hn j (by omega)) (nm_r (nI_1 j) (ih (j + 1) (by omega)))⟩)
theorem ay_findSeq (post : Int32 → Prop) {x : Int64} {i : Nat} (hm : m ≤ 32) (hi : i < m) (hx : lq i = x) (hn : ∀ j, j < i → ¬ lq j = x) (hp : post (nI i)) : wpY_findSeq post (nI S, nI C, nI L, nI qN, nI c, nI o, nI m, lN s, po, wp, yO, yA, yB, yT, cT, cR, oT, oR, lo, la, lb, lt, lk, ln, lP, mk, lq, ls, hd, bl, bf) x :=
  ⟨_, ay_find post hm hi hx hn hp i 0 (by omega)⟩
theorem ay_post95 (post : SY → Prop) {x t : Int32} (ho : o < 32)
    (hp : post (nI S, nI C, nI L, nI qN, nI c, nI (o + 1), nI m, lN s, po, wp, yO, yA, yB, yT, cT, cR, upd oT o t, upd oR o x, lo, la, lb, lt, lk, ln, lP, mk, lq, ls, hd, bl, bf)) : wY_post_95 post x t (nI S) (nI C) (nI L) (nI qN) (nI c) (nI o) (nI m) (lN s) po wp yO yA yB yT cT cR oT oR lo la lb lt lk ln lP mk lq ls hd bl bf :=
  br_f (nI_ge (b := 32) ho (by decide)) ⟨vp_in_nI ho (by omega), nm_r (ar_uc oT t (by omega)) ⟨vp_in_nI ho (by omega), nm_r (ar_uc oR x (by omega)) (nm_r (nI_1 o) hp)⟩⟩
theorem ay_post (post : SY → Prop) {i : Nat} {res : Int32} (hm : m ≤ 32) (hi : i < m) (hC : C ≤ 16) (hc : c ≤ C) (ho : o < 32) (h1 : ar_B ln) (h2 : ar_B lP) (h3 : ar_B mk)
    (hA : o = 0 → c < C → post (nI S, nI C, nI L, nI qN, nI (c + 1), nI o, nI (m - 1), lN s, po + 1, wp, yO, yA, yB, yT, upd cT c (lt i), upd cR c res, oT, oR, ar_sh lo i m, ar_sh la i m, ar_sh lb i m, ar_sh lt i m, ar_sh lk i m, ar_sh ln i m, ar_sh lP i m, ar_sh mk i m, ar_sh lq i m, ar_sh ls i m, hd, bl, bf))
    (hB : ¬ (o = 0 ∧ c < C) → post (nI S, nI C, nI L, nI qN, nI c, nI (o + 1), nI (m - 1), lN s, po + 1, wp, yO, yA, yB, yT, cT, cR, upd oT o (lt i), upd oR o res, ar_sh lo i m, ar_sh la i m, ar_sh lb i m, ar_sh lt i m, ar_sh lk i m, ar_sh ln i m, ar_sh lP i m, ar_sh mk i m, ar_sh lq i m, ar_sh ls i m, hd, bl, bf)) : wpY_post post (nI S, nI C, nI L, nI qN, nI c, nI o, nI m, lN s, po, wp, yO, yA, yB, yT, cT, cR, oT, oR, lo, la, lb, lt, lk, ln, lP, mk, lq, ls, hd, bl, bf) (nI i) res := by
  refine br_f (nI_pos (by omega)) (br_t (nI_lt hi (by omega)) ⟨vp_in_nI (by omega) (by omega), nm_r (e' := lt i) (by rw [nI_clamp (by omega)]) (ay_removeAt _ hm hi h1 h2 h3 (nm_e ?_))⟩)
  by_cases z : o = 0
  · refine br_t (by rw [z]; rfl) ?_
    by_cases y : c < C
    · refine br_f (nI_ge y (by omega)) (br_f (nI_ge (b := 16) (by omega) (by decide)) ⟨vp_in_nI (by omega) (by omega), nm_r (ar_uc cT _ (by omega)) ⟨vp_in_nI (by omega) (by omega), nm_r (ar_uc cR _ (by omega)) (nm_r (nI_1 c) (hA z y))⟩⟩)
    · exact br_t (nI_le (by omega) (by omega)) (ay_post95 _ ho (hB (fun w => y w.2)))
  · exact br_f (nI_ne0 (by omega) (by omega)) (ay_post95 _ ho (hB (fun w => z w.1)))
theorem ax_post (post : SX → Prop) {p : Nat} {res : Int32} (hp : p < 32) (hC : C ≤ 16) (hF : F < 48) (hD : c + o < 48)
    (hA : o = 0 → c < C → post (nI S, nI C, nI L, nI qF, nI qN, nI F, nI (c + 1 + o), nI (c + 1), nI n, xO, xA, xB, xT, upd T ((F + (c + o)) % 48) (tg p), upd R ((F + (c + o)) % 48) res, op, A, B, tg, upd st p 2, tk, hs, bl, bf))
    (hB : ¬ (o = 0 ∧ c < C) → post (nI S, nI C, nI L, nI qF, nI qN, nI F, nI (c + (o + 1)), nI c, nI n, xO, xA, xB, xT, upd T ((F + (c + o)) % 48) (tg p), upd R ((F + (c + o)) % 48) res, op, A, B, tg, upd st p 2, tk, hs, bl, bf)) : wpX_post post (nI S, nI C, nI L, nI qF, nI qN, nI F, nI (c + o), nI c, nI n, xO, xA, xB, xT, T, R, op, A, B, tg, st, tk, hs, bl, bf) (nI p) res := by
  have hs : (F + (c + o)) % 48 < 48 := Nat.mod_lt _ (by omega)
  refine And.intro (vp_in_nI hp (by omega)) (nm_r (ar_uc st 2 (by omega)) ⟨by decide, nm_r (ar_r48 F (c + o) (by omega)) ⟨vp_in_nI hp (by omega), vp_in_nI hs (by omega), nm_r (ar_ur T tg (by omega) (by omega)) ⟨vp_in_nI hs (by omega), nm_r (ar_uc R res (by omega)) ?_⟩⟩⟩)
  by_cases z : o = 0
  · refine br_t (by rw [z]; rfl) ?_
    by_cases y : c < C
    · exact br_f (nI_ge y (by omega)) (nm_r (nI_1 c) (nm_r (ar_n1 (by omega)) (hA z y)))
    · exact br_t (nI_le (by omega) (by omega)) (nm_r (ar_n1 (by omega)) (hB (fun w => y w.2)))
  · exact br_f (by rw [nI_eq (by omega) (by omega)]; omega) (nm_r (ar_n1 (by omega)) (hB (fun w => z w.1)))
end
end
section
def ar_N (C L F n s : Nat) : Prop := C ≤ 16 ∧ n ≤ 32 ∧ s < 2 ^ 31 ∧ F < 48 ∧ L ≤ 4
def ar_G (S C L F n s qF qN : Nat) (K : Int32) (q : Nat → Nat) (xO xA xB xT yO yA yB yT op A B tg hs hd st tk : Nat → Int32) (m : Nat) (e : Nat → Nat) (mk : Nat → Int32) (wp : Int32) (u : SX) (v : SY) : Prop :=
  ∃ (c o : Nat) (T R cT cR oT oR lo la lb lt lk ln lP : Nat → Int32) (lq ls : Nat → Int64) (bl bf : Nat → Int32) (po : Int32),
    u = (nI S, nI C, nI L, nI qF, nI qN, nI F, nI (c + o), nI c, nI n, xO, xA, xB, xT, T, R, op, A, B, tg, st, tk, hs, bl, bf) ∧ v = (nI S, nI C, nI L, nI qN, nI c, nI o, nI m, lN s, po, wp, yO, yA, yB, yT, cT, cR, oT, oR, lo, la, lb, lt, lk, ln, lP, mk, lq, ls, hd, bl, bf) ∧ ar_M n m s e q op A B tg st tk hs lo la lb lt lk lP lq ls ∧ ar_Z F c o T cT oT ∧ ar_Z F c o R cR oR ∧ c ≤ C ∧ m + o ≤ 32 ∧ po + nI m = K ∧ ar_B ln ∧ ar_B lP ∧ ar_B mk
def lx_pcc (post : SX → Prop) (k : Nat) (x : Int32) (u : SX) : Prop := match u with
  | (f_sqCapacity, f_cqCapacity, f_latency, f_sqFirst, f_sqCount, f_doneFirst, f_doneCount, f_cqCount, f_reqCount, a_sqOpFlags, a_sqA, a_sqB, a_sqTag, a_doneTag, a_doneResult, a_reqOpcode, a_reqA, a_reqB, a_reqTag, a_reqState, a_reqTicks, a_reqHasSuccessor, a_blocks, a_buffers) => wX_postCanceledChain_2 post k x f_sqCapacity f_cqCapacity f_latency f_sqFirst f_sqCount f_doneFirst f_doneCount f_cqCount f_reqCount a_sqOpFlags a_sqA a_sqB a_sqTag a_doneTag a_doneResult a_reqOpcode a_reqA a_reqB a_reqTag a_reqState a_reqTicks a_reqHasSuccessor a_blocks a_buffers
theorem lx_pcc_w (post : SX → Prop) (k : Nat) (x : Int32) : ∀ u : SX, lx_pcc post k x u → wpX_postCanceledChain post u x
  | (f_sqCapacity, f_cqCapacity, f_latency, f_sqFirst, f_sqCount, f_doneFirst, f_doneCount, f_cqCount, f_reqCount, a_sqOpFlags, a_sqA, a_sqB, a_sqTag, a_doneTag, a_doneResult, a_reqOpcode, a_reqA, a_reqB, a_reqTag, a_reqState, a_reqTicks, a_reqHasSuccessor, a_blocks, a_buffers), h => ⟨k, h⟩
def ly_ccf (post : SY → Prop) (k : Nat) (x : Int64) (y : Int32) (v : SY) : Prop := match v with
  | (f_S, f_C, f_L, f_sqN, f_cqN, f_ovN, f_liveN, f_nextSeq, f_posts, f_wentPending, a_sqOp, a_sqA, a_sqB, a_sqTg, a_cqT, a_cqR, a_ovT, a_ovR, a_lOp, a_lA, a_lB, a_lTag, a_lTicks, a_lLink, a_lPend, a_lMark, a_lSeq, a_lSucc, a_head, a_block, a_buffer) => wY_cancelChainFrom_2 post k x y f_S f_C f_L f_sqN f_cqN f_ovN f_liveN f_nextSeq f_posts f_wentPending a_sqOp a_sqA a_sqB a_sqTg a_cqT a_cqR a_ovT a_ovR a_lOp a_lA a_lB a_lTag a_lTicks a_lLink a_lPend a_lMark a_lSeq a_lSucc a_head a_block a_buffer
theorem ly_ccf_w (post : SY → Prop) (k : Nat) (x : Int64) : ∀ u : SY, ly_ccf post k x 0 u → wpY_cancelChainFrom post u x
  | (f_S, f_C, f_L, f_sqN, f_cqN, f_ovN, f_liveN, f_nextSeq, f_posts, f_wentPending, a_sqOp, a_sqA, a_sqB, a_sqTg, a_cqT, a_cqR, a_ovT, a_ovR, a_lOp, a_lA, a_lB, a_lTag, a_lTicks, a_lLink, a_lPend, a_lMark, a_lSeq, a_lSucc, a_head, a_block, a_buffer), h => ⟨k, h⟩
section
variable {S C L F n s qF qN m : Nat} {K wp : Int32} {q e : Nat → Nat} {xO xA xB xT yO yA yB yT op A B tg hs hd st tk mk : Nat → Int32} {u : SX} {v : SY}
theorem ar_G_E (hG : ar_G S C L F n s qF qN K q xO xA xB xT yO yA yB yT op A B tg hs hd st tk m e mk wp u v) : ar_E n m st e := by
  obtain ⟨c, o, T, R, cT, cR, oT, oR, lo, la, lb, lt, lk, ln, lP, lq, ls, bl, bf, po, rfl, rfl, hM, hZ1, hZ2, hc, hmo, hK, hb1, hb2, hb3⟩ := hG
  exact hM.1
theorem ar_G_C (hG : ar_G S C L F n s qF qN K q xO xA xB xT yO yA yB yT op A B tg hs hd st tk m e mk wp u v) : ar_C n st hs := by
  obtain ⟨c, o, T, R, cT, cR, oT, oR, lo, la, lb, lt, lk, ln, lP, lq, ls, bl, bf, po, rfl, rfl, hM, hZ1, hZ2, hc, hmo, hK, hb1, hb2, hb3⟩ := hG
  exact hM.2.2.2.2.2.2.2.2.2.1
theorem ar_G_Q (hG : ar_G S C L F n s qF qN K q xO xA xB xT yO yA yB yT op A B tg hs hd st tk m e mk wp u v) : ar_Q n s st hs q := by
  obtain ⟨c, o, T, R, cT, cR, oT, oR, lo, la, lb, lt, lk, ln, lP, lq, ls, bl, bf, po, rfl, rfl, hM, hZ1, hZ2, hc, hmo, hK, hb1, hb2, hb3⟩ := hG
  exact hM.2.2.2.2.2.2.2.2.2.2.1
theorem ar_G_P (hG : ar_G S C L F n s qF qN K q xO xA xB xT yO yA yB yT op A B tg hs hd st tk m e mk wp u v) : ar_P n st op A B := by
  obtain ⟨c, o, T, R, cT, cR, oT, oR, lo, la, lb, lt, lk, ln, lP, lq, ls, bl, bf, po, rfl, rfl, hM, hZ1, hZ2, hc, hmo, hK, hb1, hb2, hb3⟩ := hG
  exact hM.2.2.2.2.2.2.2.2.2.2.2
theorem ar_G_find (hN : ar_N C L F n s) (hG : ar_G S C L F n s qF qN K q xO xA xB xT yO yA yB yT op A B tg hs hd st tk m e mk wp u v) {i : Nat} (hi : i < m) (post : Int32 → Prop) (hp : post (nI i)) : wpY_findSeq post v (lN (q (e i))) := by
  obtain ⟨c, o, T, R, cT, cR, oT, oR, lo, la, lb, lt, lk, ln, lP, lq, ls, bl, bf, po, rfl, rfl, hM, hZ1, hZ2, hc, hmo, hK, hb1, hb2, hb3⟩ := hG
  exact ay_findSeq post (by omega) hi ((ar_M_seq hM hN.2.2.1 hi hi).mpr rfl) (fun j hj z => by have := (ar_M_seq hM hN.2.2.1 hi (by omega)).mp z; omega) hp
theorem ar_K1 {m : Nat} {po K : Int32} (hm : 0 < m) (h : po + nI m = K) : po + 1 + nI (m - 1) = K := by
  obtain ⟨j, rfl⟩ : ∃ j, m = j + 1 := ⟨m - 1, by omega⟩
  rw [← h, Int32.add_assoc, show j + 1 - 1 = j by omega, ← nI_1 j, Int32.add_comm 1 (nI j)]
theorem ar_post (hN : ar_N C L F n s) (hG : ar_G S C L F n s qF qN K q xO xA xB xT yO yA yB yT op A B tg hs hd st tk m e mk wp u v) {i : Nat} (hi : i < m) (hH : ar_H st hs (e i)) (res : Int32) :
    ∃ u' v', ar_G S C L F n s qF qN K q xO xA xB xT yO yA yB yT op A B tg hs hd (upd st (e i) 2) tk (m - 1) (ar_sh e i m) (ar_sh mk i m) wp u' v' ∧ (∀ post : SX → Prop, post u' → wpX_post post u (nI (e i)) res) ∧ (∀ post : SY → Prop, post v' → wpY_post post v (nI i) res) := by
  obtain ⟨c, o, T, R, cT, cR, oT, oR, lo, la, lb, lt, lk, ln, lP, lq, ls, bl, bf, po, rfl, rfl, hM, hZ1, hZ2, hc, hmo, hK, hb1, hb2, hb3⟩ := hG
  obtain ⟨hC, hn, hs', hF, hL⟩ := hN
  have hb := hM.1.2.1 i hi
  have htg : lt i = tg (e i) := hM.2.2.2.2.1 i hi
  have hK' := ar_K1 (by omega) hK
  by_cases hA : o = 0 ∧ c < C
  · obtain ⟨rfl, hcC⟩ := hA
    exact ⟨_, _, ⟨c + 1, 0, upd T ((F + (c + 0)) % 48) (tg (e i)), upd R ((F + (c + 0)) % 48) res, upd cT c (lt i), upd cR c res, oT, oR, ar_sh lo i m, ar_sh la i m, ar_sh lb i m, ar_sh lt i m, ar_sh lk i m, ar_sh ln i m, ar_sh lP i m, ar_sh lq i m, ar_sh ls i m, bl, bf, po + 1, rfl, rfl, ar_M_post hM hi hH, by rw [htg]; exact ar_Z_A hZ1 (by omega) _, ar_Z_A hZ2 (by omega) _, by omega, by omega, hK', ar_Bs hb1 _ _, ar_Bs hb2 _ _, ar_Bs hb3 _ _⟩,
      fun post hp => ax_post post (by omega) hC hF (by omega) (fun _ _ => hp) (fun w => absurd ⟨rfl, hcC⟩ w),
      fun post hp => ay_post post (by omega) hi hC (by omega) (by omega) hb1 hb2 hb3 (fun _ _ => hp) (fun w => absurd ⟨rfl, hcC⟩ w)⟩
  · exact ⟨_, _, ⟨c, o + 1, upd T ((F + (c + o)) % 48) (tg (e i)), upd R ((F + (c + o)) % 48) res, cT, cR, upd oT o (lt i), upd oR o res, ar_sh lo i m, ar_sh la i m, ar_sh lb i m, ar_sh lt i m, ar_sh lk i m, ar_sh ln i m, ar_sh lP i m, ar_sh lq i m, ar_sh ls i m, bl, bf, po + 1, rfl, rfl, ar_M_post hM hi hH, by rw [htg]; exact ar_Z_B hZ1 (by omega) _, ar_Z_B hZ2 (by omega) _, by omega, by omega, hK', ar_Bs hb1 _ _, ar_Bs hb2 _ _, ar_Bs hb3 _ _⟩,
      fun post hp => ax_post post (by omega) hC hF (by omega) (fun y z => absurd ⟨y, z⟩ hA) (fun _ => hp),
      fun post hp => ay_post post (by omega) hi hC (by omega) (by omega) hb1 hb2 hb3 (fun y z => absurd ⟨y, z⟩ hA) (fun _ => hp)⟩
theorem ar_G_su (hG : ar_G S C L F n s qF qN K q xO xA xB xT yO yA yB yT op A B tg hs hd st tk m e mk wp u v) {i : Nat} (hi : i < m) : ∃ x : Int64, x = ar_su hs q (e i) := ⟨_, rfl⟩
theorem ar_chain (hN : ar_N C L F n s) : ∀ d f (st : Nat → Int32) (m : Nat) (e : Nat → Nat) (mk : Nat → Int32) (u : SX) (v : SY), f + d = n → 0 < d → ar_G S C L F n s qF qN K q xO xA xB xT yO yA yB yT op A B tg hs hd st tk m e mk wp u v → ¬ st f = 2 → ar_H st hs f →
    ∃ u' v' st' m' e' mk', ar_G S C L F n s qF qN K q xO xA xB xT yO yA yB yT op A B tg hs hd st' tk m' e' mk' wp u' v' ∧ ar_FC hs st st' f ∧ (∀ g : Nat → Int32, ar_V e m mk g → ar_V e' m' mk' g) ∧
      (∀ post : SX → Prop, post u' → ∀ k, d < k → lx_pcc post k (nI f) u) ∧ (∀ post : SY → Prop, post v' → ∀ k it, d + 1 < k → it + d < 40 → ly_ccf post k (lN (q f)) (nI it) v) := by
  intro d
  induction d with
  | zero => intro f st m e mk u v _ h0; exact absurd h0 (by omega)
  | succ d ih =>
    intro f st m e mk u v hf _ hG ha hH
    obtain ⟨i, hi, rfl⟩ := (ar_G_E hG).2.2 f (by omega) ha
    obtain ⟨u1, v1, hG1, hX1, hY1⟩ := ar_post hN hG hi hH (-125)
    have hq := (ar_G_Q hG).2.2 (e i) (by omega)
    have hfd := fun post => ar_G_find hN hG hi post
    have hN' := hN
    obtain ⟨hC, hn, hs', hF, hL⟩ := hN'
    have hCh := ar_G_C hG
    have hmn := ar_E_le (ar_G_E hG)
    by_cases hh : hs (e i) = 0
    · refine ⟨u1, v1, _, _, _, _, hG1, ar_FC_1, fun g hg => ar_V_rm hg i, ?_, ?_⟩
      · intro post hp k hk
        obtain ⟨k', rfl⟩ : ∃ k', k = k' + 1 := ⟨k - 1, by omega⟩
        obtain ⟨c, o, T, R, cT, cR, oT, oR, lo, la, lb, lt, lk, ln, lP, lq, ls, bl, bf, po, rfl, rfl, hM, hZ1, hZ2, hc, hmo, hK, hb1, hb2, hb3⟩ := hG
        obtain ⟨c1, o1, T1, R1, cT1, cR1, oT1, oR1, lo1, la1, lb1, lt1, lk1, ln1, lP1, lq1, ls1, bl1, bf1, po1, rfl, rfl, hM1, hZ11, hZ21, hc1, hmo1, hK1, hb11, hb21, hb31⟩ := hG1
        exact br_f (nI_ge (by omega) (by omega)) (hX1 _ ⟨vp_in_nI (by omega) (by omega), br_t (by rw [nI_clamp (by omega)]; exact hh) hp⟩)
      · intro post hp k it hk hit
        obtain ⟨k', rfl⟩ : ∃ k', k = k' + 1 + 1 := ⟨k - 2, by omega⟩
        obtain ⟨c, o, T, R, cT, cR, oT, oR, lo, la, lb, lt, lk, ln, lP, lq, ls, bl, bf, po, rfl, rfl, hM, hZ1, hZ2, hc, hmo, hK, hb1, hb2, hb3⟩ := hG
        obtain ⟨c1, o1, T1, R1, cT1, cR1, oT1, oR1, lo1, la1, lb1, lt1, lk1, ln1, lP1, lq1, ls1, bl1, bf1, po1, rfl, rfl, hM1, hZ11, hZ21, hc1, hmo1, hK1, hb11, hb21, hb31⟩ := hG1
        have hls : ls (nI i).toNatClampNeg = -1 := by
          rw [nI_clamp (by omega), hM.2.2.2.2.2.2.2.2.1 i hi]
          exact if_pos hh
        exact br_f (nI_ge (b := 40) (by omega) (by decide)) (br_t (ar_l0 (by omega)) (hfd _ (br_t (nI_pos' (by omega)) ⟨vp_in_nI (by omega) (by omega), nm_r hls (hY1 _ (nm_r (nI_1 it) (br_f (nI_ge (b := 40) (by omega) (by decide)) (br_f (by decide) hp))))⟩)))
    · obtain ⟨c1, c2⟩ := hCh (e i) (by omega) ha hh
      obtain ⟨u2, v2, st2, m2, e2, mk2, hG2, hF2, hV2, hX2, hY2⟩ := ih (e i + 1) _ _ _ _ u1 v1 (by omega) (by omega) hG1 (by rw [pk_un (by omega), c2]; exact ar_02) (fun r hr => Or.inl (by rw [show r = e i by omega]; exact pk_us))
      refine ⟨u2, v2, st2, m2, e2, mk2, hG2, ar_FC_S hh c2 hF2, fun g hg => hV2 g (ar_V_rm hg i), ?_, ?_⟩
      · intro post hp k hk
        obtain ⟨k', rfl⟩ : ∃ k', k = k' + 1 := ⟨k - 1, by omega⟩
        have hX2' := hX2 post hp k' (by omega)
        obtain ⟨c, o, T, R, cT, cR, oT, oR, lo, la, lb, lt, lk, ln, lP, lq, ls, bl, bf, po, rfl, rfl, hM, hZ1, hZ2, hc, hmo, hK, hb1, hb2, hb3⟩ := hG
        obtain ⟨c1, o1, T1, R1, cT1, cR1, oT1, oR1, lo1, la1, lb1, lt1, lk1, ln1, lP1, lq1, ls1, bl1, bf1, po1, rfl, rfl, hM1, hZ11, hZ21, hc1, hmo1, hK1, hb11, hb21, hb31⟩ := hG1
        exact br_f (nI_ge (by omega) (by omega)) (hX1 _ ⟨vp_in_nI (by omega) (by omega), br_f (by rw [nI_clamp (by omega)]; exact hh) (nm_r (nI_1 (e i)) hX2')⟩)
      · intro post hp k it hk hit
        obtain ⟨k', rfl⟩ : ∃ k', k = k' + 1 := ⟨k - 1, by omega⟩
        have hY2' := hY2 post hp k' (it + 1) (by omega) (by omega)
        have hqs := (ar_G_Q hG).2.1 (e i) (by omega) ha hh
        obtain ⟨c, o, T, R, cT, cR, oT, oR, lo, la, lb, lt, lk, ln, lP, lq, ls, bl, bf, po, rfl, rfl, hM, hZ1, hZ2, hc, hmo, hK, hb1, hb2, hb3⟩ := hG
        obtain ⟨c1, o1, T1, R1, cT1, cR1, oT1, oR1, lo1, la1, lb1, lt1, lk1, ln1, lP1, lq1, ls1, bl1, bf1, po1, rfl, rfl, hM1, hZ11, hZ21, hc1, hmo1, hK1, hb11, hb21, hb31⟩ := hG1
        have hls : ls (nI i).toNatClampNeg = lN (q (e i + 1)) := by
          rw [nI_clamp (by omega), hM.2.2.2.2.2.2.2.2.1 i hi, hqs]
          exact if_neg hh
        exact br_f (nI_ge (b := 40) (by omega) (by decide)) (br_t (ar_l0 (by omega)) (hfd _ (br_t (nI_pos' (by omega)) ⟨vp_in_nI (by omega) (by omega), nm_r hls (hY1 _ (nm_r (nI_1 it) hY2'))⟩)))
end
end
section
def lx_cp (post : Int32 → SX → Prop) (a : Int32) (k : Nat) (x y : Int32) (u : SX) : Prop := match u with
  | (f_sqCapacity, f_cqCapacity, f_latency, f_sqFirst, f_sqCount, f_doneFirst, f_doneCount, f_cqCount, f_reqCount, a_sqOpFlags, a_sqA, a_sqB, a_sqTag, a_doneTag, a_doneResult, a_reqOpcode, a_reqA, a_reqB, a_reqTag, a_reqState, a_reqTicks, a_reqHasSuccessor, a_blocks, a_buffers) => wX_cancelPending_4 post a k x y f_sqCapacity f_cqCapacity f_latency f_sqFirst f_sqCount f_doneFirst f_doneCount f_cqCount f_reqCount a_sqOpFlags a_sqA a_sqB a_sqTag a_doneTag a_doneResult a_reqOpcode a_reqA a_reqB a_reqTag a_reqState a_reqTicks a_reqHasSuccessor a_blocks a_buffers
theorem lx_cp_w (post : Int32 → SX → Prop) (a : Int32) (k : Nat) : ∀ u : SX, lx_cp post a k 0 0 u → wpX_cancelPending post u a
  | (f_sqCapacity, f_cqCapacity, f_latency, f_sqFirst, f_sqCount, f_doneFirst, f_doneCount, f_cqCount, f_reqCount, a_sqOpFlags, a_sqA, a_sqB, a_sqTag, a_doneTag, a_doneResult, a_reqOpcode, a_reqA, a_reqB, a_reqTag, a_reqState, a_reqTicks, a_reqHasSuccessor, a_blocks, a_buffers), h => ⟨k, h⟩
def ly_dc (post : Int32 → SY → Prop) (x : Int32) (k : Nat) (y : Int32) (v : SY) : Prop := match v with
  | (f_S, f_C, f_L, f_sqN, f_cqN, f_ovN, f_liveN, f_nextSeq, f_posts, f_wentPending, a_sqOp, a_sqA, a_sqB, a_sqTg, a_cqT, a_cqR, a_ovT, a_ovR, a_lOp, a_lA, a_lB, a_lTag, a_lTicks, a_lLink, a_lPend, a_lMark, a_lSeq, a_lSucc, a_head, a_block, a_buffer) => wY_doCancel_68 post x k y f_S f_C f_L f_sqN f_cqN f_ovN f_liveN f_nextSeq f_posts f_wentPending a_sqOp a_sqA a_sqB a_sqTg a_cqT a_cqR a_ovT a_ovR a_lOp a_lA a_lB a_lTag a_lTicks a_lLink a_lPend a_lMark a_lSeq a_lSucc a_head a_block a_buffer
/-- the marks set below j -/
def ar_mf (lP lt : Nat → Int32) (a : Int32) (mk : Nat → Int32) (j : Nat) : Nat → Int32 := fun p => if p < j then (if ¬ lP p = 0 ∧ lt p = a then 1 else 0) else mk p
def ar_cl (mk : Nat → Int32) (j : Nat) : Nat → Int32 := fun p => if p < j then 0 else mk p
def ar_mp (lP lt : Nat → Int32) (a : Int32) : Nat → Bool := fun j => decide (¬ lP j = 0 ∧ lt j = a)
def ar_rs (k : Nat) : Int32 := if k = 0 then -2 else nI k
theorem ar_mf_S {lP lt : Nat → Int32} {a : Int32} {mk : Nat → Int32} {j : Nat} {x : Int32} (hx : x = if ¬ lP j = 0 ∧ lt j = a then 1 else 0) : upd (ar_mf lP lt a mk j) j x = ar_mf lP lt a mk (j + 1) := by
  funext p
  by_cases h : p = j
  · subst h
    rw [pk_us, hx]
    unfold ar_mf
    rw [if_pos (show p < p + 1 by omega)]
  · rw [pk_un h]
    unfold ar_mf
    by_cases h2 : p < j
    · rw [if_pos h2, if_pos (show p < j + 1 by omega)]
    · rw [if_neg h2, if_neg (show ¬ p < j + 1 by omega)]
theorem ar_mf_B {lP lt : Nat → Int32} {a : Int32} {mk : Nat → Int32} {j : Nat} (h : ar_B mk) : ar_B (ar_mf lP lt a mk j) := by
  intro p
  unfold ar_mf
  by_cases h2 : p < j
  · rw [if_pos h2]
    by_cases h3 : ¬ lP p = 0 ∧ lt p = a
    · rw [if_pos h3]; exact Or.inr rfl
    · rw [if_neg h3]; exact Or.inl rfl
  · rw [if_neg h2]; exact h p
theorem ar_cl_S {mk : Nat → Int32} {j : Nat} : upd (ar_cl mk j) j 0 = ar_cl mk (j + 1) := by
  funext p
  by_cases h : p = j
  · subst h
    rw [pk_us]
    unfold ar_cl
    rw [if_pos (show p < p + 1 by omega)]
  · rw [pk_un h]
    unfold ar_cl
    by_cases h2 : p < j
    · rw [if_pos h2, if_pos (show p < j + 1 by omega)]
    · rw [if_neg h2, if_neg (show ¬ p < j + 1 by omega)]
theorem ar_cl_B {mk : Nat → Int32} {j : Nat} (h : ar_B mk) : ar_B (ar_cl mk j) := by
  intro p
  unfold ar_cl
  by_cases h2 : p < j
  · rw [if_pos h2]; exact Or.inl rfl
  · rw [if_neg h2]; exact h p
theorem ar_cn_1 {P : Nat → Bool} {a d : Nat} (h : P a = true) : ar_cn P a (d + 1) = ar_cn P (a + 1) d + 1 := by
  show (if P a then 1 else 0) + ar_cn P (a + 1) d = _
  rw [if_pos h, Nat.add_comm]
theorem ar_cn_0 {P : Nat → Bool} {a d : Nat} (h : P a = false) : ar_cn P a (d + 1) = ar_cn P (a + 1) d := by
  show (if P a then 1 else 0) + ar_cn P (a + 1) d = _
  rw [h, if_neg (by decide), Nat.zero_add]
section
variable {S C L F n s qF qN c o m : Nat} {K po wp : Int32} {xO xA xB xT yO yA yB yT op A B tg hs hd T R st tk bl bf cT cR oT oR lo la lb lt lk ln lP mk : Nat → Int32} {lq ls : Nat → Int64}
theorem ay_mark (post : Int32 → SY → Prop) (a : Int32) (tot : Nat) (hm : m ≤ 32)
    (hp : ∃ k, wY_doCancel_68 post (nI tot) k 0 (nI S) (nI C) (nI L) (nI qN) (nI c) (nI o) (nI m) (lN s) po wp yO yA yB yT cT cR oT oR lo la lb lt lk ln lP (ar_mf lP lt a mk m) lq ls hd bl bf) : ∀ d j cnt, j + d = m → cnt + ar_cn (ar_mp lP lt a) j d = tot → wY_doCancel_4 post a (nI S) (nI C) (nI L) (nI qN) (nI c) (nI o) (nI m) (lN s) po wp (d + 1) (nI cnt) (nI j) yO yA yB yT cT cR oT oR lo la lb lt lk ln lP (ar_mf lP lt a mk j) lq ls hd bl bf := by
  intro d
  induction d with
  | zero =>
    intro j cnt hj hc
    have e : j = m := by omega
    subst e
    have e2 : cnt = tot := by rw [← hc]; rfl
    subst e2
    exact br_t (nI_le (Nat.le_refl _) (by omega)) hp
  | succ d ih =>
    intro j cnt hj hc
    have i0 : vp_in (nI j) 32 := vp_in_nI (by omega) (by omega)
    refine br_f (nI_ge (by omega) (by omega)) (br_f (nI_ge (b := 32) (by omega) (by decide)) ⟨i0, ?_⟩)
    by_cases z : lP j = 0
    · have hx : (0 : Int32) = if ¬ lP j = 0 ∧ lt j = a then 1 else 0 := by rw [if_neg (fun w => w.1 z)]
      have hP : ar_mp lP lt a j = false := decide_eq_false (fun w => w.1 z)
      rw [ar_cn_0 hP] at hc
      refine br_t (by rw [nI_clamp (by omega)]; exact z) (And.intro i0 (nm_r ((ar_ub _ 0 (by omega) (Or.inl rfl)).trans (ar_mf_S hx)) ⟨i0, br_t ?_ (nm_r (nI_1 j) (ih (j + 1) cnt (by omega) hc))⟩))
      rw [nI_clamp (by omega), ← ar_mf_S hx, pk_us]
    · refine br_f (by rw [nI_clamp (by omega)]; exact z) ⟨i0, ?_⟩
      by_cases y : lt j = a
      · have hx : (1 : Int32) = if ¬ lP j = 0 ∧ lt j = a then 1 else 0 := by rw [if_pos ⟨z, y⟩]
        have hP : ar_mp lP lt a j = true := decide_eq_true ⟨z, y⟩
        rw [ar_cn_1 hP] at hc
        refine br_t (by rw [nI_clamp (by omega)]; exact y) (And.intro i0 (nm_r ((ar_ub _ 1 (by omega) (Or.inr rfl)).trans (ar_mf_S hx)) ⟨i0, br_f ?_ (nm_r (nI_1 cnt) (nm_r (nI_1 j) (ih (j + 1) (cnt + 1) (by omega) (by omega))))⟩))
        rw [nI_clamp (by omega), ← ar_mf_S hx, pk_us]
        exact ar_10
      · have hx : (0 : Int32) = if ¬ lP j = 0 ∧ lt j = a then 1 else 0 := by rw [if_neg (fun w => y w.2)]
        have hP : ar_mp lP lt a j = false := decide_eq_false (fun w => y w.2)
        rw [ar_cn_0 hP] at hc
        refine br_f (by rw [nI_clamp (by omega)]; exact y) (And.intro i0 (nm_r ((ar_ub _ 0 (by omega) (Or.inl rfl)).trans (ar_mf_S hx)) ⟨i0, br_t ?_ (nm_r (nI_1 j) (ih (j + 1) cnt (by omega) hc))⟩))
        rw [nI_clamp (by omega), ← ar_mf_S hx, pk_us]
theorem ay_clear (post : Int32 → SY → Prop) (cnt : Nat) (hcn : cnt < 2 ^ 31)
    (hp : post (ar_rs cnt) (nI S, nI C, nI L, nI qN, nI c, nI o, nI m, lN s, po, wp, yO, yA, yB, yT, cT, cR, oT, oR, lo, la, lb, lt, lk, ln, lP, ar_cl mk 32, lq, ls, hd, bl, bf)) : ∀ d j, j + d = 32 → wY_doCancel_168 post (nI cnt) (nI S) (nI C) (nI L) (nI qN) (nI c) (nI o) (nI m) (lN s) po wp (d + 1) (nI j) yO yA yB yT cT cR oT oR lo la lb lt lk ln lP (ar_cl mk j) lq ls hd bl bf := by
  intro d
  induction d with
  | zero =>
    intro j hj
    have e : j = 32 := by omega
    subst e
    refine br_t (nI_le (a := 32) (b := 32) (by omega) (by omega)) ?_
    unfold ar_rs at hp
    by_cases z : cnt = 0
    · rw [if_pos z] at hp
      exact br_t (by rw [z]; decide) hp
    · rw [if_neg z] at hp
      exact br_f (nI_nle (by omega) hcn) hp
  | succ d ih =>
    intro j hj
    exact br_f (nI_ge (b := 32) (by omega) (by decide)) ⟨vp_in_nI (by omega) (by omega), nm_r ((ar_ub _ 0 (by omega) (Or.inl rfl)).trans ar_cl_S) (nm_r (nI_1 j) (ih (j + 1) (by omega)))⟩
theorem ar_cl_0 : ar_cl mk 0 = mk := by
  funext p
  exact if_neg (by omega)
theorem ay_sc_f (post : Int32 → SY → Prop) {J} {X2 X3 : Int32} {i : Nat} (hm : m ≤ 32) (hi : i < 32) (hp : wY_doCancel_121 post J X2 X3 (nI i) (nI S) (nI C) (nI L) (nI qN) (nI c) (nI o) (nI m) (lN s) po wp yO yA yB yT cT cR oT oR lo la lb lt lk ln lP mk lq ls hd bl bf) : ∀ d j, j + d = m → ∀ k, d < k → wY_doCancel_80 post J X2 X3 (nI S) (nI C) (nI L) (nI qN) (nI c) (nI o) (nI m) (lN s) po wp yO yA yB yT cT cR oT oR lo la lb lt lk ln lP mk lq ls hd bl bf k (nI i) (nI j) := by
  intro d
  induction d with
  | zero =>
    intro j hj k hk
    obtain ⟨k', rfl⟩ : ∃ k', k = k' + 1 := ⟨k - 1, by omega⟩
    exact br_t (nI_le (by omega) (by omega)) hp
  | succ d ih =>
    intro j hj k hk
    obtain ⟨k', rfl⟩ : ∃ k', k = k' + 1 := ⟨k - 1, by omega⟩
    exact br_f (nI_ge (by omega) (by omega)) (br_f (nI_ge (b := 32) (by omega) (by decide)) (br_t (nI_pos' (by omega)) (nm_r (nI_1 j) (ih (j + 1) (by omega) k' (by omega)))))
theorem ay_sc_n (post : Int32 → SY → Prop) {J} {X2 X3 : Int32} (hm : m ≤ 32) (h0 : ∀ j, j < m → mk j = 0) (hp : wY_doCancel_121 post J X2 X3 (-1) (nI S) (nI C) (nI L) (nI qN) (nI c) (nI o) (nI m) (lN s) po wp yO yA yB yT cT cR oT oR lo la lb lt lk ln lP mk lq ls hd bl bf) : ∀ d j, j + d = m → wY_doCancel_80 post J X2 X3 (nI S) (nI C) (nI L) (nI qN) (nI c) (nI o) (nI m) (lN s) po wp yO yA yB yT cT cR oT oR lo la lb lt lk ln lP mk lq ls hd bl bf (d + 1) (-1) (nI j) := by
  intro d
  induction d with
  | zero =>
    intro j hj
    exact br_t (nI_le (by omega) (by omega)) hp
  | succ d ih =>
    intro j hj
    exact br_f (nI_ge (by omega) (by omega)) (br_f (nI_ge (b := 32) (by omega) (by decide)) (br_f (by decide) ⟨vp_in_nI (by omega) (by omega), br_t (by rw [nI_clamp (by omega)]; exact h0 j (by omega)) (nm_r (nI_1 j) (ih (j + 1) (by omega)))⟩))
theorem ay_sc_s (post : Int32 → SY → Prop) {J} {X2 X3 : Int32} {i : Nat} (hm : m ≤ 32) (hi : i < m) (h1 : ¬ mk i = 0) (h0 : ∀ j, j < i → mk j = 0) (hp : wY_doCancel_121 post J X2 X3 (nI i) (nI S) (nI C) (nI L) (nI qN) (nI c) (nI o) (nI m) (lN s) po wp yO yA yB yT cT cR oT oR lo la lb lt lk ln lP mk lq ls hd bl bf) : ∀ d j, j + d = i → ∀ k, m - j < k → wY_doCancel_80 post J X2 X3 (nI S) (nI C) (nI L) (nI qN) (nI c) (nI o) (nI m) (lN s) po wp yO yA yB yT cT cR oT oR lo la lb lt lk ln lP mk lq ls hd bl bf k (-1) (nI j) := by
  intro d
  induction d with
  | zero =>
    intro j hj k hk
    obtain ⟨k', rfl⟩ : ∃ k', k = k' + 1 := ⟨k - 1, by omega⟩
    have e : j = i := by omega
    subst e
    exact br_f (nI_ge (by omega) (by omega)) (br_f (nI_ge (b := 32) (by omega) (by decide)) (br_f (by decide) ⟨vp_in_nI (by omega) (by omega), br_f (by rw [nI_clamp (by omega)]; exact h1) (nm_r (nI_1 j) (ay_sc_f post hm (by omega) hp (m - (j + 1)) (j + 1) (by omega) k' (by omega)))⟩))
  | succ d ih =>
    intro j hj k hk
    obtain ⟨k', rfl⟩ : ∃ k', k = k' + 1 := ⟨k - 1, by omega⟩
    exact br_f (nI_ge (by omega) (by omega)) (br_f (nI_ge (b := 32) (by omega) (by decide)) (br_f (by decide) ⟨vp_in_nI (by omega) (by omega), br_t (by rw [nI_clamp (by omega)]; exact h0 j (by omega)) (nm_r (nI_1 j) (ih (j + 1) (by omega) k' (by omega)))⟩))
end
end
section
/-- what is a target of a cancel -/
def ar_tp (st tg : Nat → Int32) (a : Int32) : Nat → Bool := fun p => decide (st p = 1 ∧ tg p = a)
def ar_mg (st tg : Nat → Int32) (a : Int32) (f : Nat) : Nat → Int32 := fun p => if f ≤ p ∧ st p = 1 ∧ tg p = a then 1 else 0
theorem ar_mg_S {st tg : Nat → Int32} {a : Int32} {f p : Nat} (h : p ≠ f ∨ ¬ (st p = 1 ∧ tg p = a)) : ar_mg st tg a (f + 1) p = ar_mg st tg a f p := by
  unfold ar_mg
  by_cases z : f + 1 ≤ p ∧ st p = 1 ∧ tg p = a
  · rw [if_pos z, if_pos ⟨by omega, z.2⟩]
  · rw [if_neg z, if_neg (fun w => ?_)]
    rcases h with h | h
    · exact z ⟨by omega, w.2⟩
    · exact h w.2
section
variable {S C L F n s qF qN m : Nat} {K wp : Int32} {q e : Nat → Nat} {xO xA xB xT yO yA yB yT op A B tg hs hd st tk mk : Nat → Int32} {u : SX} {v : SY}
theorem ar_chain1 (hN : ar_N C L F n s) (hG : ar_G S C L F n s qF qN K q xO xA xB xT yO yA yB yT op A B tg hs hd st tk m e mk wp u v) {i : Nat} (hi : i < m) (hH : ar_H st hs (e i)) :
    ∃ u1 v1 u' v' st' m' e' mk', ar_G S C L F n s qF qN K q xO xA xB xT yO yA yB yT op A B tg hs hd (upd st (e i) 2) tk (m - 1) (ar_sh e i m) (ar_sh mk i m) wp u1 v1 ∧ ar_G S C L F n s qF qN K q xO xA xB xT yO yA yB yT op A B tg hs hd st' tk m' e' mk' wp u' v' ∧ ar_FC hs st st' (e i) ∧ (∀ g : Nat → Int32, ar_V e m mk g → ar_V e' m' mk' g) ∧
      (∀ post : SX → Prop, post u' → wpX_postCanceledChain post u (nI (e i))) ∧ (∀ post : SY → Prop, post v1 → wpY_post post v (nI i) (-125)) ∧ (∀ post : SY → Prop, post v' → wpY_cancelChainFrom post v1 (ar_su hs q (e i))) := by
  obtain ⟨u1, v1, hG1, hX1, hY1⟩ := ar_post hN hG hi hH (-125)
  have hE := ar_G_E hG
  have hal := hE.2.1 i hi
  have hCh := ar_G_C hG
  have hmn := ar_E_le hE
  have hN' := hN
  obtain ⟨hC, hn, hs', hF, hL⟩ := hN'
  by_cases hh : hs (e i) = 0
  · refine ⟨u1, v1, u1, v1, _, _, _, _, hG1, hG1, ar_FC_1, fun g hg => ar_V_rm hg i, ?_, hY1, ?_⟩
    · intro post hp
      obtain ⟨c, o, T, R, cT, cR, oT, oR, lo, la, lb, lt, lk, ln, lP, lq, ls, bl, bf, po, rfl, rfl, hM, hZ1, hZ2, hc, hmo, hK, hb1, hb2, hb3⟩ := hG
      obtain ⟨c1, o1, T1, R1, cT1, cR1, oT1, oR1, lo1, la1, lb1, lt1, lk1, ln1, lP1, lq1, ls1, bl1, bf1, po1, rfl, rfl, hM1, hZ11, hZ21, hc1, hmo1, hK1, hb11, hb21, hb31⟩ := hG1
      exact ⟨1, br_f (nI_ge (by omega) (by omega)) (hX1 _ ⟨vp_in_nI (by omega) (by omega), br_t (by rw [nI_clamp (by omega)]; exact hh) hp⟩)⟩
    · intro post hp
      have e1 : ar_su hs q (e i) = -1 := if_pos hh
      rw [e1]
      obtain ⟨c1, o1, T1, R1, cT1, cR1, oT1, oR1, lo1, la1, lb1, lt1, lk1, ln1, lP1, lq1, ls1, bl1, bf1, po1, rfl, rfl, hM1, hZ11, hZ21, hc1, hmo1, hK1, hb11, hb21, hb31⟩ := hG1
      exact ⟨1, br_f (by decide) (br_f (by decide) hp)⟩
  · obtain ⟨c1, c2⟩ := hCh (e i) (by omega) hal.2 hh
    obtain ⟨u2, v2, st2, m2, e2, mk2, hG2, hF2, hV2, hX2, hY2⟩ := ar_chain hN (n - (e i + 1)) (e i + 1) _ _ _ _ u1 v1 (by omega) (by omega) hG1 (by rw [pk_un (by omega), c2]; exact ar_02) (fun r hr => Or.inl (by rw [show r = e i by omega]; exact pk_us))
    refine ⟨u1, v1, u2, v2, st2, m2, e2, mk2, hG1, hG2, ar_FC_S hh c2 hF2, fun g hg => hV2 g (ar_V_rm hg i), ?_, hY1, ?_⟩
    · intro post hp
      have hX2' := hX2 post hp (n - (e i + 1) + 1) (by omega)
      obtain ⟨c, o, T, R, cT, cR, oT, oR, lo, la, lb, lt, lk, ln, lP, lq, ls, bl, bf, po, rfl, rfl, hM, hZ1, hZ2, hc, hmo, hK, hb1, hb2, hb3⟩ := hG
      obtain ⟨c1, o1, T1, R1, cT1, cR1, oT1, oR1, lo1, la1, lb1, lt1, lk1, ln1, lP1, lq1, ls1, bl1, bf1, po1, rfl, rfl, hM1, hZ11, hZ21, hc1, hmo1, hK1, hb11, hb21, hb31⟩ := hG1
      exact ⟨n - (e i + 1) + 1 + 1, br_f (nI_ge (by omega) (by omega)) (hX1 _ ⟨vp_in_nI (by omega) (by omega), br_f (by rw [nI_clamp (by omega)]; exact hh) (nm_r (nI_1 (e i)) hX2')⟩)⟩
    · intro post hp
      have e1 : ar_su hs q (e i) = lN (q (e i + 1)) := by
        rw [(ar_G_Q hG).2.1 (e i) (by omega) hal.2 hh]; exact if_neg hh
      rw [e1]
      exact ly_ccf_w post (n - (e i + 1) + 2) _ v1 (hY2 post hp _ 0 (by omega) (by omega))
theorem ar_cloop (hN : ar_N C L F n s) (a : Int32) (tot : Nat) (htot : tot < 2 ^ 31) : ∀ d f (st : Nat → Int32) (m : Nat) (e : Nat → Nat) (mk : Nat → Int32) (u : SX) (v : SY) (cnt : Nat), f + d = n → ar_G S C L F n s qF qN K q xO xA xB xT yO yA yB yT op A B tg hs hd st tk m e mk wp u v → ar_V e m mk (ar_mg st tg a f) → cnt ≤ f →
    ∃ u' v' st' m' e' mk', ar_G S C L F n s qF qN K q xO xA xB xT yO yA yB yT op A B tg hs hd st' tk m' e' mk' wp u' v' ∧ ar_FK n hs st st' ∧
      (∀ post : Int32 → SX → Prop, post (ar_rs (cnt + ar_cn (ar_tp st tg a) f d)) u' → ∀ k, d < k → lx_cp post a k (nI cnt) (nI f) u) ∧ (∀ post : Int32 → SY → Prop, post (ar_rs tot) v' → ∀ k it, d < k → it + d < 40 → ly_dc post (nI tot) k (nI it) v) := by
  have hN' := hN
  obtain ⟨hC, hn, hs', hF, hL⟩ := hN'
  intro d
  induction d with
  | zero =>
    intro f st m e mk u v cnt hf hG hmk hcf
    have hE := ar_G_E hG
    have hmn := ar_E_le hE
    have h0 : ∀ j, j < m → mk j = 0 := by
      intro j hj
      rw [hmk j hj]
      have := (hE.2.1 j hj).1
      exact if_neg (by omega)
    obtain ⟨c, o, T, R, cT, cR, oT, oR, lo, la, lb, lt, lk, ln, lP, lq, ls, bl, bf, po, rfl, rfl, hM, hZ1, hZ2, hc, hmo, hK, hb1, hb2, hb3⟩ := hG
    refine ⟨_, _, st, m, e, ar_cl mk 32, ⟨c, o, T, R, cT, cR, oT, oR, lo, la, lb, lt, lk, ln, lP, lq, ls, bl, bf, po, rfl, rfl, hM, hZ1, hZ2, hc, hmo, hK, hb1, hb2, ar_cl_B hb3⟩, ar_FK_0, ?_, ?_⟩
    · intro post hp k hk
      obtain ⟨k', rfl⟩ : ∃ k', k = k' + 1 := ⟨k - 1, by omega⟩
      refine br_t (nI_le (by omega) (by omega)) ?_
      change post (ar_rs cnt) _ at hp
      unfold ar_rs at hp
      by_cases z : cnt = 0
      · rw [if_pos z] at hp
        exact br_t (by rw [z]; decide) hp
      · rw [if_neg z] at hp
        exact br_f (nI_nle (by omega) (by omega)) hp
    · intro post hp k it hk hit
      obtain ⟨k', rfl⟩ : ∃ k', k = k' + 1 := ⟨k - 1, by omega⟩
      have hcl := ay_clear (mk := mk) post tot htot hp 32 0 (by omega)
      rw [ar_cl_0] at hcl
      exact br_f (nI_ge (b := 40) (by omega) (by decide)) ⟨_, ay_sc_n post (by omega) h0 (br_f (by decide) ⟨_, hcl⟩) m 0 (by omega)⟩
  | succ d ih =>
    intro f st m e mk u v cnt hf hG hmk hcf
    have hE := ar_G_E hG
    have hmn := ar_E_le hE
    by_cases hz : st f = 1 ∧ tg f = a
    · have hP : ar_tp st tg a f = true := decide_eq_true hz
      obtain ⟨i, hi, rfl⟩ := hE.2.2 f (by omega) (by rw [hz.1]; exact ar_12)
      have hmi : ¬ mk i = 0 := by
        rw [hmk i hi]
        unfold ar_mg
        rw [if_pos ⟨Nat.le_refl _, hz⟩]; exact ar_10
      have hm0 : ∀ j, j < i → mk j = 0 := by
        intro j hj
        rw [hmk j (by omega)]
        have := hE.1 j i hj hi
        exact if_neg (by omega)
      have hH := ar_H_pend (ar_G_C hG) (by omega) hz.1
      have hsu : ∀ (ls : Nat → Int64), ar_V e m ls (ar_su hs q) → ls (nI i).toNatClampNeg = ar_su hs q (e i) := fun ls h => by rw [nI_clamp (by omega)]; exact h i hi
      obtain ⟨c, o, T, R, cT, cR, oT, oR, lo, la, lb, lt, lk, ln, lP, lq, ls, bl, bf, po, rfl, rfl, hM, hZ1, hZ2, hc, hmo, hK, hb1, hb2, hb3⟩ := hG
      have hGm : ar_G S C L F n s qF qN K q xO xA xB xT yO yA yB yT op A B tg hs hd st tk m e (upd mk i 0) wp (nI S, nI C, nI L, nI qF, nI qN, nI F, nI (c + o), nI c, nI n, xO, xA, xB, xT, T, R, op, A, B, tg, st, tk, hs, bl, bf) (nI S, nI C, nI L, nI qN, nI c, nI o, nI m, lN s, po, wp, yO, yA, yB, yT, cT, cR, oT, oR, lo, la, lb, lt, lk, ln, lP, upd mk i 0, lq, ls, hd, bl, bf) := ⟨c, o, T, R, cT, cR, oT, oR, lo, la, lb, lt, lk, ln, lP, lq, ls, bl, bf, po, rfl, rfl, hM, hZ1, hZ2, hc, hmo, hK, hb1, hb2, ar_Bu hb3 (Or.inl rfl)⟩
      have hVm : ar_V e m (upd mk i 0) (ar_mg st tg a (e i + 1)) := by
        intro j hj
        by_cases ej : j = i
        · rw [ej, pk_us]; exact (if_neg (by omega)).symm
        · rw [pk_un ej, hmk j hj, ar_mg_S (Or.inl (ar_E_ne hE hj hi ej))]
      obtain ⟨u1, v1, u2, v2, st2, m2, e2, mk2, hG1, hG2, hF2, hV2, hX2, hY1, hY2⟩ := ar_chain1 hN hGm hi hH
      have hE2 := ar_G_E hG2
      have hV3 : ar_V e2 m2 mk2 (ar_mg st2 tg a (e i + 1)) := by
        refine ar_V_g (hV2 _ hVm) (fun j hj => ?_)
        rcases hF2 (e2 j) with z | ⟨z, _⟩
        · unfold ar_mg; rw [z]
        · exact absurd z (hE2.2.1 j hj).2
      have hcn : ar_cn (ar_tp st2 tg a) (e i + 1) d = ar_cn (ar_tp st tg a) (e i + 1) d := by
        refine ar_cn_c d (e i + 1) (fun p h1 h2 => ?_)
        unfold ar_tp
        rcases hF2 p with z | ⟨z, _, y⟩
        · rw [z]
        · rcases y with y | y
          · omega
          · rw [z, y, decide_eq_false (fun w => ar_21 w.1), decide_eq_false (fun w => ar_01 w.1)]
      obtain ⟨u3, v3, st3, m3, e3, mk3, hG3, hF3, hX3, hY3⟩ := ih (e i + 1) st2 m2 e2 mk2 u2 v2 (cnt + 1) (by omega) hG2 hV3 (by omega)
      refine ⟨u3, v3, st3, m3, e3, mk3, hG3, ar_FK_S (by omega) hz.1 hF2 hF3, ?_, ?_⟩
      · intro post hp k hk
        obtain ⟨k', rfl⟩ : ∃ k', k = k' + 1 := ⟨k - 1, by omega⟩
        rw [ar_cn_1 hP, ← hcn, show cnt + (ar_cn (ar_tp st2 tg a) (e i + 1) d + 1) = cnt + 1 + ar_cn (ar_tp st2 tg a) (e i + 1) d by omega] at hp
        have hX3' := hX3 post hp k' (by omega)
        obtain ⟨c2, o2, T2, R2, cT2, cR2, oT2, oR2, lo2, la2, lb2, lt2, lk2, ln2, lP2, lq2, ls2, bl2, bf2, po2, rfl, rfl, hM2, hZ12, hZ22, hc2, hmo2, hK2, hb12, hb22, hb32⟩ := hG2
        exact br_f (nI_ge (by omega) (by omega)) ⟨vp_in_nI (by omega) (by omega), br_t (by rw [nI_clamp (by omega)]; exact hz.1) ⟨vp_in_nI (by omega) (by omega), br_t (by rw [nI_clamp (by omega)]; exact hz.2) (hX2 _ (nm_r (nI_1 cnt) (nm_r (nI_1 (e i)) hX3')))⟩⟩
      · intro post hp k it hk hit
        obtain ⟨k', rfl⟩ : ∃ k', k = k' + 1 := ⟨k - 1, by omega⟩
        have hY3' := hY3 post hp k' (it + 1) (by omega) (by omega)
        obtain ⟨c1, o1, T1, R1, cT1, cR1, oT1, oR1, lo1, la1, lb1, lt1, lk1, ln1, lP1, lq1, ls1, bl1, bf1, po1, rfl, rfl, hM1, hZ11, hZ21, hc1, hmo1, hK1, hb11, hb21, hb31⟩ := hG1
        obtain ⟨c2, o2, T2, R2, cT2, cR2, oT2, oR2, lo2, la2, lb2, lt2, lk2, ln2, lP2, lq2, ls2, bl2, bf2, po2, rfl, rfl, hM2, hZ12, hZ22, hc2, hmo2, hK2, hb12, hb22, hb32⟩ := hG2
        exact br_f (nI_ge (b := 40) (by omega) (by decide)) ⟨_, ay_sc_s post (by omega) hi hmi hm0 (br_t (nI_pos' (by omega)) ⟨vp_in_nI (by omega) (by omega), nm_r (ar_ub mk 0 (by omega) (Or.inl rfl)) ⟨vp_in_nI (by omega) (by omega), nm_r (hsu ls hM.2.2.2.2.2.2.2.2.1) (hY1 _ (hY2 _ (nm_r (nI_1 it) hY3')))⟩⟩) i 0 (by omega) (m + 1) (by omega)⟩
    · have hP : ar_tp st tg a f = false := decide_eq_false hz
      obtain ⟨u3, v3, st3, m3, e3, mk3, hG3, hF3, hX3, hY3⟩ := ih (f + 1) st m e mk u v cnt (by omega) hG (fun j hj => by
        rw [hmk j hj, ar_mg_S]
        by_cases ej : e j = f
        · right; rw [ej]; exact hz
        · left; exact ej) (by omega)
      refine ⟨u3, v3, st3, m3, e3, mk3, hG3, hF3, ?_, fun post hp k it hk hit => hY3 post hp k it (by omega) (by omega)⟩
      intro post hp k hk
      obtain ⟨k', rfl⟩ : ∃ k', k = k' + 1 := ⟨k - 1, by omega⟩
      rw [ar_cn_0 hP] at hp
      have hX3' := hX3 post hp k' (by omega)
      obtain ⟨c, o, T, R, cT, cR, oT, oR, lo, la, lb, lt, lk, ln, lP, lq, ls, bl, bf, po, rfl, rfl, hM, hZ1, hZ2, hc, hmo, hK, hb1, hb2, hb3⟩ := hG
      refine br_f (nI_ge (by omega) (by omega)) ⟨vp_in_nI (by omega) (by omega), ?_⟩
      by_cases y : st f = 1
      · exact br_t (by rw [nI_clamp (by omega)]; exact y) ⟨vp_in_nI (by omega) (by omega), br_f (by rw [nI_clamp (by omega)]; exact fun w => hz ⟨y, w⟩) (nm_r (nI_1 f) hX3')⟩
      · exact br_f (by rw [nI_clamp (by omega)]; exact y) (nm_r (nI_1 f) hX3')
theorem ar_cancel (hN : ar_N C L F n s) (a : Int32) (hG : ar_G S C L F n s qF qN K q xO xA xB xT yO yA yB yT op A B tg hs hd st tk m e mk wp u v) :
    ∃ r u' v' st' m' e' mk', ar_G S C L F n s qF qN K q xO xA xB xT yO yA yB yT op A B tg hs hd st' tk m' e' mk' wp u' v' ∧ ar_FK n hs st st' ∧ (∀ post : Int32 → SX → Prop, post r u' → wpX_cancelPending post u a) ∧ (∀ post : Int32 → SY → Prop, post r v' → wpY_doCancel post v a) := by
  have hE := ar_G_E hG
  have hmn := ar_E_le hE
  have hN' := hN
  obtain ⟨hC, hn, hs', hF, hL⟩ := hN'
  obtain ⟨c, o, T, R, cT, cR, oT, oR, lo, la, lb, lt, lk, ln, lP, lq, ls, bl, bf, po, rfl, rfl, hM, hZ1, hZ2, hc, hmo, hK, hb1, hb2, hb3⟩ := hG
  have hlt := hM.2.2.2.2.1
  have hlP := hM.2.2.2.2.2.2.1
  have hPP : ∀ j, j < m → (¬ lP j = 0 ∧ lt j = a ↔ st (e j) = 1 ∧ tg (e j) = a) := by
    intro j hj
    rw [hlt j hj, hlP j hj]
    unfold ar_pd
    by_cases z : st (e j) = 1
    · rw [if_pos z]; exact ⟨fun w => ⟨z, w.2⟩, fun w => ⟨ar_10, w.2⟩⟩
    · rw [if_neg z]; exact ⟨fun w => absurd rfl w.1, fun w => absurd w.1 z⟩
  have htot : ar_cn (ar_mp lP lt a) 0 m = ar_cn (ar_tp st tg a) 0 n := by
    rw [← ar_cn_E hE (P := ar_tp st tg a) (fun p hp w => by have := (of_decide_eq_true hp).1; rw [w] at this; exact ar_21 this) n 0 0 (by omega) ar_cut0]
    refine ar_cn_c m 0 (fun j _ hj => ?_)
    show decide _ = decide _
    exact decide_eq_decide.mpr (hPP j (by omega))
  have hle := ar_cn_le (P := ar_tp st tg a) n 0
  have hGm : ar_G S C L F n s qF qN K q xO xA xB xT yO yA yB yT op A B tg hs hd st tk m e (ar_mf lP lt a mk m) wp (nI S, nI C, nI L, nI qF, nI qN, nI F, nI (c + o), nI c, nI n, xO, xA, xB, xT, T, R, op, A, B, tg, st, tk, hs, bl, bf) (nI S, nI C, nI L, nI qN, nI c, nI o, nI m, lN s, po, wp, yO, yA, yB, yT, cT, cR, oT, oR, lo, la, lb, lt, lk, ln, lP, ar_mf lP lt a mk m, lq, ls, hd, bl, bf) := ⟨c, o, T, R, cT, cR, oT, oR, lo, la, lb, lt, lk, ln, lP, lq, ls, bl, bf, po, rfl, rfl, hM, hZ1, hZ2, hc, hmo, hK, hb1, hb2, ar_mf_B hb3⟩
  have hVm : ar_V e m (ar_mf lP lt a mk m) (ar_mg st tg a 0) := by
    intro j hj
    unfold ar_mf ar_mg
    rw [if_pos hj]
    by_cases z : st (e j) = 1 ∧ tg (e j) = a
    · rw [if_pos ((hPP j hj).mpr z), if_pos ⟨Nat.zero_le _, z⟩]
    · rw [if_neg (fun w => z ((hPP j hj).mp w)), if_neg (fun w => z w.2)]
  obtain ⟨u3, v3, st3, m3, e3, mk3, hG3, hF3, hX3, hY3⟩ := ar_cloop hN a (ar_cn (ar_tp st tg a) 0 n) (by omega) n 0 st m e _ _ _ 0 (by omega) hGm hVm (Nat.le_refl _)
  refine ⟨ar_rs (ar_cn (ar_tp st tg a) 0 n), u3, v3, st3, m3, e3, mk3, hG3, hF3, ?_, ?_⟩
  · intro post hp
    rw [Nat.zero_add] at hX3
    exact lx_cp_w post a (n + 1) _ (hX3 post hp (n + 1) (by omega))
  · intro post hp
    have h1 := hY3 post hp (n + 1) 0 (by omega) (by omega)
    have h2 := ay_mark (mk := mk) post a (ar_cn (ar_tp st tg a) 0 n) (by omega) ⟨n + 1, h1⟩ m 0 0 (by omega) (by rw [Nat.zero_add]; exact htot)
    have h3 : ar_mf lP lt a mk 0 = mk := by
      funext p
      exact if_neg (by omega)
    rw [h3] at h2
    exact ⟨_, h2⟩
end
end
section
/-- the arguments are valid -/
def ar_vd (o a b : Int32) : Prop := ar_ok o a b ∨ o = 0 ∨ o = 5
theorem ar_nl {a b : Int32} (h : ¬ b ≤ a) : a < b := Int32.not_le.mp h
theorem ar_ln {a b : Int32} (h : b ≤ a) : ¬ a < b := Int32.not_lt.mpr h
theorem ar_ok_k {o a b : Int32} (h : ar_ok o a b) : o = 1 ∨ o = 2 ∨ o = 3 ∨ o = 4 := by
  rcases h with ⟨h | h, _⟩ | ⟨h, _⟩ | ⟨h, _⟩
  · exact Or.inl h
  · exact Or.inr (Or.inl h)
  · exact Or.inr (Or.inr (Or.inl h))
  · exact Or.inr (Or.inr (Or.inr h))
theorem ar_vd_k {o a b : Int32} (h : ar_vd o a b) : ¬ o < 0 ∧ ¬ 5 < o := by
  rcases h with h | h | h
  · rcases ar_ok_k h with h | h | h | h <;> subst h <;> decide
  · subst h; decide
  · subst h; decide
theorem ar_ok_1 {o a b : Int32} (h : ar_ok o a b) (e : o = 1 ∨ o = 2) : ar_blk a ∧ ar_buf b := by
  rcases h with ⟨_, h⟩ | ⟨h, _⟩ | ⟨h, _⟩
  · exact h
  · subst h; exact absurd e (by decide)
  · subst h; exact absurd e (by decide)
theorem ar_ok_3 {o a b : Int32} (h : ar_ok o a b) (e : o = 3) : ar_blk a := by
  rcases h with ⟨h, h2, _⟩ | ⟨_, h⟩ | ⟨h, _⟩
  · exact h2
  · exact h
  · subst h; exact absurd e (by decide)
theorem ar_ok_4 {o a b : Int32} (h : ar_ok o a b) (e : o = 4) : ¬ a < 1 ∧ ¬ 16 < a := by
  rcases h with ⟨h | h, _⟩ | ⟨h, _⟩ | ⟨_, h⟩
  · subst h; exact absurd e (by decide)
  · subst h; exact absurd e (by decide)
  · subst h; exact absurd e (by decide)
  · exact h
theorem ar_blk_in {a : Int32} (h : ar_blk a) : vp_in a 16 := by
  obtain ⟨j, hj, rfl⟩ := nI_of h.1
  exact vp_in_nI ((nI_ltI (b := 16) hj (by decide)).mp h.2) (by decide)
theorem ar_buf_in {a : Int32} (h : ar_buf a) : vp_in a 8 := by
  obtain ⟨j, hj, rfl⟩ := nI_of h.1
  exact vp_in_nI ((nI_ltI (b := 8) hj (by decide)).mp h.2) (by decide)
theorem ax_blk (post : Int32 → Prop) (x : Int32) (h1 : ar_blk x → post 1) (h0 : ¬ ar_blk x → post 0) : wpX_isBlock post x :=
  br_c (fun h => h0 (fun w => w.1 h)) (fun h => br_c (fun h2 => h0 (fun w => ar_ln h2 w.2)) (fun h2 => h1 ⟨h, ar_nl h2⟩))
theorem ax_buf (post : Int32 → Prop) (x : Int32) (h1 : ar_buf x → post 1) (h0 : ¬ ar_buf x → post 0) : wpX_isBuffer post x :=
  br_c (fun h => h0 (fun w => w.1 h)) (fun h => br_c (fun h2 => h0 (fun w => ar_ln h2 w.2)) (fun h2 => h1 ⟨h, ar_nl h2⟩))
section
variable {S C L F n s qF qN c o m : Nat} {K po wp : Int32} {xO xA xB xT yO yA yB yT op A B tg hs hd T R st tk bl bf cT cR oT oR lo la lb lt lk ln lP mk : Nat → Int32} {lq ls : Nat → Int64}
theorem ax_va54 (post : Int32 → Prop) {p : Nat} (hp : p < 32) (h1 : ar_blk (A p) ∧ ar_buf (B p) → post 1) (h0 : ¬ (ar_blk (A p) ∧ ar_buf (B p)) → post 0) : wX_hasValidArguments_54 post (nI p) (A p) (nI S) (nI C) (nI L) (nI qF) (nI qN) (nI F) (nI (c + o)) (nI c) (nI n) xO xA xB xT T R op A B tg st tk hs bl bf := by
  unfold wX_hasValidArguments_54
  refine ax_blk _ _ (fun h => br_f (by decide) ⟨vp_in_nI hp (by omega), ?_⟩) (fun h => br_t rfl (h0 (fun w => h w.1)))
  rw [nI_clamp (by omega)]
  exact ax_buf _ _ (fun h2 => br_f (by decide) (h1 ⟨h, h2⟩)) (fun h2 => br_t rfl (h0 (fun w => h2 w.2)))
theorem ax_va (post : Int32 → Prop) {p : Nat} (hp : p < 32) (h1 : ar_vd (op p) (A p) (B p) → post 1) (h0 : ¬ ar_vd (op p) (A p) (B p) → post 0) : wpX_hasValidArguments post (nI S, nI C, nI L, nI qF, nI qN, nI F, nI (c + o), nI c, nI n, xO, xA, xB, xT, T, R, op, A, B, tg, st, tk, hs, bl, bf) (nI p) := by
  refine And.intro (vp_in_nI hp (by omega)) (nm_r (e' := A p) (by rw [nI_clamp (by omega)]) ⟨vp_in_nI hp (by omega), nm_r (e' := op p) (by rw [nI_clamp (by omega)]) ?_⟩)
  refine br_c (fun h => h0 (fun w => (ar_vd_k w).1 h)) (fun _ => br_c (fun h => h0 (fun w => (ar_vd_k w).2 h)) (fun _ => br_c (fun h => h1 (Or.inr (Or.inl h))) (fun n0 => ?_)))
  refine br_c (fun h => ax_va54 _ hp (fun w => h1 (Or.inl (Or.inl ⟨Or.inl h, w⟩))) (fun w => h0 (fun y => ?_))) (fun n1 => ?_)
  · rcases y with y | y | y
    · exact w (ar_ok_1 y (Or.inl h))
    · exact n0 y
    · rw [h] at y; exact absurd y (by decide)
  refine br_c (fun h => ax_va54 _ hp (fun w => h1 (Or.inl (Or.inl ⟨Or.inr h, w⟩))) (fun w => h0 (fun y => ?_))) (fun n2 => ?_)
  · rcases y with y | y | y
    · exact w (ar_ok_1 y (Or.inr h))
    · exact n0 y
    · rw [h] at y; exact absurd y (by decide)
  refine br_c (fun h => ax_blk _ _ (fun w => ⟨rfl, h1 (Or.inl (Or.inr (Or.inl ⟨h, w⟩)))⟩) (fun w => ⟨rfl, h0 (fun y => ?_)⟩)) (fun n3 => ?_)
  · rcases y with y | y | y
    · exact w (ar_ok_3 y h)
    · exact n0 y
    · rw [h] at y; exact absurd y (by decide)
  refine br_c (fun h => br_c (fun w => h0 (fun y => ?_)) (fun w => br_c (fun z => h0 (fun y => ?_)) (fun z => h1 (Or.inl (Or.inr (Or.inr ⟨h, w, z⟩)))))) (fun n4 => br_c (fun h => h1 (Or.inr (Or.inr h))) (fun _ => trivial))
  · rcases y with y | y | y
    · exact (ar_ok_4 y h).1 w
    · exact n0 y
    · rw [h] at y; exact absurd y (by decide)
  · rcases y with y | y | y
    · exact (ar_ok_4 y h).2 z
    · exact n0 y
    · rw [h] at y; exact absurd y (by decide)
theorem ax_tw (post : Int32 → Prop) {p : Nat} (hp : p < 32) (h0 : ¬ ar_ok (op p) (A p) (B p) → post 0) (h1 : ar_ok (op p) (A p) (B p) → ¬ op p = 4 → post (nI L)) (h4 : ar_ok (op p) (A p) (B p) → op p = 4 → post (A p)) : wpX_ticksToWait post (nI S, nI C, nI L, nI qF, nI qN, nI F, nI (c + o), nI c, nI n, xO, xA, xB, xT, T, R, op, A, B, tg, st, tk, hs, bl, bf) (nI p) := by
  unfold wpX_ticksToWait
  refine ax_va _ hp (fun hv => br_f (by decide) ⟨vp_in_nI hp (by omega), nm_r (e' := op p) (by rw [nI_clamp (by omega)]) ?_⟩) (fun hv => br_t rfl (h0 (fun w => hv (Or.inl w))))
  have hk : ¬ op p = 0 → ¬ op p = 5 → ar_ok (op p) (A p) (B p) := fun a b => by
    rcases hv with h | h | h
    · exact h
    · exact absurd h a
    · exact absurd h b
  refine br_c (fun h => h0 (fun w => ?_)) (fun g1 => br_c (fun h => h0 (fun w => ?_)) (fun g4 => ?_))
  · rcases ar_ok_k w with y | y | y | y <;> rw [y] at h <;> exact absurd h (by decide)
  · rcases ar_ok_k w with y | y | y | y <;> rw [y] at h <;> exact absurd h (by decide)
  · have n0 : ¬ op p = 0 := fun y => by rw [y] at g1; exact absurd g1 (by decide)
    have n5 : ¬ op p = 5 := fun y => by rw [y] at g4; exact absurd g4 (by decide)
    refine br_c (fun h => h1 (hk n0 n5) (by rw [h]; decide)) (fun _ => br_c (fun h => h1 (hk n0 n5) (by rw [h]; decide)) (fun _ => br_c (fun h => h1 (hk n0 n5) (by rw [h]; decide)) (fun _ => br_c (fun h => ⟨vp_in_nI hp (by omega), ?_⟩) (fun _ => trivial))))
    rw [nI_clamp (by omega)]
    exact h4 (hk n0 n5) h
theorem ax_exec (post : Int32 → SX → Prop) {p : Nat} (hp : p < 32) (hi : ¬ ar_vd (op p) (A p) (B p) → post (-22) (nI S, nI C, nI L, nI qF, nI qN, nI F, nI (c + o), nI c, nI n, xO, xA, xB, xT, T, R, op, A, B, tg, st, tk, hs, bl, bf)) (h0 : op p = 0 → post 0 (nI S, nI C, nI L, nI qF, nI qN, nI F, nI (c + o), nI c, nI n, xO, xA, xB, xT, T, R, op, A, B, tg, st, tk, hs, bl, bf))
    (h1 : op p = 1 → ar_ok (op p) (A p) (B p) → post 0 (nI S, nI C, nI L, nI qF, nI qN, nI F, nI (c + o), nI c, nI n, xO, xA, xB, xT, T, R, op, A, B, tg, st, tk, hs, bl, upd bf (B p).toNatClampNeg (bl (A p).toNatClampNeg)))
    (h2 : op p = 2 → ar_ok (op p) (A p) (B p) → post 0 (nI S, nI C, nI L, nI qF, nI qN, nI F, nI (c + o), nI c, nI n, xO, xA, xB, xT, T, R, op, A, B, tg, st, tk, hs, upd bl (A p).toNatClampNeg (bf (B p).toNatClampNeg), bf))
    (h3 : op p = 3 → ar_ok (op p) (A p) (B p) → (bl (A p).toNatClampNeg = B p → post 0 (nI S, nI C, nI L, nI qF, nI qN, nI F, nI (c + o), nI c, nI n, xO, xA, xB, xT, T, R, op, A, B, tg, st, tk, hs, bl, bf)) ∧ (¬ bl (A p).toNatClampNeg = B p → post (-74) (nI S, nI C, nI L, nI qF, nI qN, nI F, nI (c + o), nI c, nI n, xO, xA, xB, xT, T, R, op, A, B, tg, st, tk, hs, bl, bf)))
    (h4 : op p = 4 → ar_ok (op p) (A p) (B p) → post 0 (nI S, nI C, nI L, nI qF, nI qN, nI F, nI (c + o), nI c, nI n, xO, xA, xB, xT, T, R, op, A, B, tg, st, tk, hs, bl, bf))
    (h5 : op p = 5 → ∃ r u', (∀ P : Int32 → SX → Prop, P r u' → wpX_cancelPending P (nI S, nI C, nI L, nI qF, nI qN, nI F, nI (c + o), nI c, nI n, xO, xA, xB, xT, T, R, op, A, B, tg, st, tk, hs, bl, bf) (A p)) ∧ post r u') : wpX_execute post (nI S, nI C, nI L, nI qF, nI qN, nI F, nI (c + o), nI c, nI n, xO, xA, xB, xT, T, R, op, A, B, tg, st, tk, hs, bl, bf) (nI p) := by
  unfold wpX_execute
  refine ax_va _ hp (fun hv => br_f (by decide) ⟨vp_in_nI hp (by omega), nm_r (e' := A p) (by rw [nI_clamp (by omega)]) ⟨vp_in_nI hp (by omega), nm_r (e' := B p) (by rw [nI_clamp (by omega)]) ⟨vp_in_nI hp (by omega), nm_r (e' := op p) (by rw [nI_clamp (by omega)]) ?_⟩⟩⟩) (fun hv => br_t rfl (hi hv))
  have hk : ¬ op p = 0 → ¬ op p = 5 → ar_ok (op p) (A p) (B p) := fun a b => by
    rcases hv with h | h | h
    · exact h
    · exact absurd h a
    · exact absurd h b
  have h6 : ¬ op p < 0 ∧ ¬ 5 < op p := ar_vd_k hv
  refine br_c (fun h => h0 ?_) (fun g1 => br_f h6.2 ?_)
  · rcases hv with w | w | w
    · rcases ar_ok_k w with y | y | y | y <;> rw [y] at h <;> exact absurd h (by decide)
    · exact w
    · rw [w] at h; exact absurd h (by decide)
  · have n0 : ¬ op p = 0 := fun y => by rw [y] at g1; exact absurd g1 (by decide)
    refine br_c (fun h => ?_) (fun n1 => br_c (fun h => ?_) (fun n2 => br_c (fun h => ?_) (fun n3 => br_c (fun h => ?_) (fun n4 => br_c (fun h => ?_) (fun _ => trivial)))))
    · have hk' := hk n0 (by rw [h]; decide)
      have hb := ar_ok_1 hk' (Or.inl h)
      exact ⟨ar_blk_in hb.1, ar_buf_in hb.2, nm_e (h1 h hk')⟩
    · have hk' := hk n0 (by rw [h]; decide)
      have hb := ar_ok_1 hk' (Or.inr h)
      exact ⟨ar_buf_in hb.2, ar_blk_in hb.1, nm_e (h2 h hk')⟩
    · have hk' := hk n0 (by rw [h]; decide)
      have hb := ar_ok_3 hk' h
      exact ⟨ar_blk_in hb, h3 h hk'⟩
    · exact h4 h (hk n0 (by rw [h]; decide))
    · obtain ⟨r, ⟨w0, w1, w2, w3, w4, w5, w6, w7, w8, w9, w10, w11, w12, w13, w14, w15, w16, w17, w18, w19, w20, w21, w22, w23⟩, hP, hpost⟩ := h5 h
      exact hP _ hpost
theorem ay_56 (post : Int32 → SY → Prop) {k a b x z : Int32}
    (h1 : k = 1 → ¬ x = 0 ∧ ¬ z = 0 ∧ vp_in a 16 ∧ vp_in b 8 ∧ post 0 (nI S, nI C, nI L, nI qN, nI c, nI o, nI m, lN s, po, wp, yO, yA, yB, yT, cT, cR, oT, oR, lo, la, lb, lt, lk, ln, lP, mk, lq, ls, hd, bl, upd bf b.toNatClampNeg (bl a.toNatClampNeg)))
    (h2 : k = 2 → ¬ x = 0 ∧ ¬ z = 0 ∧ vp_in a 16 ∧ vp_in b 8 ∧ post 0 (nI S, nI C, nI L, nI qN, nI c, nI o, nI m, lN s, po, wp, yO, yA, yB, yT, cT, cR, oT, oR, lo, la, lb, lt, lk, ln, lP, mk, lq, ls, hd, upd bl a.toNatClampNeg (bf b.toNatClampNeg), bf))
    (h3 : k = 3 → ¬ x = 0 ∧ vp_in a 16 ∧ (bl a.toNatClampNeg = b → post 0 (nI S, nI C, nI L, nI qN, nI c, nI o, nI m, lN s, po, wp, yO, yA, yB, yT, cT, cR, oT, oR, lo, la, lb, lt, lk, ln, lP, mk, lq, ls, hd, bl, bf)) ∧ (¬ bl a.toNatClampNeg = b → post (-74) (nI S, nI C, nI L, nI qN, nI c, nI o, nI m, lN s, po, wp, yO, yA, yB, yT, cT, cR, oT, oR, lo, la, lb, lt, lk, ln, lP, mk, lq, ls, hd, bl, bf)))
    (h4 : k = 4 → post 0 (nI S, nI C, nI L, nI qN, nI c, nI o, nI m, lN s, po, wp, yO, yA, yB, yT, cT, cR, oT, oR, lo, la, lb, lt, lk, ln, lP, mk, lq, ls, hd, bl, bf)) (hk : k = 1 ∨ k = 2 ∨ k = 3 ∨ k = 4) : wY_execDevice_56 post k a b x z (nI S) (nI C) (nI L) (nI qN) (nI c) (nI o) (nI m) (lN s) po wp yO yA yB yT cT cR oT oR lo la lb lt lk ln lP mk lq ls hd bl bf := by
  rcases hk with rfl | rfl | rfl | rfl
  · obtain ⟨a1, a2, a3, a4, a5⟩ := h1 rfl
    exact br_t rfl (br_f a1 (br_f a2 ⟨a3, a4, nm_e (br_f (by decide) (br_f (by decide) a5))⟩))
  · obtain ⟨a1, a2, a3, a4, a5⟩ := h2 rfl
    exact br_f (by decide) (br_t rfl (br_f a1 (br_f a2 ⟨a4, a3, nm_e (br_f (by decide) a5)⟩)))
  · obtain ⟨a1, a3, a4⟩ := h3 rfl
    exact br_f (by decide) (br_f (by decide) (br_t rfl (br_f a1 ⟨a3, a4⟩)))
  · exact br_f (by decide) (br_f (by decide) (br_f (by decide) (h4 rfl)))
theorem ay_dev (post : Int32 → SY → Prop) {i : Nat} (hi : i < 32) (hk : ar_ok (lo i) (la i) (lb i))
    (h1 : lo i = 1 → post 0 (nI S, nI C, nI L, nI qN, nI c, nI o, nI m, lN s, po, wp, yO, yA, yB, yT, cT, cR, oT, oR, lo, la, lb, lt, lk, ln, lP, mk, lq, ls, hd, bl, upd bf (lb i).toNatClampNeg (bl (la i).toNatClampNeg)))
    (h2 : lo i = 2 → post 0 (nI S, nI C, nI L, nI qN, nI c, nI o, nI m, lN s, po, wp, yO, yA, yB, yT, cT, cR, oT, oR, lo, la, lb, lt, lk, ln, lP, mk, lq, ls, hd, upd bl (la i).toNatClampNeg (bf (lb i).toNatClampNeg), bf))
    (h3 : lo i = 3 → (bl (la i).toNatClampNeg = lb i → post 0 (nI S, nI C, nI L, nI qN, nI c, nI o, nI m, lN s, po, wp, yO, yA, yB, yT, cT, cR, oT, oR, lo, la, lb, lt, lk, ln, lP, mk, lq, ls, hd, bl, bf)) ∧ (¬ bl (la i).toNatClampNeg = lb i → post (-74) (nI S, nI C, nI L, nI qN, nI c, nI o, nI m, lN s, po, wp, yO, yA, yB, yT, cT, cR, oT, oR, lo, la, lb, lt, lk, ln, lP, mk, lq, ls, hd, bl, bf)))
    (h4 : lo i = 4 → post 0 (nI S, nI C, nI L, nI qN, nI c, nI o, nI m, lN s, po, wp, yO, yA, yB, yT, cT, cR, oT, oR, lo, la, lb, lt, lk, ln, lP, mk, lq, ls, hd, bl, bf)) : wpY_execDevice post (nI S, nI C, nI L, nI qN, nI c, nI o, nI m, lN s, po, wp, yO, yA, yB, yT, cT, cR, oT, oR, lo, la, lb, lt, lk, ln, lP, mk, lq, ls, hd, bl, bf) (nI i) := by
  refine And.intro (vp_in_nI hi (by omega)) (nm_r (e' := lo i) (by rw [nI_clamp (by omega)]) ⟨vp_in_nI hi (by omega), nm_r (e' := la i) (by rw [nI_clamp (by omega)]) ⟨vp_in_nI hi (by omega), nm_r (e' := lb i) (by rw [nI_clamp (by omega)]) ?_⟩⟩)
  have hko := ar_ok_k hk
  by_cases e12 : lo i = 1 ∨ lo i = 2
  · obtain ⟨hb, hc⟩ := ar_ok_1 hk e12
    refine br_f hb.1 (br_f (fun w => ar_ln w hb.2) (br_f hc.1 (br_f (fun w => ar_ln w hc.2) ?_)))
    refine ay_56 post (fun h => ⟨by decide, by decide, ar_blk_in hb, ar_buf_in hc, h1 h⟩) (fun h => ⟨by decide, by decide, ar_blk_in hb, ar_buf_in hc, h2 h⟩) (fun h => ?_) (fun h => ?_) hko
    · rcases e12 with y | y <;> rw [y] at h <;> exact absurd h (by decide)
    · rcases e12 with y | y <;> rw [y] at h <;> exact absurd h (by decide)
  · by_cases e3 : lo i = 3
    · have hb := ar_ok_3 hk e3
      have key : ∀ z : Int32, wY_execDevice_56 post (lo i) (la i) (lb i) 1 z (nI S) (nI C) (nI L) (nI qN) (nI c) (nI o) (nI m) (lN s) po wp yO yA yB yT cT cR oT oR lo la lb lt lk ln lP mk lq ls hd bl bf := fun z =>
        ay_56 post (fun h => absurd (Or.inl h) e12) (fun h => absurd (Or.inr h) e12) (fun h => ⟨by decide, ar_blk_in hb, h3 h⟩) h4 hko
      exact br_f hb.1 (br_f (fun w => ar_ln w hb.2) (br_c (fun _ => key 0) (fun _ => br_c (fun _ => key 0) (fun _ => key 1))))
    · have key : ∀ x z : Int32, wY_execDevice_56 post (lo i) (la i) (lb i) x z (nI S) (nI C) (nI L) (nI qN) (nI c) (nI o) (nI m) (lN s) po wp yO yA yB yT cT cR oT oR lo la lb lt lk ln lP mk lq ls hd bl bf := fun x z =>
        ay_56 post (fun h => absurd (Or.inl h) e12) (fun h => absurd (Or.inr h) e12) (fun h => absurd h e3) h4 hko
      have key2 : ∀ x : Int32, wY_execDevice_37 post (lo i) (la i) (lb i) x (nI S) (nI C) (nI L) (nI qN) (nI c) (nI o) (nI m) (lN s) po wp yO yA yB yT cT cR oT oR lo la lb lt lk ln lP mk lq ls hd bl bf := fun x =>
        br_c (fun _ => key x 0) (fun _ => br_c (fun _ => key x 0) (fun _ => key x 1))
      exact br_c (fun _ => key2 0) (fun _ => br_c (fun _ => key2 0) (fun _ => key2 1))
end
end
section
def lx_28 (post : SX → Prop) (J : Int32 → Int32 → Int32 → Int32 → Int32 → Int32 → Int32 → Int32 → Int32 → Int32 → (Nat → Int32) → (Nat → Int32) → (Nat → Int32) → (Nat → Int32) → (Nat → Int32) → (Nat → Int32) → (Nat → Int32) → (Nat → Int32) → (Nat → Int32) → (Nat → Int32) → (Nat → Int32) → (Nat → Int32) → (Nat → Int32) → (Nat → Int32) → (Nat → Int32) → Prop) (x z : Int32) (u : SX) : Prop := match u with
  | (f_sqCapacity, f_cqCapacity, f_latency, f_sqFirst, f_sqCount, f_doneFirst, f_doneCount, f_cqCount, f_reqCount, a_sqOpFlags, a_sqA, a_sqB, a_sqTag, a_doneTag, a_doneResult, a_reqOpcode, a_reqA, a_reqB, a_reqTag, a_reqState, a_reqTicks, a_reqHasSuccessor, a_blocks, a_buffers) => wX_runChain_28 post J x z f_sqCapacity f_cqCapacity f_latency f_sqFirst f_sqCount f_doneFirst f_doneCount f_cqCount f_reqCount a_sqOpFlags a_sqA a_sqB a_sqTag a_doneTag a_doneResult a_reqOpcode a_reqA a_reqB a_reqTag a_reqState a_reqTicks a_reqHasSuccessor a_blocks a_buffers
section
variable {S C L F n s qF qN m : Nat} {K wp : Int32} {q e : Nat → Nat} {xO xA xB xT yO yA yB yT op A B tg hs hd st tk mk : Nat → Int32} {u : SX} {v : SY}
theorem ar_dev (hN : ar_N C L F n s) (hG : ar_G S C L F n s qF qN K q xO xA xB xT yO yA yB yT op A B tg hs hd st tk m e mk wp u v) {i : Nat} (hi : i < m) (hk : ar_ok (op (e i)) (A (e i)) (B (e i))) :
    ∃ r u' v', ar_G S C L F n s qF qN K q xO xA xB xT yO yA yB yT op A B tg hs hd st tk m e mk wp u' v' ∧ (∀ post : Int32 → SX → Prop, post r u' → wpX_execute post u (nI (e i))) ∧ (∀ post : Int32 → SY → Prop, post r v' → wpY_execDevice post v (nI i)) := by
  have hE := ar_G_E hG
  have hmn := ar_E_le hE
  have hb := hE.2.1 i hi
  obtain ⟨hC, hn, hs', hF, hL⟩ := hN
  obtain ⟨c, o, T, R, cT, cR, oT, oR, lo, la, lb, lt, lk, ln, lP, lq, ls, bl, bf, po, rfl, rfl, hM, hZ1, hZ2, hc, hmo, hK, hb1, hb2, hb3⟩ := hG
  have e1 : lo i = op (e i) := hM.2.1 i hi
  have e2 : la i = A (e i) := hM.2.2.1 i hi
  have e3 : lb i = B (e i) := hM.2.2.2.1 i hi
  have hk' : ar_ok (lo i) (la i) (lb i) := by rw [e1, e2, e3]; exact hk
  have hv : ¬ ¬ ar_vd (op (e i)) (A (e i)) (B (e i)) := fun w => w (Or.inl hk)
  have n0 : ¬ op (e i) = 0 := fun w => by rcases ar_ok_k hk with y | y | y | y <;> rw [y] at w <;> exact absurd w (by decide)
  have n5 : ¬ op (e i) = 5 := fun w => by rcases ar_ok_k hk with y | y | y | y <;> rw [y] at w <;> exact absurd w (by decide)
  rcases ar_ok_k hk with y | y | y | y
  · refine ⟨0, _, _, ⟨c, o, T, R, cT, cR, oT, oR, lo, la, lb, lt, lk, ln, lP, lq, ls, bl, upd bf (B (e i)).toNatClampNeg (bl (A (e i)).toNatClampNeg), po, rfl, rfl, hM, hZ1, hZ2, hc, hmo, hK, hb1, hb2, hb3⟩,
      fun post hp => ax_exec post (by omega) (fun w => absurd w hv) (fun w => absurd w n0) (fun _ _ => hp) (fun w => ?_) (fun w => ?_) (fun w => ?_) (fun w => absurd w n5),
      fun post hp => ay_dev post (by omega) hk' (fun _ => ?_) (fun w => ?_) (fun w => ?_) (fun w => ?_)⟩
    · rw [y] at w; exact absurd w (by decide)
    · rw [y] at w; exact absurd w (by decide)
    · rw [y] at w; exact absurd w (by decide)
    · rw [e2, e3]; exact hp
    · rw [e1, y] at w; exact absurd w (by decide)
    · rw [e1, y] at w; exact absurd w (by decide)
    · rw [e1, y] at w; exact absurd w (by decide)
  · refine ⟨0, _, _, ⟨c, o, T, R, cT, cR, oT, oR, lo, la, lb, lt, lk, ln, lP, lq, ls, upd bl (A (e i)).toNatClampNeg (bf (B (e i)).toNatClampNeg), bf, po, rfl, rfl, hM, hZ1, hZ2, hc, hmo, hK, hb1, hb2, hb3⟩,
      fun post hp => ax_exec post (by omega) (fun w => absurd w hv) (fun w => absurd w n0) (fun w => ?_) (fun _ _ => hp) (fun w => ?_) (fun w => ?_) (fun w => absurd w n5),
      fun post hp => ay_dev post (by omega) hk' (fun w => ?_) (fun _ => ?_) (fun w => ?_) (fun w => ?_)⟩
    · rw [y] at w; exact absurd w (by decide)
    · rw [y] at w; exact absurd w (by decide)
    · rw [y] at w; exact absurd w (by decide)
    · rw [e1, y] at w; exact absurd w (by decide)
    · rw [e2, e3]; exact hp
    · rw [e1, y] at w; exact absurd w (by decide)
    · rw [e1, y] at w; exact absurd w (by decide)
  · by_cases z : bl (A (e i)).toNatClampNeg = B (e i)
    · refine ⟨0, _, _, ⟨c, o, T, R, cT, cR, oT, oR, lo, la, lb, lt, lk, ln, lP, lq, ls, bl, bf, po, rfl, rfl, hM, hZ1, hZ2, hc, hmo, hK, hb1, hb2, hb3⟩,
        fun post hp => ax_exec post (by omega) (fun w => absurd w hv) (fun w => absurd w n0) (fun w => ?_) (fun w => ?_) (fun _ _ => ⟨fun _ => hp, fun x => absurd z x⟩) (fun w => ?_) (fun w => absurd w n5),
        fun post hp => ay_dev post (by omega) hk' (fun w => ?_) (fun w => ?_) (fun _ => ?_) (fun w => ?_)⟩
      · rw [y] at w; exact absurd w (by decide)
      · rw [y] at w; exact absurd w (by decide)
      · rw [y] at w; exact absurd w (by decide)
      · rw [e1, y] at w; exact absurd w (by decide)
      · rw [e1, y] at w; exact absurd w (by decide)
      · rw [e2, e3]; exact ⟨fun _ => hp, fun x => absurd z x⟩
      · rw [e1, y] at w; exact absurd w (by decide)
    · refine ⟨-74, _, _, ⟨c, o, T, R, cT, cR, oT, oR, lo, la, lb, lt, lk, ln, lP, lq, ls, bl, bf, po, rfl, rfl, hM, hZ1, hZ2, hc, hmo, hK, hb1, hb2, hb3⟩,
        fun post hp => ax_exec post (by omega) (fun w => absurd w hv) (fun w => absurd w n0) (fun w => ?_) (fun w => ?_) (fun _ _ => ⟨fun x => absurd x z, fun _ => hp⟩) (fun w => ?_) (fun w => absurd w n5),
        fun post hp => ay_dev post (by omega) hk' (fun w => ?_) (fun w => ?_) (fun _ => ?_) (fun w => ?_)⟩
      · rw [y] at w; exact absurd w (by decide)
      · rw [y] at w; exact absurd w (by decide)
      · rw [y] at w; exact absurd w (by decide)
      · rw [e1, y] at w; exact absurd w (by decide)
      · rw [e1, y] at w; exact absurd w (by decide)
      · rw [e2, e3]; exact ⟨fun x => absurd x z, fun _ => hp⟩
      · rw [e1, y] at w; exact absurd w (by decide)
  · refine ⟨0, _, _, ⟨c, o, T, R, cT, cR, oT, oR, lo, la, lb, lt, lk, ln, lP, lq, ls, bl, bf, po, rfl, rfl, hM, hZ1, hZ2, hc, hmo, hK, hb1, hb2, hb3⟩,
      fun post hp => ax_exec post (by omega) (fun w => absurd w hv) (fun w => absurd w n0) (fun w => ?_) (fun w => ?_) (fun w => ?_) (fun _ _ => hp) (fun w => absurd w n5),
      fun post hp => ay_dev post (by omega) hk' (fun w => ?_) (fun w => ?_) (fun w => ?_) (fun _ => hp)⟩
    · rw [y] at w; exact absurd w (by decide)
    · rw [y] at w; exact absurd w (by decide)
    · rw [y] at w; exact absurd w (by decide)
    · rw [e1, y] at w; exact absurd w (by decide)
    · rw [e1, y] at w; exact absurd w (by decide)
    · rw [e1, y] at w; exact absurd w (by decide)
/-- Y's start, by the kinds -/
theorem ay_start (post : Int32 → SY → Prop) {c o : Nat} {po : Int32} {bl bf cT cR oT oR lo la lb lt lk ln lP : Nat → Int32} {lq ls : Nat → Int64} {i : Nat} (hi : i < 32) (hL : L < 2 ^ 31)
    (hinv : ¬ ar_vd (lo i) (la i) (lb i) → post (-22) (nI S, nI C, nI L, nI qN, nI c, nI o, nI m, lN s, po, 0, yO, yA, yB, yT, cT, cR, oT, oR, lo, la, lb, lt, lk, ln, lP, mk, lq, ls, hd, bl, bf)) (h0 : lo i = 0 → post 0 (nI S, nI C, nI L, nI qN, nI c, nI o, nI m, lN s, po, 0, yO, yA, yB, yT, cT, cR, oT, oR, lo, la, lb, lt, lk, ln, lP, mk, lq, ls, hd, bl, bf))
    (hd0 : ar_ok (lo i) (la i) (lb i) → ¬ lo i = 4 → L = 0 → ∃ r v', (∀ P : Int32 → SY → Prop, P r v' → wpY_execDevice P (nI S, nI C, nI L, nI qN, nI c, nI o, nI m, lN s, po, 0, yO, yA, yB, yT, cT, cR, oT, oR, lo, la, lb, lt, lk, ln, lP, mk, lq, ls, hd, bl, bf) (nI i)) ∧ post r v')
    (hd1 : ar_ok (lo i) (la i) (lb i) → ¬ lo i = 4 → ¬ L = 0 → post 0 (nI S, nI C, nI L, nI qN, nI c, nI o, nI m, lN s, po, 1, yO, yA, yB, yT, cT, cR, oT, oR, lo, la, lb, lt, upd lk i (nI L), ln, upd lP i 1, mk, lq, ls, hd, bl, bf))
    (h4 : ar_ok (lo i) (la i) (lb i) → lo i = 4 → post 0 (nI S, nI C, nI L, nI qN, nI c, nI o, nI m, lN s, po, 1, yO, yA, yB, yT, cT, cR, oT, oR, lo, la, lb, lt, upd lk i (la i), ln, upd lP i 1, mk, lq, ls, hd, bl, bf))
    (h5 : lo i = 5 → ∃ r v', (∀ P : Int32 → SY → Prop, P r v' → wpY_doCancel P (nI S, nI C, nI L, nI qN, nI c, nI o, nI m, lN s, po, 0, yO, yA, yB, yT, cT, cR, oT, oR, lo, la, lb, lt, lk, ln, lP, mk, lq, ls, hd, bl, bf) (la i)) ∧ post r v') : wpY_startNow post (nI S, nI C, nI L, nI qN, nI c, nI o, nI m, lN s, po, wp, yO, yA, yB, yT, cT, cR, oT, oR, lo, la, lb, lt, lk, ln, lP, mk, lq, ls, hd, bl, bf) (nI i) := by
  have k81 : ar_ok (lo i) (la i) (lb i) → ¬ lo i = 4 → wY_startNow_81 post (nI i) (nI S) (nI C) (nI L) (nI qN) (nI c) (nI o) (nI m) (lN s) po 0 yO yA yB yT cT cR oT oR lo la lb lt lk ln lP mk lq ls hd bl bf := by
    intro hk n4
    by_cases z : L = 0
    · obtain ⟨r, ⟨w0, w1, w2, w3, w4, w5, w6, w7, w8, w9, w10, w11, w12, w13, w14, w15, w16, w17, w18, w19, w20, w21, w22, w23, w24, w25, w26, w27, w28, w29, w30⟩, hP, hpost⟩ := hd0 hk n4 z
      exact br_t (by rw [z]; rfl) (hP _ hpost)
    · exact br_f (nI_ne0 (by omega) hL) ⟨vp_in_nI hi (by omega), nm_r (ar_ub lP 1 (by omega) (Or.inr rfl)) ⟨vp_in_nI hi (by omega), nm_r (ar_uc lk (nI L) (by omega)) (hd1 hk n4 z)⟩⟩
  have k48 : (lo i = 1 ∨ lo i = 2 ∨ lo i = 3) → wY_startNow_48 post (nI i) (lo i) (la i) (lb i) (nI S) (nI C) (nI L) (nI qN) (nI c) (nI o) (nI m) (lN s) po 0 yO yA yB yT cT cR oT oR lo la lb lt lk ln lP mk lq ls hd bl bf := by
    intro he
    have n4 : ¬ lo i = 4 := fun w => by rcases he with y | y | y <;> rw [y] at w <;> exact absurd w (by decide)
    have nv : ¬ ar_ok (lo i) (la i) (lb i) → ¬ ar_vd (lo i) (la i) (lb i) := fun w y => by
      rcases y with y | y | y
      · exact w y
      · rcases he with z | z | z <;> rw [z] at y <;> exact absurd y (by decide)
      · rcases he with z | z | z <;> rw [z] at y <;> exact absurd y (by decide)
    have hblk : ar_ok (lo i) (la i) (lb i) → ar_blk (la i) := fun w => by
      rcases he with z | z | z
      · exact (ar_ok_1 w (Or.inl z)).1
      · exact (ar_ok_1 w (Or.inr z)).1
      · exact ar_ok_3 w z
    refine br_c (fun w => hinv (nv (fun y => (hblk y).1 w))) (fun a0 => br_c (fun a1 => br_c (fun e3 => ?_) (fun n3 => ?_)) (fun w => hinv (nv (fun y => w (hblk y).2))))
    · exact k81 (Or.inr (Or.inl ⟨e3, a0, a1⟩)) n4
    · have e12 : lo i = 1 ∨ lo i = 2 := by
        rcases he with z | z | z
        · exact Or.inl z
        · exact Or.inr z
        · exact absurd z n3
      exact br_c (fun w => hinv (nv (fun y => (ar_ok_1 y e12).2.1 w))) (fun b0 => br_c (fun b1 => k81 (Or.inl ⟨e12, ⟨a0, a1⟩, b0, b1⟩) n4) (fun w => hinv (nv (fun y => w (ar_ok_1 y e12).2.2))))
  refine And.intro (vp_in_nI hi (by omega)) (nm_r (e' := lo i) (by rw [nI_clamp (by omega)]) ⟨vp_in_nI hi (by omega), nm_r (e' := la i) (by rw [nI_clamp (by omega)]) ⟨vp_in_nI hi (by omega), nm_r (e' := lb i) (by rw [nI_clamp (by omega)]) ?_⟩⟩)
  refine br_c h0 (fun n0 => br_c (fun w => k48 (Or.inl w)) (fun n1 => br_c (fun w => k48 (Or.inr (Or.inl w))) (fun n2 => br_c (fun w => k48 (Or.inr (Or.inr w))) (fun n3 => br_c (fun e4 => ?_) (fun n4 => br_c (fun e5 => ?_) (fun n5 => hinv ?_))))))
  · have nv : ¬ ar_ok (lo i) (la i) (lb i) → ¬ ar_vd (lo i) (la i) (lb i) := fun w y => by
      rcases y with y | y | y
      · exact w y
      · exact n0 y
      · rw [e4] at y; exact absurd y (by decide)
    refine br_c (fun w => hinv (nv (fun y => (ar_ok_4 y e4).1 w))) (fun a1 => br_c (fun a16 => ?_) (fun w => hinv (nv (fun y => (ar_ok_4 y e4).2 (ar_nl w)))))
    have hk : ar_ok (lo i) (la i) (lb i) := Or.inr (Or.inr ⟨e4, a1, ar_ln a16⟩)
    exact ⟨vp_in_nI hi (by omega), nm_r (ar_ub lP 1 (by omega) (Or.inr rfl)) ⟨vp_in_nI hi (by omega), nm_r (ar_uc lk (la i) (by omega)) (h4 hk e4)⟩⟩
  · obtain ⟨r, ⟨w0, w1, w2, w3, w4, w5, w6, w7, w8, w9, w10, w11, w12, w13, w14, w15, w16, w17, w18, w19, w20, w21, w22, w23, w24, w25, w26, w27, w28, w29, w30⟩, hP, hpost⟩ := h5 e5
    exact hP _ hpost
  · intro y
    rcases y with y | y | y
    · rcases ar_ok_k y with z | z | z | z
      · exact n1 z
      · exact n2 z
      · exact n3 z
      · exact n4 z
    · exact n0 y
    · exact n5 y
end
end
section
def lx_rc (post : SX → Prop) (k : Nat) (x : Int32) (u : SX) : Prop := match u with
  | (f_sqCapacity, f_cqCapacity, f_latency, f_sqFirst, f_sqCount, f_doneFirst, f_doneCount, f_cqCount, f_reqCount, a_sqOpFlags, a_sqA, a_sqB, a_sqTag, a_doneTag, a_doneResult, a_reqOpcode, a_reqA, a_reqB, a_reqTag, a_reqState, a_reqTicks, a_reqHasSuccessor, a_blocks, a_buffers) => wX_runChain_2 post k x f_sqCapacity f_cqCapacity f_latency f_sqFirst f_sqCount f_doneFirst f_doneCount f_cqCount f_reqCount a_sqOpFlags a_sqA a_sqB a_sqTag a_doneTag a_doneResult a_reqOpcode a_reqA a_reqB a_reqTag a_reqState a_reqTicks a_reqHasSuccessor a_blocks a_buffers
theorem lx_rc_w (post : SX → Prop) (k : Nat) (x : Int32) : ∀ u : SX, lx_rc post k x u → wpX_runChain post u x
  | (f_sqCapacity, f_cqCapacity, f_latency, f_sqFirst, f_sqCount, f_doneFirst, f_doneCount, f_cqCount, f_reqCount, a_sqOpFlags, a_sqA, a_sqB, a_sqTag, a_doneTag, a_doneResult, a_reqOpcode, a_reqA, a_reqB, a_reqTag, a_reqState, a_reqTicks, a_reqHasSuccessor, a_blocks, a_buffers), h => ⟨k, h⟩
def ly_rc (post : SY → Prop) (k : Nat) (a b : Int32) (c : Int64) (d : Int32) (v : SY) : Prop := match v with
  | (f_S, f_C, f_L, f_sqN, f_cqN, f_ovN, f_liveN, f_nextSeq, f_posts, f_wentPending, a_sqOp, a_sqA, a_sqB, a_sqTg, a_cqT, a_cqR, a_ovT, a_ovR, a_lOp, a_lA, a_lB, a_lTag, a_lTicks, a_lLink, a_lPend, a_lMark, a_lSeq, a_lSucc, a_head, a_block, a_buffer) => wY_runChain_6 post k a b c d f_S f_C f_L f_sqN f_cqN f_ovN f_liveN f_nextSeq f_posts f_wentPending a_sqOp a_sqA a_sqB a_sqTg a_cqT a_cqR a_ovT a_ovR a_lOp a_lA a_lB a_lTag a_lTicks a_lLink a_lPend a_lMark a_lSeq a_lSucc a_head a_block a_buffer
theorem ly_rc_w (post : SY → Prop) (k : Nat) (a b : Int32) (c : Int64) : ∀ v : SY, ly_rc post k a b c 0 v → wpY_runChain post v c a b
  | (f_S, f_C, f_L, f_sqN, f_cqN, f_ovN, f_liveN, f_nextSeq, f_posts, f_wentPending, a_sqOp, a_sqA, a_sqB, a_sqTg, a_cqT, a_cqR, a_ovT, a_ovR, a_lOp, a_lA, a_lB, a_lTag, a_lTicks, a_lLink, a_lPend, a_lMark, a_lSeq, a_lSucc, a_head, a_block, a_buffer), h => ⟨k, h⟩
def ly_65 (post : SY → Prop) (k : Nat) (a b c : Int32) (v : SY) : Prop := match v with
  | (f_S, f_C, f_L, f_sqN, f_cqN, f_ovN, f_liveN, f_nextSeq, f_posts, f_wentPending, a_sqOp, a_sqA, a_sqB, a_sqTg, a_cqT, a_cqR, a_ovT, a_ovR, a_lOp, a_lA, a_lB, a_lTag, a_lTicks, a_lLink, a_lPend, a_lMark, a_lSeq, a_lSucc, a_head, a_block, a_buffer) => wY_runChain_65 post (wY_runChain_6 post k) a b c f_S f_C f_L f_sqN f_cqN f_ovN f_liveN f_nextSeq f_posts f_wentPending a_sqOp a_sqA a_sqB a_sqTg a_cqT a_cqR a_ovT a_ovR a_lOp a_lA a_lB a_lTag a_lTicks a_lLink a_lPend a_lMark a_lSeq a_lSucc a_head a_block a_buffer
theorem ar_FR_1 {n : Nat} {hs st tk : Nat → Int32} {f : Nat} : ar_FR n hs st tk (upd st f 2) tk f := by
  refine ⟨fun p h1 h2 => ?_, fun h h1 h2 h3 p h4 h5 => ?_⟩
  · have e : p ≠ f := fun w => by rw [w, pk_us] at h1; exact ar_21 h1
    rw [pk_un e] at h1
    exact ⟨h1, h2, e⟩
  · rw [pk_un (by omega)]; exact h3 p h4 h5
theorem ar_FR_W {n : Nat} {hs st tk : Nat → Int32} {f : Nat} {t : Int32} (ht : ¬ t = 0) : ar_FR n hs st tk (upd st f 1) (upd tk f t) f := by
  refine ⟨fun p h1 h2 => ?_, fun h h1 h2 h3 p h4 h5 => ?_⟩
  · have e : p ≠ f := fun w => by rw [w, pk_us] at h2; exact ht h2
    rw [pk_un e] at h1 h2
    exact ⟨h1, h2, e⟩
  · rw [pk_un (by omega)]; exact h3 p h4 h5
theorem ar_FR_S {n : Nat} {hs st tk st' tk' : Nat → Int32} {f : Nat} (hh : ¬ hs f = 0) (h : ar_FR n hs (upd st f 2) tk st' tk' (f + 1)) : ar_FR n hs st tk st' tk' f := by
  refine ⟨fun p h1 h2 => ?_, fun g h1 h2 h3 p h4 h5 => ?_⟩
  · obtain ⟨a1, a2, a3⟩ := h.1 p h1 h2
    have e : p ≠ f := fun w => by rw [w, pk_us] at a1; exact ar_21 a1
    rw [pk_un e] at a1
    exact ⟨a1, a2, e⟩
  · have e : g ≠ f + 1 := fun w => hh (by rw [w, show f + 1 - 1 = f by omega] at h2; exact h2)
    exact h.2 g (by omega) h2 (fun p b1 b2 => by rw [pk_un (by omega)]; exact h3 p b1 b2) p h4 h5
theorem ar_FR_C {n : Nat} {hs st tk st' : Nat → Int32} {f : Nat} (hh : ¬ hs f = 0) (h : ar_FC hs (upd st f 2) st' (f + 1)) : ar_FR n hs st tk st' tk f := by
  refine ⟨fun p h1 h2 => ?_, fun g h1 h2 h3 p h4 h5 => ?_⟩
  · have a1 := ar_FC_1s h h1
    have e : p ≠ f := fun w => by rw [w, pk_us] at a1; exact ar_21 a1
    rw [pk_un e] at a1
    exact ⟨a1, h2, e⟩
  · have e : g ≠ f + 1 := fun w => hh (by rw [w, show f + 1 - 1 = f by omega] at h2; exact h2)
    exact ar_FC_h h (by omega) h2 (fun p b1 b2 => by rw [pk_un (by omega)]; exact h3 p b1 b2) p h4 h5
theorem ar_FR_K {n : Nat} {hs st st1 tk st' tk' : Nat → Int32} {f : Nat} (hK : ar_FK n hs st st1) (h : ar_FR n hs st1 tk st' tk' f) : ar_FR n hs st tk st' tk' f := by
  refine ⟨fun p h1 h2 => ?_, fun g h1 h2 h3 p h4 h5 => ?_⟩
  · obtain ⟨a1, a2, a3⟩ := h.1 p h1 h2
    exact ⟨ar_FK_1 hK a1, a2, a3⟩
  · exact h.2 g h1 h2 (ar_FK_h hK (fun _ => h2) h3) p h4 h5
def ar_RA (S C L F n s qF qN : Nat) (K : Int32) (q : Nat → Nat) (xO xA xB xT yO yA yB yT op A B tg hs hd : Nat → Int32) (d : Nat) : Prop :=
  ∀ (f : Nat) (st tk : Nat → Int32) (m : Nat) (e : Nat → Nat) (mk : Nat → Int32) (wp : Int32) (u : SX) (v : SY), f + d = n → 0 < d → ar_G S C L F n s qF qN K q xO xA xB xT yO yA yB yT op A B tg hs hd st tk m e mk wp u v → st f = 0 → ar_H st hs f →
    ∃ u' v' st' tk' m' e' mk' wp', ar_G S C L F n s qF qN K q xO xA xB xT yO yA yB yT op A B tg hs hd st' tk' m' e' mk' wp' u' v' ∧ ar_FR n hs st tk st' tk' f ∧
      (∀ post : SX → Prop, post u' → ∀ k, d < k → lx_rc post k (nI f) u) ∧ (∀ post : SY → Prop, post v' → ∀ k it res, d < k → it + d < 41 → ly_rc post k 1 res (lN (q f)) (nI it) v)
section
variable {S C L F n s qF qN m : Nat} {K wp : Int32} {q e : Nat → Nat} {xO xA xB xT yO yA yB yT op A B tg hs hd st tk mk : Nat → Int32} {u : SX} {v : SY}
theorem ar_fin (hN : ar_N C L F n s) (r : Int32) {d : Nat} (ih : ar_RA S C L F n s qF qN K q xO xA xB xT yO yA yB yT op A B tg hs hd d) (hG : ar_G S C L F n s qF qN K q xO xA xB xT yO yA yB yT op A B tg hs hd st tk m e mk wp u v) {i : Nat} (hi : i < m) (hf : e i + (d + 1) = n) (hH : ar_H st hs (e i)) :
    ∃ u' v' st' tk' m' e' mk' wp', ar_G S C L F n s qF qN K q xO xA xB xT yO yA yB yT op A B tg hs hd st' tk' m' e' mk' wp' u' v' ∧ ar_FR n hs st tk st' tk' (e i) ∧
      (∀ post : SX → Prop, post u' → ∀ k, d < k → ∀ w : SX, (∀ P : Int32 → SX → Prop, P r u → wpX_execute P w (nI (e i))) → lx_28 post (wX_runChain_2 post k) (nI (e i)) 0 w) ∧
      (∀ post : SY → Prop, post v' → ∀ k it, d < k → it + d < 40 → ly_65 post k r (nI it) (nI i) v) := by
  obtain ⟨u1, v1, hG1, hX1, hY1⟩ := ar_post hN hG hi hH r
  have hE := ar_G_E hG
  have hal := hE.2.1 i hi
  have hCh := ar_G_C hG
  have hQ := ar_G_Q hG
  have hmn := ar_E_le hE
  have hN' := hN
  obtain ⟨hC, hn, hs', hF, hL⟩ := hN'
  by_cases hh : hs (e i) = 0
  · refine ⟨u1, v1, _, _, _, _, _, _, hG1, ar_FR_1, ?_, ?_⟩
    · intro post hp k hk w hw
      obtain ⟨w0, w1, w2, w3, w4, w5, w6, w7, w8, w9, w10, w11, w12, w13, w14, w15, w16, w17, w18, w19, w20, w21, w22, w23⟩ := w
      obtain ⟨c, o, T, R, cT, cR, oT, oR, lo, la, lb, lt, lk, ln, lP, lq, ls, bl, bf, po, rfl, rfl, hM, hZ1, hZ2, hc, hmo, hK, hb1, hb2, hb3⟩ := hG
      obtain ⟨c1, o1, T1, R1, cT1, cR1, oT1, oR1, lo1, la1, lb1, lt1, lk1, ln1, lP1, lq1, ls1, bl1, bf1, po1, rfl, rfl, hM1, hZ11, hZ21, hc1, hmo1, hK1, hb11, hb21, hb31⟩ := hG1
      exact br_t (by decide) (hw _ (hX1 _ ⟨vp_in_nI (by omega) (by omega), br_t (by rw [nI_clamp (by omega)]; exact hh) hp⟩))
    · intro post hp k it hk hit
      obtain ⟨c, o, T, R, cT, cR, oT, oR, lo, la, lb, lt, lk, ln, lP, lq, ls, bl, bf, po, rfl, rfl, hM, hZ1, hZ2, hc, hmo, hK, hb1, hb2, hb3⟩ := hG
      obtain ⟨c1, o1, T1, R1, cT1, cR1, oT1, oR1, lo1, la1, lb1, lt1, lk1, ln1, lP1, lq1, ls1, bl1, bf1, po1, rfl, rfl, hM1, hZ11, hZ21, hc1, hmo1, hK1, hb11, hb21, hb31⟩ := hG1
      have hls : ls (nI i).toNatClampNeg = -1 := by
        rw [nI_clamp (by omega), hM.2.2.2.2.2.2.2.2.1 i hi]
        exact if_pos hh
      exact And.intro (vp_in_nI (by omega) (by omega)) (nm_r hls (hY1 _ (br_f (by decide) hp)))
  · obtain ⟨c1, c2⟩ := hCh (e i) (by omega) hal.2 hh
    have hq1 := hQ.2.2 (e i + 1) (by omega)
    have hqs := hQ.2.1 (e i) (by omega) hal.2 hh
    have hal1 : ¬ upd st (e i) 2 (e i + 1) = 2 := by rw [pk_un (by omega), c2]; exact ar_02
    have hH1 : ar_H (upd st (e i) 2) hs (e i + 1) := fun r hr => Or.inl (by rw [show r = e i by omega]; exact pk_us)
    by_cases hr : 0 ≤ r
    · obtain ⟨u2, v2, st2, tk2, m2, e2, mk2, wp2, hG2, hF2, hX2, hY2⟩ := ih (e i + 1) _ _ _ _ _ _ u1 v1 (by omega) (by omega) hG1 (by rw [pk_un (by omega)]; exact c2) hH1
      refine ⟨u2, v2, st2, tk2, m2, e2, mk2, wp2, hG2, ar_FR_S hh hF2, ?_, ?_⟩
      · intro post hp k hk w hw
        have hX2' := hX2 post hp k (by omega)
        obtain ⟨w0, w1, w2, w3, w4, w5, w6, w7, w8, w9, w10, w11, w12, w13, w14, w15, w16, w17, w18, w19, w20, w21, w22, w23⟩ := w
        obtain ⟨c, o, T, R, cT, cR, oT, oR, lo, la, lb, lt, lk, ln, lP, lq, ls, bl, bf, po, rfl, rfl, hM, hZ1, hZ2, hc, hmo, hK, hb1, hb2, hb3⟩ := hG
        obtain ⟨c1, o1, T1, R1, cT1, cR1, oT1, oR1, lo1, la1, lb1, lt1, lk1, ln1, lP1, lq1, ls1, bl1, bf1, po1, rfl, rfl, hM1, hZ11, hZ21, hc1, hmo1, hK1, hb11, hb21, hb31⟩ := hG1
        exact br_t (by decide) (hw _ (hX1 _ ⟨vp_in_nI (by omega) (by omega), br_f (by rw [nI_clamp (by omega)]; exact hh) (br_t hr (nm_r (nI_1 (e i)) hX2'))⟩))
      · intro post hp k it hk hit
        have hY2' := hY2 post hp k (it + 1) r (by omega) (by omega)
        obtain ⟨c, o, T, R, cT, cR, oT, oR, lo, la, lb, lt, lk, ln, lP, lq, ls, bl, bf, po, rfl, rfl, hM, hZ1, hZ2, hc, hmo, hK, hb1, hb2, hb3⟩ := hG
        obtain ⟨c1, o1, T1, R1, cT1, cR1, oT1, oR1, lo1, la1, lb1, lt1, lk1, ln1, lP1, lq1, ls1, bl1, bf1, po1, rfl, rfl, hM1, hZ11, hZ21, hc1, hmo1, hK1, hb11, hb21, hb31⟩ := hG1
        have hls : ls (nI i).toNatClampNeg = lN (q (e i + 1)) := by
          rw [nI_clamp (by omega), hM.2.2.2.2.2.2.2.2.1 i hi, hqs]
          exact if_neg hh
        exact And.intro (vp_in_nI (by omega) (by omega)) (nm_r hls (hY1 _ (br_t (ar_l0 (by omega)) (br_t hr (nm_r (nI_1 it) hY2')))))
    · obtain ⟨u2, v2, st2, m2, e2, mk2, hG2, hF2, hV2, hX2, hY2⟩ := ar_chain hN (n - (e i + 1)) (e i + 1) _ _ _ _ u1 v1 (by omega) (by omega) hG1 hal1 hH1
      refine ⟨u2, v2, st2, tk, m2, e2, mk2, wp, hG2, ar_FR_C hh hF2, ?_, ?_⟩
      · intro post hp k hk w hw
        obtain ⟨w0, w1, w2, w3, w4, w5, w6, w7, w8, w9, w10, w11, w12, w13, w14, w15, w16, w17, w18, w19, w20, w21, w22, w23⟩ := w
        have hX2' : ∀ P : SX → Prop, P u2 → wpX_postCanceledChain P u1 (nI (e i + 1)) := fun P hP => lx_pcc_w P _ _ u1 (hX2 P hP (n - (e i + 1) + 1) (by omega))
        obtain ⟨c, o, T, R, cT, cR, oT, oR, lo, la, lb, lt, lk, ln, lP, lq, ls, bl, bf, po, rfl, rfl, hM, hZ1, hZ2, hc, hmo, hK, hb1, hb2, hb3⟩ := hG
        obtain ⟨c1, o1, T1, R1, cT1, cR1, oT1, oR1, lo1, la1, lb1, lt1, lk1, ln1, lP1, lq1, ls1, bl1, bf1, po1, rfl, rfl, hM1, hZ11, hZ21, hc1, hmo1, hK1, hb11, hb21, hb31⟩ := hG1
        obtain ⟨c2, o2, T2, R2, cT2, cR2, oT2, oR2, lo2, la2, lb2, lt2, lk2, ln2, lP2, lq2, ls2, bl2, bf2, po2, rfl, rfl, hM2, hZ12, hZ22, hc2, hmo2, hK2, hb12, hb22, hb32⟩ := hG2
        refine br_t (by decide) (hw _ (hX1 _ ⟨vp_in_nI (by omega) (by omega), br_f (by rw [nI_clamp (by omega)]; exact hh) (br_f hr ?_)⟩))
        rw [nI_1 (e i)]
        exact hX2' _ hp
      · intro post hp k it hk hit
        have hY2' : ∀ P : SY → Prop, P v2 → wpY_cancelChainFrom P v1 (lN (q (e i + 1))) := fun P hP => ly_ccf_w P (n - (e i + 1) + 2) _ v1 (hY2 P hP _ 0 (by omega) (by omega))
        obtain ⟨c, o, T, R, cT, cR, oT, oR, lo, la, lb, lt, lk, ln, lP, lq, ls, bl, bf, po, rfl, rfl, hM, hZ1, hZ2, hc, hmo, hK, hb1, hb2, hb3⟩ := hG
        obtain ⟨c1, o1, T1, R1, cT1, cR1, oT1, oR1, lo1, la1, lb1, lt1, lk1, ln1, lP1, lq1, ls1, bl1, bf1, po1, rfl, rfl, hM1, hZ11, hZ21, hc1, hmo1, hK1, hb11, hb21, hb31⟩ := hG1
        obtain ⟨c2, o2, T2, R2, cT2, cR2, oT2, oR2, lo2, la2, lb2, lt2, lk2, ln2, lP2, lq2, ls2, bl2, bf2, po2, rfl, rfl, hM2, hZ12, hZ22, hc2, hmo2, hK2, hb12, hb22, hb32⟩ := hG2
        have hls : ls (nI i).toNatClampNeg = lN (q (e i + 1)) := by
          rw [nI_clamp (by omega), hM.2.2.2.2.2.2.2.2.1 i hi, hqs]
          exact if_neg hh
        exact And.intro (vp_in_nI (by omega) (by omega)) (nm_r hls (hY1 _ (br_t (ar_l0 (by omega)) (br_f hr (hY2' _ hp)))))
theorem ar_start (hN : ar_N C L F n s) (hG : ar_G S C L F n s qF qN K q xO xA xB xT yO yA yB yT op A B tg hs hd st tk m e mk wp u v) {i : Nat} (hi : i < m) (hH : ar_H st hs (e i)) :
    (∃ t u' v', ¬ t ≤ 0 ∧ ¬ t = 0 ∧ ar_G S C L F n s qF qN K q xO xA xB xT yO yA yB yT op A B tg hs hd (upd st (e i) 1) (upd tk (e i) t) m e mk 1 u' v' ∧ (∀ post : Int32 → Prop, post t → wpX_ticksToWait post u (nI (e i))) ∧ (∀ (post : SX → Prop) (k : Nat), post u' → lx_28 post (wX_runChain_2 post k) (nI (e i)) t u) ∧ (∀ post : Int32 → SY → Prop, post 0 v' → wpY_startNow post v (nI i))) ∨
    (∃ r u' v' st' m' e' mk', ar_G S C L F n s qF qN K q xO xA xB xT yO yA yB yT op A B tg hs hd st' tk m' e' mk' 0 u' v' ∧ ar_FK n hs st st' ∧ (∀ post : Int32 → Prop, post 0 → wpX_ticksToWait post u (nI (e i))) ∧ (∀ post : Int32 → SX → Prop, post r u' → wpX_execute post u (nI (e i))) ∧ (∀ post : Int32 → SY → Prop, post r v' → wpY_startNow post v (nI i))) := by
  have hE := ar_G_E hG
  have hmn := ar_E_le hE
  have hb := hE.2.1 i hi
  have hN' := hN
  obtain ⟨hC, hn, hs', hF, hL⟩ := hN'
  obtain ⟨c, o, T, R, cT, cR, oT, oR, lo, la, lb, lt, lk, ln, lP, lq, ls, bl, bf, po, rfl, rfl, hM, hZ1, hZ2, hc, hmo, hK, hb1, hb2, hb3⟩ := hG
  have e1 : lo i = op (e i) := hM.2.1 i hi
  have e2 : la i = A (e i) := hM.2.2.1 i hi
  have e3 : lb i = B (e i) := hM.2.2.2.1 i hi
  have hG0 : ar_G S C L F n s qF qN K q xO xA xB xT yO yA yB yT op A B tg hs hd st tk m e mk 0 (nI S, nI C, nI L, nI qF, nI qN, nI F, nI (c + o), nI c, nI n, xO, xA, xB, xT, T, R, op, A, B, tg, st, tk, hs, bl, bf) (nI S, nI C, nI L, nI qN, nI c, nI o, nI m, lN s, po, 0, yO, yA, yB, yT, cT, cR, oT, oR, lo, la, lb, lt, lk, ln, lP, mk, lq, ls, hd, bl, bf) := ⟨c, o, T, R, cT, cR, oT, oR, lo, la, lb, lt, lk, ln, lP, lq, ls, bl, bf, po, rfl, rfl, hM, hZ1, hZ2, hc, hmo, hK, hb1, hb2, hb3⟩
  by_cases hk : ar_ok (op (e i)) (A (e i)) (B (e i))
  · have hv : ¬ ¬ ar_vd (op (e i)) (A (e i)) (B (e i)) := fun w => w (Or.inl hk)
    have hv' : ¬ ¬ ar_vd (lo i) (la i) (lb i) := by rw [e1, e2, e3]; exact hv
    have n0 : ¬ op (e i) = 0 := fun w => by rcases ar_ok_k hk with y | y | y | y <;> rw [y] at w <;> exact absurd w (by decide)
    have n5 : ¬ op (e i) = 5 := fun w => by rcases ar_ok_k hk with y | y | y | y <;> rw [y] at w <;> exact absurd w (by decide)
    by_cases e4 : op (e i) = 4
    · have h4 := ar_ok_4 hk e4
      refine Or.inl ⟨A (e i), _, _, fun w => ?_, fun w => ?_, ⟨c, o, T, R, cT, cR, oT, oR, lo, la, lb, lt, upd lk i (A (e i)), ln, upd lP i 1, lq, ls, bl, bf, po, rfl, rfl, ar_M_pend hM hi hH (A (e i)) hk, hZ1, hZ2, hc, hmo, hK, hb1, ar_Bu hb2 (Or.inr rfl), hb3⟩, ?_, ?_, ?_⟩
      · exact absurd (Int32.le_trans (Int32.not_lt.mp h4.1) w) (by decide)
      · rw [w] at h4; exact absurd h4.1 (by decide)
      · exact fun post hp => ax_tw post (by omega) (fun w => absurd hk w) (fun _ w => absurd e4 w) (fun _ _ => hp)
      · intro post k hp
        exact br_f (fun w => absurd (Int32.le_trans (Int32.not_lt.mp h4.1) w) (by decide)) ⟨vp_in_nI (by omega) (by omega), nm_r (ar_uc st 1 (by omega)) ⟨vp_in_nI (by omega) (by omega), nm_r (ar_uc tk (A (e i)) (by omega)) hp⟩⟩
      · intro post hp
        refine ay_start post (by omega) (by omega) (fun w => absurd w hv') (fun w => absurd (e1.symm.trans w) n0) (fun _ w => absurd (e1.trans e4) w) (fun _ w => absurd (e1.trans e4) w) (fun _ _ => ?_) (fun w => absurd (e1.symm.trans w) n5)
        rw [e2]; exact hp
    · by_cases hL0 : L = 0
      · obtain ⟨r, u', v', hG', hX', hY'⟩ := ar_dev hN hG0 hi hk
        refine Or.inr ⟨r, u', v', st, m, e, mk, hG', ar_FK_0, ?_, hX', ?_⟩
        · exact fun post hp => ax_tw post (by omega) (fun w => absurd hk w) (fun _ _ => by rw [hL0]; exact hp) (fun _ w => absurd w e4)
        · intro post hp
          exact ay_start post (by omega) (by omega) (fun w => absurd w hv') (fun w => absurd (e1.symm.trans w) n0) (fun _ _ _ => ⟨r, v', hY', hp⟩) (fun _ _ w => absurd hL0 w) (fun _ w => absurd (e1.symm.trans w) e4) (fun w => absurd (e1.symm.trans w) n5)
      · refine Or.inl ⟨nI L, _, _, nI_nle (by omega) (by omega), nI_ne0 (by omega) (by omega), ⟨c, o, T, R, cT, cR, oT, oR, lo, la, lb, lt, upd lk i (nI L), ln, upd lP i 1, lq, ls, bl, bf, po, rfl, rfl, ar_M_pend hM hi hH (nI L) hk, hZ1, hZ2, hc, hmo, hK, hb1, ar_Bu hb2 (Or.inr rfl), hb3⟩, ?_, ?_, ?_⟩
        · exact fun post hp => ax_tw post (by omega) (fun w => absurd hk w) (fun _ _ => hp) (fun _ w => absurd w e4)
        · intro post k hp
          exact br_f (nI_nle (by omega) (by omega)) ⟨vp_in_nI (by omega) (by omega), nm_r (ar_uc st 1 (by omega)) ⟨vp_in_nI (by omega) (by omega), nm_r (ar_uc tk (nI L) (by omega)) hp⟩⟩
        · intro post hp
          exact ay_start post (by omega) (by omega) (fun w => absurd w hv') (fun w => absurd (e1.symm.trans w) n0) (fun _ _ w => absurd w hL0) (fun _ _ _ => hp) (fun _ w => absurd (e1.symm.trans w) e4) (fun w => absurd (e1.symm.trans w) n5)
  · have hk' : ¬ ar_ok (lo i) (la i) (lb i) := by rw [e1, e2, e3]; exact hk
    have htw : ∀ post : Int32 → Prop, post 0 → wpX_ticksToWait post (nI S, nI C, nI L, nI qF, nI qN, nI F, nI (c + o), nI c, nI n, xO, xA, xB, xT, T, R, op, A, B, tg, st, tk, hs, bl, bf) (nI (e i)) := fun post hp => ax_tw post (by omega) (fun _ => hp) (fun w => absurd w hk) (fun w => absurd w hk)
    by_cases e5 : op (e i) = 5
    · have n0 : ¬ op (e i) = 0 := fun w => by rw [e5] at w; exact absurd w (by decide)
      have hv : ¬ ¬ ar_vd (op (e i)) (A (e i)) (B (e i)) := fun w => w (Or.inr (Or.inr e5))
      have hv' : ¬ ¬ ar_vd (lo i) (la i) (lb i) := by rw [e1, e2, e3]; exact hv
      obtain ⟨r, u', v', st', m', e', mk', hG', hF', hX', hY'⟩ := ar_cancel hN (A (e i)) hG0
      refine Or.inr ⟨r, u', v', st', m', e', mk', hG', hF', htw, ?_, ?_⟩
      · exact fun post hp => ax_exec post (by omega) (fun w => absurd w hv) (fun w => absurd w n0) (fun _ w => absurd w hk) (fun _ w => absurd w hk) (fun _ w => absurd w hk) (fun _ w => absurd w hk) (fun _ => ⟨r, u', hX', hp⟩)
      · intro post hp
        refine ay_start post (by omega) (by omega) (fun w => absurd w hv') (fun w => absurd (e1.symm.trans w) n0) (fun w => absurd w hk') (fun w => absurd w hk') (fun w => absurd w hk') (fun _ => ⟨r, v', ?_, hp⟩)
        rw [e2]; exact hY'
    · by_cases e0 : op (e i) = 0
      · have hv : ¬ ¬ ar_vd (op (e i)) (A (e i)) (B (e i)) := fun w => w (Or.inr (Or.inl e0))
        have hv' : ¬ ¬ ar_vd (lo i) (la i) (lb i) := by rw [e1, e2, e3]; exact hv
        exact Or.inr ⟨0, _, _, st, m, e, mk, hG0, ar_FK_0, htw,
          fun post hp => ax_exec post (by omega) (fun w => absurd w hv) (fun _ => hp) (fun _ w => absurd w hk) (fun _ w => absurd w hk) (fun _ w => absurd w hk) (fun _ w => absurd w hk) (fun w => absurd w e5),
          fun post hp => ay_start post (by omega) (by omega) (fun w => absurd w hv') (fun _ => hp) (fun w => absurd w hk') (fun w => absurd w hk') (fun w => absurd w hk') (fun w => absurd (e1.symm.trans w) e5)⟩
      · exact Or.inr ⟨-22, _, _, st, m, e, mk, hG0, ar_FK_0, htw,
          fun post hp => ax_exec post (by omega) (fun _ => hp) (fun w => absurd w e0) (fun _ w => absurd w hk) (fun _ w => absurd w hk) (fun _ w => absurd w hk) (fun _ w => absurd w hk) (fun w => absurd w e5),
          fun post hp => ay_start post (by omega) (by omega) (fun _ => hp) (fun w => absurd (e1.symm.trans w) e0) (fun w => absurd w hk') (fun w => absurd w hk') (fun w => absurd w hk') (fun w => absurd (e1.symm.trans w) e5)⟩
theorem ar_run (hN : ar_N C L F n s) : ∀ d, ar_RA S C L F n s qF qN K q xO xA xB xT yO yA yB yT op A B tg hs hd d := by
  intro d
  induction d with
  | zero => intro f st tk m e mk wp u v _ h0; exact absurd h0 (by omega)
  | succ d ih =>
    intro f st tk m e mk wp u v hf _ hG h0 hH
    have hE := ar_G_E hG
    have hmn := ar_E_le hE
    have hN' := hN
    obtain ⟨hC, hn, hs', hF, hL⟩ := hN'
    obtain ⟨i, hi, rfl⟩ := hE.2.2 f (by omega) (by rw [h0]; exact ar_02)
    have hq := (ar_G_Q hG).2.2 (e i) (by omega)
    have hfd := fun post => ar_G_find hN hG hi post
    have hCh := ar_G_C hG
    rcases ar_start hN hG hi hH with ⟨t, u1, v1, ht1, ht2, hG1, hX0, hX1, hY1⟩ | ⟨r, u1, v1, st1, m1, e1, mk1, hG1, hF1, hX0, hX1, hY1⟩
    · refine ⟨u1, v1, _, _, _, _, _, _, hG1, ar_FR_W ht2, ?_, ?_⟩
      · intro post hp k hk
        obtain ⟨k', rfl⟩ : ∃ k', k = k' + 1 := ⟨k - 1, by omega⟩
        have hX1' := hX1 post k' hp
        obtain ⟨c, o, T, R, cT, cR, oT, oR, lo, la, lb, lt, lk, ln, lP, lq, ls, bl, bf, po, rfl, rfl, hM, hZ1, hZ2, hc, hmo, hK, hb1, hb2, hb3⟩ := hG
        exact br_f (nI_ge (by omega) (by omega)) ⟨vp_in_nI (by omega) (by omega), br_t (by rw [nI_clamp (by omega)]; exact h0) (hX0 _ hX1')⟩
      · intro post hp k it res hk hit
        obtain ⟨k', rfl⟩ : ∃ k', k = k' + 1 := ⟨k - 1, by omega⟩
        obtain ⟨c, o, T, R, cT, cR, oT, oR, lo, la, lb, lt, lk, ln, lP, lq, ls, bl, bf, po, rfl, rfl, hM, hZ1, hZ2, hc, hmo, hK, hb1, hb2, hb3⟩ := hG
        obtain ⟨c1, o1, T1, R1, cT1, cR1, oT1, oR1, lo1, la1, lb1, lt1, lk1, ln1, lP1, lq1, ls1, bl1, bf1, po1, rfl, rfl, hM1, hZ11, hZ21, hc1, hmo1, hK1, hb11, hb21, hb31⟩ := hG1
        exact br_f (nI_ge (b := 40) (by omega) (by decide)) (hfd _ (br_t (nI_pos' (by omega)) (br_f (by decide) (hY1 _ (br_f (by decide) hp)))))
    · have h01 := ar_FK_c hCh hF1 h0 hH
      have hH1 := ar_FK_H hF1 hH
      have hE1 := ar_G_E hG1
      have hmn1 := ar_E_le hE1
      obtain ⟨i1, hi1, hei⟩ := hE1.2.2 (e i) (by omega) (by rw [h01]; exact ar_02)
      have hfd1 := fun post => ar_G_find hN hG1 hi1 post
      rw [hei] at hfd1
      obtain ⟨u2, v2, st2, tk2, m2, e2, mk2, wp2, hG2, hF2, hX2, hY2⟩ := ar_fin hN r ih hG1 hi1 (by rw [hei]; exact hf) (by rw [hei]; exact hH1)
      rw [hei] at hF2 hX2
      refine ⟨u2, v2, st2, tk2, m2, e2, mk2, wp2, hG2, ar_FR_K hF1 hF2, ?_, ?_⟩
      · intro post hp k hk
        obtain ⟨k', rfl⟩ : ∃ k', k = k' + 1 := ⟨k - 1, by omega⟩
        have hX2' := hX2 post hp k' (by omega) u hX1
        obtain ⟨c, o, T, R, cT, cR, oT, oR, lo, la, lb, lt, lk, ln, lP, lq, ls, bl, bf, po, rfl, rfl, hM, hZ1, hZ2, hc, hmo, hK, hb1, hb2, hb3⟩ := hG
        exact br_f (nI_ge (by omega) (by omega)) ⟨vp_in_nI (by omega) (by omega), br_t (by rw [nI_clamp (by omega)]; exact h0) (hX0 _ hX2')⟩
      · intro post hp k it res hk hit
        obtain ⟨k', rfl⟩ : ∃ k', k = k' + 1 := ⟨k - 1, by omega⟩
        have hY2' := hY2 post hp k' it (by omega) (by omega)
        obtain ⟨c, o, T, R, cT, cR, oT, oR, lo, la, lb, lt, lk, ln, lP, lq, ls, bl, bf, po, rfl, rfl, hM, hZ1, hZ2, hc, hmo, hK, hb1, hb2, hb3⟩ := hG
        obtain ⟨c1, o1, T1, R1, cT1, cR1, oT1, oR1, lo1, la1, lb1, lt1, lk1, ln1, lP1, lq1, ls1, bl1, bf1, po1, rfl, rfl, hM1, hZ11, hZ21, hc1, hmo1, hK1, hb11, hb21, hb31⟩ := hG1
        exact br_f (nI_ge (b := 40) (by omega) (by decide)) (hfd _ (br_t (nI_pos' (by omega)) (br_f (by decide) (hY1 _ (br_t rfl (hfd1 _ (br_t (nI_pos' (by omega)) hY2')))))))
end
end
section
/-- counted down below j -/
def ar_cd (P : Nat → Bool) (tk : Nat → Int32) (j : Nat) : Nat → Int32 := fun p => if p < j ∧ P p = true then tk p - 1 else tk p
theorem ar_cd_0 {P : Nat → Bool} {tk : Nat → Int32} : ar_cd P tk 0 = tk := by
  funext p
  exact if_neg (by omega)
theorem ar_cd_1 {P : Nat → Bool} {tk : Nat → Int32} {j : Nat} (h : P j = true) (hj : j < 2 ^ 31) : upd (ar_cd P tk j) (nI j).toNatClampNeg (ar_cd P tk j (nI j).toNatClampNeg - 1) = ar_cd P tk (j + 1) := by
  rw [nI_clamp hj]
  funext p
  by_cases e : p = j
  · subst e
    rw [pk_us]
    unfold ar_cd
    rw [if_neg (by omega), if_pos ⟨by omega, h⟩]
  · rw [pk_un e]
    unfold ar_cd
    by_cases z : p < j ∧ P p = true
    · rw [if_pos z, if_pos ⟨by omega, z.2⟩]
    · rw [if_neg z, if_neg (fun w => z ⟨by omega, w.2⟩)]
theorem ar_cd_n {P : Nat → Bool} {tk : Nat → Int32} {j : Nat} (h : P j = false) : ar_cd P tk (j + 1) = ar_cd P tk j := by
  funext p
  unfold ar_cd
  by_cases z : p < j ∧ P p = true
  · rw [if_pos z, if_pos ⟨by omega, z.2⟩]
  · rw [if_neg z, if_neg (fun w => z ⟨?_, w.2⟩)]
    by_cases e : p = j
    · rw [e, h] at w; exact absurd w.2 (by decide)
    · omega
section
variable {S C L F n s qF qN c o m : Nat} {K po wp : Int32} {xO xA xB xT yO yA yB yT op A B tg hs hd T R st tk bl bf cT cR oT oR lo la lb lt lk ln lP mk : Nat → Int32} {lq ls : Nat → Int64}
theorem ay_fl80 (post : SY → Prop) {J} {it O : Nat} (hO : O ≤ 32)
    (hJ : J (nI (it + 1)) (nI c) (nI (O - 1)) yO yA yB yT cT cR (ar_sh oT 0 O) (ar_sh oR 0 O) lo la lb lt lk ln lP mk lq ls hd bl bf) : ∀ d j, j + d + 1 = O → wY_flush_80 post J (nI it) (nI S) (nI C) (nI L) (nI qN) (nI c) (nI O) (nI m) (lN s) po wp (d + 1) (nI j) yO yA yB yT cT cR (ar_sh oT 0 (j + 1)) (ar_sh oR 0 (j + 1)) lo la lb lt lk ln lP mk lq ls hd bl bf := by
  intro d
  induction d with
  | zero =>
    intro j hj
    have e : O = j + 1 := by omega
    subst e
    refine br_t ?_ (nm_r (nI_pred j) (nm_r (nI_1 it) hJ))
    rw [nI_pred]; exact nI_le (Nat.le_refl _) (by omega)
  | succ d ih =>
    intro j hj
    have a1 : ¬ nI O - 1 ≤ nI j := by
      rw [show O = (j + d + 1) + 1 by omega, nI_pred]; exact nI_ge (by omega) (by omega)
    have i1 : vp_in (nI j + 1) 32 := by rw [nI_1]; exact vp_in_nI (by omega) (by omega)
    have i0 : vp_in (nI j) 32 := vp_in_nI (by omega) (by omega)
    exact br_f a1 (br_f (nI_ge (b := 31) (by omega) (by decide)) ⟨i1, i0, nm_r (ar_st1 oT (by omega) (by omega)) ⟨i1, i0, nm_r (ar_st1 oR (by omega) (by omega)) (nm_r (nI_1 j) (ih (j + 1) (by omega)))⟩⟩)
theorem ay_flush (hC : C ≤ 16) : ∀ (o c it : Nat) (cT cR oT oR : Nat → Int32), o ≤ 32 → c ≤ C → it + o < 40 → ar_Z F c o T cT oT → ar_Z F c o R cR oR →
    ∃ c' o' cT' cR' oT' oR', c' + o' = c + o ∧ c' ≤ C ∧ (o' = 0 ∨ c' = C) ∧ ar_Z F c' o' T cT' oT' ∧ ar_Z F c' o' R cR' oR' ∧
      (∀ post : SY → Prop, post (nI S, nI C, nI L, nI qN, nI c', nI o', nI m, lN s, po, wp, yO, yA, yB, yT, cT', cR', oT', oR', lo, la, lb, lt, lk, ln, lP, mk, lq, ls, hd, bl, bf) → ∀ k, o < k → wY_flush_2 post (nI S) (nI C) (nI L) (nI qN) (nI m) (lN s) po wp k (nI it) (nI c) (nI o) yO yA yB yT cT cR oT oR lo la lb lt lk ln lP mk lq ls hd bl bf) := by
  intro o
  induction o with
  | zero =>
    intro c it cT cR oT oR ho hc hit h1 h2
    refine ⟨c, 0, cT, cR, oT, oR, rfl, hc, Or.inl rfl, h1, h2, fun post hp k hk => ?_⟩
    obtain ⟨k', rfl⟩ : ∃ k', k = k' + 1 := ⟨k - 1, by omega⟩
    exact br_f (nI_ge (b := 40) (by omega) (by decide)) (br_t rfl hp)
  | succ o ih =>
    intro c it cT cR oT oR ho hc hit h1 h2
    by_cases hcC : C ≤ c
    · refine ⟨c, o + 1, cT, cR, oT, oR, rfl, hc, Or.inr (by omega), h1, h2, fun post hp k hk => ?_⟩
      obtain ⟨k', rfl⟩ : ∃ k', k = k' + 1 := ⟨k - 1, by omega⟩
      exact br_f (nI_ge (b := 40) (by omega) (by decide)) (br_f (nI_ne0 (by omega) (by omega)) (br_t (nI_le hcC (by omega)) hp))
    · obtain ⟨c', o', cT', cR', oT', oR', a1, a2, a3, a4, a5, a6⟩ := ih (c + 1) (it + 1) _ _ _ _ (by omega) (by omega) (by omega) (ar_Z_mv h1) (ar_Z_mv h2)
      refine ⟨c', o', cT', cR', oT', oR', by omega, a2, a3, a4, a5, fun post hp k hk => ?_⟩
      obtain ⟨k', rfl⟩ : ∃ k', k = k' + 1 := ⟨k - 1, by omega⟩
      have h := ay_fl80 (S := S) (C := C) (L := L) (s := s) (qN := qN) (m := m) (po := po) (wp := wp) (c := c + 1) (oT := oT) (oR := oR) post (it := it) (O := o + 1) (by omega) (a6 post hp k' (by omega)) o 0 (by omega)
      rw [ar_sh0, ar_sh0] at h
      exact br_f (nI_ge (b := 40) (by omega) (by decide)) (br_f (nI_ne0 (by omega) (by omega)) (br_f (nI_ge (by omega) (by omega)) (br_t (nI_lt (b := 16) (by omega) (by decide)) ⟨vp_in_nI (by omega) (by omega), nm_r (ar_uc cT _ (by omega)) ⟨vp_in_nI (by omega) (by omega), nm_r (ar_uc cR _ (by omega)) (nm_r (nI_1 c) ⟨_, h⟩)⟩⟩)))
theorem ax_cd (post : SX → Prop) (hn : n ≤ 32) (hp : post (nI S, nI C, nI L, nI qF, nI qN, nI F, nI (c + o), nI c, nI n, xO, xA, xB, xT, T, R, op, A, B, tg, st, ar_cd (fun p => decide (st p = 1)) tk n, hs, bl, bf)) : ∀ d j, j + d = n → wX_countDown_2 post (nI S) (nI C) (nI L) (nI qF) (nI qN) (nI F) (nI (c + o)) (nI c) (nI n) (d + 1) (nI j) xO xA xB xT T R op A B tg st (ar_cd (fun p => decide (st p = 1)) tk j) hs bl bf := by
  intro d
  induction d with
  | zero =>
    intro j hj
    have e : j = n := by omega
    subst e
    exact br_t (nI_le (Nat.le_refl _) (by omega)) hp
  | succ d ih =>
    intro j hj
    have i0 : vp_in (nI j) 32 := vp_in_nI (by omega) (by omega)
    refine br_f (nI_ge (by omega) (by omega)) ⟨i0, ?_⟩
    by_cases z : st j = 1
    · exact br_t (by rw [nI_clamp (by omega)]; exact z) ⟨i0, i0, nm_r (ar_cd_1 (decide_eq_true z) (by omega)) (nm_r (nI_1 j) (ih (j + 1) (by omega)))⟩
    · have h := ih (j + 1) (by omega)
      rw [ar_cd_n (decide_eq_false z)] at h
      exact br_f (by rw [nI_clamp (by omega)]; exact z) (nm_r (nI_1 j) h)
theorem ay_cd (post : Int32 → SY → Prop) (hm : m ≤ 32) (hp : ∃ k, wY_tick_52 post po k 0 (nI S) (nI C) (nI L) (nI qN) (nI c) (nI o) (nI m) (lN s) po wp yO yA yB yT cT cR oT oR lo la lb lt (ar_cd (fun p => decide (¬ lP p = 0)) lk m) ln lP mk lq ls hd bl bf) : ∀ d j, j + d = m → wY_tick_6 post (nI S) (nI C) (nI L) (nI qN) (nI c) (nI o) (nI m) (lN s) po wp (d + 1) (nI j) yO yA yB yT cT cR oT oR lo la lb lt (ar_cd (fun p => decide (¬ lP p = 0)) lk j) ln lP mk lq ls hd bl bf := by
  intro d
  induction d with
  | zero =>
    intro j hj
    have e : j = m := by omega
    subst e
    exact br_t (nI_le (Nat.le_refl _) (by omega)) hp
  | succ d ih =>
    intro j hj
    have i0 : vp_in (nI j) 32 := vp_in_nI (by omega) (by omega)
    refine br_f (nI_ge (by omega) (by omega)) (br_f (nI_ge (b := 32) (by omega) (by decide)) ⟨i0, ?_⟩)
    by_cases z : lP j = 0
    · have h := ih (j + 1) (by omega)
      rw [ar_cd_n (decide_eq_false (fun w => w z))] at h
      exact br_t (by rw [nI_clamp (by omega)]; exact z) (nm_r (nI_1 j) h)
    · exact br_f (by rw [nI_clamp (by omega)]; exact z) ⟨i0, i0, nm_r (ar_cd_1 (decide_eq_true z) (by omega)) (nm_r (nI_1 j) (ih (j + 1) (by omega)))⟩
/-- dropPosted: k places are filled, those from a on are as they were -/
def ar_D (e : Nat → Nat) (a k : Nat) (g g' : Nat → Int32) : Prop := (∀ j, j < k → g' j = g (e j)) ∧ (∀ p, a ≤ p → g' p = g p)
theorem ar_D_0 {e : Nat → Nat} {g : Nat → Int32} : ar_D e 0 0 g g := ⟨fun j h => absurd h (by omega), fun _ _ => rfl⟩
theorem ar_D_d {e : Nat → Nat} {a k : Nat} {g g' : Nat → Int32} (h : ar_D e a k g g') : ar_D e (a + 1) k g g' := ⟨h.1, fun p hp => h.2 p (by omega)⟩
theorem ar_D_a {e : Nat → Nat} {a k : Nat} {g g' : Nat → Int32} (h : ar_D e a k g g') (hk : k ≤ a) (he : e k = a) : ar_D e (a + 1) (k + 1) g (upd g' k (g' a)) := by
  refine ⟨fun j hj => ?_, fun p hp => ?_⟩
  · by_cases z : j = k
    · rw [z, pk_us, he]; exact h.2 a (Nat.le_refl _)
    · rw [pk_un z]; exact h.1 j (by omega)
  · rw [pk_un (by omega)]; exact h.2 p (by omega)
theorem ax_drop (post : SX → Prop) (hn : n ≤ 32) {e : Nat → Nat} (hE : ar_E n m st e)
    (hp : ∀ op' A' B' tg' st' tk' hs' : Nat → Int32, (∀ j, j < m → op' j = op (e j)) → (∀ j, j < m → A' j = A (e j)) → (∀ j, j < m → B' j = B (e j)) → (∀ j, j < m → tg' j = tg (e j)) → (∀ j, j < m → st' j = st (e j)) → (∀ j, j < m → tk' j = tk (e j)) → (∀ j, j < m → hs' j = hs (e j)) → ar_B hs' → post (nI S, nI C, nI L, nI qF, nI qN, nI F, nI (c + o), nI c, nI m, xO, xA, xB, xT, T, R, op', A', B', tg', st', tk', hs', bl, bf)) :
    ∀ d a k (op' A' B' tg' st' tk' hs' : Nat → Int32), a + d = n → ar_cut e m a k → ar_D e a k op op' → ar_D e a k A A' → ar_D e a k B B' → ar_D e a k tg tg' → ar_D e a k st st' → ar_D e a k tk tk' → ar_D e a k hs hs' → ar_B hs' → wX_dropPosted_4 post (d + 1) (nI k) (nI a) (nI S) (nI C) (nI L) (nI qF) (nI qN) (nI F) (nI (c + o)) (nI c) (nI n) xO xA xB xT T R op' A' B' tg' st' tk' hs' bl bf := by
  intro d
  induction d with
  | zero =>
    intro a k op' A' B' tg' st' tk' hs' ha hc d1 d2 d3 d4 d5 d6 d7 hb
    have e1 : a = n := by omega
    subst e1
    have e2 := ar_cut_n hE hc
    subst e2
    exact br_t (nI_le (Nat.le_refl _) (by omega)) (hp op' A' B' tg' st' tk' hs' d1.1 d2.1 d3.1 d4.1 d5.1 d6.1 d7.1 hb)
  | succ d ih =>
    intro a k op' A' B' tg' st' tk' hs' ha hc d1 d2 d3 d4 d5 d6 d7 hb
    have hka := ar_cut_le hE hc
    have hsa : st' a = st a := d5.2 a (Nat.le_refl _)
    have i0 : vp_in (nI a) 32 := vp_in_nI (by omega) (by omega)
    have i1 : vp_in (nI k) 32 := vp_in_nI (by omega) (by omega)
    refine br_f (nI_ge (by omega) (by omega)) ⟨i0, ?_⟩
    by_cases z : st a = 2
    · exact br_t (by rw [nI_clamp (by omega), hsa]; exact z) (nm_r (nI_1 a) (ih (a + 1) k op' A' B' tg' st' tk' hs' (by omega) (ar_cut_d hE hc z) (ar_D_d d1) (ar_D_d d2) (ar_D_d d3) (ar_D_d d4) (ar_D_d d5) (ar_D_d d6) (ar_D_d d7) hb))
    · obtain ⟨h1, h2, h3⟩ := ar_cut_a hE hc (by omega) z
      refine br_f (by rw [nI_clamp (by omega), hsa]; exact z) (And.intro i0 ⟨i1, nm_r (ar_ur op' op' (by omega) (by omega)) ⟨i0, i1, nm_r (ar_ur A' A' (by omega) (by omega)) ⟨i0, i1, nm_r (ar_ur B' B' (by omega) (by omega)) ⟨i0, i1, nm_r (ar_ur tg' tg' (by omega) (by omega)) ⟨i0, i1, nm_r (ar_ur st' st' (by omega) (by omega)) ⟨i0, i1, nm_r (ar_ur tk' tk' (by omega) (by omega)) ⟨i0, i1, nm_r (ar_urb hs' hs' (by omega) (by omega) hb) (nm_r (nI_1 k) (nm_r (nI_1 a) ?_))⟩⟩⟩⟩⟩⟩⟩)
      exact ih (a + 1) (k + 1) _ _ _ _ _ _ _ (by omega) h3 (ar_D_a d1 hka h2) (ar_D_a d2 hka h2) (ar_D_a d3 hka h2) (ar_D_a d4 hka h2) (ar_D_a d5 hka h2) (ar_D_a d6 hka h2) (ar_D_a d7 hka h2) (ar_Bu hb (hb a))
theorem ax_dropPosted (post : SX → Prop) (hn : n ≤ 32) {e : Nat → Nat} (hE : ar_E n m st e) (hb : ar_B hs)
    (hp : ∀ op' A' B' tg' st' tk' hs' : Nat → Int32, (∀ j, j < m → op' j = op (e j)) → (∀ j, j < m → A' j = A (e j)) → (∀ j, j < m → B' j = B (e j)) → (∀ j, j < m → tg' j = tg (e j)) → (∀ j, j < m → st' j = st (e j)) → (∀ j, j < m → tk' j = tk (e j)) → (∀ j, j < m → hs' j = hs (e j)) → ar_B hs' → post (nI S, nI C, nI L, nI qF, nI qN, nI F, nI (c + o), nI c, nI m, xO, xA, xB, xT, T, R, op', A', B', tg', st', tk', hs', bl, bf)) : wpX_dropPosted post (nI S, nI C, nI L, nI qF, nI qN, nI F, nI (c + o), nI c, nI n, xO, xA, xB, xT, T, R, op, A, B, tg, st, tk, hs, bl, bf) :=
  ⟨_, ax_drop post hn hE hp n 0 0 op A B tg st tk hs (by omega) ar_cut0 ar_D_0 ar_D_0 ar_D_0 ar_D_0 ar_D_0 ar_D_0 ar_D_0 hb⟩
end
end
section
def lx_tk (post : Int32 → SX → Prop) (a : Int32) (k : Nat) (x : Int32) (u : SX) : Prop := match u with
  | (f_sqCapacity, f_cqCapacity, f_latency, f_sqFirst, f_sqCount, f_doneFirst, f_doneCount, f_cqCount, f_reqCount, a_sqOpFlags, a_sqA, a_sqB, a_sqTag, a_doneTag, a_doneResult, a_reqOpcode, a_reqA, a_reqB, a_reqTag, a_reqState, a_reqTicks, a_reqHasSuccessor, a_blocks, a_buffers) => wX_tick_15 post a k x f_sqCapacity f_cqCapacity f_latency f_sqFirst f_sqCount f_doneFirst f_doneCount f_cqCount f_reqCount a_sqOpFlags a_sqA a_sqB a_sqTag a_doneTag a_doneResult a_reqOpcode a_reqA a_reqB a_reqTag a_reqState a_reqTicks a_reqHasSuccessor a_blocks a_buffers
def lx_te (post : Int32 → SX → Prop) (a : Int32) (u : SX) : Prop := match u with
  | (f_sqCapacity, f_cqCapacity, f_latency, f_sqFirst, f_sqCount, f_doneFirst, f_doneCount, f_cqCount, f_reqCount, a_sqOpFlags, a_sqA, a_sqB, a_sqTag, a_doneTag, a_doneResult, a_reqOpcode, a_reqA, a_reqB, a_reqTag, a_reqState, a_reqTicks, a_reqHasSuccessor, a_blocks, a_buffers) => wpX_dropPosted (fun u => match u with | (f_sqCapacity, f_cqCapacity, f_latency, f_sqFirst, f_sqCount, f_doneFirst, f_doneCount, f_cqCount, f_reqCount, a_sqOpFlags, a_sqA, a_sqB, a_sqTag, a_doneTag, a_doneResult, a_reqOpcode, a_reqA, a_reqB, a_reqTag, a_reqState, a_reqTicks, a_reqHasSuccessor, a_blocks, a_buffers) => post (a - f_reqCount) (f_sqCapacity, f_cqCapacity, f_latency, f_sqFirst, f_sqCount, f_doneFirst, f_doneCount, f_cqCount, f_reqCount, a_sqOpFlags, a_sqA, a_sqB, a_sqTag, a_doneTag, a_doneResult, a_reqOpcode, a_reqA, a_reqB, a_reqTag, a_reqState, a_reqTicks, a_reqHasSuccessor, a_blocks, a_buffers)) (f_sqCapacity, f_cqCapacity, f_latency, f_sqFirst, f_sqCount, f_doneFirst, f_doneCount, f_cqCount, f_reqCount, a_sqOpFlags, a_sqA, a_sqB, a_sqTag, a_doneTag, a_doneResult, a_reqOpcode, a_reqA, a_reqB, a_reqTag, a_reqState, a_reqTicks, a_reqHasSuccessor, a_blocks, a_buffers)
def ly_tk (post : Int32 → SY → Prop) (a : Int32) (k : Nat) (x : Int32) (v : SY) : Prop := match v with
  | (f_S, f_C, f_L, f_sqN, f_cqN, f_ovN, f_liveN, f_nextSeq, f_posts, f_wentPending, a_sqOp, a_sqA, a_sqB, a_sqTg, a_cqT, a_cqR, a_ovT, a_ovR, a_lOp, a_lA, a_lB, a_lTag, a_lTicks, a_lLink, a_lPend, a_lMark, a_lSeq, a_lSucc, a_head, a_block, a_buffer) => wY_tick_52 post a k x f_S f_C f_L f_sqN f_cqN f_ovN f_liveN f_nextSeq f_posts f_wentPending a_sqOp a_sqA a_sqB a_sqTg a_cqT a_cqR a_ovT a_ovR a_lOp a_lA a_lB a_lTag a_lTicks a_lLink a_lPend a_lMark a_lSeq a_lSucc a_head a_block a_buffer
def ly_te (post : Int32 → SY → Prop) (a : Int32) (v : SY) : Prop := match v with
  | (f_S, f_C, f_L, f_sqN, f_cqN, f_ovN, f_liveN, f_nextSeq, f_posts, f_wentPending, a_sqOp, a_sqA, a_sqB, a_sqTg, a_cqT, a_cqR, a_ovT, a_ovR, a_lOp, a_lA, a_lB, a_lTag, a_lTicks, a_lLink, a_lPend, a_lMark, a_lSeq, a_lSucc, a_head, a_block, a_buffer) => post (f_posts - a) (f_S, f_C, f_L, f_sqN, f_cqN, f_ovN, f_liveN, f_nextSeq, f_posts, f_wentPending, a_sqOp, a_sqA, a_sqB, a_sqTg, a_cqT, a_cqR, a_ovT, a_ovR, a_lOp, a_lA, a_lB, a_lTag, a_lTicks, a_lLink, a_lPend, a_lMark, a_lSeq, a_lSucc, a_head, a_block, a_buffer)
section
variable {S C L F n s qF qN c o m : Nat} {K po wp : Int32} {xO xA xB xT yO yA yB yT op A B tg hs hd T R st tk bl bf cT cR oT oR lo la lb lt lk ln lP mk : Nat → Int32} {lq ls : Nat → Int64}
theorem ay_tf (post : Int32 → SY → Prop) {J} {X1 X2 : Int32} {i : Nat} (hm : m ≤ 32) (hi : i < 32) (hp : wY_tick_112 post J X1 X2 (nI i) (nI S) (nI C) (nI L) (nI qN) (nI c) (nI o) (nI m) (lN s) po wp yO yA yB yT cT cR oT oR lo la lb lt lk ln lP mk lq ls hd bl bf) : ∀ d j, j + d = m → ∀ k, d < k → wY_tick_63 post J X1 X2 (nI S) (nI C) (nI L) (nI qN) (nI c) (nI o) (nI m) (lN s) po wp yO yA yB yT cT cR oT oR lo la lb lt lk ln lP mk lq ls hd bl bf k (nI i) (nI j) := by
  intro d
  induction d with
  | zero =>
    intro j hj k hk
    obtain ⟨k', rfl⟩ : ∃ k', k = k' + 1 := ⟨k - 1, by omega⟩
    exact br_t (nI_le (by omega) (by omega)) hp
  | succ d ih =>
    intro j hj k hk
    obtain ⟨k', rfl⟩ : ∃ k', k = k' + 1 := ⟨k - 1, by omega⟩
    exact br_f (nI_ge (by omega) (by omega)) (br_f (nI_ge (b := 32) (by omega) (by decide)) (br_t (nI_pos' (by omega)) (nm_r (nI_1 j) (ih (j + 1) (by omega) k' (by omega)))))
theorem ay_tn (post : Int32 → SY → Prop) {J} {X1 X2 : Int32} (hm : m ≤ 32) (h0 : ∀ j, j < m → lP j = 0 ∨ ¬ lk j = 0) (hp : wY_tick_112 post J X1 X2 (-1) (nI S) (nI C) (nI L) (nI qN) (nI c) (nI o) (nI m) (lN s) po wp yO yA yB yT cT cR oT oR lo la lb lt lk ln lP mk lq ls hd bl bf) : ∀ d j, j + d = m → wY_tick_63 post J X1 X2 (nI S) (nI C) (nI L) (nI qN) (nI c) (nI o) (nI m) (lN s) po wp yO yA yB yT cT cR oT oR lo la lb lt lk ln lP mk lq ls hd bl bf (d + 1) (-1) (nI j) := by
  intro d
  induction d with
  | zero =>
    intro j hj
    exact br_t (nI_le (by omega) (by omega)) hp
  | succ d ih =>
    intro j hj
    have i0 : vp_in (nI j) 32 := vp_in_nI (by omega) (by omega)
    refine br_f (nI_ge (by omega) (by omega)) (br_f (nI_ge (b := 32) (by omega) (by decide)) (br_f (by decide) ⟨i0, ?_⟩))
    by_cases z : lP j = 0
    · exact br_t (by rw [nI_clamp (by omega)]; exact z) (nm_r (nI_1 j) (ih (j + 1) (by omega)))
    · rcases h0 j (by omega) with y | y
      · exact absurd y z
      · exact br_f (by rw [nI_clamp (by omega)]; exact z) ⟨i0, br_f (by rw [nI_clamp (by omega)]; exact y) (nm_r (nI_1 j) (ih (j + 1) (by omega)))⟩
theorem ay_ts (post : Int32 → SY → Prop) {J} {X1 X2 : Int32} {i : Nat} (hm : m ≤ 32) (hi : i < m) (h1 : ¬ lP i = 0) (h2 : lk i = 0) (h0 : ∀ j, j < i → lP j = 0 ∨ ¬ lk j = 0) (hp : wY_tick_112 post J X1 X2 (nI i) (nI S) (nI C) (nI L) (nI qN) (nI c) (nI o) (nI m) (lN s) po wp yO yA yB yT cT cR oT oR lo la lb lt lk ln lP mk lq ls hd bl bf) : ∀ d j, j + d = i → ∀ k, m - j < k → wY_tick_63 post J X1 X2 (nI S) (nI C) (nI L) (nI qN) (nI c) (nI o) (nI m) (lN s) po wp yO yA yB yT cT cR oT oR lo la lb lt lk ln lP mk lq ls hd bl bf k (-1) (nI j) := by
  intro d
  induction d with
  | zero =>
    intro j hj k hk
    obtain ⟨k', rfl⟩ : ∃ k', k = k' + 1 := ⟨k - 1, by omega⟩
    have e : j = i := by omega
    subst e
    have i0 : vp_in (nI j) 32 := vp_in_nI (by omega) (by omega)
    exact br_f (nI_ge (by omega) (by omega)) (br_f (nI_ge (b := 32) (by omega) (by decide)) (br_f (by decide) ⟨i0, br_f (by rw [nI_clamp (by omega)]; exact h1) ⟨i0, br_t (by rw [nI_clamp (by omega)]; exact h2) (nm_r (nI_1 j) (ay_tf post hm (by omega) hp (m - (j + 1)) (j + 1) (by omega) k' (by omega)))⟩⟩))
  | succ d ih =>
    intro j hj k hk
    obtain ⟨k', rfl⟩ : ∃ k', k = k' + 1 := ⟨k - 1, by omega⟩
    have i0 : vp_in (nI j) 32 := vp_in_nI (by omega) (by omega)
    have hx := ih (j + 1) (by omega) k' (by omega)
    refine br_f (nI_ge (by omega) (by omega)) (br_f (nI_ge (b := 32) (by omega) (by decide)) (br_f (by decide) ⟨i0, ?_⟩))
    by_cases z : lP j = 0
    · exact br_t (by rw [nI_clamp (by omega)]; exact z) (nm_r (nI_1 j) hx)
    · rcases h0 j (by omega) with y | y
      · exact absurd y z
      · exact br_f (by rw [nI_clamp (by omega)]; exact z) ⟨i0, br_f (by rw [nI_clamp (by omega)]; exact y) (nm_r (nI_1 j) hx)⟩
end
section
variable {S C L F n s qF qN m : Nat} {K wp : Int32} {q e : Nat → Nat} {xO xA xB xT yO yA yB yT op A B tg hs hd st tk mk : Nat → Int32} {u : SX} {v : SY}
theorem ar_flush (hN : ar_N C L F n s) (hG : ar_G S C L F n s qF qN K q xO xA xB xT yO yA yB yT op A B tg hs hd st tk m e mk wp u v) :
    ∃ u' v', ar_G S C L F n s qF qN K q xO xA xB xT yO yA yB yT op A B tg hs hd st tk m e mk wp u' v' ∧ (∀ post : SX → Prop, post u' → wpX_flush post u) ∧ (∀ post : SY → Prop, post v' → wpY_flush post v) := by
  obtain ⟨hC, hn, hs', hF, hL⟩ := hN
  obtain ⟨c, o, T, R, cT, cR, oT, oR, lo, la, lb, lt, lk, ln, lP, lq, ls, bl, bf, po, rfl, rfl, hM, hZ1, hZ2, hc, hmo, hK, hb1, hb2, hb3⟩ := hG
  obtain ⟨c', o', cT', cR', oT', oR', a1, a2, a3, a4, a5, a6⟩ := ay_flush (S := S) (C := C) (L := L) (s := s) (qN := qN) (m := m) (po := po) (wp := wp) (F := F) (T := T) (R := R) (yO := yO) (yA := yA) (yB := yB) (yT := yT) (hd := hd) (bl := bl) (bf := bf) (lo := lo) (la := la) (lb := lb) (lt := lt) (lk := lk) (ln := ln) (lP := lP) (mk := mk) (lq := lq) (ls := ls) hC o c 0 cT cR oT oR (by omega) hc (by omega) hZ1 hZ2
  refine ⟨_, _, ⟨c', o', T, R, cT', cR', oT', oR', lo, la, lb, lt, lk, ln, lP, lq, ls, bl, bf, po, rfl, rfl, hM, a4, a5, a2, by omega, hK, hb1, hb2, hb3⟩, ?_, ?_⟩
  · intro post hp
    rw [a1] at hp
    by_cases z : C ≤ c + o
    · have e1 : c' = C := by omega
      rw [e1] at hp
      exact br_t (nI_le z (by omega)) hp
    · have e1 : c' = c + o := by omega
      rw [e1] at hp
      exact br_f (nI_ge (by omega) (by omega)) hp
  · exact fun post hp => ⟨_, a6 post hp (o + 1) (by omega)⟩
theorem ar_tloop (hN : ar_N C L F n s) (b0 : Int32) : ∀ d f (st tk : Nat → Int32) (m : Nat) (e : Nat → Nat) (mk : Nat → Int32) (wp : Int32) (u : SX) (v : SY), f + d = n → ar_G S C L F n s qF qN K q xO xA xB xT yO yA yB yT op A B tg hs hd st tk m e mk wp u v → (∀ p, p < f → ¬ (st p = 1 ∧ tk p = 0)) →
    ∃ u' v' st' tk' m' e' mk' wp', ar_G S C L F n s qF qN K q xO xA xB xT yO yA yB yT op A B tg hs hd st' tk' m' e' mk' wp' u' v' ∧
      (∀ post : Int32 → SX → Prop, lx_te post (nI n) u' → ∀ k, d < k → lx_tk post (nI n) k (nI f) u) ∧ (∀ post : Int32 → SY → Prop, ly_te post b0 v' → ∀ k it, d < k → it + d < 64 → ly_tk post b0 k (nI it) v) := by
  have hN' := hN
  obtain ⟨hC, hn, hs', hF, hL⟩ := hN'
  intro d
  induction d with
  | zero =>
    intro f st tk m e mk wp u v hf hG hd
    have hE := ar_G_E hG
    have hmn := ar_E_le hE
    refine ⟨u, v, st, tk, m, e, mk, wp, hG, ?_, ?_⟩
    · intro post hp k hk
      obtain ⟨k', rfl⟩ : ∃ k', k = k' + 1 := ⟨k - 1, by omega⟩
      obtain ⟨c, o, T, R, cT, cR, oT, oR, lo, la, lb, lt, lk, ln, lP, lq, ls, bl, bf, po, rfl, rfl, hM, hZ1, hZ2, hc, hmo, hK, hb1, hb2, hb3⟩ := hG
      exact br_t (nI_le (by omega) (by omega)) hp
    · intro post hp k it hk hit
      obtain ⟨k', rfl⟩ : ∃ k', k = k' + 1 := ⟨k - 1, by omega⟩
      obtain ⟨c, o, T, R, cT, cR, oT, oR, lo, la, lb, lt, lk, ln, lP, lq, ls, bl, bf, po, rfl, rfl, hM, hZ1, hZ2, hc, hmo, hK, hb1, hb2, hb3⟩ := hG
      have h0 : ∀ j, j < m → lP j = 0 ∨ ¬ lk j = 0 := by
        intro j hj
        have hb := hE.2.1 j hj
        rw [hM.2.2.2.2.2.2.1 j hj, hM.2.2.2.2.2.1 j hj]
        unfold ar_pd
        by_cases z : st (e j) = 1
        · exact Or.inr (fun w => hd (e j) (by omega) ⟨z, w⟩)
        · exact Or.inl (if_neg z)
      exact br_f (nI_ge (b := 64) (by omega) (by decide)) ⟨_, ay_tn post (by omega) h0 (br_f (by decide) hp) m 0 (by omega)⟩
  | succ d ih =>
    intro f st tk m e mk wp u v hf hG hd
    have hE := ar_G_E hG
    have hmn := ar_E_le hE
    by_cases hz : st f = 1 ∧ tk f = 0
    · obtain ⟨i, hi, rfl⟩ := hE.2.2 f (by omega) (by rw [hz.1]; exact ar_12)
      have hH := ar_H_pend (ar_G_C hG) (by omega) hz.1
      have hok := ar_G_P hG (e i) (by omega) hz.1
      obtain ⟨r, u1, v1, hG1, hX1, hY1⟩ := ar_dev hN hG hi hok
      have hfd1 := fun post => ar_G_find hN hG1 hi post
      obtain ⟨u2, v2, st2, tk2, m2, e2, mk2, wp2, hG2, hF2, hX2, hY2⟩ := ar_fin hN r (ar_run hN d) hG1 hi (by omega) hH
      obtain ⟨u3, v3, st3, tk3, m3, e3, mk3, wp3, hG3, hX3, hY3⟩ := ih (e i + 1) st2 tk2 m2 e2 mk2 wp2 u2 v2 (by omega) hG2 (fun p hp w => by
        obtain ⟨a1, a2, a3⟩ := hF2.1 p w.1 w.2
        exact hd p (by omega) ⟨a1, a2⟩)
      refine ⟨u3, v3, st3, tk3, m3, e3, mk3, wp3, hG3, ?_, ?_⟩
      · intro post hp k hk
        obtain ⟨k', rfl⟩ : ∃ k', k = k' + 1 := ⟨k - 1, by omega⟩
        have hX3' := hX3 post hp k' (by omega)
        have hrun : ∀ P : SX → Prop, P u2 → wpX_runChain P u (nI (e i)) := by
          intro P hP
          have h28 := hX2 P hP (d + 1) (by omega) u hX1
          obtain ⟨c, o, T, R, cT, cR, oT, oR, lo, la, lb, lt, lk, ln, lP, lq, ls, bl, bf, po, rfl, rfl, hM, hZ1, hZ2, hc, hmo, hK, hb1, hb2, hb3⟩ := hG
          exact ⟨d + 1 + 1, br_f (nI_ge (by omega) (by omega)) ⟨vp_in_nI (by omega) (by omega), br_f (by rw [nI_clamp (by omega), hz.1]; exact ar_10) h28⟩⟩
        obtain ⟨c, o, T, R, cT, cR, oT, oR, lo, la, lb, lt, lk, ln, lP, lq, ls, bl, bf, po, rfl, rfl, hM, hZ1, hZ2, hc, hmo, hK, hb1, hb2, hb3⟩ := hG
        obtain ⟨c2, o2, T2, R2, cT2, cR2, oT2, oR2, lo2, la2, lb2, lt2, lk2, ln2, lP2, lq2, ls2, bl2, bf2, po2, rfl, rfl, hM2, hZ12, hZ22, hc2, hmo2, hK2, hb12, hb22, hb32⟩ := hG2
        exact br_f (nI_ge (by omega) (by omega)) ⟨vp_in_nI (by omega) (by omega), br_t (by rw [nI_clamp (by omega)]; exact hz.1) ⟨vp_in_nI (by omega) (by omega), br_t (by rw [nI_clamp (by omega)]; exact hz.2) (hrun _ (nm_r (nI_1 (e i)) hX3'))⟩⟩
      · intro post hp k it hk hit
        obtain ⟨k', rfl⟩ : ∃ k', k = k' + 1 := ⟨k - 1, by omega⟩
        have hY3' := hY3 post hp k' (it + 1) (by omega) (by omega)
        have hrun : ∀ P : SY → Prop, P v2 → wpY_runChain P v1 (lN (q (e i))) 0 r := by
          intro P hP
          have h65 := hY2 P hP (d + 1) 0 (by omega) (by omega)
          obtain ⟨c1, o1, T1, R1, cT1, cR1, oT1, oR1, lo1, la1, lb1, lt1, lk1, ln1, lP1, lq1, ls1, bl1, bf1, po1, rfl, rfl, hM1, hZ11, hZ21, hc1, hmo1, hK1, hb11, hb21, hb31⟩ := hG1
          exact ⟨d + 1 + 1, br_f (by decide) (hfd1 _ (br_t (nI_pos' (by omega)) (br_t rfl h65)))⟩
        obtain ⟨c, o, T, R, cT, cR, oT, oR, lo, la, lb, lt, lk, ln, lP, lq, ls, bl, bf, po, rfl, rfl, hM, hZ1, hZ2, hc, hmo, hK, hb1, hb2, hb3⟩ := hG
        obtain ⟨c1, o1, T1, R1, cT1, cR1, oT1, oR1, lo1, la1, lb1, lt1, lk1, ln1, lP1, lq1, ls1, bl1, bf1, po1, rfl, rfl, hM1, hZ11, hZ21, hc1, hmo1, hK1, hb11, hb21, hb31⟩ := hG1
        obtain ⟨c2, o2, T2, R2, cT2, cR2, oT2, oR2, lo2, la2, lb2, lt2, lk2, ln2, lP2, lq2, ls2, bl2, bf2, po2, rfl, rfl, hM2, hZ12, hZ22, hc2, hmo2, hK2, hb12, hb22, hb32⟩ := hG2
        have hlq : lq1 (nI i).toNatClampNeg = lN (q (e i)) := by
          rw [nI_clamp (by omega)]; exact hM1.2.2.2.2.2.2.2.1 i hi
        have h1 : ¬ lP i = 0 := by
          rw [hM.2.2.2.2.2.2.1 i hi]
          unfold ar_pd
          rw [if_pos hz.1]; exact ar_10
        have h2 : lk i = 0 := by rw [hM.2.2.2.2.2.1 i hi]; exact hz.2
        have h0 : ∀ j, j < i → lP j = 0 ∨ ¬ lk j = 0 := by
          intro j hj
          have hlt := hE.1 j i hj hi
          rw [hM.2.2.2.2.2.2.1 j (by omega), hM.2.2.2.2.2.1 j (by omega)]
          unfold ar_pd
          by_cases z : st (e j) = 1
          · exact Or.inr (fun w => hd (e j) hlt ⟨z, w⟩)
          · exact Or.inl (if_neg z)
        refine br_f (nI_ge (b := 64) (by omega) (by decide)) ⟨_, ay_ts post (by omega) hi h1 h2 h0 (br_t (nI_pos' (by omega)) (hY1 _ ⟨vp_in_nI (by omega) (by omega), ?_⟩)) i 0 (by omega) (m + 1) (by omega)⟩
        rw [hlq]
        exact hrun _ (nm_r (nI_1 it) hY3')
    · obtain ⟨u3, v3, st3, tk3, m3, e3, mk3, wp3, hG3, hX3, hY3⟩ := ih (f + 1) st tk m e mk wp u v (by omega) hG (fun p hp w => by
        by_cases ep : p = f
        · rw [ep] at w; exact hz w
        · exact hd p (by omega) w)
      refine ⟨u3, v3, st3, tk3, m3, e3, mk3, wp3, hG3, ?_, fun post hp k it hk hit => hY3 post hp k it (by omega) (by omega)⟩
      intro post hp k hk
      obtain ⟨k', rfl⟩ : ∃ k', k = k' + 1 := ⟨k - 1, by omega⟩
      have hX3' := hX3 post hp k' (by omega)
      obtain ⟨c, o, T, R, cT, cR, oT, oR, lo, la, lb, lt, lk, ln, lP, lq, ls, bl, bf, po, rfl, rfl, hM, hZ1, hZ2, hc, hmo, hK, hb1, hb2, hb3⟩ := hG
      refine br_f (nI_ge (by omega) (by omega)) ⟨vp_in_nI (by omega) (by omega), ?_⟩
      by_cases y : st f = 1
      · exact br_t (by rw [nI_clamp (by omega)]; exact y) ⟨vp_in_nI (by omega) (by omega), br_f (by rw [nI_clamp (by omega)]; exact fun w => hz ⟨y, w⟩) (nm_r (nI_1 f) hX3')⟩
      · exact br_f (by rw [nI_clamp (by omega)]; exact y) (nm_r (nI_1 f) hX3')
end
end
section
def ar_I (S C L F n s qF qN k : Nat) (xO xA xB xT yO yA yB yT hs : Nat → Int32) : Prop :=
  ar_N C L F n s ∧ ar_W qF qN xO yO ∧ ar_W qF qN xA yA ∧ ar_W qF qN xB yB ∧ ar_W qF qN xT yT ∧ S ≤ 16 ∧ qN ≤ S ∧ qF < 16 ∧ s ≤ 4 * k ∧ ar_B hs
def i_Rel (k : Nat) (u : SX) (v : SY) : Prop :=
  ∃ (S C L F n s qF qN : Nat) (K : Int32) (q : Nat → Nat) (xO xA xB xT yO yA yB yT op A B tg hs hd st tk mk : Nat → Int32) (wp : Int32),
    ar_G S C L F n s qF qN K q xO xA xB xT yO yA yB yT op A B tg hs hd st tk n (fun j => j) mk wp u v ∧ ar_I S C L F n s qF qN k xO xA xB xT yO yA yB yT hs
theorem ar_I_up {S C L F n s qF qN k : Nat} {xO xA xB xT yO yA yB yT hs : Nat → Int32} (h : ar_I S C L F n s qF qN k xO xA xB xT yO yA yB yT hs) : ar_I S C L F n s qF qN (k + 5) xO xA xB xT yO yA yB yT hs := by
  obtain ⟨h1, h2, h3, h4, h5, h6, h7, h8, h9, h10⟩ := h
  exact ⟨h1, h2, h3, h4, h5, h6, h7, h8, by omega, h10⟩
theorem i_up {k : Nat} {u : SX} {v : SY} (h : i_Rel k u v) : i_Rel (k + 5) u v := by
  obtain ⟨S, C, L, F, n, s, qF, qN, K, q, xO, xA, xB, xT, yO, yA, yB, yT, op, A, B, tg, hs, hd, st, tk, mk, wp, hG, hI⟩ := h
  exact ⟨S, C, L, F, n, s, qF, qN, K, q, xO, xA, xB, xT, yO, yA, yB, yT, op, A, B, tg, hs, hd, st, tk, mk, wp, hG, ar_I_up hI⟩
theorem ar_clampE (x : Int32) {a b : Nat} (hab : a ≤ b) (hb : b < 2 ^ 31) : ∃ j, a ≤ j ∧ j ≤ b ∧ ∀ P : Int32 → Prop, P (nI j) → wpX_clamp P x (nI a) (nI b) := by
  by_cases g1 : nI a ≤ x
  · by_cases g2 : x ≤ nI b
    · have hx : ¬ x < 0 := fun w => nI_pos (n := a) (by omega) (Int32.lt_of_le_of_lt g1 w)
      obtain ⟨j, hj, rfl⟩ := nI_of hx
      exact ⟨j, (nI_leI (by omega) hj).mp g1, (nI_leI hj hb).mp g2, fun P hP => br_t g1 (br_t g2 hP)⟩
    · exact ⟨b, hab, Nat.le_refl _, fun P hP => br_t g1 (br_f g2 hP)⟩
  · exact ⟨a, Nat.le_refl _, hab, fun P hP => br_f g1 hP⟩
theorem ar_M_0 {op A B tg st tk hs : Nat → Int32} {lq ls : Nat → Int64} {lo la lb lt lk lP : Nat → Int32} : ar_M 0 0 0 (fun j => j) (fun j => j) op A B tg st tk hs lo la lb lt lk lP lq ls := by
  have z : ∀ {P : Prop} (j : Nat), j < 0 → P := fun j h => absurd h (by omega)
  exact ⟨⟨fun i j _ h => z j h, fun j h => z j h, fun j h => z j h⟩, fun j h => z j h, fun j h => z j h, fun j h => z j h, fun j h => z j h, fun j h => z j h, fun j h => z j h, fun j h => z j h, fun j h => z j h, fun j h => z j h, ⟨fun i j _ h => z j h, fun j h => z j h, fun j h => z j h⟩, fun j h => z j h⟩
theorem ar_Rel0 {S C L : Nat} (h1 : S ≤ 16) (h2 : C ≤ 16) (h3 : L ≤ 4) : i_Rel 3 (nI S, nI C, nI L, 0, 0, 0, 0, 0, 0, (fun _ => 0), (fun _ => 0), (fun _ => 0), (fun _ => 0), (fun _ => 0), (fun _ => 0), (fun _ => 0), (fun _ => 0), (fun _ => 0), (fun _ => 0), (fun _ => 0), (fun _ => 0), (fun _ => 0), (fun _ => 0), (fun _ => 0)) (nI S, nI C, nI L, 0, 0, 0, 0, 0, 0, 0, (fun _ => 0), (fun _ => 0), (fun _ => 0), (fun _ => 0), (fun _ => 0), (fun _ => 0), (fun _ => 0), (fun _ => 0), (fun _ => 0), (fun _ => 0), (fun _ => 0), (fun _ => 0), (fun _ => 0), (fun _ => 0), (fun _ => 0), (fun _ => 0), (fun _ => 0), (fun _ => 0), (fun _ => 0), (fun _ => 0), (fun _ => 0)) :=
  ⟨S, C, L, 0, 0, 0, 0, 0, 0, (fun j => j), (fun _ => 0), (fun _ => 0), (fun _ => 0), (fun _ => 0), (fun _ => 0), (fun _ => 0), (fun _ => 0), (fun _ => 0), (fun _ => 0), (fun _ => 0), (fun _ => 0), (fun _ => 0), (fun _ => 0), (fun _ => 0), (fun _ => 0), (fun _ => 0), (fun _ => 0), 0,
    ⟨0, 0, (fun _ => 0), (fun _ => 0), (fun _ => 0), (fun _ => 0), (fun _ => 0), (fun _ => 0), (fun _ => 0), (fun _ => 0), (fun _ => 0), (fun _ => 0), (fun _ => 0), (fun _ => 0), (fun _ => 0), (fun _ => 0), (fun _ => 0), (fun _ => 0), (fun _ => 0), 0, rfl, rfl, ar_M_0, ⟨fun j h => absurd h (by omega), fun j h => absurd h (by omega)⟩, ⟨fun j h => absurd h (by omega), fun j h => absurd h (by omega)⟩, by omega, by omega, rfl, ar_B0, ar_B0, ar_B0⟩,
    ⟨h2, by omega, by omega, by omega, h3⟩, fun j h => absurd h (by omega), fun j h => absurd h (by omega), fun j h => absurd h (by omega), fun j h => absurd h (by omega), h1, by omega, by omega, by omega, ar_B0⟩
theorem i_vc0 (k0 : Int32) (k1 : Int32) (k2 : Int32) : wpX_init (fun u => wpY_init (fun v => i_Rel 3 u v) k0 k1 k2) k0 k1 k2 := by
  obtain ⟨S, _, hS2, hS⟩ := ar_clampE k0 (a := 2) (b := 16) (by decide) (by decide)
  obtain ⟨C, _, hC2, hC⟩ := ar_clampE k1 (a := 2) (b := 16) (by decide) (by decide)
  obtain ⟨L, _, hL2, hL⟩ := ar_clampE k2 (a := 0) (b := 4) (by decide) (by decide)
  have hY : ∀ post : SY → Prop, post (nI S, nI C, nI L, 0, 0, 0, 0, 0, 0, 0, (fun _ => 0), (fun _ => 0), (fun _ => 0), (fun _ => 0), (fun _ => 0), (fun _ => 0), (fun _ => 0), (fun _ => 0), (fun _ => 0), (fun _ => 0), (fun _ => 0), (fun _ => 0), (fun _ => 0), (fun _ => 0), (fun _ => 0), (fun _ => 0), (fun _ => 0), (fun _ => 0), (fun _ => 0), (fun _ => 0), (fun _ => 0)) → wpY_init post k0 k1 k2 := fun post hp =>
    hS (fun y => wY_init_194 post k1 k2 y 0 0 0 0 0 0 0 0 0 0 (fun _ => 0) (fun _ => 0) (fun _ => 0) (fun _ => 0) (fun _ => 0) (fun _ => 0) (fun _ => 0) (fun _ => 0) (fun _ => 0) (fun _ => 0) (fun _ => 0) (fun _ => 0) (fun _ => 0) (fun _ => 0) (fun _ => 0) (fun _ => 0) (fun _ => 0) (fun _ => 0) (fun _ => 0) (fun _ => 0) (fun _ => 0)) (hC (fun y => wY_init_219 post k2 y (nI S) 0 0 0 0 0 0 0 0 0 (fun _ => 0) (fun _ => 0) (fun _ => 0) (fun _ => 0) (fun _ => 0) (fun _ => 0) (fun _ => 0) (fun _ => 0) (fun _ => 0) (fun _ => 0) (fun _ => 0) (fun _ => 0) (fun _ => 0) (fun _ => 0) (fun _ => 0) (fun _ => 0) (fun _ => 0) (fun _ => 0) (fun _ => 0) (fun _ => 0) (fun _ => 0)) (hL (fun y => post (nI S, nI C, y, 0, 0, 0, 0, 0, 0, 0, (fun _ => 0), (fun _ => 0), (fun _ => 0), (fun _ => 0), (fun _ => 0), (fun _ => 0), (fun _ => 0), (fun _ => 0), (fun _ => 0), (fun _ => 0), (fun _ => 0), (fun _ => 0), (fun _ => 0), (fun _ => 0), (fun _ => 0), (fun _ => 0), (fun _ => 0), (fun _ => 0), (fun _ => 0), (fun _ => 0), (fun _ => 0))) hp))
  unfold wpX_init
  exact hS _ (hC _ (hL _ (hY _ (ar_Rel0 hS2 hC2 hL2))))
theorem ar_m48 {a : Nat} (h : a < 2 ^ 30) : nI a + 1 - (nI a + 1) / 48 * 48 = nI ((a + 1) % 48) := by
  rw [nI_1]; exact pk_rem (d := 48) (by omega) (by decide) (by decide)
theorem i_vc_prep {k : Nat} {u : SX} {v : SY} (I : i_Rel k u v) (hk : k + 5 ≤ 2563) (v1 : Int32) (v2 : Int32) (v3 : Int32) (v4 : Int32) : wpX_prep (fun r u' => wpY_prep (fun r' v' => r' = r ∧ i_Rel (k + 5) u' v') v v1 v2 v3 v4) u v1 v2 v3 v4 := by
  obtain ⟨S, C, L, F, n, s, qF, qN, K, q, xO, xA, xB, xT, yO, yA, yB, yT, op, A, B, tg, hs, hd, st, tk, mk, wp, hG, hI⟩ := I
  obtain ⟨hN, hw1, hw2, hw3, hw4, hS, hqS, hqF, hsk, hbh⟩ := hI
  obtain ⟨c, o, T, R, cT, cR, oT, oR, lo, la, lb, lt, lk, ln, lP, lq, ls, bl, bf, po, rfl, rfl, hM, hZ1, hZ2, hc, hmo, hK, hb1, hb2, hb3⟩ := hG
  by_cases h : qN < S
  · have i0 : vp_in (nI ((qF + qN) % 16)) 16 := vp_in_nI (Nat.mod_lt _ (by omega)) (by omega)
    have i1 : vp_in (nI qN) 16 := vp_in_nI (by omega) (by omega)
    have hm : (qF + qN) % 16 < 2 ^ 31 := by omega
    refine br_t (nI_lt h (by omega)) ⟨by decide, nm_r (ar_r16 qF qN (by omega)) ⟨i0, nm_r (ar_uc xO v1 hm) ⟨i0, nm_r (ar_uc xA v2 hm) ⟨i0, nm_r (ar_uc xB v3 hm) ⟨i0, nm_r (ar_uc xT v4 hm) (nm_r (nI_1 qN) ?_)⟩⟩⟩⟩⟩
    refine br_f (nI_ge h (by omega)) (br_t (nI_lt (b := 16) (by omega) (by decide)) ⟨i1, nm_r (ar_uc yO v1 (by omega)) ⟨i1, nm_r (ar_uc yA v2 (by omega)) ⟨i1, nm_r (ar_uc yB v3 (by omega)) ⟨i1, nm_r (ar_uc yT v4 (by omega)) (nm_r (nI_1 qN) ?_)⟩⟩⟩⟩)
    exact ⟨rfl, S, C, L, F, n, s, qF, qN + 1, K, q, _, _, _, _, _, _, _, _, op, A, B, tg, hs, hd, st, tk, mk, wp, ⟨c, o, T, R, cT, cR, oT, oR, lo, la, lb, lt, lk, ln, lP, lq, ls, bl, bf, po, rfl, rfl, hM, hZ1, hZ2, hc, hmo, hK, hb1, hb2, hb3⟩, hN, ar_W_put hw1 (by omega) v1, ar_W_put hw2 (by omega) v2, ar_W_put hw3 (by omega) v3, ar_W_put hw4 (by omega) v4, hS, by omega, hqF, by omega, hbh⟩
  · refine br_f (nI_nlt (by omega) (by omega)) (br_t (nI_le (by omega) (by omega)) ?_)
    exact ⟨rfl, S, C, L, F, n, s, qF, qN, K, q, xO, xA, xB, xT, yO, yA, yB, yT, op, A, B, tg, hs, hd, st, tk, mk, wp, ⟨c, o, T, R, cT, cR, oT, oR, lo, la, lb, lt, lk, ln, lP, lq, ls, bl, bf, po, rfl, rfl, hM, hZ1, hZ2, hc, hmo, hK, hb1, hb2, hb3⟩, hN, hw1, hw2, hw3, hw4, hS, hqS, hqF, by omega, hbh⟩
section
variable {S C L F n s qF qN c o m : Nat} {K po wp : Int32} {xO xA xB xT yO yA yB yT op A B tg hs hd T R st tk bl bf cT cR oT oR lo la lb lt lk ln lP mk : Nat → Int32} {lq ls : Nat → Int64}
theorem ay_pop (post : Int32 → SY → Prop) (hc : c + 1 ≤ 16) (hp : post 1 (nI S, nI C, nI L, nI qN, nI c, nI o, nI m, lN s, po, wp, yO, yA, yB, yT, ar_sh cT 0 (c + 1), ar_sh cR 0 (c + 1), oT, oR, lo, la, lb, lt, lk, ln, lP, mk, lq, ls, hd, bl, bf)) : ∀ d j, j + d = c → wY_pop_11 post (nI S) (nI C) (nI L) (nI qN) (nI (c + 1)) (nI o) (nI m) (lN s) po wp (d + 1) (nI j) yO yA yB yT (ar_sh cT 0 (j + 1)) (ar_sh cR 0 (j + 1)) oT oR lo la lb lt lk ln lP mk lq ls hd bl bf := by
  intro d
  induction d with
  | zero =>
    intro j hj
    have e : j = c := by omega
    subst e
    refine br_t ?_ (nm_r (nI_pred j) hp)
    rw [nI_pred]; exact nI_le (Nat.le_refl _) (by omega)
  | succ d ih =>
    intro j hj
    have a1 : ¬ nI (c + 1) - 1 ≤ nI j := by
      rw [nI_pred]; exact nI_ge (by omega) (by omega)
    have i1 : vp_in (nI j + 1) 16 := by rw [nI_1]; exact vp_in_nI (by omega) (by omega)
    have i0 : vp_in (nI j) 16 := vp_in_nI (by omega) (by omega)
    exact br_f a1 (br_f (nI_ge (b := 15) (by omega) (by decide)) ⟨i1, i0, nm_r (ar_st1 cT (by omega) (by omega)) ⟨i1, i0, nm_r (ar_st1 cR (by omega) (by omega)) (nm_r (nI_1 j) (ih (j + 1) (by omega)))⟩⟩)
end
theorem i_vc_pop {k : Nat} {u : SX} {v : SY} (I : i_Rel k u v) (hk : k + 5 ≤ 2563) : wpX_pop (fun r u' => wpY_pop (fun r' v' => r' = r ∧ i_Rel (k + 5) u' v') v) u := by
  obtain ⟨S, C, L, F, n, s, qF, qN, K, q, xO, xA, xB, xT, yO, yA, yB, yT, op, A, B, tg, hs, hd, st, tk, mk, wp, hG, hI⟩ := I
  obtain ⟨hN, hw1, hw2, hw3, hw4, hS, hqS, hqF, hsk, hbh⟩ := hI
  obtain ⟨c, o, T, R, cT, cR, oT, oR, lo, la, lb, lt, lk, ln, lP, lq, ls, bl, bf, po, rfl, rfl, hM, hZ1, hZ2, hc, hmo, hK, hb1, hb2, hb3⟩ := hG
  have hN' := hN
  obtain ⟨hC, hn, hs', hF, hL⟩ := hN'
  by_cases h : c = 0
  · refine br_t (by rw [h]; rfl) (br_t (by rw [h]; rfl) ?_)
    exact ⟨rfl, S, C, L, F, n, s, qF, qN, K, q, xO, xA, xB, xT, yO, yA, yB, yT, op, A, B, tg, hs, hd, st, tk, mk, wp, ⟨c, o, T, R, cT, cR, oT, oR, lo, la, lb, lt, lk, ln, lP, lq, ls, bl, bf, po, rfl, rfl, hM, hZ1, hZ2, hc, hmo, hK, hb1, hb2, hb3⟩, hN, hw1, hw2, hw3, hw4, hS, hqS, hqF, by omega, hbh⟩
  · obtain ⟨c', rfl⟩ : ∃ c', c = c' + 1 := ⟨c - 1, by omega⟩
    have e1 : nI (c' + 1 + o) - 1 = nI (c' + o) := by rw [show c' + 1 + o = c' + o + 1 by omega, nI_pred]
    refine br_f (nI_ne0 (by omega) (by omega)) ⟨by decide, nm_r (ar_m48 (by omega)) (nm_r e1 (nm_r (nI_pred c') ?_))⟩
    have hp := ay_pop (cT := cT) (cR := cR) (S := S) (C := C) (L := L) (s := s) (qN := qN) (c := c') (o := o) (m := n) (po := po) (wp := wp) (yO := yO) (yA := yA) (yB := yB) (yT := yT) (hd := hd) (bl := bl) (bf := bf) (oT := oT) (oR := oR) (lo := lo) (la := la) (lb := lb) (lt := lt) (lk := lk) (ln := ln) (lP := lP) (mk := mk) (lq := lq) (ls := ls) (fun r' v' => r' = 1 ∧ i_Rel (k + 5) (nI S, nI C, nI L, nI qF, nI qN, nI ((F + 1) % 48), nI (c' + o), nI c', nI n, xO, xA, xB, xT, T, R, op, A, B, tg, st, tk, hs, bl, bf) v') (by omega)
      ⟨rfl, S, C, L, (F + 1) % 48, n, s, qF, qN, K, q, xO, xA, xB, xT, yO, yA, yB, yT, op, A, B, tg, hs, hd, st, tk, mk, wp, ⟨c', o, T, R, ar_sh cT 0 (c' + 1), ar_sh cR 0 (c' + 1), oT, oR, lo, la, lb, lt, lk, ln, lP, lq, ls, bl, bf, po, rfl, rfl, hM, ar_Z_pop hZ1, ar_Z_pop hZ2, by omega, hmo, hK, hb1, hb2, hb3⟩, ⟨hC, hn, hs', by omega, hL⟩, hw1, hw2, hw3, hw4, hS, hqS, hqF, by omega, hbh⟩ c' 0 (by omega)
    rw [ar_sh0, ar_sh0] at hp
    exact br_f (nI_ne0 (by omega) (by omega)) ⟨_, hp⟩
end
section
theorem i_vc_cqReady {k : Nat} {u : SX} {v : SY} (I : i_Rel k u v) (hk : k + 5 ≤ 2563) : wpX_cqReady (fun r => wpY_cqReady (fun r' => r' = r ∧ i_Rel (k + 5) u v) v) u := by
  have I' := i_up I
  obtain ⟨S, C, L, F, n, s, qF, qN, K, q, xO, xA, xB, xT, yO, yA, yB, yT, op, A, B, tg, hs, hd, st, tk, mk, wp, hG, hI⟩ := I
  obtain ⟨c, o, T, R, cT, cR, oT, oR, lo, la, lb, lt, lk, ln, lP, lq, ls, bl, bf, po, rfl, rfl, hM, hZ1, hZ2, hc, hmo, hK, hb1, hb2, hb3⟩ := hG
  exact And.intro rfl I'
theorem i_vc_overflowCount {k : Nat} {u : SX} {v : SY} (I : i_Rel k u v) (hk : k + 5 ≤ 2563) : wpX_overflowCount (fun r => wpY_overflowCount (fun r' => r' = r ∧ i_Rel (k + 5) u v) v) u := by
  have I' := i_up I
  obtain ⟨S, C, L, F, n, s, qF, qN, K, q, xO, xA, xB, xT, yO, yA, yB, yT, op, A, B, tg, hs, hd, st, tk, mk, wp, hG, hI⟩ := I
  obtain ⟨c, o, T, R, cT, cR, oT, oR, lo, la, lb, lt, lk, ln, lP, lq, ls, bl, bf, po, rfl, rfl, hM, hZ1, hZ2, hc, hmo, hK, hb1, hb2, hb3⟩ := hG
  refine And.intro ?_ I'
  rw [pk_sub (by omega), show c + o - c = o by omega]
theorem i_vc_sqPending {k : Nat} {u : SX} {v : SY} (I : i_Rel k u v) (hk : k + 5 ≤ 2563) : wpX_sqPending (fun r => wpY_sqPending (fun r' => r' = r ∧ i_Rel (k + 5) u v) v) u := by
  have I' := i_up I
  obtain ⟨S, C, L, F, n, s, qF, qN, K, q, xO, xA, xB, xT, yO, yA, yB, yT, op, A, B, tg, hs, hd, st, tk, mk, wp, hG, hI⟩ := I
  obtain ⟨c, o, T, R, cT, cR, oT, oR, lo, la, lb, lt, lk, ln, lP, lq, ls, bl, bf, po, rfl, rfl, hM, hZ1, hZ2, hc, hmo, hK, hb1, hb2, hb3⟩ := hG
  exact And.intro rfl I'
theorem i_vc_liveCount {k : Nat} {u : SX} {v : SY} (I : i_Rel k u v) (hk : k + 5 ≤ 2563) : wpX_liveCount (fun r => wpY_liveCount (fun r' => r' = r ∧ i_Rel (k + 5) u v) v) u := by
  have I' := i_up I
  obtain ⟨S, C, L, F, n, s, qF, qN, K, q, xO, xA, xB, xT, yO, yA, yB, yT, op, A, B, tg, hs, hd, st, tk, mk, wp, hG, hI⟩ := I
  obtain ⟨c, o, T, R, cT, cR, oT, oR, lo, la, lb, lt, lk, ln, lP, lq, ls, bl, bf, po, rfl, rfl, hM, hZ1, hZ2, hc, hmo, hK, hb1, hb2, hb3⟩ := hG
  exact And.intro rfl I'
theorem i_vc_cqTag {k : Nat} {u : SX} {v : SY} (I : i_Rel k u v) (hk : k + 5 ≤ 2563) (v1 : Int32) : wpX_cqTag (fun r => wpY_cqTag (fun r' => r' = r ∧ i_Rel (k + 5) u v) v v1) u v1 := by
  have I' := i_up I
  obtain ⟨S, C, L, F, n, s, qF, qN, K, q, xO, xA, xB, xT, yO, yA, yB, yT, op, A, B, tg, hs, hd, st, tk, mk, wp, hG, hI⟩ := I
  obtain ⟨⟨hC, hn, hs', hF, hL⟩, _⟩ := hI
  obtain ⟨c, o, T, R, cT, cR, oT, oR, lo, la, lb, lt, lk, ln, lP, lq, ls, bl, bf, po, rfl, rfl, hM, hZ1, hZ2, hc, hmo, hK, hb1, hb2, hb3⟩ := hG
  by_cases h0 : v1 < 0
  · exact br_t h0 (br_f (fun w => ar_ln w h0) ⟨rfl, I'⟩)
  · obtain ⟨j, hj, rfl⟩ := nI_of h0
    by_cases h1 : j < c + o
    · have e1 := ar_r48 F j (by omega)
      have e2 : ((nI F + nI j) - (nI F + nI j) / 48 * 48).toNatClampNeg = (F + j) % 48 := by rw [e1, nI_clamp (by omega)]
      refine br_f h0 (br_t (nI_lt h1 (by omega)) ⟨by decide, by rw [e1]; exact vp_in_nI (Nat.mod_lt _ (by omega)) (by omega), ?_⟩)
      by_cases h2 : j < c
      · refine br_t (nI_pos' hj) (br_f (nI_ge h2 (by omega)) (br_f (nI_ge (b := 16) (by omega) (by decide)) ⟨vp_in_nI (by omega) (by omega), ?_, I'⟩))
        rw [e2, nI_clamp hj]; exact (hZ1.1 j h2).symm
      · have e3 : nI j - nI c = nI (j - c) := pk_sub (by omega)
        refine br_t (nI_pos' hj) (br_t (nI_le (by omega) hj) (br_f (by rw [nI_add]; exact nI_ge h1 (by omega)) (br_f (by rw [e3]; exact nI_ge (b := 32) (by omega) (by decide)) ⟨by rw [e3]; exact vp_in_nI (by omega) (by omega), ?_, I'⟩)))
        rw [e2, e3, nI_clamp (by omega), ← hZ1.2 (j - c) (by omega), show c + (j - c) = j by omega]
    · have key : nI c + nI o ≤ nI j := by rw [nI_add]; exact nI_le (by omega) hj
      exact br_f h0 (br_f (nI_nlt (by omega) hj) (br_t (nI_pos' hj) (br_t (nI_le (by omega) hj) (br_t key ⟨rfl, I'⟩))))
theorem i_vc_cqResult {k : Nat} {u : SX} {v : SY} (I : i_Rel k u v) (hk : k + 5 ≤ 2563) (v1 : Int32) : wpX_cqResult (fun r => wpY_cqResult (fun r' => r' = r ∧ i_Rel (k + 5) u v) v v1) u v1 := by
  have I' := i_up I
  obtain ⟨S, C, L, F, n, s, qF, qN, K, q, xO, xA, xB, xT, yO, yA, yB, yT, op, A, B, tg, hs, hd, st, tk, mk, wp, hG, hI⟩ := I
  obtain ⟨⟨hC, hn, hs', hF, hL⟩, _⟩ := hI
  obtain ⟨c, o, T, R, cT, cR, oT, oR, lo, la, lb, lt, lk, ln, lP, lq, ls, bl, bf, po, rfl, rfl, hM, hZ1, hZ2, hc, hmo, hK, hb1, hb2, hb3⟩ := hG
  by_cases h0 : v1 < 0
  · exact br_t h0 (br_f (fun w => ar_ln w h0) ⟨rfl, I'⟩)
  · obtain ⟨j, hj, rfl⟩ := nI_of h0
    by_cases h1 : j < c + o
    · have e1 := ar_r48 F j (by omega)
      have e2 : ((nI F + nI j) - (nI F + nI j) / 48 * 48).toNatClampNeg = (F + j) % 48 := by rw [e1, nI_clamp (by omega)]
      refine br_f h0 (br_t (nI_lt h1 (by omega)) ⟨by decide, by rw [e1]; exact vp_in_nI (Nat.mod_lt _ (by omega)) (by omega), ?_⟩)
      by_cases h2 : j < c
      · refine br_t (nI_pos' hj) (br_f (nI_ge h2 (by omega)) (br_f (nI_ge (b := 16) (by omega) (by decide)) ⟨vp_in_nI (by omega) (by omega), ?_, I'⟩))
        rw [e2, nI_clamp hj]; exact (hZ2.1 j h2).symm
      · have e3 : nI j - nI c = nI (j - c) := pk_sub (by omega)
        refine br_t (nI_pos' hj) (br_t (nI_le (by omega) hj) (br_f (by rw [nI_add]; exact nI_ge h1 (by omega)) (br_f (by rw [e3]; exact nI_ge (b := 32) (by omega) (by decide)) ⟨by rw [e3]; exact vp_in_nI (by omega) (by omega), ?_, I'⟩)))
        rw [e2, e3, nI_clamp (by omega), ← hZ2.2 (j - c) (by omega), show c + (j - c) = j by omega]
    · have key : nI c + nI o ≤ nI j := by rw [nI_add]; exact nI_le (by omega) hj
      exact br_f h0 (br_f (nI_nlt (by omega) hj) (br_t (nI_pos' hj) (br_t (nI_le (by omega) hj) (br_t key ⟨rfl, I'⟩))))
theorem i_vc_liveTag {k : Nat} {u : SX} {v : SY} (I : i_Rel k u v) (hk : k + 5 ≤ 2563) (v1 : Int32) : wpX_liveTag (fun r => wpY_liveTag (fun r' => r' = r ∧ i_Rel (k + 5) u v) v v1) u v1 := by
  have I' := i_up I
  obtain ⟨S, C, L, F, n, s, qF, qN, K, q, xO, xA, xB, xT, yO, yA, yB, yT, op, A, B, tg, hs, hd, st, tk, mk, wp, hG, hI⟩ := I
  obtain ⟨⟨hC, hn, hs', hF, hL⟩, _⟩ := hI
  obtain ⟨c, o, T, R, cT, cR, oT, oR, lo, la, lb, lt, lk, ln, lP, lq, ls, bl, bf, po, rfl, rfl, hM, hZ1, hZ2, hc, hmo, hK, hb1, hb2, hb3⟩ := hG
  by_cases h0 : v1 < 0
  · exact br_t h0 (br_t h0 ⟨rfl, I'⟩)
  · obtain ⟨j, hj, rfl⟩ := nI_of h0
    by_cases h1 : j < n
    · refine br_f h0 (br_t (nI_lt h1 (by omega)) ⟨vp_in_nI (by omega) (by omega), br_f h0 (br_f (nI_ge h1 (by omega)) (br_t (nI_lt (b := 32) (by omega) (by decide)) ⟨vp_in_nI (by omega) (by omega), ?_, I'⟩))⟩)
      rw [nI_clamp hj]; exact hM.2.2.2.2.1 j h1
    · exact br_f h0 (br_f (nI_nlt (by omega) hj) (br_f h0 (br_t (nI_le (by omega) hj) ⟨rfl, I'⟩)))
theorem i_vc_liveState {k : Nat} {u : SX} {v : SY} (I : i_Rel k u v) (hk : k + 5 ≤ 2563) (v1 : Int32) : wpX_liveState (fun r => wpY_liveState (fun r' => r' = r ∧ i_Rel (k + 5) u v) v v1) u v1 := by
  have I' := i_up I
  obtain ⟨S, C, L, F, n, s, qF, qN, K, q, xO, xA, xB, xT, yO, yA, yB, yT, op, A, B, tg, hs, hd, st, tk, mk, wp, hG, hI⟩ := I
  obtain ⟨⟨hC, hn, hs', hF, hL⟩, _⟩ := hI
  obtain ⟨c, o, T, R, cT, cR, oT, oR, lo, la, lb, lt, lk, ln, lP, lq, ls, bl, bf, po, rfl, rfl, hM, hZ1, hZ2, hc, hmo, hK, hb1, hb2, hb3⟩ := hG
  by_cases h0 : v1 < 0
  · exact br_t h0 (br_t h0 ⟨rfl, I'⟩)
  · obtain ⟨j, hj, rfl⟩ := nI_of h0
    by_cases h1 : j < n
    · have i0 : vp_in (nI j) 32 := vp_in_nI (by omega) (by omega)
      have hP : lP j = ar_pd st j := hM.2.2.2.2.2.2.1 j h1
      have hT : lk j = tk j := hM.2.2.2.2.2.1 j h1
      have hU : ls j = ar_su hs q j := hM.2.2.2.2.2.2.2.2.1 j h1
      have hq := hM.2.2.2.2.2.2.2.2.2.2.1.2.2 j h1
      have key : ∀ (z z' : Int32), z' = z → wX_liveState_34 (fun r => wY_liveState_39 (fun r' => r' = r ∧ i_Rel (k + 5) (nI S, nI C, nI L, nI qF, nI qN, nI F, nI (c + o), nI c, nI n, xO, xA, xB, xT, T, R, op, A, B, tg, st, tk, hs, bl, bf) (nI S, nI C, nI L, nI qN, nI c, nI o, nI n, lN s, po, wp, yO, yA, yB, yT, cT, cR, oT, oR, lo, la, lb, lt, lk, ln, lP, mk, lq, ls, hd, bl, bf)) (nI j) z' (nI S) (nI C) (nI L) (nI qN) (nI c) (nI o) (nI n) (lN s) po wp yO yA yB yT cT cR oT oR lo la lb lt lk ln lP mk lq ls hd bl bf) (nI j) z (nI S) (nI C) (nI L) (nI qF) (nI qN) (nI F) (nI (c + o)) (nI c) (nI n) xO xA xB xT T R op A B tg st tk hs bl bf := by
        intro z z' e
        subst e
        refine And.intro i0 ?_
        by_cases y : hs j = 0
        · refine br_t (by rw [nI_clamp hj]; exact y) (And.intro i0 (br_t ?_ ⟨rfl, I'⟩))
          rw [nI_clamp hj, hU]
          unfold ar_su
          rw [if_pos y]; decide
        · refine br_f (by rw [nI_clamp hj]; exact y) (And.intro i0 (br_f ?_ ⟨rfl, I'⟩))
          rw [nI_clamp hj, hU]
          unfold ar_su
          rw [if_neg y]
          exact fun w => absurd (ar_l0 (a := q j + 1) (by omega)) (Int64.not_le.mpr w)
      refine br_f h0 (br_t (nI_lt h1 (by omega)) ⟨i0, ?_⟩)
      by_cases z : st j = 1
      · refine br_t (by rw [nI_clamp hj]; exact z) ⟨i0, ?_⟩
        have hP' : ¬ lP (nI j).toNatClampNeg = 0 := by
          rw [nI_clamp hj, hP]
          unfold ar_pd
          rw [if_pos z]; exact ar_10
        have k1 := key (tk (nI j).toNatClampNeg) (lk (nI j).toNatClampNeg) (by rw [nI_clamp hj, hT])
        unfold wX_liveState_34 at k1 ⊢
        refine ⟨k1.1, fun y => ?_, fun y => ?_⟩
        · exact br_f h0 (br_f (nI_ge h1 (by omega)) (br_t (nI_lt (b := 32) (by omega) (by decide)) ⟨i0, br_f hP' ⟨i0, k1.2.1 y⟩⟩))
        · exact br_f h0 (br_f (nI_ge h1 (by omega)) (br_t (nI_lt (b := 32) (by omega) (by decide)) ⟨i0, br_f hP' ⟨i0, k1.2.2 y⟩⟩))
      · refine br_f (by rw [nI_clamp hj]; exact z) ?_
        have hP' : lP (nI j).toNatClampNeg = 0 := by
          rw [nI_clamp hj, hP]
          exact if_neg z
        have k1 := key 0 0 rfl
        unfold wX_liveState_34 at k1 ⊢
        refine ⟨k1.1, fun y => ?_, fun y => ?_⟩
        · exact br_f h0 (br_f (nI_ge h1 (by omega)) (br_t (nI_lt (b := 32) (by omega) (by decide)) ⟨i0, br_t hP' (k1.2.1 y)⟩))
        · exact br_f h0 (br_f (nI_ge h1 (by omega)) (br_t (nI_lt (b := 32) (by omega) (by decide)) ⟨i0, br_t hP' (k1.2.2 y)⟩))
    · exact br_f h0 (br_f (nI_nlt (by omega) hj) (br_f h0 (br_t (nI_le (by omega) hj) ⟨rfl, I'⟩)))
theorem i_vc_setBuffer {k : Nat} {u : SX} {v : SY} (I : i_Rel k u v) (hk : k + 5 ≤ 2563) (v1 : Int32) (v2 : Int32) : wpX_setBuffer (fun r u' => wpY_setBuffer (fun r' v' => r' = r ∧ i_Rel (k + 5) u' v') v v1 v2) u v1 v2 := by
  have I' := i_up I
  obtain ⟨S, C, L, F, n, s, qF, qN, K, q, xO, xA, xB, xT, yO, yA, yB, yT, op, A, B, tg, hs, hd, st, tk, mk, wp, hG, hI⟩ := I
  have hI' := ar_I_up hI
  obtain ⟨c, o, T, R, cT, cR, oT, oR, lo, la, lb, lt, lk, ln, lP, lq, ls, bl, bf, po, rfl, rfl, hM, hZ1, hZ2, hc, hmo, hK, hb1, hb2, hb3⟩ := hG
  unfold wpX_setBuffer
  refine ax_buf _ _ (fun h => br_f (by decide) ⟨ar_buf_in h, nm_e ?_⟩) (fun h => br_t rfl ?_)
  · refine br_f h.1 (br_t h.2 ⟨ar_buf_in h, nm_e ⟨rfl, ?_⟩⟩)
    exact ⟨S, C, L, F, n, s, qF, qN, K, q, xO, xA, xB, xT, yO, yA, yB, yT, op, A, B, tg, hs, hd, st, tk, mk, wp, ⟨c, o, T, R, cT, cR, oT, oR, lo, la, lb, lt, lk, ln, lP, lq, ls, bl, _, po, rfl, rfl, hM, hZ1, hZ2, hc, hmo, hK, hb1, hb2, hb3⟩, hI'⟩
  · exact br_c (fun _ => ⟨rfl, I'⟩) (fun g => br_f (fun w => h ⟨g, w⟩) ⟨rfl, I'⟩)
theorem i_vc_getBuffer {k : Nat} {u : SX} {v : SY} (I : i_Rel k u v) (hk : k + 5 ≤ 2563) (v1 : Int32) : wpX_getBuffer (fun r => wpY_getBuffer (fun r' => r' = r ∧ i_Rel (k + 5) u v) v v1) u v1 := by
  have I' := i_up I
  obtain ⟨S, C, L, F, n, s, qF, qN, K, q, xO, xA, xB, xT, yO, yA, yB, yT, op, A, B, tg, hs, hd, st, tk, mk, wp, hG, hI⟩ := I
  obtain ⟨c, o, T, R, cT, cR, oT, oR, lo, la, lb, lt, lk, ln, lP, lq, ls, bl, bf, po, rfl, rfl, hM, hZ1, hZ2, hc, hmo, hK, hb1, hb2, hb3⟩ := hG
  unfold wpX_getBuffer
  refine ax_buf _ _ (fun h => br_f (by decide) ⟨ar_buf_in h, ?_⟩) (fun h => br_t rfl ?_)
  · exact br_f h.1 (br_t h.2 ⟨ar_buf_in h, rfl, I'⟩)
  · exact br_c (fun _ => ⟨rfl, I'⟩) (fun g => br_f (fun w => h ⟨g, w⟩) ⟨rfl, I'⟩)
theorem i_vc_getBlock {k : Nat} {u : SX} {v : SY} (I : i_Rel k u v) (hk : k + 5 ≤ 2563) (v1 : Int32) : wpX_getBlock (fun r => wpY_getBlock (fun r' => r' = r ∧ i_Rel (k + 5) u v) v v1) u v1 := by
  have I' := i_up I
  obtain ⟨S, C, L, F, n, s, qF, qN, K, q, xO, xA, xB, xT, yO, yA, yB, yT, op, A, B, tg, hs, hd, st, tk, mk, wp, hG, hI⟩ := I
  obtain ⟨c, o, T, R, cT, cR, oT, oR, lo, la, lb, lt, lk, ln, lP, lq, ls, bl, bf, po, rfl, rfl, hM, hZ1, hZ2, hc, hmo, hK, hb1, hb2, hb3⟩ := hG
  unfold wpX_getBlock
  refine ax_blk _ _ (fun h => br_f (by decide) ⟨ar_blk_in h, ?_⟩) (fun h => br_t rfl ?_)
  · exact br_f h.1 (br_t h.2 ⟨ar_blk_in h, rfl, I'⟩)
  · exact br_c (fun _ => ⟨rfl, I'⟩) (fun g => br_f (fun w => h ⟨g, w⟩) ⟨rfl, I'⟩)
end
section
theorem ar_K2 {a b x y K : Int32} (h1 : a + x = K) (h2 : b + y = K) : b - a = x - y := by
  have h3 : b = a + x - y := by rw [h1, ← h2, Int32.add_sub_cancel]
  rw [h3]
  grind
theorem ar_M_tk {n m s : Nat} {e q : Nat → Nat} {op A B tg st tk tk' hs lo la lb lt lk lk' lP : Nat → Int32} {lq ls : Nat → Int64} (h : ar_M n m s e q op A B tg st tk hs lo la lb lt lk lP lq ls) (hv : ar_V e m lk' tk') : ar_M n m s e q op A B tg st tk' hs lo la lb lt lk' lP lq ls := by
  obtain ⟨hE, h1, h2, h3, h4, h5, h6, h7, h8, hC, hQ, hP⟩ := h
  exact ⟨hE, h1, h2, h3, h4, hv, h6, h7, h8, hC, hQ, hP⟩
theorem i_vc_tick {k : Nat} {u : SX} {v : SY} (I : i_Rel k u v) (hk : k + 5 ≤ 2563) : wpX_tick (fun r u' => wpY_tick (fun r' v' => r' = r ∧ i_Rel (k + 5) u' v') v) u := by
  obtain ⟨S, C, L, F, n, s, qF, qN, K, q, xO, xA, xB, xT, yO, yA, yB, yT, op, A, B, tg, hs, hd, st, tk, mk, wp, hG, hI⟩ := I
  obtain ⟨hN, hw1, hw2, hw3, hw4, hS, hqS, hqF, hsk, hbh⟩ := hI
  have hN' := hN
  obtain ⟨hC, hn, hsz, hF, hL⟩ := hN'
  obtain ⟨u1, v1, hG1, hX1, hY1⟩ := ar_flush hN hG
  obtain ⟨c1, o1, T1, R1, cT1, cR1, oT1, oR1, lo1, la1, lb1, lt1, lk1, ln1, lP1, lq1, ls1, bl1, bf1, po1, rfl, rfl, hM1, hZ11, hZ21, hc1, hmo1, hK1, hb11, hb21, hb31⟩ := hG1
  have hvt : ar_V (fun j => j) n (ar_cd (fun p => decide (¬ lP1 p = 0)) lk1 n) (ar_cd (fun p => decide (st p = 1)) tk n) := by
    intro j hj
    have e1 : lP1 j = ar_pd st j := hM1.2.2.2.2.2.2.1 j hj
    have e2 : lk1 j = tk j := hM1.2.2.2.2.2.1 j hj
    show (if j < n ∧ decide (¬ lP1 j = 0) = true then lk1 j - 1 else lk1 j) = (if j < n ∧ decide (st j = 1) = true then tk j - 1 else tk j)
    rw [e1, e2]
    unfold ar_pd
    by_cases z : st j = 1
    · rw [if_pos z, if_pos ⟨hj, decide_eq_true ar_10⟩, if_pos ⟨hj, decide_eq_true z⟩]
    · have n1 : ¬ (j < n ∧ decide (¬ (0 : Int32) = 0) = true) := fun w => of_decide_eq_true w.2 rfl
      have n2 : ¬ (j < n ∧ decide (st j = 1) = true) := fun w => z (of_decide_eq_true w.2)
      rw [if_neg z, if_neg n1, if_neg n2]
  have hG2 : ar_G S C L F n s qF qN K q xO xA xB xT yO yA yB yT op A B tg hs hd st (ar_cd (fun p => decide (st p = 1)) tk n) n (fun j => j) mk wp (nI S, nI C, nI L, nI qF, nI qN, nI F, nI (c1 + o1), nI c1, nI n, xO, xA, xB, xT, T1, R1, op, A, B, tg, st, ar_cd (fun p => decide (st p = 1)) tk n, hs, bl1, bf1)
      (nI S, nI C, nI L, nI qN, nI c1, nI o1, nI n, lN s, po1, wp, yO, yA, yB, yT, cT1, cR1, oT1, oR1, lo1, la1, lb1, lt1, ar_cd (fun p => decide (¬ lP1 p = 0)) lk1 n, ln1, lP1, mk, lq1, ls1, hd, bl1, bf1) :=
    ⟨c1, o1, T1, R1, cT1, cR1, oT1, oR1, lo1, la1, lb1, lt1, _, ln1, lP1, lq1, ls1, bl1, bf1, po1, rfl, rfl, ar_M_tk hM1 hvt, hZ11, hZ21, hc1, hmo1, hK1, hb11, hb21, hb31⟩
  obtain ⟨u3, v3, st3, tk3, m3, e3, mk3, wp3, hG3, hX3, hY3⟩ := ar_tloop hN po1 n 0 _ _ _ _ _ _ _ _ (by omega) hG2 (fun p hp => absurd hp (by omega))
  have hE3 := ar_G_E hG3
  have hmn3 := ar_E_le hE3
  obtain ⟨c3, o3, T3, R3, cT3, cR3, oT3, oR3, lo3, la3, lb3, lt3, lk3, ln3, lP3, lq3, ls3, bl3, bf3, po3, rfl, rfl, hM3, hZ13, hZ23, hc3, hmo3, hK3, hb13, hb23, hb33⟩ := hG3
  have hres : po3 - po1 = nI n - nI m3 := ar_K2 hK1 hK3
  have hYall : ∀ post : Int32 → SY → Prop, post (nI n - nI m3) (nI S, nI C, nI L, nI qN, nI c3, nI o3, nI m3, lN s, po3, wp3, yO, yA, yB, yT, cT3, cR3, oT3, oR3, lo3, la3, lb3, lt3, lk3, ln3, lP3, mk3, lq3, ls3, hd, bl3, bf3) → wpY_tick post v := by
    intro post hp
    rw [← hres] at hp
    have h1 := hY3 post hp (n + 1) 0 (by omega) (by omega)
    have h2 := ay_cd (lk := lk1) (lP := lP1) post (by omega) ⟨_, h1⟩ n 0 (by omega)
    rw [ar_cd_0] at h2
    obtain ⟨c, o, T, R, cT, cR, oT, oR, lo, la, lb, lt, lk, ln, lP, lq, ls, bl, bf, po, e1, rfl, hM, hZ1, hZ2, hc, hmo, hK, hb1, hb2, hb3⟩ := hG
    unfold wpY_tick
    exact hY1 _ ⟨_, h2⟩
  have hXall : ∀ post : Int32 → SX → Prop, (∀ op' A' B' tg' st' tk' hs' : Nat → Int32, (∀ j, j < m3 → op' j = op (e3 j)) → (∀ j, j < m3 → A' j = A (e3 j)) → (∀ j, j < m3 → B' j = B (e3 j)) → (∀ j, j < m3 → tg' j = tg (e3 j)) → (∀ j, j < m3 → st' j = st3 (e3 j)) → (∀ j, j < m3 → tk' j = tk3 (e3 j)) → (∀ j, j < m3 → hs' j = hs (e3 j)) → ar_B hs' → post (nI n - nI m3) (nI S, nI C, nI L, nI qF, nI qN, nI F, nI (c3 + o3), nI c3, nI m3, xO, xA, xB, xT, T3, R3, op', A', B', tg', st', tk', hs', bl3, bf3)) → wpX_tick post u := by
    intro post hp
    have h0 := hX3 post (ax_dropPosted _ hn hE3 hbh hp) (n + 1) (by omega)
    have h2 := ax_cd (st := st) (tk := tk) (S := S) (C := C) (L := L) (F := F) (qF := qF) (qN := qN) (c := c1) (o := o1) (n := n) (xO := xO) (xA := xA) (xB := xB) (xT := xT) (op := op) (A := A) (B := B) (tg := tg) (hs := hs) (T := T1) (R := R1) (bl := bl1) (bf := bf1) (fun w => match w with | (f_sqCapacity, f_cqCapacity, f_latency, f_sqFirst, f_sqCount, f_doneFirst, f_doneCount, f_cqCount, f_reqCount, a_sqOpFlags, a_sqA, a_sqB, a_sqTag, a_doneTag, a_doneResult, a_reqOpcode, a_reqA, a_reqB, a_reqTag, a_reqState, a_reqTicks, a_reqHasSuccessor, a_blocks, a_buffers) => ∃ n15 : Nat, wX_tick_15 post f_reqCount n15 0 f_sqCapacity f_cqCapacity f_latency f_sqFirst f_sqCount f_doneFirst f_doneCount f_cqCount f_reqCount a_sqOpFlags a_sqA a_sqB a_sqTag a_doneTag a_doneResult a_reqOpcode a_reqA a_reqB a_reqTag a_reqState a_reqTicks a_reqHasSuccessor a_blocks a_buffers) hn ⟨_, h0⟩ n 0 (by omega)
    rw [ar_cd_0] at h2
    obtain ⟨c, o, T, R, cT, cR, oT, oR, lo, la, lb, lt, lk, ln, lP, lq, ls, bl, bf, po, rfl, e2, hM, hZ1, hZ2, hc, hmo, hK, hb1, hb2, hb3⟩ := hG
    unfold wpX_tick
    exact hX1 _ ⟨_, h2⟩
  refine hXall _ (fun op' A' B' tg' st' tk' hs' d1 d2 d3 d4 d5 d6 d7 hb => hYall _ ⟨rfl, ?_⟩)
  exact ⟨S, C, L, F, m3, s, qF, qN, K, (fun j => q (e3 j)), xO, xA, xB, xT, yO, yA, yB, yT, op', A', B', tg', hs', hd, st', tk', mk3, wp3, ⟨c3, o3, T3, R3, cT3, cR3, oT3, oR3, lo3, la3, lb3, lt3, lk3, ln3, lP3, lq3, ls3, bl3, bf3, po3, rfl, rfl, (ar_M_drop hM3 d1 d2 d3 d4 d5 d6 d7).1, hZ13, hZ23, hc3, hmo3, hK3, hb13, hb23, hb33⟩, ⟨hC, by omega, hsz, hF, hL⟩, hw1, hw2, hw3, hw4, hS, hqS, hqF, by omega, hb⟩
end
section
/-- while entries are taken: n0 live requests before the call, n now -/
def ar_U (n0 n s0 : Nat) (q : Nat → Nat) (op A B tg st tk hs lo la lb lt lk ln lP : Nat → Int32) (lq ls : Nat → Int64) : Prop :=
  (∀ j, j < n → lo j = op j ∧ la j = A j ∧ lb j = B j ∧ lt j = tg j ∧ lk j = tk j ∧ lP j = ar_pd st j ∧ ¬ st j = 2) ∧
  (∀ j, j < n0 → lq j = lN (q j) ∧ ls j = ar_su hs q j) ∧
  (∀ j, n0 ≤ j → j < n → lq j = lN (s0 + (j - n0)) ∧ ls j = -1 ∧ ln j = hs j ∧ st j = 0) ∧
  ar_C n0 st hs ∧ ar_Q n0 s0 st hs q ∧ ar_P n0 st op A B
def ar_fl (x : Int32) : Int32 := if x &&& 16 = 0 then 0 else 1
theorem ar_fl_B (x : Int32) : ar_fl x = 0 ∨ ar_fl x = 1 := by
  unfold ar_fl
  by_cases h : x &&& 16 = 0
  · rw [if_pos h]; exact Or.inl rfl
  · rw [if_neg h]; exact Or.inr rfl
section
variable {n0 n s0 : Nat} {q : Nat → Nat} {op A B tg st tk hs lo la lb lt lk ln lP : Nat → Int32} {lq ls : Nat → Int64}
theorem ar_U_0 (h : ar_M n0 n0 s0 (fun j => j) q op A B tg st tk hs lo la lb lt lk lP lq ls) : ar_U n0 n0 s0 q op A B tg st tk hs lo la lb lt lk ln lP lq ls := by
  obtain ⟨hE, h1, h2, h3, h4, h5, h6, h7, h8, hC, hQ, hP⟩ := h
  exact ⟨fun j hj => ⟨h1 j hj, h2 j hj, h3 j hj, h4 j hj, h5 j hj, h6 j hj, (hE.2.1 j hj).2⟩, fun j hj => ⟨h7 j hj, h8 j hj⟩, fun j a b => absurd a (by omega), hC, hQ, hP⟩
theorem ar_U_S (h : ar_U n0 n s0 q op A B tg st tk hs lo la lb lt lk ln lP lq ls) (hn : n0 ≤ n) (fo fa fb ft fh : Int32) :
    ar_U n0 (n + 1) s0 q (upd op n fo) (upd A n fa) (upd B n fb) (upd tg n ft) (upd st n 0) (upd tk n 0) (upd hs n fh) (upd lo n fo) (upd la n fa) (upd lb n fb) (upd lt n ft) (upd lk n 0) (upd ln n fh) (upd lP n 0) (vp_updL lq n (lN (s0 + (n - n0)))) (vp_updL ls n (-1)) := by
  obtain ⟨h1, h2, h3, hC, hQ, hP⟩ := h
  refine ⟨fun j hj => ?_, fun j hj => ?_, fun j ha hj => ?_, ?_, ⟨hQ.1, ?_, hQ.2.2⟩, ?_⟩
  · by_cases e : j = n
    · subst e
      unfold ar_pd
      rw [pk_us, pk_us, pk_us, pk_us, pk_us, pk_us, pk_us, pk_us, pk_us, pk_us, pk_us, pk_us]
      exact ⟨rfl, rfl, rfl, rfl, rfl, rfl, ar_02⟩
    · unfold ar_pd
      rw [pk_un e, pk_un e, pk_un e, pk_un e, pk_un e, pk_un e, pk_un e, pk_un e, pk_un e, pk_un e, pk_un e, pk_un e]
      exact h1 j (by omega)
  · have e : j ≠ n := by omega
    unfold ar_su
    rw [pk_uLn e, pk_uLn e, pk_un e]
    exact h2 j hj
  · by_cases e : j = n
    · subst e
      rw [pk_uLs, pk_uLs, pk_us, pk_us, pk_us]
      exact ⟨rfl, rfl, rfl, rfl⟩
    · rw [pk_uLn e, pk_uLn e, pk_un e, pk_un e, pk_un e]
      exact h3 j ha (by omega)
  · intro p hp a b
    rw [pk_un (by omega)] at a b
    obtain ⟨c1, c2⟩ := hC p hp a b
    exact ⟨c1, by rw [pk_un (by omega)]; exact c2⟩
  · intro p hp a b
    rw [pk_un (by omega)] at a b
    exact hQ.2.1 p hp a b
  · intro p hp a
    rw [pk_un (by omega)] at a
    rw [pk_un (by omega), pk_un (by omega), pk_un (by omega)]
    exact hP p hp a
end
section
variable {S C L F n s qF qN c o m : Nat} {K po wp : Int32} {xO xA xB xT yO yA yB yT op A B tg hs hd T R st tk bl bf cT cR oT oR lo la lb lt lk ln lP mk : Nat → Int32} {lq ls : Nat → Int64}
theorem ar_m16 {a : Nat} (h : a < 2 ^ 30) : nI a + 1 - (nI a + 1) / 16 * 16 = nI ((a + 1) % 16) := by
  rw [nI_1]; exact pk_rem (d := 16) (by omega) (by decide) (by decide)
theorem ax_take (post : SX → Prop) {N : Nat} (hq : qF < 16) (hn : n < 32)
    (hp : post (nI S, nI C, nI L, nI ((qF + 1) % 16), nI N, nI F, nI (c + o), nI c, nI (n + 1), xO, xA, xB, xT, T, R, upd op n (xO qF &&& 15), upd A n (xA qF), upd B n (xB qF), upd tg n (xT qF), upd st n 0, upd tk n 0, upd hs n (ar_fl (xO qF)), bl, bf)) : wpX_takeEntry post (nI S, nI C, nI L, nI qF, nI (N + 1), nI F, nI (c + o), nI c, nI n, xO, xA, xB, xT, T, R, op, A, B, tg, st, tk, hs, bl, bf) := by
  have i0 : vp_in (nI qF) 16 := vp_in_nI hq (by omega)
  have i1 : vp_in (nI n) 32 := vp_in_nI hn (by omega)
  refine And.intro i0 (nm_r (e' := xO qF) (by rw [nI_clamp (by omega)]) ⟨i1, nm_r (ar_uc op _ (by omega)) ?_⟩)
  have key : ∀ z : Int32, z = ar_fl (xO qF) → wX_takeEntry_43 post z (nI n) (nI S) (nI C) (nI L) (nI qF) (nI (N + 1)) (nI F) (nI (c + o)) (nI c) (nI n) xO xA xB xT T R (upd op n (xO qF &&& 15)) A B tg st tk hs bl bf := by
    intro z hz
    subst hz
    exact And.intro i1 (nm_r (ar_ub hs _ (by omega) (ar_fl_B _)) ⟨i0, i1, nm_r (ar_ur A xA (by omega) (by omega)) ⟨i0, i1, nm_r (ar_ur B xB (by omega) (by omega)) ⟨i0, i1, nm_r (ar_ur tg xT (by omega) (by omega)) ⟨i1, nm_r (ar_uc st 0 (by omega)) ⟨i1, nm_r (ar_uc tk 0 (by omega)) (nm_r (nI_1 n) ⟨by decide, nm_r (ar_m16 (by omega)) (nm_r (nI_pred N) hp)⟩)⟩⟩⟩⟩⟩)
  exact br_c (fun h => key 0 (if_pos h).symm) (fun h => key 1 (if_neg h).symm)
theorem ay_212 (post : Int32 → SY → Prop) {J} {X1 : Int32} {X3 : Int64} {k N : Nat} (hN : N + 1 ≤ 16)
    (hJ : J (nI (k + 1)) (nI (k + 1)) (nI N) (nI m) (lN s) (ar_sh yO 0 (N + 1)) (ar_sh yA 0 (N + 1)) (ar_sh yB 0 (N + 1)) (ar_sh yT 0 (N + 1)) cT cR oT oR lo la lb lt lk ln lP mk lq ls hd bl bf) : ∀ d j, j + d = N → wY_enter_212 post J X1 (nI k) X3 (nI k) (nI S) (nI C) (nI L) (nI (N + 1)) (nI c) (nI o) (nI m) (lN s) po wp (d + 1) (nI j) (ar_sh yO 0 (j + 1)) (ar_sh yA 0 (j + 1)) (ar_sh yB 0 (j + 1)) (ar_sh yT 0 (j + 1)) cT cR oT oR lo la lb lt lk ln lP mk lq ls hd bl bf := by
  intro d
  induction d with
  | zero =>
    intro j hj
    have e : j = N := by omega
    subst e
    refine br_t ?_ (nm_r (nI_pred j) (nm_r (nI_1 k) (nm_r (nI_1 k) hJ)))
    rw [nI_pred]; exact nI_le (Nat.le_refl _) (by omega)
  | succ d ih =>
    intro j hj
    have a1 : ¬ nI (N + 1) - 1 ≤ nI j := by
      rw [nI_pred]; exact nI_ge (by omega) (by omega)
    have i1 : vp_in (nI j + 1) 16 := by rw [nI_1]; exact vp_in_nI (by omega) (by omega)
    have i0 : vp_in (nI j) 16 := vp_in_nI (by omega) (by omega)
    exact br_f a1 (br_f (nI_ge (b := 15) (by omega) (by decide)) ⟨i1, i0, nm_r (ar_st1 yO (by omega) (by omega)) ⟨i1, i0, nm_r (ar_st1 yA (by omega) (by omega)) ⟨i1, i0, nm_r (ar_st1 yB (by omega) (by omega)) ⟨i1, i0, nm_r (ar_st1 yT (by omega) (by omega)) (nm_r (nI_1 j) (ih (j + 1) (by omega)))⟩⟩⟩⟩)
theorem ay_take (post : Int32 → SY → Prop) {X1 : Int32} {X3 : Int64} {k N f : Nat} (hN : N + 1 ≤ 16) (hk : k < 16) (hx : ¬ X1 ≤ nI k) (hmo : m + o < 32)
    (hJ : wY_enter_14 post X1 X3 (nI S) (nI C) (nI L) (nI c) (nI o) po wp f (nI (k + 1)) (nI (k + 1)) (nI N) (nI (m + 1)) (lN (s + 1)) (ar_sh yO 0 (N + 1)) (ar_sh yA 0 (N + 1)) (ar_sh yB 0 (N + 1)) (ar_sh yT 0 (N + 1)) cT cR oT oR (upd lo m (yO 0 &&& 15)) (upd la m (yA 0)) (upd lb m (yB 0)) (upd lt m (yT 0)) (upd lk m 0) (upd ln m (ar_fl (yO 0))) (upd lP m 0) (upd mk m 0) (vp_updL lq m (lN s)) (vp_updL ls m (-1)) hd bl bf) :
    wY_enter_14 post X1 X3 (nI S) (nI C) (nI L) (nI c) (nI o) po wp (f + 1) (nI k) (nI k) (nI (N + 1)) (nI m) (lN s) yO yA yB yT cT cR oT oR lo la lb lt lk ln lP mk lq ls hd bl bf := by
  have i1 : vp_in (nI m) 32 := vp_in_nI (by omega) (by omega)
  have h212 := ay_212 (s := s + 1) (S := S) (C := C) (L := L) (c := c) (o := o) (po := po) (wp := wp) (yO := yO) (yA := yA) (yB := yB) (yT := yT) (X1 := X1) (X3 := X3) post hN hJ N 0 (by omega)
  rw [ar_sh0, ar_sh0, ar_sh0, ar_sh0] at h212
  refine br_f (nI_ge (b := 16) hk (by decide)) (br_f hx (br_f (nI_ne0 (by omega) (by omega)) (br_f (by rw [nI_add]; exact nI_ge (b := 32) hmo (by decide)) (br_t (nI_lt (b := 32) (by omega) (by decide)) ⟨i1, nm_r (ar_uc lo _ (by omega)) ?_⟩))))
  have key : ∀ z : Int32, z = ar_fl (yO 0) → wY_enter_104 post (wY_enter_14 post X1 X3 (nI S) (nI C) (nI L) (nI c) (nI o) po wp f) X1 (nI k) X3 (nI k) (nI m) z (nI m) (nI S) (nI C) (nI L) (nI (N + 1)) (nI c) (nI o) (nI m) (lN s) po wp yO yA yB yT cT cR oT oR (upd lo m (yO 0 &&& 15)) la lb lt lk ln lP mk lq ls hd bl bf := by
    intro z hz
    subst hz
    exact And.intro i1 (nm_r (ar_ub ln _ (by omega) (ar_fl_B _)) ⟨i1, nm_r (ar_uc la _ (by omega)) ⟨i1, nm_r (ar_uc lb _ (by omega)) ⟨i1, nm_r (ar_uc lt _ (by omega)) ⟨i1, nm_r (ar_uc lk _ (by omega)) ⟨i1, nm_r (ar_ub lP 0 (by omega) (Or.inl rfl)) ⟨i1, nm_r (ar_ub mk 0 (by omega) (Or.inl rfl)) ⟨i1, nm_r (ar_uL ls _ (by omega)) ⟨i1, nm_r (ar_uL lq _ (by omega)) (nm_r (lN_1 s) (nm_r (nI_1 m) ⟨_, h212⟩))⟩⟩⟩⟩⟩⟩⟩⟩)
  exact br_c (fun h => key 0 (if_pos h).symm) (fun h => key 1 (if_neg h).symm)
end
end
section
def lx_cs (post : SX → Prop) (a b c : Int32) (k : Nat) (x : Int32) (u : SX) : Prop := match u with
  | (f_sqCapacity, f_cqCapacity, f_latency, f_sqFirst, f_sqCount, f_doneFirst, f_doneCount, f_cqCount, f_reqCount, a_sqOpFlags, a_sqA, a_sqB, a_sqTag, a_doneTag, a_doneResult, a_reqOpcode, a_reqA, a_reqB, a_reqTag, a_reqState, a_reqTicks, a_reqHasSuccessor, a_blocks, a_buffers) => wX_consume_18 post a b c k x f_sqCapacity f_cqCapacity f_latency f_sqFirst f_sqCount f_doneFirst f_doneCount f_cqCount f_reqCount a_sqOpFlags a_sqA a_sqB a_sqTag a_doneTag a_doneResult a_reqOpcode a_reqA a_reqB a_reqTag a_reqState a_reqTicks a_reqHasSuccessor a_blocks a_buffers
def lx_52 (post : SX → Prop) (a : Int32) (u : SX) : Prop := match u with
  | (f_sqCapacity, f_cqCapacity, f_latency, f_sqFirst, f_sqCount, f_doneFirst, f_doneCount, f_cqCount, f_reqCount, a_sqOpFlags, a_sqA, a_sqB, a_sqTag, a_doneTag, a_doneResult, a_reqOpcode, a_reqA, a_reqB, a_reqTag, a_reqState, a_reqTicks, a_reqHasSuccessor, a_blocks, a_buffers) => wX_consume_52 post a f_sqCapacity f_cqCapacity f_latency f_sqFirst f_sqCount f_doneFirst f_doneCount f_cqCount f_reqCount a_sqOpFlags a_sqA a_sqB a_sqTag a_doneTag a_doneResult a_reqOpcode a_reqA a_reqB a_reqTag a_reqState a_reqTicks a_reqHasSuccessor a_blocks a_buffers
def ly_14 (post : Int32 → SY → Prop) (a : Int32) (b : Int64) (k : Nat) (x y : Int32) (v : SY) : Prop := match v with
  | (f_S, f_C, f_L, f_sqN, f_cqN, f_ovN, f_liveN, f_nextSeq, f_posts, f_wentPending, a_sqOp, a_sqA, a_sqB, a_sqTg, a_cqT, a_cqR, a_ovT, a_ovR, a_lOp, a_lA, a_lB, a_lTag, a_lTicks, a_lLink, a_lPend, a_lMark, a_lSeq, a_lSucc, a_head, a_block, a_buffer) => wY_enter_14 post a b f_S f_C f_L f_cqN f_ovN f_posts f_wentPending k x y f_sqN f_liveN f_nextSeq a_sqOp a_sqA a_sqB a_sqTg a_cqT a_cqR a_ovT a_ovR a_lOp a_lA a_lB a_lTag a_lTicks a_lLink a_lPend a_lMark a_lSeq a_lSucc a_head a_block a_buffer
def ly_322 (post : Int32 → SY → Prop) (a : Int32) (b : Int64) (k : Nat) (x : Int32) (v : SY) : Prop := match v with
  | (f_S, f_C, f_L, f_sqN, f_cqN, f_ovN, f_liveN, f_nextSeq, f_posts, f_wentPending, a_sqOp, a_sqA, a_sqB, a_sqTg, a_cqT, a_cqR, a_ovT, a_ovR, a_lOp, a_lA, a_lB, a_lTag, a_lTicks, a_lLink, a_lPend, a_lMark, a_lSeq, a_lSucc, a_head, a_block, a_buffer) => wY_enter_322 post a b f_S f_C f_L f_sqN f_cqN f_ovN f_liveN f_nextSeq f_posts f_wentPending k x a_sqOp a_sqA a_sqB a_sqTg a_cqT a_cqR a_ovT a_ovR a_lOp a_lA a_lB a_lTag a_lTicks a_lLink a_lPend a_lMark a_lSeq a_lSucc a_head a_block a_buffer
def ar_KG (S C L F s0 n0 o : Nat) (q : Nat → Nat) (xO xA xB xT hd : Nat → Int32) (k N : Nat) (u : SX) (v : SY) : Prop :=
  ∃ (c qF : Nat) (T R cT cR oT oR yO yA yB yT op A B tg st tk hs lo la lb lt lk ln lP mk : Nat → Int32) (lq ls : Nat → Int64) (bl bf : Nat → Int32) (po wp : Int32),
    u = (nI S, nI C, nI L, nI qF, nI N, nI F, nI (c + o), nI c, nI (n0 + k), xO, xA, xB, xT, T, R, op, A, B, tg, st, tk, hs, bl, bf) ∧ v = (nI S, nI C, nI L, nI N, nI c, nI o, nI (n0 + k), lN (s0 + k), po, wp, yO, yA, yB, yT, cT, cR, oT, oR, lo, la, lb, lt, lk, ln, lP, mk, lq, ls, hd, bl, bf) ∧ ar_U n0 (n0 + k) s0 q op A B tg st tk hs lo la lb lt lk ln lP lq ls ∧ ar_Z F c o T cT oT ∧ ar_Z F c o R cR oR ∧ c ≤ C ∧ n0 + k + o ≤ 32 ∧ ar_W qF N xO yO ∧ ar_W qF N xA yA ∧ ar_W qF N xB yB ∧ ar_W qF N xT yT ∧ qF < 16 ∧ ar_B hs ∧ ar_B ln ∧ ar_B lP ∧ ar_B mk
section
variable {S C L F s0 n0 o : Nat} {q : Nat → Nat} {xO xA xB xT hd : Nat → Int32}
theorem ar_take (X1 : Int32) : ∀ (N k : Nat) (u : SX) (v : SY), ar_KG S C L F s0 n0 o q xO xA xB xT hd k N u v → k + N ≤ 16 →
    ∃ k' N' u' v', k' + N' = k + N ∧ ar_KG S C L F s0 n0 o q xO xA xB xT hd k' N' u' v' ∧
      (∀ post : SX → Prop, lx_52 post (nI n0) u' → ∀ f, N < f → lx_cs post X1 (nI o) (nI n0) f (nI k) u) ∧
      (∀ post : Int32 → SY → Prop, (∃ f, ly_322 post (nI k') (lN s0) f 0 v') → ∀ f, N < f → ly_14 post X1 (lN s0) f (nI k) (nI k) v) := by
  intro N
  induction N with
  | zero =>
    intro k u v hG hk
    refine ⟨k, 0, u, v, rfl, hG, ?_, ?_⟩
    · intro post hp f hf
      obtain ⟨f', rfl⟩ : ∃ f', f = f' + 1 := ⟨f - 1, by omega⟩
      obtain ⟨c, qF, T, R, cT, cR, oT, oR, yO, yA, yB, yT, op, A, B, tg, st, tk, hs, lo, la, lb, lt, lk, ln, lP, mk, lq, ls, bl, bf, po, wp, rfl, rfl, hU, hZ1, hZ2, hc, hno, hw1, hw2, hw3, hw4, hqF, hb0, hb1, hb2, hb3⟩ := hG
      exact br_c (fun _ => hp) (fun _ => br_t (by decide) hp)
    · intro post hp f hf
      obtain ⟨f', rfl⟩ : ∃ f', f = f' + 1 := ⟨f - 1, by omega⟩
      obtain ⟨c, qF, T, R, cT, cR, oT, oR, yO, yA, yB, yT, op, A, B, tg, st, tk, hs, lo, la, lb, lt, lk, ln, lP, mk, lq, ls, bl, bf, po, wp, rfl, rfl, hU, hZ1, hZ2, hc, hno, hw1, hw2, hw3, hw4, hqF, hb0, hb1, hb2, hb3⟩ := hG
      exact br_c (fun _ => hp) (fun _ => br_c (fun _ => hp) (fun _ => br_t rfl hp))
  | succ N ih =>
    intro k u v hG hk
    by_cases hx : X1 ≤ nI k
    · refine ⟨k, N + 1, u, v, rfl, hG, ?_, ?_⟩
      · intro post hp f hf
        obtain ⟨f', rfl⟩ : ∃ f', f = f' + 1 := ⟨f - 1, by omega⟩
        obtain ⟨c, qF, T, R, cT, cR, oT, oR, yO, yA, yB, yT, op, A, B, tg, st, tk, hs, lo, la, lb, lt, lk, ln, lP, mk, lq, ls, bl, bf, po, wp, rfl, rfl, hU, hZ1, hZ2, hc, hno, hw1, hw2, hw3, hw4, hqF, hb0, hb1, hb2, hb3⟩ := hG
        exact br_t hx hp
      · intro post hp f hf
        obtain ⟨f', rfl⟩ : ∃ f', f = f' + 1 := ⟨f - 1, by omega⟩
        obtain ⟨c, qF, T, R, cT, cR, oT, oR, yO, yA, yB, yT, op, A, B, tg, st, tk, hs, lo, la, lb, lt, lk, ln, lP, mk, lq, ls, bl, bf, po, wp, rfl, rfl, hU, hZ1, hZ2, hc, hno, hw1, hw2, hw3, hw4, hqF, hb0, hb1, hb2, hb3⟩ := hG
        exact br_c (fun _ => hp) (fun _ => br_t hx hp)
    · by_cases hfull : 32 ≤ n0 + k + o
      · refine ⟨k, N + 1, u, v, rfl, hG, ?_, ?_⟩
        · intro post hp f hf
          obtain ⟨f', rfl⟩ : ∃ f', f = f' + 1 := ⟨f - 1, by omega⟩
          obtain ⟨c, qF, T, R, cT, cR, oT, oR, yO, yA, yB, yT, op, A, B, tg, st, tk, hs, lo, la, lb, lt, lk, ln, lP, mk, lq, ls, bl, bf, po, wp, rfl, rfl, hU, hZ1, hZ2, hc, hno, hw1, hw2, hw3, hw4, hqF, hb0, hb1, hb2, hb3⟩ := hG
          exact br_f hx (br_f (nI_nle (by omega) (by omega)) (br_t (by rw [nI_add]; exact nI_le (a := 32) hfull (by omega)) hp))
        · intro post hp f hf
          obtain ⟨f', rfl⟩ : ∃ f', f = f' + 1 := ⟨f - 1, by omega⟩
          obtain ⟨c, qF, T, R, cT, cR, oT, oR, yO, yA, yB, yT, op, A, B, tg, st, tk, hs, lo, la, lb, lt, lk, ln, lP, mk, lq, ls, bl, bf, po, wp, rfl, rfl, hU, hZ1, hZ2, hc, hno, hw1, hw2, hw3, hw4, hqF, hb0, hb1, hb2, hb3⟩ := hG
          exact br_c (fun _ => hp) (fun _ => br_f hx (br_f (nI_ne0 (by omega) (by omega)) (br_t (by rw [nI_add]; exact nI_le (a := 32) hfull (by omega)) hp)))
      · obtain ⟨c, qF, T, R, cT, cR, oT, oR, yO, yA, yB, yT, op, A, B, tg, st, tk, hs, lo, la, lb, lt, lk, ln, lP, mk, lq, ls, bl, bf, po, wp, rfl, rfl, hU, hZ1, hZ2, hc, hno, hw1, hw2, hw3, hw4, hqF, hb0, hb1, hb2, hb3⟩ := hG
        have hUS := ar_U_S hU (by omega) (yO 0 &&& 15) (yA 0) (yB 0) (yT 0) (ar_fl (yO 0))
        rw [show s0 + (n0 + k - n0) = s0 + k by omega] at hUS
        have e1 := ar_W_0 hw1 hqF
        have e2 := ar_W_0 hw2 hqF
        have e3 := ar_W_0 hw3 hqF
        have e4 := ar_W_0 hw4 hqF
        have hG' : ar_KG S C L F s0 n0 o q xO xA xB xT hd (k + 1) N
            (nI S, nI C, nI L, nI ((qF + 1) % 16), nI N, nI F, nI (c + o), nI c, nI (n0 + k + 1), xO, xA, xB, xT, T, R, upd op (n0 + k) (xO qF &&& 15), upd A (n0 + k) (xA qF), upd B (n0 + k) (xB qF), upd tg (n0 + k) (xT qF), upd st (n0 + k) 0, upd tk (n0 + k) 0, upd hs (n0 + k) (ar_fl (xO qF)), bl, bf)
            (nI S, nI C, nI L, nI N, nI c, nI o, nI (n0 + k + 1), lN (s0 + k + 1), po, wp, ar_sh yO 0 (N + 1), ar_sh yA 0 (N + 1), ar_sh yB 0 (N + 1), ar_sh yT 0 (N + 1), cT, cR, oT, oR, upd lo (n0 + k) (yO 0 &&& 15), upd la (n0 + k) (yA 0), upd lb (n0 + k) (yB 0), upd lt (n0 + k) (yT 0), upd lk (n0 + k) 0, upd ln (n0 + k) (ar_fl (yO 0)), upd lP (n0 + k) 0, upd mk (n0 + k) 0, vp_updL lq (n0 + k) (lN (s0 + k)), vp_updL ls (n0 + k) (-1), hd, bl, bf) := by
          rw [e1, e2, e3, e4]
          exact ⟨c, (qF + 1) % 16, T, R, cT, cR, oT, oR, _, _, _, _, _, _, _, _, _, _, _, _, _, _, _, _, _, _, _, _, _, bl, bf, po, wp, rfl, rfl, hUS, hZ1, hZ2, hc, by omega, ar_W_take hw1, ar_W_take hw2, ar_W_take hw3, ar_W_take hw4, by omega, ar_Bu hb0 (ar_fl_B _), ar_Bu hb1 (ar_fl_B _), ar_Bu hb2 (Or.inl rfl), ar_Bu hb3 (Or.inl rfl)⟩
        obtain ⟨k', N', u', v', a1, a2, a3, a4⟩ := ih (k + 1) _ _ hG' (by omega)
        refine ⟨k', N', u', v', by omega, a2, ?_, ?_⟩
        · intro post hp f hf
          obtain ⟨f', rfl⟩ : ∃ f', f = f' + 1 := ⟨f - 1, by omega⟩
          have h3 := a3 post hp f' (by omega)
          exact br_f hx (br_f (nI_nle (by omega) (by omega)) (br_f (by rw [nI_add]; exact nI_ge (b := 32) (by omega) (by decide)) (ax_take _ hqF (by omega) (nm_r (nI_1 k) h3))))
        · intro post hp f hf
          obtain ⟨f', rfl⟩ : ∃ f', f = f' + 1 := ⟨f - 1, by omega⟩
          have h4 := a4 post hp f' (by omega)
          exact ay_take post (by omega) (by omega) hx (by omega) h4
end
/-- the links set for the first i of the new ones -/
def ar_lf (ls : Nat → Int64) (hs : Nat → Int32) (q : Nat → Nat) (n0 i : Nat) : Nat → Int64 := fun j => if n0 ≤ j ∧ j < n0 + i then ar_su hs q j else ls j
def ar_hf (hs hd : Nat → Int32) (n0 i : Nat) : Nat → Int32 := fun j => if j < i then (if j = 0 ∨ hs (n0 + j - 1) = 0 then 1 else 0) else hd j
theorem ar_lf_0 {ls : Nat → Int64} {hs : Nat → Int32} {q : Nat → Nat} {n0 : Nat} : ar_lf ls hs q n0 0 = ls := by
  funext j
  exact if_neg (by omega)
theorem ar_hf_0 {hs hd : Nat → Int32} {n0 : Nat} : ar_hf hs hd n0 0 = hd := by
  funext j
  exact if_neg (by omega)
theorem ar_lf_k {ls : Nat → Int64} {hs : Nat → Int32} {q : Nat → Nat} {n0 i : Nat} (h : ls (n0 + i) = ar_su hs q (n0 + i)) : ar_lf ls hs q n0 (i + 1) = ar_lf ls hs q n0 i := by
  funext j
  unfold ar_lf
  by_cases e : j = n0 + i
  · rw [if_pos (by omega), if_neg (by omega), e, h]
  · by_cases z : n0 ≤ j ∧ j < n0 + i
    · rw [if_pos (by omega), if_pos z]
    · rw [if_neg (by omega), if_neg z]
theorem ar_lf_u {ls : Nat → Int64} {hs : Nat → Int32} {q : Nat → Nat} {n0 i : Nat} {x : Int64} (h : x = ar_su hs q (n0 + i)) : vp_updL (ar_lf ls hs q n0 i) (n0 + i) x = ar_lf ls hs q n0 (i + 1) := by
  funext j
  by_cases e : j = n0 + i
  · subst e
    rw [pk_uLs, h]
    unfold ar_lf
    rw [if_pos (by omega)]
  · rw [pk_uLn e]
    unfold ar_lf
    by_cases z : n0 ≤ j ∧ j < n0 + i
    · rw [if_pos z, if_pos (by omega)]
    · rw [if_neg z, if_neg (by omega)]
theorem ar_hf_u {hs hd : Nat → Int32} {n0 i : Nat} {x : Int32} (h : x = if i = 0 ∨ hs (n0 + i - 1) = 0 then 1 else 0) : upd (ar_hf hs hd n0 i) i x = ar_hf hs hd n0 (i + 1) := by
  funext j
  by_cases e : j = i
  · subst e
    rw [pk_us, h]
    unfold ar_hf
    rw [if_pos (show j < j + 1 by omega)]
  · rw [pk_un e]
    unfold ar_hf
    by_cases z : j < i
    · rw [if_pos z, if_pos (show j < i + 1 by omega)]
    · rw [if_neg z, if_neg (show ¬ j < i + 1 by omega)]
theorem ar_uu {a : Nat → Int32} {i : Nat} {x y : Int32} : upd (upd a i x) i y = upd a i y := by
  funext j
  by_cases e : j = i
  · subst e; rw [pk_us, pk_us]
  · rw [pk_un e, pk_un e, pk_un e]
section
variable {S C L F n s qF qN c o m : Nat} {K po wp : Int32} {xO xA xB xT yO yA yB yT op A B tg hs hd T R st tk bl bf cT cR oT oR lo la lb lt lk ln lP mk : Nat → Int32} {lq ls : Nat → Int64} {q : Nat → Nat}
theorem ay_390 (post : Int32 → SY → Prop) {J} {n0 k i s0 : Nat} {hd' : Nat → Int32} {ls' : Nat → Int64} (hm : m ≤ 32) (hk : n0 + k = m) (hi : i < k) (hs0 : s0 + 64 < 2 ^ 31) (hq : ∀ j, j < m → lq j = lN (q j)) (hqm : ∀ p r, p < r → r < m → q p < q r) (hqs : ∀ j, j < k → q (n0 + j) = s0 + j)
    (h1 : i + 1 < k → ¬ ln (n0 + i) = 0 → J (nI (i + 1)) yO yA yB yT cT cR oT oR lo la lb lt lk ln lP mk lq (vp_updL ls' (n0 + i) (lN (s0 + i + 1))) hd' bl bf) (h2 : (i + 1 < k → ln (n0 + i) = 0) → J (nI (i + 1)) yO yA yB yT cT cR oT oR lo la lb lt lk ln lP mk lq ls' hd' bl bf) : wY_enter_390 post J (nI k) (lN s0) (nI i) (nI S) (nI C) (nI L) (nI qN) (nI c) (nI o) (nI m) (lN s) po wp yO yA yB yT cT cR oT oR lo la lb lt lk ln lP mk lq ls' hd' bl bf := by
  have e1 : lN s0 + (nI i).toInt64 = lN (s0 + i) := by rw [nI_l (by omega), lN_add]
  have hqb : ∀ j, j < m → q j < 2 ^ 31 := by
    intro j hj
    have := hqs (k - 1) (by omega)
    by_cases z : j = m - 1
    · rw [z, show m - 1 = n0 + (k - 1) by omega]; omega
    · have := hqm j (n0 + (k - 1)) (by omega) (by omega); omega
  unfold wY_enter_390
  rw [e1]
  refine ay_findSeq (i := n0 + i) _ hm (by omega) (by rw [hq _ (by omega), hqs i hi]) (fun j hj w => ?_) ?_
  · rw [hq j (by omega), lN_eq (hqb j (by omega)) (by omega)] at w
    have := hqm j (n0 + i) hj (by omega)
    have := hqs i hi
    omega
  · by_cases z : i + 1 < k
    · refine br_f (by rw [show k = (k - 1) + 1 by omega, nI_pred]; exact nI_ge (by omega) (by omega)) (br_f (nI_pos (by omega)) ⟨vp_in_nI (by omega) (by omega), ?_⟩)
      by_cases y : ln (n0 + i) = 0
      · exact br_t (by rw [nI_clamp (by omega)]; exact y) (nm_r (nI_1 i) (h2 (fun _ => y)))
      · exact br_f (by rw [nI_clamp (by omega)]; exact y) ⟨vp_in_nI (by omega) (by omega), nm_r (by rw [nI_clamp (by omega), lN_1]) (nm_r (nI_1 i) (h1 z y))⟩
    · exact br_t (by rw [show k = (k - 1) + 1 by omega, nI_pred]; exact nI_le (by omega) (by omega)) (nm_r (nI_1 i) (h2 (fun w => absurd w z)))
theorem ay_link (post : Int32 → SY → Prop) {n0 k s0 : Nat} (hm : m ≤ 32) (hk : n0 + k = m) (hs0 : s0 + 64 < 2 ^ 31) (hq : ∀ j, j < m → lq j = lN (q j)) (hqm : ∀ p r, p < r → r < m → q p < q r) (hqs : ∀ j, j < k → q (n0 + j) = s0 + j)
    (hl : ∀ j, j < k → ls (n0 + j) = -1) (hln : ∀ j, j + 1 < k → ln (n0 + j) = hs (n0 + j)) (hlast : 0 < k → hs (n0 + k - 1) = 0)
    (hp : ∃ f, wY_enter_447 post (nI k) (lN s0) f 0 (nI S) (nI C) (nI L) (nI qN) (nI c) (nI o) (nI m) (lN s) po wp yO yA yB yT cT cR oT oR lo la lb lt lk ln lP mk lq (ar_lf ls hs q n0 k) (ar_hf hs hd n0 k) bl bf) : ∀ d i, i + d = k → wY_enter_322 post (nI k) (lN s0) (nI S) (nI C) (nI L) (nI qN) (nI c) (nI o) (nI m) (lN s) po wp (d + 1) (nI i) yO yA yB yT cT cR oT oR lo la lb lt lk ln lP mk lq (ar_lf ls hs q n0 i) (ar_hf hs hd n0 i) bl bf := by
  intro d
  induction d with
  | zero =>
    intro i hi
    have e : i = k := by omega
    subst e
    exact br_t (nI_le (Nat.le_refl _) (by omega)) hp
  | succ d ih =>
    intro i hi
    have i0 : vp_in (nI i) 32 := vp_in_nI (by omega) (by omega)
    have hih := ih (i + 1) (by omega)
    have hqi := hqs i (by omega)
    have e390 : wY_enter_390 post (wY_enter_322 post (nI k) (lN s0) (nI S) (nI C) (nI L) (nI qN) (nI c) (nI o) (nI m) (lN s) po wp (d + 1)) (nI k) (lN s0) (nI i) (nI S) (nI C) (nI L) (nI qN) (nI c) (nI o) (nI m) (lN s) po wp yO yA yB yT cT cR oT oR lo la lb lt lk ln lP mk lq (ar_lf ls hs q n0 i) (ar_hf hs hd n0 (i + 1)) bl bf := by
      refine ay_390 (q := q) post hm hk (by omega) hs0 hq hqm hqs (fun g1 g2 => ?_) (fun g => ?_)
      · rw [ar_lf_u]
        · exact hih
        · rw [hln i g1] at g2
          unfold ar_su
          rw [if_neg g2, hqi]
      · rw [← ar_lf_k]
        · exact hih
        · rw [hl i (by omega)]
          unfold ar_su
          rw [if_pos]
          by_cases z : i + 1 < k
          · rw [← hln i z]; exact g z
          · have := hlast (by omega)
            rw [show n0 + k - 1 = n0 + i by omega] at this
            exact this
    refine br_f (nI_ge (by omega) (by omega)) (br_f (nI_ge (b := 32) (by omega) (by decide)) ⟨i0, nm_r (ar_ub _ 1 (by omega) (Or.inr rfl)) ?_⟩)
    by_cases z : i = 0
    · subst z
      refine br_t (by decide) ?_
      rw [ar_hf_u (by rw [if_pos (Or.inl rfl)])]
      exact e390
    · refine br_f (nI_nle (by omega) (by omega)) ?_
      have e1 : lN s0 + (nI i).toInt64 - 1 = lN (s0 + i - 1) := by
        rw [nI_l (by omega), lN_add]; exact lN_sub (b := 1) (by omega)
      have hqb : ∀ j, j < m → q j < 2 ^ 31 := by
        intro j hj
        have := hqs (k - 1) (by omega)
        by_cases z : j = m - 1
        · rw [z, show m - 1 = n0 + (k - 1) by omega]; omega
        · have := hqm j (n0 + (k - 1)) (by omega) (by omega); omega
      have hqp := hqs (i - 1) (by omega)
      have hlp : ar_lf ls hs q n0 i (nI (n0 + i - 1)).toNatClampNeg = ar_su hs q (n0 + i - 1) := by
        rw [nI_clamp (by omega)]; exact if_pos (by omega)
      have hfin : ∀ x : Int32, (x = 0 ∨ x = 1) → (x = if i = 0 ∨ hs (n0 + i - 1) = 0 then 1 else 0) → wY_enter_389 post (wY_enter_322 post (nI k) (lN s0) (nI S) (nI C) (nI L) (nI qN) (nI c) (nI o) (nI m) (lN s) po wp (d + 1)) (nI k) (lN s0) (nI i) x (nI i) (nI S) (nI C) (nI L) (nI qN) (nI c) (nI o) (nI m) (lN s) po wp yO yA yB yT cT cR oT oR lo la lb lt lk ln lP mk lq (ar_lf ls hs q n0 i) (upd (ar_hf hs hd n0 i) i 1) bl bf := by
        intro x hx01 hx
        refine And.intro i0 (nm_r ((ar_ub _ x (by omega) hx01).trans (ar_uu.trans (ar_hf_u hx))) e390)
      rw [e1]
      refine ay_findSeq (i := n0 + i - 1) _ hm (by omega) ?_ (fun j hj w => ?_) (br_f (nI_pos (by omega)) ⟨vp_in_nI (by omega) (by omega), ?_⟩)
      · rw [hq _ (by omega), show n0 + i - 1 = n0 + (i - 1) by omega, hqp, show s0 + (i - 1) = s0 + i - 1 by omega]
      · rw [hq j (by omega), lN_eq (hqb j (by omega)) (by omega)] at w
        have := hqm j (n0 + (i - 1)) (by omega) (by omega)
        omega
      · rw [hlp]
        unfold ar_su
        by_cases y : hs (n0 + i - 1) = 0
        · rw [if_pos y]
          exact br_f (by decide) (hfin 1 (Or.inr rfl) (by rw [if_pos (Or.inr y)]))
        · rw [if_neg y]
          have nzy : ¬ (i = 0 ∨ hs (n0 + i - 1) = 0) := fun w => by
            rcases w with w | w
            · exact z w
            · exact y w
          refine br_t (ar_l0 ?_) (hfin 0 (Or.inl rfl) (by rw [if_neg nzy]))
          rw [show n0 + i - 1 = n0 + (i - 1) by omega]; omega
end
end
section
def lx_22 (post : Int32 → SX → Prop) (a b : Int32) (k : Nat) (x : Int32) (u : SX) : Prop := match u with
  | (f_sqCapacity, f_cqCapacity, f_latency, f_sqFirst, f_sqCount, f_doneFirst, f_doneCount, f_cqCount, f_reqCount, a_sqOpFlags, a_sqA, a_sqB, a_sqTag, a_doneTag, a_doneResult, a_reqOpcode, a_reqA, a_reqB, a_reqTag, a_reqState, a_reqTicks, a_reqHasSuccessor, a_blocks, a_buffers) => wX_enter_22 post a b k x f_sqCapacity f_cqCapacity f_latency f_sqFirst f_sqCount f_doneFirst f_doneCount f_cqCount f_reqCount a_sqOpFlags a_sqA a_sqB a_sqTag a_doneTag a_doneResult a_reqOpcode a_reqA a_reqB a_reqTag a_reqState a_reqTicks a_reqHasSuccessor a_blocks a_buffers
def lx_ee (post : Int32 → SX → Prop) (a b : Int32) (u : SX) : Prop := match u with
  | (f_sqCapacity, f_cqCapacity, f_latency, f_sqFirst, f_sqCount, f_doneFirst, f_doneCount, f_cqCount, f_reqCount, a_sqOpFlags, a_sqA, a_sqB, a_sqTag, a_doneTag, a_doneResult, a_reqOpcode, a_reqA, a_reqB, a_reqTag, a_reqState, a_reqTicks, a_reqHasSuccessor, a_blocks, a_buffers) => wpX_dropPosted (fun u => match u with | (f_sqCapacity, f_cqCapacity, f_latency, f_sqFirst, f_sqCount, f_doneFirst, f_doneCount, f_cqCount, f_reqCount, a_sqOpFlags, a_sqA, a_sqB, a_sqTag, a_doneTag, a_doneResult, a_reqOpcode, a_reqA, a_reqB, a_reqTag, a_reqState, a_reqTicks, a_reqHasSuccessor, a_blocks, a_buffers) => post (b - a) (f_sqCapacity, f_cqCapacity, f_latency, f_sqFirst, f_sqCount, f_doneFirst, f_doneCount, f_cqCount, f_reqCount, a_sqOpFlags, a_sqA, a_sqB, a_sqTag, a_doneTag, a_doneResult, a_reqOpcode, a_reqA, a_reqB, a_reqTag, a_reqState, a_reqTicks, a_reqHasSuccessor, a_blocks, a_buffers)) (f_sqCapacity, f_cqCapacity, f_latency, f_sqFirst, f_sqCount, f_doneFirst, f_doneCount, f_cqCount, f_reqCount, a_sqOpFlags, a_sqA, a_sqB, a_sqTag, a_doneTag, a_doneResult, a_reqOpcode, a_reqA, a_reqB, a_reqTag, a_reqState, a_reqTicks, a_reqHasSuccessor, a_blocks, a_buffers)
def ly_447 (post : Int32 → SY → Prop) (a : Int32) (b : Int64) (k : Nat) (x : Int32) (v : SY) : Prop := match v with
  | (f_S, f_C, f_L, f_sqN, f_cqN, f_ovN, f_liveN, f_nextSeq, f_posts, f_wentPending, a_sqOp, a_sqA, a_sqB, a_sqTg, a_cqT, a_cqR, a_ovT, a_ovR, a_lOp, a_lA, a_lB, a_lTag, a_lTicks, a_lLink, a_lPend, a_lMark, a_lSeq, a_lSucc, a_head, a_block, a_buffer) => wY_enter_447 post a b k x f_S f_C f_L f_sqN f_cqN f_ovN f_liveN f_nextSeq f_posts f_wentPending a_sqOp a_sqA a_sqB a_sqTg a_cqT a_cqR a_ovT a_ovR a_lOp a_lA a_lB a_lTag a_lTicks a_lLink a_lPend a_lMark a_lSeq a_lSucc a_head a_block a_buffer
def ly_ee (post : Int32 → SY → Prop) (a : Int32) (v : SY) : Prop := match v with
  | (f_S, f_C, f_L, f_sqN, f_cqN, f_ovN, f_liveN, f_nextSeq, f_posts, f_wentPending, a_sqOp, a_sqA, a_sqB, a_sqTg, a_cqT, a_cqR, a_ovT, a_ovR, a_lOp, a_lA, a_lB, a_lTag, a_lTicks, a_lLink, a_lPend, a_lMark, a_lSeq, a_lSucc, a_head, a_block, a_buffer) => post a (f_S, f_C, f_L, f_sqN, f_cqN, f_ovN, f_liveN, f_nextSeq, f_posts, f_wentPending, a_sqOp, a_sqA, a_sqB, a_sqTg, a_cqT, a_cqR, a_ovT, a_ovR, a_lOp, a_lA, a_lB, a_lTag, a_lTicks, a_lLink, a_lPend, a_lMark, a_lSeq, a_lSucc, a_head, a_block, a_buffer)
/-- the last of the new ones has no successor -/
def ar_he (hs : Nat → Int32) (n0 k : Nat) : Nat → Int32 := fun p => if 0 < k ∧ p = n0 + k - 1 then 0 else hs p
def ar_qe (q : Nat → Nat) (n0 s0 : Nat) : Nat → Nat := fun p => if p < n0 then q p else s0 + (p - n0)
theorem ar_he_0 {hs : Nat → Int32} {n0 : Nat} : ar_he hs n0 0 = hs := by
  funext p
  exact if_neg (by omega)
theorem ar_he_k {hs : Nat → Int32} {n0 k : Nat} (h : 0 < k) : upd hs (n0 + k - 1) 0 = ar_he hs n0 k := by
  funext p
  unfold ar_he
  by_cases e : p = n0 + k - 1
  · rw [if_pos ⟨h, e⟩, e, pk_us]
  · rw [if_neg (fun w => e w.2), pk_un e]
theorem ar_he_B {hs : Nat → Int32} {n0 k : Nat} (h : ar_B hs) : ar_B (ar_he hs n0 k) := by
  intro p
  unfold ar_he
  by_cases e : 0 < k ∧ p = n0 + k - 1
  · rw [if_pos e]; exact Or.inl rfl
  · rw [if_neg e]; exact h p
theorem ar_U_M {n0 k s0 : Nat} {q : Nat → Nat} {op A B tg st tk hs lo la lb lt lk ln lP : Nat → Int32} {lq ls : Nat → Int64} (h : ar_U n0 (n0 + k) s0 q op A B tg st tk hs lo la lb lt lk ln lP lq ls) :
    ar_M (n0 + k) (n0 + k) (s0 + k) (fun j => j) (ar_qe q n0 s0) op A B tg st tk (ar_he hs n0 k) lo la lb lt lk lP lq (ar_lf ls (ar_he hs n0 k) (ar_qe q n0 s0) n0 k) := by
  obtain ⟨h1, h2, h3, hC, hQ, hP⟩ := h
  have q0 : ∀ p, p < n0 → ar_qe q n0 s0 p = q p := fun p hp => if_pos hp
  have q1 : ∀ p, n0 ≤ p → ar_qe q n0 s0 p = s0 + (p - n0) := fun p hp => if_neg (by omega)
  have e0 : ∀ p, p < n0 → ar_he hs n0 k p = hs p := fun p hp => if_neg (by omega)
  have hl : ∀ p, n0 ≤ p → p < n0 + k → ¬ ar_he hs n0 k p = 0 → p + 1 < n0 + k := by
    intro p a b c
    by_cases e : p = n0 + k - 1
    · exact absurd (if_pos ⟨by omega, e⟩) c
    · omega
  refine ⟨ar_E_id (fun p hp => (h1 p hp).2.2.2.2.2.2), fun j hj => (h1 j hj).1, fun j hj => (h1 j hj).2.1, fun j hj => (h1 j hj).2.2.1, fun j hj => (h1 j hj).2.2.2.1, fun j hj => (h1 j hj).2.2.2.2.1, fun j hj => (h1 j hj).2.2.2.2.2.1, fun j hj => ?_, fun j hj => ?_, ?_, ⟨?_, ?_, ?_⟩, ?_⟩
  · show lq j = lN (ar_qe q n0 s0 j)
    by_cases z : j < n0
    · rw [q0 j z]; exact (h2 j z).1
    · rw [q1 j (by omega)]; exact (h3 j (by omega) hj).1
  · show ar_lf ls (ar_he hs n0 k) (ar_qe q n0 s0) n0 k j = ar_su (ar_he hs n0 k) (ar_qe q n0 s0) j
    unfold ar_lf
    by_cases z : j < n0
    · rw [if_neg (by omega), (h2 j z).2]
      unfold ar_su
      rw [e0 j z, q0 j z]
    · rw [if_pos (by omega)]
  · intro p hp a b
    by_cases z : p < n0
    · rw [e0 p z] at b
      obtain ⟨c1, c2⟩ := hC p z a b
      exact ⟨by omega, c2⟩
    · have := hl p (by omega) hp b
      exact ⟨this, (h3 (p + 1) (by omega) this).2.2.2⟩
  · intro p r hpr hr
    by_cases z : r < n0
    · rw [q0 p (by omega), q0 r z]; exact hQ.1 p r hpr z
    · rw [q1 r (by omega)]
      by_cases y : p < n0
      · rw [q0 p y]; have := hQ.2.2 p y; omega
      · rw [q1 p (by omega)]; omega
  · intro p hp a b
    by_cases z : p < n0
    · rw [e0 p z] at b
      obtain ⟨c1, c2⟩ := hC p z a b
      rw [q0 p z, q0 (p + 1) c1]; exact hQ.2.1 p z a b
    · rw [q1 p (by omega), q1 (p + 1) (by omega)]; omega
  · intro p hp
    by_cases z : p < n0
    · rw [q0 p z]; have := hQ.2.2 p z; omega
    · rw [q1 p (by omega)]; omega
  · intro p hp a
    by_cases z : p < n0
    · exact hP p z a
    · rw [(h3 p (by omega) hp).2.2.2] at a; exact absurd a ar_01
section
variable {S C L F n s qF qN m : Nat} {K wp : Int32} {q e : Nat → Nat} {xO xA xB xT yO yA yB yT op A B tg hs hd st tk mk : Nat → Int32} {u : SX} {v : SY}
theorem ar_eloop (hN : ar_N C L F n s) {n0 k s0 : Nat} (hk : n0 + k = n) (hq : ∀ j, j < k → q (n0 + j) = s0 + j) (hhd : ∀ j, j < k → hd j = if j = 0 ∨ hs (n0 + j - 1) = 0 then 1 else 0) (hfst : ∀ r, r + 1 = n0 → hs r = 0) :
    ∀ d i (st tk : Nat → Int32) (m : Nat) (e : Nat → Nat) (mk : Nat → Int32) (wp : Int32) (u : SX) (v : SY), i + d = k → ar_G S C L F n s qF qN K q xO xA xB xT yO yA yB yT op A B tg hs hd st tk m e mk wp u v → (∀ h, n0 + i ≤ h → (h = n0 ∨ hs (h - 1) = 0) → ∀ p, h ≤ p → p < n → st p = 0) →
    ∃ u' v' st' tk' m' e' mk' wp', ar_G S C L F n s qF qN K q xO xA xB xT yO yA yB yT op A B tg hs hd st' tk' m' e' mk' wp' u' v' ∧
      (∀ post : Int32 → SX → Prop, lx_ee post (nI n0) (nI n) u' → ∀ f, d < f → lx_22 post (nI n0) (nI n) f (nI (n0 + i)) u) ∧ (∀ post : Int32 → SY → Prop, ly_ee post (nI k) v' → ∀ f, d < f → ly_447 post (nI k) (lN s0) f (nI i) v) := by
  have hN' := hN
  obtain ⟨hC, hn, hsz, hF, hL⟩ := hN'
  intro d
  induction d with
  | zero =>
    intro i st tk m e mk wp u v hi hG hInv
    refine ⟨u, v, st, tk, m, e, mk, wp, hG, ?_, ?_⟩
    · intro post hp f hf
      obtain ⟨f', rfl⟩ : ∃ f', f = f' + 1 := ⟨f - 1, by omega⟩
      obtain ⟨c, o, T, R, cT, cR, oT, oR, lo, la, lb, lt, lk, ln, lP, lq, ls, bl, bf, po, rfl, rfl, hM, hZ1, hZ2, hc, hmo, hK, hb1, hb2, hb3⟩ := hG
      exact br_t (nI_le (by omega) (by omega)) hp
    · intro post hp f hf
      obtain ⟨f', rfl⟩ : ∃ f', f = f' + 1 := ⟨f - 1, by omega⟩
      obtain ⟨c, o, T, R, cT, cR, oT, oR, lo, la, lb, lt, lk, ln, lP, lq, ls, bl, bf, po, rfl, rfl, hM, hZ1, hZ2, hc, hmo, hK, hb1, hb2, hb3⟩ := hG
      exact br_t (nI_le (by omega) (by omega)) hp
  | succ d ih =>
    intro i st tk m e mk wp u v hi hG hInv
    have hqi := hq i (by omega)
    have hdi := hhd i (by omega)
    have hqs := (ar_G_Q hG).2.2 (n0 + i) (by omega)
    have i0 : vp_in (nI i) 32 := vp_in_nI (by omega) (by omega)
    by_cases hz : i = 0 ∨ hs (n0 + i - 1) = 0
    · rw [if_pos hz] at hdi
      have hst : st (n0 + i) = 0 := by
        refine hInv (n0 + i) (Nat.le_refl _) ?_ (n0 + i) (Nat.le_refl _) (by omega)
        rcases hz with z | z
        · exact Or.inl (by omega)
        · exact Or.inr z
      have hH : ar_H st hs (n0 + i) := by
        intro r hr
        rcases hz with z | z
        · exact Or.inr (hfst r (by omega))
        · rw [show n0 + i - 1 = r by omega] at z; exact Or.inr z
      obtain ⟨u2, v2, st2, tk2, m2, e2, mk2, wp2, hG2, hF2, hX2, hY2⟩ := ar_run hN (d + 1) (n0 + i) st tk m e mk wp u v (by omega) (by omega) hG hst hH
      obtain ⟨u3, v3, st3, tk3, m3, e3, mk3, wp3, hG3, hX3, hY3⟩ := ih (i + 1) st2 tk2 m2 e2 mk2 wp2 u2 v2 (by omega) hG2 (fun h h1 h2 p h3 h4 => by
        have h5 : hs (h - 1) = 0 := by
          rcases h2 with z | z
          · omega
          · exact z
        exact hF2.2 h (by omega) h5 (hInv h (by omega) (Or.inr h5)) p h3 h4)
      refine ⟨u3, v3, st3, tk3, m3, e3, mk3, wp3, hG3, ?_, ?_⟩
      · intro post hp f hf
        obtain ⟨f', rfl⟩ : ∃ f', f = f' + 1 := ⟨f - 1, by omega⟩
        have hX3' := hX3 post hp f' (by omega)
        have hrun : ∀ P : SX → Prop, P u2 → wpX_runChain P u (nI (n0 + i)) := fun P hP => lx_rc_w P (d + 2) _ u (hX2 P hP (d + 2) (by omega))
        obtain ⟨c, o, T, R, cT, cR, oT, oR, lo, la, lb, lt, lk, ln, lP, lq, ls, bl, bf, po, rfl, rfl, hM, hZ1, hZ2, hc, hmo, hK, hb1, hb2, hb3⟩ := hG
        obtain ⟨c2, o2, T2, R2, cT2, cR2, oT2, oR2, lo2, la2, lb2, lt2, lk2, ln2, lP2, lq2, ls2, bl2, bf2, po2, rfl, rfl, hM2, hZ12, hZ22, hc2, hmo2, hK2, hb12, hb22, hb32⟩ := hG2
        have h46 : wX_enter_46 post (wX_enter_22 post (nI n0) (nI n) f') (nI n0) (nI n) (nI (n0 + i)) (nI S) (nI C) (nI L) (nI qF) (nI qN) (nI F) (nI (c + o)) (nI c) (nI n) xO xA xB xT T R op A B tg st tk hs bl bf := by
          unfold wX_enter_46
          exact hrun _ (nm_r (nI_1 (n0 + i)) hX3')
        refine br_f (nI_ge (by omega) (by omega)) ?_
        by_cases y : i = 0
        · exact br_t (by rw [y]; rfl) h46
        · have z : hs (n0 + i - 1) = 0 := by
            rcases hz with z | z
            · exact absurd z y
            · exact z
          have e1 : nI (n0 + i) - 1 = nI (n0 + i - 1) := by
            have := nI_pred (n0 + i - 1)
            rw [show n0 + i - 1 + 1 = n0 + i by omega] at this
            exact this
          exact br_f (by rw [nI_eq (by omega) (by omega)]; omega) ⟨by rw [e1]; exact vp_in_nI (by omega) (by omega), br_t (by rw [e1, nI_clamp (by omega)]; exact z) h46⟩
      · intro post hp f hf
        obtain ⟨f', rfl⟩ : ∃ f', f = f' + 1 := ⟨f - 1, by omega⟩
        have hY3' := hY3 post hp f' (by omega)
        have e1 : lN s0 + (nI i).toInt64 = lN (q (n0 + i)) := by rw [nI_l (by omega), lN_add, hqi]
        have hrun : ∀ P : SY → Prop, P v2 → wpY_runChain P v (lN (q (n0 + i))) 1 0 := fun P hP => ly_rc_w P (d + 2) 1 0 _ v (hY2 P hP (d + 2) 0 0 (by omega) (by omega))
        obtain ⟨c, o, T, R, cT, cR, oT, oR, lo, la, lb, lt, lk, ln, lP, lq, ls, bl, bf, po, rfl, rfl, hM, hZ1, hZ2, hc, hmo, hK, hb1, hb2, hb3⟩ := hG
        obtain ⟨c2, o2, T2, R2, cT2, cR2, oT2, oR2, lo2, la2, lb2, lt2, lk2, ln2, lP2, lq2, ls2, bl2, bf2, po2, rfl, rfl, hM2, hZ12, hZ22, hc2, hmo2, hK2, hb12, hb22, hb32⟩ := hG2
        refine br_f (nI_ge (by omega) (by omega)) (br_f (nI_ge (b := 32) (by omega) (by decide)) ⟨i0, br_f (by rw [nI_clamp (by omega), hdi]; exact ar_10) ?_⟩)
        rw [e1]
        exact hrun _ (nm_r (nI_1 i) hY3')
    · rw [if_neg hz] at hdi
      have hi0 : ¬ i = 0 := fun w => hz (Or.inl w)
      obtain ⟨u3, v3, st3, tk3, m3, e3, mk3, wp3, hG3, hX3, hY3⟩ := ih (i + 1) st tk m e mk wp u v (by omega) hG (fun h h1 => hInv h (by omega))
      refine ⟨u3, v3, st3, tk3, m3, e3, mk3, wp3, hG3, ?_, ?_⟩
      · intro post hp f hf
        obtain ⟨f', rfl⟩ : ∃ f', f = f' + 1 := ⟨f - 1, by omega⟩
        have hX3' := hX3 post hp f' (by omega)
        obtain ⟨c, o, T, R, cT, cR, oT, oR, lo, la, lb, lt, lk, ln, lP, lq, ls, bl, bf, po, rfl, rfl, hM, hZ1, hZ2, hc, hmo, hK, hb1, hb2, hb3⟩ := hG
        have e1 : nI (n0 + i) - 1 = nI (n0 + i - 1) := by
          have := nI_pred (n0 + i - 1)
          rw [show n0 + i - 1 + 1 = n0 + i by omega] at this
          exact this
        exact br_f (nI_ge (by omega) (by omega)) (br_f (by rw [nI_eq (by omega) (by omega)]; omega) ⟨by rw [e1]; exact vp_in_nI (by omega) (by omega), br_f (by rw [e1, nI_clamp (by omega)]; exact fun w => hz (Or.inr w)) (nm_r (nI_1 (n0 + i)) hX3')⟩)
      · intro post hp f hf
        obtain ⟨f', rfl⟩ : ∃ f', f = f' + 1 := ⟨f - 1, by omega⟩
        have hY3' := hY3 post hp f' (by omega)
        obtain ⟨c, o, T, R, cT, cR, oT, oR, lo, la, lb, lt, lk, ln, lP, lq, ls, bl, bf, po, rfl, rfl, hM, hZ1, hZ2, hc, hmo, hK, hb1, hb2, hb3⟩ := hG
        exact br_f (nI_ge (by omega) (by omega)) (br_f (nI_ge (b := 32) (by omega) (by decide)) ⟨i0, br_t (by rw [nI_clamp (by omega)]; exact hdi) (nm_r (nI_1 i) hY3')⟩)
end
end
section
theorem i_vc_enter {k : Nat} {u : SX} {v : SY} (I : i_Rel k u v) (hk : k + 5 ≤ 2563) (v1 : Int32) : wpX_enter (fun r u' => wpY_enter (fun r' v' => r' = r ∧ i_Rel (k + 5) u' v') v v1) u v1 := by
  obtain ⟨S, C, L, F, n0, s, qF0, qN, K, q, xO, xA, xB, xT, yO0, yA0, yB0, yT0, op0, A0, B0, tg0, hs0, hd, st0, tk0, mk0, wp0, hG, hI⟩ := I
  obtain ⟨hN0, hw01, hw02, hw03, hw04, hS, hqS, hqF0, hsk, hbh⟩ := hI
  have hN' := hN0
  obtain ⟨hC, hn0, hsz, hF, hL⟩ := hN'
  obtain ⟨u1, v1', hG1, hX1, hY1⟩ := ar_flush hN0 hG
  have hC0 := ar_G_C hG
  have hE0 := ar_G_E hG
  have hlast0 : ∀ r, r + 1 = n0 → hs0 r = 0 := by
    intro r hr
    by_cases z : hs0 r = 0
    · exact z
    · have := (hC0 r (by omega) (hE0.2.1 r (by omega)).2 z).1
      omega
  obtain ⟨c1, o, T1, R1, cT1, cR1, oT1, oR1, lo1, la1, lb1, lt1, lk1, ln1, lP1, lq1, ls1, bl1, bf1, po1, rfl, rfl, hM1, hZ11, hZ21, hc1, hmo1, hK1, hb11, hb21, hb31⟩ := hG1
  obtain ⟨k', N', u2, v2, a1, hKG, hX2, hY2⟩ := ar_take (S := S) (C := C) (L := L) (F := F) (s0 := s) (n0 := n0) (o := o) (q := q) (xO := xO) (xA := xA) (xB := xB) (xT := xT) (hd := hd) v1 qN 0 _ _
    ⟨c1, qF0, T1, R1, cT1, cR1, oT1, oR1, yO0, yA0, yB0, yT0, op0, A0, B0, tg0, st0, tk0, hs0, lo1, la1, lb1, lt1, lk1, ln1, lP1, mk0, lq1, ls1, bl1, bf1, po1, wp0, rfl, rfl, ar_U_0 hM1, hZ11, hZ21, hc1, by omega, hw01, hw02, hw03, hw04, hqF0, hbh, hb11, hb21, hb31⟩ (by omega)
  obtain ⟨c, qF, T, R, cT, cR, oT, oR, yO, yA, yB, yT, op, A, B, tg, st, tk, hs, lo, la, lb, lt, lk, ln, lP, mk, lq, ls, bl, bf, po, wp, rfl, rfl, hU, hZ1, hZ2, hc, hno, hw1, hw2, hw3, hw4, hqF, hb0, hb1, hb2, hb3⟩ := hKG
  have hM := ar_U_M hU
  have hNn : ar_N C L F (n0 + k') (s + k') := ⟨hC, by omega, by omega, hF, hL⟩
  have q1 : ∀ j, j < k' → ar_qe q n0 s (n0 + j) = s + j := fun j hj => (if_neg (by omega)).trans (by rw [show n0 + j - n0 = j by omega])
  have hst : ∀ p, n0 ≤ p → p < n0 + k' → st p = 0 := fun p h1 h2 => (hU.2.2.1 p h1 h2).2.2.2
  have hfst : ∀ r, r + 1 = n0 → ar_he hs n0 k' r = 0 := by
    intro r hr
    have e1 : ar_he hs n0 k' r = hs r := if_neg (by omega)
    rw [e1]
    by_cases z : hs r = 0
    · exact z
    · have := (hU.2.2.2.1 r (by omega) (hU.1 r (by omega)).2.2.2.2.2.2 z).1
      omega
  have hG3 : ar_G S C L F (n0 + k') (s + k') qF N' (po + nI (n0 + k')) (ar_qe q n0 s) xO xA xB xT yO yA yB yT op A B tg (ar_he hs n0 k') (ar_hf (ar_he hs n0 k') hd n0 k') st tk (n0 + k') (fun j => j) mk wp
      (nI S, nI C, nI L, nI qF, nI N', nI F, nI (c + o), nI c, nI (n0 + k'), xO, xA, xB, xT, T, R, op, A, B, tg, st, tk, ar_he hs n0 k', bl, bf) (nI S, nI C, nI L, nI N', nI c, nI o, nI (n0 + k'), lN (s + k'), po, wp, yO, yA, yB, yT, cT, cR, oT, oR, lo, la, lb, lt, lk, ln, lP, mk, lq, ar_lf ls (ar_he hs n0 k') (ar_qe q n0 s) n0 k', ar_hf (ar_he hs n0 k') hd n0 k', bl, bf) :=
    ⟨c, o, T, R, cT, cR, oT, oR, lo, la, lb, lt, lk, ln, lP, lq, _, bl, bf, po, rfl, rfl, hM, hZ1, hZ2, hc, by omega, rfl, hb1, hb2, hb3⟩
  obtain ⟨u3, v3, st3, tk3, m3, e3, mk3, wp3, hG4, hX3, hY3⟩ := ar_eloop hNn (n0 := n0) (k := k') (s0 := s) rfl q1 (fun j hj => if_pos hj) hfst k' 0 st tk (n0 + k') (fun j => j) mk wp _ _ (by omega) hG3 (fun h h1 _ p h3 h4 => hst p (by omega) h4)
  have hE3 := ar_G_E hG4
  have hmn3 := ar_E_le hE3
  obtain ⟨c3, o3, T3, R3, cT3, cR3, oT3, oR3, lo3, la3, lb3, lt3, lk3, ln3, lP3, lq3, ls3, bl3, bf3, po3, rfl, rfl, hM3, hZ13, hZ23, hc3, hmo3, hK3, hb13, hb23, hb33⟩ := hG4
  have hYall : ∀ post : Int32 → SY → Prop, post (nI k') (nI S, nI C, nI L, nI N', nI c3, nI o3, nI m3, lN (s + k'), po3, wp3, yO, yA, yB, yT, cT3, cR3, oT3, oR3, lo3, la3, lb3, lt3, lk3, ln3, lP3, mk3, lq3, ls3, ar_hf (ar_he hs n0 k') hd n0 k', bl3, bf3) → wpY_enter post v v1 := by
    intro post hp
    have h1 := hY3 post hp (k' + 1) (by omega)
    have h2 := ay_link (hs := ar_he hs n0 k') (hd := hd) (ls := ls) (q := ar_qe q n0 s) (ln := ln) (n0 := n0) (k := k') (s0 := s) (m := n0 + k') post (by omega) rfl (by omega) (fun j hj => hM.2.2.2.2.2.2.2.1 j hj) (hM.2.2.2.2.2.2.2.2.2.2.1.1) q1 (fun j hj => (hU.2.2.1 (n0 + j) (by omega) (by omega)).2.1)
      (fun j hj => ((hU.2.2.1 (n0 + j) (by omega) (by omega)).2.2.1).trans (if_neg (by omega)).symm) (fun h => if_pos ⟨h, rfl⟩) ⟨_, h1⟩ k' 0 (by omega)
    rw [ar_hf_0, ar_lf_0] at h2
    have h3 := hY2 post ⟨k' + 1, h2⟩ (qN + 1) (by omega)
    obtain ⟨c9, o9, T9, R9, cT9, cR9, oT9, oR9, lo9, la9, lb9, lt9, lk9, ln9, lP9, lq9, ls9, bl9, bf9, po9, e9, rfl, hM9, hZ19, hZ29, hc9, hmo9, hK9, hb19, hb29, hb39⟩ := hG
    unfold wpY_enter
    exact hY1 _ ⟨_, h3⟩
  have hXall : ∀ post : Int32 → SX → Prop, (∀ op' A' B' tg' st' tk' hs' : Nat → Int32, (∀ j, j < m3 → op' j = op (e3 j)) → (∀ j, j < m3 → A' j = A (e3 j)) → (∀ j, j < m3 → B' j = B (e3 j)) → (∀ j, j < m3 → tg' j = tg (e3 j)) → (∀ j, j < m3 → st' j = st3 (e3 j)) → (∀ j, j < m3 → tk' j = tk3 (e3 j)) → (∀ j, j < m3 → hs' j = ar_he hs n0 k' (e3 j)) → ar_B hs' → post (nI (n0 + k') - nI n0) (nI S, nI C, nI L, nI qF, nI N', nI F, nI (c3 + o3), nI c3, nI m3, xO, xA, xB, xT, T3, R3, op', A', B', tg', st', tk', hs', bl3, bf3)) → wpX_enter post u v1 := by
    intro post hp
    have h0 := hX3 post (ax_dropPosted _ (by omega) hE3 (ar_he_B hb0) hp) (k' + 1) (by omega)
    have h1 := hX2 (fun w => match w with | (f_sqCapacity, f_cqCapacity, f_latency, f_sqFirst, f_sqCount, f_doneFirst, f_doneCount, f_cqCount, f_reqCount, a_sqOpFlags, a_sqA, a_sqB, a_sqTag, a_doneTag, a_doneResult, a_reqOpcode, a_reqA, a_reqB, a_reqTag, a_reqState, a_reqTicks, a_reqHasSuccessor, a_blocks, a_buffers) => ∃ n22 : Nat, wX_enter_22 post (nI n0) f_reqCount n22 (nI n0) f_sqCapacity f_cqCapacity f_latency f_sqFirst f_sqCount f_doneFirst f_doneCount f_cqCount f_reqCount a_sqOpFlags a_sqA a_sqB a_sqTag a_doneTag a_doneResult a_reqOpcode a_reqA a_reqB a_reqTag a_reqState a_reqTicks a_reqHasSuccessor a_blocks a_buffers) (by
      by_cases z : k' = 0
      · subst z
        rw [ar_he_0] at h0
        exact br_t (nI_le (by omega) (by omega)) ⟨_, h0⟩
      · have e1 : nI (n0 + k') - 1 = nI (n0 + k' - 1) := by
          have := nI_pred (n0 + k' - 1)
          rw [show n0 + k' - 1 + 1 = n0 + k' by omega] at this
          exact this
        refine br_f (nI_ge (by omega) (by omega)) ⟨by rw [e1]; exact vp_in_nI (by omega) (by omega), nm_r (e' := ar_he hs n0 k') ?_ ⟨_, h0⟩⟩
        rw [e1, ar_ub hs 0 (by omega) (Or.inl rfl), ar_he_k (by omega)]) (qN + 1) (by omega)
    have e2 : nI (c1 + o) - nI c1 = nI o := by rw [pk_sub (by omega), show c1 + o - c1 = o by omega]
    obtain ⟨c9, o9, T9, R9, cT9, cR9, oT9, oR9, lo9, la9, lb9, lt9, lk9, ln9, lP9, lq9, ls9, bl9, bf9, po9, rfl, e9, hM9, hZ19, hZ29, hc9, hmo9, hK9, hb19, hb29, hb39⟩ := hG
    unfold wpX_enter
    exact hX1 _ (nm_r e2 ⟨_, h1⟩)
  refine hXall _ (fun op' A' B' tg' st' tk' hs' d1 d2 d3 d4 d5 d6 d7 hb => hYall _ ⟨?_, ?_⟩)
  · rw [pk_sub (by omega), show n0 + k' - n0 = k' by omega]
  · exact ⟨S, C, L, F, m3, s + k', qF, N', po + nI (n0 + k'), (fun j => ar_qe q n0 s (e3 j)), xO, xA, xB, xT, yO, yA, yB, yT, op', A', B', tg', hs', _, st', tk', mk3, wp3, ⟨c3, o3, T3, R3, cT3, cR3, oT3, oR3, lo3, la3, lb3, lt3, lk3, ln3, lP3, lq3, ls3, bl3, bf3, po3, rfl, rfl, (ar_M_drop hM3 d1 d2 d3 d4 d5 d6 d7).1, hZ13, hZ23, hc3, hmo3, hK3, hb13, hb23, hb33⟩, ⟨hC, by omega, by omega, hF, hL⟩, hw1, hw2, hw3, hw4, hS, by omega, hqF, by omega, hb⟩
end
