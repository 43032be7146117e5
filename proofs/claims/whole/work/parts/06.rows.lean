def lx_cp (post : Int32 → SX → Prop) (a : Int32) (k : Nat) (x y : Int32) (u : SX) : Prop := match u with
  | (f_sqCapacity, f_cqCapacity, f_latency, f_sqFirst, f_sqCount, f_doneFirst, f_doneCount, f_cqCount, f_reqCount, a_sqOpFlags, a_sqA, a_sqB, a_sqTag, a_doneTag, a_doneResult, a_reqOpcode, a_reqA, a_reqB, a_reqTag, a_reqState, a_reqTicks, a_reqHasSuccessor, a_blocks, a_buffers) => wX_cancelPending_4 post a k x y f_sqCapacity f_cqCapacity f_latency f_sqFirst f_sqCount f_doneFirst f_doneCount f_cqCount f_reqCount a_sqOpFlags a_sqA a_sqB a_sqTag a_doneTag a_doneResult a_reqOpcode a_reqA a_reqB a_reqTag a_reqState a_reqTicks a_reqHasSuccessor a_blocks a_buffers
theorem lx_cp_w (post : Int32 → SX → Prop) (a : Int32) (k : Nat) : ∀ u : SX, lx_cp post a k 0 0 u → wpX_cancelPending post u a
  | (f_sqCapacity, f_cqCapacity, f_latency, f_sqFirst, f_sqCount, f_doneFirst, f_doneCount, f_cqCount, f_reqCount, a_sqOpFlags, a_sqA, a_sqB, a_sqTag, a_doneTag, a_doneResult, a_reqOpcode, a_reqA, a_reqB, a_reqTag, a_reqState, a_reqTicks, a_reqHasSuccessor, a_blocks, a_buffers), h => ⟨k, h⟩
def ly_dc (post : Int32 → SY → Prop) (x : Int32) (k : Nat) (y : Int32) (v : SY) : Prop := match v with
  | (f_S, f_C, f_L, f_sqN, f_cqN, f_ovN, f_liveN, f_nextSeq, f_posts, f_wentPending, a_sqOp, a_sqA, a_sqB, a_sqTg, a_cqT, a_cqR, a_ovT, a_ovR, a_lOp, a_lA, a_lB, a_lTag, a_lTicks, a_lLink, a_lPend, a_lMark, a_lSeq, a_lSucc, a_head, a_block, a_buffer) => wY_doCancel_68 post x k y f_S f_C f_L f_sqN f_cqN f_ovN f_liveN f_nextSeq f_posts f_wentPending a_sqOp a_sqA a_sqB a_sqTg a_cqT a_cqR a_ovT a_ovR a_lOp a_lA a_lB a_lTag a_lTicks a_lLink a_lPend a_lMark a_lSeq a_lSucc a_head a_block a_buffer
/-- the marks set below j -/
def ar_mf (lP lt : Nat → Int32) (a : Int32) (mk : Nat → Int32) (j : Nat) : Nat → Int32 := fun p => if p < j then (if ¬ lP p = 0 ∧ lt p = a then 1 else 0) else mk p
def ar_cl (mk : Nat → Int32) (j : Nat) : Nat → Int32 := fun p => if p < j then 0 else mk p
def ar_mp (lP lt : Nat → Int32) (a : Int32) : Nat → Bool := fun j => decide (¬ lP j = 0 ∧ lt j = a)
def ar_rs (k : Nat) : Int32 := if k = 0 then -2 else nI k
theorem ar_mf_S {lP lt : Nat → Int32} {a : Int32} {mk : Nat → Int32} {j : Nat} {x : Int32} (hx : x = if ¬ lP j = 0 ∧ lt j = a then 1 else 0) : upd (ar_mf lP lt a mk j) j x = ar_mf lP lt a mk (j + 1) := by
  funext p
  by_cases h : p = j
  · subst h
    rw [pk_us, hx]
    unfold ar_mf
    rw [if_pos (show p < p + 1 by omega)]
  · rw [pk_un h]
    unfold ar_mf
    by_cases h2 : p < j
    · rw [if_pos h2, if_pos (show p < j + 1 by omega)]
    · rw [if_neg h2, if_neg (show ¬ p < j + 1 by omega)]
theorem ar_mf_B {lP lt : Nat → Int32} {a : Int32} {mk : Nat → Int32} {j : Nat} (h : ar_B mk) : ar_B (ar_mf lP lt a mk j) := by
  intro p
  unfold ar_mf
  by_cases h2 : p < j
  · rw [if_pos h2]
    by_cases h3 : ¬ lP p = 0 ∧ lt p = a
    · rw [if_pos h3]; exact Or.inr rfl
    · rw [if_neg h3]; exact Or.inl rfl
  · rw [if_neg h2]; exact h p
theorem ar_cl_S {mk : Nat → Int32} {j : Nat} : upd (ar_cl mk j) j 0 = ar_cl mk (j + 1) := by
  funext p
  by_cases h : p = j
  · subst h
    rw [pk_us]
    unfold ar_cl
    rw [if_pos (show p < p + 1 by omega)]
  · rw [pk_un h]
    unfold ar_cl
    by_cases h2 : p < j
    · rw [if_pos h2, if_pos (show p < j + 1 by omega)]
    · rw [if_neg h2, if_neg (show ¬ p < j + 1 by omega)]
theorem ar_cl_B {mk : Nat → Int32} {j : Nat} (h : ar_B mk) : ar_B (ar_cl mk j) := by
  intro p
  unfold ar_cl
  by_cases h2 : p < j
  · rw [if_pos h2]; exact Or.inl rfl
  · rw [if_neg h2]; exact h p
theorem ar_cn_1 {P : Nat → Bool} {a d : Nat} (h : P a = true) : ar_cn P a (d + 1) = ar_cn P (a + 1) d + 1 := by
  show (if P a then 1 else 0) + ar_cn P (a + 1) d = _
  rw [if_pos h, Nat.add_comm]
theorem ar_cn_0 {P : Nat → Bool} {a d : Nat} (h : P a = false) : ar_cn P a (d + 1) = ar_cn P (a + 1) d := by
  show (if P a then 1 else 0) + ar_cn P (a + 1) d = _
  rw [h, if_neg (by decide), Nat.zero_add]
section
variable {S C L F n s qF qN c o m : Nat} {K po wp : Int32} {xO xA xB xT yO yA yB yT op A B tg hs hd T R st tk bl bf cT cR oT oR lo la lb lt lk ln lP mk : Nat → Int32} {lq ls : Nat → Int64}
theorem ay_mark (post : Int32 → SY → Prop) (a : Int32) (tot : Nat) (hm : m ≤ 32)
    (hp : ∃ k, wY_doCancel_68 post (nI tot) k 0 (nI S) (nI C) (nI L) (nI qN) (nI c) (nI o) (nI m) (lN s) po wp yO yA yB yT cT cR oT oR lo la lb lt lk ln lP (ar_mf lP lt a mk m) lq ls hd bl bf) : ∀ d j cnt, j + d = m → cnt + ar_cn (ar_mp lP lt a) j d = tot → wY_doCancel_4 post a (nI S) (nI C) (nI L) (nI qN) (nI c) (nI o) (nI m) (lN s) po wp (d + 1) (nI cnt) (nI j) yO yA yB yT cT cR oT oR lo la lb lt lk ln lP (ar_mf lP lt a mk j) lq ls hd bl bf := by
  intro d
  induction d with
  | zero =>
    intro j cnt hj hc
    have e : j = m := by omega
    subst e
    have e2 : cnt = tot := by rw [← hc]; rfl
    subst e2
    exact br_t (nI_le (Nat.le_refl _) (by omega)) hp
  | succ d ih =>
    intro j cnt hj hc
    have i0 : vp_in (nI j) 32 := vp_in_nI (by omega) (by omega)
    refine br_f (nI_ge (by omega) (by omega)) (br_f (nI_ge (b := 32) (by omega) (by decide)) ⟨i0, ?_⟩)
    by_cases z : lP j = 0
    · have hx : (0 : Int32) = if ¬ lP j = 0 ∧ lt j = a then 1 else 0 := by rw [if_neg (fun w => w.1 z)]
      have hP : ar_mp lP lt a j = false := decide_eq_false (fun w => w.1 z)
      rw [ar_cn_0 hP] at hc
      refine br_t (by rw [nI_clamp (by omega)]; exact z) (And.intro i0 (nm_r ((ar_ub _ 0 (by omega) (Or.inl rfl)).trans (ar_mf_S hx)) ⟨i0, br_t ?_ (nm_r (nI_1 j) (ih (j + 1) cnt (by omega) hc))⟩))
      rw [nI_clamp (by omega), ← ar_mf_S hx, pk_us]
    · refine br_f (by rw [nI_clamp (by omega)]; exact z) ⟨i0, ?_⟩
      by_cases y : lt j = a
      · have hx : (1 : Int32) = if ¬ lP j = 0 ∧ lt j = a then 1 else 0 := by rw [if_pos ⟨z, y⟩]
        have hP : ar_mp lP lt a j = true := decide_eq_true ⟨z, y⟩
        rw [ar_cn_1 hP] at hc
        refine br_t (by rw [nI_clamp (by omega)]; exact y) (And.intro i0 (nm_r ((ar_ub _ 1 (by omega) (Or.inr rfl)).trans (ar_mf_S hx)) ⟨i0, br_f ?_ (nm_r (nI_1 cnt) (nm_r (nI_1 j) (ih (j + 1) (cnt + 1) (by omega) (by omega))))⟩))
        rw [nI_clamp (by omega), ← ar_mf_S hx, pk_us]
        exact ar_10
      · have hx : (0 : Int32) = if ¬ lP j = 0 ∧ lt j = a then 1 else 0 := by rw [if_neg (fun w => y w.2)]
        have hP : ar_mp lP lt a j = false := decide_eq_false (fun w => y w.2)
        rw [ar_cn_0 hP] at hc
        refine br_f (by rw [nI_clamp (by omega)]; exact y) (And.intro i0 (nm_r ((ar_ub _ 0 (by omega) (Or.inl rfl)).trans (ar_mf_S hx)) ⟨i0, br_t ?_ (nm_r (nI_1 j) (ih (j + 1) cnt (by omega) hc))⟩))
        rw [nI_clamp (by omega), ← ar_mf_S hx, pk_us]
theorem ay_clear (post : Int32 → SY → Prop) (cnt : Nat) (hcn : cnt < 2 ^ 31)
    (hp : post (ar_rs cnt) (nI S, nI C, nI L, nI qN, nI c, nI o, nI m, lN s, po, wp, yO, yA, yB, yT, cT, cR, oT, oR, lo, la, lb, lt, lk, ln, lP, ar_cl mk 32, lq, ls, hd, bl, bf)) : ∀ d j, j + d = 32 → wY_doCancel_168 post (nI cnt) (nI S) (nI C) (nI L) (nI qN) (nI c) (nI o) (nI m) (lN s) po wp (d + 1) (nI j) yO yA yB yT cT cR oT oR lo la lb lt lk ln lP (ar_cl mk j) lq ls hd bl bf := by
  intro d
  induction d with
  | zero =>
    intro j hj
    have e : j = 32 := by omega
    subst e
    refine br_t (nI_le (a := 32) (b := 32) (by omega) (by omega)) ?_
    unfold ar_rs at hp
    by_cases z : cnt = 0
    · rw [if_pos z] at hp
      exact br_t (by rw [z]; decide) hp
    · rw [if_neg z] at hp
      exact br_f (nI_nle (by omega) hcn) hp
  | succ d ih =>
    intro j hj
    exact br_f (nI_ge (b := 32) (by omega) (by decide)) ⟨vp_in_nI (by omega) (by omega), nm_r ((ar_ub _ 0 (by omega) (Or.inl rfl)).trans ar_cl_S) (nm_r (nI_1 j) (ih (j + 1) (by omega)))⟩
theorem ar_cl_0 : ar_cl mk 0 = mk := by
  funext p
  exact if_neg (by omega)
theorem ay_sc_f (post : Int32 → SY → Prop) {J} {X2 X3 : Int32} {i : Nat} (hm : m ≤ 32) (hi : i < 32) (hp : wY_doCancel_121 post J X2 X3 (nI i) (nI S) (nI C) (nI L) (nI qN) (nI c) (nI o) (nI m) (lN s) po wp yO yA yB yT cT cR oT oR lo la lb lt lk ln lP mk lq ls hd bl bf) : ∀ d j, j + d = m → ∀ k, d < k → wY_doCancel_80 post J X2 X3 (nI S) (nI C) (nI L) (nI qN) (nI c) (nI o) (nI m) (lN s) po wp yO yA yB yT cT cR oT oR lo la lb lt lk ln lP mk lq ls hd bl bf k (nI i) (nI j) := by
  intro d
  induction d with
  | zero =>
    intro j hj k hk
    obtain ⟨k', rfl⟩ : ∃ k', k = k' + 1 := ⟨k - 1, by omega⟩
    exact br_t (nI_le (by omega) (by omega)) hp
  | succ d ih =>
    intro j hj k hk
    obtain ⟨k', rfl⟩ : ∃ k', k = k' + 1 := ⟨k - 1, by omega⟩
    exact br_f (nI_ge (by omega) (by omega)) (br_f (nI_ge (b := 32) (by omega) (by decide)) (br_t (nI_pos' (by omega)) (nm_r (nI_1 j) (ih (j + 1) (by omega) k' (by omega)))))
theorem ay_sc_n (post : Int32 → SY → Prop) {J} {X2 X3 : Int32} (hm : m ≤ 32) (h0 : ∀ j, j < m → mk j = 0) (hp : wY_doCancel_121 post J X2 X3 (-1) (nI S) (nI C) (nI L) (nI qN) (nI c) (nI o) (nI m) (lN s) po wp yO yA yB yT cT cR oT oR lo la lb lt lk ln lP mk lq ls hd bl bf) : ∀ d j, j + d = m → wY_doCancel_80 post J X2 X3 (nI S) (nI C) (nI L) (nI qN) (nI c) (nI o) (nI m) (lN s) po wp yO yA yB yT cT cR oT oR lo la lb lt lk ln lP mk lq ls hd bl bf (d + 1) (-1) (nI j) := by
  intro d
  induction d with
  | zero =>
    intro j hj
    exact br_t (nI_le (by omega) (by omega)) hp
  | succ d ih =>
    intro j hj
    exact br_f (nI_ge (by omega) (by omega)) (br_f (nI_ge (b := 32) (by omega) (by decide)) (br_f (by decide) ⟨vp_in_nI (by omega) (by omega), br_t (by rw [nI_clamp (by omega)]; exact h0 j (by omega)) (nm_r (nI_1 j) (ih (j + 1) (by omega)))⟩))
theorem ay_sc_s (post : Int32 → SY → Prop) {J} {X2 X3 : Int32} {i : Nat} (hm : m ≤ 32) (hi : i < m) (h1 : ¬ mk i = 0) (h0 : ∀ j, j < i → mk j = 0) (hp : wY_doCancel_121 post J X2 X3 (nI i) (nI S) (nI C) (nI L) (nI qN) (nI c) (nI o) (nI m) (lN s) po wp yO yA yB yT cT cR oT oR lo la lb lt lk ln lP mk lq ls hd bl bf) : ∀ d j, j + d = i → ∀ k, m - j < k → wY_doCancel_80 post J X2 X3 (nI S) (nI C) (nI L) (nI qN) (nI c) (nI o) (nI m) (lN s) po wp yO yA yB yT cT cR oT oR lo la lb lt lk ln lP mk lq ls hd bl bf k (-1) (nI j) := by
  intro d
  induction d with
  | zero =>
    intro j hj k hk
    obtain ⟨k', rfl⟩ : ∃ k', k = k' + 1 := ⟨k - 1, by omega⟩
    have e : j = i := by omega
    subst e
    exact br_f (nI_ge (by omega) (by omega)) (br_f (nI_ge (b := 32) (by omega) (by decide)) (br_f (by decide) ⟨vp_in_nI (by omega) (by omega), br_f (by rw [nI_clamp (by omega)]; exact h1) (nm_r (nI_1 j) (ay_sc_f post hm (by omega) hp (m - (j + 1)) (j + 1) (by omega) k' (by omega)))⟩))
  | succ d ih =>
    intro j hj k hk
    obtain ⟨k', rfl⟩ : ∃ k', k = k' + 1 := ⟨k - 1, by omega⟩
    exact br_f (nI_ge (by omega) (by omega)) (br_f (nI_ge (b := 32) (by omega) (by decide)) (br_f (by decide) ⟨vp_in_nI (by omega) (by omega), br_t (by rw [nI_clamp (by omega)]; exact h0 j (by omega)) (nm_r (nI_1 j) (ih (j + 1) (by omega) k' (by omega)))⟩))
end
