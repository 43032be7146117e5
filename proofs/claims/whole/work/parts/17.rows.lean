def lx_cs (post : SX → Prop) (a b c : Int32) (k : Nat) (x : Int32) (u : SX) : Prop := match u with
  | (f_sqCapacity, f_cqCapacity, f_latency, f_sqFirst, f_sqCount, f_doneFirst, f_doneCount, f_cqCount, f_reqCount, a_sqOpFlags, a_sqA, a_sqB, a_sqTag, a_doneTag, a_doneResult, a_reqOpcode, a_reqA, a_reqB, a_reqTag, a_reqState, a_reqTicks, a_reqHasSuccessor, a_blocks, a_buffers) => wX_consume_18 post a b c k x f_sqCapacity f_cqCapacity f_latency f_sqFirst f_sqCount f_doneFirst f_doneCount f_cqCount f_reqCount a_sqOpFlags a_sqA a_sqB a_sqTag a_doneTag a_doneResult a_reqOpcode a_reqA a_reqB a_reqTag a_reqState a_reqTicks a_reqHasSuccessor a_blocks a_buffers
def lx_52 (post : SX → Prop) (a : Int32) (u : SX) : Prop := match u with
  | (f_sqCapacity, f_cqCapacity, f_latency, f_sqFirst, f_sqCount, f_doneFirst, f_doneCount, f_cqCount, f_reqCount, a_sqOpFlags, a_sqA, a_sqB, a_sqTag, a_doneTag, a_doneResult, a_reqOpcode, a_reqA, a_reqB, a_reqTag, a_reqState, a_reqTicks, a_reqHasSuccessor, a_blocks, a_buffers) => wX_consume_52 post a f_sqCapacity f_cqCapacity f_latency f_sqFirst f_sqCount f_doneFirst f_doneCount f_cqCount f_reqCount a_sqOpFlags a_sqA a_sqB a_sqTag a_doneTag a_doneResult a_reqOpcode a_reqA a_reqB a_reqTag a_reqState a_reqTicks a_reqHasSuccessor a_blocks a_buffers
def ly_14 (post : Int32 → SY → Prop) (a : Int32) (b : Int64) (k : Nat) (x y : Int32) (v : SY) : Prop := match v with
  | (f_S, f_C, f_L, f_sqN, f_cqN, f_ovN, f_liveN, f_nextSeq, f_posts, f_wentPending, a_sqOp, a_sqA, a_sqB, a_sqTg, a_cqT, a_cqR, a_ovT, a_ovR, a_lOp, a_lA, a_lB, a_lTag, a_lTicks, a_lLink, a_lPend, a_lMark, a_lSeq, a_lSucc, a_head, a_block, a_buffer) => wY_enter_14 post a b f_S f_C f_L f_cqN f_ovN f_posts f_wentPending k x y f_sqN f_liveN f_nextSeq a_sqOp a_sqA a_sqB a_sqTg a_cqT a_cqR a_ovT a_ovR a_lOp a_lA a_lB a_lTag a_lTicks a_lLink a_lPend a_lMark a_lSeq a_lSucc a_head a_block a_buffer
def ly_322 (post : Int32 → SY → Prop) (a : Int32) (b : Int64) (k : Nat) (x : Int32) (v : SY) : Prop := match v with
  | (f_S, f_C, f_L, f_sqN, f_cqN, f_ovN, f_liveN, f_nextSeq, f_posts, f_wentPending, a_sqOp, a_sqA, a_sqB, a_sqTg, a_cqT, a_cqR, a_ovT, a_ovR, a_lOp, a_lA, a_lB, a_lTag, a_lTicks, a_lLink, a_lPend, a_lMark, a_lSeq, a_lSucc, a_head, a_block, a_buffer) => wY_enter_322 post a b f_S f_C f_L f_sqN f_cqN f_ovN f_liveN f_nextSeq f_posts f_wentPending k x a_sqOp a_sqA a_sqB a_sqTg a_cqT a_cqR a_ovT a_ovR a_lOp a_lA a_lB a_lTag a_lTicks a_lLink a_lPend a_lMark a_lSeq a_lSucc a_head a_block a_buffer
def ar_KG (S C L F s0 n0 o : Nat) (q : Nat → Nat) (xO xA xB xT hd : Nat → Int32) (k N : Nat) (u : SX) (v : SY) : Prop :=
  ∃ (c qF : Nat) (T R cT cR oT oR yO yA yB yT op A B tg st tk hs lo la lb lt lk ln lP mk : Nat → Int32) (lq ls : Nat → Int64) (bl bf : Nat → Int32) (po wp : Int32),
    u = (nI S, nI C, nI L, nI qF, nI N, nI F, nI (c + o), nI c, nI (n0 + k), xO, xA, xB, xT, T, R, op, A, B, tg, st, tk, hs, bl, bf) ∧ v = (nI S, nI C, nI L, nI N, nI c, nI o, nI (n0 + k), lN (s0 + k), po, wp, yO, yA, yB, yT, cT, cR, oT, oR, lo, la, lb, lt, lk, ln, lP, mk, lq, ls, hd, bl, bf) ∧ ar_U n0 (n0 + k) s0 q op A B tg st tk hs lo la lb lt lk ln lP lq ls ∧ ar_Z F c o T cT oT ∧ ar_Z F c o R cR oR ∧ c ≤ C ∧ n0 + k + o ≤ 32 ∧ ar_W qF N xO yO ∧ ar_W qF N xA yA ∧ ar_W qF N xB yB ∧ ar_W qF N xT yT ∧ qF < 16 ∧ ar_B hs ∧ ar_B ln ∧ ar_B lP ∧ ar_B mk
section
variable {S C L F s0 n0 o : Nat} {q : Nat → Nat} {xO xA xB xT hd : Nat → Int32}
theorem ar_take (X1 : Int32) : ∀ (N k : Nat) (u : SX) (v : SY), ar_KG S C L F s0 n0 o q xO xA xB xT hd k N u v → k + N ≤ 16 →
    ∃ k' N' u' v', k' + N' = k + N ∧ ar_KG S C L F s0 n0 o q xO xA xB xT hd k' N' u' v' ∧
      (∀ post : SX → Prop, lx_52 post (nI n0) u' → ∀ f, N < f → lx_cs post X1 (nI o) (nI n0) f (nI k) u) ∧
      (∀ post : Int32 → SY → Prop, (∃ f, ly_322 post (nI k') (lN s0) f 0 v') → ∀ f, N < f → ly_14 post X1 (lN s0) f (nI k) (nI k) v) := by
  intro N
  induction N with
  | zero =>
    intro k u v hG hk
    refine ⟨k, 0, u, v, rfl, hG, ?_, ?_⟩
    · intro post hp f hf
      obtain ⟨f', rfl⟩ : ∃ f', f = f' + 1 := ⟨f - 1, by omega⟩
      obtain ⟨c, qF, T, R, cT, cR, oT, oR, yO, yA, yB, yT, op, A, B, tg, st, tk, hs, lo, la, lb, lt, lk, ln, lP, mk, lq, ls, bl, bf, po, wp, rfl, rfl, hU, hZ1, hZ2, hc, hno, hw1, hw2, hw3, hw4, hqF, hb0, hb1, hb2, hb3⟩ := hG
      exact br_c (fun _ => hp) (fun _ => br_t (by decide) hp)
    · intro post hp f hf
      obtain ⟨f', rfl⟩ : ∃ f', f = f' + 1 := ⟨f - 1, by omega⟩
      obtain ⟨c, qF, T, R, cT, cR, oT, oR, yO, yA, yB, yT, op, A, B, tg, st, tk, hs, lo, la, lb, lt, lk, ln, lP, mk, lq, ls, bl, bf, po, wp, rfl, rfl, hU, hZ1, hZ2, hc, hno, hw1, hw2, hw3, hw4, hqF, hb0, hb1, hb2, hb3⟩ := hG
      exact br_c (fun _ => hp) (fun _ => br_c (fun _ => hp) (fun _ => br_t rfl hp))
  | succ N ih =>
    intro k u v hG hk
    by_cases hx : X1 ≤ nI k
    · refine ⟨k, N + 1, u, v, rfl, hG, ?_, ?_⟩
      · intro post hp f hf
        obtain ⟨f', rfl⟩ : ∃ f', f = f' + 1 := ⟨f - 1, by omega⟩
        obtain ⟨c, qF, T, R, cT, cR, oT, oR, yO, yA, yB, yT, op, A, B, tg, st, tk, hs, lo, la, lb, lt, lk, ln, lP, mk, lq, ls, bl, bf, po, wp, rfl, rfl, hU, hZ1, hZ2, hc, hno, hw1, hw2, hw3, hw4, hqF, hb0, hb1, hb2, hb3⟩ := hG
        exact br_t hx hp
      · intro post hp f hf
        obtain ⟨f', rfl⟩ : ∃ f', f = f' + 1 := ⟨f - 1, by omega⟩
        obtain ⟨c, qF, T, R, cT, cR, oT, oR, yO, yA, yB, yT, op, A, B, tg, st, tk, hs, lo, la, lb, lt, lk, ln, lP, mk, lq, ls, bl, bf, po, wp, rfl, rfl, hU, hZ1, hZ2, hc, hno, hw1, hw2, hw3, hw4, hqF, hb0, hb1, hb2, hb3⟩ := hG
        exact br_c (fun _ => hp) (fun _ => br_t hx hp)
    · by_cases hfull : 32 ≤ n0 + k + o
      · refine ⟨k, N + 1, u, v, rfl, hG, ?_, ?_⟩
        · intro post hp f hf
          obtain ⟨f', rfl⟩ : ∃ f', f = f' + 1 := ⟨f - 1, by omega⟩
          obtain ⟨c, qF, T, R, cT, cR, oT, oR, yO, yA, yB, yT, op, A, B, tg, st, tk, hs, lo, la, lb, lt, lk, ln, lP, mk, lq, ls, bl, bf, po, wp, rfl, rfl, hU, hZ1, hZ2, hc, hno, hw1, hw2, hw3, hw4, hqF, hb0, hb1, hb2, hb3⟩ := hG
          exact br_f hx (br_f (nI_nle (by omega) (by omega)) (br_t (by rw [nI_add]; exact nI_le (a := 32) hfull (by omega)) hp))
        · intro post hp f hf
          obtain ⟨f', rfl⟩ : ∃ f', f = f' + 1 := ⟨f - 1, by omega⟩
          obtain ⟨c, qF, T, R, cT, cR, oT, oR, yO, yA, yB, yT, op, A, B, tg, st, tk, hs, lo, la, lb, lt, lk, ln, lP, mk, lq, ls, bl, bf, po, wp, rfl, rfl, hU, hZ1, hZ2, hc, hno, hw1, hw2, hw3, hw4, hqF, hb0, hb1, hb2, hb3⟩ := hG
          exact br_c (fun _ => hp) (fun _ => br_f hx (br_f (nI_ne0 (by omega) (by omega)) (br_t (by rw [nI_add]; exact nI_le (a := 32) hfull (by omega)) hp)))
      · obtain ⟨c, qF, T, R, cT, cR, oT, oR, yO, yA, yB, yT, op, A, B, tg, st, tk, hs, lo, la, lb, lt, lk, ln, lP, mk, lq, ls, bl, bf, po, wp, rfl, rfl, hU, hZ1, hZ2, hc, hno, hw1, hw2, hw3, hw4, hqF, hb0, hb1, hb2, hb3⟩ := hG
        have hUS := ar_U_S hU (by omega) (yO 0 &&& 15) (yA 0) (yB 0) (yT 0) (ar_fl (yO 0))
        rw [show s0 + (n0 + k - n0) = s0 + k by omega] at hUS
        have e1 := ar_W_0 hw1 hqF
        have e2 := ar_W_0 hw2 hqF
        have e3 := ar_W_0 hw3 hqF
        have e4 := ar_W_0 hw4 hqF
        have hG' : ar_KG S C L F s0 n0 o q xO xA xB xT hd (k + 1) N
            (nI S, nI C, nI L, nI ((qF + 1) % 16), nI N, nI F, nI (c + o), nI c, nI (n0 + k + 1), xO, xA, xB, xT, T, R, upd op (n0 + k) (xO qF &&& 15), upd A (n0 + k) (xA qF), upd B (n0 + k) (xB qF), upd tg (n0 + k) (xT qF), upd st (n0 + k) 0, upd tk (n0 + k) 0, upd hs (n0 + k) (ar_fl (xO qF)), bl, bf)
            (nI S, nI C, nI L, nI N, nI c, nI o, nI (n0 + k + 1), lN (s0 + k + 1), po, wp, ar_sh yO 0 (N + 1), ar_sh yA 0 (N + 1), ar_sh yB 0 (N + 1), ar_sh yT 0 (N + 1), cT, cR, oT, oR, upd lo (n0 + k) (yO 0 &&& 15), upd la (n0 + k) (yA 0), upd lb (n0 + k) (yB 0), upd lt (n0 + k) (yT 0), upd lk (n0 + k) 0, upd ln (n0 + k) (ar_fl (yO 0)), upd lP (n0 + k) 0, upd mk (n0 + k) 0, vp_updL lq (n0 + k) (lN (s0 + k)), vp_updL ls (n0 + k) (-1), hd, bl, bf) := by
          rw [e1, e2, e3, e4]
          exact ⟨c, (qF + 1) % 16, T, R, cT, cR, oT, oR, _, _, _, _, _, _, _, _, _, _, _, _, _, _, _, _, _, _, _, _, _, bl, bf, po, wp, rfl, rfl, hUS, hZ1, hZ2, hc, by omega, ar_W_take hw1, ar_W_take hw2, ar_W_take hw3, ar_W_take hw4, by omega, ar_Bu hb0 (ar_fl_B _), ar_Bu hb1 (ar_fl_B _), ar_Bu hb2 (Or.inl rfl), ar_Bu hb3 (Or.inl rfl)⟩
        obtain ⟨k', N', u', v', a1, a2, a3, a4⟩ := ih (k + 1) _ _ hG' (by omega)
        refine ⟨k', N', u', v', by omega, a2, ?_, ?_⟩
        · intro post hp f hf
          obtain ⟨f', rfl⟩ : ∃ f', f = f' + 1 := ⟨f - 1, by omega⟩
          have h3 := a3 post hp f' (by omega)
          exact br_f hx (br_f (nI_nle (by omega) (by omega)) (br_f (by rw [nI_add]; exact nI_ge (b := 32) (by omega) (by decide)) (ax_take _ hqF (by omega) (nm_r (nI_1 k) h3))))
        · intro post hp f hf
          obtain ⟨f', rfl⟩ : ∃ f', f = f' + 1 := ⟨f - 1, by omega⟩
          have h4 := a4 post hp f' (by omega)
          exact ay_take post (by omega) (by omega) hx (by omega) h4
end
/-- the links set for the first i of the new ones -/
def ar_lf (ls : Nat → Int64) (hs : Nat → Int32) (q : Nat → Nat) (n0 i : Nat) : Nat → Int64 := fun j => if n0 ≤ j ∧ j < n0 + i then ar_su hs q j else ls j
def ar_hf (hs hd : Nat → Int32) (n0 i : Nat) : Nat → Int32 := fun j => if j < i then (if j = 0 ∨ hs (n0 + j - 1) = 0 then 1 else 0) else hd j
theorem ar_lf_0 {ls : Nat → Int64} {hs : Nat → Int32} {q : Nat → Nat} {n0 : Nat} : ar_lf ls hs q n0 0 = ls := by
  funext j
  exact if_neg (by omega)
theorem ar_hf_0 {hs hd : Nat → Int32} {n0 : Nat} : ar_hf hs hd n0 0 = hd := by
  funext j
  exact if_neg (by omega)
theorem ar_lf_k {ls : Nat → Int64} {hs : Nat → Int32} {q : Nat → Nat} {n0 i : Nat} (h : ls (n0 + i) = ar_su hs q (n0 + i)) : ar_lf ls hs q n0 (i + 1) = ar_lf ls hs q n0 i := by
  funext j
  unfold ar_lf
  by_cases e : j = n0 + i
  · rw [if_pos (by omega), if_neg (by omega), e, h]
  · by_cases z : n0 ≤ j ∧ j < n0 + i
    · rw [if_pos (by omega), if_pos z]
    · rw [if_neg (by omega), if_neg z]
theorem ar_lf_u {ls : Nat → Int64} {hs : Nat → Int32} {q : Nat → Nat} {n0 i : Nat} {x : Int64} (h : x = ar_su hs q (n0 + i)) : vp_updL (ar_lf ls hs q n0 i) (n0 + i) x = ar_lf ls hs q n0 (i + 1) := by
  funext j
  by_cases e : j = n0 + i
  · subst e
    rw [pk_uLs, h]
    unfold ar_lf
    rw [if_pos (by omega)]
  · rw [pk_uLn e]
    unfold ar_lf
    by_cases z : n0 ≤ j ∧ j < n0 + i
    · rw [if_pos z, if_pos (by omega)]
    · rw [if_neg z, if_neg (by omega)]
theorem ar_hf_u {hs hd : Nat → Int32} {n0 i : Nat} {x : Int32} (h : x = if i = 0 ∨ hs (n0 + i - 1) = 0 then 1 else 0) : upd (ar_hf hs hd n0 i) i x = ar_hf hs hd n0 (i + 1) := by
  funext j
  by_cases e : j = i
  · subst e
    rw [pk_us, h]
    unfold ar_hf
    rw [if_pos (show j < j + 1 by omega)]
  · rw [pk_un e]
    unfold ar_hf
    by_cases z : j < i
    · rw [if_pos z, if_pos (show j < i + 1 by omega)]
    · rw [if_neg z, if_neg (show ¬ j < i + 1 by omega)]
theorem ar_uu {a : Nat → Int32} {i : Nat} {x y : Int32} : upd (upd a i x) i y = upd a i y := by
  funext j
  by_cases e : j = i
  · subst e; rw [pk_us, pk_us]
  · rw [pk_un e, pk_un e, pk_un e]
section
variable {S C L F n s qF qN c o m : Nat} {K po wp : Int32} {xO xA xB xT yO yA yB yT op A B tg hs hd T R st tk bl bf cT cR oT oR lo la lb lt lk ln lP mk : Nat → Int32} {lq ls : Nat → Int64} {q : Nat → Nat}
theorem ay_390 (post : Int32 → SY → Prop) {J} {n0 k i s0 : Nat} {hd' : Nat → Int32} {ls' : Nat → Int64} (hm : m ≤ 32) (hk : n0 + k = m) (hi : i < k) (hs0 : s0 + 64 < 2 ^ 31) (hq : ∀ j, j < m → lq j = lN (q j)) (hqm : ∀ p r, p < r → r < m → q p < q r) (hqs : ∀ j, j < k → q (n0 + j) = s0 + j)
    (h1 : i + 1 < k → ¬ ln (n0 + i) = 0 → J (nI (i + 1)) yO yA yB yT cT cR oT oR lo la lb lt lk ln lP mk lq (vp_updL ls' (n0 + i) (lN (s0 + i + 1))) hd' bl bf) (h2 : (i + 1 < k → ln (n0 + i) = 0) → J (nI (i + 1)) yO yA yB yT cT cR oT oR lo la lb lt lk ln lP mk lq ls' hd' bl bf) : wY_enter_390 post J (nI k) (lN s0) (nI i) (nI S) (nI C) (nI L) (nI qN) (nI c) (nI o) (nI m) (lN s) po wp yO yA yB yT cT cR oT oR lo la lb lt lk ln lP mk lq ls' hd' bl bf := by
  have e1 : lN s0 + (nI i).toInt64 = lN (s0 + i) := by rw [nI_l (by omega), lN_add]
  have hqb : ∀ j, j < m → q j < 2 ^ 31 := by
    intro j hj
    have := hqs (k - 1) (by omega)
    by_cases z : j = m - 1
    · rw [z, show m - 1 = n0 + (k - 1) by omega]; omega
    · have := hqm j (n0 + (k - 1)) (by omega) (by omega); omega
  unfold wY_enter_390
  rw [e1]
  refine ay_findSeq (i := n0 + i) _ hm (by omega) (by rw [hq _ (by omega), hqs i hi]) (fun j hj w => ?_) ?_
  · rw [hq j (by omega), lN_eq (hqb j (by omega)) (by omega)] at w
    have := hqm j (n0 + i) hj (by omega)
    have := hqs i hi
    omega
  · by_cases z : i + 1 < k
    · refine br_f (by rw [show k = (k - 1) + 1 by omega, nI_pred]; exact nI_ge (by omega) (by omega)) (br_f (nI_pos (by omega)) ⟨vp_in_nI (by omega) (by omega), ?_⟩)
      by_cases y : ln (n0 + i) = 0
      · exact br_t (by rw [nI_clamp (by omega)]; exact y) (nm_r (nI_1 i) (h2 (fun _ => y)))
      · exact br_f (by rw [nI_clamp (by omega)]; exact y) ⟨vp_in_nI (by omega) (by omega), nm_r (by rw [nI_clamp (by omega), lN_1]) (nm_r (nI_1 i) (h1 z y))⟩
    · exact br_t (by rw [show k = (k - 1) + 1 by omega, nI_pred]; exact nI_le (by omega) (by omega)) (nm_r (nI_1 i) (h2 (fun w => absurd w z)))
theorem ay_link (post : Int32 → SY → Prop) {n0 k s0 : Nat} (hm : m ≤ 32) (hk : n0 + k = m) (hs0 : s0 + 64 < 2 ^ 31) (hq : ∀ j, j < m → lq j = lN (q j)) (hqm : ∀ p r, p < r → r < m → q p < q r) (hqs : ∀ j, j < k → q (n0 + j) = s0 + j)
    (hl : ∀ j, j < k → ls (n0 + j) = -1) (hln : ∀ j, j + 1 < k → ln (n0 + j) = hs (n0 + j)) (hlast : 0 < k → hs (n0 + k - 1) = 0)
    (hp : ∃ f, wY_enter_447 post (nI k) (lN s0) f 0 (nI S) (nI C) (nI L) (nI qN) (nI c) (nI o) (nI m) (lN s) po wp yO yA yB yT cT cR oT oR lo la lb lt lk ln lP mk lq (ar_lf ls hs q n0 k) (ar_hf hs hd n0 k) bl bf) : ∀ d i, i + d = k → wY_enter_322 post (nI k) (lN s0) (nI S) (nI C) (nI L) (nI qN) (nI c) (nI o) (nI m) (lN s) po wp (d + 1) (nI i) yO yA yB yT cT cR oT oR lo la lb lt lk ln lP mk lq (ar_lf ls hs q n0 i) (ar_hf hs hd n0 i) bl bf := by
  intro d
  induction d with
  | zero =>
    intro i hi
    have e : i = k := by omega
    subst e
    exact br_t (nI_le (Nat.le_refl _) (by omega)) hp
  | succ d ih =>
    intro i hi
    have i0 : vp_in (nI i) 32 := vp_in_nI (by omega) (by omega)
    have hih := ih (i + 1) (by omega)
    have hqi := hqs i (by omega)
    have e390 : wY_enter_390 post (wY_enter_322 post (nI k) (lN s0) (nI S) (nI C) (nI L) (nI qN) (nI c) (nI o) (nI m) (lN s) po wp (d + 1)) (nI k) (lN s0) (nI i) (nI S) (nI C) (nI L) (nI qN) (nI c) (nI o) (nI m) (lN s) po wp yO yA yB yT cT cR oT oR lo la lb lt lk ln lP mk lq (ar_lf ls hs q n0 i) (ar_hf hs hd n0 (i + 1)) bl bf := by
      refine ay_390 (q := q) post hm hk (by omega) hs0 hq hqm hqs (fun g1 g2 => ?_) (fun g => ?_)
      · rw [ar_lf_u]
        · exact hih
        · rw [hln i g1] at g2
          unfold ar_su
          rw [if_neg g2, hqi]
      · rw [← ar_lf_k]
        · exact hih
        · rw [hl i (by omega)]
          unfold ar_su
          rw [if_pos]
          by_cases z : i + 1 < k
          · rw [← hln i z]; exact g z
          · have := hlast (by omega)
            rw [show n0 + k - 1 = n0 + i by omega] at this
            exact this
    refine br_f (nI_ge (by omega) (by omega)) (br_f (nI_ge (b := 32) (by omega) (by decide)) ⟨i0, nm_r (ar_ub _ 1 (by omega) (Or.inr rfl)) ?_⟩)
    by_cases z : i = 0
    · subst z
      refine br_t (by decide) ?_
      rw [ar_hf_u (by rw [if_pos (Or.inl rfl)])]
      exact e390
    · refine br_f (nI_nle (by omega) (by omega)) ?_
      have e1 : lN s0 + (nI i).toInt64 - 1 = lN (s0 + i - 1) := by
        rw [nI_l (by omega), lN_add]; exact lN_sub (b := 1) (by omega)
      have hqb : ∀ j, j < m → q j < 2 ^ 31 := by
        intro j hj
        have := hqs (k - 1) (by omega)
        by_cases z : j = m - 1
        · rw [z, show m - 1 = n0 + (k - 1) by omega]; omega
        · have := hqm j (n0 + (k - 1)) (by omega) (by omega); omega
      have hqp := hqs (i - 1) (by omega)
      have hlp : ar_lf ls hs q n0 i (nI (n0 + i - 1)).toNatClampNeg = ar_su hs q (n0 + i - 1) := by
        rw [nI_clamp (by omega)]; exact if_pos (by omega)
      have hfin : ∀ x : Int32, (x = 0 ∨ x = 1) → (x = if i = 0 ∨ hs (n0 + i - 1) = 0 then 1 else 0) → wY_enter_389 post (wY_enter_322 post (nI k) (lN s0) (nI S) (nI C) (nI L) (nI qN) (nI c) (nI o) (nI m) (lN s) po wp (d + 1)) (nI k) (lN s0) (nI i) x (nI i) (nI S) (nI C) (nI L) (nI qN) (nI c) (nI o) (nI m) (lN s) po wp yO yA yB yT cT cR oT oR lo la lb lt lk ln lP mk lq (ar_lf ls hs q n0 i) (upd (ar_hf hs hd n0 i) i 1) bl bf := by
        intro x hx01 hx
        refine And.intro i0 (nm_r ((ar_ub _ x (by omega) hx01).trans (ar_uu.trans (ar_hf_u hx))) e390)
      rw [e1]
      refine ay_findSeq (i := n0 + i - 1) _ hm (by omega) ?_ (fun j hj w => ?_) (br_f (nI_pos (by omega)) ⟨vp_in_nI (by omega) (by omega), ?_⟩)
      · rw [hq _ (by omega), show n0 + i - 1 = n0 + (i - 1) by omega, hqp, show s0 + (i - 1) = s0 + i - 1 by omega]
      · rw [hq j (by omega), lN_eq (hqb j (by omega)) (by omega)] at w
        have := hqm j (n0 + (i - 1)) (by omega) (by omega)
        omega
      · rw [hlp]
        unfold ar_su
        by_cases y : hs (n0 + i - 1) = 0
        · rw [if_pos y]
          exact br_f (by decide) (hfin 1 (Or.inr rfl) (by rw [if_pos (Or.inr y)]))
        · rw [if_neg y]
          have nzy : ¬ (i = 0 ∨ hs (n0 + i - 1) = 0) := fun w => by
            rcases w with w | w
            · exact z w
            · exact y w
          refine br_t (ar_l0 ?_) (hfin 0 (Or.inl rfl) (by rw [if_neg nzy]))
          rw [show n0 + i - 1 = n0 + (i - 1) by omega]; omega
end
