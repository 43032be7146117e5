def ar_N (C L F n s : Nat) : Prop := C ≤ 16 ∧ n ≤ 32 ∧ s < 2 ^ 31 ∧ F < 48 ∧ L ≤ 4
def ar_G (S C L F n s qF qN : Nat) (K : Int32) (q : Nat → Nat) (xO xA xB xT yO yA yB yT op A B tg hs hd st tk : Nat → Int32) (m : Nat) (e : Nat → Nat) (mk : Nat → Int32) (wp : Int32) (u : SX) (v : SY) : Prop :=
  ∃ (c o : Nat) (T R cT cR oT oR lo la lb lt lk ln lP : Nat → Int32) (lq ls : Nat → Int64) (bl bf : Nat → Int32) (po : Int32),
    u = (nI S, nI C, nI L, nI qF, nI qN, nI F, nI (c + o), nI c, nI n, xO, xA, xB, xT, T, R, op, A, B, tg, st, tk, hs, bl, bf) ∧ v = (nI S, nI C, nI L, nI qN, nI c, nI o, nI m, lN s, po, wp, yO, yA, yB, yT, cT, cR, oT, oR, lo, la, lb, lt, lk, ln, lP, mk, lq, ls, hd, bl, bf) ∧ ar_M n m s e q op A B tg st tk hs lo la lb lt lk lP lq ls ∧ ar_Z F c o T cT oT ∧ ar_Z F c o R cR oR ∧ c ≤ C ∧ m + o ≤ 32 ∧ po + nI m = K ∧ ar_B ln ∧ ar_B lP ∧ ar_B mk
def lx_pcc (post : SX → Prop) (k : Nat) (x : Int32) (u : SX) : Prop := match u with
  | (f_sqCapacity, f_cqCapacity, f_latency, f_sqFirst, f_sqCount, f_doneFirst, f_doneCount, f_cqCount, f_reqCount, a_sqOpFlags, a_sqA, a_sqB, a_sqTag, a_doneTag, a_doneResult, a_reqOpcode, a_reqA, a_reqB, a_reqTag, a_reqState, a_reqTicks, a_reqHasSuccessor, a_blocks, a_buffers) => wX_postCanceledChain_2 post k x f_sqCapacity f_cqCapacity f_latency f_sqFirst f_sqCount f_doneFirst f_doneCount f_cqCount f_reqCount a_sqOpFlags a_sqA a_sqB a_sqTag a_doneTag a_doneResult a_reqOpcode a_reqA a_reqB a_reqTag a_reqState a_reqTicks a_reqHasSuccessor a_blocks a_buffers
theorem lx_pcc_w (post : SX → Prop) (k : Nat) (x : Int32) : ∀ u : SX, lx_pcc post k x u → wpX_postCanceledChain post u x
  | (f_sqCapacity, f_cqCapacity, f_latency, f_sqFirst, f_sqCount, f_doneFirst, f_doneCount, f_cqCount, f_reqCount, a_sqOpFlags, a_sqA, a_sqB, a_sqTag, a_doneTag, a_doneResult, a_reqOpcode, a_reqA, a_reqB, a_reqTag, a_reqState, a_reqTicks, a_reqHasSuccessor, a_blocks, a_buffers), h => ⟨k, h⟩
def ly_ccf (post : SY → Prop) (k : Nat) (x : Int64) (y : Int32) (v : SY) : Prop := match v with
  | (f_S, f_C, f_L, f_sqN, f_cqN, f_ovN, f_liveN, f_nextSeq, f_posts, f_wentPending, a_sqOp, a_sqA, a_sqB, a_sqTg, a_cqT, a_cqR, a_ovT, a_ovR, a_lOp, a_lA, a_lB, a_lTag, a_lTicks, a_lLink, a_lPend, a_lMark, a_lSeq, a_lSucc, a_head, a_block, a_buffer) => wY_cancelChainFrom_2 post k x y f_S f_C f_L f_sqN f_cqN f_ovN f_liveN f_nextSeq f_posts f_wentPending a_sqOp a_sqA a_sqB a_sqTg a_cqT a_cqR a_ovT a_ovR a_lOp a_lA a_lB a_lTag a_lTicks a_lLink a_lPend a_lMark a_lSeq a_lSucc a_head a_block a_buffer
theorem ly_ccf_w (post : SY → Prop) (k : Nat) (x : Int64) : ∀ u : SY, ly_ccf post k x 0 u → wpY_cancelChainFrom post u x
  | (f_S, f_C, f_L, f_sqN, f_cqN, f_ovN, f_liveN, f_nextSeq, f_posts, f_wentPending, a_sqOp, a_sqA, a_sqB, a_sqTg, a_cqT, a_cqR, a_ovT, a_ovR, a_lOp, a_lA, a_lB, a_lTag, a_lTicks, a_lLink, a_lPend, a_lMark, a_lSeq, a_lSucc, a_head, a_block, a_buffer), h => ⟨k, h⟩
section
variable {S C L F n s qF qN m : Nat} {K wp : Int32} {q e : Nat → Nat} {xO xA xB xT yO yA yB yT op A B tg hs hd st tk mk : Nat → Int32} {u : SX} {v : SY}
theorem ar_G_E (hG : ar_G S C L F n s qF qN K q xO xA xB xT yO yA yB yT op A B tg hs hd st tk m e mk wp u v) : ar_E n m st e := by
  obtain ⟨c, o, T, R, cT, cR, oT, oR, lo, la, lb, lt, lk, ln, lP, lq, ls, bl, bf, po, rfl, rfl, hM, hZ1, hZ2, hc, hmo, hK, hb1, hb2, hb3⟩ := hG
  exact hM.1
theorem ar_G_C (hG : ar_G S C L F n s qF qN K q xO xA xB xT yO yA yB yT op A B tg hs hd st tk m e mk wp u v) : ar_C n st hs := by
  obtain ⟨c, o, T, R, cT, cR, oT, oR, lo, la, lb, lt, lk, ln, lP, lq, ls, bl, bf, po, rfl, rfl, hM, hZ1, hZ2, hc, hmo, hK, hb1, hb2, hb3⟩ := hG
  exact hM.2.2.2.2.2.2.2.2.2.1
theorem ar_G_Q (hG : ar_G S C L F n s qF qN K q xO xA xB xT yO yA yB yT op A B tg hs hd st tk m e mk wp u v) : ar_Q n s st hs q := by
  obtain ⟨c, o, T, R, cT, cR, oT, oR, lo, la, lb, lt, lk, ln, lP, lq, ls, bl, bf, po, rfl, rfl, hM, hZ1, hZ2, hc, hmo, hK, hb1, hb2, hb3⟩ := hG
  exact hM.2.2.2.2.2.2.2.2.2.2.1
theorem ar_G_P (hG : ar_G S C L F n s qF qN K q xO xA xB xT yO yA yB yT op A B tg hs hd st tk m e mk wp u v) : ar_P n st op A B := by
  obtain ⟨c, o, T, R, cT, cR, oT, oR, lo, la, lb, lt, lk, ln, lP, lq, ls, bl, bf, po, rfl, rfl, hM, hZ1, hZ2, hc, hmo, hK, hb1, hb2, hb3⟩ := hG
  exact hM.2.2.2.2.2.2.2.2.2.2.2
theorem ar_G_find (hN : ar_N C L F n s) (hG : ar_G S C L F n s qF qN K q xO xA xB xT yO yA yB yT op A B tg hs hd st tk m e mk wp u v) {i : Nat} (hi : i < m) (post : Int32 → Prop) (hp : post (nI i)) : wpY_findSeq post v (lN (q (e i))) := by
  obtain ⟨c, o, T, R, cT, cR, oT, oR, lo, la, lb, lt, lk, ln, lP, lq, ls, bl, bf, po, rfl, rfl, hM, hZ1, hZ2, hc, hmo, hK, hb1, hb2, hb3⟩ := hG
  exact ay_findSeq post (by omega) hi ((ar_M_seq hM hN.2.2.1 hi hi).mpr rfl) (fun j hj z => by have := (ar_M_seq hM hN.2.2.1 hi (by omega)).mp z; omega) hp
theorem ar_K1 {m : Nat} {po K : Int32} (hm : 0 < m) (h : po + nI m = K) : po + 1 + nI (m - 1) = K := by
  obtain ⟨j, rfl⟩ : ∃ j, m = j + 1 := ⟨m - 1, by omega⟩
  rw [← h, Int32.add_assoc, show j + 1 - 1 = j by omega, ← nI_1 j, Int32.add_comm 1 (nI j)]
theorem ar_post (hN : ar_N C L F n s) (hG : ar_G S C L F n s qF qN K q xO xA xB xT yO yA yB yT op A B tg hs hd st tk m e mk wp u v) {i : Nat} (hi : i < m) (hH : ar_H st hs (e i)) (res : Int32) :
    ∃ u' v', ar_G S C L F n s qF qN K q xO xA xB xT yO yA yB yT op A B tg hs hd (upd st (e i) 2) tk (m - 1) (ar_sh e i m) (ar_sh mk i m) wp u' v' ∧ (∀ post : SX → Prop, post u' → wpX_post post u (nI (e i)) res) ∧ (∀ post : SY → Prop, post v' → wpY_post post v (nI i) res) := by
  obtain ⟨c, o, T, R, cT, cR, oT, oR, lo, la, lb, lt, lk, ln, lP, lq, ls, bl, bf, po, rfl, rfl, hM, hZ1, hZ2, hc, hmo, hK, hb1, hb2, hb3⟩ := hG
  obtain ⟨hC, hn, hs', hF, hL⟩ := hN
  have hb := hM.1.2.1 i hi
  have htg : lt i = tg (e i) := hM.2.2.2.2.1 i hi
  have hK' := ar_K1 (by omega) hK
  by_cases hA : o = 0 ∧ c < C
  · obtain ⟨rfl, hcC⟩ := hA
    exact ⟨_, _, ⟨c + 1, 0, upd T ((F + (c + 0)) % 48) (tg (e i)), upd R ((F + (c + 0)) % 48) res, upd cT c (lt i), upd cR c res, oT, oR, ar_sh lo i m, ar_sh la i m, ar_sh lb i m, ar_sh lt i m, ar_sh lk i m, ar_sh ln i m, ar_sh lP i m, ar_sh lq i m, ar_sh ls i m, bl, bf, po + 1, rfl, rfl, ar_M_post hM hi hH, by rw [htg]; exact ar_Z_A hZ1 (by omega) _, ar_Z_A hZ2 (by omega) _, by omega, by omega, hK', ar_Bs hb1 _ _, ar_Bs hb2 _ _, ar_Bs hb3 _ _⟩,
      fun post hp => ax_post post (by omega) hC hF (by omega) (fun _ _ => hp) (fun w => absurd ⟨rfl, hcC⟩ w),
      fun post hp => ay_post post (by omega) hi hC (by omega) (by omega) hb1 hb2 hb3 (fun _ _ => hp) (fun w => absurd ⟨rfl, hcC⟩ w)⟩
  · exact ⟨_, _, ⟨c, o + 1, upd T ((F + (c + o)) % 48) (tg (e i)), upd R ((F + (c + o)) % 48) res, cT, cR, upd oT o (lt i), upd oR o res, ar_sh lo i m, ar_sh la i m, ar_sh lb i m, ar_sh lt i m, ar_sh lk i m, ar_sh ln i m, ar_sh lP i m, ar_sh lq i m, ar_sh ls i m, bl, bf, po + 1, rfl, rfl, ar_M_post hM hi hH, by rw [htg]; exact ar_Z_B hZ1 (by omega) _, ar_Z_B hZ2 (by omega) _, by omega, by omega, hK', ar_Bs hb1 _ _, ar_Bs hb2 _ _, ar_Bs hb3 _ _⟩,
      fun post hp => ax_post post (by omega) hC hF (by omega) (fun y z => absurd ⟨y, z⟩ hA) (fun _ => hp),
      fun post hp => ay_post post (by omega) hi hC (by omega) (by omega) hb1 hb2 hb3 (fun y z => absurd ⟨y, z⟩ hA) (fun _ => hp)⟩
theorem ar_G_su (hG : ar_G S C L F n s qF qN K q xO xA xB xT yO yA yB yT op A B tg hs hd st tk m e mk wp u v) {i : Nat} (hi : i < m) : ∃ x : Int64, x = ar_su hs q (e i) := ⟨_, rfl⟩
theorem ar_chain (hN : ar_N C L F n s) : ∀ d f (st : Nat → Int32) (m : Nat) (e : Nat → Nat) (mk : Nat → Int32) (u : SX) (v : SY), f + d = n → 0 < d → ar_G S C L F n s qF qN K q xO xA xB xT yO yA yB yT op A B tg hs hd st tk m e mk wp u v → ¬ st f = 2 → ar_H st hs f →
    ∃ u' v' st' m' e' mk', ar_G S C L F n s qF qN K q xO xA xB xT yO yA yB yT op A B tg hs hd st' tk m' e' mk' wp u' v' ∧ ar_FC hs st st' f ∧ (∀ g : Nat → Int32, ar_V e m mk g → ar_V e' m' mk' g) ∧
      (∀ post : SX → Prop, post u' → ∀ k, d < k → lx_pcc post k (nI f) u) ∧ (∀ post : SY → Prop, post v' → ∀ k it, d + 1 < k → it + d < 40 → ly_ccf post k (lN (q f)) (nI it) v) := by
  intro d
  induction d with
  | zero => intro f st m e mk u v _ h0; exact absurd h0 (by omega)
  | succ d ih =>
    intro f st m e mk u v hf _ hG ha hH
    obtain ⟨i, hi, rfl⟩ := (ar_G_E hG).2.2 f (by omega) ha
    obtain ⟨u1, v1, hG1, hX1, hY1⟩ := ar_post hN hG hi hH (-125)
    have hq := (ar_G_Q hG).2.2 (e i) (by omega)
    have hfd := fun post => ar_G_find hN hG hi post
    have hN' := hN
    obtain ⟨hC, hn, hs', hF, hL⟩ := hN'
    have hCh := ar_G_C hG
    have hmn := ar_E_le (ar_G_E hG)
    by_cases hh : hs (e i) = 0
    · refine ⟨u1, v1, _, _, _, _, hG1, ar_FC_1, fun g hg => ar_V_rm hg i, ?_, ?_⟩
      · intro post hp k hk
        obtain ⟨k', rfl⟩ : ∃ k', k = k' + 1 := ⟨k - 1, by omega⟩
        obtain ⟨c, o, T, R, cT, cR, oT, oR, lo, la, lb, lt, lk, ln, lP, lq, ls, bl, bf, po, rfl, rfl, hM, hZ1, hZ2, hc, hmo, hK, hb1, hb2, hb3⟩ := hG
        obtain ⟨c1, o1, T1, R1, cT1, cR1, oT1, oR1, lo1, la1, lb1, lt1, lk1, ln1, lP1, lq1, ls1, bl1, bf1, po1, rfl, rfl, hM1, hZ11, hZ21, hc1, hmo1, hK1, hb11, hb21, hb31⟩ := hG1
        exact br_f (nI_ge (by omega) (by omega)) (hX1 _ ⟨vp_in_nI (by omega) (by omega), br_t (by rw [nI_clamp (by omega)]; exact hh) hp⟩)
      · intro post hp k it hk hit
        obtain ⟨k', rfl⟩ : ∃ k', k = k' + 1 + 1 := ⟨k - 2, by omega⟩
        obtain ⟨c, o, T, R, cT, cR, oT, oR, lo, la, lb, lt, lk, ln, lP, lq, ls, bl, bf, po, rfl, rfl, hM, hZ1, hZ2, hc, hmo, hK, hb1, hb2, hb3⟩ := hG
        obtain ⟨c1, o1, T1, R1, cT1, cR1, oT1, oR1, lo1, la1, lb1, lt1, lk1, ln1, lP1, lq1, ls1, bl1, bf1, po1, rfl, rfl, hM1, hZ11, hZ21, hc1, hmo1, hK1, hb11, hb21, hb31⟩ := hG1
        have hls : ls (nI i).toNatClampNeg = -1 := by
          rw [nI_clamp (by omega), hM.2.2.2.2.2.2.2.2.1 i hi]
          exact if_pos hh
        exact br_f (nI_ge (b := 40) (by omega) (by decide)) (br_t (ar_l0 (by omega)) (hfd _ (br_t (nI_pos' (by omega)) ⟨vp_in_nI (by omega) (by omega), nm_r hls (hY1 _ (nm_r (nI_1 it) (br_f (nI_ge (b := 40) (by omega) (by decide)) (br_f (by decide) hp))))⟩)))
    · obtain ⟨c1, c2⟩ := hCh (e i) (by omega) ha hh
      obtain ⟨u2, v2, st2, m2, e2, mk2, hG2, hF2, hV2, hX2, hY2⟩ := ih (e i + 1) _ _ _ _ u1 v1 (by omega) (by omega) hG1 (by rw [pk_un (by omega), c2]; exact ar_02) (fun r hr => Or.inl (by rw [show r = e i by omega]; exact pk_us))
      refine ⟨u2, v2, st2, m2, e2, mk2, hG2, ar_FC_S hh c2 hF2, fun g hg => hV2 g (ar_V_rm hg i), ?_, ?_⟩
      · intro post hp k hk
        obtain ⟨k', rfl⟩ : ∃ k', k = k' + 1 := ⟨k - 1, by omega⟩
        have hX2' := hX2 post hp k' (by omega)
        obtain ⟨c, o, T, R, cT, cR, oT, oR, lo, la, lb, lt, lk, ln, lP, lq, ls, bl, bf, po, rfl, rfl, hM, hZ1, hZ2, hc, hmo, hK, hb1, hb2, hb3⟩ := hG
        obtain ⟨c1, o1, T1, R1, cT1, cR1, oT1, oR1, lo1, la1, lb1, lt1, lk1, ln1, lP1, lq1, ls1, bl1, bf1, po1, rfl, rfl, hM1, hZ11, hZ21, hc1, hmo1, hK1, hb11, hb21, hb31⟩ := hG1
        exact br_f (nI_ge (by omega) (by omega)) (hX1 _ ⟨vp_in_nI (by omega) (by omega), br_f (by rw [nI_clamp (by omega)]; exact hh) (nm_r (nI_1 (e i)) hX2')⟩)
      · intro post hp k it hk hit
        obtain ⟨k', rfl⟩ : ∃ k', k = k' + 1 := ⟨k - 1, by omega⟩
        have hY2' := hY2 post hp k' (it + 1) (by omega) (by omega)
        have hqs := (ar_G_Q hG).2.1 (e i) (by omega) ha hh
        obtain ⟨c, o, T, R, cT, cR, oT, oR, lo, la, lb, lt, lk, ln, lP, lq, ls, bl, bf, po, rfl, rfl, hM, hZ1, hZ2, hc, hmo, hK, hb1, hb2, hb3⟩ := hG
        obtain ⟨c1, o1, T1, R1, cT1, cR1, oT1, oR1, lo1, la1, lb1, lt1, lk1, ln1, lP1, lq1, ls1, bl1, bf1, po1, rfl, rfl, hM1, hZ11, hZ21, hc1, hmo1, hK1, hb11, hb21, hb31⟩ := hG1
        have hls : ls (nI i).toNatClampNeg = lN (q (e i + 1)) := by
          rw [nI_clamp (by omega), hM.2.2.2.2.2.2.2.2.1 i hi, hqs]
          exact if_neg hh
        exact br_f (nI_ge (b := 40) (by omega) (by decide)) (br_t (ar_l0 (by omega)) (hfd _ (br_t (nI_pos' (by omega)) ⟨vp_in_nI (by omega) (by omega), nm_r hls (hY1 _ (nm_r (nI_1 it) hY2'))⟩)))
end
