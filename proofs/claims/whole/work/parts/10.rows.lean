def lx_rc (post : SX → Prop) (k : Nat) (x : Int32) (u : SX) : Prop := match u with
  | (f_sqCapacity, f_cqCapacity, f_latency, f_sqFirst, f_sqCount, f_doneFirst, f_doneCount, f_cqCount, f_reqCount, a_sqOpFlags, a_sqA, a_sqB, a_sqTag, a_doneTag, a_doneResult, a_reqOpcode, a_reqA, a_reqB, a_reqTag, a_reqState, a_reqTicks, a_reqHasSuccessor, a_blocks, a_buffers) => wX_runChain_2 post k x f_sqCapacity f_cqCapacity f_latency f_sqFirst f_sqCount f_doneFirst f_doneCount f_cqCount f_reqCount a_sqOpFlags a_sqA a_sqB a_sqTag a_doneTag a_doneResult a_reqOpcode a_reqA a_reqB a_reqTag a_reqState a_reqTicks a_reqHasSuccessor a_blocks a_buffers
theorem lx_rc_w (post : SX → Prop) (k : Nat) (x : Int32) : ∀ u : SX, lx_rc post k x u → wpX_runChain post u x
  | (f_sqCapacity, f_cqCapacity, f_latency, f_sqFirst, f_sqCount, f_doneFirst, f_doneCount, f_cqCount, f_reqCount, a_sqOpFlags, a_sqA, a_sqB, a_sqTag, a_doneTag, a_doneResult, a_reqOpcode, a_reqA, a_reqB, a_reqTag, a_reqState, a_reqTicks, a_reqHasSuccessor, a_blocks, a_buffers), h => ⟨k, h⟩
def ly_rc (post : SY → Prop) (k : Nat) (a b : Int32) (c : Int64) (d : Int32) (v : SY) : Prop := match v with
  | (f_S, f_C, f_L, f_sqN, f_cqN, f_ovN, f_liveN, f_nextSeq, f_posts, f_wentPending, a_sqOp, a_sqA, a_sqB, a_sqTg, a_cqT, a_cqR, a_ovT, a_ovR, a_lOp, a_lA, a_lB, a_lTag, a_lTicks, a_lLink, a_lPend, a_lMark, a_lSeq, a_lSucc, a_head, a_block, a_buffer) => wY_runChain_6 post k a b c d f_S f_C f_L f_sqN f_cqN f_ovN f_liveN f_nextSeq f_posts f_wentPending a_sqOp a_sqA a_sqB a_sqTg a_cqT a_cqR a_ovT a_ovR a_lOp a_lA a_lB a_lTag a_lTicks a_lLink a_lPend a_lMark a_lSeq a_lSucc a_head a_block a_buffer
theorem ly_rc_w (post : SY → Prop) (k : Nat) (a b : Int32) (c : Int64) : ∀ v : SY, ly_rc post k a b c 0 v → wpY_runChain post v c a b
  | (f_S, f_C, f_L, f_sqN, f_cqN, f_ovN, f_liveN, f_nextSeq, f_posts, f_wentPending, a_sqOp, a_sqA, a_sqB, a_sqTg, a_cqT, a_cqR, a_ovT, a_ovR, a_lOp, a_lA, a_lB, a_lTag, a_lTicks, a_lLink, a_lPend, a_lMark, a_lSeq, a_lSucc, a_head, a_block, a_buffer), h => ⟨k, h⟩
def ly_65 (post : SY → Prop) (k : Nat) (a b c : Int32) (v : SY) : Prop := match v with
  | (f_S, f_C, f_L, f_sqN, f_cqN, f_ovN, f_liveN, f_nextSeq, f_posts, f_wentPending, a_sqOp, a_sqA, a_sqB, a_sqTg, a_cqT, a_cqR, a_ovT, a_ovR, a_lOp, a_lA, a_lB, a_lTag, a_lTicks, a_lLink, a_lPend, a_lMark, a_lSeq, a_lSucc, a_head, a_block, a_buffer) => wY_runChain_65 post (wY_runChain_6 post k) a b c f_S f_C f_L f_sqN f_cqN f_ovN f_liveN f_nextSeq f_posts f_wentPending a_sqOp a_sqA a_sqB a_sqTg a_cqT a_cqR a_ovT a_ovR a_lOp a_lA a_lB a_lTag a_lTicks a_lLink a_lPend a_lMark a_lSeq a_lSucc a_head a_block a_buffer
theorem ar_FR_1 {n : Nat} {hs st tk : Nat → Int32} {f : Nat} : ar_FR n hs st tk (upd st f 2) tk f := by
  refine ⟨fun p h1 h2 => ?_, fun h h1 h2 h3 p h4 h5 => ?_⟩
  · have e : p ≠ f := fun w => by rw [w, pk_us] at h1; exact ar_21 h1
    rw [pk_un e] at h1
    exact ⟨h1, h2, e⟩
  · rw [pk_un (by omega)]; exact h3 p h4 h5
theorem ar_FR_W {n : Nat} {hs st tk : Nat → Int32} {f : Nat} {t : Int32} (ht : ¬ t = 0) : ar_FR n hs st tk (upd st f 1) (upd tk f t) f := by
  refine ⟨fun p h1 h2 => ?_, fun h h1 h2 h3 p h4 h5 => ?_⟩
  · have e : p ≠ f := fun w => by rw [w, pk_us] at h2; exact ht h2
    rw [pk_un e] at h1 h2
    exact ⟨h1, h2, e⟩
  · rw [pk_un (by omega)]; exact h3 p h4 h5
theorem ar_FR_S {n : Nat} {hs st tk st' tk' : Nat → Int32} {f : Nat} (hh : ¬ hs f = 0) (h : ar_FR n hs (upd st f 2) tk st' tk' (f + 1)) : ar_FR n hs st tk st' tk' f := by
  refine ⟨fun p h1 h2 => ?_, fun g h1 h2 h3 p h4 h5 => ?_⟩
  · obtain ⟨a1, a2, a3⟩ := h.1 p h1 h2
    have e : p ≠ f := fun w => by rw [w, pk_us] at a1; exact ar_21 a1
    rw [pk_un e] at a1
    exact ⟨a1, a2, e⟩
  · have e : g ≠ f + 1 := fun w => hh (by rw [w, show f + 1 - 1 = f by omega] at h2; exact h2)
    exact h.2 g (by omega) h2 (fun p b1 b2 => by rw [pk_un (by omega)]; exact h3 p b1 b2) p h4 h5
theorem ar_FR_C {n : Nat} {hs st tk st' : Nat → Int32} {f : Nat} (hh : ¬ hs f = 0) (h : ar_FC hs (upd st f 2) st' (f + 1)) : ar_FR n hs st tk st' tk f := by
  refine ⟨fun p h1 h2 => ?_, fun g h1 h2 h3 p h4 h5 => ?_⟩
  · have a1 := ar_FC_1s h h1
    have e : p ≠ f := fun w => by rw [w, pk_us] at a1; exact ar_21 a1
    rw [pk_un e] at a1
    exact ⟨a1, h2, e⟩
  · have e : g ≠ f + 1 := fun w => hh (by rw [w, show f + 1 - 1 = f by omega] at h2; exact h2)
    exact ar_FC_h h (by omega) h2 (fun p b1 b2 => by rw [pk_un (by omega)]; exact h3 p b1 b2) p h4 h5
theorem ar_FR_K {n : Nat} {hs st st1 tk st' tk' : Nat → Int32} {f : Nat} (hK : ar_FK n hs st st1) (h : ar_FR n hs st1 tk st' tk' f) : ar_FR n hs st tk st' tk' f := by
  refine ⟨fun p h1 h2 => ?_, fun g h1 h2 h3 p h4 h5 => ?_⟩
  · obtain ⟨a1, a2, a3⟩ := h.1 p h1 h2
    exact ⟨ar_FK_1 hK a1, a2, a3⟩
  · exact h.2 g h1 h2 (ar_FK_h hK (fun _ => h2) h3) p h4 h5
def ar_RA (S C L F n s qF qN : Nat) (K : Int32) (q : Nat → Nat) (xO xA xB xT yO yA yB yT op A B tg hs hd : Nat → Int32) (d : Nat) : Prop :=
  ∀ (f : Nat) (st tk : Nat → Int32) (m : Nat) (e : Nat → Nat) (mk : Nat → Int32) (wp : Int32) (u : SX) (v : SY), f + d = n → 0 < d → ar_G S C L F n s qF qN K q xO xA xB xT yO yA yB yT op A B tg hs hd st tk m e mk wp u v → st f = 0 → ar_H st hs f →
    ∃ u' v' st' tk' m' e' mk' wp', ar_G S C L F n s qF qN K q xO xA xB xT yO yA yB yT op A B tg hs hd st' tk' m' e' mk' wp' u' v' ∧ ar_FR n hs st tk st' tk' f ∧
      (∀ post : SX → Prop, post u' → ∀ k, d < k → lx_rc post k (nI f) u) ∧ (∀ post : SY → Prop, post v' → ∀ k it res, d < k → it + d < 41 → ly_rc post k 1 res (lN (q f)) (nI it) v)
section
variable {S C L F n s qF qN m : Nat} {K wp : Int32} {q e : Nat → Nat} {xO xA xB xT yO yA yB yT op A B tg hs hd st tk mk : Nat → Int32} {u : SX} {v : SY}
theorem ar_fin (hN : ar_N C L F n s) (r : Int32) {d : Nat} (ih : ar_RA S C L F n s qF qN K q xO xA xB xT yO yA yB yT op A B tg hs hd d) (hG : ar_G S C L F n s qF qN K q xO xA xB xT yO yA yB yT op A B tg hs hd st tk m e mk wp u v) {i : Nat} (hi : i < m) (hf : e i + (d + 1) = n) (hH : ar_H st hs (e i)) :
    ∃ u' v' st' tk' m' e' mk' wp', ar_G S C L F n s qF qN K q xO xA xB xT yO yA yB yT op A B tg hs hd st' tk' m' e' mk' wp' u' v' ∧ ar_FR n hs st tk st' tk' (e i) ∧
      (∀ post : SX → Prop, post u' → ∀ k, d < k → ∀ w : SX, (∀ P : Int32 → SX → Prop, P r u → wpX_execute P w (nI (e i))) → lx_28 post (wX_runChain_2 post k) (nI (e i)) 0 w) ∧
      (∀ post : SY → Prop, post v' → ∀ k it, d < k → it + d < 40 → ly_65 post k r (nI it) (nI i) v) := by
  obtain ⟨u1, v1, hG1, hX1, hY1⟩ := ar_post hN hG hi hH r
  have hE := ar_G_E hG
  have hal := hE.2.1 i hi
  have hCh := ar_G_C hG
  have hQ := ar_G_Q hG
  have hmn := ar_E_le hE
  have hN' := hN
  obtain ⟨hC, hn, hs', hF, hL⟩ := hN'
  by_cases hh : hs (e i) = 0
  · refine ⟨u1, v1, _, _, _, _, _, _, hG1, ar_FR_1, ?_, ?_⟩
    · intro post hp k hk w hw
      obtain ⟨w0, w1, w2, w3, w4, w5, w6, w7, w8, w9, w10, w11, w12, w13, w14, w15, w16, w17, w18, w19, w20, w21, w22, w23⟩ := w
      obtain ⟨c, o, T, R, cT, cR, oT, oR, lo, la, lb, lt, lk, ln, lP, lq, ls, bl, bf, po, rfl, rfl, hM, hZ1, hZ2, hc, hmo, hK, hb1, hb2, hb3⟩ := hG
      obtain ⟨c1, o1, T1, R1, cT1, cR1, oT1, oR1, lo1, la1, lb1, lt1, lk1, ln1, lP1, lq1, ls1, bl1, bf1, po1, rfl, rfl, hM1, hZ11, hZ21, hc1, hmo1, hK1, hb11, hb21, hb31⟩ := hG1
      exact br_t (by decide) (hw _ (hX1 _ ⟨vp_in_nI (by omega) (by omega), br_t (by rw [nI_clamp (by omega)]; exact hh) hp⟩))
    · intro post hp k it hk hit
      obtain ⟨c, o, T, R, cT, cR, oT, oR, lo, la, lb, lt, lk, ln, lP, lq, ls, bl, bf, po, rfl, rfl, hM, hZ1, hZ2, hc, hmo, hK, hb1, hb2, hb3⟩ := hG
      obtain ⟨c1, o1, T1, R1, cT1, cR1, oT1, oR1, lo1, la1, lb1, lt1, lk1, ln1, lP1, lq1, ls1, bl1, bf1, po1, rfl, rfl, hM1, hZ11, hZ21, hc1, hmo1, hK1, hb11, hb21, hb31⟩ := hG1
      have hls : ls (nI i).toNatClampNeg = -1 := by
        rw [nI_clamp (by omega), hM.2.2.2.2.2.2.2.2.1 i hi]
        exact if_pos hh
      exact And.intro (vp_in_nI (by omega) (by omega)) (nm_r hls (hY1 _ (br_f (by decide) hp)))
  · obtain ⟨c1, c2⟩ := hCh (e i) (by omega) hal.2 hh
    have hq1 := hQ.2.2 (e i + 1) (by omega)
    have hqs := hQ.2.1 (e i) (by omega) hal.2 hh
    have hal1 : ¬ upd st (e i) 2 (e i + 1) = 2 := by rw [pk_un (by omega), c2]; exact ar_02
    have hH1 : ar_H (upd st (e i) 2) hs (e i + 1) := fun r hr => Or.inl (by rw [show r = e i by omega]; exact pk_us)
    by_cases hr : 0 ≤ r
    · obtain ⟨u2, v2, st2, tk2, m2, e2, mk2, wp2, hG2, hF2, hX2, hY2⟩ := ih (e i + 1) _ _ _ _ _ _ u1 v1 (by omega) (by omega) hG1 (by rw [pk_un (by omega)]; exact c2) hH1
      refine ⟨u2, v2, st2, tk2, m2, e2, mk2, wp2, hG2, ar_FR_S hh hF2, ?_, ?_⟩
      · intro post hp k hk w hw
        have hX2' := hX2 post hp k (by omega)
        obtain ⟨w0, w1, w2, w3, w4, w5, w6, w7, w8, w9, w10, w11, w12, w13, w14, w15, w16, w17, w18, w19, w20, w21, w22, w23⟩ := w
        obtain ⟨c, o, T, R, cT, cR, oT, oR, lo, la, lb, lt, lk, ln, lP, lq, ls, bl, bf, po, rfl, rfl, hM, hZ1, hZ2, hc, hmo, hK, hb1, hb2, hb3⟩ := hG
        obtain ⟨c1, o1, T1, R1, cT1, cR1, oT1, oR1, lo1, la1, lb1, lt1, lk1, ln1, lP1, lq1, ls1, bl1, bf1, po1, rfl, rfl, hM1, hZ11, hZ21, hc1, hmo1, hK1, hb11, hb21, hb31⟩ := hG1
        exact br_t (by decide) (hw _ (hX1 _ ⟨vp_in_nI (by omega) (by omega), br_f (by rw [nI_clamp (by omega)]; exact hh) (br_t hr (nm_r (nI_1 (e i)) hX2'))⟩))
      · intro post hp k it hk hit
        have hY2' := hY2 post hp k (it + 1) r (by omega) (by omega)
        obtain ⟨c, o, T, R, cT, cR, oT, oR, lo, la, lb, lt, lk, ln, lP, lq, ls, bl, bf, po, rfl, rfl, hM, hZ1, hZ2, hc, hmo, hK, hb1, hb2, hb3⟩ := hG
        obtain ⟨c1, o1, T1, R1, cT1, cR1, oT1, oR1, lo1, la1, lb1, lt1, lk1, ln1, lP1, lq1, ls1, bl1, bf1, po1, rfl, rfl, hM1, hZ11, hZ21, hc1, hmo1, hK1, hb11, hb21, hb31⟩ := hG1
        have hls : ls (nI i).toNatClampNeg = lN (q (e i + 1)) := by
          rw [nI_clamp (by omega), hM.2.2.2.2.2.2.2.2.1 i hi, hqs]
          exact if_neg hh
        exact And.intro (vp_in_nI (by omega) (by omega)) (nm_r hls (hY1 _ (br_t (ar_l0 (by omega)) (br_t hr (nm_r (nI_1 it) hY2')))))
    · obtain ⟨u2, v2, st2, m2, e2, mk2, hG2, hF2, hV2, hX2, hY2⟩ := ar_chain hN (n - (e i + 1)) (e i + 1) _ _ _ _ u1 v1 (by omega) (by omega) hG1 hal1 hH1
      refine ⟨u2, v2, st2, tk, m2, e2, mk2, wp, hG2, ar_FR_C hh hF2, ?_, ?_⟩
      · intro post hp k hk w hw
        obtain ⟨w0, w1, w2, w3, w4, w5, w6, w7, w8, w9, w10, w11, w12, w13, w14, w15, w16, w17, w18, w19, w20, w21, w22, w23⟩ := w
        have hX2' : ∀ P : SX → Prop, P u2 → wpX_postCanceledChain P u1 (nI (e i + 1)) := fun P hP => lx_pcc_w P _ _ u1 (hX2 P hP (n - (e i + 1) + 1) (by omega))
        obtain ⟨c, o, T, R, cT, cR, oT, oR, lo, la, lb, lt, lk, ln, lP, lq, ls, bl, bf, po, rfl, rfl, hM, hZ1, hZ2, hc, hmo, hK, hb1, hb2, hb3⟩ := hG
        obtain ⟨c1, o1, T1, R1, cT1, cR1, oT1, oR1, lo1, la1, lb1, lt1, lk1, ln1, lP1, lq1, ls1, bl1, bf1, po1, rfl, rfl, hM1, hZ11, hZ21, hc1, hmo1, hK1, hb11, hb21, hb31⟩ := hG1
        obtain ⟨c2, o2, T2, R2, cT2, cR2, oT2, oR2, lo2, la2, lb2, lt2, lk2, ln2, lP2, lq2, ls2, bl2, bf2, po2, rfl, rfl, hM2, hZ12, hZ22, hc2, hmo2, hK2, hb12, hb22, hb32⟩ := hG2
        refine br_t (by decide) (hw _ (hX1 _ ⟨vp_in_nI (by omega) (by omega), br_f (by rw [nI_clamp (by omega)]; exact hh) (br_f hr ?_)⟩))
        rw [nI_1 (e i)]
        exact hX2' _ hp
      · intro post hp k it hk hit
        have hY2' : ∀ P : SY → Prop, P v2 → wpY_cancelChainFrom P v1 (lN (q (e i + 1))) := fun P hP => ly_ccf_w P (n - (e i + 1) + 2) _ v1 (hY2 P hP _ 0 (by omega) (by omega))
        obtain ⟨c, o, T, R, cT, cR, oT, oR, lo, la, lb, lt, lk, ln, lP, lq, ls, bl, bf, po, rfl, rfl, hM, hZ1, hZ2, hc, hmo, hK, hb1, hb2, hb3⟩ := hG
        obtain ⟨c1, o1, T1, R1, cT1, cR1, oT1, oR1, lo1, la1, lb1, lt1, lk1, ln1, lP1, lq1, ls1, bl1, bf1, po1, rfl, rfl, hM1, hZ11, hZ21, hc1, hmo1, hK1, hb11, hb21, hb31⟩ := hG1
        obtain ⟨c2, o2, T2, R2, cT2, cR2, oT2, oR2, lo2, la2, lb2, lt2, lk2, ln2, lP2, lq2, ls2, bl2, bf2, po2, rfl, rfl, hM2, hZ12, hZ22, hc2, hmo2, hK2, hb12, hb22, hb32⟩ := hG2
        have hls : ls (nI i).toNatClampNeg = lN (q (e i + 1)) := by
          rw [nI_clamp (by omega), hM.2.2.2.2.2.2.2.2.1 i hi, hqs]
          exact if_neg hh
        exact And.intro (vp_in_nI (by omega) (by omega)) (nm_r hls (hY1 _ (br_t (ar_l0 (by omega)) (br_f hr (hY2' _ hp)))))
theorem ar_start (hN : ar_N C L F n s) (hG : ar_G S C L F n s qF qN K q xO xA xB xT yO yA yB yT op A B tg hs hd st tk m e mk wp u v) {i : Nat} (hi : i < m) (hH : ar_H st hs (e i)) :
    (∃ t u' v', ¬ t ≤ 0 ∧ ¬ t = 0 ∧ ar_G S C L F n s qF qN K q xO xA xB xT yO yA yB yT op A B tg hs hd (upd st (e i) 1) (upd tk (e i) t) m e mk 1 u' v' ∧ (∀ post : Int32 → Prop, post t → wpX_ticksToWait post u (nI (e i))) ∧ (∀ (post : SX → Prop) (k : Nat), post u' → lx_28 post (wX_runChain_2 post k) (nI (e i)) t u) ∧ (∀ post : Int32 → SY → Prop, post 0 v' → wpY_startNow post v (nI i))) ∨
    (∃ r u' v' st' m' e' mk', ar_G S C L F n s qF qN K q xO xA xB xT yO yA yB yT op A B tg hs hd st' tk m' e' mk' 0 u' v' ∧ ar_FK n hs st st' ∧ (∀ post : Int32 → Prop, post 0 → wpX_ticksToWait post u (nI (e i))) ∧ (∀ post : Int32 → SX → Prop, post r u' → wpX_execute post u (nI (e i))) ∧ (∀ post : Int32 → SY → Prop, post r v' → wpY_startNow post v (nI i))) := by
  have hE := ar_G_E hG
  have hmn := ar_E_le hE
  have hb := hE.2.1 i hi
  have hN' := hN
  obtain ⟨hC, hn, hs', hF, hL⟩ := hN'
  obtain ⟨c, o, T, R, cT, cR, oT, oR, lo, la, lb, lt, lk, ln, lP, lq, ls, bl, bf, po, rfl, rfl, hM, hZ1, hZ2, hc, hmo, hK, hb1, hb2, hb3⟩ := hG
  have e1 : lo i = op (e i) := hM.2.1 i hi
  have e2 : la i = A (e i) := hM.2.2.1 i hi
  have e3 : lb i = B (e i) := hM.2.2.2.1 i hi
  have hG0 : ar_G S C L F n s qF qN K q xO xA xB xT yO yA yB yT op A B tg hs hd st tk m e mk 0 (nI S, nI C, nI L, nI qF, nI qN, nI F, nI (c + o), nI c, nI n, xO, xA, xB, xT, T, R, op, A, B, tg, st, tk, hs, bl, bf) (nI S, nI C, nI L, nI qN, nI c, nI o, nI m, lN s, po, 0, yO, yA, yB, yT, cT, cR, oT, oR, lo, la, lb, lt, lk, ln, lP, mk, lq, ls, hd, bl, bf) := ⟨c, o, T, R, cT, cR, oT, oR, lo, la, lb, lt, lk, ln, lP, lq, ls, bl, bf, po, rfl, rfl, hM, hZ1, hZ2, hc, hmo, hK, hb1, hb2, hb3⟩
  by_cases hk : ar_ok (op (e i)) (A (e i)) (B (e i))
  · have hv : ¬ ¬ ar_vd (op (e i)) (A (e i)) (B (e i)) := fun w => w (Or.inl hk)
    have hv' : ¬ ¬ ar_vd (lo i) (la i) (lb i) := by rw [e1, e2, e3]; exact hv
    have n0 : ¬ op (e i) = 0 := fun w => by rcases ar_ok_k hk with y | y | y | y <;> rw [y] at w <;> exact absurd w (by decide)
    have n5 : ¬ op (e i) = 5 := fun w => by rcases ar_ok_k hk with y | y | y | y <;> rw [y] at w <;> exact absurd w (by decide)
    by_cases e4 : op (e i) = 4
    · have h4 := ar_ok_4 hk e4
      refine Or.inl ⟨A (e i), _, _, fun w => ?_, fun w => ?_, ⟨c, o, T, R, cT, cR, oT, oR, lo, la, lb, lt, upd lk i (A (e i)), ln, upd lP i 1, lq, ls, bl, bf, po, rfl, rfl, ar_M_pend hM hi hH (A (e i)) hk, hZ1, hZ2, hc, hmo, hK, hb1, ar_Bu hb2 (Or.inr rfl), hb3⟩, ?_, ?_, ?_⟩
      · exact absurd (Int32.le_trans (Int32.not_lt.mp h4.1) w) (by decide)
      · rw [w] at h4; exact absurd h4.1 (by decide)
      · exact fun post hp => ax_tw post (by omega) (fun w => absurd hk w) (fun _ w => absurd e4 w) (fun _ _ => hp)
      · intro post k hp
        exact br_f (fun w => absurd (Int32.le_trans (Int32.not_lt.mp h4.1) w) (by decide)) ⟨vp_in_nI (by omega) (by omega), nm_r (ar_uc st 1 (by omega)) ⟨vp_in_nI (by omega) (by omega), nm_r (ar_uc tk (A (e i)) (by omega)) hp⟩⟩
      · intro post hp
        refine ay_start post (by omega) (by omega) (fun w => absurd w hv') (fun w => absurd (e1.symm.trans w) n0) (fun _ w => absurd (e1.trans e4) w) (fun _ w => absurd (e1.trans e4) w) (fun _ _ => ?_) (fun w => absurd (e1.symm.trans w) n5)
        rw [e2]; exact hp
    · by_cases hL0 : L = 0
      · obtain ⟨r, u', v', hG', hX', hY'⟩ := ar_dev hN hG0 hi hk
        refine Or.inr ⟨r, u', v', st, m, e, mk, hG', ar_FK_0, ?_, hX', ?_⟩
        · exact fun post hp => ax_tw post (by omega) (fun w => absurd hk w) (fun _ _ => by rw [hL0]; exact hp) (fun _ w => absurd w e4)
        · intro post hp
          exact ay_start post (by omega) (by omega) (fun w => absurd w hv') (fun w => absurd (e1.symm.trans w) n0) (fun _ _ _ => ⟨r, v', hY', hp⟩) (fun _ _ w => absurd hL0 w) (fun _ w => absurd (e1.symm.trans w) e4) (fun w => absurd (e1.symm.trans w) n5)
      · refine Or.inl ⟨nI L, _, _, nI_nle (by omega) (by omega), nI_ne0 (by omega) (by omega), ⟨c, o, T, R, cT, cR, oT, oR, lo, la, lb, lt, upd lk i (nI L), ln, upd lP i 1, lq, ls, bl, bf, po, rfl, rfl, ar_M_pend hM hi hH (nI L) hk, hZ1, hZ2, hc, hmo, hK, hb1, ar_Bu hb2 (Or.inr rfl), hb3⟩, ?_, ?_, ?_⟩
        · exact fun post hp => ax_tw post (by omega) (fun w => absurd hk w) (fun _ _ => hp) (fun _ w => absurd w e4)
        · intro post k hp
          exact br_f (nI_nle (by omega) (by omega)) ⟨vp_in_nI (by omega) (by omega), nm_r (ar_uc st 1 (by omega)) ⟨vp_in_nI (by omega) (by omega), nm_r (ar_uc tk (nI L) (by omega)) hp⟩⟩
        · intro post hp
          exact ay_start post (by omega) (by omega) (fun w => absurd w hv') (fun w => absurd (e1.symm.trans w) n0) (fun _ _ w => absurd w hL0) (fun _ _ _ => hp) (fun _ w => absurd (e1.symm.trans w) e4) (fun w => absurd (e1.symm.trans w) n5)
  · have hk' : ¬ ar_ok (lo i) (la i) (lb i) := by rw [e1, e2, e3]; exact hk
    have htw : ∀ post : Int32 → Prop, post 0 → wpX_ticksToWait post (nI S, nI C, nI L, nI qF, nI qN, nI F, nI (c + o), nI c, nI n, xO, xA, xB, xT, T, R, op, A, B, tg, st, tk, hs, bl, bf) (nI (e i)) := fun post hp => ax_tw post (by omega) (fun _ => hp) (fun w => absurd w hk) (fun w => absurd w hk)
    by_cases e5 : op (e i) = 5
    · have n0 : ¬ op (e i) = 0 := fun w => by rw [e5] at w; exact absurd w (by decide)
      have hv : ¬ ¬ ar_vd (op (e i)) (A (e i)) (B (e i)) := fun w => w (Or.inr (Or.inr e5))
      have hv' : ¬ ¬ ar_vd (lo i) (la i) (lb i) := by rw [e1, e2, e3]; exact hv
      obtain ⟨r, u', v', st', m', e', mk', hG', hF', hX', hY'⟩ := ar_cancel hN (A (e i)) hG0
      refine Or.inr ⟨r, u', v', st', m', e', mk', hG', hF', htw, ?_, ?_⟩
      · exact fun post hp => ax_exec post (by omega) (fun w => absurd w hv) (fun w => absurd w n0) (fun _ w => absurd w hk) (fun _ w => absurd w hk) (fun _ w => absurd w hk) (fun _ w => absurd w hk) (fun _ => ⟨r, u', hX', hp⟩)
      · intro post hp
        refine ay_start post (by omega) (by omega) (fun w => absurd w hv') (fun w => absurd (e1.symm.trans w) n0) (fun w => absurd w hk') (fun w => absurd w hk') (fun w => absurd w hk') (fun _ => ⟨r, v', ?_, hp⟩)
        rw [e2]; exact hY'
    · by_cases e0 : op (e i) = 0
      · have hv : ¬ ¬ ar_vd (op (e i)) (A (e i)) (B (e i)) := fun w => w (Or.inr (Or.inl e0))
        have hv' : ¬ ¬ ar_vd (lo i) (la i) (lb i) := by rw [e1, e2, e3]; exact hv
        exact Or.inr ⟨0, _, _, st, m, e, mk, hG0, ar_FK_0, htw,
          fun post hp => ax_exec post (by omega) (fun w => absurd w hv) (fun _ => hp) (fun _ w => absurd w hk) (fun _ w => absurd w hk) (fun _ w => absurd w hk) (fun _ w => absurd w hk) (fun w => absurd w e5),
          fun post hp => ay_start post (by omega) (by omega) (fun w => absurd w hv') (fun _ => hp) (fun w => absurd w hk') (fun w => absurd w hk') (fun w => absurd w hk') (fun w => absurd (e1.symm.trans w) e5)⟩
      · exact Or.inr ⟨-22, _, _, st, m, e, mk, hG0, ar_FK_0, htw,
          fun post hp => ax_exec post (by omega) (fun _ => hp) (fun w => absurd w e0) (fun _ w => absurd w hk) (fun _ w => absurd w hk) (fun _ w => absurd w hk) (fun _ w => absurd w hk) (fun w => absurd w e5),
          fun post hp => ay_start post (by omega) (by omega) (fun _ => hp) (fun w => absurd (e1.symm.trans w) e0) (fun w => absurd w hk') (fun w => absurd w hk') (fun w => absurd w hk') (fun w => absurd (e1.symm.trans w) e5)⟩
theorem ar_run (hN : ar_N C L F n s) : ∀ d, ar_RA S C L F n s qF qN K q xO xA xB xT yO yA yB yT op A B tg hs hd d := by
  intro d
  induction d with
  | zero => intro f st tk m e mk wp u v _ h0; exact absurd h0 (by omega)
  | succ d ih =>
    intro f st tk m e mk wp u v hf _ hG h0 hH
    have hE := ar_G_E hG
    have hmn := ar_E_le hE
    have hN' := hN
    obtain ⟨hC, hn, hs', hF, hL⟩ := hN'
    obtain ⟨i, hi, rfl⟩ := hE.2.2 f (by omega) (by rw [h0]; exact ar_02)
    have hq := (ar_G_Q hG).2.2 (e i) (by omega)
    have hfd := fun post => ar_G_find hN hG hi post
    have hCh := ar_G_C hG
    rcases ar_start hN hG hi hH with ⟨t, u1, v1, ht1, ht2, hG1, hX0, hX1, hY1⟩ | ⟨r, u1, v1, st1, m1, e1, mk1, hG1, hF1, hX0, hX1, hY1⟩
    · refine ⟨u1, v1, _, _, _, _, _, _, hG1, ar_FR_W ht2, ?_, ?_⟩
      · intro post hp k hk
        obtain ⟨k', rfl⟩ : ∃ k', k = k' + 1 := ⟨k - 1, by omega⟩
        have hX1' := hX1 post k' hp
        obtain ⟨c, o, T, R, cT, cR, oT, oR, lo, la, lb, lt, lk, ln, lP, lq, ls, bl, bf, po, rfl, rfl, hM, hZ1, hZ2, hc, hmo, hK, hb1, hb2, hb3⟩ := hG
        exact br_f (nI_ge (by omega) (by omega)) ⟨vp_in_nI (by omega) (by omega), br_t (by rw [nI_clamp (by omega)]; exact h0) (hX0 _ hX1')⟩
      · intro post hp k it res hk hit
        obtain ⟨k', rfl⟩ : ∃ k', k = k' + 1 := ⟨k - 1, by omega⟩
        obtain ⟨c, o, T, R, cT, cR, oT, oR, lo, la, lb, lt, lk, ln, lP, lq, ls, bl, bf, po, rfl, rfl, hM, hZ1, hZ2, hc, hmo, hK, hb1, hb2, hb3⟩ := hG
        obtain ⟨c1, o1, T1, R1, cT1, cR1, oT1, oR1, lo1, la1, lb1, lt1, lk1, ln1, lP1, lq1, ls1, bl1, bf1, po1, rfl, rfl, hM1, hZ11, hZ21, hc1, hmo1, hK1, hb11, hb21, hb31⟩ := hG1
        exact br_f (nI_ge (b := 40) (by omega) (by decide)) (hfd _ (br_t (nI_pos' (by omega)) (br_f (by decide) (hY1 _ (br_f (by decide) hp)))))
    · have h01 := ar_FK_c hCh hF1 h0 hH
      have hH1 := ar_FK_H hF1 hH
      have hE1 := ar_G_E hG1
      have hmn1 := ar_E_le hE1
      obtain ⟨i1, hi1, hei⟩ := hE1.2.2 (e i) (by omega) (by rw [h01]; exact ar_02)
      have hfd1 := fun post => ar_G_find hN hG1 hi1 post
      rw [hei] at hfd1
      obtain ⟨u2, v2, st2, tk2, m2, e2, mk2, wp2, hG2, hF2, hX2, hY2⟩ := ar_fin hN r ih hG1 hi1 (by rw [hei]; exact hf) (by rw [hei]; exact hH1)
      rw [hei] at hF2 hX2
      refine ⟨u2, v2, st2, tk2, m2, e2, mk2, wp2, hG2, ar_FR_K hF1 hF2, ?_, ?_⟩
      · intro post hp k hk
        obtain ⟨k', rfl⟩ : ∃ k', k = k' + 1 := ⟨k - 1, by omega⟩
        have hX2' := hX2 post hp k' (by omega) u hX1
        obtain ⟨c, o, T, R, cT, cR, oT, oR, lo, la, lb, lt, lk, ln, lP, lq, ls, bl, bf, po, rfl, rfl, hM, hZ1, hZ2, hc, hmo, hK, hb1, hb2, hb3⟩ := hG
        exact br_f (nI_ge (by omega) (by omega)) ⟨vp_in_nI (by omega) (by omega), br_t (by rw [nI_clamp (by omega)]; exact h0) (hX0 _ hX2')⟩
      · intro post hp k it res hk hit
        obtain ⟨k', rfl⟩ : ∃ k', k = k' + 1 := ⟨k - 1, by omega⟩
        have hY2' := hY2 post hp k' it (by omega) (by omega)
        obtain ⟨c, o, T, R, cT, cR, oT, oR, lo, la, lb, lt, lk, ln, lP, lq, ls, bl, bf, po, rfl, rfl, hM, hZ1, hZ2, hc, hmo, hK, hb1, hb2, hb3⟩ := hG
        obtain ⟨c1, o1, T1, R1, cT1, cR1, oT1, oR1, lo1, la1, lb1, lt1, lk1, ln1, lP1, lq1, ls1, bl1, bf1, po1, rfl, rfl, hM1, hZ11, hZ21, hc1, hmo1, hK1, hb11, hb21, hb31⟩ := hG1
        exact br_f (nI_ge (b := 40) (by omega) (by decide)) (hfd _ (br_t (nI_pos' (by omega)) (br_f (by decide) (hY1 _ (br_t rfl (hfd1 _ (br_t (nI_pos' (by omega)) hY2')))))))
end
