theorem i_vc_enter {k : Nat} {u : SX} {v : SY} (I : i_Rel k u v) (hk : k + 5 ≤ 2563) (v1 : Int32) : wpX_enter (fun r u' => wpY_enter (fun r' v' => r' = r ∧ i_Rel (k + 5) u' v') v v1) u v1 := by
  obtain ⟨S, C, L, F, n0, s, qF0, qN, K, q, xO, xA, xB, xT, yO0, yA0, yB0, yT0, op0, A0, B0, tg0, hs0, hd, st0, tk0, mk0, wp0, hG, hI⟩ := I
  obtain ⟨hN0, hw01, hw02, hw03, hw04, hS, hqS, hqF0, hsk, hbh⟩ := hI
  have hN' := hN0
  obtain ⟨hC, hn0, hsz, hF, hL⟩ := hN'
  obtain ⟨u1, v1', hG1, hX1, hY1⟩ := ar_flush hN0 hG
  have hC0 := ar_G_C hG
  have hE0 := ar_G_E hG
  have hlast0 : ∀ r, r + 1 = n0 → hs0 r = 0 := by
    intro r hr
    by_cases z : hs0 r = 0
    · exact z
    · have := (hC0 r (by omega) (hE0.2.1 r (by omega)).2 z).1
      omega
  obtain ⟨c1, o, T1, R1, cT1, cR1, oT1, oR1, lo1, la1, lb1, lt1, lk1, ln1, lP1, lq1, ls1, bl1, bf1, po1, rfl, rfl, hM1, hZ11, hZ21, hc1, hmo1, hK1, hb11, hb21, hb31⟩ := hG1
  obtain ⟨k', N', u2, v2, a1, hKG, hX2, hY2⟩ := ar_take (S := S) (C := C) (L := L) (F := F) (s0 := s) (n0 := n0) (o := o) (q := q) (xO := xO) (xA := xA) (xB := xB) (xT := xT) (hd := hd) v1 qN 0 _ _
    ⟨c1, qF0, T1, R1, cT1, cR1, oT1, oR1, yO0, yA0, yB0, yT0, op0, A0, B0, tg0, st0, tk0, hs0, lo1, la1, lb1, lt1, lk1, ln1, lP1, mk0, lq1, ls1, bl1, bf1, po1, wp0, rfl, rfl, ar_U_0 hM1, hZ11, hZ21, hc1, by omega, hw01, hw02, hw03, hw04, hqF0, hbh, hb11, hb21, hb31⟩ (by omega)
  obtain ⟨c, qF, T, R, cT, cR, oT, oR, yO, yA, yB, yT, op, A, B, tg, st, tk, hs, lo, la, lb, lt, lk, ln, lP, mk, lq, ls, bl, bf, po, wp, rfl, rfl, hU, hZ1, hZ2, hc, hno, hw1, hw2, hw3, hw4, hqF, hb0, hb1, hb2, hb3⟩ := hKG
  have hM := ar_U_M hU
  have hNn : ar_N C L F (n0 + k') (s + k') := ⟨hC, by omega, by omega, hF, hL⟩
  have q1 : ∀ j, j < k' → ar_qe q n0 s (n0 + j) = s + j := fun j hj => (if_neg (by omega)).trans (by rw [show n0 + j - n0 = j by omega])
  have hst : ∀ p, n0 ≤ p → p < n0 + k' → st p = 0 := fun p h1 h2 => (hU.2.2.1 p h1 h2).2.2.2
  have hfst : ∀ r, r + 1 = n0 → ar_he hs n0 k' r = 0 := by
    intro r hr
    have e1 : ar_he hs n0 k' r = hs r := if_neg (by omega)
    rw [e1]
    by_cases z : hs r = 0
    · exact z
    · have := (hU.2.2.2.1 r (by omega) (hU.1 r (by omega)).2.2.2.2.2.2 z).1
      omega
  have hG3 : ar_G S C L F (n0 + k') (s + k') qF N' (po + nI (n0 + k')) (ar_qe q n0 s) xO xA xB xT yO yA yB yT op A B tg (ar_he hs n0 k') (ar_hf (ar_he hs n0 k') hd n0 k') st tk (n0 + k') (fun j => j) mk wp
      (nI S, nI C, nI L, nI qF, nI N', nI F, nI (c + o), nI c, nI (n0 + k'), xO, xA, xB, xT, T, R, op, A, B, tg, st, tk, ar_he hs n0 k', bl, bf) (nI S, nI C, nI L, nI N', nI c, nI o, nI (n0 + k'), lN (s + k'), po, wp, yO, yA, yB, yT, cT, cR, oT, oR, lo, la, lb, lt, lk, ln, lP, mk, lq, ar_lf ls (ar_he hs n0 k') (ar_qe q n0 s) n0 k', ar_hf (ar_he hs n0 k') hd n0 k', bl, bf) :=
    ⟨c, o, T, R, cT, cR, oT, oR, lo, la, lb, lt, lk, ln, lP, lq, _, bl, bf, po, rfl, rfl, hM, hZ1, hZ2, hc, by omega, rfl, hb1, hb2, hb3⟩
  obtain ⟨u3, v3, st3, tk3, m3, e3, mk3, wp3, hG4, hX3, hY3⟩ := ar_eloop hNn (n0 := n0) (k := k') (s0 := s) rfl q1 (fun j hj => if_pos hj) hfst k' 0 st tk (n0 + k') (fun j => j) mk wp _ _ (by omega) hG3 (fun h h1 _ p h3 h4 => hst p (by omega) h4)
  have hE3 := ar_G_E hG4
  have hmn3 := ar_E_le hE3
  obtain ⟨c3, o3, T3, R3, cT3, cR3, oT3, oR3, lo3, la3, lb3, lt3, lk3, ln3, lP3, lq3, ls3, bl3, bf3, po3, rfl, rfl, hM3, hZ13, hZ23, hc3, hmo3, hK3, hb13, hb23, hb33⟩ := hG4
  have hYall : ∀ post : Int32 → SY → Prop, post (nI k') (nI S, nI C, nI L, nI N', nI c3, nI o3, nI m3, lN (s + k'), po3, wp3, yO, yA, yB, yT, cT3, cR3, oT3, oR3, lo3, la3, lb3, lt3, lk3, ln3, lP3, mk3, lq3, ls3, ar_hf (ar_he hs n0 k') hd n0 k', bl3, bf3) → wpY_enter post v v1 := by
    intro post hp
    have h1 := hY3 post hp (k' + 1) (by omega)
    have h2 := ay_link (hs := ar_he hs n0 k') (hd := hd) (ls := ls) (q := ar_qe q n0 s) (ln := ln) (n0 := n0) (k := k') (s0 := s) (m := n0 + k') post (by omega) rfl (by omega) (fun j hj => hM.2.2.2.2.2.2.2.1 j hj) (hM.2.2.2.2.2.2.2.2.2.2.1.1) q1 (fun j hj => (hU.2.2.1 (n0 + j) (by omega) (by omega)).2.1)
      (fun j hj => ((hU.2.2.1 (n0 + j) (by omega) (by omega)).2.2.1).trans (if_neg (by omega)).symm) (fun h => if_pos ⟨h, rfl⟩) ⟨_, h1⟩ k' 0 (by omega)
    rw [ar_hf_0, ar_lf_0] at h2
    have h3 := hY2 post ⟨k' + 1, h2⟩ (qN + 1) (by omega)
    obtain ⟨c9, o9, T9, R9, cT9, cR9, oT9, oR9, lo9, la9, lb9, lt9, lk9, ln9, lP9, lq9, ls9, bl9, bf9, po9, e9, rfl, hM9, hZ19, hZ29, hc9, hmo9, hK9, hb19, hb29, hb39⟩ := hG
    unfold wpY_enter
    exact hY1 _ ⟨_, h3⟩
  have hXall : ∀ post : Int32 → SX → Prop, (∀ op' A' B' tg' st' tk' hs' : Nat → Int32, (∀ j, j < m3 → op' j = op (e3 j)) → (∀ j, j < m3 → A' j = A (e3 j)) → (∀ j, j < m3 → B' j = B (e3 j)) → (∀ j, j < m3 → tg' j = tg (e3 j)) → (∀ j, j < m3 → st' j = st3 (e3 j)) → (∀ j, j < m3 → tk' j = tk3 (e3 j)) → (∀ j, j < m3 → hs' j = ar_he hs n0 k' (e3 j)) → ar_B hs' → post (nI (n0 + k') - nI n0) (nI S, nI C, nI L, nI qF, nI N', nI F, nI (c3 + o3), nI c3, nI m3, xO, xA, xB, xT, T3, R3, op', A', B', tg', st', tk', hs', bl3, bf3)) → wpX_enter post u v1 := by
    intro post hp
    have h0 := hX3 post (ax_dropPosted _ (by omega) hE3 (ar_he_B hb0) hp) (k' + 1) (by omega)
    have h1 := hX2 (fun w => match w with | (f_sqCapacity, f_cqCapacity, f_latency, f_sqFirst, f_sqCount, f_doneFirst, f_doneCount, f_cqCount, f_reqCount, a_sqOpFlags, a_sqA, a_sqB, a_sqTag, a_doneTag, a_doneResult, a_reqOpcode, a_reqA, a_reqB, a_reqTag, a_reqState, a_reqTicks, a_reqHasSuccessor, a_blocks, a_buffers) => ∃ n22 : Nat, wX_enter_22 post (nI n0) f_reqCount n22 (nI n0) f_sqCapacity f_cqCapacity f_latency f_sqFirst f_sqCount f_doneFirst f_doneCount f_cqCount f_reqCount a_sqOpFlags a_sqA a_sqB a_sqTag a_doneTag a_doneResult a_reqOpcode a_reqA a_reqB a_reqTag a_reqState a_reqTicks a_reqHasSuccessor a_blocks a_buffers) (by
      by_cases z : k' = 0
      · subst z
        rw [ar_he_0] at h0
        exact br_t (nI_le (by omega) (by omega)) ⟨_, h0⟩
      · have e1 : nI (n0 + k') - 1 = nI (n0 + k' - 1) := by
          have := nI_pred (n0 + k' - 1)
          rw [show n0 + k' - 1 + 1 = n0 + k' by omega] at this
          exact this
        refine br_f (nI_ge (by omega) (by omega)) ⟨by rw [e1]; exact vp_in_nI (by omega) (by omega), nm_r (e' := ar_he hs n0 k') ?_ ⟨_, h0⟩⟩
        rw [e1, ar_ub hs 0 (by omega) (Or.inl rfl), ar_he_k (by omega)]) (qN + 1) (by omega)
    have e2 : nI (c1 + o) - nI c1 = nI o := by rw [pk_sub (by omega), show c1 + o - c1 = o by omega]
    obtain ⟨c9, o9, T9, R9, cT9, cR9, oT9, oR9, lo9, la9, lb9, lt9, lk9, ln9, lP9, lq9, ls9, bl9, bf9, po9, rfl, e9, hM9, hZ19, hZ29, hc9, hmo9, hK9, hb19, hb29, hb39⟩ := hG
    unfold wpX_enter
    exact hX1 _ (nm_r e2 ⟨_, h1⟩)
  refine hXall _ (fun op' A' B' tg' st' tk' hs' d1 d2 d3 d4 d5 d6 d7 hb => hYall _ ⟨?_, ?_⟩)
  · rw [pk_sub (by omega), show n0 + k' - n0 = k' by omega]
  · exact ⟨S, C, L, F, m3, s + k', qF, N', po + nI (n0 + k'), (fun j => ar_qe q n0 s (e3 j)), xO, xA, xB, xT, yO, yA, yB, yT, op', A', B', tg', hs', _, st', tk', mk3, wp3, ⟨c3, o3, T3, R3, cT3, cR3, oT3, oR3, lo3, la3, lb3, lt3, lk3, ln3, lP3, lq3, ls3, bl3, bf3, po3, rfl, rfl, (ar_M_drop hM3 d1 d2 d3 d4 d5 d6 d7).1, hZ13, hZ23, hc3, hmo3, hK3, hb13, hb23, hb33⟩, ⟨hC, by omega, by omega, hF, hL⟩, hw1, hw2, hw3, hw4, hS, by omega, hqF, by omega, hb⟩
