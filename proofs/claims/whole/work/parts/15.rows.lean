theorem ar_K2 {a b x y K : Int32} (h1 : a + x = K) (h2 : b + y = K) : b - a = x - y := by
  have h3 : b = a + x - y := by rw [h1, ← h2, Int32.add_sub_cancel]
  rw [h3]
  grind
theorem ar_M_tk {n m s : Nat} {e q : Nat → Nat} {op A B tg st tk tk' hs lo la lb lt lk lk' lP : Nat → Int32} {lq ls : Nat → Int64} (h : ar_M n m s e q op A B tg st tk hs lo la lb lt lk lP lq ls) (hv : ar_V e m lk' tk') : ar_M n m s e q op A B tg st tk' hs lo la lb lt lk' lP lq ls := by
  obtain ⟨hE, h1, h2, h3, h4, h5, h6, h7, h8, hC, hQ, hP⟩ := h
  exact ⟨hE, h1, h2, h3, h4, hv, h6, h7, h8, hC, hQ, hP⟩
theorem i_vc_tick {k : Nat} {u : SX} {v : SY} (I : i_Rel k u v) (hk : k + 5 ≤ 2563) : wpX_tick (fun r u' => wpY_tick (fun r' v' => r' = r ∧ i_Rel (k + 5) u' v') v) u := by
  obtain ⟨S, C, L, F, n, s, qF, qN, K, q, xO, xA, xB, xT, yO, yA, yB, yT, op, A, B, tg, hs, hd, st, tk, mk, wp, hG, hI⟩ := I
  obtain ⟨hN, hw1, hw2, hw3, hw4, hS, hqS, hqF, hsk, hbh⟩ := hI
  have hN' := hN
  obtain ⟨hC, hn, hsz, hF, hL⟩ := hN'
  obtain ⟨u1, v1, hG1, hX1, hY1⟩ := ar_flush hN hG
  obtain ⟨c1, o1, T1, R1, cT1, cR1, oT1, oR1, lo1, la1, lb1, lt1, lk1, ln1, lP1, lq1, ls1, bl1, bf1, po1, rfl, rfl, hM1, hZ11, hZ21, hc1, hmo1, hK1, hb11, hb21, hb31⟩ := hG1
  have hvt : ar_V (fun j => j) n (ar_cd (fun p => decide (¬ lP1 p = 0)) lk1 n) (ar_cd (fun p => decide (st p = 1)) tk n) := by
    intro j hj
    have e1 : lP1 j = ar_pd st j := hM1.2.2.2.2.2.2.1 j hj
    have e2 : lk1 j = tk j := hM1.2.2.2.2.2.1 j hj
    show (if j < n ∧ decide (¬ lP1 j = 0) = true then lk1 j - 1 else lk1 j) = (if j < n ∧ decide (st j = 1) = true then tk j - 1 else tk j)
    rw [e1, e2]
    unfold ar_pd
    by_cases z : st j = 1
    · rw [if_pos z, if_pos ⟨hj, decide_eq_true ar_10⟩, if_pos ⟨hj, decide_eq_true z⟩]
    · have n1 : ¬ (j < n ∧ decide (¬ (0 : Int32) = 0) = true) := fun w => of_decide_eq_true w.2 rfl
      have n2 : ¬ (j < n ∧ decide (st j = 1) = true) := fun w => z (of_decide_eq_true w.2)
      rw [if_neg z, if_neg n1, if_neg n2]
  have hG2 : ar_G S C L F n s qF qN K q xO xA xB xT yO yA yB yT op A B tg hs hd st (ar_cd (fun p => decide (st p = 1)) tk n) n (fun j => j) mk wp (nI S, nI C, nI L, nI qF, nI qN, nI F, nI (c1 + o1), nI c1, nI n, xO, xA, xB, xT, T1, R1, op, A, B, tg, st, ar_cd (fun p => decide (st p = 1)) tk n, hs, bl1, bf1)
      (nI S, nI C, nI L, nI qN, nI c1, nI o1, nI n, lN s, po1, wp, yO, yA, yB, yT, cT1, cR1, oT1, oR1, lo1, la1, lb1, lt1, ar_cd (fun p => decide (¬ lP1 p = 0)) lk1 n, ln1, lP1, mk, lq1, ls1, hd, bl1, bf1) :=
    ⟨c1, o1, T1, R1, cT1, cR1, oT1, oR1, lo1, la1, lb1, lt1, _, ln1, lP1, lq1, ls1, bl1, bf1, po1, rfl, rfl, ar_M_tk hM1 hvt, hZ11, hZ21, hc1, hmo1, hK1, hb11, hb21, hb31⟩
  obtain ⟨u3, v3, st3, tk3, m3, e3, mk3, wp3, hG3, hX3, hY3⟩ := ar_tloop hN po1 n 0 _ _ _ _ _ _ _ _ (by omega) hG2 (fun p hp => absurd hp (by omega))
  have hE3 := ar_G_E hG3
  have hmn3 := ar_E_le hE3
  obtain ⟨c3, o3, T3, R3, cT3, cR3, oT3, oR3, lo3, la3, lb3, lt3, lk3, ln3, lP3, lq3, ls3, bl3, bf3, po3, rfl, rfl, hM3, hZ13, hZ23, hc3, hmo3, hK3, hb13, hb23, hb33⟩ := hG3
  have hres : po3 - po1 = nI n - nI m3 := ar_K2 hK1 hK3
  have hYall : ∀ post : Int32 → SY → Prop, post (nI n - nI m3) (nI S, nI C, nI L, nI qN, nI c3, nI o3, nI m3, lN s, po3, wp3, yO, yA, yB, yT, cT3, cR3, oT3, oR3, lo3, la3, lb3, lt3, lk3, ln3, lP3, mk3, lq3, ls3, hd, bl3, bf3) → wpY_tick post v := by
    intro post hp
    rw [← hres] at hp
    have h1 := hY3 post hp (n + 1) 0 (by omega) (by omega)
    have h2 := ay_cd (lk := lk1) (lP := lP1) post (by omega) ⟨_, h1⟩ n 0 (by omega)
    rw [ar_cd_0] at h2
    obtain ⟨c, o, T, R, cT, cR, oT, oR, lo, la, lb, lt, lk, ln, lP, lq, ls, bl, bf, po, e1, rfl, hM, hZ1, hZ2, hc, hmo, hK, hb1, hb2, hb3⟩ := hG
    unfold wpY_tick
    exact hY1 _ ⟨_, h2⟩
  have hXall : ∀ post : Int32 → SX → Prop, (∀ op' A' B' tg' st' tk' hs' : Nat → Int32, (∀ j, j < m3 → op' j = op (e3 j)) → (∀ j, j < m3 → A' j = A (e3 j)) → (∀ j, j < m3 → B' j = B (e3 j)) → (∀ j, j < m3 → tg' j = tg (e3 j)) → (∀ j, j < m3 → st' j = st3 (e3 j)) → (∀ j, j < m3 → tk' j = tk3 (e3 j)) → (∀ j, j < m3 → hs' j = hs (e3 j)) → ar_B hs' → post (nI n - nI m3) (nI S, nI C, nI L, nI qF, nI qN, nI F, nI (c3 + o3), nI c3, nI m3, xO, xA, xB, xT, T3, R3, op', A', B', tg', st', tk', hs', bl3, bf3)) → wpX_tick post u := by
    intro post hp
    have h0 := hX3 post (ax_dropPosted _ hn hE3 hbh hp) (n + 1) (by omega)
    have h2 := ax_cd (st := st) (tk := tk) (S := S) (C := C) (L := L) (F := F) (qF := qF) (qN := qN) (c := c1) (o := o1) (n := n) (xO := xO) (xA := xA) (xB := xB) (xT := xT) (op := op) (A := A) (B := B) (tg := tg) (hs := hs) (T := T1) (R := R1) (bl := bl1) (bf := bf1) (fun w => match w with | (f_sqCapacity, f_cqCapacity, f_latency, f_sqFirst, f_sqCount, f_doneFirst, f_doneCount, f_cqCount, f_reqCount, a_sqOpFlags, a_sqA, a_sqB, a_sqTag, a_doneTag, a_doneResult, a_reqOpcode, a_reqA, a_reqB, a_reqTag, a_reqState, a_reqTicks, a_reqHasSuccessor, a_blocks, a_buffers) => ∃ n15 : Nat, wX_tick_15 post f_reqCount n15 0 f_sqCapacity f_cqCapacity f_latency f_sqFirst f_sqCount f_doneFirst f_doneCount f_cqCount f_reqCount a_sqOpFlags a_sqA a_sqB a_sqTag a_doneTag a_doneResult a_reqOpcode a_reqA a_reqB a_reqTag a_reqState a_reqTicks a_reqHasSuccessor a_blocks a_buffers) hn ⟨_, h0⟩ n 0 (by omega)
    rw [ar_cd_0] at h2
    obtain ⟨c, o, T, R, cT, cR, oT, oR, lo, la, lb, lt, lk, ln, lP, lq, ls, bl, bf, po, rfl, e2, hM, hZ1, hZ2, hc, hmo, hK, hb1, hb2, hb3⟩ := hG
    unfold wpX_tick
    exact hX1 _ ⟨_, h2⟩
  refine hXall _ (fun op' A' B' tg' st' tk' hs' d1 d2 d3 d4 d5 d6 d7 hb => hYall _ ⟨rfl, ?_⟩)
  exact ⟨S, C, L, F, m3, s, qF, qN, K, (fun j => q (e3 j)), xO, xA, xB, xT, yO, yA, yB, yT, op', A', B', tg', hs', hd, st', tk', mk3, wp3, ⟨c3, o3, T3, R3, cT3, cR3, oT3, oR3, lo3, la3, lb3, lt3, lk3, ln3, lP3, lq3, ls3, bl3, bf3, po3, rfl, rfl, (ar_M_drop hM3 d1 d2 d3 d4 d5 d6 d7).1, hZ13, hZ23, hc3, hmo3, hK3, hb13, hb23, hb33⟩, ⟨hC, by omega, hsz, hF, hL⟩, hw1, hw2, hw3, hw4, hS, hqS, hqF, by omega, hb⟩
