theorem i_vc_cqReady {k : Nat} {u : SX} {v : SY} (I : i_Rel k u v) (hk : k + 5 ≤ 2563) : wpX_cqReady (fun r => wpY_cqReady (fun r' => r' = r ∧ i_Rel (k + 5) u v) v) u := by
  have I' := i_up I
  obtain ⟨S, C, L, F, n, s, qF, qN, K, q, xO, xA, xB, xT, yO, yA, yB, yT, op, A, B, tg, hs, hd, st, tk, mk, wp, hG, hI⟩ := I
  obtain ⟨c, o, T, R, cT, cR, oT, oR, lo, la, lb, lt, lk, ln, lP, lq, ls, bl, bf, po, rfl, rfl, hM, hZ1, hZ2, hc, hmo, hK, hb1, hb2, hb3⟩ := hG
  exact And.intro rfl I'
theorem i_vc_overflowCount {k : Nat} {u : SX} {v : SY} (I : i_Rel k u v) (hk : k + 5 ≤ 2563) : wpX_overflowCount (fun r => wpY_overflowCount (fun r' => r' = r ∧ i_Rel (k + 5) u v) v) u := by
  have I' := i_up I
  obtain ⟨S, C, L, F, n, s, qF, qN, K, q, xO, xA, xB, xT, yO, yA, yB, yT, op, A, B, tg, hs, hd, st, tk, mk, wp, hG, hI⟩ := I
  obtain ⟨c, o, T, R, cT, cR, oT, oR, lo, la, lb, lt, lk, ln, lP, lq, ls, bl, bf, po, rfl, rfl, hM, hZ1, hZ2, hc, hmo, hK, hb1, hb2, hb3⟩ := hG
  refine And.intro ?_ I'
  rw [pk_sub (by omega), show c + o - c = o by omega]
theorem i_vc_sqPending {k : Nat} {u : SX} {v : SY} (I : i_Rel k u v) (hk : k + 5 ≤ 2563) : wpX_sqPending (fun r => wpY_sqPending (fun r' => r' = r ∧ i_Rel (k + 5) u v) v) u := by
  have I' := i_up I
  obtain ⟨S, C, L, F, n, s, qF, qN, K, q, xO, xA, xB, xT, yO, yA, yB, yT, op, A, B, tg, hs, hd, st, tk, mk, wp, hG, hI⟩ := I
  obtain ⟨c, o, T, R, cT, cR, oT, oR, lo, la, lb, lt, lk, ln, lP, lq, ls, bl, bf, po, rfl, rfl, hM, hZ1, hZ2, hc, hmo, hK, hb1, hb2, hb3⟩ := hG
  exact And.intro rfl I'
theorem i_vc_liveCount {k : Nat} {u : SX} {v : SY} (I : i_Rel k u v) (hk : k + 5 ≤ 2563) : wpX_liveCount (fun r => wpY_liveCount (fun r' => r' = r ∧ i_Rel (k + 5) u v) v) u := by
  have I' := i_up I
  obtain ⟨S, C, L, F, n, s, qF, qN, K, q, xO, xA, xB, xT, yO, yA, yB, yT, op, A, B, tg, hs, hd, st, tk, mk, wp, hG, hI⟩ := I
  obtain ⟨c, o, T, R, cT, cR, oT, oR, lo, la, lb, lt, lk, ln, lP, lq, ls, bl, bf, po, rfl, rfl, hM, hZ1, hZ2, hc, hmo, hK, hb1, hb2, hb3⟩ := hG
  exact And.intro rfl I'
theorem i_vc_cqTag {k : Nat} {u : SX} {v : SY} (I : i_Rel k u v) (hk : k + 5 ≤ 2563) (v1 : Int32) : wpX_cqTag (fun r => wpY_cqTag (fun r' => r' = r ∧ i_Rel (k + 5) u v) v v1) u v1 := by
  have I' := i_up I
  obtain ⟨S, C, L, F, n, s, qF, qN, K, q, xO, xA, xB, xT, yO, yA, yB, yT, op, A, B, tg, hs, hd, st, tk, mk, wp, hG, hI⟩ := I
  obtain ⟨⟨hC, hn, hs', hF, hL⟩, _⟩ := hI
  obtain ⟨c, o, T, R, cT, cR, oT, oR, lo, la, lb, lt, lk, ln, lP, lq, ls, bl, bf, po, rfl, rfl, hM, hZ1, hZ2, hc, hmo, hK, hb1, hb2, hb3⟩ := hG
  by_cases h0 : v1 < 0
  · exact br_t h0 (br_f (fun w => ar_ln w h0) ⟨rfl, I'⟩)
  · obtain ⟨j, hj, rfl⟩ := nI_of h0
    by_cases h1 : j < c + o
    · have e1 := ar_r48 F j (by omega)
      have e2 : ((nI F + nI j) - (nI F + nI j) / 48 * 48).toNatClampNeg = (F + j) % 48 := by rw [e1, nI_clamp (by omega)]
      refine br_f h0 (br_t (nI_lt h1 (by omega)) ⟨by decide, by rw [e1]; exact vp_in_nI (Nat.mod_lt _ (by omega)) (by omega), ?_⟩)
      by_cases h2 : j < c
      · refine br_t (nI_pos' hj) (br_f (nI_ge h2 (by omega)) (br_f (nI_ge (b := 16) (by omega) (by decide)) ⟨vp_in_nI (by omega) (by omega), ?_, I'⟩))
        rw [e2, nI_clamp hj]; exact (hZ1.1 j h2).symm
      · have e3 : nI j - nI c = nI (j - c) := pk_sub (by omega)
        refine br_t (nI_pos' hj) (br_t (nI_le (by omega) hj) (br_f (by rw [nI_add]; exact nI_ge h1 (by omega)) (br_f (by rw [e3]; exact nI_ge (b := 32) (by omega) (by decide)) ⟨by rw [e3]; exact vp_in_nI (by omega) (by omega), ?_, I'⟩)))
        rw [e2, e3, nI_clamp (by omega), ← hZ1.2 (j - c) (by omega), show c + (j - c) = j by omega]
    · have key : nI c + nI o ≤ nI j := by rw [nI_add]; exact nI_le (by omega) hj
      exact br_f h0 (br_f (nI_nlt (by omega) hj) (br_t (nI_pos' hj) (br_t (nI_le (by omega) hj) (br_t key ⟨rfl, I'⟩))))
theorem i_vc_cqResult {k : Nat} {u : SX} {v : SY} (I : i_Rel k u v) (hk : k + 5 ≤ 2563) (v1 : Int32) : wpX_cqResult (fun r => wpY_cqResult (fun r' => r' = r ∧ i_Rel (k + 5) u v) v v1) u v1 := by
  have I' := i_up I
  obtain ⟨S, C, L, F, n, s, qF, qN, K, q, xO, xA, xB, xT, yO, yA, yB, yT, op, A, B, tg, hs, hd, st, tk, mk, wp, hG, hI⟩ := I
  obtain ⟨⟨hC, hn, hs', hF, hL⟩, _⟩ := hI
  obtain ⟨c, o, T, R, cT, cR, oT, oR, lo, la, lb, lt, lk, ln, lP, lq, ls, bl, bf, po, rfl, rfl, hM, hZ1, hZ2, hc, hmo, hK, hb1, hb2, hb3⟩ := hG
  by_cases h0 : v1 < 0
  · exact br_t h0 (br_f (fun w => ar_ln w h0) ⟨rfl, I'⟩)
  · obtain ⟨j, hj, rfl⟩ := nI_of h0
    by_cases h1 : j < c + o
    · have e1 := ar_r48 F j (by omega)
      have e2 : ((nI F + nI j) - (nI F + nI j) / 48 * 48).toNatClampNeg = (F + j) % 48 := by rw [e1, nI_clamp (by omega)]
      refine br_f h0 (br_t (nI_lt h1 (by omega)) ⟨by decide, by rw [e1]; exact vp_in_nI (Nat.mod_lt _ (by omega)) (by omega), ?_⟩)
      by_cases h2 : j < c
      · refine br_t (nI_pos' hj) (br_f (nI_ge h2 (by omega)) (br_f (nI_ge (b := 16) (by omega) (by decide)) ⟨vp_in_nI (by omega) (by omega), ?_, I'⟩))
        rw [e2, nI_clamp hj]; exact (hZ2.1 j h2).symm
      · have e3 : nI j - nI c = nI (j - c) := pk_sub (by omega)
        refine br_t (nI_pos' hj) (br_t (nI_le (by omega) hj) (br_f (by rw [nI_add]; exact nI_ge h1 (by omega)) (br_f (by rw [e3]; exact nI_ge (b := 32) (by omega) (by decide)) ⟨by rw [e3]; exact vp_in_nI (by omega) (by omega), ?_, I'⟩)))
        rw [e2, e3, nI_clamp (by omega), ← hZ2.2 (j - c) (by omega), show c + (j - c) = j by omega]
    · have key : nI c + nI o ≤ nI j := by rw [nI_add]; exact nI_le (by omega) hj
      exact br_f h0 (br_f (nI_nlt (by omega) hj) (br_t (nI_pos' hj) (br_t (nI_le (by omega) hj) (br_t key ⟨rfl, I'⟩))))
theorem i_vc_liveTag {k : Nat} {u : SX} {v : SY} (I : i_Rel k u v) (hk : k + 5 ≤ 2563) (v1 : Int32) : wpX_liveTag (fun r => wpY_liveTag (fun r' => r' = r ∧ i_Rel (k + 5) u v) v v1) u v1 := by
  have I' := i_up I
  obtain ⟨S, C, L, F, n, s, qF, qN, K, q, xO, xA, xB, xT, yO, yA, yB, yT, op, A, B, tg, hs, hd, st, tk, mk, wp, hG, hI⟩ := I
  obtain ⟨⟨hC, hn, hs', hF, hL⟩, _⟩ := hI
  obtain ⟨c, o, T, R, cT, cR, oT, oR, lo, la, lb, lt, lk, ln, lP, lq, ls, bl, bf, po, rfl, rfl, hM, hZ1, hZ2, hc, hmo, hK, hb1, hb2, hb3⟩ := hG
  by_cases h0 : v1 < 0
  · exact br_t h0 (br_t h0 ⟨rfl, I'⟩)
  · obtain ⟨j, hj, rfl⟩ := nI_of h0
    by_cases h1 : j < n
    · refine br_f h0 (br_t (nI_lt h1 (by omega)) ⟨vp_in_nI (by omega) (by omega), br_f h0 (br_f (nI_ge h1 (by omega)) (br_t (nI_lt (b := 32) (by omega) (by decide)) ⟨vp_in_nI (by omega) (by omega), ?_, I'⟩))⟩)
      rw [nI_clamp hj]; exact hM.2.2.2.2.1 j h1
    · exact br_f h0 (br_f (nI_nlt (by omega) hj) (br_f h0 (br_t (nI_le (by omega) hj) ⟨rfl, I'⟩)))
theorem i_vc_liveState {k : Nat} {u : SX} {v : SY} (I : i_Rel k u v) (hk : k + 5 ≤ 2563) (v1 : Int32) : wpX_liveState (fun r => wpY_liveState (fun r' => r' = r ∧ i_Rel (k + 5) u v) v v1) u v1 := by
  have I' := i_up I
  obtain ⟨S, C, L, F, n, s, qF, qN, K, q, xO, xA, xB, xT, yO, yA, yB, yT, op, A, B, tg, hs, hd, st, tk, mk, wp, hG, hI⟩ := I
  obtain ⟨⟨hC, hn, hs', hF, hL⟩, _⟩ := hI
  obtain ⟨c, o, T, R, cT, cR, oT, oR, lo, la, lb, lt, lk, ln, lP, lq, ls, bl, bf, po, rfl, rfl, hM, hZ1, hZ2, hc, hmo, hK, hb1, hb2, hb3⟩ := hG
  by_cases h0 : v1 < 0
  · exact br_t h0 (br_t h0 ⟨rfl, I'⟩)
  · obtain ⟨j, hj, rfl⟩ := nI_of h0
    by_cases h1 : j < n
    · have i0 : vp_in (nI j) 32 := vp_in_nI (by omega) (by omega)
      have hP : lP j = ar_pd st j := hM.2.2.2.2.2.2.1 j h1
      have hT : lk j = tk j := hM.2.2.2.2.2.1 j h1
      have hU : ls j = ar_su hs q j := hM.2.2.2.2.2.2.2.2.1 j h1
      have hq := hM.2.2.2.2.2.2.2.2.2.2.1.2.2 j h1
      have key : ∀ (z z' : Int32), z' = z → wX_liveState_34 (fun r => wY_liveState_39 (fun r' => r' = r ∧ i_Rel (k + 5) (nI S, nI C, nI L, nI qF, nI qN, nI F, nI (c + o), nI c, nI n, xO, xA, xB, xT, T, R, op, A, B, tg, st, tk, hs, bl, bf) (nI S, nI C, nI L, nI qN, nI c, nI o, nI n, lN s, po, wp, yO, yA, yB, yT, cT, cR, oT, oR, lo, la, lb, lt, lk, ln, lP, mk, lq, ls, hd, bl, bf)) (nI j) z' (nI S) (nI C) (nI L) (nI qN) (nI c) (nI o) (nI n) (lN s) po wp yO yA yB yT cT cR oT oR lo la lb lt lk ln lP mk lq ls hd bl bf) (nI j) z (nI S) (nI C) (nI L) (nI qF) (nI qN) (nI F) (nI (c + o)) (nI c) (nI n) xO xA xB xT T R op A B tg st tk hs bl bf := by
        intro z z' e
        subst e
        refine And.intro i0 ?_
        by_cases y : hs j = 0
        · refine br_t (by rw [nI_clamp hj]; exact y) (And.intro i0 (br_t ?_ ⟨rfl, I'⟩))
          rw [nI_clamp hj, hU]
          unfold ar_su
          rw [if_pos y]; decide
        · refine br_f (by rw [nI_clamp hj]; exact y) (And.intro i0 (br_f ?_ ⟨rfl, I'⟩))
          rw [nI_clamp hj, hU]
          unfold ar_su
          rw [if_neg y]
          exact fun w => absurd (ar_l0 (a := q j + 1) (by omega)) (Int64.not_le.mpr w)
      refine br_f h0 (br_t (nI_lt h1 (by omega)) ⟨i0, ?_⟩)
      by_cases z : st j = 1
      · refine br_t (by rw [nI_clamp hj]; exact z) ⟨i0, ?_⟩
        have hP' : ¬ lP (nI j).toNatClampNeg = 0 := by
          rw [nI_clamp hj, hP]
          unfold ar_pd
          rw [if_pos z]; exact ar_10
        have k1 := key (tk (nI j).toNatClampNeg) (lk (nI j).toNatClampNeg) (by rw [nI_clamp hj, hT])
        unfold wX_liveState_34 at k1 ⊢
        refine ⟨k1.1, fun y => ?_, fun y => ?_⟩
        · exact br_f h0 (br_f (nI_ge h1 (by omega)) (br_t (nI_lt (b := 32) (by omega) (by decide)) ⟨i0, br_f hP' ⟨i0, k1.2.1 y⟩⟩))
        · exact br_f h0 (br_f (nI_ge h1 (by omega)) (br_t (nI_lt (b := 32) (by omega) (by decide)) ⟨i0, br_f hP' ⟨i0, k1.2.2 y⟩⟩))
      · refine br_f (by rw [nI_clamp hj]; exact z) ?_
        have hP' : lP (nI j).toNatClampNeg = 0 := by
          rw [nI_clamp hj, hP]
          exact if_neg z
        have k1 := key 0 0 rfl
        unfold wX_liveState_34 at k1 ⊢
        refine ⟨k1.1, fun y => ?_, fun y => ?_⟩
        · exact br_f h0 (br_f (nI_ge h1 (by omega)) (br_t (nI_lt (b := 32) (by omega) (by decide)) ⟨i0, br_t hP' (k1.2.1 y)⟩))
        · exact br_f h0 (br_f (nI_ge h1 (by omega)) (br_t (nI_lt (b := 32) (by omega) (by decide)) ⟨i0, br_t hP' (k1.2.2 y)⟩))
    · exact br_f h0 (br_f (nI_nlt (by omega) hj) (br_f h0 (br_t (nI_le (by omega) hj) ⟨rfl, I'⟩)))
theorem i_vc_setBuffer {k : Nat} {u : SX} {v : SY} (I : i_Rel k u v) (hk : k + 5 ≤ 2563) (v1 : Int32) (v2 : Int32) : wpX_setBuffer (fun r u' => wpY_setBuffer (fun r' v' => r' = r ∧ i_Rel (k + 5) u' v') v v1 v2) u v1 v2 := by
  have I' := i_up I
  obtain ⟨S, C, L, F, n, s, qF, qN, K, q, xO, xA, xB, xT, yO, yA, yB, yT, op, A, B, tg, hs, hd, st, tk, mk, wp, hG, hI⟩ := I
  have hI' := ar_I_up hI
  obtain ⟨c, o, T, R, cT, cR, oT, oR, lo, la, lb, lt, lk, ln, lP, lq, ls, bl, bf, po, rfl, rfl, hM, hZ1, hZ2, hc, hmo, hK, hb1, hb2, hb3⟩ := hG
  unfold wpX_setBuffer
  refine ax_buf _ _ (fun h => br_f (by decide) ⟨ar_buf_in h, nm_e ?_⟩) (fun h => br_t rfl ?_)
  · refine br_f h.1 (br_t h.2 ⟨ar_buf_in h, nm_e ⟨rfl, ?_⟩⟩)
    exact ⟨S, C, L, F, n, s, qF, qN, K, q, xO, xA, xB, xT, yO, yA, yB, yT, op, A, B, tg, hs, hd, st, tk, mk, wp, ⟨c, o, T, R, cT, cR, oT, oR, lo, la, lb, lt, lk, ln, lP, lq, ls, bl, _, po, rfl, rfl, hM, hZ1, hZ2, hc, hmo, hK, hb1, hb2, hb3⟩, hI'⟩
  · exact br_c (fun _ => ⟨rfl, I'⟩) (fun g => br_f (fun w => h ⟨g, w⟩) ⟨rfl, I'⟩)
theorem i_vc_getBuffer {k : Nat} {u : SX} {v : SY} (I : i_Rel k u v) (hk : k + 5 ≤ 2563) (v1 : Int32) : wpX_getBuffer (fun r => wpY_getBuffer (fun r' => r' = r ∧ i_Rel (k + 5) u v) v v1) u v1 := by
  have I' := i_up I
  obtain ⟨S, C, L, F, n, s, qF, qN, K, q, xO, xA, xB, xT, yO, yA, yB, yT, op, A, B, tg, hs, hd, st, tk, mk, wp, hG, hI⟩ := I
  obtain ⟨c, o, T, R, cT, cR, oT, oR, lo, la, lb, lt, lk, ln, lP, lq, ls, bl, bf, po, rfl, rfl, hM, hZ1, hZ2, hc, hmo, hK, hb1, hb2, hb3⟩ := hG
  unfold wpX_getBuffer
  refine ax_buf _ _ (fun h => br_f (by decide) ⟨ar_buf_in h, ?_⟩) (fun h => br_t rfl ?_)
  · exact br_f h.1 (br_t h.2 ⟨ar_buf_in h, rfl, I'⟩)
  · exact br_c (fun _ => ⟨rfl, I'⟩) (fun g => br_f (fun w => h ⟨g, w⟩) ⟨rfl, I'⟩)
theorem i_vc_getBlock {k : Nat} {u : SX} {v : SY} (I : i_Rel k u v) (hk : k + 5 ≤ 2563) (v1 : Int32) : wpX_getBlock (fun r => wpY_getBlock (fun r' => r' = r ∧ i_Rel (k + 5) u v) v v1) u v1 := by
  have I' := i_up I
  obtain ⟨S, C, L, F, n, s, qF, qN, K, q, xO, xA, xB, xT, yO, yA, yB, yT, op, A, B, tg, hs, hd, st, tk, mk, wp, hG, hI⟩ := I
  obtain ⟨c, o, T, R, cT, cR, oT, oR, lo, la, lb, lt, lk, ln, lP, lq, ls, bl, bf, po, rfl, rfl, hM, hZ1, hZ2, hc, hmo, hK, hb1, hb2, hb3⟩ := hG
  unfold wpX_getBlock
  refine ax_blk _ _ (fun h => br_f (by decide) ⟨ar_blk_in h, ?_⟩) (fun h => br_t rfl ?_)
  · exact br_f h.1 (br_t h.2 ⟨ar_blk_in h, rfl, I'⟩)
  · exact br_c (fun _ => ⟨rfl, I'⟩) (fun g => br_f (fun w => h ⟨g, w⟩) ⟨rfl, I'⟩)
