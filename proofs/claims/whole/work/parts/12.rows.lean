def lx_tk (post : Int32 → SX → Prop) (a : Int32) (k : Nat) (x : Int32) (u : SX) : Prop := match u with
  | (f_sqCapacity, f_cqCapacity, f_latency, f_sqFirst, f_sqCount, f_doneFirst, f_doneCount, f_cqCount, f_reqCount, a_sqOpFlags, a_sqA, a_sqB, a_sqTag, a_doneTag, a_doneResult, a_reqOpcode, a_reqA, a_reqB, a_reqTag, a_reqState, a_reqTicks, a_reqHasSuccessor, a_blocks, a_buffers) => wX_tick_15 post a k x f_sqCapacity f_cqCapacity f_latency f_sqFirst f_sqCount f_doneFirst f_doneCount f_cqCount f_reqCount a_sqOpFlags a_sqA a_sqB a_sqTag a_doneTag a_doneResult a_reqOpcode a_reqA a_reqB a_reqTag a_reqState a_reqTicks a_reqHasSuccessor a_blocks a_buffers
def lx_te (post : Int32 → SX → Prop) (a : Int32) (u : SX) : Prop := match u with
  | (f_sqCapacity, f_cqCapacity, f_latency, f_sqFirst, f_sqCount, f_doneFirst, f_doneCount, f_cqCount, f_reqCount, a_sqOpFlags, a_sqA, a_sqB, a_sqTag, a_doneTag, a_doneResult, a_reqOpcode, a_reqA, a_reqB, a_reqTag, a_reqState, a_reqTicks, a_reqHasSuccessor, a_blocks, a_buffers) => wpX_dropPosted (fun u => match u with | (f_sqCapacity, f_cqCapacity, f_latency, f_sqFirst, f_sqCount, f_doneFirst, f_doneCount, f_cqCount, f_reqCount, a_sqOpFlags, a_sqA, a_sqB, a_sqTag, a_doneTag, a_doneResult, a_reqOpcode, a_reqA, a_reqB, a_reqTag, a_reqState, a_reqTicks, a_reqHasSuccessor, a_blocks, a_buffers) => post (a - f_reqCount) (f_sqCapacity, f_cqCapacity, f_latency, f_sqFirst, f_sqCount, f_doneFirst, f_doneCount, f_cqCount, f_reqCount, a_sqOpFlags, a_sqA, a_sqB, a_sqTag, a_doneTag, a_doneResult, a_reqOpcode, a_reqA, a_reqB, a_reqTag, a_reqState, a_reqTicks, a_reqHasSuccessor, a_blocks, a_buffers)) (f_sqCapacity, f_cqCapacity, f_latency, f_sqFirst, f_sqCount, f_doneFirst, f_doneCount, f_cqCount, f_reqCount, a_sqOpFlags, a_sqA, a_sqB, a_sqTag, a_doneTag, a_doneResult, a_reqOpcode, a_reqA, a_reqB, a_reqTag, a_reqState, a_reqTicks, a_reqHasSuccessor, a_blocks, a_buffers)
def ly_tk (post : Int32 → SY → Prop) (a : Int32) (k : Nat) (x : Int32) (v : SY) : Prop := match v with
  | (f_S, f_C, f_L, f_sqN, f_cqN, f_ovN, f_liveN, f_nextSeq, f_posts, f_wentPending, a_sqOp, a_sqA, a_sqB, a_sqTg, a_cqT, a_cqR, a_ovT, a_ovR, a_lOp, a_lA, a_lB, a_lTag, a_lTicks, a_lLink, a_lPend, a_lMark, a_lSeq, a_lSucc, a_head, a_block, a_buffer) => wY_tick_52 post a k x f_S f_C f_L f_sqN f_cqN f_ovN f_liveN f_nextSeq f_posts f_wentPending a_sqOp a_sqA a_sqB a_sqTg a_cqT a_cqR a_ovT a_ovR a_lOp a_lA a_lB a_lTag a_lTicks a_lLink a_lPend a_lMark a_lSeq a_lSucc a_head a_block a_buffer
def ly_te (post : Int32 → SY → Prop) (a : Int32) (v : SY) : Prop := match v with
  | (f_S, f_C, f_L, f_sqN, f_cqN, f_ovN, f_liveN, f_nextSeq, f_posts, f_wentPending, a_sqOp, a_sqA, a_sqB, a_sqTg, a_cqT, a_cqR, a_ovT, a_ovR, a_lOp, a_lA, a_lB, a_lTag, a_lTicks, a_lLink, a_lPend, a_lMark, a_lSeq, a_lSucc, a_head, a_block, a_buffer) => post (f_posts - a) (f_S, f_C, f_L, f_sqN, f_cqN, f_ovN, f_liveN, f_nextSeq, f_posts, f_wentPending, a_sqOp, a_sqA, a_sqB, a_sqTg, a_cqT, a_cqR, a_ovT, a_ovR, a_lOp, a_lA, a_lB, a_lTag, a_lTicks, a_lLink, a_lPend, a_lMark, a_lSeq, a_lSucc, a_head, a_block, a_buffer)
section
variable {S C L F n s qF qN c o m : Nat} {K po wp : Int32} {xO xA xB xT yO yA yB yT op A B tg hs hd T R st tk bl bf cT cR oT oR lo la lb lt lk ln lP mk : Nat → Int32} {lq ls : Nat → Int64}
theorem ay_tf (post : Int32 → SY → Prop) {J} {X1 X2 : Int32} {i : Nat} (hm : m ≤ 32) (hi : i < 32) (hp : wY_tick_112 post J X1 X2 (nI i) (nI S) (nI C) (nI L) (nI qN) (nI c) (nI o) (nI m) (lN s) po wp yO yA yB yT cT cR oT oR lo la lb lt lk ln lP mk lq ls hd bl bf) : ∀ d j, j + d = m → ∀ k, d < k → wY_tick_63 post J X1 X2 (nI S) (nI C) (nI L) (nI qN) (nI c) (nI o) (nI m) (lN s) po wp yO yA yB yT cT cR oT oR lo la lb lt lk ln lP mk lq ls hd bl bf k (nI i) (nI j) := by
  intro d
  induction d with
  | zero =>
    intro j hj k hk
    obtain ⟨k', rfl⟩ : ∃ k', k = k' + 1 := ⟨k - 1, by omega⟩
    exact br_t (nI_le (by omega) (by omega)) hp
  | succ d ih =>
    intro j hj k hk
    obtain ⟨k', rfl⟩ : ∃ k', k = k' + 1 := ⟨k - 1, by omega⟩
    exact br_f (nI_ge (by omega) (by omega)) (br_f (nI_ge (b := 32) (by omega) (by decide)) (br_t (nI_pos' (by omega)) (nm_r (nI_1 j) (ih (j + 1) (by omega) k' (by omega)))))
theorem ay_tn (post : Int32 → SY → Prop) {J} {X1 X2 : Int32} (hm : m ≤ 32) (h0 : ∀ j, j < m → lP j = 0 ∨ ¬ lk j = 0) (hp : wY_tick_112 post J X1 X2 (-1) (nI S) (nI C) (nI L) (nI qN) (nI c) (nI o) (nI m) (lN s) po wp yO yA yB yT cT cR oT oR lo la lb lt lk ln lP mk lq ls hd bl bf) : ∀ d j, j + d = m → wY_tick_63 post J X1 X2 (nI S) (nI C) (nI L) (nI qN) (nI c) (nI o) (nI m) (lN s) po wp yO yA yB yT cT cR oT oR lo la lb lt lk ln lP mk lq ls hd bl bf (d + 1) (-1) (nI j) := by
  intro d
  induction d with
  | zero =>
    intro j hj
    exact br_t (nI_le (by omega) (by omega)) hp
  | succ d ih =>
    intro j hj
    have i0 : vp_in (nI j) 32 := vp_in_nI (by omega) (by omega)
    refine br_f (nI_ge (by omega) (by omega)) (br_f (nI_ge (b := 32) (by omega) (by decide)) (br_f (by decide) ⟨i0, ?_⟩))
    by_cases z : lP j = 0
    · exact br_t (by rw [nI_clamp (by omega)]; exact z) (nm_r (nI_1 j) (ih (j + 1) (by omega)))
    · rcases h0 j (by omega) with y | y
      · exact absurd y z
      · exact br_f (by rw [nI_clamp (by omega)]; exact z) ⟨i0, br_f (by rw [nI_clamp (by omega)]; exact y) (nm_r (nI_1 j) (ih (j + 1) (by omega)))⟩
theorem ay_ts (post : Int32 → SY → Prop) {J} {X1 X2 : Int32} {i : Nat} (hm : m ≤ 32) (hi : i < m) (h1 : ¬ lP i = 0) (h2 : lk i = 0) (h0 : ∀ j, j < i → lP j = 0 ∨ ¬ lk j = 0) (hp : wY_tick_112 post J X1 X2 (nI i) (nI S) (nI C) (nI L) (nI qN) (nI c) (nI o) (nI m) (lN s) po wp yO yA yB yT cT cR oT oR lo la lb lt lk ln lP mk lq ls hd bl bf) : ∀ d j, j + d = i → ∀ k, m - j < k → wY_tick_63 post J X1 X2 (nI S) (nI C) (nI L) (nI qN) (nI c) (nI o) (nI m) (lN s) po wp yO yA yB yT cT cR oT oR lo la lb lt lk ln lP mk lq ls hd bl bf k (-1) (nI j) := by
  intro d
  induction d with
  | zero =>
    intro j hj k hk
    obtain ⟨k', rfl⟩ : ∃ k', k = k' + 1 := ⟨k - 1, by omega⟩
    have e : j = i := by omega
    subst e
    have i0 : vp_in (nI j) 32 := vp_in_nI (by omega) (by omega)
    exact br_f (nI_ge (by omega) (by omega)) (br_f (nI_ge (b := 32) (by omega) (by decide)) (br_f (by decide) ⟨i0, br_f (by rw [nI_clamp (by omega)]; exact h1) ⟨i0, br_t (by rw [nI_clamp (by omega)]; exact h2) (nm_r (nI_1 j) (ay_tf post hm (by omega) hp (m - (j + 1)) (j + 1) (by omega) k' (by omega)))⟩⟩))
  | succ d ih =>
    intro j hj k hk
    obtain ⟨k', rfl⟩ : ∃ k', k = k' + 1 := ⟨k - 1, by omega⟩
    have i0 : vp_in (nI j) 32 := vp_in_nI (by omega) (by omega)
    have hx := ih (j + 1) (by omega) k' (by omega)
    refine br_f (nI_ge (by omega) (by omega)) (br_f (nI_ge (b := 32) (by omega) (by decide)) (br_f (by decide) ⟨i0, ?_⟩))
    by_cases z : lP j = 0
    · exact br_t (by rw [nI_clamp (by omega)]; exact z) (nm_r (nI_1 j) hx)
    · rcases h0 j (by omega) with y | y
      · exact absurd y z
      · exact br_f (by rw [nI_clamp (by omega)]; exact z) ⟨i0, br_f (by rw [nI_clamp (by omega)]; exact y) (nm_r (nI_1 j) hx)⟩
end
section
variable {S C L F n s qF qN m : Nat} {K wp : Int32} {q e : Nat → Nat} {xO xA xB xT yO yA yB yT op A B tg hs hd st tk mk : Nat → Int32} {u : SX} {v : SY}
theorem ar_flush (hN : ar_N C L F n s) (hG : ar_G S C L F n s qF qN K q xO xA xB xT yO yA yB yT op A B tg hs hd st tk m e mk wp u v) :
    ∃ u' v', ar_G S C L F n s qF qN K q xO xA xB xT yO yA yB yT op A B tg hs hd st tk m e mk wp u' v' ∧ (∀ post : SX → Prop, post u' → wpX_flush post u) ∧ (∀ post : SY → Prop, post v' → wpY_flush post v) := by
  obtain ⟨hC, hn, hs', hF, hL⟩ := hN
  obtain ⟨c, o, T, R, cT, cR, oT, oR, lo, la, lb, lt, lk, ln, lP, lq, ls, bl, bf, po, rfl, rfl, hM, hZ1, hZ2, hc, hmo, hK, hb1, hb2, hb3⟩ := hG
  obtain ⟨c', o', cT', cR', oT', oR', a1, a2, a3, a4, a5, a6⟩ := ay_flush (S := S) (C := C) (L := L) (s := s) (qN := qN) (m := m) (po := po) (wp := wp) (F := F) (T := T) (R := R) (yO := yO) (yA := yA) (yB := yB) (yT := yT) (hd := hd) (bl := bl) (bf := bf) (lo := lo) (la := la) (lb := lb) (lt := lt) (lk := lk) (ln := ln) (lP := lP) (mk := mk) (lq := lq) (ls := ls) hC o c 0 cT cR oT oR (by omega) hc (by omega) hZ1 hZ2
  refine ⟨_, _, ⟨c', o', T, R, cT', cR', oT', oR', lo, la, lb, lt, lk, ln, lP, lq, ls, bl, bf, po, rfl, rfl, hM, a4, a5, a2, by omega, hK, hb1, hb2, hb3⟩, ?_, ?_⟩
  · intro post hp
    rw [a1] at hp
    by_cases z : C ≤ c + o
    · have e1 : c' = C := by omega
      rw [e1] at hp
      exact br_t (nI_le z (by omega)) hp
    · have e1 : c' = c + o := by omega
      rw [e1] at hp
      exact br_f (nI_ge (by omega) (by omega)) hp
  · exact fun post hp => ⟨_, a6 post hp (o + 1) (by omega)⟩
theorem ar_tloop (hN : ar_N C L F n s) (b0 : Int32) : ∀ d f (st tk : Nat → Int32) (m : Nat) (e : Nat → Nat) (mk : Nat → Int32) (wp : Int32) (u : SX) (v : SY), f + d = n → ar_G S C L F n s qF qN K q xO xA xB xT yO yA yB yT op A B tg hs hd st tk m e mk wp u v → (∀ p, p < f → ¬ (st p = 1 ∧ tk p = 0)) →
    ∃ u' v' st' tk' m' e' mk' wp', ar_G S C L F n s qF qN K q xO xA xB xT yO yA yB yT op A B tg hs hd st' tk' m' e' mk' wp' u' v' ∧
      (∀ post : Int32 → SX → Prop, lx_te post (nI n) u' → ∀ k, d < k → lx_tk post (nI n) k (nI f) u) ∧ (∀ post : Int32 → SY → Prop, ly_te post b0 v' → ∀ k it, d < k → it + d < 64 → ly_tk post b0 k (nI it) v) := by
  have hN' := hN
  obtain ⟨hC, hn, hs', hF, hL⟩ := hN'
  intro d
  induction d with
  | zero =>
    intro f st tk m e mk wp u v hf hG hd
    have hE := ar_G_E hG
    have hmn := ar_E_le hE
    refine ⟨u, v, st, tk, m, e, mk, wp, hG, ?_, ?_⟩
    · intro post hp k hk
      obtain ⟨k', rfl⟩ : ∃ k', k = k' + 1 := ⟨k - 1, by omega⟩
      obtain ⟨c, o, T, R, cT, cR, oT, oR, lo, la, lb, lt, lk, ln, lP, lq, ls, bl, bf, po, rfl, rfl, hM, hZ1, hZ2, hc, hmo, hK, hb1, hb2, hb3⟩ := hG
      exact br_t (nI_le (by omega) (by omega)) hp
    · intro post hp k it hk hit
      obtain ⟨k', rfl⟩ : ∃ k', k = k' + 1 := ⟨k - 1, by omega⟩
      obtain ⟨c, o, T, R, cT, cR, oT, oR, lo, la, lb, lt, lk, ln, lP, lq, ls, bl, bf, po, rfl, rfl, hM, hZ1, hZ2, hc, hmo, hK, hb1, hb2, hb3⟩ := hG
      have h0 : ∀ j, j < m → lP j = 0 ∨ ¬ lk j = 0 := by
        intro j hj
        have hb := hE.2.1 j hj
        rw [hM.2.2.2.2.2.2.1 j hj, hM.2.2.2.2.2.1 j hj]
        unfold ar_pd
        by_cases z : st (e j) = 1
        · exact Or.inr (fun w => hd (e j) (by omega) ⟨z, w⟩)
        · exact Or.inl (if_neg z)
      exact br_f (nI_ge (b := 64) (by omega) (by decide)) ⟨_, ay_tn post (by omega) h0 (br_f (by decide) hp) m 0 (by omega)⟩
  | succ d ih =>
    intro f st tk m e mk wp u v hf hG hd
    have hE := ar_G_E hG
    have hmn := ar_E_le hE
    by_cases hz : st f = 1 ∧ tk f = 0
    · obtain ⟨i, hi, rfl⟩ := hE.2.2 f (by omega) (by rw [hz.1]; exact ar_12)
      have hH := ar_H_pend (ar_G_C hG) (by omega) hz.1
      have hok := ar_G_P hG (e i) (by omega) hz.1
      obtain ⟨r, u1, v1, hG1, hX1, hY1⟩ := ar_dev hN hG hi hok
      have hfd1 := fun post => ar_G_find hN hG1 hi post
      obtain ⟨u2, v2, st2, tk2, m2, e2, mk2, wp2, hG2, hF2, hX2, hY2⟩ := ar_fin hN r (ar_run hN d) hG1 hi (by omega) hH
      obtain ⟨u3, v3, st3, tk3, m3, e3, mk3, wp3, hG3, hX3, hY3⟩ := ih (e i + 1) st2 tk2 m2 e2 mk2 wp2 u2 v2 (by omega) hG2 (fun p hp w => by
        obtain ⟨a1, a2, a3⟩ := hF2.1 p w.1 w.2
        exact hd p (by omega) ⟨a1, a2⟩)
      refine ⟨u3, v3, st3, tk3, m3, e3, mk3, wp3, hG3, ?_, ?_⟩
      · intro post hp k hk
        obtain ⟨k', rfl⟩ : ∃ k', k = k' + 1 := ⟨k - 1, by omega⟩
        have hX3' := hX3 post hp k' (by omega)
        have hrun : ∀ P : SX → Prop, P u2 → wpX_runChain P u (nI (e i)) := by
          intro P hP
          have h28 := hX2 P hP (d + 1) (by omega) u hX1
          obtain ⟨c, o, T, R, cT, cR, oT, oR, lo, la, lb, lt, lk, ln, lP, lq, ls, bl, bf, po, rfl, rfl, hM, hZ1, hZ2, hc, hmo, hK, hb1, hb2, hb3⟩ := hG
          exact ⟨d + 1 + 1, br_f (nI_ge (by omega) (by omega)) ⟨vp_in_nI (by omega) (by omega), br_f (by rw [nI_clamp (by omega), hz.1]; exact ar_10) h28⟩⟩
        obtain ⟨c, o, T, R, cT, cR, oT, oR, lo, la, lb, lt, lk, ln, lP, lq, ls, bl, bf, po, rfl, rfl, hM, hZ1, hZ2, hc, hmo, hK, hb1, hb2, hb3⟩ := hG
        obtain ⟨c2, o2, T2, R2, cT2, cR2, oT2, oR2, lo2, la2, lb2, lt2, lk2, ln2, lP2, lq2, ls2, bl2, bf2, po2, rfl, rfl, hM2, hZ12, hZ22, hc2, hmo2, hK2, hb12, hb22, hb32⟩ := hG2
        exact br_f (nI_ge (by omega) (by omega)) ⟨vp_in_nI (by omega) (by omega), br_t (by rw [nI_clamp (by omega)]; exact hz.1) ⟨vp_in_nI (by omega) (by omega), br_t (by rw [nI_clamp (by omega)]; exact hz.2) (hrun _ (nm_r (nI_1 (e i)) hX3'))⟩⟩
      · intro post hp k it hk hit
        obtain ⟨k', rfl⟩ : ∃ k', k = k' + 1 := ⟨k - 1, by omega⟩
        have hY3' := hY3 post hp k' (it + 1) (by omega) (by omega)
        have hrun : ∀ P : SY → Prop, P v2 → wpY_runChain P v1 (lN (q (e i))) 0 r := by
          intro P hP
          have h65 := hY2 P hP (d + 1) 0 (by omega) (by omega)
          obtain ⟨c1, o1, T1, R1, cT1, cR1, oT1, oR1, lo1, la1, lb1, lt1, lk1, ln1, lP1, lq1, ls1, bl1, bf1, po1, rfl, rfl, hM1, hZ11, hZ21, hc1, hmo1, hK1, hb11, hb21, hb31⟩ := hG1
          exact ⟨d + 1 + 1, br_f (by decide) (hfd1 _ (br_t (nI_pos' (by omega)) (br_t rfl h65)))⟩
        obtain ⟨c, o, T, R, cT, cR, oT, oR, lo, la, lb, lt, lk, ln, lP, lq, ls, bl, bf, po, rfl, rfl, hM, hZ1, hZ2, hc, hmo, hK, hb1, hb2, hb3⟩ := hG
        obtain ⟨c1, o1, T1, R1, cT1, cR1, oT1, oR1, lo1, la1, lb1, lt1, lk1, ln1, lP1, lq1, ls1, bl1, bf1, po1, rfl, rfl, hM1, hZ11, hZ21, hc1, hmo1, hK1, hb11, hb21, hb31⟩ := hG1
        obtain ⟨c2, o2, T2, R2, cT2, cR2, oT2, oR2, lo2, la2, lb2, lt2, lk2, ln2, lP2, lq2, ls2, bl2, bf2, po2, rfl, rfl, hM2, hZ12, hZ22, hc2, hmo2, hK2, hb12, hb22, hb32⟩ := hG2
        have hlq : lq1 (nI i).toNatClampNeg = lN (q (e i)) := by
          rw [nI_clamp (by omega)]; exact hM1.2.2.2.2.2.2.2.1 i hi
        have h1 : ¬ lP i = 0 := by
          rw [hM.2.2.2.2.2.2.1 i hi]
          unfold ar_pd
          rw [if_pos hz.1]; exact ar_10
        have h2 : lk i = 0 := by rw [hM.2.2.2.2.2.1 i hi]; exact hz.2
        have h0 : ∀ j, j < i → lP j = 0 ∨ ¬ lk j = 0 := by
          intro j hj
          have hlt := hE.1 j i hj hi
          rw [hM.2.2.2.2.2.2.1 j (by omega), hM.2.2.2.2.2.1 j (by omega)]
          unfold ar_pd
          by_cases z : st (e j) = 1
          · exact Or.inr (fun w => hd (e j) hlt ⟨z, w⟩)
          · exact Or.inl (if_neg z)
        refine br_f (nI_ge (b := 64) (by omega) (by decide)) ⟨_, ay_ts post (by omega) hi h1 h2 h0 (br_t (nI_pos' (by omega)) (hY1 _ ⟨vp_in_nI (by omega) (by omega), ?_⟩)) i 0 (by omega) (m + 1) (by omega)⟩
        rw [hlq]
        exact hrun _ (nm_r (nI_1 it) hY3')
    · obtain ⟨u3, v3, st3, tk3, m3, e3, mk3, wp3, hG3, hX3, hY3⟩ := ih (f + 1) st tk m e mk wp u v (by omega) hG (fun p hp w => by
        by_cases ep : p = f
        · rw [ep] at w; exact hz w
        · exact hd p (by omega) w)
      refine ⟨u3, v3, st3, tk3, m3, e3, mk3, wp3, hG3, ?_, fun post hp k it hk hit => hY3 post hp k it (by omega) (by omega)⟩
      intro post hp k hk
      obtain ⟨k', rfl⟩ : ∃ k', k = k' + 1 := ⟨k - 1, by omega⟩
      have hX3' := hX3 post hp k' (by omega)
      obtain ⟨c, o, T, R, cT, cR, oT, oR, lo, la, lb, lt, lk, ln, lP, lq, ls, bl, bf, po, rfl, rfl, hM, hZ1, hZ2, hc, hmo, hK, hb1, hb2, hb3⟩ := hG
      refine br_f (nI_ge (by omega) (by omega)) ⟨vp_in_nI (by omega) (by omega), ?_⟩
      by_cases y : st f = 1
      · exact br_t (by rw [nI_clamp (by omega)]; exact y) ⟨vp_in_nI (by omega) (by omega), br_f (by rw [nI_clamp (by omega)]; exact fun w => hz ⟨y, w⟩) (nm_r (nI_1 f) hX3')⟩
      · exact br_f (by rw [nI_clamp (by omega)]; exact y) (nm_r (nI_1 f) hX3')
end
