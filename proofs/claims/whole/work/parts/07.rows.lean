/-- what is a target of a cancel -/
def ar_tp (st tg : Nat → Int32) (a : Int32) : Nat → Bool := fun p => decide (st p = 1 ∧ tg p = a)
def ar_mg (st tg : Nat → Int32) (a : Int32) (f : Nat) : Nat → Int32 := fun p => if f ≤ p ∧ st p = 1 ∧ tg p = a then 1 else 0
theorem ar_mg_S {st tg : Nat → Int32} {a : Int32} {f p : Nat} (h : p ≠ f ∨ ¬ (st p = 1 ∧ tg p = a)) : ar_mg st tg a (f + 1) p = ar_mg st tg a f p := by
  unfold ar_mg
  by_cases z : f + 1 ≤ p ∧ st p = 1 ∧ tg p = a
  · rw [if_pos z, if_pos ⟨by omega, z.2⟩]
  · rw [if_neg z, if_neg (fun w => ?_)]
    rcases h with h | h
    · exact z ⟨by omega, w.2⟩
    · exact h w.2
section
variable {S C L F n s qF qN m : Nat} {K wp : Int32} {q e : Nat → Nat} {xO xA xB xT yO yA yB yT op A B tg hs hd st tk mk : Nat → Int32} {u : SX} {v : SY}
theorem ar_chain1 (hN : ar_N C L F n s) (hG : ar_G S C L F n s qF qN K q xO xA xB xT yO yA yB yT op A B tg hs hd st tk m e mk wp u v) {i : Nat} (hi : i < m) (hH : ar_H st hs (e i)) :
    ∃ u1 v1 u' v' st' m' e' mk', ar_G S C L F n s qF qN K q xO xA xB xT yO yA yB yT op A B tg hs hd (upd st (e i) 2) tk (m - 1) (ar_sh e i m) (ar_sh mk i m) wp u1 v1 ∧ ar_G S C L F n s qF qN K q xO xA xB xT yO yA yB yT op A B tg hs hd st' tk m' e' mk' wp u' v' ∧ ar_FC hs st st' (e i) ∧ (∀ g : Nat → Int32, ar_V e m mk g → ar_V e' m' mk' g) ∧
      (∀ post : SX → Prop, post u' → wpX_postCanceledChain post u (nI (e i))) ∧ (∀ post : SY → Prop, post v1 → wpY_post post v (nI i) (-125)) ∧ (∀ post : SY → Prop, post v' → wpY_cancelChainFrom post v1 (ar_su hs q (e i))) := by
  obtain ⟨u1, v1, hG1, hX1, hY1⟩ := ar_post hN hG hi hH (-125)
  have hE := ar_G_E hG
  have hal := hE.2.1 i hi
  have hCh := ar_G_C hG
  have hmn := ar_E_le hE
  have hN' := hN
  obtain ⟨hC, hn, hs', hF, hL⟩ := hN'
  by_cases hh : hs (e i) = 0
  · refine ⟨u1, v1, u1, v1, _, _, _, _, hG1, hG1, ar_FC_1, fun g hg => ar_V_rm hg i, ?_, hY1, ?_⟩
    · intro post hp
      obtain ⟨c, o, T, R, cT, cR, oT, oR, lo, la, lb, lt, lk, ln, lP, lq, ls, bl, bf, po, rfl, rfl, hM, hZ1, hZ2, hc, hmo, hK, hb1, hb2, hb3⟩ := hG
      obtain ⟨c1, o1, T1, R1, cT1, cR1, oT1, oR1, lo1, la1, lb1, lt1, lk1, ln1, lP1, lq1, ls1, bl1, bf1, po1, rfl, rfl, hM1, hZ11, hZ21, hc1, hmo1, hK1, hb11, hb21, hb31⟩ := hG1
      exact ⟨1, br_f (nI_ge (by omega) (by omega)) (hX1 _ ⟨vp_in_nI (by omega) (by omega), br_t (by rw [nI_clamp (by omega)]; exact hh) hp⟩)⟩
    · intro post hp
      have e1 : ar_su hs q (e i) = -1 := if_pos hh
      rw [e1]
      obtain ⟨c1, o1, T1, R1, cT1, cR1, oT1, oR1, lo1, la1, lb1, lt1, lk1, ln1, lP1, lq1, ls1, bl1, bf1, po1, rfl, rfl, hM1, hZ11, hZ21, hc1, hmo1, hK1, hb11, hb21, hb31⟩ := hG1
      exact ⟨1, br_f (by decide) (br_f (by decide) hp)⟩
  · obtain ⟨c1, c2⟩ := hCh (e i) (by omega) hal.2 hh
    obtain ⟨u2, v2, st2, m2, e2, mk2, hG2, hF2, hV2, hX2, hY2⟩ := ar_chain hN (n - (e i + 1)) (e i + 1) _ _ _ _ u1 v1 (by omega) (by omega) hG1 (by rw [pk_un (by omega), c2]; exact ar_02) (fun r hr => Or.inl (by rw [show r = e i by omega]; exact pk_us))
    refine ⟨u1, v1, u2, v2, st2, m2, e2, mk2, hG1, hG2, ar_FC_S hh c2 hF2, fun g hg => hV2 g (ar_V_rm hg i), ?_, hY1, ?_⟩
    · intro post hp
      have hX2' := hX2 post hp (n - (e i + 1) + 1) (by omega)
      obtain ⟨c, o, T, R, cT, cR, oT, oR, lo, la, lb, lt, lk, ln, lP, lq, ls, bl, bf, po, rfl, rfl, hM, hZ1, hZ2, hc, hmo, hK, hb1, hb2, hb3⟩ := hG
      obtain ⟨c1, o1, T1, R1, cT1, cR1, oT1, oR1, lo1, la1, lb1, lt1, lk1, ln1, lP1, lq1, ls1, bl1, bf1, po1, rfl, rfl, hM1, hZ11, hZ21, hc1, hmo1, hK1, hb11, hb21, hb31⟩ := hG1
      exact ⟨n - (e i + 1) + 1 + 1, br_f (nI_ge (by omega) (by omega)) (hX1 _ ⟨vp_in_nI (by omega) (by omega), br_f (by rw [nI_clamp (by omega)]; exact hh) (nm_r (nI_1 (e i)) hX2')⟩)⟩
    · intro post hp
      have e1 : ar_su hs q (e i) = lN (q (e i + 1)) := by
        rw [(ar_G_Q hG).2.1 (e i) (by omega) hal.2 hh]; exact if_neg hh
      rw [e1]
      exact ly_ccf_w post (n - (e i + 1) + 2) _ v1 (hY2 post hp _ 0 (by omega) (by omega))
theorem ar_cloop (hN : ar_N C L F n s) (a : Int32) (tot : Nat) (htot : tot < 2 ^ 31) : ∀ d f (st : Nat → Int32) (m : Nat) (e : Nat → Nat) (mk : Nat → Int32) (u : SX) (v : SY) (cnt : Nat), f + d = n → ar_G S C L F n s qF qN K q xO xA xB xT yO yA yB yT op A B tg hs hd st tk m e mk wp u v → ar_V e m mk (ar_mg st tg a f) → cnt ≤ f →
    ∃ u' v' st' m' e' mk', ar_G S C L F n s qF qN K q xO xA xB xT yO yA yB yT op A B tg hs hd st' tk m' e' mk' wp u' v' ∧ ar_FK n hs st st' ∧
      (∀ post : Int32 → SX → Prop, post (ar_rs (cnt + ar_cn (ar_tp st tg a) f d)) u' → ∀ k, d < k → lx_cp post a k (nI cnt) (nI f) u) ∧ (∀ post : Int32 → SY → Prop, post (ar_rs tot) v' → ∀ k it, d < k → it + d < 40 → ly_dc post (nI tot) k (nI it) v) := by
  have hN' := hN
  obtain ⟨hC, hn, hs', hF, hL⟩ := hN'
  intro d
  induction d with
  | zero =>
    intro f st m e mk u v cnt hf hG hmk hcf
    have hE := ar_G_E hG
    have hmn := ar_E_le hE
    have h0 : ∀ j, j < m → mk j = 0 := by
      intro j hj
      rw [hmk j hj]
      have := (hE.2.1 j hj).1
      exact if_neg (by omega)
    obtain ⟨c, o, T, R, cT, cR, oT, oR, lo, la, lb, lt, lk, ln, lP, lq, ls, bl, bf, po, rfl, rfl, hM, hZ1, hZ2, hc, hmo, hK, hb1, hb2, hb3⟩ := hG
    refine ⟨_, _, st, m, e, ar_cl mk 32, ⟨c, o, T, R, cT, cR, oT, oR, lo, la, lb, lt, lk, ln, lP, lq, ls, bl, bf, po, rfl, rfl, hM, hZ1, hZ2, hc, hmo, hK, hb1, hb2, ar_cl_B hb3⟩, ar_FK_0, ?_, ?_⟩
    · intro post hp k hk
      obtain ⟨k', rfl⟩ : ∃ k', k = k' + 1 := ⟨k - 1, by omega⟩
      refine br_t (nI_le (by omega) (by omega)) ?_
      change post (ar_rs cnt) _ at hp
      unfold ar_rs at hp
      by_cases z : cnt = 0
      · rw [if_pos z] at hp
        exact br_t (by rw [z]; decide) hp
      · rw [if_neg z] at hp
        exact br_f (nI_nle (by omega) (by omega)) hp
    · intro post hp k it hk hit
      obtain ⟨k', rfl⟩ : ∃ k', k = k' + 1 := ⟨k - 1, by omega⟩
      have hcl := ay_clear (mk := mk) post tot htot hp 32 0 (by omega)
      rw [ar_cl_0] at hcl
      exact br_f (nI_ge (b := 40) (by omega) (by decide)) ⟨_, ay_sc_n post (by omega) h0 (br_f (by decide) ⟨_, hcl⟩) m 0 (by omega)⟩
  | succ d ih =>
    intro f st m e mk u v cnt hf hG hmk hcf
    have hE := ar_G_E hG
    have hmn := ar_E_le hE
    by_cases hz : st f = 1 ∧ tg f = a
    · have hP : ar_tp st tg a f = true := decide_eq_true hz
      obtain ⟨i, hi, rfl⟩ := hE.2.2 f (by omega) (by rw [hz.1]; exact ar_12)
      have hmi : ¬ mk i = 0 := by
        rw [hmk i hi]
        unfold ar_mg
        rw [if_pos ⟨Nat.le_refl _, hz⟩]; exact ar_10
      have hm0 : ∀ j, j < i → mk j = 0 := by
        intro j hj
        rw [hmk j (by omega)]
        have := hE.1 j i hj hi
        exact if_neg (by omega)
      have hH := ar_H_pend (ar_G_C hG) (by omega) hz.1
      have hsu : ∀ (ls : Nat → Int64), ar_V e m ls (ar_su hs q) → ls (nI i).toNatClampNeg = ar_su hs q (e i) := fun ls h => by rw [nI_clamp (by omega)]; exact h i hi
      obtain ⟨c, o, T, R, cT, cR, oT, oR, lo, la, lb, lt, lk, ln, lP, lq, ls, bl, bf, po, rfl, rfl, hM, hZ1, hZ2, hc, hmo, hK, hb1, hb2, hb3⟩ := hG
      have hGm : ar_G S C L F n s qF qN K q xO xA xB xT yO yA yB yT op A B tg hs hd st tk m e (upd mk i 0) wp (nI S, nI C, nI L, nI qF, nI qN, nI F, nI (c + o), nI c, nI n, xO, xA, xB, xT, T, R, op, A, B, tg, st, tk, hs, bl, bf) (nI S, nI C, nI L, nI qN, nI c, nI o, nI m, lN s, po, wp, yO, yA, yB, yT, cT, cR, oT, oR, lo, la, lb, lt, lk, ln, lP, upd mk i 0, lq, ls, hd, bl, bf) := ⟨c, o, T, R, cT, cR, oT, oR, lo, la, lb, lt, lk, ln, lP, lq, ls, bl, bf, po, rfl, rfl, hM, hZ1, hZ2, hc, hmo, hK, hb1, hb2, ar_Bu hb3 (Or.inl rfl)⟩
      have hVm : ar_V e m (upd mk i 0) (ar_mg st tg a (e i + 1)) := by
        intro j hj
        by_cases ej : j = i
        · rw [ej, pk_us]; exact (if_neg (by omega)).symm
        · rw [pk_un ej, hmk j hj, ar_mg_S (Or.inl (ar_E_ne hE hj hi ej))]
      obtain ⟨u1, v1, u2, v2, st2, m2, e2, mk2, hG1, hG2, hF2, hV2, hX2, hY1, hY2⟩ := ar_chain1 hN hGm hi hH
      have hE2 := ar_G_E hG2
      have hV3 : ar_V e2 m2 mk2 (ar_mg st2 tg a (e i + 1)) := by
        refine ar_V_g (hV2 _ hVm) (fun j hj => ?_)
        rcases hF2 (e2 j) with z | ⟨z, _⟩
        · unfold ar_mg; rw [z]
        · exact absurd z (hE2.2.1 j hj).2
      have hcn : ar_cn (ar_tp st2 tg a) (e i + 1) d = ar_cn (ar_tp st tg a) (e i + 1) d := by
        refine ar_cn_c d (e i + 1) (fun p h1 h2 => ?_)
        unfold ar_tp
        rcases hF2 p with z | ⟨z, _, y⟩
        · rw [z]
        · rcases y with y | y
          · omega
          · rw [z, y, decide_eq_false (fun w => ar_21 w.1), decide_eq_false (fun w => ar_01 w.1)]
      obtain ⟨u3, v3, st3, m3, e3, mk3, hG3, hF3, hX3, hY3⟩ := ih (e i + 1) st2 m2 e2 mk2 u2 v2 (cnt + 1) (by omega) hG2 hV3 (by omega)
      refine ⟨u3, v3, st3, m3, e3, mk3, hG3, ar_FK_S (by omega) hz.1 hF2 hF3, ?_, ?_⟩
      · intro post hp k hk
        obtain ⟨k', rfl⟩ : ∃ k', k = k' + 1 := ⟨k - 1, by omega⟩
        rw [ar_cn_1 hP, ← hcn, show cnt + (ar_cn (ar_tp st2 tg a) (e i + 1) d + 1) = cnt + 1 + ar_cn (ar_tp st2 tg a) (e i + 1) d by omega] at hp
        have hX3' := hX3 post hp k' (by omega)
        obtain ⟨c2, o2, T2, R2, cT2, cR2, oT2, oR2, lo2, la2, lb2, lt2, lk2, ln2, lP2, lq2, ls2, bl2, bf2, po2, rfl, rfl, hM2, hZ12, hZ22, hc2, hmo2, hK2, hb12, hb22, hb32⟩ := hG2
        exact br_f (nI_ge (by omega) (by omega)) ⟨vp_in_nI (by omega) (by omega), br_t (by rw [nI_clamp (by omega)]; exact hz.1) ⟨vp_in_nI (by omega) (by omega), br_t (by rw [nI_clamp (by omega)]; exact hz.2) (hX2 _ (nm_r (nI_1 cnt) (nm_r (nI_1 (e i)) hX3')))⟩⟩
      · intro post hp k it hk hit
        obtain ⟨k', rfl⟩ : ∃ k', k = k' + 1 := ⟨k - 1, by omega⟩
        have hY3' := hY3 post hp k' (it + 1) (by omega) (by omega)
        obtain ⟨c1, o1, T1, R1, cT1, cR1, oT1, oR1, lo1, la1, lb1, lt1, lk1, ln1, lP1, lq1, ls1, bl1, bf1, po1, rfl, rfl, hM1, hZ11, hZ21, hc1, hmo1, hK1, hb11, hb21, hb31⟩ := hG1
        obtain ⟨c2, o2, T2, R2, cT2, cR2, oT2, oR2, lo2, la2, lb2, lt2, lk2, ln2, lP2, lq2, ls2, bl2, bf2, po2, rfl, rfl, hM2, hZ12, hZ22, hc2, hmo2, hK2, hb12, hb22, hb32⟩ := hG2
        exact br_f (nI_ge (b := 40) (by omega) (by decide)) ⟨_, ay_sc_s post (by omega) hi hmi hm0 (br_t (nI_pos' (by omega)) ⟨vp_in_nI (by omega) (by omega), nm_r (ar_ub mk 0 (by omega) (Or.inl rfl)) ⟨vp_in_nI (by omega) (by omega), nm_r (hsu ls hM.2.2.2.2.2.2.2.2.1) (hY1 _ (hY2 _ (nm_r (nI_1 it) hY3')))⟩⟩) i 0 (by omega) (m + 1) (by omega)⟩
    · have hP : ar_tp st tg a f = false := decide_eq_false hz
      obtain ⟨u3, v3, st3, m3, e3, mk3, hG3, hF3, hX3, hY3⟩ := ih (f + 1) st m e mk u v cnt (by omega) hG (fun j hj => by
        rw [hmk j hj, ar_mg_S]
        by_cases ej : e j = f
        · right; rw [ej]; exact hz
        · left; exact ej) (by omega)
      refine ⟨u3, v3, st3, m3, e3, mk3, hG3, hF3, ?_, fun post hp k it hk hit => hY3 post hp k it (by omega) (by omega)⟩
      intro post hp k hk
      obtain ⟨k', rfl⟩ : ∃ k', k = k' + 1 := ⟨k - 1, by omega⟩
      rw [ar_cn_0 hP] at hp
      have hX3' := hX3 post hp k' (by omega)
      obtain ⟨c, o, T, R, cT, cR, oT, oR, lo, la, lb, lt, lk, ln, lP, lq, ls, bl, bf, po, rfl, rfl, hM, hZ1, hZ2, hc, hmo, hK, hb1, hb2, hb3⟩ := hG
      refine br_f (nI_ge (by omega) (by omega)) ⟨vp_in_nI (by omega) (by omega), ?_⟩
      by_cases y : st f = 1
      · exact br_t (by rw [nI_clamp (by omega)]; exact y) ⟨vp_in_nI (by omega) (by omega), br_f (by rw [nI_clamp (by omega)]; exact fun w => hz ⟨y, w⟩) (nm_r (nI_1 f) hX3')⟩
      · exact br_f (by rw [nI_clamp (by omega)]; exact y) (nm_r (nI_1 f) hX3')
theorem ar_cancel (hN : ar_N C L F n s) (a : Int32) (hG : ar_G S C L F n s qF qN K q xO xA xB xT yO yA yB yT op A B tg hs hd st tk m e mk wp u v) :
    ∃ r u' v' st' m' e' mk', ar_G S C L F n s qF qN K q xO xA xB xT yO yA yB yT op A B tg hs hd st' tk m' e' mk' wp u' v' ∧ ar_FK n hs st st' ∧ (∀ post : Int32 → SX → Prop, post r u' → wpX_cancelPending post u a) ∧ (∀ post : Int32 → SY → Prop, post r v' → wpY_doCancel post v a) := by
  have hE := ar_G_E hG
  have hmn := ar_E_le hE
  have hN' := hN
  obtain ⟨hC, hn, hs', hF, hL⟩ := hN'
  obtain ⟨c, o, T, R, cT, cR, oT, oR, lo, la, lb, lt, lk, ln, lP, lq, ls, bl, bf, po, rfl, rfl, hM, hZ1, hZ2, hc, hmo, hK, hb1, hb2, hb3⟩ := hG
  have hlt := hM.2.2.2.2.1
  have hlP := hM.2.2.2.2.2.2.1
  have hPP : ∀ j, j < m → (¬ lP j = 0 ∧ lt j = a ↔ st (e j) = 1 ∧ tg (e j) = a) := by
    intro j hj
    rw [hlt j hj, hlP j hj]
    unfold ar_pd
    by_cases z : st (e j) = 1
    · rw [if_pos z]; exact ⟨fun w => ⟨z, w.2⟩, fun w => ⟨ar_10, w.2⟩⟩
    · rw [if_neg z]; exact ⟨fun w => absurd rfl w.1, fun w => absurd w.1 z⟩
  have htot : ar_cn (ar_mp lP lt a) 0 m = ar_cn (ar_tp st tg a) 0 n := by
    rw [← ar_cn_E hE (P := ar_tp st tg a) (fun p hp w => by have := (of_decide_eq_true hp).1; rw [w] at this; exact ar_21 this) n 0 0 (by omega) ar_cut0]
    refine ar_cn_c m 0 (fun j _ hj => ?_)
    show decide _ = decide _
    exact decide_eq_decide.mpr (hPP j (by omega))
  have hle := ar_cn_le (P := ar_tp st tg a) n 0
  have hGm : ar_G S C L F n s qF qN K q xO xA xB xT yO yA yB yT op A B tg hs hd st tk m e (ar_mf lP lt a mk m) wp (nI S, nI C, nI L, nI qF, nI qN, nI F, nI (c + o), nI c, nI n, xO, xA, xB, xT, T, R, op, A, B, tg, st, tk, hs, bl, bf) (nI S, nI C, nI L, nI qN, nI c, nI o, nI m, lN s, po, wp, yO, yA, yB, yT, cT, cR, oT, oR, lo, la, lb, lt, lk, ln, lP, ar_mf lP lt a mk m, lq, ls, hd, bl, bf) := ⟨c, o, T, R, cT, cR, oT, oR, lo, la, lb, lt, lk, ln, lP, lq, ls, bl, bf, po, rfl, rfl, hM, hZ1, hZ2, hc, hmo, hK, hb1, hb2, ar_mf_B hb3⟩
  have hVm : ar_V e m (ar_mf lP lt a mk m) (ar_mg st tg a 0) := by
    intro j hj
    unfold ar_mf ar_mg
    rw [if_pos hj]
    by_cases z : st (e j) = 1 ∧ tg (e j) = a
    · rw [if_pos ((hPP j hj).mpr z), if_pos ⟨Nat.zero_le _, z⟩]
    · rw [if_neg (fun w => z ((hPP j hj).mp w)), if_neg (fun w => z w.2)]
  obtain ⟨u3, v3, st3, m3, e3, mk3, hG3, hF3, hX3, hY3⟩ := ar_cloop hN a (ar_cn (ar_tp st tg a) 0 n) (by omega) n 0 st m e _ _ _ 0 (by omega) hGm hVm (Nat.le_refl _)
  refine ⟨ar_rs (ar_cn (ar_tp st tg a) 0 n), u3, v3, st3, m3, e3, mk3, hG3, hF3, ?_, ?_⟩
  · intro post hp
    rw [Nat.zero_add] at hX3
    exact lx_cp_w post a (n + 1) _ (hX3 post hp (n + 1) (by omega))
  · intro post hp
    have h1 := hY3 post hp (n + 1) 0 (by omega) (by omega)
    have h2 := ay_mark (mk := mk) post a (ar_cn (ar_tp st tg a) 0 n) (by omega) ⟨n + 1, h1⟩ m 0 0 (by omega) (by rw [Nat.zero_add]; exact htot)
    have h3 : ar_mf lP lt a mk 0 = mk := by
      funext p
      exact if_neg (by omega)
    rw [h3] at h2
    exact ⟨_, h2⟩
end
