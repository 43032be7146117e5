def lx_22 (post : Int32 → SX → Prop) (a b : Int32) (k : Nat) (x : Int32) (u : SX) : Prop := match u with
  | (f_sqCapacity, f_cqCapacity, f_latency, f_sqFirst, f_sqCount, f_doneFirst, f_doneCount, f_cqCount, f_reqCount, a_sqOpFlags, a_sqA, a_sqB, a_sqTag, a_doneTag, a_doneResult, a_reqOpcode, a_reqA, a_reqB, a_reqTag, a_reqState, a_reqTicks, a_reqHasSuccessor, a_blocks, a_buffers) => wX_enter_22 post a b k x f_sqCapacity f_cqCapacity f_latency f_sqFirst f_sqCount f_doneFirst f_doneCount f_cqCount f_reqCount a_sqOpFlags a_sqA a_sqB a_sqTag a_doneTag a_doneResult a_reqOpcode a_reqA a_reqB a_reqTag a_reqState a_reqTicks a_reqHasSuccessor a_blocks a_buffers
def lx_ee (post : Int32 → SX → Prop) (a b : Int32) (u : SX) : Prop := match u with
  | (f_sqCapacity, f_cqCapacity, f_latency, f_sqFirst, f_sqCount, f_doneFirst, f_doneCount, f_cqCount, f_reqCount, a_sqOpFlags, a_sqA, a_sqB, a_sqTag, a_doneTag, a_doneResult, a_reqOpcode, a_reqA, a_reqB, a_reqTag, a_reqState, a_reqTicks, a_reqHasSuccessor, a_blocks, a_buffers) => wpX_dropPosted (fun u => match u with | (f_sqCapacity, f_cqCapacity, f_latency, f_sqFirst, f_sqCount, f_doneFirst, f_doneCount, f_cqCount, f_reqCount, a_sqOpFlags, a_sqA, a_sqB, a_sqTag, a_doneTag, a_doneResult, a_reqOpcode, a_reqA, a_reqB, a_reqTag, a_reqState, a_reqTicks, a_reqHasSuccessor, a_blocks, a_buffers) => post (b - a) (f_sqCapacity, f_cqCapacity, f_latency, f_sqFirst, f_sqCount, f_doneFirst, f_doneCount, f_cqCount, f_reqCount, a_sqOpFlags, a_sqA, a_sqB, a_sqTag, a_doneTag, a_doneResult, a_reqOpcode, a_reqA, a_reqB, a_reqTag, a_reqState, a_reqTicks, a_reqHasSuccessor, a_blocks, a_buffers)) (f_sqCapacity, f_cqCapacity, f_latency, f_sqFirst, f_sqCount, f_doneFirst, f_doneCount, f_cqCount, f_reqCount, a_sqOpFlags, a_sqA, a_sqB, a_sqTag, a_doneTag, a_doneResult, a_reqOpcode, a_reqA, a_reqB, a_reqTag, a_reqState, a_reqTicks, a_reqHasSuccessor, a_blocks, a_buffers)
def ly_447 (post : Int32 → SY → Prop) (a : Int32) (b : Int64) (k : Nat) (x : Int32) (v : SY) : Prop := match v with
  | (f_S, f_C, f_L, f_sqN, f_cqN, f_ovN, f_liveN, f_nextSeq, f_posts, f_wentPending, a_sqOp, a_sqA, a_sqB, a_sqTg, a_cqT, a_cqR, a_ovT, a_ovR, a_lOp, a_lA, a_lB, a_lTag, a_lTicks, a_lLink, a_lPend, a_lMark, a_lSeq, a_lSucc, a_head, a_block, a_buffer) => wY_enter_447 post a b k x f_S f_C f_L f_sqN f_cqN f_ovN f_liveN f_nextSeq f_posts f_wentPending a_sqOp a_sqA a_sqB a_sqTg a_cqT a_cqR a_ovT a_ovR a_lOp a_lA a_lB a_lTag a_lTicks a_lLink a_lPend a_lMark a_lSeq a_lSucc a_head a_block a_buffer
def ly_ee (post : Int32 → SY → Prop) (a : Int32) (v : SY) : Prop := match v with
  | (f_S, f_C, f_L, f_sqN, f_cqN, f_ovN, f_liveN, f_nextSeq, f_posts, f_wentPending, a_sqOp, a_sqA, a_sqB, a_sqTg, a_cqT, a_cqR, a_ovT, a_ovR, a_lOp, a_lA, a_lB, a_lTag, a_lTicks, a_lLink, a_lPend, a_lMark, a_lSeq, a_lSucc, a_head, a_block, a_buffer) => post a (f_S, f_C, f_L, f_sqN, f_cqN, f_ovN, f_liveN, f_nextSeq, f_posts, f_wentPending, a_sqOp, a_sqA, a_sqB, a_sqTg, a_cqT, a_cqR, a_ovT, a_ovR, a_lOp, a_lA, a_lB, a_lTag, a_lTicks, a_lLink, a_lPend, a_lMark, a_lSeq, a_lSucc, a_head, a_block, a_buffer)
/-- the last of the new ones has no successor -/
def ar_he (hs : Nat → Int32) (n0 k : Nat) : Nat → Int32 := fun p => if 0 < k ∧ p = n0 + k - 1 then 0 else hs p
def ar_qe (q : Nat → Nat) (n0 s0 : Nat) : Nat → Nat := fun p => if p < n0 then q p else s0 + (p - n0)
theorem ar_he_0 {hs : Nat → Int32} {n0 : Nat} : ar_he hs n0 0 = hs := by
  funext p
  exact if_neg (by omega)
theorem ar_he_k {hs : Nat → Int32} {n0 k : Nat} (h : 0 < k) : upd hs (n0 + k - 1) 0 = ar_he hs n0 k := by
  funext p
  unfold ar_he
  by_cases e : p = n0 + k - 1
  · rw [if_pos ⟨h, e⟩, e, pk_us]
  · rw [if_neg (fun w => e w.2), pk_un e]
theorem ar_he_B {hs : Nat → Int32} {n0 k : Nat} (h : ar_B hs) : ar_B (ar_he hs n0 k) := by
  intro p
  unfold ar_he
  by_cases e : 0 < k ∧ p = n0 + k - 1
  · rw [if_pos e]; exact Or.inl rfl
  · rw [if_neg e]; exact h p
theorem ar_U_M {n0 k s0 : Nat} {q : Nat → Nat} {op A B tg st tk hs lo la lb lt lk ln lP : Nat → Int32} {lq ls : Nat → Int64} (h : ar_U n0 (n0 + k) s0 q op A B tg st tk hs lo la lb lt lk ln lP lq ls) :
    ar_M (n0 + k) (n0 + k) (s0 + k) (fun j => j) (ar_qe q n0 s0) op A B tg st tk (ar_he hs n0 k) lo la lb lt lk lP lq (ar_lf ls (ar_he hs n0 k) (ar_qe q n0 s0) n0 k) := by
  obtain ⟨h1, h2, h3, hC, hQ, hP⟩ := h
  have q0 : ∀ p, p < n0 → ar_qe q n0 s0 p = q p := fun p hp => if_pos hp
  have q1 : ∀ p, n0 ≤ p → ar_qe q n0 s0 p = s0 + (p - n0) := fun p hp => if_neg (by omega)
  have e0 : ∀ p, p < n0 → ar_he hs n0 k p = hs p := fun p hp => if_neg (by omega)
  have hl : ∀ p, n0 ≤ p → p < n0 + k → ¬ ar_he hs n0 k p = 0 → p + 1 < n0 + k := by
    intro p a b c
    by_cases e : p = n0 + k - 1
    · exact absurd (if_pos ⟨by omega, e⟩) c
    · omega
  refine ⟨ar_E_id (fun p hp => (h1 p hp).2.2.2.2.2.2), fun j hj => (h1 j hj).1, fun j hj => (h1 j hj).2.1, fun j hj => (h1 j hj).2.2.1, fun j hj => (h1 j hj).2.2.2.1, fun j hj => (h1 j hj).2.2.2.2.1, fun j hj => (h1 j hj).2.2.2.2.2.1, fun j hj => ?_, fun j hj => ?_, ?_, ⟨?_, ?_, ?_⟩, ?_⟩
  · show lq j = lN (ar_qe q n0 s0 j)
    by_cases z : j < n0
    · rw [q0 j z]; exact (h2 j z).1
    · rw [q1 j (by omega)]; exact (h3 j (by omega) hj).1
  · show ar_lf ls (ar_he hs n0 k) (ar_qe q n0 s0) n0 k j = ar_su (ar_he hs n0 k) (ar_qe q n0 s0) j
    unfold ar_lf
    by_cases z : j < n0
    · rw [if_neg (by omega), (h2 j z).2]
      unfold ar_su
      rw [e0 j z, q0 j z]
    · rw [if_pos (by omega)]
  · intro p hp a b
    by_cases z : p < n0
    · rw [e0 p z] at b
      obtain ⟨c1, c2⟩ := hC p z a b
      exact ⟨by omega, c2⟩
    · have := hl p (by omega) hp b
      exact ⟨this, (h3 (p + 1) (by omega) this).2.2.2⟩
  · intro p r hpr hr
    by_cases z : r < n0
    · rw [q0 p (by omega), q0 r z]; exact hQ.1 p r hpr z
    · rw [q1 r (by omega)]
      by_cases y : p < n0
      · rw [q0 p y]; have := hQ.2.2 p y; omega
      · rw [q1 p (by omega)]; omega
  · intro p hp a b
    by_cases z : p < n0
    · rw [e0 p z] at b
      obtain ⟨c1, c2⟩ := hC p z a b
      rw [q0 p z, q0 (p + 1) c1]; exact hQ.2.1 p z a b
    · rw [q1 p (by omega), q1 (p + 1) (by omega)]; omega
  · intro p hp
    by_cases z : p < n0
    · rw [q0 p z]; have := hQ.2.2 p z; omega
    · rw [q1 p (by omega)]; omega
  · intro p hp a
    by_cases z : p < n0
    · exact hP p z a
    · rw [(h3 p (by omega) hp).2.2.2] at a; exact absurd a ar_01
section
variable {S C L F n s qF qN m : Nat} {K wp : Int32} {q e : Nat → Nat} {xO xA xB xT yO yA yB yT op A B tg hs hd st tk mk : Nat → Int32} {u : SX} {v : SY}
theorem ar_eloop (hN : ar_N C L F n s) {n0 k s0 : Nat} (hk : n0 + k = n) (hq : ∀ j, j < k → q (n0 + j) = s0 + j) (hhd : ∀ j, j < k → hd j = if j = 0 ∨ hs (n0 + j - 1) = 0 then 1 else 0) (hfst : ∀ r, r + 1 = n0 → hs r = 0) :
    ∀ d i (st tk : Nat → Int32) (m : Nat) (e : Nat → Nat) (mk : Nat → Int32) (wp : Int32) (u : SX) (v : SY), i + d = k → ar_G S C L F n s qF qN K q xO xA xB xT yO yA yB yT op A B tg hs hd st tk m e mk wp u v → (∀ h, n0 + i ≤ h → (h = n0 ∨ hs (h - 1) = 0) → ∀ p, h ≤ p → p < n → st p = 0) →
    ∃ u' v' st' tk' m' e' mk' wp', ar_G S C L F n s qF qN K q xO xA xB xT yO yA yB yT op A B tg hs hd st' tk' m' e' mk' wp' u' v' ∧
      (∀ post : Int32 → SX → Prop, lx_ee post (nI n0) (nI n) u' → ∀ f, d < f → lx_22 post (nI n0) (nI n) f (nI (n0 + i)) u) ∧ (∀ post : Int32 → SY → Prop, ly_ee post (nI k) v' → ∀ f, d < f → ly_447 post (nI k) (lN s0) f (nI i) v) := by
  have hN' := hN
  obtain ⟨hC, hn, hsz, hF, hL⟩ := hN'
  intro d
  induction d with
  | zero =>
    intro i st tk m e mk wp u v hi hG hInv
    refine ⟨u, v, st, tk, m, e, mk, wp, hG, ?_, ?_⟩
    · intro post hp f hf
      obtain ⟨f', rfl⟩ : ∃ f', f = f' + 1 := ⟨f - 1, by omega⟩
      obtain ⟨c, o, T, R, cT, cR, oT, oR, lo, la, lb, lt, lk, ln, lP, lq, ls, bl, bf, po, rfl, rfl, hM, hZ1, hZ2, hc, hmo, hK, hb1, hb2, hb3⟩ := hG
      exact br_t (nI_le (by omega) (by omega)) hp
    · intro post hp f hf
      obtain ⟨f', rfl⟩ : ∃ f', f = f' + 1 := ⟨f - 1, by omega⟩
      obtain ⟨c, o, T, R, cT, cR, oT, oR, lo, la, lb, lt, lk, ln, lP, lq, ls, bl, bf, po, rfl, rfl, hM, hZ1, hZ2, hc, hmo, hK, hb1, hb2, hb3⟩ := hG
      exact br_t (nI_le (by omega) (by omega)) hp
  | succ d ih =>
    intro i st tk m e mk wp u v hi hG hInv
    have hqi := hq i (by omega)
    have hdi := hhd i (by omega)
    have hqs := (ar_G_Q hG).2.2 (n0 + i) (by omega)
    have i0 : vp_in (nI i) 32 := vp_in_nI (by omega) (by omega)
    by_cases hz : i = 0 ∨ hs (n0 + i - 1) = 0
    · rw [if_pos hz] at hdi
      have hst : st (n0 + i) = 0 := by
        refine hInv (n0 + i) (Nat.le_refl _) ?_ (n0 + i) (Nat.le_refl _) (by omega)
        rcases hz with z | z
        · exact Or.inl (by omega)
        · exact Or.inr z
      have hH : ar_H st hs (n0 + i) := by
        intro r hr
        rcases hz with z | z
        · exact Or.inr (hfst r (by omega))
        · rw [show n0 + i - 1 = r by omega] at z; exact Or.inr z
      obtain ⟨u2, v2, st2, tk2, m2, e2, mk2, wp2, hG2, hF2, hX2, hY2⟩ := ar_run hN (d + 1) (n0 + i) st tk m e mk wp u v (by omega) (by omega) hG hst hH
      obtain ⟨u3, v3, st3, tk3, m3, e3, mk3, wp3, hG3, hX3, hY3⟩ := ih (i + 1) st2 tk2 m2 e2 mk2 wp2 u2 v2 (by omega) hG2 (fun h h1 h2 p h3 h4 => by
        have h5 : hs (h - 1) = 0 := by
          rcases h2 with z | z
          · omega
          · exact z
        exact hF2.2 h (by omega) h5 (hInv h (by omega) (Or.inr h5)) p h3 h4)
      refine ⟨u3, v3, st3, tk3, m3, e3, mk3, wp3, hG3, ?_, ?_⟩
      · intro post hp f hf
        obtain ⟨f', rfl⟩ : ∃ f', f = f' + 1 := ⟨f - 1, by omega⟩
        have hX3' := hX3 post hp f' (by omega)
        have hrun : ∀ P : SX → Prop, P u2 → wpX_runChain P u (nI (n0 + i)) := fun P hP => lx_rc_w P (d + 2) _ u (hX2 P hP (d + 2) (by omega))
        obtain ⟨c, o, T, R, cT, cR, oT, oR, lo, la, lb, lt, lk, ln, lP, lq, ls, bl, bf, po, rfl, rfl, hM, hZ1, hZ2, hc, hmo, hK, hb1, hb2, hb3⟩ := hG
        obtain ⟨c2, o2, T2, R2, cT2, cR2, oT2, oR2, lo2, la2, lb2, lt2, lk2, ln2, lP2, lq2, ls2, bl2, bf2, po2, rfl, rfl, hM2, hZ12, hZ22, hc2, hmo2, hK2, hb12, hb22, hb32⟩ := hG2
        have h46 : wX_enter_46 post (wX_enter_22 post (nI n0) (nI n) f') (nI n0) (nI n) (nI (n0 + i)) (nI S) (nI C) (nI L) (nI qF) (nI qN) (nI F) (nI (c + o)) (nI c) (nI n) xO xA xB xT T R op A B tg st tk hs bl bf := by
          unfold wX_enter_46
          exact hrun _ (nm_r (nI_1 (n0 + i)) hX3')
        refine br_f (nI_ge (by omega) (by omega)) ?_
        by_cases y : i = 0
        · exact br_t (by rw [y]; rfl) h46
        · have z : hs (n0 + i - 1) = 0 := by
            rcases hz with z | z
            · exact absurd z y
            · exact z
          have e1 : nI (n0 + i) - 1 = nI (n0 + i - 1) := by
            have := nI_pred (n0 + i - 1)
            rw [show n0 + i - 1 + 1 = n0 + i by omega] at this
            exact this
          exact br_f (by rw [nI_eq (by omega) (by omega)]; omega) ⟨by rw [e1]; exact vp_in_nI (by omega) (by omega), br_t (by rw [e1, nI_clamp (by omega)]; exact z) h46⟩
      · intro post hp f hf
        obtain ⟨f', rfl⟩ : ∃ f', f = f' + 1 := ⟨f - 1, by omega⟩
        have hY3' := hY3 post hp f' (by omega)
        have e1 : lN s0 + (nI i).toInt64 = lN (q (n0 + i)) := by rw [nI_l (by omega), lN_add, hqi]
        have hrun : ∀ P : SY → Prop, P v2 → wpY_runChain P v (lN (q (n0 + i))) 1 0 := fun P hP => ly_rc_w P (d + 2) 1 0 _ v (hY2 P hP (d + 2) 0 0 (by omega) (by omega))
        obtain ⟨c, o, T, R, cT, cR, oT, oR, lo, la, lb, lt, lk, ln, lP, lq, ls, bl, bf, po, rfl, rfl, hM, hZ1, hZ2, hc, hmo, hK, hb1, hb2, hb3⟩ := hG
        obtain ⟨c2, o2, T2, R2, cT2, cR2, oT2, oR2, lo2, la2, lb2, lt2, lk2, ln2, lP2, lq2, ls2, bl2, bf2, po2, rfl, rfl, hM2, hZ12, hZ22, hc2, hmo2, hK2, hb12, hb22, hb32⟩ := hG2
        refine br_f (nI_ge (by omega) (by omega)) (br_f (nI_ge (b := 32) (by omega) (by decide)) ⟨i0, br_f (by rw [nI_clamp (by omega), hdi]; exact ar_10) ?_⟩)
        rw [e1]
        exact hrun _ (nm_r (nI_1 i) hY3')
    · rw [if_neg hz] at hdi
      have hi0 : ¬ i = 0 := fun w => hz (Or.inl w)
      obtain ⟨u3, v3, st3, tk3, m3, e3, mk3, wp3, hG3, hX3, hY3⟩ := ih (i + 1) st tk m e mk wp u v (by omega) hG (fun h h1 => hInv h (by omega))
      refine ⟨u3, v3, st3, tk3, m3, e3, mk3, wp3, hG3, ?_, ?_⟩
      · intro post hp f hf
        obtain ⟨f', rfl⟩ : ∃ f', f = f' + 1 := ⟨f - 1, by omega⟩
        have hX3' := hX3 post hp f' (by omega)
        obtain ⟨c, o, T, R, cT, cR, oT, oR, lo, la, lb, lt, lk, ln, lP, lq, ls, bl, bf, po, rfl, rfl, hM, hZ1, hZ2, hc, hmo, hK, hb1, hb2, hb3⟩ := hG
        have e1 : nI (n0 + i) - 1 = nI (n0 + i - 1) := by
          have := nI_pred (n0 + i - 1)
          rw [show n0 + i - 1 + 1 = n0 + i by omega] at this
          exact this
        exact br_f (nI_ge (by omega) (by omega)) (br_f (by rw [nI_eq (by omega) (by omega)]; omega) ⟨by rw [e1]; exact vp_in_nI (by omega) (by omega), br_f (by rw [e1, nI_clamp (by omega)]; exact fun w => hz (Or.inr w)) (nm_r (nI_1 (n0 + i)) hX3')⟩)
      · intro post hp f hf
        obtain ⟨f', rfl⟩ : ∃ f', f = f' + 1 := ⟨f - 1, by omega⟩
        have hY3' := hY3 post hp f' (by omega)
        obtain ⟨c, o, T, R, cT, cR, oT, oR, lo, la, lb, lt, lk, ln, lP, lq, ls, bl, bf, po, rfl, rfl, hM, hZ1, hZ2, hc, hmo, hK, hb1, hb2, hb3⟩ := hG
        exact br_f (nI_ge (by omega) (by omega)) (br_f (nI_ge (b := 32) (by omega) (by decide)) ⟨i0, br_t (by rw [nI_clamp (by omega)]; exact hdi) (nm_r (nI_1 i) hY3')⟩)
end
