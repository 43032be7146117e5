def lx_28 (post : SX → Prop) (J : Int32 → Int32 → Int32 → Int32 → Int32 → Int32 → Int32 → Int32 → Int32 → Int32 → (Nat → Int32) → (Nat → Int32) → (Nat → Int32) → (Nat → Int32) → (Nat → Int32) → (Nat → Int32) → (Nat → Int32) → (Nat → Int32) → (Nat → Int32) → (Nat → Int32) → (Nat → Int32) → (Nat → Int32) → (Nat → Int32) → (Nat → Int32) → (Nat → Int32) → Prop) (x z : Int32) (u : SX) : Prop := match u with
  | (f_sqCapacity, f_cqCapacity, f_latency, f_sqFirst, f_sqCount, f_doneFirst, f_doneCount, f_cqCount, f_reqCount, a_sqOpFlags, a_sqA, a_sqB, a_sqTag, a_doneTag, a_doneResult, a_reqOpcode, a_reqA, a_reqB, a_reqTag, a_reqState, a_reqTicks, a_reqHasSuccessor, a_blocks, a_buffers) => wX_runChain_28 post J x z f_sqCapacity f_cqCapacity f_latency f_sqFirst f_sqCount f_doneFirst f_doneCount f_cqCount f_reqCount a_sqOpFlags a_sqA a_sqB a_sqTag a_doneTag a_doneResult a_reqOpcode a_reqA a_reqB a_reqTag a_reqState a_reqTicks a_reqHasSuccessor a_blocks a_buffers
section
variable {S C L F n s qF qN m : Nat} {K wp : Int32} {q e : Nat → Nat} {xO xA xB xT yO yA yB yT op A B tg hs hd st tk mk : Nat → Int32} {u : SX} {v : SY}
theorem ar_dev (hN : ar_N C L F n s) (hG : ar_G S C L F n s qF qN K q xO xA xB xT yO yA yB yT op A B tg hs hd st tk m e mk wp u v) {i : Nat} (hi : i < m) (hk : ar_ok (op (e i)) (A (e i)) (B (e i))) :
    ∃ r u' v', ar_G S C L F n s qF qN K q xO xA xB xT yO yA yB yT op A B tg hs hd st tk m e mk wp u' v' ∧ (∀ post : Int32 → SX → Prop, post r u' → wpX_execute post u (nI (e i))) ∧ (∀ post : Int32 → SY → Prop, post r v' → wpY_execDevice post v (nI i)) := by
  have hE := ar_G_E hG
  have hmn := ar_E_le hE
  have hb := hE.2.1 i hi
  obtain ⟨hC, hn, hs', hF, hL⟩ := hN
  obtain ⟨c, o, T, R, cT, cR, oT, oR, lo, la, lb, lt, lk, ln, lP, lq, ls, bl, bf, po, rfl, rfl, hM, hZ1, hZ2, hc, hmo, hK, hb1, hb2, hb3⟩ := hG
  have e1 : lo i = op (e i) := hM.2.1 i hi
  have e2 : la i = A (e i) := hM.2.2.1 i hi
  have e3 : lb i = B (e i) := hM.2.2.2.1 i hi
  have hk' : ar_ok (lo i) (la i) (lb i) := by rw [e1, e2, e3]; exact hk
  have hv : ¬ ¬ ar_vd (op (e i)) (A (e i)) (B (e i)) := fun w => w (Or.inl hk)
  have n0 : ¬ op (e i) = 0 := fun w => by rcases ar_ok_k hk with y | y | y | y <;> rw [y] at w <;> exact absurd w (by decide)
  have n5 : ¬ op (e i) = 5 := fun w => by rcases ar_ok_k hk with y | y | y | y <;> rw [y] at w <;> exact absurd w (by decide)
  rcases ar_ok_k hk with y | y | y | y
  · refine ⟨0, _, _, ⟨c, o, T, R, cT, cR, oT, oR, lo, la, lb, lt, lk, ln, lP, lq, ls, bl, upd bf (B (e i)).toNatClampNeg (bl (A (e i)).toNatClampNeg), po, rfl, rfl, hM, hZ1, hZ2, hc, hmo, hK, hb1, hb2, hb3⟩,
      fun post hp => ax_exec post (by omega) (fun w => absurd w hv) (fun w => absurd w n0) (fun _ _ => hp) (fun w => ?_) (fun w => ?_) (fun w => ?_) (fun w => absurd w n5),
      fun post hp => ay_dev post (by omega) hk' (fun _ => ?_) (fun w => ?_) (fun w => ?_) (fun w => ?_)⟩
    · rw [y] at w; exact absurd w (by decide)
    · rw [y] at w; exact absurd w (by decide)
    · rw [y] at w; exact absurd w (by decide)
    · rw [e2, e3]; exact hp
    · rw [e1, y] at w; exact absurd w (by decide)
    · rw [e1, y] at w; exact absurd w (by decide)
    · rw [e1, y] at w; exact absurd w (by decide)
  · refine ⟨0, _, _, ⟨c, o, T, R, cT, cR, oT, oR, lo, la, lb, lt, lk, ln, lP, lq, ls, upd bl (A (e i)).toNatClampNeg (bf (B (e i)).toNatClampNeg), bf, po, rfl, rfl, hM, hZ1, hZ2, hc, hmo, hK, hb1, hb2, hb3⟩,
      fun post hp => ax_exec post (by omega) (fun w => absurd w hv) (fun w => absurd w n0) (fun w => ?_) (fun _ _ => hp) (fun w => ?_) (fun w => ?_) (fun w => absurd w n5),
      fun post hp => ay_dev post (by omega) hk' (fun w => ?_) (fun _ => ?_) (fun w => ?_) (fun w => ?_)⟩
    · rw [y] at w; exact absurd w (by decide)
    · rw [y] at w; exact absurd w (by decide)
    · rw [y] at w; exact absurd w (by decide)
    · rw [e1, y] at w; exact absurd w (by decide)
    · rw [e2, e3]; exact hp
    · rw [e1, y] at w; exact absurd w (by decide)
    · rw [e1, y] at w; exact absurd w (by decide)
  · by_cases z : bl (A (e i)).toNatClampNeg = B (e i)
    · refine ⟨0, _, _, ⟨c, o, T, R, cT, cR, oT, oR, lo, la, lb, lt, lk, ln, lP, lq, ls, bl, bf, po, rfl, rfl, hM, hZ1, hZ2, hc, hmo, hK, hb1, hb2, hb3⟩,
        fun post hp => ax_exec post (by omega) (fun w => absurd w hv) (fun w => absurd w n0) (fun w => ?_) (fun w => ?_) (fun _ _ => ⟨fun _ => hp, fun x => absurd z x⟩) (fun w => ?_) (fun w => absurd w n5),
        fun post hp => ay_dev post (by omega) hk' (fun w => ?_) (fun w => ?_) (fun _ => ?_) (fun w => ?_)⟩
      · rw [y] at w; exact absurd w (by decide)
      · rw [y] at w; exact absurd w (by decide)
      · rw [y] at w; exact absurd w (by decide)
      · rw [e1, y] at w; exact absurd w (by decide)
      · rw [e1, y] at w; exact absurd w (by decide)
      · rw [e2, e3]; exact ⟨fun _ => hp, fun x => absurd z x⟩
      · rw [e1, y] at w; exact absurd w (by decide)
    · refine ⟨-74, _, _, ⟨c, o, T, R, cT, cR, oT, oR, lo, la, lb, lt, lk, ln, lP, lq, ls, bl, bf, po, rfl, rfl, hM, hZ1, hZ2, hc, hmo, hK, hb1, hb2, hb3⟩,
        fun post hp => ax_exec post (by omega) (fun w => absurd w hv) (fun w => absurd w n0) (fun w => ?_) (fun w => ?_) (fun _ _ => ⟨fun x => absurd x z, fun _ => hp⟩) (fun w => ?_) (fun w => absurd w n5),
        fun post hp => ay_dev post (by omega) hk' (fun w => ?_) (fun w => ?_) (fun _ => ?_) (fun w => ?_)⟩
      · rw [y] at w; exact absurd w (by decide)
      · rw [y] at w; exact absurd w (by decide)
      · rw [y] at w; exact absurd w (by decide)
      · rw [e1, y] at w; exact absurd w (by decide)
      · rw [e1, y] at w; exact absurd w (by decide)
      · rw [e2, e3]; exact ⟨fun x => absurd x z, fun _ => hp⟩
      · rw [e1, y] at w; exact absurd w (by decide)
  · refine ⟨0, _, _, ⟨c, o, T, R, cT, cR, oT, oR, lo, la, lb, lt, lk, ln, lP, lq, ls, bl, bf, po, rfl, rfl, hM, hZ1, hZ2, hc, hmo, hK, hb1, hb2, hb3⟩,
      fun post hp => ax_exec post (by omega) (fun w => absurd w hv) (fun w => absurd w n0) (fun w => ?_) (fun w => ?_) (fun w => ?_) (fun _ _ => hp) (fun w => absurd w n5),
      fun post hp => ay_dev post (by omega) hk' (fun w => ?_) (fun w => ?_) (fun w => ?_) (fun _ => hp)⟩
    · rw [y] at w; exact absurd w (by decide)
    · rw [y] at w; exact absurd w (by decide)
    · rw [y] at w; exact absurd w (by decide)
    · rw [e1, y] at w; exact absurd w (by decide)
    · rw [e1, y] at w; exact absurd w (by decide)
    · rw [e1, y] at w; exact absurd w (by decide)
/-- Y's start, by the kinds -/
theorem ay_start (post : Int32 → SY → Prop) {c o : Nat} {po : Int32} {bl bf cT cR oT oR lo la lb lt lk ln lP : Nat → Int32} {lq ls : Nat → Int64} {i : Nat} (hi : i < 32) (hL : L < 2 ^ 31)
    (hinv : ¬ ar_vd (lo i) (la i) (lb i) → post (-22) (nI S, nI C, nI L, nI qN, nI c, nI o, nI m, lN s, po, 0, yO, yA, yB, yT, cT, cR, oT, oR, lo, la, lb, lt, lk, ln, lP, mk, lq, ls, hd, bl, bf)) (h0 : lo i = 0 → post 0 (nI S, nI C, nI L, nI qN, nI c, nI o, nI m, lN s, po, 0, yO, yA, yB, yT, cT, cR, oT, oR, lo, la, lb, lt, lk, ln, lP, mk, lq, ls, hd, bl, bf))
    (hd0 : ar_ok (lo i) (la i) (lb i) → ¬ lo i = 4 → L = 0 → ∃ r v', (∀ P : Int32 → SY → Prop, P r v' → wpY_execDevice P (nI S, nI C, nI L, nI qN, nI c, nI o, nI m, lN s, po, 0, yO, yA, yB, yT, cT, cR, oT, oR, lo, la, lb, lt, lk, ln, lP, mk, lq, ls, hd, bl, bf) (nI i)) ∧ post r v')
    (hd1 : ar_ok (lo i) (la i) (lb i) → ¬ lo i = 4 → ¬ L = 0 → post 0 (nI S, nI C, nI L, nI qN, nI c, nI o, nI m, lN s, po, 1, yO, yA, yB, yT, cT, cR, oT, oR, lo, la, lb, lt, upd lk i (nI L), ln, upd lP i 1, mk, lq, ls, hd, bl, bf))
    (h4 : ar_ok (lo i) (la i) (lb i) → lo i = 4 → post 0 (nI S, nI C, nI L, nI qN, nI c, nI o, nI m, lN s, po, 1, yO, yA, yB, yT, cT, cR, oT, oR, lo, la, lb, lt, upd lk i (la i), ln, upd lP i 1, mk, lq, ls, hd, bl, bf))
    (h5 : lo i = 5 → ∃ r v', (∀ P : Int32 → SY → Prop, P r v' → wpY_doCancel P (nI S, nI C, nI L, nI qN, nI c, nI o, nI m, lN s, po, 0, yO, yA, yB, yT, cT, cR, oT, oR, lo, la, lb, lt, lk, ln, lP, mk, lq, ls, hd, bl, bf) (la i)) ∧ post r v') : wpY_startNow post (nI S, nI C, nI L, nI qN, nI c, nI o, nI m, lN s, po, wp, yO, yA, yB, yT, cT, cR, oT, oR, lo, la, lb, lt, lk, ln, lP, mk, lq, ls, hd, bl, bf) (nI i) := by
  have k81 : ar_ok (lo i) (la i) (lb i) → ¬ lo i = 4 → wY_startNow_81 post (nI i) (nI S) (nI C) (nI L) (nI qN) (nI c) (nI o) (nI m) (lN s) po 0 yO yA yB yT cT cR oT oR lo la lb lt lk ln lP mk lq ls hd bl bf := by
    intro hk n4
    by_cases z : L = 0
    · obtain ⟨r, ⟨w0, w1, w2, w3, w4, w5, w6, w7, w8, w9, w10, w11, w12, w13, w14, w15, w16, w17, w18, w19, w20, w21, w22, w23, w24, w25, w26, w27, w28, w29, w30⟩, hP, hpost⟩ := hd0 hk n4 z
      exact br_t (by rw [z]; rfl) (hP _ hpost)
    · exact br_f (nI_ne0 (by omega) hL) ⟨vp_in_nI hi (by omega), nm_r (ar_ub lP 1 (by omega) (Or.inr rfl)) ⟨vp_in_nI hi (by omega), nm_r (ar_uc lk (nI L) (by omega)) (hd1 hk n4 z)⟩⟩
  have k48 : (lo i = 1 ∨ lo i = 2 ∨ lo i = 3) → wY_startNow_48 post (nI i) (lo i) (la i) (lb i) (nI S) (nI C) (nI L) (nI qN) (nI c) (nI o) (nI m) (lN s) po 0 yO yA yB yT cT cR oT oR lo la lb lt lk ln lP mk lq ls hd bl bf := by
    intro he
    have n4 : ¬ lo i = 4 := fun w => by rcases he with y | y | y <;> rw [y] at w <;> exact absurd w (by decide)
    have nv : ¬ ar_ok (lo i) (la i) (lb i) → ¬ ar_vd (lo i) (la i) (lb i) := fun w y => by
      rcases y with y | y | y
      · exact w y
      · rcases he with z | z | z <;> rw [z] at y <;> exact absurd y (by decide)
      · rcases he with z | z | z <;> rw [z] at y <;> exact absurd y (by decide)
    have hblk : ar_ok (lo i) (la i) (lb i) → ar_blk (la i) := fun w => by
      rcases he with z | z | z
      · exact (ar_ok_1 w (Or.inl z)).1
      · exact (ar_ok_1 w (Or.inr z)).1
      · exact ar_ok_3 w z
    refine br_c (fun w => hinv (nv (fun y => (hblk y).1 w))) (fun a0 => br_c (fun a1 => br_c (fun e3 => ?_) (fun n3 => ?_)) (fun w => hinv (nv (fun y => w (hblk y).2))))
    · exact k81 (Or.inr (Or.inl ⟨e3, a0, a1⟩)) n4
    · have e12 : lo i = 1 ∨ lo i = 2 := by
        rcases he with z | z | z
        · exact Or.inl z
        · exact Or.inr z
        · exact absurd z n3
      exact br_c (fun w => hinv (nv (fun y => (ar_ok_1 y e12).2.1 w))) (fun b0 => br_c (fun b1 => k81 (Or.inl ⟨e12, ⟨a0, a1⟩, b0, b1⟩) n4) (fun w => hinv (nv (fun y => w (ar_ok_1 y e12).2.2))))
  refine And.intro (vp_in_nI hi (by omega)) (nm_r (e' := lo i) (by rw [nI_clamp (by omega)]) ⟨vp_in_nI hi (by omega), nm_r (e' := la i) (by rw [nI_clamp (by omega)]) ⟨vp_in_nI hi (by omega), nm_r (e' := lb i) (by rw [nI_clamp (by omega)]) ?_⟩⟩)
  refine br_c h0 (fun n0 => br_c (fun w => k48 (Or.inl w)) (fun n1 => br_c (fun w => k48 (Or.inr (Or.inl w))) (fun n2 => br_c (fun w => k48 (Or.inr (Or.inr w))) (fun n3 => br_c (fun e4 => ?_) (fun n4 => br_c (fun e5 => ?_) (fun n5 => hinv ?_))))))
  · have nv : ¬ ar_ok (lo i) (la i) (lb i) → ¬ ar_vd (lo i) (la i) (lb i) := fun w y => by
      rcases y with y | y | y
      · exact w y
      · exact n0 y
      · rw [e4] at y; exact absurd y (by decide)
    refine br_c (fun w => hinv (nv (fun y => (ar_ok_4 y e4).1 w))) (fun a1 => br_c (fun a16 => ?_) (fun w => hinv (nv (fun y => (ar_ok_4 y e4).2 (ar_nl w)))))
    have hk : ar_ok (lo i) (la i) (lb i) := Or.inr (Or.inr ⟨e4, a1, ar_ln a16⟩)
    exact ⟨vp_in_nI hi (by omega), nm_r (ar_ub lP 1 (by omega) (Or.inr rfl)) ⟨vp_in_nI hi (by omega), nm_r (ar_uc lk (la i) (by omega)) (h4 hk e4)⟩⟩
  · obtain ⟨r, ⟨w0, w1, w2, w3, w4, w5, w6, w7, w8, w9, w10, w11, w12, w13, w14, w15, w16, w17, w18, w19, w20, w21, w22, w23, w24, w25, w26, w27, w28, w29, w30⟩, hP, hpost⟩ := h5 e5
    exact hP _ hpost
  · intro y
    rcases y with y | y | y
    · rcases ar_ok_k y with z | z | z | z
      · exact n1 z
      · exact n2 z
      · exact n3 z
      · exact n4 z
    · exact n0 y
    · exact n5 y
end
