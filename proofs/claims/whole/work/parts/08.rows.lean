/-- the arguments are valid -/
def ar_vd (o a b : Int32) : Prop := ar_ok o a b ∨ o = 0 ∨ o = 5
theorem ar_nl {a b : Int32} (h : ¬ b ≤ a) : a < b := Int32.not_le.mp h
theorem ar_ln {a b : Int32} (h : b ≤ a) : ¬ a < b := Int32.not_lt.mpr h
theorem ar_ok_k {o a b : Int32} (h : ar_ok o a b) : o = 1 ∨ o = 2 ∨ o = 3 ∨ o = 4 := by
  rcases h with ⟨h | h, _⟩ | ⟨h, _⟩ | ⟨h, _⟩
  · exact Or.inl h
  · exact Or.inr (Or.inl h)
  · exact Or.inr (Or.inr (Or.inl h))
  · exact Or.inr (Or.inr (Or.inr h))
theorem ar_vd_k {o a b : Int32} (h : ar_vd o a b) : ¬ o < 0 ∧ ¬ 5 < o := by
  rcases h with h | h | h
  · rcases ar_ok_k h with h | h | h | h <;> subst h <;> decide
  · subst h; decide
  · subst h; decide
theorem ar_ok_1 {o a b : Int32} (h : ar_ok o a b) (e : o = 1 ∨ o = 2) : ar_blk a ∧ ar_buf b := by
  rcases h with ⟨_, h⟩ | ⟨h, _⟩ | ⟨h, _⟩
  · exact h
  · subst h; exact absurd e (by decide)
  · subst h; exact absurd e (by decide)
theorem ar_ok_3 {o a b : Int32} (h : ar_ok o a b) (e : o = 3) : ar_blk a := by
  rcases h with ⟨h, h2, _⟩ | ⟨_, h⟩ | ⟨h, _⟩
  · exact h2
  · exact h
  · subst h; exact absurd e (by decide)
theorem ar_ok_4 {o a b : Int32} (h : ar_ok o a b) (e : o = 4) : ¬ a < 1 ∧ ¬ 16 < a := by
  rcases h with ⟨h | h, _⟩ | ⟨h, _⟩ | ⟨_, h⟩
  · subst h; exact absurd e (by decide)
  · subst h; exact absurd e (by decide)
  · subst h; exact absurd e (by decide)
  · exact h
theorem ar_blk_in {a : Int32} (h : ar_blk a) : vp_in a 16 := by
  obtain ⟨j, hj, rfl⟩ := nI_of h.1
  exact vp_in_nI ((nI_ltI (b := 16) hj (by decide)).mp h.2) (by decide)
theorem ar_buf_in {a : Int32} (h : ar_buf a) : vp_in a 8 := by
  obtain ⟨j, hj, rfl⟩ := nI_of h.1
  exact vp_in_nI ((nI_ltI (b := 8) hj (by decide)).mp h.2) (by decide)
theorem ax_blk (post : Int32 → Prop) (x : Int32) (h1 : ar_blk x → post 1) (h0 : ¬ ar_blk x → post 0) : wpX_isBlock post x :=
  br_c (fun h => h0 (fun w => w.1 h)) (fun h => br_c (fun h2 => h0 (fun w => ar_ln h2 w.2)) (fun h2 => h1 ⟨h, ar_nl h2⟩))
theorem ax_buf (post : Int32 → Prop) (x : Int32) (h1 : ar_buf x → post 1) (h0 : ¬ ar_buf x → post 0) : wpX_isBuffer post x :=
  br_c (fun h => h0 (fun w => w.1 h)) (fun h => br_c (fun h2 => h0 (fun w => ar_ln h2 w.2)) (fun h2 => h1 ⟨h, ar_nl h2⟩))
section
variable {S C L F n s qF qN c o m : Nat} {K po wp : Int32} {xO xA xB xT yO yA yB yT op A B tg hs hd T R st tk bl bf cT cR oT oR lo la lb lt lk ln lP mk : Nat → Int32} {lq ls : Nat → Int64}
theorem ax_va54 (post : Int32 → Prop) {p : Nat} (hp : p < 32) (h1 : ar_blk (A p) ∧ ar_buf (B p) → post 1) (h0 : ¬ (ar_blk (A p) ∧ ar_buf (B p)) → post 0) : wX_hasValidArguments_54 post (nI p) (A p) (nI S) (nI C) (nI L) (nI qF) (nI qN) (nI F) (nI (c + o)) (nI c) (nI n) xO xA xB xT T R op A B tg st tk hs bl bf := by
  unfold wX_hasValidArguments_54
  refine ax_blk _ _ (fun h => br_f (by decide) ⟨vp_in_nI hp (by omega), ?_⟩) (fun h => br_t rfl (h0 (fun w => h w.1)))
  rw [nI_clamp (by omega)]
  exact ax_buf _ _ (fun h2 => br_f (by decide) (h1 ⟨h, h2⟩)) (fun h2 => br_t rfl (h0 (fun w => h2 w.2)))
theorem ax_va (post : Int32 → Prop) {p : Nat} (hp : p < 32) (h1 : ar_vd (op p) (A p) (B p) → post 1) (h0 : ¬ ar_vd (op p) (A p) (B p) → post 0) : wpX_hasValidArguments post (nI S, nI C, nI L, nI qF, nI qN, nI F, nI (c + o), nI c, nI n, xO, xA, xB, xT, T, R, op, A, B, tg, st, tk, hs, bl, bf) (nI p) := by
  refine And.intro (vp_in_nI hp (by omega)) (nm_r (e' := A p) (by rw [nI_clamp (by omega)]) ⟨vp_in_nI hp (by omega), nm_r (e' := op p) (by rw [nI_clamp (by omega)]) ?_⟩)
  refine br_c (fun h => h0 (fun w => (ar_vd_k w).1 h)) (fun _ => br_c (fun h => h0 (fun w => (ar_vd_k w).2 h)) (fun _ => br_c (fun h => h1 (Or.inr (Or.inl h))) (fun n0 => ?_)))
  refine br_c (fun h => ax_va54 _ hp (fun w => h1 (Or.inl (Or.inl ⟨Or.inl h, w⟩))) (fun w => h0 (fun y => ?_))) (fun n1 => ?_)
  · rcases y with y | y | y
    · exact w (ar_ok_1 y (Or.inl h))
    · exact n0 y
    · rw [h] at y; exact absurd y (by decide)
  refine br_c (fun h => ax_va54 _ hp (fun w => h1 (Or.inl (Or.inl ⟨Or.inr h, w⟩))) (fun w => h0 (fun y => ?_))) (fun n2 => ?_)
  · rcases y with y | y | y
    · exact w (ar_ok_1 y (Or.inr h))
    · exact n0 y
    · rw [h] at y; exact absurd y (by decide)
  refine br_c (fun h => ax_blk _ _ (fun w => ⟨rfl, h1 (Or.inl (Or.inr (Or.inl ⟨h, w⟩)))⟩) (fun w => ⟨rfl, h0 (fun y => ?_)⟩)) (fun n3 => ?_)
  · rcases y with y | y | y
    · exact w (ar_ok_3 y h)
    · exact n0 y
    · rw [h] at y; exact absurd y (by decide)
  refine br_c (fun h => br_c (fun w => h0 (fun y => ?_)) (fun w => br_c (fun z => h0 (fun y => ?_)) (fun z => h1 (Or.inl (Or.inr (Or.inr ⟨h, w, z⟩)))))) (fun n4 => br_c (fun h => h1 (Or.inr (Or.inr h))) (fun _ => trivial))
  · rcases y with y | y | y
    · exact (ar_ok_4 y h).1 w
    · exact n0 y
    · rw [h] at y; exact absurd y (by decide)
  · rcases y with y | y | y
    · exact (ar_ok_4 y h).2 z
    · exact n0 y
    · rw [h] at y; exact absurd y (by decide)
theorem ax_tw (post : Int32 → Prop) {p : Nat} (hp : p < 32) (h0 : ¬ ar_ok (op p) (A p) (B p) → post 0) (h1 : ar_ok (op p) (A p) (B p) → ¬ op p = 4 → post (nI L)) (h4 : ar_ok (op p) (A p) (B p) → op p = 4 → post (A p)) : wpX_ticksToWait post (nI S, nI C, nI L, nI qF, nI qN, nI F, nI (c + o), nI c, nI n, xO, xA, xB, xT, T, R, op, A, B, tg, st, tk, hs, bl, bf) (nI p) := by
  unfold wpX_ticksToWait
  refine ax_va _ hp (fun hv => br_f (by decide) ⟨vp_in_nI hp (by omega), nm_r (e' := op p) (by rw [nI_clamp (by omega)]) ?_⟩) (fun hv => br_t rfl (h0 (fun w => hv (Or.inl w))))
  have hk : ¬ op p = 0 → ¬ op p = 5 → ar_ok (op p) (A p) (B p) := fun a b => by
    rcases hv with h | h | h
    · exact h
    · exact absurd h a
    · exact absurd h b
  refine br_c (fun h => h0 (fun w => ?_)) (fun g1 => br_c (fun h => h0 (fun w => ?_)) (fun g4 => ?_))
  · rcases ar_ok_k w with y | y | y | y <;> rw [y] at h <;> exact absurd h (by decide)
  · rcases ar_ok_k w with y | y | y | y <;> rw [y] at h <;> exact absurd h (by decide)
  · have n0 : ¬ op p = 0 := fun y => by rw [y] at g1; exact absurd g1 (by decide)
    have n5 : ¬ op p = 5 := fun y => by rw [y] at g4; exact absurd g4 (by decide)
    refine br_c (fun h => h1 (hk n0 n5) (by rw [h]; decide)) (fun _ => br_c (fun h => h1 (hk n0 n5) (by rw [h]; decide)) (fun _ => br_c (fun h => h1 (hk n0 n5) (by rw [h]; decide)) (fun _ => br_c (fun h => ⟨vp_in_nI hp (by omega), ?_⟩) (fun _ => trivial))))
    rw [nI_clamp (by omega)]
    exact h4 (hk n0 n5) h
theorem ax_exec (post : Int32 → SX → Prop) {p : Nat} (hp : p < 32) (hi : ¬ ar_vd (op p) (A p) (B p) → post (-22) (nI S, nI C, nI L, nI qF, nI qN, nI F, nI (c + o), nI c, nI n, xO, xA, xB, xT, T, R, op, A, B, tg, st, tk, hs, bl, bf)) (h0 : op p = 0 → post 0 (nI S, nI C, nI L, nI qF, nI qN, nI F, nI (c + o), nI c, nI n, xO, xA, xB, xT, T, R, op, A, B, tg, st, tk, hs, bl, bf))
    (h1 : op p = 1 → ar_ok (op p) (A p) (B p) → post 0 (nI S, nI C, nI L, nI qF, nI qN, nI F, nI (c + o), nI c, nI n, xO, xA, xB, xT, T, R, op, A, B, tg, st, tk, hs, bl, upd bf (B p).toNatClampNeg (bl (A p).toNatClampNeg)))
    (h2 : op p = 2 → ar_ok (op p) (A p) (B p) → post 0 (nI S, nI C, nI L, nI qF, nI qN, nI F, nI (c + o), nI c, nI n, xO, xA, xB, xT, T, R, op, A, B, tg, st, tk, hs, upd bl (A p).toNatClampNeg (bf (B p).toNatClampNeg), bf))
    (h3 : op p = 3 → ar_ok (op p) (A p) (B p) → (bl (A p).toNatClampNeg = B p → post 0 (nI S, nI C, nI L, nI qF, nI qN, nI F, nI (c + o), nI c, nI n, xO, xA, xB, xT, T, R, op, A, B, tg, st, tk, hs, bl, bf)) ∧ (¬ bl (A p).toNatClampNeg = B p → post (-74) (nI S, nI C, nI L, nI qF, nI qN, nI F, nI (c + o), nI c, nI n, xO, xA, xB, xT, T, R, op, A, B, tg, st, tk, hs, bl, bf)))
    (h4 : op p = 4 → ar_ok (op p) (A p) (B p) → post 0 (nI S, nI C, nI L, nI qF, nI qN, nI F, nI (c + o), nI c, nI n, xO, xA, xB, xT, T, R, op, A, B, tg, st, tk, hs, bl, bf))
    (h5 : op p = 5 → ∃ r u', (∀ P : Int32 → SX → Prop, P r u' → wpX_cancelPending P (nI S, nI C, nI L, nI qF, nI qN, nI F, nI (c + o), nI c, nI n, xO, xA, xB, xT, T, R, op, A, B, tg, st, tk, hs, bl, bf) (A p)) ∧ post r u') : wpX_execute post (nI S, nI C, nI L, nI qF, nI qN, nI F, nI (c + o), nI c, nI n, xO, xA, xB, xT, T, R, op, A, B, tg, st, tk, hs, bl, bf) (nI p) := by
  unfold wpX_execute
  refine ax_va _ hp (fun hv => br_f (by decide) ⟨vp_in_nI hp (by omega), nm_r (e' := A p) (by rw [nI_clamp (by omega)]) ⟨vp_in_nI hp (by omega), nm_r (e' := B p) (by rw [nI_clamp (by omega)]) ⟨vp_in_nI hp (by omega), nm_r (e' := op p) (by rw [nI_clamp (by omega)]) ?_⟩⟩⟩) (fun hv => br_t rfl (hi hv))
  have hk : ¬ op p = 0 → ¬ op p = 5 → ar_ok (op p) (A p) (B p) := fun a b => by
    rcases hv with h | h | h
    · exact h
    · exact absurd h a
    · exact absurd h b
  have h6 : ¬ op p < 0 ∧ ¬ 5 < op p := ar_vd_k hv
  refine br_c (fun h => h0 ?_) (fun g1 => br_f h6.2 ?_)
  · rcases hv with w | w | w
    · rcases ar_ok_k w with y | y | y | y <;> rw [y] at h <;> exact absurd h (by decide)
    · exact w
    · rw [w] at h; exact absurd h (by decide)
  · have n0 : ¬ op p = 0 := fun y => by rw [y] at g1; exact absurd g1 (by decide)
    refine br_c (fun h => ?_) (fun n1 => br_c (fun h => ?_) (fun n2 => br_c (fun h => ?_) (fun n3 => br_c (fun h => ?_) (fun n4 => br_c (fun h => ?_) (fun _ => trivial)))))
    · have hk' := hk n0 (by rw [h]; decide)
      have hb := ar_ok_1 hk' (Or.inl h)
      exact ⟨ar_blk_in hb.1, ar_buf_in hb.2, nm_e (h1 h hk')⟩
    · have hk' := hk n0 (by rw [h]; decide)
      have hb := ar_ok_1 hk' (Or.inr h)
      exact ⟨ar_buf_in hb.2, ar_blk_in hb.1, nm_e (h2 h hk')⟩
    · have hk' := hk n0 (by rw [h]; decide)
      have hb := ar_ok_3 hk' h
      exact ⟨ar_blk_in hb, h3 h hk'⟩
    · exact h4 h (hk n0 (by rw [h]; decide))
    · obtain ⟨r, ⟨w0, w1, w2, w3, w4, w5, w6, w7, w8, w9, w10, w11, w12, w13, w14, w15, w16, w17, w18, w19, w20, w21, w22, w23⟩, hP, hpost⟩ := h5 h
      exact hP _ hpost
theorem ay_56 (post : Int32 → SY → Prop) {k a b x z : Int32}
    (h1 : k = 1 → ¬ x = 0 ∧ ¬ z = 0 ∧ vp_in a 16 ∧ vp_in b 8 ∧ post 0 (nI S, nI C, nI L, nI qN, nI c, nI o, nI m, lN s, po, wp, yO, yA, yB, yT, cT, cR, oT, oR, lo, la, lb, lt, lk, ln, lP, mk, lq, ls, hd, bl, upd bf b.toNatClampNeg (bl a.toNatClampNeg)))
    (h2 : k = 2 → ¬ x = 0 ∧ ¬ z = 0 ∧ vp_in a 16 ∧ vp_in b 8 ∧ post 0 (nI S, nI C, nI L, nI qN, nI c, nI o, nI m, lN s, po, wp, yO, yA, yB, yT, cT, cR, oT, oR, lo, la, lb, lt, lk, ln, lP, mk, lq, ls, hd, upd bl a.toNatClampNeg (bf b.toNatClampNeg), bf))
    (h3 : k = 3 → ¬ x = 0 ∧ vp_in a 16 ∧ (bl a.toNatClampNeg = b → post 0 (nI S, nI C, nI L, nI qN, nI c, nI o, nI m, lN s, po, wp, yO, yA, yB, yT, cT, cR, oT, oR, lo, la, lb, lt, lk, ln, lP, mk, lq, ls, hd, bl, bf)) ∧ (¬ bl a.toNatClampNeg = b → post (-74) (nI S, nI C, nI L, nI qN, nI c, nI o, nI m, lN s, po, wp, yO, yA, yB, yT, cT, cR, oT, oR, lo, la, lb, lt, lk, ln, lP, mk, lq, ls, hd, bl, bf)))
    (h4 : k = 4 → post 0 (nI S, nI C, nI L, nI qN, nI c, nI o, nI m, lN s, po, wp, yO, yA, yB, yT, cT, cR, oT, oR, lo, la, lb, lt, lk, ln, lP, mk, lq, ls, hd, bl, bf)) (hk : k = 1 ∨ k = 2 ∨ k = 3 ∨ k = 4) : wY_execDevice_56 post k a b x z (nI S) (nI C) (nI L) (nI qN) (nI c) (nI o) (nI m) (lN s) po wp yO yA yB yT cT cR oT oR lo la lb lt lk ln lP mk lq ls hd bl bf := by
  rcases hk with rfl | rfl | rfl | rfl
  · obtain ⟨a1, a2, a3, a4, a5⟩ := h1 rfl
    exact br_t rfl (br_f a1 (br_f a2 ⟨a3, a4, nm_e (br_f (by decide) (br_f (by decide) a5))⟩))
  · obtain ⟨a1, a2, a3, a4, a5⟩ := h2 rfl
    exact br_f (by decide) (br_t rfl (br_f a1 (br_f a2 ⟨a4, a3, nm_e (br_f (by decide) a5)⟩)))
  · obtain ⟨a1, a3, a4⟩ := h3 rfl
    exact br_f (by decide) (br_f (by decide) (br_t rfl (br_f a1 ⟨a3, a4⟩)))
  · exact br_f (by decide) (br_f (by decide) (br_f (by decide) (h4 rfl)))
theorem ay_dev (post : Int32 → SY → Prop) {i : Nat} (hi : i < 32) (hk : ar_ok (lo i) (la i) (lb i))
    (h1 : lo i = 1 → post 0 (nI S, nI C, nI L, nI qN, nI c, nI o, nI m, lN s, po, wp, yO, yA, yB, yT, cT, cR, oT, oR, lo, la, lb, lt, lk, ln, lP, mk, lq, ls, hd, bl, upd bf (lb i).toNatClampNeg (bl (la i).toNatClampNeg)))
    (h2 : lo i = 2 → post 0 (nI S, nI C, nI L, nI qN, nI c, nI o, nI m, lN s, po, wp, yO, yA, yB, yT, cT, cR, oT, oR, lo, la, lb, lt, lk, ln, lP, mk, lq, ls, hd, upd bl (la i).toNatClampNeg (bf (lb i).toNatClampNeg), bf))
    (h3 : lo i = 3 → (bl (la i).toNatClampNeg = lb i → post 0 (nI S, nI C, nI L, nI qN, nI c, nI o, nI m, lN s, po, wp, yO, yA, yB, yT, cT, cR, oT, oR, lo, la, lb, lt, lk, ln, lP, mk, lq, ls, hd, bl, bf)) ∧ (¬ bl (la i).toNatClampNeg = lb i → post (-74) (nI S, nI C, nI L, nI qN, nI c, nI o, nI m, lN s, po, wp, yO, yA, yB, yT, cT, cR, oT, oR, lo, la, lb, lt, lk, ln, lP, mk, lq, ls, hd, bl, bf)))
    (h4 : lo i = 4 → post 0 (nI S, nI C, nI L, nI qN, nI c, nI o, nI m, lN s, po, wp, yO, yA, yB, yT, cT, cR, oT, oR, lo, la, lb, lt, lk, ln, lP, mk, lq, ls, hd, bl, bf)) : wpY_execDevice post (nI S, nI C, nI L, nI qN, nI c, nI o, nI m, lN s, po, wp, yO, yA, yB, yT, cT, cR, oT, oR, lo, la, lb, lt, lk, ln, lP, mk, lq, ls, hd, bl, bf) (nI i) := by
  refine And.intro (vp_in_nI hi (by omega)) (nm_r (e' := lo i) (by rw [nI_clamp (by omega)]) ⟨vp_in_nI hi (by omega), nm_r (e' := la i) (by rw [nI_clamp (by omega)]) ⟨vp_in_nI hi (by omega), nm_r (e' := lb i) (by rw [nI_clamp (by omega)]) ?_⟩⟩)
  have hko := ar_ok_k hk
  by_cases e12 : lo i = 1 ∨ lo i = 2
  · obtain ⟨hb, hc⟩ := ar_ok_1 hk e12
    refine br_f hb.1 (br_f (fun w => ar_ln w hb.2) (br_f hc.1 (br_f (fun w => ar_ln w hc.2) ?_)))
    refine ay_56 post (fun h => ⟨by decide, by decide, ar_blk_in hb, ar_buf_in hc, h1 h⟩) (fun h => ⟨by decide, by decide, ar_blk_in hb, ar_buf_in hc, h2 h⟩) (fun h => ?_) (fun h => ?_) hko
    · rcases e12 with y | y <;> rw [y] at h <;> exact absurd h (by decide)
    · rcases e12 with y | y <;> rw [y] at h <;> exact absurd h (by decide)
  · by_cases e3 : lo i = 3
    · have hb := ar_ok_3 hk e3
      have key : ∀ z : Int32, wY_execDevice_56 post (lo i) (la i) (lb i) 1 z (nI S) (nI C) (nI L) (nI qN) (nI c) (nI o) (nI m) (lN s) po wp yO yA yB yT cT cR oT oR lo la lb lt lk ln lP mk lq ls hd bl bf := fun z =>
        ay_56 post (fun h => absurd (Or.inl h) e12) (fun h => absurd (Or.inr h) e12) (fun h => ⟨by decide, ar_blk_in hb, h3 h⟩) h4 hko
      exact br_f hb.1 (br_f (fun w => ar_ln w hb.2) (br_c (fun _ => key 0) (fun _ => br_c (fun _ => key 0) (fun _ => key 1))))
    · have key : ∀ x z : Int32, wY_execDevice_56 post (lo i) (la i) (lb i) x z (nI S) (nI C) (nI L) (nI qN) (nI c) (nI o) (nI m) (lN s) po wp yO yA yB yT cT cR oT oR lo la lb lt lk ln lP mk lq ls hd bl bf := fun x z =>
        ay_56 post (fun h => absurd (Or.inl h) e12) (fun h => absurd (Or.inr h) e12) (fun h => absurd h e3) h4 hko
      have key2 : ∀ x : Int32, wY_execDevice_37 post (lo i) (la i) (lb i) x (nI S) (nI C) (nI L) (nI qN) (nI c) (nI o) (nI m) (lN s) po wp yO yA yB yT cT cR oT oR lo la lb lt lk ln lP mk lq ls hd bl bf := fun x =>
        br_c (fun _ => key x 0) (fun _ => br_c (fun _ => key x 0) (fun _ => key x 1))
      exact br_c (fun _ => key2 0) (fun _ => br_c (fun _ => key2 0) (fun _ => key2 1))
end
