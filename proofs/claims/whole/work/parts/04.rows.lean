theorem ar_uc (a : Nat → Int32) {p : Nat} (x : Int32) (hp : p < 2 ^ 31) : upd a (nI p).toNatClampNeg x = upd a p x := by rw [nI_clamp hp]
theorem ar_ur (a b : Nat → Int32) {p r : Nat} (hp : p < 2 ^ 31) (hr : r < 2 ^ 31) : upd a (nI p).toNatClampNeg (b (nI r).toNatClampNeg) = upd a p (b r) := by rw [nI_clamp hp, nI_clamp hr]
theorem ar_ub (a : Nat → Int32) {p : Nat} (x : Int32) (hp : p < 2 ^ 31) (hx : x = 0 ∨ x = 1) : upd a (nI p).toNatClampNeg (vp_nar .boolean x) = upd a p x := by
  rw [nI_clamp hp]
  rcases hx with h | h <;> rw [h] <;> rfl
theorem ar_urb (a b : Nat → Int32) {p r : Nat} (hp : p < 2 ^ 31) (hr : r < 2 ^ 31) (hb : ar_B b) : upd a (nI p).toNatClampNeg (vp_nar .boolean (b (nI r).toNatClampNeg)) = upd a p (b r) := by rw [nI_clamp hp, nI_clamp hr, ar_B_nar hb]
theorem ar_uL (a : Nat → Int64) {p : Nat} (x : Int64) (hp : p < 2 ^ 31) : vp_updL a (nI p).toNatClampNeg x = vp_updL a p x := by rw [nI_clamp hp]
theorem ar_st1 (a : Nat → Int32) {i j : Nat} (h : i ≤ j) (hj : j < 2 ^ 30) : upd (ar_sh a i (j + 1)) (nI j).toNatClampNeg (ar_sh a i (j + 1) (nI j + 1).toNatClampNeg) = ar_sh a i (j + 1 + 1) := by
  rw [nI_1, nI_clamp (by omega), nI_clamp (by omega)]; exact ar_shS a h
theorem ar_stb (a : Nat → Int32) {i j : Nat} (h : i ≤ j) (hj : j < 2 ^ 30) (hb : ar_B a) : upd (ar_sh a i (j + 1)) (nI j).toNatClampNeg (vp_nar .boolean (ar_sh a i (j + 1) (nI j + 1).toNatClampNeg)) = ar_sh a i (j + 1 + 1) := by
  rw [ar_B_nar (ar_Bs hb _ _)]; exact ar_st1 a h hj
theorem ar_stL (a : Nat → Int64) {i j : Nat} (h : i ≤ j) (hj : j < 2 ^ 30) : vp_updL (ar_sh a i (j + 1)) (nI j).toNatClampNeg (ar_sh a i (j + 1) (nI j + 1).toNatClampNeg) = ar_sh a i (j + 1 + 1) := by
  rw [nI_1, nI_clamp (by omega), nI_clamp (by omega)]; exact ar_shL a h
theorem ar_r48 (a b : Nat) (h : a + b < 2 ^ 31) : nI a + nI b - (nI a + nI b) / 48 * 48 = nI ((a + b) % 48) := by
  rw [nI_add]; exact pk_rem (d := 48) h (by decide) (by decide)
theorem ar_r16 (a b : Nat) (h : a + b < 2 ^ 31) : nI a + nI b - (nI a + nI b) / 16 * 16 = nI ((a + b) % 16) := by
  rw [nI_add]; exact pk_rem (d := 16) h (by decide) (by decide)
theorem ar_n1 {a b : Nat} (h : b = a + 1) : nI a + 1 = nI b := by rw [h, nI_1]
theorem ar_l0 {a : Nat} (h : a < 2 ^ 31) : (0 : Int64) ≤ lN a := (lN_le (a := 0) (b := a) (by omega) h).mpr (Nat.zero_le _)
section
variable {S C L F n s qF qN c o m : Nat} {K po wp : Int32} {xO xA xB xT yO yA yB yT op A B tg hs hd T R st tk bl bf cT cR oT oR lo la lb lt lk ln lP mk : Nat → Int32} {lq ls : Nat → Int64}
theorem ay_rm (post : SY → Prop) {i : Nat} (hm : m ≤ 32) (h1 : ar_B ln) (h2 : ar_B lP) (h3 : ar_B mk)
    (hp : post (nI S, nI C, nI L, nI qN, nI c, nI o, nI (m - 1), lN s, po, wp, yO, yA, yB, yT, cT, cR, oT, oR, ar_sh lo i m, ar_sh la i m, ar_sh lb i m, ar_sh lt i m, ar_sh lk i m, ar_sh ln i m, ar_sh lP i m, ar_sh mk i m, ar_sh lq i m, ar_sh ls i m, hd, bl, bf)) : ∀ d j, j + d + 1 = m → i ≤ j → wY_removeAt_15 post (nI S) (nI C) (nI L) (nI qN) (nI c) (nI o) (nI m) (lN s) po wp (d + 1) (nI j) yO yA yB yT cT cR oT oR (ar_sh lo i (j + 1)) (ar_sh la i (j + 1)) (ar_sh lb i (j + 1)) (ar_sh lt i (j + 1)) (ar_sh lk i (j + 1)) (ar_sh ln i (j + 1)) (ar_sh lP i (j + 1)) (ar_sh mk i (j + 1)) (ar_sh lq i (j + 1)) (ar_sh ls i (j + 1)) hd bl bf := by
  intro d
  induction d with
  | zero =>
    intro j hj hi
    have e : m = j + 1 := by omega
    subst e
    refine br_t ?_ (nm_r (nI_pred j) hp)
    rw [nI_pred]; exact nI_le (Nat.le_refl _) (by omega)
  | succ d ih =>
    intro j hj hi
    have a1 : ¬ nI m - 1 ≤ nI j := by
      rw [show m = (j + d + 1) + 1 by omega, nI_pred]; exact nI_ge (by omega) (by omega)
    have a2 : ¬ (31 : Int32) ≤ nI j := nI_ge (b := 31) (by omega) (by decide)
    have i1 : vp_in (nI j + 1) 32 := by rw [nI_1]; exact vp_in_nI (by omega) (by omega)
    have i0 : vp_in (nI j) 32 := vp_in_nI (by omega) (by omega)
    have hj' : j < 2 ^ 30 := by omega
    exact br_f a1 (br_f a2 ⟨i1, i0, nm_r (ar_st1 lo hi hj') ⟨i1, i0, nm_r (ar_st1 la hi hj') ⟨i1, i0, nm_r (ar_st1 lb hi hj') ⟨i1, i0, nm_r (ar_st1 lt hi hj') ⟨i1, i0, nm_r (ar_st1 lk hi hj') ⟨i1, i0, nm_r (ar_stb ln hi hj' h1) ⟨i1, i0, nm_r (ar_stb lP hi hj' h2) ⟨i1, i0, nm_r (ar_stb mk hi hj' h3) ⟨i1, i0, nm_r (ar_stL lq hi hj') ⟨i1, i0, nm_r (ar_stL ls hi hj') (nm_r (nI_1 j) (ih (j + 1) (by omega) (by omega)))⟩⟩⟩⟩⟩⟩⟩⟩⟩⟩)
theorem ay_removeAt (post : SY → Prop) {i : Nat} (hm : m ≤ 32) (hi : i < m) (h1 : ar_B ln) (h2 : ar_B lP) (h3 : ar_B mk)
    (hp : post (nI S, nI C, nI L, nI qN, nI c, nI o, nI (m - 1), lN s, po, wp, yO, yA, yB, yT, cT, cR, oT, oR, ar_sh lo i m, ar_sh la i m, ar_sh lb i m, ar_sh lt i m, ar_sh lk i m, ar_sh ln i m, ar_sh lP i m, ar_sh mk i m, ar_sh lq i m, ar_sh ls i m, hd, bl, bf)) : wpY_removeAt post (nI S, nI C, nI L, nI qN, nI c, nI o, nI m, lN s, po, wp, yO, yA, yB, yT, cT, cR, oT, oR, lo, la, lb, lt, lk, ln, lP, mk, lq, ls, hd, bl, bf) (nI i) := by
  have h := ay_rm post hm h1 h2 h3 hp (m - 1 - i) i (by omega) (Nat.le_refl _)
  simp only [ar_sh0] at h
  exact br_f (nI_pos (by omega)) (br_t (nI_lt hi (by omega)) ⟨_, h⟩)
theorem ay_find (post : Int32 → Prop) {x : Int64} {i : Nat} (hm : m ≤ 32) (hi : i < m) (hx : lq i = x) (hn : ∀ j, j < i → ¬ lq j = x) (hp : post (nI i)) : ∀ d j, j + d = i → wY_findSeq_2 post x (nI S) (nI C) (nI L) (nI qN) (nI c) (nI o) (nI m) (lN s) po wp yO yA yB yT cT cR oT oR lo la lb lt lk ln lP mk lq ls hd bl bf (d + 1) (nI j) := by
  intro d
  induction d with
  | zero =>
    intro j hj
    have e : j = i := by omega
    subst e
    exact br_f (nI_ge hi (by omega)) (br_f (nI_ge (b := 32) (by omega) (by decide)) ⟨vp_in_nI (by omega) (by omega), br_t (by rw [nI_clamp (by omega)]; exact hx) hp⟩)
  | succ d ih =>
    intro j hj
    exact br_f (nI_ge (by omega) (by omega)) (br_f (nI_ge (b := 32) (by omega) (by decide)) ⟨vp_in_nI (by omega) (by omega), br_f (by rw [nI_clamp (by omega)]; exact hn j (by omega)) (nm_r (nI_1 j) (ih (j + 1) (by omega)))⟩)
theorem ay_findSeq (post : Int32 → Prop) {x : Int64} {i : Nat} (hm : m ≤ 32) (hi : i < m) (hx : lq i = x) (hn : ∀ j, j < i → ¬ lq j = x) (hp : post (nI i)) : wpY_findSeq post (nI S, nI C, nI L, nI qN, nI c, nI o, nI m, lN s, po, wp, yO, yA, yB, yT, cT, cR, oT, oR, lo, la, lb, lt, lk, ln, lP, mk, lq, ls, hd, bl, bf) x :=
  ⟨_, ay_find post hm hi hx hn hp i 0 (by omega)⟩
theorem ay_post95 (post : SY → Prop) {x t : Int32} (ho : o < 32)
    (hp : post (nI S, nI C, nI L, nI qN, nI c, nI (o + 1), nI m, lN s, po, wp, yO, yA, yB, yT, cT, cR, upd oT o t, upd oR o x, lo, la, lb, lt, lk, ln, lP, mk, lq, ls, hd, bl, bf)) : wY_post_95 post x t (nI S) (nI C) (nI L) (nI qN) (nI c) (nI o) (nI m) (lN s) po wp yO yA yB yT cT cR oT oR lo la lb lt lk ln lP mk lq ls hd bl bf :=
  br_f (nI_ge (b := 32) ho (by decide)) ⟨vp_in_nI ho (by omega), nm_r (ar_uc oT t (by omega)) ⟨vp_in_nI ho (by omega), nm_r (ar_uc oR x (by omega)) (nm_r (nI_1 o) hp)⟩⟩
theorem ay_post (post : SY → Prop) {i : Nat} {res : Int32} (hm : m ≤ 32) (hi : i < m) (hC : C ≤ 16) (hc : c ≤ C) (ho : o < 32) (h1 : ar_B ln) (h2 : ar_B lP) (h3 : ar_B mk)
    (hA : o = 0 → c < C → post (nI S, nI C, nI L, nI qN, nI (c + 1), nI o, nI (m - 1), lN s, po + 1, wp, yO, yA, yB, yT, upd cT c (lt i), upd cR c res, oT, oR, ar_sh lo i m, ar_sh la i m, ar_sh lb i m, ar_sh lt i m, ar_sh lk i m, ar_sh ln i m, ar_sh lP i m, ar_sh mk i m, ar_sh lq i m, ar_sh ls i m, hd, bl, bf))
    (hB : ¬ (o = 0 ∧ c < C) → post (nI S, nI C, nI L, nI qN, nI c, nI (o + 1), nI (m - 1), lN s, po + 1, wp, yO, yA, yB, yT, cT, cR, upd oT o (lt i), upd oR o res, ar_sh lo i m, ar_sh la i m, ar_sh lb i m, ar_sh lt i m, ar_sh lk i m, ar_sh ln i m, ar_sh lP i m, ar_sh mk i m, ar_sh lq i m, ar_sh ls i m, hd, bl, bf)) : wpY_post post (nI S, nI C, nI L, nI qN, nI c, nI o, nI m, lN s, po, wp, yO, yA, yB, yT, cT, cR, oT, oR, lo, la, lb, lt, lk, ln, lP, mk, lq, ls, hd, bl, bf) (nI i) res := by
  refine br_f (nI_pos (by omega)) (br_t (nI_lt hi (by omega)) ⟨vp_in_nI (by omega) (by omega), nm_r (e' := lt i) (by rw [nI_clamp (by omega)]) (ay_removeAt _ hm hi h1 h2 h3 (nm_e ?_))⟩)
  by_cases z : o = 0
  · refine br_t (by rw [z]; rfl) ?_
    by_cases y : c < C
    · refine br_f (nI_ge y (by omega)) (br_f (nI_ge (b := 16) (by omega) (by decide)) ⟨vp_in_nI (by omega) (by omega), nm_r (ar_uc cT _ (by omega)) ⟨vp_in_nI (by omega) (by omega), nm_r (ar_uc cR _ (by omega)) (nm_r (nI_1 c) (hA z y))⟩⟩)
    · exact br_t (nI_le (by omega) (by omega)) (ay_post95 _ ho (hB (fun w => y w.2)))
  · exact br_f (nI_ne0 (by omega) (by omega)) (ay_post95 _ ho (hB (fun w => z w.1)))
theorem ax_post (post : SX → Prop) {p : Nat} {res : Int32} (hp : p < 32) (hC : C ≤ 16) (hF : F < 48) (hD : c + o < 48)
    (hA : o = 0 → c < C → post (nI S, nI C, nI L, nI qF, nI qN, nI F, nI (c + 1 + o), nI (c + 1), nI n, xO, xA, xB, xT, upd T ((F + (c + o)) % 48) (tg p), upd R ((F + (c + o)) % 48) res, op, A, B, tg, upd st p 2, tk, hs, bl, bf))
    (hB : ¬ (o = 0 ∧ c < C) → post (nI S, nI C, nI L, nI qF, nI qN, nI F, nI (c + (o + 1)), nI c, nI n, xO, xA, xB, xT, upd T ((F + (c + o)) % 48) (tg p), upd R ((F + (c + o)) % 48) res, op, A, B, tg, upd st p 2, tk, hs, bl, bf)) : wpX_post post (nI S, nI C, nI L, nI qF, nI qN, nI F, nI (c + o), nI c, nI n, xO, xA, xB, xT, T, R, op, A, B, tg, st, tk, hs, bl, bf) (nI p) res := by
  have hs : (F + (c + o)) % 48 < 48 := Nat.mod_lt _ (by omega)
  refine And.intro (vp_in_nI hp (by omega)) (nm_r (ar_uc st 2 (by omega)) ⟨by decide, nm_r (ar_r48 F (c + o) (by omega)) ⟨vp_in_nI hp (by omega), vp_in_nI hs (by omega), nm_r (ar_ur T tg (by omega) (by omega)) ⟨vp_in_nI hs (by omega), nm_r (ar_uc R res (by omega)) ?_⟩⟩⟩)
  by_cases z : o = 0
  · refine br_t (by rw [z]; rfl) ?_
    by_cases y : c < C
    · exact br_f (nI_ge y (by omega)) (nm_r (nI_1 c) (nm_r (ar_n1 (by omega)) (hA z y)))
    · exact br_t (nI_le (by omega) (by omega)) (nm_r (ar_n1 (by omega)) (hB (fun w => y w.2)))
  · exact br_f (by rw [nI_eq (by omega) (by omega)]; omega) (nm_r (ar_n1 (by omega)) (hB (fun w => z w.1)))
end
