def ar_I (S C L F n s qF qN k : Nat) (xO xA xB xT yO yA yB yT hs : Nat → Int32) : Prop :=
  ar_N C L F n s ∧ ar_W qF qN xO yO ∧ ar_W qF qN xA yA ∧ ar_W qF qN xB yB ∧ ar_W qF qN xT yT ∧ S ≤ 16 ∧ qN ≤ S ∧ qF < 16 ∧ s ≤ 4 * k ∧ ar_B hs
def i_Rel (k : Nat) (u : SX) (v : SY) : Prop :=
  ∃ (S C L F n s qF qN : Nat) (K : Int32) (q : Nat → Nat) (xO xA xB xT yO yA yB yT op A B tg hs hd st tk mk : Nat → Int32) (wp : Int32),
    ar_G S C L F n s qF qN K q xO xA xB xT yO yA yB yT op A B tg hs hd st tk n (fun j => j) mk wp u v ∧ ar_I S C L F n s qF qN k xO xA xB xT yO yA yB yT hs
theorem ar_I_up {S C L F n s qF qN k : Nat} {xO xA xB xT yO yA yB yT hs : Nat → Int32} (h : ar_I S C L F n s qF qN k xO xA xB xT yO yA yB yT hs) : ar_I S C L F n s qF qN (k + 5) xO xA xB xT yO yA yB yT hs := by
  obtain ⟨h1, h2, h3, h4, h5, h6, h7, h8, h9, h10⟩ := h
  exact ⟨h1, h2, h3, h4, h5, h6, h7, h8, by omega, h10⟩
theorem i_up {k : Nat} {u : SX} {v : SY} (h : i_Rel k u v) : i_Rel (k + 5) u v := by
  obtain ⟨S, C, L, F, n, s, qF, qN, K, q, xO, xA, xB, xT, yO, yA, yB, yT, op, A, B, tg, hs, hd, st, tk, mk, wp, hG, hI⟩ := h
  exact ⟨S, C, L, F, n, s, qF, qN, K, q, xO, xA, xB, xT, yO, yA, yB, yT, op, A, B, tg, hs, hd, st, tk, mk, wp, hG, ar_I_up hI⟩
theorem ar_clampE (x : Int32) {a b : Nat} (hab : a ≤ b) (hb : b < 2 ^ 31) : ∃ j, a ≤ j ∧ j ≤ b ∧ ∀ P : Int32 → Prop, P (nI j) → wpX_clamp P x (nI a) (nI b) := by
  by_cases g1 : nI a ≤ x
  · by_cases g2 : x ≤ nI b
    · have hx : ¬ x < 0 := fun w => nI_pos (n := a) (by omega) (Int32.lt_of_le_of_lt g1 w)
      obtain ⟨j, hj, rfl⟩ := nI_of hx
      exact ⟨j, (nI_leI (by omega) hj).mp g1, (nI_leI hj hb).mp g2, fun P hP => br_t g1 (br_t g2 hP)⟩
    · exact ⟨b, hab, Nat.le_refl _, fun P hP => br_t g1 (br_f g2 hP)⟩
  · exact ⟨a, Nat.le_refl _, hab, fun P hP => br_f g1 hP⟩
theorem ar_M_0 {op A B tg st tk hs : Nat → Int32} {lq ls : Nat → Int64} {lo la lb lt lk lP : Nat → Int32} : ar_M 0 0 0 (fun j => j) (fun j => j) op A B tg st tk hs lo la lb lt lk lP lq ls := by
  have z : ∀ {P : Prop} (j : Nat), j < 0 → P := fun j h => absurd h (by omega)
  exact ⟨⟨fun i j _ h => z j h, fun j h => z j h, fun j h => z j h⟩, fun j h => z j h, fun j h => z j h, fun j h => z j h, fun j h => z j h, fun j h => z j h, fun j h => z j h, fun j h => z j h, fun j h => z j h, fun j h => z j h, ⟨fun i j _ h => z j h, fun j h => z j h, fun j h => z j h⟩, fun j h => z j h⟩
theorem ar_Rel0 {S C L : Nat} (h1 : S ≤ 16) (h2 : C ≤ 16) (h3 : L ≤ 4) : i_Rel 3 (nI S, nI C, nI L, 0, 0, 0, 0, 0, 0, (fun _ => 0), (fun _ => 0), (fun _ => 0), (fun _ => 0), (fun _ => 0), (fun _ => 0), (fun _ => 0), (fun _ => 0), (fun _ => 0), (fun _ => 0), (fun _ => 0), (fun _ => 0), (fun _ => 0), (fun _ => 0), (fun _ => 0)) (nI S, nI C, nI L, 0, 0, 0, 0, 0, 0, 0, (fun _ => 0), (fun _ => 0), (fun _ => 0), (fun _ => 0), (fun _ => 0), (fun _ => 0), (fun _ => 0), (fun _ => 0), (fun _ => 0), (fun _ => 0), (fun _ => 0), (fun _ => 0), (fun _ => 0), (fun _ => 0), (fun _ => 0), (fun _ => 0), (fun _ => 0), (fun _ => 0), (fun _ => 0), (fun _ => 0), (fun _ => 0)) :=
  ⟨S, C, L, 0, 0, 0, 0, 0, 0, (fun j => j), (fun _ => 0), (fun _ => 0), (fun _ => 0), (fun _ => 0), (fun _ => 0), (fun _ => 0), (fun _ => 0), (fun _ => 0), (fun _ => 0), (fun _ => 0), (fun _ => 0), (fun _ => 0), (fun _ => 0), (fun _ => 0), (fun _ => 0), (fun _ => 0), (fun _ => 0), 0,
    ⟨0, 0, (fun _ => 0), (fun _ => 0), (fun _ => 0), (fun _ => 0), (fun _ => 0), (fun _ => 0), (fun _ => 0), (fun _ => 0), (fun _ => 0), (fun _ => 0), (fun _ => 0), (fun _ => 0), (fun _ => 0), (fun _ => 0), (fun _ => 0), (fun _ => 0), (fun _ => 0), 0, rfl, rfl, ar_M_0, ⟨fun j h => absurd h (by omega), fun j h => absurd h (by omega)⟩, ⟨fun j h => absurd h (by omega), fun j h => absurd h (by omega)⟩, by omega, by omega, rfl, ar_B0, ar_B0, ar_B0⟩,
    ⟨h2, by omega, by omega, by omega, h3⟩, fun j h => absurd h (by omega), fun j h => absurd h (by omega), fun j h => absurd h (by omega), fun j h => absurd h (by omega), h1, by omega, by omega, by omega, ar_B0⟩
theorem i_vc0 (k0 : Int32) (k1 : Int32) (k2 : Int32) : wpX_init (fun u => wpY_init (fun v => i_Rel 3 u v) k0 k1 k2) k0 k1 k2 := by
  obtain ⟨S, _, hS2, hS⟩ := ar_clampE k0 (a := 2) (b := 16) (by decide) (by decide)
  obtain ⟨C, _, hC2, hC⟩ := ar_clampE k1 (a := 2) (b := 16) (by decide) (by decide)
  obtain ⟨L, _, hL2, hL⟩ := ar_clampE k2 (a := 0) (b := 4) (by decide) (by decide)
  have hY : ∀ post : SY → Prop, post (nI S, nI C, nI L, 0, 0, 0, 0, 0, 0, 0, (fun _ => 0), (fun _ => 0), (fun _ => 0), (fun _ => 0), (fun _ => 0), (fun _ => 0), (fun _ => 0), (fun _ => 0), (fun _ => 0), (fun _ => 0), (fun _ => 0), (fun _ => 0), (fun _ => 0), (fun _ => 0), (fun _ => 0), (fun _ => 0), (fun _ => 0), (fun _ => 0), (fun _ => 0), (fun _ => 0), (fun _ => 0)) → wpY_init post k0 k1 k2 := fun post hp =>
    hS (fun y => wY_init_194 post k1 k2 y 0 0 0 0 0 0 0 0 0 0 (fun _ => 0) (fun _ => 0) (fun _ => 0) (fun _ => 0) (fun _ => 0) (fun _ => 0) (fun _ => 0) (fun _ => 0) (fun _ => 0) (fun _ => 0) (fun _ => 0) (fun _ => 0) (fun _ => 0) (fun _ => 0) (fun _ => 0) (fun _ => 0) (fun _ => 0) (fun _ => 0) (fun _ => 0) (fun _ => 0) (fun _ => 0)) (hC (fun y => wY_init_219 post k2 y (nI S) 0 0 0 0 0 0 0 0 0 (fun _ => 0) (fun _ => 0) (fun _ => 0) (fun _ => 0) (fun _ => 0) (fun _ => 0) (fun _ => 0) (fun _ => 0) (fun _ => 0) (fun _ => 0) (fun _ => 0) (fun _ => 0) (fun _ => 0) (fun _ => 0) (fun _ => 0) (fun _ => 0) (fun _ => 0) (fun _ => 0) (fun _ => 0) (fun _ => 0) (fun _ => 0)) (hL (fun y => post (nI S, nI C, y, 0, 0, 0, 0, 0, 0, 0, (fun _ => 0), (fun _ => 0), (fun _ => 0), (fun _ => 0), (fun _ => 0), (fun _ => 0), (fun _ => 0), (fun _ => 0), (fun _ => 0), (fun _ => 0), (fun _ => 0), (fun _ => 0), (fun _ => 0), (fun _ => 0), (fun _ => 0), (fun _ => 0), (fun _ => 0), (fun _ => 0), (fun _ => 0), (fun _ => 0), (fun _ => 0))) hp))
  unfold wpX_init
  exact hS _ (hC _ (hL _ (hY _ (ar_Rel0 hS2 hC2 hL2))))
theorem ar_m48 {a : Nat} (h : a < 2 ^ 30) : nI a + 1 - (nI a + 1) / 48 * 48 = nI ((a + 1) % 48) := by
  rw [nI_1]; exact pk_rem (d := 48) (by omega) (by decide) (by decide)
theorem i_vc_prep {k : Nat} {u : SX} {v : SY} (I : i_Rel k u v) (hk : k + 5 ≤ 2563) (v1 : Int32) (v2 : Int32) (v3 : Int32) (v4 : Int32) : wpX_prep (fun r u' => wpY_prep (fun r' v' => r' = r ∧ i_Rel (k + 5) u' v') v v1 v2 v3 v4) u v1 v2 v3 v4 := by
  obtain ⟨S, C, L, F, n, s, qF, qN, K, q, xO, xA, xB, xT, yO, yA, yB, yT, op, A, B, tg, hs, hd, st, tk, mk, wp, hG, hI⟩ := I
  obtain ⟨hN, hw1, hw2, hw3, hw4, hS, hqS, hqF, hsk, hbh⟩ := hI
  obtain ⟨c, o, T, R, cT, cR, oT, oR, lo, la, lb, lt, lk, ln, lP, lq, ls, bl, bf, po, rfl, rfl, hM, hZ1, hZ2, hc, hmo, hK, hb1, hb2, hb3⟩ := hG
  by_cases h : qN < S
  · have i0 : vp_in (nI ((qF + qN) % 16)) 16 := vp_in_nI (Nat.mod_lt _ (by omega)) (by omega)
    have i1 : vp_in (nI qN) 16 := vp_in_nI (by omega) (by omega)
    have hm : (qF + qN) % 16 < 2 ^ 31 := by omega
    refine br_t (nI_lt h (by omega)) ⟨by decide, nm_r (ar_r16 qF qN (by omega)) ⟨i0, nm_r (ar_uc xO v1 hm) ⟨i0, nm_r (ar_uc xA v2 hm) ⟨i0, nm_r (ar_uc xB v3 hm) ⟨i0, nm_r (ar_uc xT v4 hm) (nm_r (nI_1 qN) ?_)⟩⟩⟩⟩⟩
    refine br_f (nI_ge h (by omega)) (br_t (nI_lt (b := 16) (by omega) (by decide)) ⟨i1, nm_r (ar_uc yO v1 (by omega)) ⟨i1, nm_r (ar_uc yA v2 (by omega)) ⟨i1, nm_r (ar_uc yB v3 (by omega)) ⟨i1, nm_r (ar_uc yT v4 (by omega)) (nm_r (nI_1 qN) ?_)⟩⟩⟩⟩)
    exact ⟨rfl, S, C, L, F, n, s, qF, qN + 1, K, q, _, _, _, _, _, _, _, _, op, A, B, tg, hs, hd, st, tk, mk, wp, ⟨c, o, T, R, cT, cR, oT, oR, lo, la, lb, lt, lk, ln, lP, lq, ls, bl, bf, po, rfl, rfl, hM, hZ1, hZ2, hc, hmo, hK, hb1, hb2, hb3⟩, hN, ar_W_put hw1 (by omega) v1, ar_W_put hw2 (by omega) v2, ar_W_put hw3 (by omega) v3, ar_W_put hw4 (by omega) v4, hS, by omega, hqF, by omega, hbh⟩
  · refine br_f (nI_nlt (by omega) (by omega)) (br_t (nI_le (by omega) (by omega)) ?_)
    exact ⟨rfl, S, C, L, F, n, s, qF, qN, K, q, xO, xA, xB, xT, yO, yA, yB, yT, op, A, B, tg, hs, hd, st, tk, mk, wp, ⟨c, o, T, R, cT, cR, oT, oR, lo, la, lb, lt, lk, ln, lP, lq, ls, bl, bf, po, rfl, rfl, hM, hZ1, hZ2, hc, hmo, hK, hb1, hb2, hb3⟩, hN, hw1, hw2, hw3, hw4, hS, hqS, hqF, by omega, hbh⟩
section
variable {S C L F n s qF qN c o m : Nat} {K po wp : Int32} {xO xA xB xT yO yA yB yT op A B tg hs hd T R st tk bl bf cT cR oT oR lo la lb lt lk ln lP mk : Nat → Int32} {lq ls : Nat → Int64}
theorem ay_pop (post : Int32 → SY → Prop) (hc : c + 1 ≤ 16) (hp : post 1 (nI S, nI C, nI L, nI qN, nI c, nI o, nI m, lN s, po, wp, yO, yA, yB, yT, ar_sh cT 0 (c + 1), ar_sh cR 0 (c + 1), oT, oR, lo, la, lb, lt, lk, ln, lP, mk, lq, ls, hd, bl, bf)) : ∀ d j, j + d = c → wY_pop_11 post (nI S) (nI C) (nI L) (nI qN) (nI (c + 1)) (nI o) (nI m) (lN s) po wp (d + 1) (nI j) yO yA yB yT (ar_sh cT 0 (j + 1)) (ar_sh cR 0 (j + 1)) oT oR lo la lb lt lk ln lP mk lq ls hd bl bf := by
  intro d
  induction d with
  | zero =>
    intro j hj
    have e : j = c := by omega
    subst e
    refine br_t ?_ (nm_r (nI_pred j) hp)
    rw [nI_pred]; exact nI_le (Nat.le_refl _) (by omega)
  | succ d ih =>
    intro j hj
    have a1 : ¬ nI (c + 1) - 1 ≤ nI j := by
      rw [nI_pred]; exact nI_ge (by omega) (by omega)
    have i1 : vp_in (nI j + 1) 16 := by rw [nI_1]; exact vp_in_nI (by omega) (by omega)
    have i0 : vp_in (nI j) 16 := vp_in_nI (by omega) (by omega)
    exact br_f a1 (br_f (nI_ge (b := 15) (by omega) (by decide)) ⟨i1, i0, nm_r (ar_st1 cT (by omega) (by omega)) ⟨i1, i0, nm_r (ar_st1 cR (by omega) (by omega)) (nm_r (nI_1 j) (ih (j + 1) (by omega)))⟩⟩)
end
theorem i_vc_pop {k : Nat} {u : SX} {v : SY} (I : i_Rel k u v) (hk : k + 5 ≤ 2563) : wpX_pop (fun r u' => wpY_pop (fun r' v' => r' = r ∧ i_Rel (k + 5) u' v') v) u := by
  obtain ⟨S, C, L, F, n, s, qF, qN, K, q, xO, xA, xB, xT, yO, yA, yB, yT, op, A, B, tg, hs, hd, st, tk, mk, wp, hG, hI⟩ := I
  obtain ⟨hN, hw1, hw2, hw3, hw4, hS, hqS, hqF, hsk, hbh⟩ := hI
  obtain ⟨c, o, T, R, cT, cR, oT, oR, lo, la, lb, lt, lk, ln, lP, lq, ls, bl, bf, po, rfl, rfl, hM, hZ1, hZ2, hc, hmo, hK, hb1, hb2, hb3⟩ := hG
  have hN' := hN
  obtain ⟨hC, hn, hs', hF, hL⟩ := hN'
  by_cases h : c = 0
  · refine br_t (by rw [h]; rfl) (br_t (by rw [h]; rfl) ?_)
    exact ⟨rfl, S, C, L, F, n, s, qF, qN, K, q, xO, xA, xB, xT, yO, yA, yB, yT, op, A, B, tg, hs, hd, st, tk, mk, wp, ⟨c, o, T, R, cT, cR, oT, oR, lo, la, lb, lt, lk, ln, lP, lq, ls, bl, bf, po, rfl, rfl, hM, hZ1, hZ2, hc, hmo, hK, hb1, hb2, hb3⟩, hN, hw1, hw2, hw3, hw4, hS, hqS, hqF, by omega, hbh⟩
  · obtain ⟨c', rfl⟩ : ∃ c', c = c' + 1 := ⟨c - 1, by omega⟩
    have e1 : nI (c' + 1 + o) - 1 = nI (c' + o) := by rw [show c' + 1 + o = c' + o + 1 by omega, nI_pred]
    refine br_f (nI_ne0 (by omega) (by omega)) ⟨by decide, nm_r (ar_m48 (by omega)) (nm_r e1 (nm_r (nI_pred c') ?_))⟩
    have hp := ay_pop (cT := cT) (cR := cR) (S := S) (C := C) (L := L) (s := s) (qN := qN) (c := c') (o := o) (m := n) (po := po) (wp := wp) (yO := yO) (yA := yA) (yB := yB) (yT := yT) (hd := hd) (bl := bl) (bf := bf) (oT := oT) (oR := oR) (lo := lo) (la := la) (lb := lb) (lt := lt) (lk := lk) (ln := ln) (lP := lP) (mk := mk) (lq := lq) (ls := ls) (fun r' v' => r' = 1 ∧ i_Rel (k + 5) (nI S, nI C, nI L, nI qF, nI qN, nI ((F + 1) % 48), nI (c' + o), nI c', nI n, xO, xA, xB, xT, T, R, op, A, B, tg, st, tk, hs, bl, bf) v') (by omega)
      ⟨rfl, S, C, L, (F + 1) % 48, n, s, qF, qN, K, q, xO, xA, xB, xT, yO, yA, yB, yT, op, A, B, tg, hs, hd, st, tk, mk, wp, ⟨c', o, T, R, ar_sh cT 0 (c' + 1), ar_sh cR 0 (c' + 1), oT, oR, lo, la, lb, lt, lk, ln, lP, lq, ls, bl, bf, po, rfl, rfl, hM, ar_Z_pop hZ1, ar_Z_pop hZ2, by omega, hmo, hK, hb1, hb2, hb3⟩, ⟨hC, hn, hs', by omega, hL⟩, hw1, hw2, hw3, hw4, hS, hqS, hqF, by omega, hbh⟩ c' 0 (by omega)
    rw [ar_sh0, ar_sh0] at hp
    exact br_f (nI_ne0 (by omega) (by omega)) ⟨_, hp⟩
