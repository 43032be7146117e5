theorem am_R_E {E Pp acc : Nat} {pr sn ng lk : Nat → Bool} {u : St2} (hR : am_R E Pp acc pr sn ng lk u) : E ≤ acc ∧ (∀ i, pr i = true → i + 1 < E) := by
  obtain ⟨S, C, qF, qN, F, n, Lz, xO, xA, xB, xT, op, A, B, tg, hs, st, tk, id, c, o, Pt, H, V, T, R, bl, bf, rfl, hPt, hD, hL, hNn, hB, hP, hc, hmo, hW, hbh, hacc, hqS, hS16, hqF, hq, hpr⟩ := hR
  exact ⟨by omega, hpr⟩
theorem al_57 {L kc ks : Nat} {xs : Nat → Int32} (hL : L ≤ 260) : ∀ (k P E Pp acc : Nat) (pr sn ng lk : Nat → Bool) (u : St2) (li pa se ne : Int64), am_R E Pp acc pr sn ng lk u → am_bits li lk → am_bits pa pr → am_bits se sn → am_bits ne ng → acc ≤ 64 → (∀ i, acc ≤ i → lk i = false) → L + 4 ≤ P + 4 * k → P ≤ L + 3 →
    ll_57 (fun r => r = 1) L xs kc ks k (nI acc) (nI E) (nI Pp) li pa se ne (nI P) u := by
  intro k
  induction k with
  | zero => intro P E Pp acc pr sn ng lk u li pa se ne hR h1 h2 h3 h4 h5 h6 h7 h8; omega
  | succ k ih =>
    intro P E Pp acc pr sn ng lk u li pa se ne hR hli hpa hse hne hac hlk hfu hPL
    obtain ⟨hEa, hprE⟩ := am_R_E hR
    by_cases hz : L ≤ P
    · obtain ⟨S, C, qF, qN, F, n, Lz, xO, xA, xB, xT, op, A, B, tg, hs, st, tk, id, c, o, Pt, H, V, T, R, bl, bf, rfl, hPt, hD, hL, hNn, hB, hP, hc, hmo, hW, hbh, hacc, hqS, hS16, hqF, hq, hpr⟩ := hR
      obtain ⟨hC, hn, hF, hS⟩ := hW
      have e1 : nI c + (nI (c + o) - nI c) = nI (c + o) := by rw [pk_sub (by omega), nI_add, show c + (c + o - c) = c + o by omega]
      exact br_t (nI_le hz (by omega)) (nm_r (e' := nI (c + o)) e1 (br_f (nI_pos (by omega)) (br_t (nI_le (b := 64) (by omega) (by decide)) ⟨c + o + 1, al_592 (fun r => r = 1) rfl hL hS hn (by omega) hF hPt (by omega) hD hpa (c + o) 0 se ne sn ng (by omega) hB hse hne⟩)))
    · have hnx : ∀ (E' Pp' acc' : Nat) (pr' sn' ng' lk' : Nat → Bool) (u' : St2) (li' pa' se' ne' : Int64), am_R E' Pp' acc' pr' sn' ng' lk' u' → am_bits li' lk' → am_bits pa' pr' → am_bits se' sn' → am_bits ne' ng' → acc' ≤ 64 → (∀ i, acc' ≤ i → lk' i = false) → ll_517 (fun r => r = 1) L xs kc ks k (nI acc') (nI E') (nI Pp') li' pa' se' ne' (nI P) u' :=
        fun E' Pp' acc' pr' sn' ng' lk' u' li' pa' se' ne' a1 a2 a3 a4 a5 a6 a7 => al_517 a1 (by omega) (ih (P + 4) E' Pp' acc' pr' sn' ng' lk' u' li' pa' se' ne' a1 a2 a3 a4 a5 a6 a7 (by omega) (by omega))
      have h517 := hnx E Pp acc pr sn ng lk u li pa se ne hR hli hpa hse hne hac hlk
      have hent := fun x post => am_enter hR x post
      have htic := fun post => am_tick hR post
      have hpop := am_pop hR
      have hR' := hR
      obtain ⟨S, C, qF, qN, F, n, Lz, xO, xA, xB, xT, op, A, B, tg, hs, st, tk, id, c, o, Pt, H, V, T, R, bl, bf, rfl, hPt, hD, hL, hNn, hB, hP, hc, hmo, hW, hbh, hacc, hqS, hS16, hqF, hq, hpr⟩ := hR
      refine br_f (nI_ge (by omega) (by omega)) (al_cell _ (by omega) (by omega) (fun v0 => nm_e ?_))
      rw [nI_1 P]
      refine al_cell _ (by omega) (by omega) (fun v1 => ?_)
      rw [show nI P + 2 = nI (P + 2) from nI_add P 2]
      refine al_cell _ (by omega) (by omega) (fun v2 => ?_)
      rw [show nI P + 3 = nI (P + 3) from nI_add P 3]
      refine al_cell _ (by omega) (by omega) (fun v3 => ?_)
      refine br_c (fun _ => ?_) (fun _ => br_c (fun _ => ?_) (fun _ => br_c (fun _ => ?_) (fun _ => ?_)))
      · by_cases ha : acc < 64
        · have hp132 := fun v hv => al_132 (post := fun r => r = 1) (L := L) (xs := xs) (kc := kc) (ks := ks) (k := k) (P := P) (v := v) hR' ha hli hlk h517 (fun u' lk' li' a1 a2 a3 => hnx E Pp (acc + 1) pr sn ng lk' u' li' pa se ne a1 a2 hpa hse hne (by omega) a3) hv v1 v2 v3
          obtain ⟨v, hv, ev⟩ := pk_andE v1 (m := 7) 3 (by decide)
          refine br_f (nI_ge (b := 64) ha (by decide)) (nm_r ev (br_c (fun _ => hp132 2 (by decide)) (fun _ => hp132 v hv)))
        · exact br_t (nI_le (a := 64) (by omega) (by omega)) h517
      · refine hent _ _ (fun kk u' hkk hR2 => ?_)
        have hend : ∀ pa', am_bits pa' (am_pr pr lk E kk) → ll_517 (fun r => r = 1) L xs kc ks k (nI acc) (nI (E + kk)) (nI Pp) li pa' se ne (nI P) u' := fun pa' hp' => hnx (E + kk) Pp acc (am_pr pr lk E kk) sn ng lk u' li pa' se ne hR2 hli hp' hse hne hac hlk
        obtain ⟨w0, w1, w2, w3, w4, w5, w6, w7, w8, w9, w10, w11, w12, w13, w14, w15, w16, w17, w18, w19, w20, w21, w22, w23⟩ := u'
        refine br_f (nI_pos (by omega)) (br_t (by rw [nI_add]; exact nI_le hkk (by omega)) ⟨kk - 1 + 1, al_344 (by omega) hli hprE hend (kk - 1) E pa (by omega) (Nat.le_refl _) (am_bits_c hpa (fun j hj => if_neg (by omega)))⟩)
      · refine htic _ (fun r u' hR2 => ?_)
        have hset := fun x y post => am_setBuffer hR2 x y post
        obtain ⟨w0, w1, w2, w3, w4, w5, w6, w7, w8, w9, w10, w11, w12, w13, w14, w15, w16, w17, w18, w19, w20, w21, w22, w23⟩ := u'
        refine hset _ _ _ (fun r2 u2 hR3 => ?_)
        have h6 := hnx E Pp acc pr sn ng lk u2 li pa se ne hR3 hli hpa hse hne hac hlk
        obtain ⟨y0, y1, y2, y3, y4, y5, y6, y7, y8, y9, y10, y11, y12, y13, y14, y15, y16, y17, y18, y19, y20, y21, y22, y23⟩ := u2
        exact h6
      · rcases hpop with ⟨p1, ⟨t1, p2⟩, ⟨t2, p3⟩, p4⟩ | ⟨cc, y, r, u', q0, q1, p1, p2, p3, p4, hR2, s1, s2, s3⟩
        · refine p1 _ (br_t (by decide) ?_)
          unfold wL_law_428
          exact p2 _ (p3 _ (p4 _ (br_t rfl (br_t rfl h517))))
        · have hse' := am_bits_or hse (show y < 64 by omega)
          have hne' := am_bits_or hne (show y < 64 by omega)
          refine p1 _ (br_f (nI_nle q0 (by omega)) ?_)
          unfold wL_law_428
          refine p2 _ (p3 _ (p4 _ ?_))
          by_cases v : r < 0
          · rw [if_pos v] at hR2
            have h6 := hnx E (Pp + 1) acc pr _ _ lk u' li pa _ _ hR2 hli hpa hse' hne' hac hlk
            obtain ⟨y0, y1, y2, y3, y4, y5, y6, y7, y8, y9, y10, y11, y12, y13, y14, y15, y16, y17, y18, y19, y20, y21, y22, y23⟩ := u'
            exact br_t rfl (br_f (by decide) (nm_r (am_1000 y) (am_obs _ hse hne hpa s1 (by omega) s2 s3 (br_f (by decide) (nm_e (br_f (Int32.not_le.mpr v) (nm_e (nm_r (nI_1 Pp) h6))))))))
          · rw [if_neg v] at hR2
            have h6 := hnx E (Pp + 1) acc pr _ _ lk u' li pa _ _ hR2 hli hpa hse' hne hac hlk
            obtain ⟨y0, y1, y2, y3, y4, y5, y6, y7, y8, y9, y10, y11, y12, y13, y14, y15, y16, y17, y18, y19, y20, y21, y22, y23⟩ := u'
            exact br_t rfl (br_f (by decide) (nm_r (am_1000 y) (am_obs _ hse hne hpa s1 (by omega) s2 s3 (br_f (by decide) (nm_e (br_t (Int32.not_lt.mp v) (nm_r (nI_1 Pp) h6)))))))
theorem ar_clampE (x : Int32) {a b : Nat} (hab : a ≤ b) (hb : b < 2 ^ 31) : ∃ j, a ≤ j ∧ j ≤ b ∧ ∀ P : Int32 → Prop, P (nI j) → wpX_clamp P () x (nI a) (nI b) := by
  by_cases g1 : nI a ≤ x
  · by_cases g2 : x ≤ nI b
    · have hx : ¬ x < 0 := fun w => nI_pos (n := a) (by omega) (Int32.lt_of_le_of_lt g1 w)
      obtain ⟨j, hj, rfl⟩ := nI_of hx
      exact ⟨j, (nI_leI (by omega) hj).mp g1, (nI_leI hj hb).mp g2, fun P hP => br_t g1 (br_t g2 hP)⟩
    · exact ⟨b, hab, Nat.le_refl _, fun P hP => br_t g1 (br_f g2 hP)⟩
  · exact ⟨a, Nat.le_refl _, hab, fun P hP => br_f g1 hP⟩
theorem am_R_0 {S C : Nat} {Lz : Int32} (h1 : S ≤ 16) (h2 : C ≤ 16) : am_R 0 0 0 (fun _ => false) (fun _ => false) (fun _ => false) (fun _ => false) (nI S, nI C, Lz, 0, 0, 0, 0, 0, 0, (fun _ => 0), (fun _ => 0), (fun _ => 0), (fun _ => 0), (fun _ => 0), (fun _ => 0), (fun _ => 0), (fun _ => 0), (fun _ => 0), (fun _ => 0), (fun _ => 0), (fun _ => 0), (fun _ => 0), (fun _ => 0), (fun _ => 0)) := by
  have z : ∀ {P : Prop} (j : Nat), j < 0 → P := fun j h => absurd h (by omega)
  exact ⟨S, C, 0, 0, 0, 0, Lz, (fun _ => 0), (fun _ => 0), (fun _ => 0), (fun _ => 0), (fun _ => 0), (fun _ => 0), (fun _ => 0), (fun _ => 0), (fun _ => 0), (fun _ => 0), (fun _ => 0), (fun j => j), 0, 0, 0, (fun j => j), (fun _ => 0), (fun _ => 0), (fun _ => 0), (fun _ => 0), (fun _ => 0), rfl, rfl, fun j h => z j h,
    ⟨⟨fun i j _ h => z j h, fun j h => z j h, fun j h => z j h⟩, rfl, fun j h => z j h, fun j h => z j h, fun i j _ h => z j h, fun j _ h => z j h, fun j h => z j h, fun j _ h => z j h⟩, fun j h => z j h,
    ⟨fun i => ⟨fun w => absurd (show false = true from w) (by decide), fun ⟨t, a, _⟩ => z t a⟩, fun i => ⟨fun w => absurd (show false = true from w) (by decide), fun ⟨t, a, _⟩ => z t a⟩⟩, fun j h => z j h, by omega, by omega,
    ⟨h2, by omega, by omega, fun j h => z j h, fun i j _ h => z j h, fun j h => z j h, fun j h => z j h⟩, ar_B0, rfl, by omega, h1, by omega, fun j h => z j h, fun i w => absurd (show false = true from w) (by decide)⟩
theorem i_vc (xs : Nat → Int32) (L : Nat) (hL : L ≤ 260) : wpL_law (fun r => r = 1) L xs := by
  have hb0 : am_bits 0 (fun _ => false) := am_bits_0 (fun _ _ => rfl)
  unfold wpL_law
  refine al_cell (P := 0) _ (by omega) (by omega) (fun w0 => al_cell (P := 1) _ (by omega) (by omega) (fun w1 => al_cell (P := 2) _ (by omega) (by omega) (fun w2 => ⟨15, 408, by omega, by omega, ?_⟩)))
  obtain ⟨S, _, hS2, hS⟩ := ar_clampE (2 + (w0 &&& 7)) (a := 2) (b := 16) (by decide) (by decide)
  obtain ⟨C, _, hC2, hC⟩ := ar_clampE (2 + (w1 &&& 3)) (a := 2) (b := 16) (by decide) (by decide)
  obtain ⟨Lz, _, hL2, hLz⟩ := ar_clampE (w2 &&& 7) (a := 0) (b := 4) (by decide) (by decide)
  have h57 := al_57 (L := L) (kc := 1 + 15) (ks := 24 + 408) (xs := xs) hL (L + 1) 3 0 0 0 _ _ _ _ _ 0 0 0 0 (am_R_0 (S := S) (C := C) (Lz := nI Lz) hS2 hC2) hb0 hb0 hb0 hb0 (by omega) (fun _ _ => rfl) (by omega) (by omega)
  unfold wpX_init
  dsimp only
  refine ⟨by decide, by decide, by decide, by decide, by decide, by decide, by decide, by decide, by decide, by decide, by decide, by decide, by decide, by decide, by decide, by decide, by decide, by decide, by decide, by decide, by decide, by decide, by decide, by decide, by decide, by decide, by decide, by decide, by decide, by decide, ?_⟩
  exact hS _ (hC _ (hLz _ ⟨L + 1, h57⟩))
