theorem ax_ltag {S C F n qF qN D : Nat} {Lz cq : Int32} {xO xA xB xT op A B tg hs T R st tk bl bf : Nat → Int32} (post : Int32 → Prop) {j : Nat} (hj : j < n) (hn : n ≤ 32) (hp : post (tg j)) : wpX_liveTag post (nI S, nI C, Lz, nI qF, nI qN, nI F, nI D, cq, nI n, xO, xA, xB, xT, T, R, op, A, B, tg, st, tk, hs, bl, bf) (nI j) := by
  refine br_f (nI_pos (by omega)) (br_t (nI_lt hj (by omega)) ⟨vp_in_nI (by omega) (by omega), ?_⟩)
  rw [nI_clamp (by omega)]; exact hp
theorem ax_lst {S C F n qF qN D : Nat} {Lz cq : Int32} {xO xA xB xT op A B tg hs T R st tk bl bf : Nat → Int32} (post : Int32 → Prop) {j : Nat} (hj : j < n) (hn : n ≤ 32) (hp : ∀ z : Int32, (¬ st j = 1 → z = 0) → (hs j = 0 → post (2 * z + 0)) ∧ (¬ hs j = 0 → post (2 * z + 1))) : wpX_liveState post (nI S, nI C, Lz, nI qF, nI qN, nI F, nI D, cq, nI n, xO, xA, xB, xT, T, R, op, A, B, tg, st, tk, hs, bl, bf) (nI j) := by
  have i0 : vp_in (nI j) 32 := vp_in_nI (by omega) (by omega)
  have key : ∀ z : Int32, (¬ st j = 1 → z = 0) → wX_liveState_34 post (nI j) z (nI S) (nI C) Lz (nI qF) (nI qN) (nI F) (nI D) cq (nI n) xO xA xB xT T R op A B tg st tk hs bl bf := fun z hz => by
    refine And.intro i0 ?_
    rw [nI_clamp (by omega)]
    exact hp z hz
  refine br_f (nI_pos (by omega)) (br_t (nI_lt hj (by omega)) ⟨i0, ?_⟩)
  by_cases z : st j = 1
  · exact br_t (by rw [nI_clamp (by omega)]; exact z) ⟨i0, key _ (fun w => absurd z w)⟩
  · exact br_f (by rw [nI_clamp (by omega)]; exact z) (key 0 (fun _ => rfl))
theorem am_1000 (y : Nat) : nI (1000 + y) - 1000 = nI y := by
  have := pk_sub (a := 1000 + y) (b := 1000) (by omega)
  rw [show 1000 + y - 1000 = y by omega] at this
  exact this
theorem am_odd (z : Int32) : (2 * z + 1) &&& 1 = 1 := by
  rw [pk_and (2 * z + 1) (m := 1) 1 (by decide)]
  rw [Int32.toBitVec_add, Int32.toBitVec_mul, BitVec.toNat_add, BitVec.toNat_mul]
  have h2 : (2 : Int32).toBitVec.toNat = 2 := by decide
  have h1 : (1 : Int32).toBitVec.toNat = 1 := by decide
  rw [h2, h1]
  have : (2 * z.toBitVec.toNat % 2 ^ 32 + 1) % 2 ^ 32 % 2 ^ 1 = 1 := by omega
  rw [this]
  rfl
section
variable {S C F n qF qN c o E Pp Pt m kc ks L : Nat} {Lz : Int32} {xs : Nat → Int32} {xO xA xB xT op A B tg hs T R st tk bl bf V : Nat → Int32} {id H : Nat → Nat} {pr : Nat → Bool} {pa : Int64}
theorem al_690 (post : Int32 → Prop) (hp1 : post 1) (hL : am_L n n E Pt st hs (fun j => j) id pr H V) (hS : am_S n E tg hs id pr) (hn : n ≤ 32) (hE : E ≤ 64) (hpa : am_bits pa pr) : ∀ d j (se : Int64) (sn : Nat → Bool), j + d = n → am_bits se sn → (∀ i, sn i = true → (∃ t, t < Pt ∧ H t = i) ∨ (∃ p, p < j ∧ id p = i)) →
    wL_law_690 post L xs (nI E) pa (nI n) kc ks (nI S) (nI C) Lz (nI qF) (nI qN) (nI F) (nI (c + o)) (nI c) (nI n) xO xA xB xT T R op A B tg st tk hs bl bf (d + 1) se (nI j) := by
  intro d
  induction d with
  | zero =>
    intro j se sn hj hb hs
    exact br_t (nI_le (by omega) (by omega)) hp1
  | succ d ih =>
    intro j se sn hj hb hsn
    have hid := hS.1 j (by omega)
    have hlt : ∀ p, p < j → id p ≠ id j := fun p hp => by have := hS.2.1 p j hp (by omega); omega
    have hns : sn (id j) = false := by
      by_cases z : sn (id j) = true
      · rcases hsn _ z with ⟨t, a, b⟩ | ⟨p, a, b⟩
        · exact absurd b (hL.2.2.2.2.2.1 t j a (by omega) (hL.1.2.1 j (by omega)).2)
        · exact absurd b (hlt p a)
      · exact Bool.eq_false_iff.mpr z
    have hih := ih (j + 1) _ _ (by omega) (am_bits_or hb (show id j < 64 by omega)) (fun i hi => by
      unfold am_ad at hi
      by_cases z : i = id j
      · exact Or.inr ⟨j, by omega, z.symm⟩
      · rw [if_neg z] at hi
        rcases hsn i hi with w | ⟨p, a, b⟩
        · exact Or.inl w
        · exact Or.inr ⟨p, by omega, b⟩)
    refine br_f (nI_ge (by omega) (by omega)) (ax_ltag _ (j := j) (by omega) hn ?_)
    refine nm_r (e' := nI (id j)) (by rw [hid.1]; exact am_1000 _) (br_f (nI_pos (by omega)) (br_f (nI_ge hid.2 (by omega)) (br_f (nI_ge (b := 64) (by omega) (by decide)) ?_)))
    refine am_bit _ hb (by omega) (fun w => ?_) (fun _ => br_t rfl (nm_e ?_))
    · rw [hns] at w; exact absurd w (by decide)
    · refine am_bit _ hpa (by omega) (fun w => br_f (by decide) ?_) (fun _ => br_t rfl (nm_r (nI_1 j) hih))
      have hh : ¬ hs j = 0 := (hS.2.2.1 j (by omega)).mpr w
      obtain ⟨g1, g2⟩ := hS.2.2.2 j (by omega) hh
      have g3 := (hL.2.2.1 j (by omega) (hL.1.2.1 j (by omega)).2 hh).2
      refine ax_lst _ (by omega) hn (fun z _ => ⟨fun w => absurd w hh, fun _ => br_t (am_odd z) ?_⟩)
      have e1 : nI j + 1 = nI (j + 1) := nI_1 j
      refine br_f (by rw [e1]; exact nI_ge g1 (by omega)) ?_
      rw [e1]
      refine ax_ltag _ g1 hn (br_t ?_ ?_)
      · rw [(hS.1 (j + 1) g1).1, hid.1, g2, nI_1]
        rfl
      · refine ax_lst _ g1 hn (fun z hz => ?_)
        have z0 : z = 0 := hz (by rw [g3]; exact ar_01)
        subst z0
        exact ⟨fun _ => br_t (by decide) (nm_e hih), fun _ => br_f (by decide) (br_t (by decide) (nm_e hih))⟩
theorem al_592 (post : Int32 → Prop) (hp1 : post 1) (hL : am_L n n E Pt st hs (fun j => j) id pr H V) (hS : am_S n E tg hs id pr) (hn : n ≤ 32) (hE : E ≤ 64) (hF : F < 48) (hPt : Pp + (c + o) = Pt) (hco : c + o ≤ 48) (hD : am_D F (c + o) Pp T R H V) (hpa : am_bits pa pr) :
    ∀ d j (se ne : Int64) (sn ng : Nat → Bool), j + d = c + o → am_B (Pp + j) H V sn ng → am_bits se sn → am_bits ne ng → wL_law_592 post L xs (nI E) pa (nI (c + o)) kc ks (nI S) (nI C) Lz (nI qF) (nI qN) (nI F) (nI (c + o)) (nI c) (nI n) xO xA xB xT T R op A B tg st tk hs bl bf (d + 1) se ne (nI j) := by
  intro d
  induction d with
  | zero =>
    intro j se ne sn ng hj hB h1 h2
    refine br_t (nI_le (by omega) (by omega)) (br_f (nI_pos (n := n) (by omega)) (br_t (nI_le (b := 64) (by omega) (by decide)) ⟨n + 1, al_690 post hp1 hL hS hn hE hpa n 0 se sn (by omega) h1 (fun i hi => ?_)⟩))
    obtain ⟨t, a, b⟩ := (hB.1 i).mp hi
    exact Or.inl ⟨t, by omega, b⟩
  | succ d ih =>
    intro j se ne sn ng hj hB h1 h2
    have hDj := hD j (by omega)
    obtain ⟨s1, s2, s3⟩ := am_seen hL (show Pp + j < Pt by omega) hB
    have hB' := am_B_n hB
    have h1' := am_bits_or h1 (show H (Pp + j) < 64 by omega)
    have h2' := am_bits_or h2 (show H (Pp + j) < 64 by omega)
    refine br_f (nI_ge (by omega) (by omega)) (ax_tag _ (by omega) hco hF (nm_r (e' := nI (H (Pp + j))) (by rw [hDj.1]; exact am_1000 _) (ax_res _ (by omega) hco hF ?_)))
    rw [hDj.2]
    refine am_obs _ h1 h2 hpa s1 hE s2 s3 (br_f (by decide) (nm_e ?_))
    by_cases v : V (Pp + j) < 0
    · rw [if_pos v] at hB'
      exact br_f (Int32.not_le.mpr v) (nm_e (nm_r (nI_1 j) (ih (j + 1) _ _ _ _ (by omega) hB' h1' h2')))
    · rw [if_neg v] at hB'
      exact br_t (Int32.not_lt.mp v) (nm_r (nI_1 j) (ih (j + 1) _ _ _ _ (by omega) hB' h1' h2))
end
