section
variable {E Pp acc : Nat} {pr sn ng lk : Nat → Bool} {u : St2}
theorem am_counts (hR : am_R E Pp acc pr sn ng lk u) : ∃ n c o : Nat, n + Pp + c + o = E ∧ o ≤ 32 ∧ n ≤ 32 ∧ c ≤ 16 ∧ (∀ post : Int32 → Prop, post (nI o) → wpX_overflowCount post u) ∧ (∀ post : Int32 → Prop, post (nI n) → wpX_liveCount post u) ∧ (∀ post : Int32 → Prop, post (nI c) → wpX_cqReady post u) := by
  obtain ⟨S, C, qF, qN, F, n, Lz, xO, xA, xB, xT, op, A, B, tg, hs, st, tk, id, c, o, Pt, H, V, T, R, bl, bf, rfl, hPt, hD, hL, hNn, hB, hP, hc, hmo, hW, hbh, hacc, hqS, hS16, hqF, hq, hpr⟩ := hR
  have hm := hL.2.1
  obtain ⟨hC, hn, hF, hS⟩ := hW
  refine ⟨n, c, o, by omega, by omega, hn, by omega, fun post hp => ?_, fun post hp => hp, fun post hp => hp⟩
  show post (nI (c + o) - nI c)
  rw [pk_sub (by omega), show c + o - c = o by omega]
  exact hp
theorem am_setBuffer (hR : am_R E Pp acc pr sn ng lk u) (x y : Int32) (post : Int32 → St2 → Prop) (h : ∀ r u', am_R E Pp acc pr sn ng lk u' → post r u') : wpX_setBuffer post u x y := by
  have h0 := fun r => h r u hR
  obtain ⟨S, C, qF, qN, F, n, Lz, xO, xA, xB, xT, op, A, B, tg, hs, st, tk, id, c, o, Pt, H, V, T, R, bl, bf, rfl, hPt, hD, hL, hNn, hB, hP, hc, hmo, hW, hbh, hacc, hqS, hS16, hqF, hq, hpr⟩ := hR
  unfold wpX_setBuffer
  exact ax_buf _ _ (fun z => br_f (by decide) ⟨ar_buf_in z, nm_e (h _ _ ⟨S, C, qF, qN, F, n, Lz, xO, xA, xB, xT, op, A, B, tg, hs, st, tk, id, c, o, Pt, H, V, T, R, bl, _, rfl, hPt, hD, hL, hNn, hB, hP, hc, hmo, hW, hbh, hacc, hqS, hS16, hqF, hq, hpr⟩)⟩) (fun _ => br_t rfl (h0 0))
theorem am_prep (hR : am_R E Pp acc pr sn ng lk u) (x a b : Int32) {lk' : Nat → Bool} (h1 : ∀ i, i < acc → lk' i = lk i) (h2 : ¬ x &&& 16 = 0 ↔ lk' acc = true) (post : Int32 → St2 → Prop) (hp0 : am_R E Pp acc pr sn ng lk u → post 0 u) (hp1 : ∀ u', am_R E Pp (acc + 1) pr sn ng lk' u' → post 1 u') : wpX_prep post u x a b (nI (1000 + acc)) := by
  have h0 := hp0 hR
  obtain ⟨S, C, qF, qN, F, n, Lz, xO, xA, xB, xT, op, A, B, tg, hs, st, tk, id, c, o, Pt, H, V, T, R, bl, bf, rfl, hPt, hD, hL, hNn, hB, hP, hc, hmo, hW, hbh, hacc, hqS, hS16, hqF, hq, hpr⟩ := hR
  by_cases h : qN < S
  · have i0 : vp_in (nI ((qF + qN) % 16)) 16 := vp_in_nI (Nat.mod_lt _ (by omega)) (by omega)
    have hm : (qF + qN) % 16 < 2 ^ 31 := by omega
    refine br_t (nI_lt h (by omega)) ⟨by decide, nm_r (ar_r16 qF qN (by omega)) ⟨i0, nm_r (ar_uc xO x hm) ⟨i0, nm_r (ar_uc xA a hm) ⟨i0, nm_r (ar_uc xB b hm) ⟨i0, nm_r (ar_uc xT (nI (1000 + acc)) hm) (nm_r (nI_1 qN) (hp1 _ ?_))⟩⟩⟩⟩⟩
    refine ⟨S, C, qF, qN + 1, F, n, Lz, _, _, _, _, op, A, B, tg, hs, st, tk, id, c, o, Pt, H, V, T, R, bl, bf, rfl, hPt, hD, hL, hNn, hB, hP, hc, hmo, hW, hbh, by omega, by omega, hS16, hqF, fun j hj => ?_, hpr⟩
    by_cases z : j = qN
    · subst z
      rw [pk_us, pk_us, hacc]
      exact ⟨rfl, h2⟩
    · rw [pk_un (by omega), pk_un (by omega), h1 (E + j) (by omega)]
      exact hq j (by omega)
  · exact br_f (nI_nlt (by omega) (by omega)) h0
/-- the completion at place j -/
theorem ax_tag {S C F n qF qN D : Nat} {Lz cq : Int32} {xO xA xB xT op A B tg hs T R st tk bl bf : Nat → Int32} (post : Int32 → Prop) {j : Nat} (hj : j < D) (hD : D ≤ 48) (hF : F < 48) (hp : post (T ((F + j) % 48))) : wpX_cqTag post (nI S, nI C, Lz, nI qF, nI qN, nI F, nI D, cq, nI n, xO, xA, xB, xT, T, R, op, A, B, tg, st, tk, hs, bl, bf) (nI j) := by
  have e1 := ar_r48 F j (by omega)
  refine br_f (nI_pos (by omega)) (br_t (nI_lt hj (by omega)) ⟨by decide, by rw [e1]; exact vp_in_nI (Nat.mod_lt _ (by omega)) (by omega), ?_⟩)
  rw [e1, nI_clamp (by omega)]; exact hp
theorem ax_res {S C F n qF qN D : Nat} {Lz cq : Int32} {xO xA xB xT op A B tg hs T R st tk bl bf : Nat → Int32} (post : Int32 → Prop) {j : Nat} (hj : j < D) (hD : D ≤ 48) (hF : F < 48) (hp : post (R ((F + j) % 48))) : wpX_cqResult post (nI S, nI C, Lz, nI qF, nI qN, nI F, nI D, cq, nI n, xO, xA, xB, xT, T, R, op, A, B, tg, st, tk, hs, bl, bf) (nI j) := by
  have e1 := ar_r48 F j (by omega)
  refine br_f (nI_pos (by omega)) (br_t (nI_lt hj (by omega)) ⟨by decide, by rw [e1]; exact vp_in_nI (Nat.mod_lt _ (by omega)) (by omega), ?_⟩)
  rw [e1, nI_clamp (by omega)]; exact hp
/-- what the t-th completion is, when those before it have been seen -/
theorem am_seen {n m Pt k : Nat} {st hs : Nat → Int32} {e id H : Nat → Nat} {V : Nat → Int32} (hL : am_L n m E Pt st hs e id pr H V) (hk : k < Pt) (hB : am_B k H V sn ng) :
    H k < E ∧ sn (H k) = false ∧ (∀ i, i + 1 = H k → pr i = true → sn i = true ∧ (ng i = true → V k = -125)) := by
  obtain ⟨hE, hm, hC, h1, h2, h3, h4, h5⟩ := hL
  refine ⟨h1 k hk, ?_, fun i hi hp => ?_⟩
  · by_cases z : sn (H k) = true
    · obtain ⟨t, a, b⟩ := (hB.1 (H k)).mp z
      exact absurd b (h2 t k a hk)
    · exact Bool.eq_false_iff.mpr z
  · obtain ⟨t', a, b, c⟩ := h5 k i hk hi.symm hp
    refine ⟨(hB.1 i).mpr ⟨t', a, b⟩, fun w => ?_⟩
    obtain ⟨t, a1, b1, c1⟩ := (hB.2 i).mp w
    have : t = t' := by
      rcases Nat.lt_trichotomy t t' with z | z | z
      · exact absurd (b1.trans b.symm) (h2 t t' z (by omega))
      · exact z
      · exact absurd (b.trans b1.symm) (h2 t' t z (by omega))
    rw [this] at c1
    exact c c1
theorem am_B_n {k : Nat} {H : Nat → Nat} {V : Nat → Int32} (hB : am_B k H V sn ng) : am_B (k + 1) H V (am_ad sn (H k)) (if V k < 0 then am_ad ng (H k) else ng) := by
  refine ⟨fun i => ?_, fun i => ?_⟩
  · unfold am_ad
    by_cases z : i = H k
    · rw [if_pos z]; exact ⟨fun _ => ⟨k, by omega, z.symm⟩, fun _ => rfl⟩
    · rw [if_neg z, hB.1 i]
      refine ⟨fun ⟨t, a, b⟩ => ⟨t, by omega, b⟩, fun ⟨t, a, b⟩ => ⟨t, ?_, b⟩⟩
      by_cases y : t = k
      · rw [y] at b; exact absurd b.symm z
      · omega
  · by_cases v : V k < 0
    · rw [if_pos v]
      unfold am_ad
      by_cases z : i = H k
      · rw [if_pos z]; exact ⟨fun _ => ⟨k, by omega, z.symm, v⟩, fun _ => rfl⟩
      · rw [if_neg z, hB.2 i]
        refine ⟨fun ⟨t, a, b, c⟩ => ⟨t, by omega, b, c⟩, fun ⟨t, a, b, c⟩ => ⟨t, ?_, b, c⟩⟩
        by_cases y : t = k
        · rw [y] at b; exact absurd b.symm z
        · omega
    · rw [if_neg v, hB.2 i]
      refine ⟨fun ⟨t, a, b, c⟩ => ⟨t, by omega, b, c⟩, fun ⟨t, a, b, c⟩ => ⟨t, ?_, b, c⟩⟩
      by_cases y : t = k
      · rw [y] at c; exact absurd c v
      · omega
theorem am_pop (hR : am_R E Pp acc pr sn ng lk u) :
    ((∀ post : Int32 → Prop, post 0 → wpX_cqReady post u) ∧ (∃ t, ∀ post : Int32 → Prop, post t → wpX_cqTag post u 0) ∧ (∃ t, ∀ post : Int32 → Prop, post t → wpX_cqResult post u 0) ∧ (∀ post : Int32 → St2 → Prop, post 0 u → wpX_pop post u)) ∨
    (∃ c y r u', 0 < c ∧ c ≤ 16 ∧ (∀ post : Int32 → Prop, post (nI c) → wpX_cqReady post u) ∧ (∀ post : Int32 → Prop, post (nI (1000 + y)) → wpX_cqTag post u 0) ∧ (∀ post : Int32 → Prop, post r → wpX_cqResult post u 0) ∧ (∀ post : Int32 → St2 → Prop, post 1 u' → wpX_pop post u) ∧
      am_R E (Pp + 1) acc pr (am_ad sn y) (if r < 0 then am_ad ng y else ng) lk u' ∧ y < E ∧ sn y = false ∧ (∀ i, i + 1 = y → pr i = true → sn i = true ∧ (ng i = true → r = -125))) := by
  obtain ⟨S, C, qF, qN, F, n, Lz, xO, xA, xB, xT, op, A, B, tg, hs, st, tk, id, c, o, Pt, H, V, T, R, bl, bf, rfl, hPt, hD, hL, hNn, hB, hP, hc, hmo, hW, hbh, hacc, hqS, hS16, hqF, hq, hpr⟩ := hR
  have hW' := hW
  obtain ⟨hC, hn, hF, hS⟩ := hW'
  by_cases h : c = 0
  · refine Or.inl ⟨fun post hp => by subst h; exact hp, ?_, ?_, fun post hp => br_t (by rw [h]; rfl) hp⟩
    · by_cases z : 0 < c + o
      · exact ⟨_, fun post hp => ax_tag (j := 0) post z (by omega) hF hp⟩
      · exact ⟨0, fun post hp => br_f (by decide) (br_f (by rw [show c + o = 0 by omega]; decide) hp)⟩
    · by_cases z : 0 < c + o
      · exact ⟨_, fun post hp => ax_res (j := 0) post z (by omega) hF hp⟩
      · exact ⟨0, fun post hp => br_f (by decide) (br_f (by rw [show c + o = 0 by omega]; decide) hp)⟩
  · obtain ⟨c', rfl⟩ : ∃ c', c = c' + 1 := ⟨c - 1, by omega⟩
    have h0 := hD 0 (by omega)
    rw [show Pp + 0 = Pp by omega] at h0
    have hse := am_seen hL (show Pp < Pt by omega) hB
    have e1 : nI (c' + 1 + o) - 1 = nI (c' + o) := by rw [show c' + 1 + o = c' + o + 1 by omega, nI_pred]
    have e3 : nI F + 1 - (nI F + 1) / 48 * 48 = nI ((F + 1) % 48) := by
      rw [nI_1]; exact pk_rem (d := 48) (by omega) (by decide) (by decide)
    refine Or.inr ⟨c' + 1, H Pp, V Pp, _, by omega, by omega, fun post hp => hp, fun post hp => ax_tag (j := 0) post (by omega) (by omega) hF (by rw [h0.1]; exact hp), fun post hp => ax_res (j := 0) post (by omega) (by omega) hF (by rw [h0.2]; exact hp),
      fun post hp => br_f (nI_ne0 (by omega) (by omega)) ⟨by decide, nm_r e3 (nm_r e1 (nm_r (nI_pred c') hp))⟩, ?_, hse.1, hse.2.1, hse.2.2⟩
    refine ⟨S, C, qF, qN, (F + 1) % 48, n, Lz, xO, xA, xB, xT, op, A, B, tg, hs, st, tk, id, c', o, Pt, H, V, T, R, bl, bf, rfl, by omega, am_D_pop (by rw [show c' + o + 1 = c' + 1 + o by omega]; exact hD), hL, hNn, am_B_n hB, hP, by omega, hmo, ⟨hC, hn, by omega, hS⟩, hbh, hacc, hqS, hS16, hqF, hq, hpr⟩
end
