def lx_cs (post : St2 → Prop) (a b c : Int32) (k : Nat) (x : Int32) (u : St2) : Prop := match u with
  | (f_sqCapacity, f_cqCapacity, f_latency, f_sqFirst, f_sqCount, f_doneFirst, f_doneCount, f_cqCount, f_reqCount, a_sqOpFlags, a_sqA, a_sqB, a_sqTag, a_doneTag, a_doneResult, a_reqOpcode, a_reqA, a_reqB, a_reqTag, a_reqState, a_reqTicks, a_reqHasSuccessor, a_blocks, a_buffers) => wX_consume_18 post a b c k x f_sqCapacity f_cqCapacity f_latency f_sqFirst f_sqCount f_doneFirst f_doneCount f_cqCount f_reqCount a_sqOpFlags a_sqA a_sqB a_sqTag a_doneTag a_doneResult a_reqOpcode a_reqA a_reqB a_reqTag a_reqState a_reqTicks a_reqHasSuccessor a_blocks a_buffers
def lx_52 (post : St2 → Prop) (a : Int32) (u : St2) : Prop := match u with
  | (f_sqCapacity, f_cqCapacity, f_latency, f_sqFirst, f_sqCount, f_doneFirst, f_doneCount, f_cqCount, f_reqCount, a_sqOpFlags, a_sqA, a_sqB, a_sqTag, a_doneTag, a_doneResult, a_reqOpcode, a_reqA, a_reqB, a_reqTag, a_reqState, a_reqTicks, a_reqHasSuccessor, a_blocks, a_buffers) => wX_consume_52 post a f_sqCapacity f_cqCapacity f_latency f_sqFirst f_sqCount f_doneFirst f_doneCount f_cqCount f_reqCount a_sqOpFlags a_sqA a_sqB a_sqTag a_doneTag a_doneResult a_reqOpcode a_reqA a_reqB a_reqTag a_reqState a_reqTicks a_reqHasSuccessor a_blocks a_buffers
def lx_22 (post : Int32 → St2 → Prop) (a b : Int32) (k : Nat) (x : Int32) (u : St2) : Prop := match u with
  | (f_sqCapacity, f_cqCapacity, f_latency, f_sqFirst, f_sqCount, f_doneFirst, f_doneCount, f_cqCount, f_reqCount, a_sqOpFlags, a_sqA, a_sqB, a_sqTag, a_doneTag, a_doneResult, a_reqOpcode, a_reqA, a_reqB, a_reqTag, a_reqState, a_reqTicks, a_reqHasSuccessor, a_blocks, a_buffers) => wX_enter_22 post a b k x f_sqCapacity f_cqCapacity f_latency f_sqFirst f_sqCount f_doneFirst f_doneCount f_cqCount f_reqCount a_sqOpFlags a_sqA a_sqB a_sqTag a_doneTag a_doneResult a_reqOpcode a_reqA a_reqB a_reqTag a_reqState a_reqTicks a_reqHasSuccessor a_blocks a_buffers
def lx_ee (post : Int32 → St2 → Prop) (a b : Int32) (u : St2) : Prop := match u with
  | (f_sqCapacity, f_cqCapacity, f_latency, f_sqFirst, f_sqCount, f_doneFirst, f_doneCount, f_cqCount, f_reqCount, a_sqOpFlags, a_sqA, a_sqB, a_sqTag, a_doneTag, a_doneResult, a_reqOpcode, a_reqA, a_reqB, a_reqTag, a_reqState, a_reqTicks, a_reqHasSuccessor, a_blocks, a_buffers) => wpX_dropPosted (fun u => match u with | (f_sqCapacity, f_cqCapacity, f_latency, f_sqFirst, f_sqCount, f_doneFirst, f_doneCount, f_cqCount, f_reqCount, a_sqOpFlags, a_sqA, a_sqB, a_sqTag, a_doneTag, a_doneResult, a_reqOpcode, a_reqA, a_reqB, a_reqTag, a_reqState, a_reqTicks, a_reqHasSuccessor, a_blocks, a_buffers) => post (b - a) (f_sqCapacity, f_cqCapacity, f_latency, f_sqFirst, f_sqCount, f_doneFirst, f_doneCount, f_cqCount, f_reqCount, a_sqOpFlags, a_sqA, a_sqB, a_sqTag, a_doneTag, a_doneResult, a_reqOpcode, a_reqA, a_reqB, a_reqTag, a_reqState, a_reqTicks, a_reqHasSuccessor, a_blocks, a_buffers)) (f_sqCapacity, f_cqCapacity, f_latency, f_sqFirst, f_sqCount, f_doneFirst, f_doneCount, f_cqCount, f_reqCount, a_sqOpFlags, a_sqA, a_sqB, a_sqTag, a_doneTag, a_doneResult, a_reqOpcode, a_reqA, a_reqB, a_reqTag, a_reqState, a_reqTicks, a_reqHasSuccessor, a_blocks, a_buffers)
def am_K (S C F E n0 c o : Nat) (Lz : Int32) (id : Nat → Nat) (pr lk : Nat → Bool) (xO xA xB xT T R bl bf : Nat → Int32) (k N : Nat) (u : St2) : Prop :=
  ∃ (qF : Nat) (op A B tg hs st tk : Nat → Int32), u = (nI S, nI C, Lz, nI qF, nI N, nI F, nI (c + o), nI c, nI (n0 + k), xO, xA, xB, xT, T, R, op, A, B, tg, st, tk, hs, bl, bf) ∧ am_U n0 E k tg hs st op id pr lk ∧ n0 + k + o ≤ 32 ∧ qF < 16 ∧ ar_B hs ∧ (∀ j, j < N → xT ((qF + j) % 16) = nI (1000 + (E + k + j)) ∧ (¬ xO ((qF + j) % 16) &&& 16 = 0 ↔ lk (E + k + j) = true))
theorem ar_fl_k {x : Int32} {b : Bool} (h : ¬ x &&& 16 = 0 ↔ b = true) : ¬ ar_fl x = 0 ↔ b = true := by
  refine Iff.trans ?_ h
  unfold ar_fl
  by_cases z : x &&& 16 = 0
  · rw [if_pos z]; exact ⟨fun w => absurd rfl w, fun w => absurd z w⟩
  · rw [if_neg z]; exact ⟨fun _ => z, fun _ => ar_10⟩
section
variable {S C F E n0 c o : Nat} {Lz : Int32} {id : Nat → Nat} {pr lk : Nat → Bool} {xO xA xB xT T R bl bf : Nat → Int32}
theorem am_take (X1 : Int32) (post : St2 → Prop) : ∀ (N k : Nat) (u : St2), am_K S C F E n0 c o Lz id pr lk xO xA xB xT T R bl bf k N u → k + N ≤ 16 →
    (∀ k' N' u', k' + N' = k + N → am_K S C F E n0 c o Lz id pr lk xO xA xB xT T R bl bf k' N' u' → lx_52 post (nI n0) u') → ∀ f, N < f → lx_cs post X1 (nI o) (nI n0) f (nI k) u := by
  intro N
  induction N with
  | zero =>
    intro k u hK hk hp f hf
    obtain ⟨f', rfl⟩ : ∃ f', f = f' + 1 := ⟨f - 1, by omega⟩
    have h1 := hp k 0 u rfl hK
    obtain ⟨qF, op, A, B, tg, hs, st, tk, rfl, hU, hno, hqF, hb, hq⟩ := hK
    exact br_c (fun _ => h1) (fun _ => br_t (by decide) h1)
  | succ N ih =>
    intro k u hK hk hp f hf
    obtain ⟨f', rfl⟩ : ∃ f', f = f' + 1 := ⟨f - 1, by omega⟩
    have h1 := hp k (N + 1) u rfl hK
    obtain ⟨qF, op, A, B, tg, hs, st, tk, rfl, hU, hno, hqF, hb, hq⟩ := hK
    refine br_c (fun _ => h1) (fun hx => br_f (nI_nle (by omega) (by omega)) ?_)
    by_cases hfull : 32 ≤ n0 + k + o
    · exact br_t (by rw [nI_add]; exact nI_le (a := 32) hfull (by omega)) h1
    · refine br_f (by rw [nI_add]; exact nI_ge (b := 32) (by omega) (by decide)) (ax_take _ hqF (by omega) (nm_r (nI_1 k) ?_))
      have hq0 := hq 0 (by omega)
      rw [show (qF + 0) % 16 = qF by omega, show E + k + 0 = E + k by omega] at hq0
      have hU' := am_U_S hU (ar_fl_k hq0.2) (xO qF &&& 15)
      rw [← hq0.1] at hU'
      refine ih (k + 1) _ ⟨(qF + 1) % 16, _, _, _, _, _, _, _, rfl, hU', by omega, by omega, ar_Bu hb (ar_fl_B _), fun j hj => ?_⟩ (by omega) (fun k' N' u' a b => hp k' N' u' (by omega) b) f' (by omega)
      have := hq (j + 1) (by omega)
      rw [show (qF + (j + 1)) % 16 = ((qF + 1) % 16 + j) % 16 by omega, show E + k + (j + 1) = E + (k + 1) + j by omega] at this
      exact this
end
section
variable {S C qF qN F n E Pp : Nat} {Lz : Int32} {xO xA xB xT op A B tg hs : Nat → Int32} {id : Nat → Nat} {pr sn ng : Nat → Bool} {st tk : Nat → Int32} {u : St2}
theorem am_eloop (hW : am_W C F n E tg hs id pr) {n0 k : Nat} (hk : n0 + k = n) (hfst : ∀ r, r + 1 = n0 → hs r = 0) (post : Int32 → St2 → Prop) (hend : ∀ (st tk : Nat → Int32) (u : St2), am_G S C qF qN F n E Pp Lz xO xA xB xT op A B tg hs id pr sn ng st tk E u → lx_ee post (nI n0) (nI n) u) :
    ∀ d i (st tk : Nat → Int32) (u : St2), i + d = k → am_G S C qF qN F n E Pp Lz xO xA xB xT op A B tg hs id pr sn ng st tk E u → (∀ h, n0 + i ≤ h → (h = n0 ∨ hs (h - 1) = 0) → ∀ p, h ≤ p → p < n → st p = 0) → ∀ f, d < f → lx_22 post (nI n0) (nI n) f (nI (n0 + i)) u := by
  have hW' := hW
  obtain ⟨hC, hn, hF, hS⟩ := hW'
  intro d
  induction d with
  | zero =>
    intro i st tk u hi hG hInv f hf
    obtain ⟨f', rfl⟩ : ∃ f', f = f' + 1 := ⟨f - 1, by omega⟩
    have h1 := hend st tk u hG
    obtain ⟨c, o, m, Pt, e, H, V, T, R, bl, bf, rfl, hPt, hD, hL, hNn, hB, hP, hc, hmo⟩ := hG
    exact br_t (nI_le (by omega) (by omega)) h1
  | succ d ih =>
    intro i st tk u hi hG hInv f hf
    obtain ⟨f', rfl⟩ : ∃ f', f = f' + 1 := ⟨f - 1, by omega⟩
    have e1 : ¬ i = 0 → nI (n0 + i) - 1 = nI (n0 + i - 1) := fun _ => by
      have := nI_pred (n0 + i - 1)
      rw [show n0 + i - 1 + 1 = n0 + i by omega] at this
      exact this
    by_cases hz : i = 0 ∨ hs (n0 + i - 1) = 0
    · have hst : st (n0 + i) = 0 := by
        refine hInv (n0 + i) (Nat.le_refl _) ?_ (n0 + i) (Nat.le_refl _) (by omega)
        rcases hz with z | z
        · exact Or.inl (by omega)
        · exact Or.inr z
      have hH : ar_H st hs (n0 + i) := by
        intro r hr
        rcases hz with z | z
        · exact Or.inr (hfst r (by omega))
        · rw [show n0 + i - 1 = r by omega] at z; exact Or.inr z
      have hG' := hG
      obtain ⟨c, o, m, Pt, e, H, V, T, R, bl, bf, rfl, hPt, hD, hL, hNn, hB, hP, hc, hmo⟩ := hG
      have h46 : wX_enter_46 post (wX_enter_22 post (nI n0) (nI n) f') (nI n0) (nI n) (nI (n0 + i)) (nI S) (nI C) Lz (nI qF) (nI qN) (nI F) (nI (c + o)) (nI c) (nI n) xO xA xB xT T R op A B tg st tk hs bl bf := by
        unfold wX_enter_46
        refine lx_rc_w _ (d + 2) _ _ (am_run hW _ (d + 1) (n0 + i) st tk _ (by omega) (by omega) hG' (Or.inl hst) hH (fun u' st' tk' g1 g2 => ?_) (d + 2) (by omega))
        have h3 := ih (i + 1) st' tk' u' (by omega) g1 (fun h h1 h2 p h3 h4 => by
          have h5 : hs (h - 1) = 0 := by
            rcases h2 with z | z
            · omega
            · exact z
          exact g2.2 h (by omega) h5 (hInv h (by omega) (Or.inr h5)) p h3 h4) f' (by omega)
        obtain ⟨c1, o1, m1, Pt1, e1, H1, V1, T1, R1, bl1, bf1, rfl, hPt1, hD1, hL1, hNn1, hB1, hP1, hc1, hmo1⟩ := g1
        exact nm_r (nI_1 (n0 + i)) h3
      refine br_f (nI_ge (by omega) (by omega)) ?_
      by_cases y : i = 0
      · exact br_t (by rw [y]; rfl) h46
      · have z : hs (n0 + i - 1) = 0 := by
          rcases hz with z | z
          · exact absurd z y
          · exact z
        exact br_f (by rw [nI_eq (by omega) (by omega)]; omega) ⟨by rw [e1 y]; exact vp_in_nI (by omega) (by omega), br_t (by rw [e1 y, nI_clamp (by omega)]; exact z) h46⟩
    · have hi0 : ¬ i = 0 := fun w => hz (Or.inl w)
      have h3 := ih (i + 1) st tk u (by omega) hG (fun h h1 => hInv h (by omega)) f' (by omega)
      obtain ⟨c, o, m, Pt, e, H, V, T, R, bl, bf, rfl, hPt, hD, hL, hNn, hB, hP, hc, hmo⟩ := hG
      exact br_f (nI_ge (by omega) (by omega)) (br_f (by rw [nI_eq (by omega) (by omega)]; omega) ⟨by rw [e1 hi0]; exact vp_in_nI (by omega) (by omega), br_f (by rw [e1 hi0, nI_clamp (by omega)]; exact fun w => hz (Or.inr w)) (nm_r (nI_1 (n0 + i)) h3)⟩)
end
section
variable {S C F n qF qN c o : Nat} {Lz : Int32} {xO xA xB xT op A B tg hs T R st tk bl bf : Nat → Int32}
theorem ax_flush (post : St2 → Prop) (hC : C ≤ 16) (hc : c ≤ C) (ho : o ≤ 32) (h : ∀ c' o', c' + o' = c + o → c' ≤ C → o' ≤ o → post (nI S, nI C, Lz, nI qF, nI qN, nI F, nI (c' + o'), nI c', nI n, xO, xA, xB, xT, T, R, op, A, B, tg, st, tk, hs, bl, bf)) : wpX_flush post (nI S, nI C, Lz, nI qF, nI qN, nI F, nI (c + o), nI c, nI n, xO, xA, xB, xT, T, R, op, A, B, tg, st, tk, hs, bl, bf) := by
  refine br_c (fun z => ?_) (fun z => ?_)
  · have z' : C ≤ c + o := (nI_leI (by omega) (by omega)).mp z
    have h1 := h C (c + o - C) (by omega) (by omega) (by omega)
    rw [show C + (c + o - C) = c + o by omega] at h1
    exact h1
  · have z' : ¬ C ≤ c + o := fun w => z (nI_le w (by omega))
    exact h (c + o) 0 (by omega) (by omega) (by omega)
end
theorem am_pr_lt {pr lk : Nat → Bool} {E k : Nat} (hpr : ∀ i, pr i = true → i + 1 < E) : ∀ i, am_pr pr lk E k i = true → i + 1 < E + k := by
  intro i hi
  unfold am_pr at hi
  by_cases z : E ≤ i ∧ i + 1 < E + k
  · exact z.2
  · rw [if_neg z] at hi; have := hpr i hi; omega
theorem am_enter {E Pp acc : Nat} {pr sn ng lk : Nat → Bool} {u : St2} (hR : am_R E Pp acc pr sn ng lk u) (X1 : Int32) (post : Int32 → St2 → Prop) (h : ∀ k u', E + k ≤ acc → am_R (E + k) Pp acc (am_pr pr lk E k) sn ng lk u' → post (nI k) u') : wpX_enter post u X1 := by
  obtain ⟨S, C, qF, qN, F, n0, Lz, xO, xA, xB, xT, op0, A0, B0, tg0, hs0, st0, tk0, id, c0, o0, Pt, H, V, T, R, bl, bf, rfl, hPt, hD0, hL0, hNn0, hB0, hP0, hc0, hmo0, hW0, hbh, hacc, hqS, hS16, hqF, hq, hpr⟩ := hR
  obtain ⟨hC, hn0, hF, hS0⟩ := hW0
  have hO := am_O_of hL0 hNn0
  have hU0 : am_U n0 E 0 tg0 hs0 st0 op0 id pr lk := ⟨hS0, hL0.2.2.1, fun p hp => (hL0.1.2.1 p hp).2, hP0, fun j hj => absurd hj (by omega)⟩
  unfold wpX_enter
  refine ax_flush _ hC hc0 (by omega) (fun c o h1 h2 h3 => ?_)
  have e2 : nI (c + o) - nI c = nI o := by rw [pk_sub (by omega), show c + o - c = o by omega]
  refine nm_r e2 ⟨qN + 1, am_take (S := S) (C := C) (F := F) (E := E) (n0 := n0) (c := c) (o := o) (Lz := Lz) (id := id) (pr := pr) (lk := lk) (xO := xO) (xA := xA) (xB := xB) (xT := xT) (T := T) (R := R) (bl := bl) (bf := bf) X1 _ qN 0 _ ⟨qF, op0, A0, B0, tg0, hs0, st0, tk0, rfl, hU0, by omega, hqF, hbh, hq⟩ (by omega) (fun k N u2 hkN hK => ?_) (qN + 1) (by omega)⟩
  obtain ⟨qF1, op, A, B, tg, hs, st, tk, rfl, hU, hno, hqF1, hb, hq1⟩ := hK
  obtain ⟨a1, a2, a3, a4⟩ := am_new hO hU hpr
  have hWn : am_W C F (n0 + k) (E + k) tg (ar_he hs n0 k) (am_id id n0 E) (am_pr pr lk E k) := ⟨hC, by omega, hF, a1⟩
  have hD' : am_D F (c + o) Pp T R H V := by rw [h1]; exact hD0
  have hG : am_G S C qF1 N F (n0 + k) (E + k) Pp Lz xO xA xB xT op A B tg (ar_he hs n0 k) (am_id id n0 E) (am_pr pr lk E k) sn ng st tk (E + k) (nI S, nI C, Lz, nI qF1, nI N, nI F, nI (c + o), nI c, nI (n0 + k), xO, xA, xB, xT, T, R, op, A, B, tg, st, tk, ar_he hs n0 k, bl, bf) :=
    ⟨c, o, n0 + k, Pt, (fun j => j), H, V, T, R, bl, bf, rfl, by omega, hD', a2, a3, hB0, a4, h2, by omega⟩
  have hst : ∀ p, n0 ≤ p → p < n0 + k → st p = 0 := fun p g1 g2 => by
    have := (hU.2.2.2.2 (p - n0) (by omega)).2.2
    rw [show n0 + (p - n0) = p by omega] at this
    exact this
  have hfst : ∀ r, r + 1 = n0 → ar_he hs n0 k r = 0 := by
    intro r hr
    have e1 : ar_he hs n0 k r = hs r := if_neg (by omega)
    rw [e1]
    by_cases z : hs r = 0
    · exact z
    · have := (hU.2.1 r (by omega) (hU.2.2.1 r (by omega)) z).1
      omega
  have hend : ∀ (st tk : Nat → Int32) (u : St2), am_G S C qF1 N F (n0 + k) (E + k) Pp Lz xO xA xB xT op A B tg (ar_he hs n0 k) (am_id id n0 E) (am_pr pr lk E k) sn ng st tk (E + k) u → lx_ee post (nI n0) (nI (n0 + k)) u := by
    intro st tk u hG
    have hd := fun P => am_drop (lk := lk) (acc := acc) hWn (ar_he_B hb) (by omega) (by omega) hS16 hqF1 hq1 (am_pr_lt hpr) hG P
    obtain ⟨c1, o1, m1, Pt1, e1, H1, V1, T1, R1, bl1, bf1, rfl, hPt1, hD1, hL1, hNn1, hB1, hP1, hc1, hmo1⟩ := hG
    refine hd _ (fun u' hR' => ?_)
    have h2 := h k u' (by omega) hR'
    rw [show nI k = nI (n0 + k) - nI n0 by rw [pk_sub (by omega), show n0 + k - n0 = k by omega]] at h2
    obtain ⟨w0, w1, w2, w3, w4, w5, w6, w7, w8, w9, w10, w11, w12, w13, w14, w15, w16, w17, w18, w19, w20, w21, w22, w23⟩ := u'
    exact h2
  have key := am_eloop hWn (n0 := n0) (k := k) rfl hfst post hend k 0 st tk _ (by omega) hG (fun g g1 _ p g3 g4 => hst p (by omega) g4) (k + 1) (by omega)
  by_cases z : k = 0
  · subst z
    rw [ar_he_0] at key
    exact br_t (nI_le (by omega) (by omega)) ⟨_, key⟩
  · have e1 : nI (n0 + k) - 1 = nI (n0 + k - 1) := by
      have := nI_pred (n0 + k - 1)
      rw [show n0 + k - 1 + 1 = n0 + k by omega] at this
      exact this
    refine br_f (nI_ge (by omega) (by omega)) ⟨by rw [e1]; exact vp_in_nI (by omega) (by omega), nm_r (e' := ar_he hs n0 k) ?_ ⟨_, key⟩⟩
    rw [e1, nI_clamp (by omega), ar_he_k (by omega)]
