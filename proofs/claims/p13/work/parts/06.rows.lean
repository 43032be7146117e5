def lx_pcc (post : St2 → Prop) (k : Nat) (x : Int32) (u : St2) : Prop := match u with
  | (f_sqCapacity, f_cqCapacity, f_latency, f_sqFirst, f_sqCount, f_doneFirst, f_doneCount, f_cqCount, f_reqCount, a_sqOpFlags, a_sqA, a_sqB, a_sqTag, a_doneTag, a_doneResult, a_reqOpcode, a_reqA, a_reqB, a_reqTag, a_reqState, a_reqTicks, a_reqHasSuccessor, a_blocks, a_buffers) => wX_postCanceledChain_2 post k x f_sqCapacity f_cqCapacity f_latency f_sqFirst f_sqCount f_doneFirst f_doneCount f_cqCount f_reqCount a_sqOpFlags a_sqA a_sqB a_sqTag a_doneTag a_doneResult a_reqOpcode a_reqA a_reqB a_reqTag a_reqState a_reqTicks a_reqHasSuccessor a_blocks a_buffers
theorem lx_pcc_w (post : St2 → Prop) (k : Nat) (x : Int32) : ∀ u : St2, lx_pcc post k x u → wpX_postCanceledChain post u x
  | (f_sqCapacity, f_cqCapacity, f_latency, f_sqFirst, f_sqCount, f_doneFirst, f_doneCount, f_cqCount, f_reqCount, a_sqOpFlags, a_sqA, a_sqB, a_sqTag, a_doneTag, a_doneResult, a_reqOpcode, a_reqA, a_reqB, a_reqTag, a_reqState, a_reqTicks, a_reqHasSuccessor, a_blocks, a_buffers), h => ⟨k, h⟩
def lx_cp (post : Int32 → St2 → Prop) (a : Int32) (k : Nat) (x y : Int32) (u : St2) : Prop := match u with
  | (f_sqCapacity, f_cqCapacity, f_latency, f_sqFirst, f_sqCount, f_doneFirst, f_doneCount, f_cqCount, f_reqCount, a_sqOpFlags, a_sqA, a_sqB, a_sqTag, a_doneTag, a_doneResult, a_reqOpcode, a_reqA, a_reqB, a_reqTag, a_reqState, a_reqTicks, a_reqHasSuccessor, a_blocks, a_buffers) => wX_cancelPending_4 post a k x y f_sqCapacity f_cqCapacity f_latency f_sqFirst f_sqCount f_doneFirst f_doneCount f_cqCount f_reqCount a_sqOpFlags a_sqA a_sqB a_sqTag a_doneTag a_doneResult a_reqOpcode a_reqA a_reqB a_reqTag a_reqState a_reqTicks a_reqHasSuccessor a_blocks a_buffers
theorem lx_cp_w (post : Int32 → St2 → Prop) (a : Int32) (k : Nat) : ∀ u : St2, lx_cp post a k 0 0 u → wpX_cancelPending post u a
  | (f_sqCapacity, f_cqCapacity, f_latency, f_sqFirst, f_sqCount, f_doneFirst, f_doneCount, f_cqCount, f_reqCount, a_sqOpFlags, a_sqA, a_sqB, a_sqTag, a_doneTag, a_doneResult, a_reqOpcode, a_reqA, a_reqB, a_reqTag, a_reqState, a_reqTicks, a_reqHasSuccessor, a_blocks, a_buffers), h => ⟨k, h⟩
def lx_rc (post : St2 → Prop) (k : Nat) (x : Int32) (u : St2) : Prop := match u with
  | (f_sqCapacity, f_cqCapacity, f_latency, f_sqFirst, f_sqCount, f_doneFirst, f_doneCount, f_cqCount, f_reqCount, a_sqOpFlags, a_sqA, a_sqB, a_sqTag, a_doneTag, a_doneResult, a_reqOpcode, a_reqA, a_reqB, a_reqTag, a_reqState, a_reqTicks, a_reqHasSuccessor, a_blocks, a_buffers) => wX_runChain_2 post k x f_sqCapacity f_cqCapacity f_latency f_sqFirst f_sqCount f_doneFirst f_doneCount f_cqCount f_reqCount a_sqOpFlags a_sqA a_sqB a_sqTag a_doneTag a_doneResult a_reqOpcode a_reqA a_reqB a_reqTag a_reqState a_reqTicks a_reqHasSuccessor a_blocks a_buffers
theorem lx_rc_w (post : St2 → Prop) (k : Nat) (x : Int32) : ∀ u : St2, lx_rc post k x u → wpX_runChain post u x
  | (f_sqCapacity, f_cqCapacity, f_latency, f_sqFirst, f_sqCount, f_doneFirst, f_doneCount, f_cqCount, f_reqCount, a_sqOpFlags, a_sqA, a_sqB, a_sqTag, a_doneTag, a_doneResult, a_reqOpcode, a_reqA, a_reqB, a_reqTag, a_reqState, a_reqTicks, a_reqHasSuccessor, a_blocks, a_buffers), h => ⟨k, h⟩
def lx_28 (post : St2 → Prop) (k : Nat) (x z : Int32) (u : St2) : Prop := match u with
  | (f_sqCapacity, f_cqCapacity, f_latency, f_sqFirst, f_sqCount, f_doneFirst, f_doneCount, f_cqCount, f_reqCount, a_sqOpFlags, a_sqA, a_sqB, a_sqTag, a_doneTag, a_doneResult, a_reqOpcode, a_reqA, a_reqB, a_reqTag, a_reqState, a_reqTicks, a_reqHasSuccessor, a_blocks, a_buffers) => wX_runChain_28 post (wX_runChain_2 post k) x z f_sqCapacity f_cqCapacity f_latency f_sqFirst f_sqCount f_doneFirst f_doneCount f_cqCount f_reqCount a_sqOpFlags a_sqA a_sqB a_sqTag a_doneTag a_doneResult a_reqOpcode a_reqA a_reqB a_reqTag a_reqState a_reqTicks a_reqHasSuccessor a_blocks a_buffers
section
variable {S C qF qN F n E Pp : Nat} {Lz : Int32} {xO xA xB xT op A B tg hs : Nat → Int32} {id : Nat → Nat} {pr sn ng : Nat → Bool} {st tk : Nat → Int32} {u : St2}
theorem am_chain (hW : am_W C F n E tg hs id pr) (post : St2 → Prop) : ∀ d f (st : Nat → Int32) (x : Nat) (u : St2), f + d = n → 0 < d → am_G S C qF qN F n E Pp Lz xO xA xB xT op A B tg hs id pr sn ng st tk x u → (x = E ∨ x + 1 = id f) → ¬ st f = 2 → ar_H st hs f →
    (∀ u' st', am_G S C qF qN F n E Pp Lz xO xA xB xT op A B tg hs id pr sn ng st' tk E u' → ar_FC hs st st' f → post u') → ∀ k, d < k → lx_pcc post k (nI f) u := by
  have hW' := hW
  obtain ⟨hC, hn, hF, hS⟩ := hW'
  intro d
  induction d with
  | zero => intro f st x u _ h0; exact absurd h0 (by omega)
  | succ d ih =>
    intro f st x u hf _ hG hx ha hH hp k hk
    obtain ⟨k', rfl⟩ : ∃ k', k = k' + 1 := ⟨k - 1, by omega⟩
    have hx2 : x = E ∨ (x + 1 = id f ∧ (-125 : Int32) = -125) := by
      rcases hx with z | z
      · exact Or.inl z
      · exact Or.inr ⟨z, rfl⟩
    have hCh := am_G_C hG
    have hw := fun post => am_wpost hW hG (show f < n by omega) ha hH (-125) hx2 post
    have hpr : hs f = 0 → pr (id f) = false := fun z => by
      by_cases y : pr (id f) = true
      · exact absurd z ((hS.2.2.1 f (by omega)).mpr y)
      · exact Bool.eq_false_iff.mpr y
    obtain ⟨c, o, m, Pt, e, H, V, T, R, bl, bf, rfl, hPt, hD, hL, hNn, hB, hP, hc, hmo⟩ := hG
    refine br_f (nI_ge (by omega) (by omega)) (hw _ (fun u1 hG1 _ => ?_))
    have hG1' := hG1
    obtain ⟨c1, o1, m1, Pt1, e1, H1, V1, T1, R1, bl1, bf1, rfl, hPt1, hD1, hL1, hNn1, hB1, hP1, hc1, hmo1⟩ := hG1
    refine And.intro (vp_in_nI (by omega) (by omega)) ?_
    by_cases hh : hs f = 0
    · exact br_t (by rw [nI_clamp (by omega)]; exact hh) (hp _ _ (am_G_x hG1' (hpr hh) E) ar_FC_1)
    · obtain ⟨g1, g2⟩ := hCh f (by omega) ha hh
      obtain ⟨g3, g4⟩ := hS.2.2.2 f (by omega) hh
      refine br_f (by rw [nI_clamp (by omega)]; exact hh) (nm_r (nI_1 f) (ih (f + 1) _ _ _ (by omega) (by omega) hG1' (Or.inr g4.symm) (by rw [pk_un (by omega), g2]; exact ar_02) (fun r hr => Or.inl (by rw [show r = f by omega]; exact pk_us)) (fun u' st' a b => hp u' st' a (ar_FC_S hh g2 b)) k' (by omega)))
theorem am_cancel (hW : am_W C F n E tg hs id pr) (a : Int32) (post : Int32 → St2 → Prop) : ∀ d f (st : Nat → Int32) (x : Int32) (u : St2), f + d = n → am_G S C qF qN F n E Pp Lz xO xA xB xT op A B tg hs id pr sn ng st tk E u →
    (∀ r u' st', am_G S C qF qN F n E Pp Lz xO xA xB xT op A B tg hs id pr sn ng st' tk E u' → ar_FK n hs st st' → post r u') → ∀ k, d < k → lx_cp post a k x (nI f) u := by
  have hW' := hW
  obtain ⟨hC, hn, hF, hS⟩ := hW'
  intro d
  induction d with
  | zero =>
    intro f st x u hf hG hp k hk
    obtain ⟨k', rfl⟩ : ∃ k', k = k' + 1 := ⟨k - 1, by omega⟩
    have h1 := fun r => hp r u st hG ar_FK_0
    obtain ⟨c, o, m, Pt, e, H, V, T, R, bl, bf, rfl, hPt, hD, hL, hNn, hB, hP, hc, hmo⟩ := hG
    exact br_t (nI_le (by omega) (by omega)) (br_c (fun _ => h1 _) (fun _ => h1 _))
  | succ d ih =>
    intro f st x u hf hG hp k hk
    obtain ⟨k', rfl⟩ : ∃ k', k = k' + 1 := ⟨k - 1, by omega⟩
    have hCh := am_G_C hG
    have hnext : ∀ y : Int32, lx_cp post a k' y (nI (f + 1)) u := fun y => ih (f + 1) st y u (by omega) hG hp k' (by omega)
    have hG' := hG
    obtain ⟨c, o, m, Pt, e, H, V, T, R, bl, bf, rfl, hPt, hD, hL, hNn, hB, hP, hc, hmo⟩ := hG
    refine br_f (nI_ge (by omega) (by omega)) ⟨vp_in_nI (by omega) (by omega), ?_⟩
    by_cases z : st f = 1
    · refine br_t (by rw [nI_clamp (by omega)]; exact z) ⟨vp_in_nI (by omega) (by omega), ?_⟩
      by_cases y : tg f = a
      · refine br_t (by rw [nI_clamp (by omega)]; exact y) (lx_pcc_w _ (n - f + 1) _ _ (am_chain hW _ (n - f) f st E _ (by omega) (by omega) hG' (Or.inl rfl) (by rw [z]; exact ar_12) (ar_H_pend hCh (by omega) z) (fun u' st' g1 g2 => ?_) _ (by omega)))
        have h3 := ih (f + 1) st' (x + 1) u' (by omega) g1 (fun r u2 st2 a1 a2 => hp r u2 st2 a1 (ar_FK_S (by omega) z g2 a2)) k' (by omega)
        obtain ⟨c1, o1, m1, Pt1, e1, H1, V1, T1, R1, bl1, bf1, rfl, hPt1, hD1, hL1, hNn1, hB1, hP1, hc1, hmo1⟩ := g1
        exact nm_e (nm_r (nI_1 f) h3)
      · exact br_f (by rw [nI_clamp (by omega)]; exact y) (nm_r (nI_1 f) (hnext x))
    · exact br_f (by rw [nI_clamp (by omega)]; exact z) (nm_r (nI_1 f) (hnext x))
theorem am_exec (hW : am_W C F n E tg hs id pr) (post : Int32 → St2 → Prop) {p : Nat} (hp : p < n) (hG : am_G S C qF qN F n E Pp Lz xO xA xB xT op A B tg hs id pr sn ng st tk E u)
    (h : ∀ r u' st', am_G S C qF qN F n E Pp Lz xO xA xB xT op A B tg hs id pr sn ng st' tk E u' → ar_FK n hs st st' → (¬ op p = 5 → st' = st) → post r u') : wpX_execute post u (nI p) := by
  have hW' := hW
  obtain ⟨hC, hn, hF, hS⟩ := hW'
  have hcan : op p = 5 → ∀ P : Int32 → St2 → Prop, (∀ r u', post r u' → P r u') → wpX_cancelPending P u (A p) := fun h5 P hP => lx_cp_w P (A p) (n + 1) u (am_cancel hW (A p) P n 0 st 0 u (by omega) hG (fun r u' st' a b => hP r u' (h r u' st' a b (fun w => absurd h5 w))) (n + 1) (by omega))
  obtain ⟨c, o, m, Pt, e, H, V, T, R, bl, bf, rfl, hPt, hD, hL, hNn, hB, hP, hc, hmo⟩ := hG
  have hdev : ∀ r (bl' bf' : Nat → Int32), post r (nI S, nI C, Lz, nI qF, nI qN, nI F, nI (c + o), nI c, nI n, xO, xA, xB, xT, T, R, op, A, B, tg, st, tk, hs, bl', bf') := fun r bl' bf' => h r _ st ⟨c, o, m, Pt, e, H, V, T, R, bl', bf', rfl, hPt, hD, hL, hNn, hB, hP, hc, hmo⟩ ar_FK_0 (fun _ => rfl)
  exact ax_exec post (by omega) (fun _ => hdev _ _ _) (fun _ => hdev _ _ _) (fun _ _ => hdev _ _ _) (fun _ _ => hdev _ _ _) (fun _ _ => ⟨fun _ => hdev _ _ _, fun _ => hdev _ _ _⟩) (fun _ _ => hdev _ _ _) hcan
theorem am_run (hW : am_W C F n E tg hs id pr) (post : St2 → Prop) : ∀ d f (st tk : Nat → Int32) (u : St2), f + d = n → 0 < d → am_G S C qF qN F n E Pp Lz xO xA xB xT op A B tg hs id pr sn ng st tk E u → (st f = 0 ∨ st f = 1) → ar_H st hs f →
    (∀ u' st' tk', am_G S C qF qN F n E Pp Lz xO xA xB xT op A B tg hs id pr sn ng st' tk' E u' → ar_FR n hs st tk st' tk' f → post u') → ∀ k, d < k → lx_rc post k (nI f) u := by
  have hW' := hW
  obtain ⟨hC, hn, hF, hS⟩ := hW'
  intro d
  induction d with
  | zero => intro f st tk u _ h0; exact absurd h0 (by omega)
  | succ d ih =>
    intro f st tk u hf _ hG ha hH hp k hk
    obtain ⟨k', rfl⟩ : ∃ k', k = k' + 1 := ⟨k - 1, by omega⟩
    have hCh := am_G_C hG
    have hG' := hG
    obtain ⟨c, o, m, Pt, e, H, V, T, R, bl, bf, rfl, hPt, hD, hL, hNn, hB, hP, hc, hmo⟩ := hG
    have hpr : hs f = 0 → pr (id f) = false := fun z => by
      by_cases y : pr (id f) = true
      · exact absurd z ((hS.2.2.1 f (by omega)).mpr y)
      · exact Bool.eq_false_iff.mpr y
    have h28 : ∀ t : Int32, (¬ t ≤ 0 → st f = 0 ∧ ¬ op f = 5) → wX_runChain_28 post (wX_runChain_2 post k') (nI f) t (nI S) (nI C) Lz (nI qF) (nI qN) (nI F) (nI (c + o)) (nI c) (nI n) xO xA xB xT T R op A B tg st tk hs bl bf := by
      intro t ht
      refine br_c (fun _ => am_exec hW _ (show f < n by omega) hG' (fun r u1 st1 hG1 hF1 hst1 => ?_)) (fun gt => ?_)
      · have ha1 : st1 f = 0 ∨ st1 f = 1 := by
          rcases ha with z | z
          · exact Or.inl (ar_FK_c hCh hF1 z hH)
          · rw [hst1 (hP f (by omega) z)]; exact Or.inr z
        have hal1 : ¬ st1 f = 2 := by
          rcases ha1 with z | z <;> rw [z]
          · exact ar_02
          · exact ar_12
        have hH1 := ar_FK_H hF1 hH
        have hCh1 := am_G_C hG1
        have hw := fun post => am_wpost hW hG1 (show f < n by omega) hal1 hH1 r (Or.inl rfl) post
        obtain ⟨c1, o1, m1, Pt1, e1, H1, V1, T1, R1, bl1, bf1, rfl, hPt1, hD1, hL1, hNn1, hB1, hP1, hc1, hmo1⟩ := hG1
        refine hw _ (fun u2 hG2 hG2E => ?_)
        have hG2' := hG2
        obtain ⟨c2, o2, m2, Pt2, e2, H2, V2, T2, R2, bl2, bf2, rfl, hPt2, hD2, hL2, hNn2, hB2, hP2, hc2, hmo2⟩ := hG2
        refine And.intro (vp_in_nI (by omega) (by omega)) ?_
        by_cases hh : hs f = 0
        · exact br_t (by rw [nI_clamp (by omega)]; exact hh) (hp _ _ _ (am_G_x hG2' (hpr hh) E) (ar_FR_K hF1 ar_FR_1))
        · obtain ⟨g1, g2⟩ := hCh1 f (by omega) hal1 hh
          obtain ⟨g3, g4⟩ := hS.2.2.2 f (by omega) hh
          have hst2 : upd st1 f 2 (f + 1) = 0 := by rw [pk_un (by omega)]; exact g2
          have hH2 : ar_H (upd st1 f 2) hs (f + 1) := fun r hr => Or.inl (by rw [show r = f by omega]; exact pk_us)
          refine br_f (by rw [nI_clamp (by omega)]; exact hh) (br_c (fun hr => ?_) (fun hr => ?_))
          · have h3 := ih (f + 1) (upd st1 f 2) tk _ (by omega) (by omega) (hG2E (Int32.not_lt.mpr hr) rfl) (Or.inl hst2) hH2 (fun u3 st3 tk3 a1 a2 => hp u3 st3 tk3 a1 (ar_FR_K hF1 (ar_FR_S hh a2))) k' (by omega)
            exact nm_r (nI_1 f) h3
          · rw [nI_1 f]
            refine lx_pcc_w _ (n - (f + 1) + 1) _ _ (am_chain hW _ (n - (f + 1)) (f + 1) (upd st1 f 2) (id f) _ (by omega) (by omega) hG2' (Or.inr g4.symm) (by rw [hst2]; exact ar_02) hH2 (fun u3 st3 a1 a2 => ?_) _ (by omega))
            have h5 := hp u3 st3 tk a1 (ar_FR_K hF1 (ar_FR_C hh a2))
            obtain ⟨c3, o3, m3, Pt3, e3, H3, V3, T3, R3, bl3, bf3, rfl, hPt3, hD3, hL3, hNn3, hB3, hP3, hc3, hmo3⟩ := a1
            exact h5
      · obtain ⟨z, y⟩ := ht gt
        have hG1 : am_G S C qF qN F n E Pp Lz xO xA xB xT op A B tg hs id pr sn ng (upd st f 1) (upd tk f t) E (nI S, nI C, Lz, nI qF, nI qN, nI F, nI (c + o), nI c, nI n, xO, xA, xB, xT, T, R, op, A, B, tg, upd st f 1, upd tk f t, hs, bl, bf) := by
          refine ⟨c, o, m, Pt, e, H, V, T, R, bl, bf, rfl, hPt, hD, am_L_pend hL (by rw [z]; exact ar_02) hH, am_N_st hNn (fun p _ w => ?_), hB, fun p a b => ?_, hc, hmo⟩
          · by_cases ep : p = f
            · rw [ep, z] at w; exact absurd w ar_02
            · rw [pk_un ep]; exact w
          · by_cases ep : p = f
            · rw [ep]; exact y
            · rw [pk_un ep] at b; exact hP p a b
        exact ⟨vp_in_nI (by omega) (by omega), nm_r (ar_uc st 1 (by omega)) ⟨vp_in_nI (by omega) (by omega), nm_r (ar_uc tk t (by omega)) (hp _ _ _ hG1 (ar_FR_W (fun w => gt (by rw [w]; decide))))⟩⟩
    refine br_f (nI_ge (by omega) (by omega)) ⟨vp_in_nI (by omega) (by omega), br_c (fun z => ?_) (fun _ => h28 0 (fun w => absurd (show (0 : Int32) ≤ 0 by decide) w))⟩
    rw [nI_clamp (by omega)] at z
    refine ax_tw _ (by omega) (fun _ => h28 0 (fun w => absurd (show (0 : Int32) ≤ 0 by decide) w)) (fun hk _ => h28 _ (fun _ => ⟨z, fun w => ?_⟩)) (fun hk _ => h28 _ (fun _ => ⟨z, fun w => ?_⟩))
    · rcases ar_ok_k hk with y | y | y | y <;> rw [y] at w <;> exact absurd w (by decide)
    · rcases ar_ok_k hk with y | y | y | y <;> rw [y] at w <;> exact absurd w (by decide)
end
