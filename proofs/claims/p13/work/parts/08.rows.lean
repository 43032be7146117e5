def lx_tk (post : Int32 → St2 → Prop) (a : Int32) (k : Nat) (x : Int32) (u : St2) : Prop := match u with
  | (f_sqCapacity, f_cqCapacity, f_latency, f_sqFirst, f_sqCount, f_doneFirst, f_doneCount, f_cqCount, f_reqCount, a_sqOpFlags, a_sqA, a_sqB, a_sqTag, a_doneTag, a_doneResult, a_reqOpcode, a_reqA, a_reqB, a_reqTag, a_reqState, a_reqTicks, a_reqHasSuccessor, a_blocks, a_buffers) => wX_tick_15 post a k x f_sqCapacity f_cqCapacity f_latency f_sqFirst f_sqCount f_doneFirst f_doneCount f_cqCount f_reqCount a_sqOpFlags a_sqA a_sqB a_sqTag a_doneTag a_doneResult a_reqOpcode a_reqA a_reqB a_reqTag a_reqState a_reqTicks a_reqHasSuccessor a_blocks a_buffers
def lx_te (post : Int32 → St2 → Prop) (a : Int32) (u : St2) : Prop := match u with
  | (f_sqCapacity, f_cqCapacity, f_latency, f_sqFirst, f_sqCount, f_doneFirst, f_doneCount, f_cqCount, f_reqCount, a_sqOpFlags, a_sqA, a_sqB, a_sqTag, a_doneTag, a_doneResult, a_reqOpcode, a_reqA, a_reqB, a_reqTag, a_reqState, a_reqTicks, a_reqHasSuccessor, a_blocks, a_buffers) => wpX_dropPosted (fun u => match u with | (f_sqCapacity, f_cqCapacity, f_latency, f_sqFirst, f_sqCount, f_doneFirst, f_doneCount, f_cqCount, f_reqCount, a_sqOpFlags, a_sqA, a_sqB, a_sqTag, a_doneTag, a_doneResult, a_reqOpcode, a_reqA, a_reqB, a_reqTag, a_reqState, a_reqTicks, a_reqHasSuccessor, a_blocks, a_buffers) => post (a - f_reqCount) (f_sqCapacity, f_cqCapacity, f_latency, f_sqFirst, f_sqCount, f_doneFirst, f_doneCount, f_cqCount, f_reqCount, a_sqOpFlags, a_sqA, a_sqB, a_sqTag, a_doneTag, a_doneResult, a_reqOpcode, a_reqA, a_reqB, a_reqTag, a_reqState, a_reqTicks, a_reqHasSuccessor, a_blocks, a_buffers)) (f_sqCapacity, f_cqCapacity, f_latency, f_sqFirst, f_sqCount, f_doneFirst, f_doneCount, f_cqCount, f_reqCount, a_sqOpFlags, a_sqA, a_sqB, a_sqTag, a_doneTag, a_doneResult, a_reqOpcode, a_reqA, a_reqB, a_reqTag, a_reqState, a_reqTicks, a_reqHasSuccessor, a_blocks, a_buffers)
section
variable {S C qF qN F n E Pp : Nat} {Lz : Int32} {xO xA xB xT op A B tg hs : Nat → Int32} {id : Nat → Nat} {pr sn ng : Nat → Bool} {st tk : Nat → Int32} {u : St2}
theorem am_tloop (hW : am_W C F n E tg hs id pr) (post : Int32 → St2 → Prop) (hend : ∀ (st tk : Nat → Int32) (u : St2), am_G S C qF qN F n E Pp Lz xO xA xB xT op A B tg hs id pr sn ng st tk E u → lx_te post (nI n) u) : ∀ d f (st tk : Nat → Int32) (u : St2), f + d = n → am_G S C qF qN F n E Pp Lz xO xA xB xT op A B tg hs id pr sn ng st tk E u → ∀ k, d < k → lx_tk post (nI n) k (nI f) u := by
  have hW' := hW
  obtain ⟨hC, hn, hF, hS⟩ := hW'
  intro d
  induction d with
  | zero =>
    intro f st tk u hf hG k hk
    obtain ⟨k', rfl⟩ : ∃ k', k = k' + 1 := ⟨k - 1, by omega⟩
    have h1 := hend st tk u hG
    obtain ⟨c, o, m, Pt, e, H, V, T, R, bl, bf, rfl, hPt, hD, hL, hNn, hB, hP, hc, hmo⟩ := hG
    exact br_t (nI_le (by omega) (by omega)) h1
  | succ d ih =>
    intro f st tk u hf hG k hk
    obtain ⟨k', rfl⟩ : ∃ k', k = k' + 1 := ⟨k - 1, by omega⟩
    have hnext := ih (f + 1) st tk u (by omega) hG k' (by omega)
    have hCh := am_G_C hG
    have hG' := hG
    obtain ⟨c, o, m, Pt, e, H, V, T, R, bl, bf, rfl, hPt, hD, hL, hNn, hB, hP, hc, hmo⟩ := hG
    refine br_f (nI_ge (by omega) (by omega)) ⟨vp_in_nI (by omega) (by omega), ?_⟩
    by_cases z : st f = 1
    · refine br_t (by rw [nI_clamp (by omega)]; exact z) ⟨vp_in_nI (by omega) (by omega), br_c (fun y => ?_) (fun _ => nm_r (nI_1 f) hnext)⟩
      refine lx_rc_w _ (d + 2) _ _ (am_run hW _ (d + 1) f st tk _ (by omega) (by omega) hG' (Or.inr z) (ar_H_pend hCh (by omega) z) (fun u' st' tk' g1 _ => ?_) (d + 2) (by omega))
      have h3 := ih (f + 1) st' tk' u' (by omega) g1 k' (by omega)
      obtain ⟨c1, o1, m1, Pt1, e1, H1, V1, T1, R1, bl1, bf1, rfl, hPt1, hD1, hL1, hNn1, hB1, hP1, hc1, hmo1⟩ := g1
      exact nm_r (nI_1 f) h3
    · exact br_f (by rw [nI_clamp (by omega)]; exact z) (nm_r (nI_1 f) hnext)
end
theorem am_tick {E Pp acc : Nat} {pr sn ng lk : Nat → Bool} {u : St2} (hR : am_R E Pp acc pr sn ng lk u) (post : Int32 → St2 → Prop) (h : ∀ r u', am_R E Pp acc pr sn ng lk u' → post r u') : wpX_tick post u := by
  obtain ⟨S, C, qF, qN, F, n, Lz, xO, xA, xB, xT, op, A, B, tg, hs, st, tk, id, c, o, Pt, H, V, T, R, bl, bf, rfl, hPt, hD, hL, hNn, hB, hP, hc, hmo, hW, hbh, hacc, hqS, hS16, hqF, hq, hpr⟩ := hR
  have hW' := hW
  obtain ⟨hC, hn, hF, hS⟩ := hW'
  have hG : am_G S C qF qN F n E Pp Lz xO xA xB xT op A B tg hs id pr sn ng st tk E (nI S, nI C, Lz, nI qF, nI qN, nI F, nI (c + o), nI c, nI n, xO, xA, xB, xT, T, R, op, A, B, tg, st, tk, hs, bl, bf) := ⟨c, o, n, Pt, (fun j => j), H, V, T, R, bl, bf, rfl, hPt, hD, hL, hNn, hB, hP, hc, hmo⟩
  have hend : ∀ (st tk : Nat → Int32) (u : St2), am_G S C qF qN F n E Pp Lz xO xA xB xT op A B tg hs id pr sn ng st tk E u → lx_te post (nI n) u := by
    intro st tk u hG
    have hd := fun P => am_drop hW hbh hacc hqS hS16 hqF hq hpr hG P
    obtain ⟨c1, o1, m1, Pt1, e1, H1, V1, T1, R1, bl1, bf1, rfl, hPt1, hD1, hL1, hNn1, hB1, hP1, hc1, hmo1⟩ := hG
    refine hd _ (fun u' hR' => ?_)
    have h2 := fun r => h r u' hR'
    obtain ⟨w0, w1, w2, w3, w4, w5, w6, w7, w8, w9, w10, w11, w12, w13, w14, w15, w16, w17, w18, w19, w20, w21, w22, w23⟩ := u'
    exact h2 _
  unfold wpX_tick
  refine am_flush hW hG _ (fun u1 hG1 => ?_)
  have hcnt := fun P => am_count hW hG1 P
  obtain ⟨c1, o1, m1, Pt1, e1, H1, V1, T1, R1, bl1, bf1, rfl, hPt1, hD1, hL1, hNn1, hB1, hP1, hc1, hmo1⟩ := hG1
  refine hcnt _ (fun u2 tk2 hG2 => ?_)
  have h3 := am_tloop hW post hend n 0 st tk2 u2 (by omega) hG2 (n + 1) (by omega)
  obtain ⟨c2, o2, m2, Pt2, e2, H2, V2, T2, R2, bl2, bf2, rfl, hPt2, hD2, hL2, hNn2, hB2, hP2, hc2, hmo2⟩ := hG2
  exact ⟨_, h3⟩
