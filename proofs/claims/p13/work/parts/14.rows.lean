def ll_57 (post : Int32 → Prop) (L : Nat) (xs : Nat → Int32) (kc ks k : Nat) (x2 x3 x4 : Int32) (x5 x7 x9 x11 : Int64) (x13 : Int32) (u : St2) : Prop := match u with
  | (f_sqCapacity, f_cqCapacity, f_latency, f_sqFirst, f_sqCount, f_doneFirst, f_doneCount, f_cqCount, f_reqCount, a_sqOpFlags, a_sqA, a_sqB, a_sqTag, a_doneTag, a_doneResult, a_reqOpcode, a_reqA, a_reqB, a_reqTag, a_reqState, a_reqTicks, a_reqHasSuccessor, a_blocks, a_buffers) => wL_law_57 post L xs kc ks k x2 x3 x4 x5 x7 x9 x11 x13 f_sqCapacity f_cqCapacity f_latency f_sqFirst f_sqCount f_doneFirst f_doneCount f_cqCount f_reqCount a_sqOpFlags a_sqA a_sqB a_sqTag a_doneTag a_doneResult a_reqOpcode a_reqA a_reqB a_reqTag a_reqState a_reqTicks a_reqHasSuccessor a_blocks a_buffers
def ll_517 (post : Int32 → Prop) (L : Nat) (xs : Nat → Int32) (kc ks k : Nat) (x2 x3 x4 : Int32) (x5 x7 x9 x11 : Int64) (x13 : Int32) (u : St2) : Prop := match u with
  | (f_sqCapacity, f_cqCapacity, f_latency, f_sqFirst, f_sqCount, f_doneFirst, f_doneCount, f_cqCount, f_reqCount, a_sqOpFlags, a_sqA, a_sqB, a_sqTag, a_doneTag, a_doneResult, a_reqOpcode, a_reqA, a_reqB, a_reqTag, a_reqState, a_reqTicks, a_reqHasSuccessor, a_blocks, a_buffers) => wL_law_517 post L xs (wL_law_57 post L xs kc ks k) x2 x3 x4 x5 x7 x9 x11 x13 kc ks f_sqCapacity f_cqCapacity f_latency f_sqFirst f_sqCount f_doneFirst f_doneCount f_cqCount f_reqCount a_sqOpFlags a_sqA a_sqB a_sqTag a_doneTag a_doneResult a_reqOpcode a_reqA a_reqB a_reqTag a_reqState a_reqTicks a_reqHasSuccessor a_blocks a_buffers
theorem al_517 {post : Int32 → Prop} {L kc ks k E Pp acc P : Nat} {xs : Nat → Int32} {x2 : Int32} {x5 x7 x9 x11 : Int64} {pr sn ng lk : Nat → Bool} {u : St2} (hR : am_R E Pp acc pr sn ng lk u) (hP : P < 1000) (hJ : ll_57 post L xs kc ks k x2 (nI E) (nI Pp) x5 x7 x9 x11 (nI (P + 4)) u) : ll_517 post L xs kc ks k x2 (nI E) (nI Pp) x5 x7 x9 x11 (nI P) u := by
  obtain ⟨n, c, o, h1, h2, h3, h4, h5, h6, h7⟩ := am_counts hR
  have e1 : nI E = ((nI n + nI Pp) + nI c) + nI o := by rw [nI_add, nI_add, nI_add, h1]
  obtain ⟨f_sqCapacity, f_cqCapacity, f_latency, f_sqFirst, f_sqCount, f_doneFirst, f_doneCount, f_cqCount, f_reqCount, a_sqOpFlags, a_sqA, a_sqB, a_sqTag, a_doneTag, a_doneResult, a_reqOpcode, a_reqA, a_reqB, a_reqTag, a_reqState, a_reqTicks, a_reqHasSuccessor, a_blocks, a_buffers⟩ := u
  unfold ll_517
  dsimp only
  unfold wL_law_517
  exact h5 _ (br_f (nI_pos (by omega)) (br_t (nI_le (b := 32) h2 (by decide)) (h6 _ (h7 _ (br_t e1 (nm_r (e' := nI (P + 4)) (nI_add P 4) hJ))))))
theorem al_cell (post : Int32 → Prop) {L : Nat} {xs : Nat → Int32} {P : Nat} (hL : L < 2 ^ 31) (hP : P < 2 ^ 31) (h : ∀ v, post v) : wpL_cell post L xs () (nI P) := by
  by_cases z : L ≤ P
  · exact br_t (nI_le z hP) (h _)
  · exact br_f (nI_ge (by omega) hL) ⟨vp_in_nI (by omega) hL, h _⟩
theorem am_f1 : ∀ v, v < 8 → ¬ (nI v ||| 16) &&& 16 = 0 := by decide +kernel
theorem am_f0 : ∀ v, v < 8 → (nI v ||| 0) &&& 16 = 0 := by decide +kernel
section
variable {f_sqCapacity f_cqCapacity f_latency f_sqFirst f_sqCount f_doneFirst f_doneCount f_cqCount f_reqCount : Int32} {a_sqOpFlags a_sqA a_sqB a_sqTag a_doneTag a_doneResult a_reqOpcode a_reqA a_reqB a_reqTag a_reqState a_reqTicks a_reqHasSuccessor a_blocks a_buffers : Nat → Int32}
variable {post : Int32 → Prop} {L kc ks k E Pp acc P : Nat} {xs : Nat → Int32} {li pa se ne : Int64} {pr sn ng lk : Nat → Bool}
theorem al_344 {kk : Nat} {X2 X4 X13 : Int32} (hk : E + kk ≤ 64) (hli : am_bits li lk) (hpr : ∀ i, pr i = true → i + 1 < E) (hend : ∀ pa', am_bits pa' (am_pr pr lk E kk) → ll_517 post L xs kc ks k X2 (nI (E + kk)) X4 li pa' se ne X13 (f_sqCapacity, f_cqCapacity, f_latency, f_sqFirst, f_sqCount, f_doneFirst, f_doneCount, f_cqCount, f_reqCount, a_sqOpFlags, a_sqA, a_sqB, a_sqTag, a_doneTag, a_doneResult, a_reqOpcode, a_reqA, a_reqB, a_reqTag, a_reqState, a_reqTicks, a_reqHasSuccessor, a_blocks, a_buffers)) :
    ∀ d i (pa : Int64), i + d = E + (kk - 1) → E ≤ i → am_bits pa (fun j => if E ≤ j ∧ j < i then lk j else pr j) → wL_law_344 post L xs (wL_law_57 post L xs kc ks k) X2 (nI E) X4 li se ne X13 (nI kk) kc ks f_sqCapacity f_cqCapacity f_latency f_sqFirst f_sqCount f_doneFirst f_doneCount f_cqCount f_reqCount a_sqOpFlags a_sqA a_sqB a_sqTag a_doneTag a_doneResult a_reqOpcode a_reqA a_reqB a_reqTag a_reqState a_reqTicks a_reqHasSuccessor a_blocks a_buffers (d + 1) pa (nI i) := by
  intro d
  induction d with
  | zero =>
    intro i pa hi hE hb
    refine br_t ?_ (nm_r (nI_add E kk) (hend pa (am_bits_c hb (fun j hj => ?_))))
    · by_cases z : E + kk = 0
      · have z1 : E = 0 := by omega
        have z2 : kk = 0 := by omega
        subst z1 z2
        have z3 : i = 0 := by omega
        subst z3
        decide
      · have := nI_pred (E + kk - 1)
        rw [show E + kk - 1 + 1 = E + kk by omega] at this
        rw [nI_add, this]
        exact nI_le (by omega) (by omega)
    · unfold am_pr
      by_cases z : E ≤ j ∧ j < i
      · rw [if_pos z, if_pos (by omega)]
      · rw [if_neg z, if_neg (by omega)]
  | succ d ih =>
    intro i pa hi hE hb
    have e1 : nI E + nI kk - 1 = nI (E + kk - 1) := by
      have := nI_pred (E + kk - 1)
      rw [show E + kk - 1 + 1 = E + kk by omega] at this
      rw [nI_add, this]
    refine br_f (by rw [e1]; exact nI_ge (by omega) (by omega)) (am_bit _ hli (by omega) (fun w => br_f (by decide) (nm_e (nm_r (nI_1 i) (ih (i + 1) _ (by omega) (by omega) (am_bits_c (am_bits_or hb (show i < 64 by omega)) (fun j hj => ?_)))))) (fun w => br_t rfl (nm_r (nI_1 i) (ih (i + 1) _ (by omega) (by omega) (am_bits_c hb (fun j hj => ?_))))))
    · unfold am_ad
      by_cases z : j = i
      · subst z
        rw [if_pos (by omega), if_pos rfl, w]
      · rw [if_neg z]
        show (if E ≤ j ∧ j < i + 1 then lk j else pr j) = (if E ≤ j ∧ j < i then lk j else pr j)
        by_cases y : E ≤ j ∧ j < i
        · rw [if_pos y, if_pos (by omega)]
        · rw [if_neg y, if_neg (by omega)]
    · by_cases z : j = i
      · subst z
        rw [if_pos (by omega), if_neg (by omega), w]
        by_cases y : pr j = true
        · have := hpr j y; omega
        · exact (Bool.eq_false_iff.mpr y).symm
      · by_cases y : E ≤ j ∧ j < i
        · rw [if_pos y, if_pos (by omega)]
        · rw [if_neg y, if_neg (by omega)]
/-- an entry made and prepped -/
theorem al_267 (hR : am_R E Pp acc pr sn ng lk (f_sqCapacity, f_cqCapacity, f_latency, f_sqFirst, f_sqCount, f_doneFirst, f_doneCount, f_cqCount, f_reqCount, a_sqOpFlags, a_sqA, a_sqB, a_sqTag, a_doneTag, a_doneResult, a_reqOpcode, a_reqA, a_reqB, a_reqTag, a_reqState, a_reqTicks, a_reqHasSuccessor, a_blocks, a_buffers)) (ha : acc < 64) (hli : am_bits li lk) (hlk : ∀ i, acc ≤ i → lk i = false)
    (h0 : ll_517 post L xs kc ks k (nI acc) (nI E) (nI Pp) li pa se ne (nI P) (f_sqCapacity, f_cqCapacity, f_latency, f_sqFirst, f_sqCount, f_doneFirst, f_doneCount, f_cqCount, f_reqCount, a_sqOpFlags, a_sqA, a_sqB, a_sqTag, a_doneTag, a_doneResult, a_reqOpcode, a_reqA, a_reqB, a_reqTag, a_reqState, a_reqTicks, a_reqHasSuccessor, a_blocks, a_buffers))
    (h1 : ∀ u' lk' li', am_R E Pp (acc + 1) pr sn ng lk' u' → am_bits li' lk' → (∀ i, acc + 1 ≤ i → lk' i = false) → ll_517 post L xs kc ks k (nI (acc + 1)) (nI E) (nI Pp) li' pa se ne (nI P) u') {v : Nat} (hv : v < 8) (y a b : Int32) :
    wL_law_254 post L xs (wL_law_57 post L xs kc ks k) (nI acc) (nI E) (nI Pp) li pa se ne (nI P) (nI v) y a b kc ks f_sqCapacity f_cqCapacity f_latency f_sqFirst f_sqCount f_doneFirst f_doneCount f_cqCount f_reqCount a_sqOpFlags a_sqA a_sqB a_sqTag a_doneTag a_doneResult a_reqOpcode a_reqA a_reqB a_reqTag a_reqState a_reqTicks a_reqHasSuccessor a_blocks a_buffers := by
  have e1 : (1000 : Int32) + nI acc = nI (1000 + acc) := nI_add 1000 acc
  refine br_c (fun z => ?_) (fun z => ?_)
  · unfold wL_law_267
    refine nm_e ?_
    rw [e1]
    refine am_prep hR _ a b (lk' := lk) (fun i _ => rfl) ⟨fun w => absurd (am_f0 v hv) w, fun w => by rw [hlk acc (Nat.le_refl _)] at w; exact absurd w (by decide)⟩ _ (fun _ => br_t rfl h0) (fun u' hR' => ?_)
    have h2 := h1 u' lk li hR' hli (fun i hi => hlk i (by omega))
    obtain ⟨w0, w1, w2, w3, w4, w5, w6, w7, w8, w9, w10, w11, w12, w13, w14, w15, w16, w17, w18, w19, w20, w21, w22, w23⟩ := u'
    exact br_f (by decide) (br_t z (nm_r (nI_1 acc) h2))
  · unfold wL_law_267
    refine nm_e ?_
    rw [e1]
    have ht : am_ad lk acc acc = true := if_pos rfl
    refine am_prep hR _ a b (lk' := am_ad lk acc) (fun i hi => if_neg (by omega)) ⟨fun _ => ht, fun _ => am_f1 v hv⟩ _ (fun _ => br_t rfl h0) (fun u' hR' => ?_)
    have h2 := h1 u' (am_ad lk acc) _ hR' (am_bits_or hli ha) (fun i hi => (if_neg (by omega)).trans (hlk i (by omega)))
    obtain ⟨w0, w1, w2, w3, w4, w5, w6, w7, w8, w9, w10, w11, w12, w13, w14, w15, w16, w17, w18, w19, w20, w21, w22, w23⟩ := u'
    exact br_f (by decide) (br_f z (nm_e (nm_r (nI_1 acc) h2)))
theorem al_132 (hR : am_R E Pp acc pr sn ng lk (f_sqCapacity, f_cqCapacity, f_latency, f_sqFirst, f_sqCount, f_doneFirst, f_doneCount, f_cqCount, f_reqCount, a_sqOpFlags, a_sqA, a_sqB, a_sqTag, a_doneTag, a_doneResult, a_reqOpcode, a_reqA, a_reqB, a_reqTag, a_reqState, a_reqTicks, a_reqHasSuccessor, a_blocks, a_buffers)) (ha : acc < 64) (hli : am_bits li lk) (hlk : ∀ i, acc ≤ i → lk i = false)
    (h0 : ll_517 post L xs kc ks k (nI acc) (nI E) (nI Pp) li pa se ne (nI P) (f_sqCapacity, f_cqCapacity, f_latency, f_sqFirst, f_sqCount, f_doneFirst, f_doneCount, f_cqCount, f_reqCount, a_sqOpFlags, a_sqA, a_sqB, a_sqTag, a_doneTag, a_doneResult, a_reqOpcode, a_reqA, a_reqB, a_reqTag, a_reqState, a_reqTicks, a_reqHasSuccessor, a_blocks, a_buffers))
    (h1 : ∀ u' lk' li', am_R E Pp (acc + 1) pr sn ng lk' u' → am_bits li' lk' → (∀ i, acc + 1 ≤ i → lk' i = false) → ll_517 post L xs kc ks k (nI (acc + 1)) (nI E) (nI Pp) li' pa se ne (nI P) u') {v : Nat} (hv : v < 8) (X15 X16 X17 : Int32) :
    wL_law_132 post L xs (wL_law_57 post L xs kc ks k) (nI acc) (nI E) (nI Pp) li pa se ne (nI P) X15 X16 X17 (nI v) kc ks f_sqCapacity f_cqCapacity f_latency f_sqFirst f_sqCount f_doneFirst f_doneCount f_cqCount f_reqCount a_sqOpFlags a_sqA a_sqB a_sqTag a_doneTag a_doneResult a_reqOpcode a_reqA a_reqB a_reqTag a_reqState a_reqTicks a_reqHasSuccessor a_blocks a_buffers := by
  have k254 := al_267 hR ha hli hlk h0 h1 hv
  have k242 : ∀ y a b : Int32, wL_law_242 post L xs (wL_law_57 post L xs kc ks k) (nI acc) (nI E) (nI Pp) li pa se ne (nI P) X17 (nI v) y a b kc ks f_sqCapacity f_cqCapacity f_latency f_sqFirst f_sqCount f_doneFirst f_doneCount f_cqCount f_reqCount a_sqOpFlags a_sqA a_sqB a_sqTag a_doneTag a_doneResult a_reqOpcode a_reqA a_reqB a_reqTag a_reqState a_reqTicks a_reqHasSuccessor a_blocks a_buffers := fun y a b =>
    br_c (fun _ => nm_e (k254 y a _)) (fun _ => k254 y a b)
  have hne : ¬ nI acc + 1 = 0 := by rw [nI_1]; exact nI_ne0 (by omega) (by omega)
  have k165 : ∀ y z : Int32, wL_law_165 post L xs (wL_law_57 post L xs kc ks k) (nI acc) (nI E) (nI Pp) li pa se ne (nI P) X16 X17 (nI v) y z kc ks f_sqCapacity f_cqCapacity f_latency f_sqFirst f_sqCount f_doneFirst f_doneCount f_cqCount f_reqCount a_sqOpFlags a_sqA a_sqB a_sqTag a_doneTag a_doneResult a_reqOpcode a_reqA a_reqB a_reqTag a_reqState a_reqTicks a_reqHasSuccessor a_blocks a_buffers := fun y z =>
    nm_e (br_c (fun _ => br_c (fun _ => k242 y _ _) (fun _ => k242 y _ _)) (fun _ => br_c (fun _ => ⟨hne, nm_e (k242 y _ _)⟩) (fun _ => br_c (fun _ => k242 y _ _) (fun _ => k242 y _ _))))
  have k146 : ∀ y : Int32, wL_law_146 post L xs (wL_law_57 post L xs kc ks k) (nI acc) (nI E) (nI Pp) li pa se ne (nI P) X15 X16 X17 (nI v) y kc ks f_sqCapacity f_cqCapacity f_latency f_sqFirst f_sqCount f_doneFirst f_doneCount f_cqCount f_reqCount a_sqOpFlags a_sqA a_sqB a_sqTag a_doneTag a_doneResult a_reqOpcode a_reqA a_reqB a_reqTag a_reqState a_reqTicks a_reqHasSuccessor a_blocks a_buffers := fun y =>
    br_c (fun _ => k165 y 1) (fun _ => k165 y 0)
  exact br_c (fun _ => k146 0) (fun _ => k146 1)
end
