theorem wb_tb (n : Nat) : (lN n).toBitVec = BitVec.ofNat 64 n := rfl
theorem wb_inj {a b : Int64} (h : a.toBitVec = b.toBitVec) : a = b := Int64.toBitVec_inj.mp h
theorem wb_tn {n : Nat} (h : n < 2 ^ 64) : (lN n).toBitVec.toNat = n := by rw [wb_tb, BitVec.toNat_ofNat, Nat.mod_eq_of_lt h]
theorem wb_of (x : Int64) : ∃ n, n < 2 ^ 64 ∧ x = lN n := ⟨x.toBitVec.toNat, x.toBitVec.isLt, wb_inj (by rw [wb_tb]; simp)⟩
theorem wb_of32 (x : Int32) : ∃ n, n < 2 ^ 32 ∧ x = nI n := ⟨x.toBitVec.toNat, x.toBitVec.isLt, Int32.toBitVec_inj.mp (by show _ = BitVec.ofNat 32 _; simp)⟩
theorem wb_c : ∀ k, k < 64 → ((nI k).toInt64 &&& 63) = lN k := by decide +kernel
theorem wb_cu : ∀ k, k < 64 → ((nI k).toInt64.toUInt64 &&& Int64.toUInt64 63) = UInt64.ofNat k := by decide +kernel
theorem wb_sm : ∀ k, k < 64 → (BitVec.ofNat 64 k).smod 64 = BitVec.ofNat 64 k := by decide +kernel
theorem wb_pw {a b : Nat} (h : a ≤ b) : 2 ^ b = 2 ^ a * 2 ^ (b - a) := by rw [← Nat.pow_add]; congr 1; omega
theorem wb_lt2 {a b : Nat} (h : a < b) : 2 ^ a < 2 ^ b := Nat.pow_lt_pow_right (by decide) h
theorem wb_mod (n : Nat) : lN n = lN (n % 2 ^ 64) := wb_inj (by rw [wb_tb, wb_tb]; apply BitVec.eq_of_toNat_eq; rw [BitVec.toNat_ofNat, BitVec.toNat_ofNat, Nat.mod_mod])
theorem wb_shr {n k : Nat} (hn : n < 2 ^ 64) (hk : k < 64) : ((lN n).toUInt64 >>> ((nI k).toInt64.toUInt64 &&& Int64.toUInt64 63)).toInt64 = lN (n / 2 ^ k) := by
  rw [wb_cu k hk]
  apply wb_inj
  apply BitVec.eq_of_toNat_eq
  show ((lN n).toUInt64 >>> UInt64.ofNat k).toNat = (BitVec.ofNat 64 _).toNat
  have h1 : (UInt64.ofNat k).toNat = k := by
    show (BitVec.ofNat 64 k).toNat = k
    rw [BitVec.toNat_ofNat, Nat.mod_eq_of_lt (by omega)]
  have h2 : (lN n).toUInt64.toNat = n := wb_tn hn
  rw [UInt64.toNat_shiftRight, h1, h2, Nat.mod_eq_of_lt hk, Nat.shiftRight_eq_div_pow, BitVec.toNat_ofNat, Nat.mod_eq_of_lt (Nat.lt_of_le_of_lt (Nat.div_le_self _ _) hn)]
theorem wb_shl (n : Nat) {k : Nat} (hk : k < 64) : lN n <<< ((nI k).toInt64 &&& 63) = lN (n * 2 ^ k) := by
  rw [wb_c k hk]
  apply wb_inj
  rw [Int64.toBitVec_shiftLeft, wb_tb, wb_tb, wb_tb, wb_sm k hk]
  apply BitVec.eq_of_toNat_eq
  rw [BitVec.shiftLeft_eq', BitVec.toNat_shiftLeft, BitVec.toNat_ofNat, BitVec.toNat_ofNat, BitVec.toNat_ofNat, Nat.mod_eq_of_lt (show k < 2 ^ 64 by omega), Nat.shiftLeft_eq, Nat.mul_mod, Nat.mod_mod, ← Nat.mul_mod]
theorem wb_and {a b : Nat} (ha : a < 2 ^ 64) (hb : b < 2 ^ 64) : lN a &&& lN b = lN (a &&& b) := by
  apply wb_inj
  rw [Int64.toBitVec_and, wb_tb, wb_tb, wb_tb]
  apply BitVec.eq_of_toNat_eq
  rw [BitVec.toNat_and, BitVec.toNat_ofNat, BitVec.toNat_ofNat, BitVec.toNat_ofNat, Nat.mod_eq_of_lt ha, Nat.mod_eq_of_lt hb, Nat.mod_eq_of_lt (Nat.and_lt_two_pow _ hb)]
theorem wb_or {a b : Nat} (ha : a < 2 ^ 64) (hb : b < 2 ^ 64) : lN a ||| lN b = lN (a ||| b) := by
  apply wb_inj
  rw [Int64.toBitVec_or, wb_tb, wb_tb, wb_tb]
  apply BitVec.eq_of_toNat_eq
  rw [BitVec.toNat_or, BitVec.toNat_ofNat, BitVec.toNat_ofNat, BitVec.toNat_ofNat, Nat.mod_eq_of_lt ha, Nat.mod_eq_of_lt hb, Nat.mod_eq_of_lt (Nat.or_lt_two_pow ha hb)]
theorem wb_mask {n k : Nat} (hn : n < 2 ^ 64) (hk : k < 64) : lN n &&& lN (2 ^ k - 1) = lN (n % 2 ^ k) := by
  rw [wb_and hn (by have := wb_lt2 hk; omega), Nat.and_two_pow_sub_one_eq_mod]
theorem wb_a1 {n : Nat} (hn : n < 2 ^ 64) : lN n &&& 1 = lN (n % 2) := wb_mask (k := 1) hn (by decide)
theorem wb_bit {n k : Nat} (hn : n < 2 ^ 64) (hk : k < 64) : ((lN n).toUInt64 >>> ((nI k).toInt64.toUInt64 &&& Int64.toUInt64 63)).toInt64 &&& 1 = lN (n / 2 ^ k % 2) := by
  rw [wb_shr hn hk, wb_a1 (Nat.lt_of_le_of_lt (Nat.div_le_self _ _) hn)]
/-! bits of a long -/
def am_ad (f : Nat → Bool) (y : Nat) : Nat → Bool := fun i => if i = y then true else f i
def am_bits (w : Int64) (f : Nat → Bool) : Prop := ∃ M, M < 2 ^ 64 ∧ w = lN M ∧ ∀ i, i < 64 → M.testBit i = f i
theorem am_bits_0 {f : Nat → Bool} (h : ∀ i, i < 64 → f i = false) : am_bits 0 f := ⟨0, by decide, rfl, fun i hi => by rw [Nat.zero_testBit, h i hi]⟩
theorem am_bits_c {w : Int64} {f g : Nat → Bool} (h : am_bits w f) (hg : ∀ i, i < 64 → g i = f i) : am_bits w g := by
  obtain ⟨M, h1, h2, h3⟩ := h
  exact ⟨M, h1, h2, fun i hi => by rw [h3 i hi, hg i hi]⟩
theorem am_bits_or {w : Int64} {f : Nat → Bool} (h : am_bits w f) {y : Nat} (hy : y < 64) : am_bits (w ||| ((1 : Int64) <<< ((nI y).toInt64 &&& 63))) (am_ad f y) := by
  obtain ⟨M, h1, rfl, h3⟩ := h
  have e1 : (1 : Int64) <<< ((nI y).toInt64 &&& 63) = lN (2 ^ y) := by
    have := wb_shl 1 hy
    rw [Nat.one_mul] at this
    exact this
  have h4 : 2 ^ y < 2 ^ 64 := wb_lt2 hy
  refine ⟨M ||| 2 ^ y, Nat.or_lt_two_pow h1 h4, by rw [e1, wb_or h1 h4], fun i hi => ?_⟩
  rw [Nat.testBit_or, h3 i hi, Nat.testBit_two_pow]
  unfold am_ad
  by_cases z : i = y
  · subst z; simp
  · rw [if_neg z, decide_eq_false (fun w => z w.symm), Bool.or_false]
theorem am_bit (post : Int32 → Prop) {w : Int64} {f : Nat → Bool} (h : am_bits w f) {y : Nat} (hy : y < 64) (h1 : f y = true → post 1) (h0 : f y = false → post 0) : wpL_bit post () w (nI y) := by
  obtain ⟨M, a1, rfl, a3⟩ := h
  have e1 := wb_bit a1 hy
  have e2 := a3 y hy
  rw [Nat.testBit_eq_decide_div_mod_eq] at e2
  refine br_f (nI_pos (by omega)) (br_f (nI_ge (b := 64) hy (by decide)) ?_)
  rw [e1]
  by_cases z : M / 2 ^ y % 2 = 1
  · rw [z]
    refine br_f (by decide) (h1 (by rw [← e2]; exact decide_eq_true z))
  · have z' : M / 2 ^ y % 2 = 0 := by omega
    rw [z']
    exact br_t rfl (h0 (by rw [← e2]; exact decide_eq_false z))
theorem am_obs (post : Int32 → Prop) {se ne pa : Int64} {sn ng pr : Nat → Bool} {y E : Nat} {r : Int32} (h1 : am_bits se sn) (h2 : am_bits ne ng) (h3 : am_bits pa pr) (hy : y < E) (hE : E ≤ 64) (hs : sn y = false) (hc : ∀ i, i + 1 = y → pr i = true → sn i = true ∧ (ng i = true → r = -125)) (hp : post 1) : wpL_obsOk post () se ne pa (nI y) r (nI E) := by
  refine br_f (nI_pos (by omega)) (br_f (nI_ge hy (by omega)) (br_f (nI_ge (b := 64) (by omega) (by decide)) (am_bit _ h1 (by omega) (fun w => ?_) (fun _ => br_t rfl ?_))))
  · rw [hs] at w; exact absurd w (by decide)
  · by_cases z : y = 0
    · exact br_t (by rw [z]; decide) hp
    · have e1 : nI y - 1 = nI (y - 1) := by
        have := nI_pred (y - 1)
        rw [show y - 1 + 1 = y by omega] at this
        exact this
      refine br_f (nI_nle (by omega) (by omega)) ?_
      rw [e1]
      refine am_bit _ h3 (by omega) (fun w => br_f (by decide) ?_) (fun w => br_t rfl hp)
      obtain ⟨b1, b2⟩ := hc (y - 1) (by omega) w
      refine am_bit _ h1 (by omega) (fun _ => br_f (by decide) ?_) (fun w => ?_)
      · exact am_bit _ h2 (by omega) (fun w => br_f (by decide) (br_t (b2 w) hp)) (fun _ => br_t rfl hp)
      · rw [b1] at w; exact absurd w (by decide)
