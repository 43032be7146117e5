def ar_blk (a : Int32) : Prop := ¬ a < 0 ∧ a < 16
def ar_buf (b : Int32) : Prop := ¬ b < 0 ∧ b < 8
/-- a request that waits: valid, and of a kind that waits -/
def ar_ok (o a b : Int32) : Prop := ((o = 1 ∨ o = 2) ∧ ar_blk a ∧ ar_buf b) ∨ (o = 3 ∧ ar_blk a) ∨ (o = 4 ∧ ¬ a < 1 ∧ ¬ 16 < a)
/-- the arguments are valid -/
def ar_vd (o a b : Int32) : Prop := ar_ok o a b ∨ o = 0 ∨ o = 5
theorem ar_nl {a b : Int32} (h : ¬ b ≤ a) : a < b := Int32.not_le.mp h
theorem ar_ln {a b : Int32} (h : b ≤ a) : ¬ a < b := Int32.not_lt.mpr h
theorem ar_ok_k {o a b : Int32} (h : ar_ok o a b) : o = 1 ∨ o = 2 ∨ o = 3 ∨ o = 4 := by
  rcases h with ⟨h | h, _⟩ | ⟨h, _⟩ | ⟨h, _⟩
  · exact Or.inl h
  · exact Or.inr (Or.inl h)
  · exact Or.inr (Or.inr (Or.inl h))
  · exact Or.inr (Or.inr (Or.inr h))
theorem ar_vd_k {o a b : Int32} (h : ar_vd o a b) : ¬ o < 0 ∧ ¬ 5 < o := by
  rcases h with h | h | h
  · rcases ar_ok_k h with h | h | h | h <;> subst h <;> decide
  · subst h; decide
  · subst h; decide
theorem ar_ok_1 {o a b : Int32} (h : ar_ok o a b) (e : o = 1 ∨ o = 2) : ar_blk a ∧ ar_buf b := by
  rcases h with ⟨_, h⟩ | ⟨h, _⟩ | ⟨h, _⟩
  · exact h
  · subst h; exact absurd e (by decide)
  · subst h; exact absurd e (by decide)
theorem ar_ok_3 {o a b : Int32} (h : ar_ok o a b) (e : o = 3) : ar_blk a := by
  rcases h with ⟨h, h2, _⟩ | ⟨_, h⟩ | ⟨h, _⟩
  · exact h2
  · exact h
  · subst h; exact absurd e (by decide)
theorem ar_ok_4 {o a b : Int32} (h : ar_ok o a b) (e : o = 4) : ¬ a < 1 ∧ ¬ 16 < a := by
  rcases h with ⟨h | h, _⟩ | ⟨h, _⟩ | ⟨_, h⟩
  · subst h; exact absurd e (by decide)
  · subst h; exact absurd e (by decide)
  · subst h; exact absurd e (by decide)
  · exact h
theorem ar_blk_in {a : Int32} (h : ar_blk a) : vp_in a 16 := by
  obtain ⟨j, hj, rfl⟩ := nI_of h.1
  exact vp_in_nI ((nI_ltI (b := 16) hj (by decide)).mp h.2) (by decide)
theorem ar_buf_in {a : Int32} (h : ar_buf a) : vp_in a 8 := by
  obtain ⟨j, hj, rfl⟩ := nI_of h.1
  exact vp_in_nI ((nI_ltI (b := 8) hj (by decide)).mp h.2) (by decide)
theorem ax_blk (post : Int32 → Prop) (x : Int32) (h1 : ar_blk x → post 1) (h0 : ¬ ar_blk x → post 0) : wpX_isBlock post () x :=
  br_c (fun h => h0 (fun w => w.1 h)) (fun h => br_c (fun h2 => h0 (fun w => ar_ln h2 w.2)) (fun h2 => h1 ⟨h, ar_nl h2⟩))
theorem ax_buf (post : Int32 → Prop) (x : Int32) (h1 : ar_buf x → post 1) (h0 : ¬ ar_buf x → post 0) : wpX_isBuffer post () x :=
  br_c (fun h => h0 (fun w => w.1 h)) (fun h => br_c (fun h2 => h0 (fun w => ar_ln h2 w.2)) (fun h2 => h1 ⟨h, ar_nl h2⟩))
section
variable {S C F n qF qN c o : Nat} {Lz : Int32} {xO xA xB xT op A B tg hs T R st tk bl bf : Nat → Int32}
theorem ax_va54 (post : Int32 → Prop) {p : Nat} (hp : p < 32) (h1 : ar_blk (A p) ∧ ar_buf (B p) → post 1) (h0 : ¬ (ar_blk (A p) ∧ ar_buf (B p)) → post 0) : wX_hasValidArguments_54 post (nI p) (A p) (nI S) (nI C) Lz (nI qF) (nI qN) (nI F) (nI (c + o)) (nI c) (nI n) xO xA xB xT T R op A B tg st tk hs bl bf := by
  unfold wX_hasValidArguments_54
  refine ax_blk _ _ (fun h => br_f (by decide) ⟨vp_in_nI hp (by omega), ?_⟩) (fun h => br_t rfl (h0 (fun w => h w.1)))
  rw [nI_clamp (by omega)]
  exact ax_buf _ _ (fun h2 => br_f (by decide) (h1 ⟨h, h2⟩)) (fun h2 => br_t rfl (h0 (fun w => h2 w.2)))
theorem ax_va (post : Int32 → Prop) {p : Nat} (hp : p < 32) (h1 : ar_vd (op p) (A p) (B p) → post 1) (h0 : ¬ ar_vd (op p) (A p) (B p) → post 0) : wpX_hasValidArguments post (nI S, nI C, Lz, nI qF, nI qN, nI F, nI (c + o), nI c, nI n, xO, xA, xB, xT, T, R, op, A, B, tg, st, tk, hs, bl, bf) (nI p) := by
  refine And.intro (vp_in_nI hp (by omega)) (nm_r (e' := A p) (by rw [nI_clamp (by omega)]) ⟨vp_in_nI hp (by omega), nm_r (e' := op p) (by rw [nI_clamp (by omega)]) ?_⟩)
  refine br_c (fun h => h0 (fun w => (ar_vd_k w).1 h)) (fun _ => br_c (fun h => h0 (fun w => (ar_vd_k w).2 h)) (fun _ => br_c (fun h => h1 (Or.inr (Or.inl h))) (fun n0 => ?_)))
  refine br_c (fun h => ax_va54 _ hp (fun w => h1 (Or.inl (Or.inl ⟨Or.inl h, w⟩))) (fun w => h0 (fun y => ?_))) (fun n1 => ?_)
  · rcases y with y | y | y
    · exact w (ar_ok_1 y (Or.inl h))
    · exact n0 y
    · rw [h] at y; exact absurd y (by decide)
  refine br_c (fun h => ax_va54 _ hp (fun w => h1 (Or.inl (Or.inl ⟨Or.inr h, w⟩))) (fun w => h0 (fun y => ?_))) (fun n2 => ?_)
  · rcases y with y | y | y
    · exact w (ar_ok_1 y (Or.inr h))
    · exact n0 y
    · rw [h] at y; exact absurd y (by decide)
  refine br_c (fun h => ax_blk _ _ (fun w => ⟨rfl, h1 (Or.inl (Or.inr (Or.inl ⟨h, w⟩)))⟩) (fun w => ⟨rfl, h0 (fun y => ?_)⟩)) (fun n3 => ?_)
  · rcases y with y | y | y
    · exact w (ar_ok_3 y h)
    · exact n0 y
    · rw [h] at y; exact absurd y (by decide)
  refine br_c (fun h => br_c (fun w => h0 (fun y => ?_)) (fun w => br_c (fun z => h0 (fun y => ?_)) (fun z => h1 (Or.inl (Or.inr (Or.inr ⟨h, w, z⟩)))))) (fun n4 => br_c (fun h => h1 (Or.inr (Or.inr h))) (fun _ => trivial))
  · rcases y with y | y | y
    · exact (ar_ok_4 y h).1 w
    · exact n0 y
    · rw [h] at y; exact absurd y (by decide)
  · rcases y with y | y | y
    · exact (ar_ok_4 y h).2 z
    · exact n0 y
    · rw [h] at y; exact absurd y (by decide)
theorem ax_tw (post : Int32 → Prop) {p : Nat} (hp : p < 32) (h0 : ¬ ar_ok (op p) (A p) (B p) → post 0) (h1 : ar_ok (op p) (A p) (B p) → ¬ op p = 4 → post Lz) (h4 : ar_ok (op p) (A p) (B p) → op p = 4 → post (A p)) : wpX_ticksToWait post (nI S, nI C, Lz, nI qF, nI qN, nI F, nI (c + o), nI c, nI n, xO, xA, xB, xT, T, R, op, A, B, tg, st, tk, hs, bl, bf) (nI p) := by
  unfold wpX_ticksToWait
  refine ax_va _ hp (fun hv => br_f (by decide) ⟨vp_in_nI hp (by omega), nm_r (e' := op p) (by rw [nI_clamp (by omega)]) ?_⟩) (fun hv => br_t rfl (h0 (fun w => hv (Or.inl w))))
  have hk : ¬ op p = 0 → ¬ op p = 5 → ar_ok (op p) (A p) (B p) := fun a b => by
    rcases hv with h | h | h
    · exact h
    · exact absurd h a
    · exact absurd h b
  refine br_c (fun h => h0 (fun w => ?_)) (fun g1 => br_c (fun h => h0 (fun w => ?_)) (fun g4 => ?_))
  · rcases ar_ok_k w with y | y | y | y <;> rw [y] at h <;> exact absurd h (by decide)
  · rcases ar_ok_k w with y | y | y | y <;> rw [y] at h <;> exact absurd h (by decide)
  · have n0 : ¬ op p = 0 := fun y => by rw [y] at g1; exact absurd g1 (by decide)
    have n5 : ¬ op p = 5 := fun y => by rw [y] at g4; exact absurd g4 (by decide)
    refine br_c (fun h => h1 (hk n0 n5) (by rw [h]; decide)) (fun _ => br_c (fun h => h1 (hk n0 n5) (by rw [h]; decide)) (fun _ => br_c (fun h => h1 (hk n0 n5) (by rw [h]; decide)) (fun _ => br_c (fun h => ⟨vp_in_nI hp (by omega), ?_⟩) (fun _ => trivial))))
    rw [nI_clamp (by omega)]
    exact h4 (hk n0 n5) h
theorem ax_exec (post : Int32 → St2 → Prop) {p : Nat} (hp : p < 32) (hi : ¬ ar_vd (op p) (A p) (B p) → post (-22) (nI S, nI C, Lz, nI qF, nI qN, nI F, nI (c + o), nI c, nI n, xO, xA, xB, xT, T, R, op, A, B, tg, st, tk, hs, bl, bf)) (h0 : op p = 0 → post 0 (nI S, nI C, Lz, nI qF, nI qN, nI F, nI (c + o), nI c, nI n, xO, xA, xB, xT, T, R, op, A, B, tg, st, tk, hs, bl, bf))
    (h1 : op p = 1 → ar_ok (op p) (A p) (B p) → post 0 (nI S, nI C, Lz, nI qF, nI qN, nI F, nI (c + o), nI c, nI n, xO, xA, xB, xT, T, R, op, A, B, tg, st, tk, hs, bl, upd bf (B p).toNatClampNeg (bl (A p).toNatClampNeg)))
    (h2 : op p = 2 → ar_ok (op p) (A p) (B p) → post 0 (nI S, nI C, Lz, nI qF, nI qN, nI F, nI (c + o), nI c, nI n, xO, xA, xB, xT, T, R, op, A, B, tg, st, tk, hs, upd bl (A p).toNatClampNeg (bf (B p).toNatClampNeg), bf))
    (h3 : op p = 3 → ar_ok (op p) (A p) (B p) → (bl (A p).toNatClampNeg = B p → post 0 (nI S, nI C, Lz, nI qF, nI qN, nI F, nI (c + o), nI c, nI n, xO, xA, xB, xT, T, R, op, A, B, tg, st, tk, hs, bl, bf)) ∧ (¬ bl (A p).toNatClampNeg = B p → post (-74) (nI S, nI C, Lz, nI qF, nI qN, nI F, nI (c + o), nI c, nI n, xO, xA, xB, xT, T, R, op, A, B, tg, st, tk, hs, bl, bf)))
    (h4 : op p = 4 → ar_ok (op p) (A p) (B p) → post 0 (nI S, nI C, Lz, nI qF, nI qN, nI F, nI (c + o), nI c, nI n, xO, xA, xB, xT, T, R, op, A, B, tg, st, tk, hs, bl, bf))
    (h5 : op p = 5 → ∀ P : Int32 → St2 → Prop, (∀ r u', post r u' → P r u') → wpX_cancelPending P (nI S, nI C, Lz, nI qF, nI qN, nI F, nI (c + o), nI c, nI n, xO, xA, xB, xT, T, R, op, A, B, tg, st, tk, hs, bl, bf) (A p)) : wpX_execute post (nI S, nI C, Lz, nI qF, nI qN, nI F, nI (c + o), nI c, nI n, xO, xA, xB, xT, T, R, op, A, B, tg, st, tk, hs, bl, bf) (nI p) := by
  unfold wpX_execute
  refine ax_va _ hp (fun hv => br_f (by decide) ⟨vp_in_nI hp (by omega), nm_r (e' := A p) (by rw [nI_clamp (by omega)]) ⟨vp_in_nI hp (by omega), nm_r (e' := B p) (by rw [nI_clamp (by omega)]) ⟨vp_in_nI hp (by omega), nm_r (e' := op p) (by rw [nI_clamp (by omega)]) ?_⟩⟩⟩) (fun hv => br_t rfl (hi hv))
  have hk : ¬ op p = 0 → ¬ op p = 5 → ar_ok (op p) (A p) (B p) := fun a b => by
    rcases hv with h | h | h
    · exact h
    · exact absurd h a
    · exact absurd h b
  have h6 : ¬ op p < 0 ∧ ¬ 5 < op p := ar_vd_k hv
  refine br_c (fun h => h0 ?_) (fun g1 => br_f h6.2 ?_)
  · rcases hv with w | w | w
    · rcases ar_ok_k w with y | y | y | y <;> rw [y] at h <;> exact absurd h (by decide)
    · exact w
    · rw [w] at h; exact absurd h (by decide)
  · have n0 : ¬ op p = 0 := fun y => by rw [y] at g1; exact absurd g1 (by decide)
    refine br_c (fun h => ?_) (fun n1 => br_c (fun h => ?_) (fun n2 => br_c (fun h => ?_) (fun n3 => br_c (fun h => ?_) (fun n4 => br_c (fun h => ?_) (fun _ => trivial)))))
    · have hk' := hk n0 (by rw [h]; decide)
      have hb := ar_ok_1 hk' (Or.inl h)
      exact ⟨ar_blk_in hb.1, ar_buf_in hb.2, nm_e (h1 h hk')⟩
    · have hk' := hk n0 (by rw [h]; decide)
      have hb := ar_ok_1 hk' (Or.inr h)
      exact ⟨ar_buf_in hb.2, ar_blk_in hb.1, nm_e (h2 h hk')⟩
    · have hk' := hk n0 (by rw [h]; decide)
      have hb := ar_ok_3 hk' h
      exact ⟨ar_blk_in hb, h3 h hk'⟩
    · exact h4 h (hk n0 (by rw [h]; decide))
    · exact h5 h _ (fun r u' hpost => by
        obtain ⟨w0, w1, w2, w3, w4, w5, w6, w7, w8, w9, w10, w11, w12, w13, w14, w15, w16, w17, w18, w19, w20, w21, w22, w23⟩ := u'
        exact hpost)
end
