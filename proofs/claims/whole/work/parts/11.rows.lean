/-- counted down below j -/
def ar_cd (P : Nat → Bool) (tk : Nat → Int32) (j : Nat) : Nat → Int32 := fun p => if p < j ∧ P p = true then tk p - 1 else tk p
theorem ar_cd_0 {P : Nat → Bool} {tk : Nat → Int32} : ar_cd P tk 0 = tk := by
  funext p
  exact if_neg (by omega)
theorem ar_cd_1 {P : Nat → Bool} {tk : Nat → Int32} {j : Nat} (h : P j = true) (hj : j < 2 ^ 31) : upd (ar_cd P tk j) (nI j).toNatClampNeg (ar_cd P tk j (nI j).toNatClampNeg - 1) = ar_cd P tk (j + 1) := by
  rw [nI_clamp hj]
  funext p
  by_cases e : p = j
  · subst e
    rw [pk_us]
    unfold ar_cd
    rw [if_neg (by omega), if_pos ⟨by omega, h⟩]
  · rw [pk_un e]
    unfold ar_cd
    by_cases z : p < j ∧ P p = true
    · rw [if_pos z, if_pos ⟨by omega, z.2⟩]
    · rw [if_neg z, if_neg (fun w => z ⟨by omega, w.2⟩)]
theorem ar_cd_n {P : Nat → Bool} {tk : Nat → Int32} {j : Nat} (h : P j = false) : ar_cd P tk (j + 1) = ar_cd P tk j := by
  funext p
  unfold ar_cd
  by_cases z : p < j ∧ P p = true
  · rw [if_pos z, if_pos ⟨by omega, z.2⟩]
  · rw [if_neg z, if_neg (fun w => z ⟨?_, w.2⟩)]
    by_cases e : p = j
    · rw [e, h] at w; exact absurd w.2 (by decide)
    · omega
section
variable {S C L F n s qF qN c o m : Nat} {K po wp : Int32} {xO xA xB xT yO yA yB yT op A B tg hs hd T R st tk bl bf cT cR oT oR lo la lb lt lk ln lP mk : Nat → Int32} {lq ls : Nat → Int64}
theorem ay_fl80 (post : SY → Prop) {J} {it O : Nat} (hO : O ≤ 32)
    (hJ : J (nI (it + 1)) (nI c) (nI (O - 1)) yO yA yB yT cT cR (ar_sh oT 0 O) (ar_sh oR 0 O) lo la lb lt lk ln lP mk lq ls hd bl bf) : ∀ d j, j + d + 1 = O → wY_flush_80 post J (nI it) (nI S) (nI C) (nI L) (nI qN) (nI c) (nI O) (nI m) (lN s) po wp (d + 1) (nI j) yO yA yB yT cT cR (ar_sh oT 0 (j + 1)) (ar_sh oR 0 (j + 1)) lo la lb lt lk ln lP mk lq ls hd bl bf := by
  intro d
  induction d with
  | zero =>
    intro j hj
    have e : O = j + 1 := by omega
    subst e
    refine br_t ?_ (nm_r (nI_pred j) (nm_r (nI_1 it) hJ))
    rw [nI_pred]; exact nI_le (Nat.le_refl _) (by omega)
  | succ d ih =>
    intro j hj
    have a1 : ¬ nI O - 1 ≤ nI j := by
      rw [show O = (j + d + 1) + 1 by omega, nI_pred]; exact nI_ge (by omega) (by omega)
    have i1 : vp_in (nI j + 1) 32 := by rw [nI_1]; exact vp_in_nI (by omega) (by omega)
    have i0 : vp_in (nI j) 32 := vp_in_nI (by omega) (by omega)
    exact br_f a1 (br_f (nI_ge (b := 31) (by omega) (by decide)) ⟨i1, i0, nm_r (ar_st1 oT (by omega) (by omega)) ⟨i1, i0, nm_r (ar_st1 oR (by omega) (by omega)) (nm_r (nI_1 j) (ih (j + 1) (by omega)))⟩⟩)
theorem ay_flush (hC : C ≤ 16) : ∀ (o c it : Nat) (cT cR oT oR : Nat → Int32), o ≤ 32 → c ≤ C → it + o < 40 → ar_Z F c o T cT oT → ar_Z F c o R cR oR →
    ∃ c' o' cT' cR' oT' oR', c' + o' = c + o ∧ c' ≤ C ∧ (o' = 0 ∨ c' = C) ∧ ar_Z F c' o' T cT' oT' ∧ ar_Z F c' o' R cR' oR' ∧
      (∀ post : SY → Prop, post (nI S, nI C, nI L, nI qN, nI c', nI o', nI m, lN s, po, wp, yO, yA, yB, yT, cT', cR', oT', oR', lo, la, lb, lt, lk, ln, lP, mk, lq, ls, hd, bl, bf) → ∀ k, o < k → wY_flush_2 post (nI S) (nI C) (nI L) (nI qN) (nI m) (lN s) po wp k (nI it) (nI c) (nI o) yO yA yB yT cT cR oT oR lo la lb lt lk ln lP mk lq ls hd bl bf) := by
  intro o
  induction o with
  | zero =>
    intro c it cT cR oT oR ho hc hit h1 h2
    refine ⟨c, 0, cT, cR, oT, oR, rfl, hc, Or.inl rfl, h1, h2, fun post hp k hk => ?_⟩
    obtain ⟨k', rfl⟩ : ∃ k', k = k' + 1 := ⟨k - 1, by omega⟩
    exact br_f (nI_ge (b := 40) (by omega) (by decide)) (br_t rfl hp)
  | succ o ih =>
    intro c it cT cR oT oR ho hc hit h1 h2
    by_cases hcC : C ≤ c
    · refine ⟨c, o + 1, cT, cR, oT, oR, rfl, hc, Or.inr (by omega), h1, h2, fun post hp k hk => ?_⟩
      obtain ⟨k', rfl⟩ : ∃ k', k = k' + 1 := ⟨k - 1, by omega⟩
      exact br_f (nI_ge (b := 40) (by omega) (by decide)) (br_f (nI_ne0 (by omega) (by omega)) (br_t (nI_le hcC (by omega)) hp))
    · obtain ⟨c', o', cT', cR', oT', oR', a1, a2, a3, a4, a5, a6⟩ := ih (c + 1) (it + 1) _ _ _ _ (by omega) (by omega) (by omega) (ar_Z_mv h1) (ar_Z_mv h2)
      refine ⟨c', o', cT', cR', oT', oR', by omega, a2, a3, a4, a5, fun post hp k hk => ?_⟩
      obtain ⟨k', rfl⟩ : ∃ k', k = k' + 1 := ⟨k - 1, by omega⟩
      have h := ay_fl80 (S := S) (C := C) (L := L) (s := s) (qN := qN) (m := m) (po := po) (wp := wp) (c := c + 1) (oT := oT) (oR := oR) post (it := it) (O := o + 1) (by omega) (a6 post hp k' (by omega)) o 0 (by omega)
      rw [ar_sh0, ar_sh0] at h
      exact br_f (nI_ge (b := 40) (by omega) (by decide)) (br_f (nI_ne0 (by omega) (by omega)) (br_f (nI_ge (by omega) (by omega)) (br_t (nI_lt (b := 16) (by omega) (by decide)) ⟨vp_in_nI (by omega) (by omega), nm_r (ar_uc cT _ (by omega)) ⟨vp_in_nI (by omega) (by omega), nm_r (ar_uc cR _ (by omega)) (nm_r (nI_1 c) ⟨_, h⟩)⟩⟩)))
theorem ax_cd (post : SX → Prop) (hn : n ≤ 32) (hp : post (nI S, nI C, nI L, nI qF, nI qN, nI F, nI (c + o), nI c, nI n, xO, xA, xB, xT, T, R, op, A, B, tg, st, ar_cd (fun p => decide (st p = 1)) tk n, hs, bl, bf)) : ∀ d j, j + d = n → wX_countDown_2 post (nI S) (nI C) (nI L) (nI qF) (nI qN) (nI F) (nI (c + o)) (nI c) (nI n) (d + 1) (nI j) xO xA xB xT T R op A B tg st (ar_cd (fun p => decide (st p = 1)) tk j) hs bl bf := by
  intro d
  induction d with
  | zero =>
    intro j hj
    have e : j = n := by omega
    subst e
    exact br_t (nI_le (Nat.le_refl _) (by omega)) hp
  | succ d ih =>
    intro j hj
    have i0 : vp_in (nI j) 32 := vp_in_nI (by omega) (by omega)
    refine br_f (nI_ge (by omega) (by omega)) ⟨i0, ?_⟩
    by_cases z : st j = 1
    · exact br_t (by rw [nI_clamp (by omega)]; exact z) ⟨i0, i0, nm_r (ar_cd_1 (decide_eq_true z) (by omega)) (nm_r (nI_1 j) (ih (j + 1) (by omega)))⟩
    · have h := ih (j + 1) (by omega)
      rw [ar_cd_n (decide_eq_false z)] at h
      exact br_f (by rw [nI_clamp (by omega)]; exact z) (nm_r (nI_1 j) h)
theorem ay_cd (post : Int32 → SY → Prop) (hm : m ≤ 32) (hp : ∃ k, wY_tick_52 post po k 0 (nI S) (nI C) (nI L) (nI qN) (nI c) (nI o) (nI m) (lN s) po wp yO yA yB yT cT cR oT oR lo la lb lt (ar_cd (fun p => decide (¬ lP p = 0)) lk m) ln lP mk lq ls hd bl bf) : ∀ d j, j + d = m → wY_tick_6 post (nI S) (nI C) (nI L) (nI qN) (nI c) (nI o) (nI m) (lN s) po wp (d + 1) (nI j) yO yA yB yT cT cR oT oR lo la lb lt (ar_cd (fun p => decide (¬ lP p = 0)) lk j) ln lP mk lq ls hd bl bf := by
  intro d
  induction d with
  | zero =>
    intro j hj
    have e : j = m := by omega
    subst e
    exact br_t (nI_le (Nat.le_refl _) (by omega)) hp
  | succ d ih =>
    intro j hj
    have i0 : vp_in (nI j) 32 := vp_in_nI (by omega) (by omega)
    refine br_f (nI_ge (by omega) (by omega)) (br_f (nI_ge (b := 32) (by omega) (by decide)) ⟨i0, ?_⟩)
    by_cases z : lP j = 0
    · have h := ih (j + 1) (by omega)
      rw [ar_cd_n (decide_eq_false (fun w => w z))] at h
      exact br_t (by rw [nI_clamp (by omega)]; exact z) (nm_r (nI_1 j) h)
    · exact br_f (by rw [nI_clamp (by omega)]; exact z) ⟨i0, i0, nm_r (ar_cd_1 (decide_eq_true z) (by omega)) (nm_r (nI_1 j) (ih (j + 1) (by omega)))⟩
/-- dropPosted: k places are filled, those from a on are as they were -/
def ar_D (e : Nat → Nat) (a k : Nat) (g g' : Nat → Int32) : Prop := (∀ j, j < k → g' j = g (e j)) ∧ (∀ p, a ≤ p → g' p = g p)
theorem ar_D_0 {e : Nat → Nat} {g : Nat → Int32} : ar_D e 0 0 g g := ⟨fun j h => absurd h (by omega), fun _ _ => rfl⟩
theorem ar_D_d {e : Nat → Nat} {a k : Nat} {g g' : Nat → Int32} (h : ar_D e a k g g') : ar_D e (a + 1) k g g' := ⟨h.1, fun p hp => h.2 p (by omega)⟩
theorem ar_D_a {e : Nat → Nat} {a k : Nat} {g g' : Nat → Int32} (h : ar_D e a k g g') (hk : k ≤ a) (he : e k = a) : ar_D e (a + 1) (k + 1) g (upd g' k (g' a)) := by
  refine ⟨fun j hj => ?_, fun p hp => ?_⟩
  · by_cases z : j = k
    · rw [z, pk_us, he]; exact h.2 a (Nat.le_refl _)
    · rw [pk_un z]; exact h.1 j (by omega)
  · rw [pk_un (by omega)]; exact h.2 p (by omega)
theorem ax_drop (post : SX → Prop) (hn : n ≤ 32) {e : Nat → Nat} (hE : ar_E n m st e)
    (hp : ∀ op' A' B' tg' st' tk' hs' : Nat → Int32, (∀ j, j < m → op' j = op (e j)) → (∀ j, j < m → A' j = A (e j)) → (∀ j, j < m → B' j = B (e j)) → (∀ j, j < m → tg' j = tg (e j)) → (∀ j, j < m → st' j = st (e j)) → (∀ j, j < m → tk' j = tk (e j)) → (∀ j, j < m → hs' j = hs (e j)) → ar_B hs' → post (nI S, nI C, nI L, nI qF, nI qN, nI F, nI (c + o), nI c, nI m, xO, xA, xB, xT, T, R, op', A', B', tg', st', tk', hs', bl, bf)) :
    ∀ d a k (op' A' B' tg' st' tk' hs' : Nat → Int32), a + d = n → ar_cut e m a k → ar_D e a k op op' → ar_D e a k A A' → ar_D e a k B B' → ar_D e a k tg tg' → ar_D e a k st st' → ar_D e a k tk tk' → ar_D e a k hs hs' → ar_B hs' → wX_dropPosted_4 post (d + 1) (nI k) (nI a) (nI S) (nI C) (nI L) (nI qF) (nI qN) (nI F) (nI (c + o)) (nI c) (nI n) xO xA xB xT T R op' A' B' tg' st' tk' hs' bl bf := by
  intro d
  induction d with
  | zero =>
    intro a k op' A' B' tg' st' tk' hs' ha hc d1 d2 d3 d4 d5 d6 d7 hb
    have e1 : a = n := by omega
    subst e1
    have e2 := ar_cut_n hE hc
    subst e2
    exact br_t (nI_le (Nat.le_refl _) (by omega)) (hp op' A' B' tg' st' tk' hs' d1.1 d2.1 d3.1 d4.1 d5.1 d6.1 d7.1 hb)
  | succ d ih =>
    intro a k op' A' B' tg' st' tk' hs' ha hc d1 d2 d3 d4 d5 d6 d7 hb
    have hka := ar_cut_le hE hc
    have hsa : st' a = st a := d5.2 a (Nat.le_refl _)
    have i0 : vp_in (nI a) 32 := vp_in_nI (by omega) (by omega)
    have i1 : vp_in (nI k) 32 := vp_in_nI (by omega) (by omega)
    refine br_f (nI_ge (by omega) (by omega)) ⟨i0, ?_⟩
    by_cases z : st a = 2
    · exact br_t (by rw [nI_clamp (by omega), hsa]; exact z) (nm_r (nI_1 a) (ih (a + 1) k op' A' B' tg' st' tk' hs' (by omega) (ar_cut_d hE hc z) (ar_D_d d1) (ar_D_d d2) (ar_D_d d3) (ar_D_d d4) (ar_D_d d5) (ar_D_d d6) (ar_D_d d7) hb))
    · obtain ⟨h1, h2, h3⟩ := ar_cut_a hE hc (by omega) z
      refine br_f (by rw [nI_clamp (by omega), hsa]; exact z) (And.intro i0 ⟨i1, nm_r (ar_ur op' op' (by omega) (by omega)) ⟨i0, i1, nm_r (ar_ur A' A' (by omega) (by omega)) ⟨i0, i1, nm_r (ar_ur B' B' (by omega) (by omega)) ⟨i0, i1, nm_r (ar_ur tg' tg' (by omega) (by omega)) ⟨i0, i1, nm_r (ar_ur st' st' (by omega) (by omega)) ⟨i0, i1, nm_r (ar_ur tk' tk' (by omega) (by omega)) ⟨i0, i1, nm_r (ar_urb hs' hs' (by omega) (by omega) hb) (nm_r (nI_1 k) (nm_r (nI_1 a) ?_))⟩⟩⟩⟩⟩⟩⟩)
      exact ih (a + 1) (k + 1) _ _ _ _ _ _ _ (by omega) h3 (ar_D_a d1 hka h2) (ar_D_a d2 hka h2) (ar_D_a d3 hka h2) (ar_D_a d4 hka h2) (ar_D_a d5 hka h2) (ar_D_a d6 hka h2) (ar_D_a d7 hka h2) (ar_Bu hb (hb a))
theorem ax_dropPosted (post : SX → Prop) (hn : n ≤ 32) {e : Nat → Nat} (hE : ar_E n m st e) (hb : ar_B hs)
    (hp : ∀ op' A' B' tg' st' tk' hs' : Nat → Int32, (∀ j, j < m → op' j = op (e j)) → (∀ j, j < m → A' j = A (e j)) → (∀ j, j < m → B' j = B (e j)) → (∀ j, j < m → tg' j = tg (e j)) → (∀ j, j < m → st' j = st (e j)) → (∀ j, j < m → tk' j = tk (e j)) → (∀ j, j < m → hs' j = hs (e j)) → ar_B hs' → post (nI S, nI C, nI L, nI qF, nI qN, nI F, nI (c + o), nI c, nI m, xO, xA, xB, xT, T, R, op', A', B', tg', st', tk', hs', bl, bf)) : wpX_dropPosted post (nI S, nI C, nI L, nI qF, nI qN, nI F, nI (c + o), nI c, nI n, xO, xA, xB, xT, T, R, op, A, B, tg, st, tk, hs, bl, bf) :=
  ⟨_, ax_drop post hn hE hp n 0 0 op A B tg st tk hs (by omega) ar_cut0 ar_D_0 ar_D_0 ar_D_0 ar_D_0 ar_D_0 ar_D_0 ar_D_0 hb⟩
end
