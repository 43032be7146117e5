/-- counted down below j -/
def ar_cd (P : Nat → Bool) (tk : Nat → Int32) (j : Nat) : Nat → Int32 := fun p => if p < j ∧ P p = true then tk p - 1 else tk p
theorem ar_cd_0 {P : Nat → Bool} {tk : Nat → Int32} : ar_cd P tk 0 = tk := by
  funext p
  exact if_neg (by omega)
theorem ar_cd_1 {P : Nat → Bool} {tk : Nat → Int32} {j : Nat} (h : P j = true) (hj : j < 2 ^ 31) : upd (ar_cd P tk j) (nI j).toNatClampNeg (ar_cd P tk j (nI j).toNatClampNeg - 1) = ar_cd P tk (j + 1) := by
  rw [nI_clamp hj]
  funext p
  by_cases e : p = j
  · subst e
    rw [pk_us]
    unfold ar_cd
    rw [if_neg (by omega), if_pos ⟨by omega, h⟩]
  · rw [pk_un e]
    unfold ar_cd
    by_cases z : p < j ∧ P p = true
    · rw [if_pos z, if_pos ⟨by omega, z.2⟩]
    · rw [if_neg z, if_neg (fun w => z ⟨by omega, w.2⟩)]
theorem ar_cd_n {P : Nat → Bool} {tk : Nat → Int32} {j : Nat} (h : P j = false) : ar_cd P tk (j + 1) = ar_cd P tk j := by
  funext p
  unfold ar_cd
  by_cases z : p < j ∧ P p = true
  · rw [if_pos z, if_pos ⟨by omega, z.2⟩]
  · rw [if_neg z, if_neg (fun w => z ⟨?_, w.2⟩)]
    by_cases e : p = j
    · rw [e, h] at w; exact absurd w.2 (by decide)
    · omega
section
variable {S C F n qF qN c o m : Nat} {Lz : Int32} {xO xA xB xT op A B tg hs T R st tk bl bf : Nat → Int32}
theorem ax_cd (post : St2 → Prop) (hn : n ≤ 32) (hp : post (nI S, nI C, Lz, nI qF, nI qN, nI F, nI (c + o), nI c, nI n, xO, xA, xB, xT, T, R, op, A, B, tg, st, ar_cd (fun p => decide (st p = 1)) tk n, hs, bl, bf)) : ∀ d j, j + d = n → wX_countDown_2 post (nI S) (nI C) Lz (nI qF) (nI qN) (nI F) (nI (c + o)) (nI c) (nI n) (d + 1) (nI j) xO xA xB xT T R op A B tg st (ar_cd (fun p => decide (st p = 1)) tk j) hs bl bf := by
  intro d
  induction d with
  | zero =>
    intro j hj
    have e : j = n := by omega
    subst e
    exact br_t (nI_le (Nat.le_refl _) (by omega)) hp
  | succ d ih =>
    intro j hj
    have i0 : vp_in (nI j) 32 := vp_in_nI (by omega) (by omega)
    refine br_f (nI_ge (by omega) (by omega)) ⟨i0, ?_⟩
    by_cases z : st j = 1
    · exact br_t (by rw [nI_clamp (by omega)]; exact z) ⟨i0, i0, nm_r (ar_cd_1 (decide_eq_true z) (by omega)) (nm_r (nI_1 j) (ih (j + 1) (by omega)))⟩
    · have h := ih (j + 1) (by omega)
      rw [ar_cd_n (decide_eq_false z)] at h
      exact br_f (by rw [nI_clamp (by omega)]; exact z) (nm_r (nI_1 j) h)
/-- dropPosted: k places are filled, those from a on are as they were -/
def ar_D (e : Nat → Nat) (a k : Nat) (g g' : Nat → Int32) : Prop := (∀ j, j < k → g' j = g (e j)) ∧ (∀ p, a ≤ p → g' p = g p)
theorem ar_D_0 {e : Nat → Nat} {g : Nat → Int32} : ar_D e 0 0 g g := ⟨fun j h => absurd h (by omega), fun _ _ => rfl⟩
theorem ar_D_d {e : Nat → Nat} {a k : Nat} {g g' : Nat → Int32} (h : ar_D e a k g g') : ar_D e (a + 1) k g g' := ⟨h.1, fun p hp => h.2 p (by omega)⟩
theorem ar_D_a {e : Nat → Nat} {a k : Nat} {g g' : Nat → Int32} (h : ar_D e a k g g') (hk : k ≤ a) (he : e k = a) : ar_D e (a + 1) (k + 1) g (upd g' k (g' a)) := by
  refine ⟨fun j hj => ?_, fun p hp => ?_⟩
  · by_cases z : j = k
    · rw [z, pk_us, he]; exact h.2 a (Nat.le_refl _)
    · rw [pk_un z]; exact h.1 j (by omega)
  · rw [pk_un (by omega)]; exact h.2 p (by omega)
theorem ax_drop (post : St2 → Prop) (hn : n ≤ 32) {e : Nat → Nat} (hE : ar_E n m st e)
    (hp : ∀ op' A' B' tg' st' tk' hs' : Nat → Int32, (∀ j, j < m → op' j = op (e j)) → (∀ j, j < m → A' j = A (e j)) → (∀ j, j < m → B' j = B (e j)) → (∀ j, j < m → tg' j = tg (e j)) → (∀ j, j < m → st' j = st (e j)) → (∀ j, j < m → tk' j = tk (e j)) → (∀ j, j < m → hs' j = hs (e j)) → ar_B hs' → post (nI S, nI C, Lz, nI qF, nI qN, nI F, nI (c + o), nI c, nI m, xO, xA, xB, xT, T, R, op', A', B', tg', st', tk', hs', bl, bf)) :
    ∀ d a k (op' A' B' tg' st' tk' hs' : Nat → Int32), a + d = n → ar_cut e m a k → ar_D e a k op op' → ar_D e a k A A' → ar_D e a k B B' → ar_D e a k tg tg' → ar_D e a k st st' → ar_D e a k tk tk' → ar_D e a k hs hs' → ar_B hs' → wX_dropPosted_4 post (d + 1) (nI k) (nI a) (nI S) (nI C) Lz (nI qF) (nI qN) (nI F) (nI (c + o)) (nI c) (nI n) xO xA xB xT T R op' A' B' tg' st' tk' hs' bl bf := by
  intro d
  induction d with
  | zero =>
    intro a k op' A' B' tg' st' tk' hs' ha hc d1 d2 d3 d4 d5 d6 d7 hb
    have e1 : a = n := by omega
    subst e1
    have e2 := ar_cut_n hE hc
    subst e2
    exact br_t (nI_le (Nat.le_refl _) (by omega)) (hp op' A' B' tg' st' tk' hs' d1.1 d2.1 d3.1 d4.1 d5.1 d6.1 d7.1 hb)
  | succ d ih =>
    intro a k op' A' B' tg' st' tk' hs' ha hc d1 d2 d3 d4 d5 d6 d7 hb
    have hka := ar_cut_le hE hc
    have hsa : st' a = st a := d5.2 a (Nat.le_refl _)
    have i0 : vp_in (nI a) 32 := vp_in_nI (by omega) (by omega)
    have i1 : vp_in (nI k) 32 := vp_in_nI (by omega) (by omega)
    refine br_f (nI_ge (by omega) (by omega)) ⟨i0, ?_⟩
    by_cases z : st a = 2
    · exact br_t (by rw [nI_clamp (by omega), hsa]; exact z) (nm_r (nI_1 a) (ih (a + 1) k op' A' B' tg' st' tk' hs' (by omega) (ar_cut_d hE hc z) (ar_D_d d1) (ar_D_d d2) (ar_D_d d3) (ar_D_d d4) (ar_D_d d5) (ar_D_d d6) (ar_D_d d7) hb))
    · obtain ⟨h1, h2, h3⟩ := ar_cut_a hE hc (by omega) z
      refine br_f (by rw [nI_clamp (by omega), hsa]; exact z) (And.intro i0 ⟨i1, nm_r (ar_ur op' op' (by omega) (by omega)) ⟨i0, i1, nm_r (ar_ur A' A' (by omega) (by omega)) ⟨i0, i1, nm_r (ar_ur B' B' (by omega) (by omega)) ⟨i0, i1, nm_r (ar_ur tg' tg' (by omega) (by omega)) ⟨i0, i1, nm_r (ar_ur st' st' (by omega) (by omega)) ⟨i0, i1, nm_r (ar_ur tk' tk' (by omega) (by omega)) ⟨i0, i1, nm_r (ar_urb hs' hs' (by omega) (by omega) hb) (nm_r (nI_1 k) (nm_r (nI_1 a) ?_))⟩⟩⟩⟩⟩⟩⟩)
      exact ih (a + 1) (k + 1) _ _ _ _ _ _ _ (by omega) h3 (ar_D_a d1 hka h2) (ar_D_a d2 hka h2) (ar_D_a d3 hka h2) (ar_D_a d4 hka h2) (ar_D_a d5 hka h2) (ar_D_a d6 hka h2) (ar_D_a d7 hka h2) (ar_Bu hb (hb a))
theorem ax_dropPosted (post : St2 → Prop) (hn : n ≤ 32) {e : Nat → Nat} (hE : ar_E n m st e) (hb : ar_B hs)
    (hp : ∀ op' A' B' tg' st' tk' hs' : Nat → Int32, (∀ j, j < m → op' j = op (e j)) → (∀ j, j < m → A' j = A (e j)) → (∀ j, j < m → B' j = B (e j)) → (∀ j, j < m → tg' j = tg (e j)) → (∀ j, j < m → st' j = st (e j)) → (∀ j, j < m → tk' j = tk (e j)) → (∀ j, j < m → hs' j = hs (e j)) → ar_B hs' → post (nI S, nI C, Lz, nI qF, nI qN, nI F, nI (c + o), nI c, nI m, xO, xA, xB, xT, T, R, op', A', B', tg', st', tk', hs', bl, bf)) : wpX_dropPosted post (nI S, nI C, Lz, nI qF, nI qN, nI F, nI (c + o), nI c, nI n, xO, xA, xB, xT, T, R, op, A, B, tg, st, tk, hs, bl, bf) :=
  ⟨_, ax_drop post hn hE hp n 0 0 op A B tg st tk hs (by omega) ar_cut0 ar_D_0 ar_D_0 ar_D_0 ar_D_0 ar_D_0 ar_D_0 ar_D_0 hb⟩
end
theorem am_close {n m E Pt : Nat} {st hs tg op : Nat → Int32} {e id : Nat → Nat} {pr : Nat → Bool} {H : Nat → Nat} {V : Nat → Int32} {op' tg' st' hs' : Nat → Int32} (hS : am_S n E tg hs id pr) (h : am_L n m E Pt st hs e id pr H V) (hN : am_N n Pt st id pr H V E) (hP : am_P n st op)
    (c1 : ∀ j, j < m → op' j = op (e j)) (c4 : ∀ j, j < m → tg' j = tg (e j)) (c5 : ∀ j, j < m → st' j = st (e j)) (c7 : ∀ j, j < m → hs' j = hs (e j)) :
    am_S m E tg' hs' (fun j => id (e j)) pr ∧ am_L m m E Pt st' hs' (fun j => j) (fun j => id (e j)) pr H V ∧ am_N m Pt st' (fun j => id (e j)) pr H V E ∧ am_P m st' op' := by
  obtain ⟨hE, hm, hC, h1, h2, h3, h4, h5⟩ := h
  have hal : ∀ p, p < m → ¬ st' p = 2 := fun p hp => by rw [c5 p hp]; exact (hE.2.1 p hp).2
  have hnx : ∀ p, p < m → ¬ hs' p = 0 → p + 1 < m ∧ e (p + 1) = e p + 1 ∧ st (e p + 1) = 0 := by
    intro p hp hh
    rw [c7 p hp] at hh
    have hb := hE.2.1 p hp
    obtain ⟨d1, d2⟩ := hC (e p) hb.1 hb.2 hh
    obtain ⟨j, hj, ej⟩ := hE.2.2 (e p + 1) d1 (by rw [d2]; exact ar_02)
    have hpj : p < j := ar_E_lt hE hp hj (by omega)
    have hp1 : p + 1 < m := by omega
    have hj1 : j = p + 1 := by
      by_cases e1 : j = p + 1
      · exact e1
      · have a1 := hE.1 p (p + 1) (by omega) hp1
        have a2 := hE.1 (p + 1) j (by omega) hj
        omega
    rw [hj1] at ej
    exact ⟨hp1, ej, d2⟩
  refine ⟨⟨fun p hp => ?_, fun p r a b => ?_, fun p hp => ?_, fun p hp hh => ?_⟩, ⟨ar_E_id hal, hm, fun p hp a b => ?_, h1, h2, fun t p a b c => ?_, fun i hi => ?_, h5⟩, fun t a b c d q f g => ?_, fun p a b => ?_⟩
  · rw [c4 p hp]; exact hS.1 (e p) (hE.2.1 p hp).1
  · exact hS.2.1 (e p) (e r) (hE.1 p r a b) (hE.2.1 r b).1
  · rw [c7 p hp]; exact hS.2.2.1 (e p) (hE.2.1 p hp).1
  · obtain ⟨a1, a2, a3⟩ := hnx p hp hh
    refine ⟨a1, ?_⟩
    show id (e (p + 1)) = id (e p) + 1
    rw [a2]
    rw [c7 p hp] at hh
    exact (hS.2.2.2 (e p) (hE.2.1 p hp).1 hh).2
  · obtain ⟨a1, a2, a3⟩ := hnx p hp b
    exact ⟨a1, by rw [c5 _ a1, a2]; exact a3⟩
  · exact h3 t (e p) a (hE.2.1 p b).1 (hE.2.1 p b).2
  · rcases h4 i hi with ⟨p, a, b, c⟩ | w
    · obtain ⟨j, hj, rfl⟩ := hE.2.2 p a b
      exact Or.inl ⟨j, hj, hal j hj, c⟩
    · exact Or.inr w
  · exact hN t a b c d (e q) (hE.2.1 q f).1 (hE.2.1 q f).2
  · rw [c5 p a] at b
    rw [c1 p a]
    exact hP (e p) (hE.2.1 p a).1 b
/-- between two calls -/
def am_R (E Pp acc : Nat) (pr sn ng lk : Nat → Bool) (u : St2) : Prop :=
  ∃ (S C qF qN F n : Nat) (Lz : Int32) (xO xA xB xT op A B tg hs st tk : Nat → Int32) (id : Nat → Nat) (c o Pt : Nat) (H : Nat → Nat) (V T R bl bf : Nat → Int32),
    u = (nI S, nI C, Lz, nI qF, nI qN, nI F, nI (c + o), nI c, nI n, xO, xA, xB, xT, T, R, op, A, B, tg, st, tk, hs, bl, bf) ∧ Pp + (c + o) = Pt ∧ am_D F (c + o) Pp T R H V ∧ am_L n n E Pt st hs (fun j => j) id pr H V ∧ am_N n Pt st id pr H V E ∧ am_B Pp H V sn ng ∧ am_P n st op ∧ c ≤ C ∧ n + o ≤ 32 ∧
    am_W C F n E tg hs id pr ∧ ar_B hs ∧ E + qN = acc ∧ qN ≤ S ∧ S ≤ 16 ∧ qF < 16 ∧ (∀ j, j < qN → xT ((qF + j) % 16) = nI (1000 + (E + j)) ∧ (¬ xO ((qF + j) % 16) &&& 16 = 0 ↔ lk (E + j) = true)) ∧ (∀ i, pr i = true → i + 1 < E)
section
variable {S C qF qN F n E Pp : Nat} {Lz : Int32} {xO xA xB xT op A B tg hs : Nat → Int32} {id : Nat → Nat} {pr sn ng : Nat → Bool} {st tk : Nat → Int32} {u : St2}
theorem am_flush (hW : am_W C F n E tg hs id pr) {x : Nat} (hG : am_G S C qF qN F n E Pp Lz xO xA xB xT op A B tg hs id pr sn ng st tk x u) (post : St2 → Prop) (h : ∀ u', am_G S C qF qN F n E Pp Lz xO xA xB xT op A B tg hs id pr sn ng st tk x u' → post u') : wpX_flush post u := by
  obtain ⟨hC, hn, hF, hS⟩ := hW
  obtain ⟨c, o, m, Pt, e, H, V, T, R, bl, bf, rfl, hPt, hD, hL, hNn, hB, hP, hc, hmo⟩ := hG
  refine br_c (fun z => ?_) (fun z => ?_)
  · have z' : C ≤ c + o := (nI_leI (by omega) (by omega)).mp z
    exact h _ ⟨C, c + o - C, m, Pt, e, H, V, T, R, bl, bf, by rw [show C + (c + o - C) = c + o by omega], by omega, by rw [show C + (c + o - C) = c + o by omega]; exact hD, hL, hNn, hB, hP, by omega, by omega⟩
  · have z' : ¬ C ≤ c + o := fun w => z (nI_le w (by omega))
    exact h _ ⟨c + o, 0, m, Pt, e, H, V, T, R, bl, bf, rfl, by omega, hD, hL, hNn, hB, hP, by omega, by omega⟩
theorem am_count (hW : am_W C F n E tg hs id pr) {x : Nat} (hG : am_G S C qF qN F n E Pp Lz xO xA xB xT op A B tg hs id pr sn ng st tk x u) (post : St2 → Prop) (h : ∀ u' tk', am_G S C qF qN F n E Pp Lz xO xA xB xT op A B tg hs id pr sn ng st tk' x u' → post u') : wpX_countDown post u := by
  obtain ⟨hC, hn, hF, hS⟩ := hW
  obtain ⟨c, o, m, Pt, e, H, V, T, R, bl, bf, rfl, hPt, hD, hL, hNn, hB, hP, hc, hmo⟩ := hG
  have h2 := ax_cd (st := st) (tk := tk) post hn (h _ _ ⟨c, o, m, Pt, e, H, V, T, R, bl, bf, rfl, hPt, hD, hL, hNn, hB, hP, hc, hmo⟩) n 0 (by omega)
  rw [ar_cd_0] at h2
  exact ⟨_, h2⟩
theorem am_drop (hW : am_W C F n E tg hs id pr) (hbh : ar_B hs) {acc : Nat} {lk : Nat → Bool} (hacc : E + qN = acc) (hqS : qN ≤ S) (hS16 : S ≤ 16) (hqF : qF < 16) (hq : ∀ j, j < qN → xT ((qF + j) % 16) = nI (1000 + (E + j)) ∧ (¬ xO ((qF + j) % 16) &&& 16 = 0 ↔ lk (E + j) = true)) (hpr : ∀ i, pr i = true → i + 1 < E)
    (hG : am_G S C qF qN F n E Pp Lz xO xA xB xT op A B tg hs id pr sn ng st tk E u) (post : St2 → Prop) (h : ∀ u', am_R E Pp acc pr sn ng lk u' → post u') : wpX_dropPosted post u := by
  obtain ⟨hC, hn, hF, hS⟩ := hW
  obtain ⟨c, o, m, Pt, e, H, V, T, R, bl, bf, rfl, hPt, hD, hL, hNn, hB, hP, hc, hmo⟩ := hG
  have hmn := ar_E_le hL.1
  refine ax_dropPosted post hn hL.1 hbh (fun op' A' B' tg' st' tk' hs' d1 d2 d3 d4 d5 d6 d7 hb => h _ ?_)
  obtain ⟨a1, a2, a3, a4⟩ := am_close hS hL hNn hP d1 d4 d5 d7
  exact ⟨S, C, qF, qN, F, m, Lz, xO, xA, xB, xT, op', A', B', tg', hs', st', tk', (fun j => id (e j)), c, o, Pt, H, V, T, R, bl, bf, rfl, hPt, hD, a2, a3, hB, a4, hc, hmo, ⟨hC, by omega, hF, a1⟩, hb, hacc, hqS, hS16, hqF, hq, hpr⟩
end
