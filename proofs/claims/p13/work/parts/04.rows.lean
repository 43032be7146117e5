theorem ar_uc (a : Nat → Int32) {p : Nat} (x : Int32) (hp : p < 2 ^ 31) : upd a (nI p).toNatClampNeg x = upd a p x := by rw [nI_clamp hp]
theorem ar_ur (a b : Nat → Int32) {p r : Nat} (hp : p < 2 ^ 31) (hr : r < 2 ^ 31) : upd a (nI p).toNatClampNeg (b (nI r).toNatClampNeg) = upd a p (b r) := by rw [nI_clamp hp, nI_clamp hr]
theorem ar_ub (a : Nat → Int32) {p : Nat} (x : Int32) (hp : p < 2 ^ 31) (hx : x = 0 ∨ x = 1) : upd a (nI p).toNatClampNeg (vp_nar .boolean x) = upd a p x := by
  rw [nI_clamp hp]
  rcases hx with h | h <;> rw [h] <;> rfl
theorem ar_urb (a b : Nat → Int32) {p r : Nat} (hp : p < 2 ^ 31) (hr : r < 2 ^ 31) (hb : ar_B b) : upd a (nI p).toNatClampNeg (vp_nar .boolean (b (nI r).toNatClampNeg)) = upd a p (b r) := by rw [nI_clamp hp, nI_clamp hr, ar_B_nar hb]
theorem ar_r48 (a b : Nat) (h : a + b < 2 ^ 31) : nI a + nI b - (nI a + nI b) / 48 * 48 = nI ((a + b) % 48) := by
  rw [nI_add]; exact pk_rem (d := 48) h (by decide) (by decide)
theorem ar_r16 (a b : Nat) (h : a + b < 2 ^ 31) : nI a + nI b - (nI a + nI b) / 16 * 16 = nI ((a + b) % 16) := by
  rw [nI_add]; exact pk_rem (d := 16) h (by decide) (by decide)
theorem ar_n1 {a b : Nat} (h : b = a + 1) : nI a + 1 = nI b := by rw [h, nI_1]
theorem ar_FR_1 {n : Nat} {hs st tk : Nat → Int32} {f : Nat} : ar_FR n hs st tk (upd st f 2) tk f := by
  refine ⟨fun p h1 h2 => ?_, fun h h1 h2 h3 p h4 h5 => ?_⟩
  · have e : p ≠ f := fun w => by rw [w, pk_us] at h1; exact ar_21 h1
    rw [pk_un e] at h1
    exact ⟨h1, h2, e⟩
  · rw [pk_un (by omega)]; exact h3 p h4 h5
theorem ar_FR_W {n : Nat} {hs st tk : Nat → Int32} {f : Nat} {t : Int32} (ht : ¬ t = 0) : ar_FR n hs st tk (upd st f 1) (upd tk f t) f := by
  refine ⟨fun p h1 h2 => ?_, fun h h1 h2 h3 p h4 h5 => ?_⟩
  · have e : p ≠ f := fun w => by rw [w, pk_us] at h2; exact ht h2
    rw [pk_un e] at h1 h2
    exact ⟨h1, h2, e⟩
  · rw [pk_un (by omega)]; exact h3 p h4 h5
theorem ar_FR_S {n : Nat} {hs st tk st' tk' : Nat → Int32} {f : Nat} (hh : ¬ hs f = 0) (h : ar_FR n hs (upd st f 2) tk st' tk' (f + 1)) : ar_FR n hs st tk st' tk' f := by
  refine ⟨fun p h1 h2 => ?_, fun g h1 h2 h3 p h4 h5 => ?_⟩
  · obtain ⟨a1, a2, a3⟩ := h.1 p h1 h2
    have e : p ≠ f := fun w => by rw [w, pk_us] at a1; exact ar_21 a1
    rw [pk_un e] at a1
    exact ⟨a1, a2, e⟩
  · have e : g ≠ f + 1 := fun w => hh (by rw [w, show f + 1 - 1 = f by omega] at h2; exact h2)
    exact h.2 g (by omega) h2 (fun p b1 b2 => by rw [pk_un (by omega)]; exact h3 p b1 b2) p h4 h5
theorem ar_FR_C {n : Nat} {hs st tk st' : Nat → Int32} {f : Nat} (hh : ¬ hs f = 0) (h : ar_FC hs (upd st f 2) st' (f + 1)) : ar_FR n hs st tk st' tk f := by
  refine ⟨fun p h1 h2 => ?_, fun g h1 h2 h3 p h4 h5 => ?_⟩
  · have a1 := ar_FC_1s h h1
    have e : p ≠ f := fun w => by rw [w, pk_us] at a1; exact ar_21 a1
    rw [pk_un e] at a1
    exact ⟨a1, h2, e⟩
  · have e : g ≠ f + 1 := fun w => hh (by rw [w, show f + 1 - 1 = f by omega] at h2; exact h2)
    exact ar_FC_h h (by omega) h2 (fun p b1 b2 => by rw [pk_un (by omega)]; exact h3 p b1 b2) p h4 h5
theorem ar_FR_K {n : Nat} {hs st st1 tk st' tk' : Nat → Int32} {f : Nat} (hK : ar_FK n hs st st1) (h : ar_FR n hs st1 tk st' tk' f) : ar_FR n hs st tk st' tk' f := by
  refine ⟨fun p h1 h2 => ?_, fun g h1 h2 h3 p h4 h5 => ?_⟩
  · obtain ⟨a1, a2, a3⟩ := h.1 p h1 h2
    exact ⟨ar_FK_1 hK a1, a2, a3⟩
  · exact h.2 g h1 h2 (ar_FK_h hK (fun _ => h2) h3) p h4 h5
section
variable {S C F n qF qN c o : Nat} {Lz : Int32} {xO xA xB xT op A B tg hs T R st tk bl bf : Nat → Int32}
theorem ax_post (post : St2 → Prop) {p : Nat} {res : Int32} (hp : p < 32) (hC : C ≤ 16) (hF : F < 48) (hD : c + o < 48)
    (hA : o = 0 → c < C → post (nI S, nI C, Lz, nI qF, nI qN, nI F, nI (c + 1 + o), nI (c + 1), nI n, xO, xA, xB, xT, upd T ((F + (c + o)) % 48) (tg p), upd R ((F + (c + o)) % 48) res, op, A, B, tg, upd st p 2, tk, hs, bl, bf))
    (hB : ¬ (o = 0 ∧ c < C) → post (nI S, nI C, Lz, nI qF, nI qN, nI F, nI (c + (o + 1)), nI c, nI n, xO, xA, xB, xT, upd T ((F + (c + o)) % 48) (tg p), upd R ((F + (c + o)) % 48) res, op, A, B, tg, upd st p 2, tk, hs, bl, bf)) : wpX_post post (nI S, nI C, Lz, nI qF, nI qN, nI F, nI (c + o), nI c, nI n, xO, xA, xB, xT, T, R, op, A, B, tg, st, tk, hs, bl, bf) (nI p) res := by
  have hs : (F + (c + o)) % 48 < 48 := Nat.mod_lt _ (by omega)
  refine And.intro (vp_in_nI hp (by omega)) (nm_r (ar_uc st 2 (by omega)) ⟨by decide, nm_r (ar_r48 F (c + o) (by omega)) ⟨vp_in_nI hp (by omega), vp_in_nI hs (by omega), nm_r (ar_ur T tg (by omega) (by omega)) ⟨vp_in_nI hs (by omega), nm_r (ar_uc R res (by omega)) ?_⟩⟩⟩)
  by_cases z : o = 0
  · refine br_t (by rw [z]; rfl) ?_
    by_cases y : c < C
    · exact br_f (nI_ge y (by omega)) (nm_r (nI_1 c) (nm_r (ar_n1 (by omega)) (hA z y)))
    · exact br_t (nI_le (by omega) (by omega)) (nm_r (ar_n1 (by omega)) (hB (fun w => y w.2)))
  · exact br_f (by rw [nI_eq (by omega) (by omega)]; omega) (nm_r (ar_n1 (by omega)) (hB (fun w => z w.1)))
end
/-- popped, and popped as failed -/
def am_B (Pp : Nat) (H : Nat → Nat) (V : Nat → Int32) (sn ng : Nat → Bool) : Prop := (∀ i, sn i = true ↔ ∃ t, t < Pp ∧ H t = i) ∧ (∀ i, ng i = true ↔ ∃ t, t < Pp ∧ H t = i ∧ V t < 0)
def am_P (n : Nat) (st op : Nat → Int32) : Prop := ∀ p, p < n → st p = 1 → ¬ op p = 5
def am_W (C F n E : Nat) (tg hs : Nat → Int32) (id : Nat → Nat) (pr : Nat → Bool) : Prop := C ≤ 16 ∧ n ≤ 32 ∧ F < 48 ∧ am_S n E tg hs id pr
def am_G (S C qF qN F n E Pp : Nat) (Lz : Int32) (xO xA xB xT op A B tg hs : Nat → Int32) (id : Nat → Nat) (pr sn ng : Nat → Bool) (st tk : Nat → Int32) (x : Nat) (u : St2) : Prop :=
  ∃ (c o m Pt : Nat) (e H : Nat → Nat) (V T R bl bf : Nat → Int32), u = (nI S, nI C, Lz, nI qF, nI qN, nI F, nI (c + o), nI c, nI n, xO, xA, xB, xT, T, R, op, A, B, tg, st, tk, hs, bl, bf) ∧ Pp + (c + o) = Pt ∧ am_D F (c + o) Pp T R H V ∧ am_L n m E Pt st hs e id pr H V ∧ am_N n Pt st id pr H V x ∧ am_B Pp H V sn ng ∧ am_P n st op ∧ c ≤ C ∧ m + o ≤ 32
theorem am_B_S {Pp Pt : Nat} {H : Nat → Nat} {V : Nat → Int32} {sn ng : Nat → Bool} (h : am_B Pp H V sn ng) (hP : Pp ≤ Pt) (y : Nat) (r : Int32) : am_B Pp (am_u H Pt y) (upd V Pt r) sn ng := by
  refine ⟨fun i => (h.1 i).trans ⟨?_, ?_⟩, fun i => (h.2 i).trans ⟨?_, ?_⟩⟩
  · rintro ⟨t, a, b⟩; exact ⟨t, a, by rw [am_un (by omega)]; exact b⟩
  · rintro ⟨t, a, b⟩; rw [am_un (by omega)] at b; exact ⟨t, a, b⟩
  · rintro ⟨t, a, b, c⟩; exact ⟨t, a, by rw [am_un (by omega)]; exact b, by rw [pk_un (by omega)]; exact c⟩
  · rintro ⟨t, a, b, c⟩; rw [am_un (by omega)] at b; rw [pk_un (by omega)] at c; exact ⟨t, a, b, c⟩
section
variable {S C qF qN F n E Pp : Nat} {Lz : Int32} {xO xA xB xT op A B tg hs : Nat → Int32} {id : Nat → Nat} {pr sn ng : Nat → Bool} {st tk : Nat → Int32} {u : St2}
theorem am_G_C {x : Nat} (hG : am_G S C qF qN F n E Pp Lz xO xA xB xT op A B tg hs id pr sn ng st tk x u) : ar_C n st hs := by
  obtain ⟨c, o, m, Pt, e, H, V, T, R, bl, bf, rfl, hPt, hD, hL, hNn, hB, hP, hc, hmo⟩ := hG
  exact hL.2.2.1
theorem am_G_x {x : Nat} (hG : am_G S C qF qN F n E Pp Lz xO xA xB xT op A B tg hs id pr sn ng st tk x u) (hx : pr x = false) (y : Nat) : am_G S C qF qN F n E Pp Lz xO xA xB xT op A B tg hs id pr sn ng st tk y u := by
  obtain ⟨c, o, m, Pt, e, H, V, T, R, bl, bf, rfl, hPt, hD, hL, hNn, hB, hP, hc, hmo⟩ := hG
  exact ⟨c, o, m, Pt, e, H, V, T, R, bl, bf, rfl, hPt, hD, hL, am_N_e hNn hx y, hB, hP, hc, hmo⟩
theorem am_wpost (hW : am_W C F n E tg hs id pr) {x : Nat} (hG : am_G S C qF qN F n E Pp Lz xO xA xB xT op A B tg hs id pr sn ng st tk x u) {p : Nat} (hp : p < n) (ha : ¬ st p = 2) (hH : ar_H st hs p) (r : Int32) (hx : x = E ∨ (x + 1 = id p ∧ r = -125)) (post : St2 → Prop)
    (h : ∀ u', am_G S C qF qN F n E Pp Lz xO xA xB xT op A B tg hs id pr sn ng (upd st p 2) tk (id p) u' → (¬ r < 0 → x = E → am_G S C qF qN F n E Pp Lz xO xA xB xT op A B tg hs id pr sn ng (upd st p 2) tk E u') → post u') : wpX_post post u (nI p) r := by
  obtain ⟨hC, hn, hF, hS⟩ := hW
  obtain ⟨c, o, m, Pt, e, H, V, T, R, bl, bf, rfl, hPt, hD, hL, hNn, hB, hP, hc, hmo⟩ := hG
  obtain ⟨i, hi, rfl⟩ := hL.1.2.2 p hp ha
  have hmn := ar_E_le hL.1
  have hr : ∀ t, t < Pt → H t + 1 = id (e i) → pr (H t) = true → V t < 0 → r = -125 := by
    intro t a b c d
    rcases hx with hx | hx
    · have h1 := hL.2.2.2.1 t a
      exact absurd b.symm (hNn t a d c (by omega) (e i) hp ha)
    · exact hx.2
  have hx' : x = E ∨ x + 1 = id (e i) := by
    rcases hx with hx | hx
    · exact Or.inl hx
    · exact Or.inr hx.1
  have hL' := am_post hS hL hi hH r hr
  have hN1 := am_N_p hS hp hNn hx' hL.2.2.2.1 r
  have hB' := am_B_S hB (show Pp ≤ Pt by omega) (id (e i)) r
  have hD' := am_D_S hD (by omega) (id (e i)) r
  rw [hPt] at hD'
  have hP' : am_P n (upd st (e i) 2) op := by
    intro p a b
    by_cases z : p = e i
    · rw [z, pk_us] at b; exact absurd b ar_21
    · rw [pk_un z] at b; exact hP p a b
  have htg : tg (e i) = nI (1000 + id (e i)) := (hS.1 (e i) hp).1
  refine ax_post post (by omega) hC hF (by omega) (fun ho hcC => ?_) (fun hno => ?_)
  · subst ho
    rw [htg]
    exact h _ ⟨c + 1, 0, m - 1, Pt + 1, _, _, _, _, _, bl, bf, rfl, by omega, hD', hL', hN1, hB', hP', by omega, by omega⟩ (fun a b => ⟨c + 1, 0, m - 1, Pt + 1, _, _, _, _, _, bl, bf, rfl, by omega, hD', hL', am_N_0 (by rw [← b]; exact hNn) a, hB', hP', by omega, by omega⟩)
  · rw [htg]
    exact h _ ⟨c, o + 1, m - 1, Pt + 1, _, _, _, _, _, bl, bf, rfl, by omega, hD', hL', hN1, hB', hP', hc, by omega⟩ (fun a b => ⟨c, o + 1, m - 1, Pt + 1, _, _, _, _, _, bl, bf, rfl, by omega, hD', hL', am_N_0 (by rw [← b]; exact hNn) a, hB', hP', hc, by omega⟩)
end
