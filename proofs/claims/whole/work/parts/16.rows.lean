/-- while entries are taken: n0 live requests before the call, n now -/
def ar_U (n0 n s0 : Nat) (q : Nat → Nat) (op A B tg st tk hs lo la lb lt lk ln lP : Nat → Int32) (lq ls : Nat → Int64) : Prop :=
  (∀ j, j < n → lo j = op j ∧ la j = A j ∧ lb j = B j ∧ lt j = tg j ∧ lk j = tk j ∧ lP j = ar_pd st j ∧ ¬ st j = 2) ∧
  (∀ j, j < n0 → lq j = lN (q j) ∧ ls j = ar_su hs q j) ∧
  (∀ j, n0 ≤ j → j < n → lq j = lN (s0 + (j - n0)) ∧ ls j = -1 ∧ ln j = hs j ∧ st j = 0) ∧
  ar_C n0 st hs ∧ ar_Q n0 s0 st hs q ∧ ar_P n0 st op A B
def ar_fl (x : Int32) : Int32 := if x &&& 16 = 0 then 0 else 1
theorem ar_fl_B (x : Int32) : ar_fl x = 0 ∨ ar_fl x = 1 := by
  unfold ar_fl
  by_cases h : x &&& 16 = 0
  · rw [if_pos h]; exact Or.inl rfl
  · rw [if_neg h]; exact Or.inr rfl
section
variable {n0 n s0 : Nat} {q : Nat → Nat} {op A B tg st tk hs lo la lb lt lk ln lP : Nat → Int32} {lq ls : Nat → Int64}
theorem ar_U_0 (h : ar_M n0 n0 s0 (fun j => j) q op A B tg st tk hs lo la lb lt lk lP lq ls) : ar_U n0 n0 s0 q op A B tg st tk hs lo la lb lt lk ln lP lq ls := by
  obtain ⟨hE, h1, h2, h3, h4, h5, h6, h7, h8, hC, hQ, hP⟩ := h
  exact ⟨fun j hj => ⟨h1 j hj, h2 j hj, h3 j hj, h4 j hj, h5 j hj, h6 j hj, (hE.2.1 j hj).2⟩, fun j hj => ⟨h7 j hj, h8 j hj⟩, fun j a b => absurd a (by omega), hC, hQ, hP⟩
theorem ar_U_S (h : ar_U n0 n s0 q op A B tg st tk hs lo la lb lt lk ln lP lq ls) (hn : n0 ≤ n) (fo fa fb ft fh : Int32) :
    ar_U n0 (n + 1) s0 q (upd op n fo) (upd A n fa) (upd B n fb) (upd tg n ft) (upd st n 0) (upd tk n 0) (upd hs n fh) (upd lo n fo) (upd la n fa) (upd lb n fb) (upd lt n ft) (upd lk n 0) (upd ln n fh) (upd lP n 0) (vp_updL lq n (lN (s0 + (n - n0)))) (vp_updL ls n (-1)) := by
  obtain ⟨h1, h2, h3, hC, hQ, hP⟩ := h
  refine ⟨fun j hj => ?_, fun j hj => ?_, fun j ha hj => ?_, ?_, ⟨hQ.1, ?_, hQ.2.2⟩, ?_⟩
  · by_cases e : j = n
    · subst e
      unfold ar_pd
      rw [pk_us, pk_us, pk_us, pk_us, pk_us, pk_us, pk_us, pk_us, pk_us, pk_us, pk_us, pk_us]
      exact ⟨rfl, rfl, rfl, rfl, rfl, rfl, ar_02⟩
    · unfold ar_pd
      rw [pk_un e, pk_un e, pk_un e, pk_un e, pk_un e, pk_un e, pk_un e, pk_un e, pk_un e, pk_un e, pk_un e, pk_un e]
      exact h1 j (by omega)
  · have e : j ≠ n := by omega
    unfold ar_su
    rw [pk_uLn e, pk_uLn e, pk_un e]
    exact h2 j hj
  · by_cases e : j = n
    · subst e
      rw [pk_uLs, pk_uLs, pk_us, pk_us, pk_us]
      exact ⟨rfl, rfl, rfl, rfl⟩
    · rw [pk_uLn e, pk_uLn e, pk_un e, pk_un e, pk_un e]
      exact h3 j ha (by omega)
  · intro p hp a b
    rw [pk_un (by omega)] at a b
    obtain ⟨c1, c2⟩ := hC p hp a b
    exact ⟨c1, by rw [pk_un (by omega)]; exact c2⟩
  · intro p hp a b
    rw [pk_un (by omega)] at a b
    exact hQ.2.1 p hp a b
  · intro p hp a
    rw [pk_un (by omega)] at a
    rw [pk_un (by omega), pk_un (by omega), pk_un (by omega)]
    exact hP p hp a
end
section
variable {S C L F n s qF qN c o m : Nat} {K po wp : Int32} {xO xA xB xT yO yA yB yT op A B tg hs hd T R st tk bl bf cT cR oT oR lo la lb lt lk ln lP mk : Nat → Int32} {lq ls : Nat → Int64}
theorem ar_m16 {a : Nat} (h : a < 2 ^ 30) : nI a + 1 - (nI a + 1) / 16 * 16 = nI ((a + 1) % 16) := by
  rw [nI_1]; exact pk_rem (d := 16) (by omega) (by decide) (by decide)
theorem ax_take (post : SX → Prop) {N : Nat} (hq : qF < 16) (hn : n < 32)
    (hp : post (nI S, nI C, nI L, nI ((qF + 1) % 16), nI N, nI F, nI (c + o), nI c, nI (n + 1), xO, xA, xB, xT, T, R, upd op n (xO qF &&& 15), upd A n (xA qF), upd B n (xB qF), upd tg n (xT qF), upd st n 0, upd tk n 0, upd hs n (ar_fl (xO qF)), bl, bf)) : wpX_takeEntry post (nI S, nI C, nI L, nI qF, nI (N + 1), nI F, nI (c + o), nI c, nI n, xO, xA, xB, xT, T, R, op, A, B, tg, st, tk, hs, bl, bf) := by
  have i0 : vp_in (nI qF) 16 := vp_in_nI hq (by omega)
  have i1 : vp_in (nI n) 32 := vp_in_nI hn (by omega)
  refine And.intro i0 (nm_r (e' := xO qF) (by rw [nI_clamp (by omega)]) ⟨i1, nm_r (ar_uc op _ (by omega)) ?_⟩)
  have key : ∀ z : Int32, z = ar_fl (xO qF) → wX_takeEntry_43 post z (nI n) (nI S) (nI C) (nI L) (nI qF) (nI (N + 1)) (nI F) (nI (c + o)) (nI c) (nI n) xO xA xB xT T R (upd op n (xO qF &&& 15)) A B tg st tk hs bl bf := by
    intro z hz
    subst hz
    exact And.intro i1 (nm_r (ar_ub hs _ (by omega) (ar_fl_B _)) ⟨i0, i1, nm_r (ar_ur A xA (by omega) (by omega)) ⟨i0, i1, nm_r (ar_ur B xB (by omega) (by omega)) ⟨i0, i1, nm_r (ar_ur tg xT (by omega) (by omega)) ⟨i1, nm_r (ar_uc st 0 (by omega)) ⟨i1, nm_r (ar_uc tk 0 (by omega)) (nm_r (nI_1 n) ⟨by decide, nm_r (ar_m16 (by omega)) (nm_r (nI_pred N) hp)⟩)⟩⟩⟩⟩⟩)
  exact br_c (fun h => key 0 (if_pos h).symm) (fun h => key 1 (if_neg h).symm)
theorem ay_212 (post : Int32 → SY → Prop) {J} {X1 : Int32} {X3 : Int64} {k N : Nat} (hN : N + 1 ≤ 16)
    (hJ : J (nI (k + 1)) (nI (k + 1)) (nI N) (nI m) (lN s) (ar_sh yO 0 (N + 1)) (ar_sh yA 0 (N + 1)) (ar_sh yB 0 (N + 1)) (ar_sh yT 0 (N + 1)) cT cR oT oR lo la lb lt lk ln lP mk lq ls hd bl bf) : ∀ d j, j + d = N → wY_enter_212 post J X1 (nI k) X3 (nI k) (nI S) (nI C) (nI L) (nI (N + 1)) (nI c) (nI o) (nI m) (lN s) po wp (d + 1) (nI j) (ar_sh yO 0 (j + 1)) (ar_sh yA 0 (j + 1)) (ar_sh yB 0 (j + 1)) (ar_sh yT 0 (j + 1)) cT cR oT oR lo la lb lt lk ln lP mk lq ls hd bl bf := by
  intro d
  induction d with
  | zero =>
    intro j hj
    have e : j = N := by omega
    subst e
    refine br_t ?_ (nm_r (nI_pred j) (nm_r (nI_1 k) (nm_r (nI_1 k) hJ)))
    rw [nI_pred]; exact nI_le (Nat.le_refl _) (by omega)
  | succ d ih =>
    intro j hj
    have a1 : ¬ nI (N + 1) - 1 ≤ nI j := by
      rw [nI_pred]; exact nI_ge (by omega) (by omega)
    have i1 : vp_in (nI j + 1) 16 := by rw [nI_1]; exact vp_in_nI (by omega) (by omega)
    have i0 : vp_in (nI j) 16 := vp_in_nI (by omega) (by omega)
    exact br_f a1 (br_f (nI_ge (b := 15) (by omega) (by decide)) ⟨i1, i0, nm_r (ar_st1 yO (by omega) (by omega)) ⟨i1, i0, nm_r (ar_st1 yA (by omega) (by omega)) ⟨i1, i0, nm_r (ar_st1 yB (by omega) (by omega)) ⟨i1, i0, nm_r (ar_st1 yT (by omega) (by omega)) (nm_r (nI_1 j) (ih (j + 1) (by omega)))⟩⟩⟩⟩)
theorem ay_take (post : Int32 → SY → Prop) {X1 : Int32} {X3 : Int64} {k N f : Nat} (hN : N + 1 ≤ 16) (hk : k < 16) (hx : ¬ X1 ≤ nI k) (hmo : m + o < 32)
    (hJ : wY_enter_14 post X1 X3 (nI S) (nI C) (nI L) (nI c) (nI o) po wp f (nI (k + 1)) (nI (k + 1)) (nI N) (nI (m + 1)) (lN (s + 1)) (ar_sh yO 0 (N + 1)) (ar_sh yA 0 (N + 1)) (ar_sh yB 0 (N + 1)) (ar_sh yT 0 (N + 1)) cT cR oT oR (upd lo m (yO 0 &&& 15)) (upd la m (yA 0)) (upd lb m (yB 0)) (upd lt m (yT 0)) (upd lk m 0) (upd ln m (ar_fl (yO 0))) (upd lP m 0) (upd mk m 0) (vp_updL lq m (lN s)) (vp_updL ls m (-1)) hd bl bf) :
    wY_enter_14 post X1 X3 (nI S) (nI C) (nI L) (nI c) (nI o) po wp (f + 1) (nI k) (nI k) (nI (N + 1)) (nI m) (lN s) yO yA yB yT cT cR oT oR lo la lb lt lk ln lP mk lq ls hd bl bf := by
  have i1 : vp_in (nI m) 32 := vp_in_nI (by omega) (by omega)
  have h212 := ay_212 (s := s + 1) (S := S) (C := C) (L := L) (c := c) (o := o) (po := po) (wp := wp) (yO := yO) (yA := yA) (yB := yB) (yT := yT) (X1 := X1) (X3 := X3) post hN hJ N 0 (by omega)
  rw [ar_sh0, ar_sh0, ar_sh0, ar_sh0] at h212
  refine br_f (nI_ge (b := 16) hk (by decide)) (br_f hx (br_f (nI_ne0 (by omega) (by omega)) (br_f (by rw [nI_add]; exact nI_ge (b := 32) hmo (by decide)) (br_t (nI_lt (b := 32) (by omega) (by decide)) ⟨i1, nm_r (ar_uc lo _ (by omega)) ?_⟩))))
  have key : ∀ z : Int32, z = ar_fl (yO 0) → wY_enter_104 post (wY_enter_14 post X1 X3 (nI S) (nI C) (nI L) (nI c) (nI o) po wp f) X1 (nI k) X3 (nI k) (nI m) z (nI m) (nI S) (nI C) (nI L) (nI (N + 1)) (nI c) (nI o) (nI m) (lN s) po wp yO yA yB yT cT cR oT oR (upd lo m (yO 0 &&& 15)) la lb lt lk ln lP mk lq ls hd bl bf := by
    intro z hz
    subst hz
    exact And.intro i1 (nm_r (ar_ub ln _ (by omega) (ar_fl_B _)) ⟨i1, nm_r (ar_uc la _ (by omega)) ⟨i1, nm_r (ar_uc lb _ (by omega)) ⟨i1, nm_r (ar_uc lt _ (by omega)) ⟨i1, nm_r (ar_uc lk _ (by omega)) ⟨i1, nm_r (ar_ub lP 0 (by omega) (Or.inl rfl)) ⟨i1, nm_r (ar_ub mk 0 (by omega) (Or.inl rfl)) ⟨i1, nm_r (ar_uL ls _ (by omega)) ⟨i1, nm_r (ar_uL lq _ (by omega)) (nm_r (lN_1 s) (nm_r (nI_1 m) ⟨_, h212⟩))⟩⟩⟩⟩⟩⟩⟩⟩)
  exact br_c (fun h => key 0 (if_pos h).symm) (fun h => key 1 (if_neg h).symm)
end
