/-! the completions: one ring in X, two rows in Y -/
def ar_Z (F c o : Nat) (T cT oT : Nat → Int32) : Prop := (∀ j, j < c → T ((F + j) % 48) = cT j) ∧ (∀ j, j < o → T ((F + (c + j)) % 48) = oT j)
theorem ar_Z_A {F c : Nat} {T cT oT : Nat → Int32} (h : ar_Z F c 0 T cT oT) (hc : c < 48) (x : Int32) : ar_Z F (c + 1) 0 (upd T ((F + c) % 48) x) (upd cT c x) oT := by
  refine ⟨fun j hj => ?_, fun j hj => absurd hj (by omega)⟩
  by_cases e : j = c
  · subst e; rw [pk_us, pk_us]
  · rw [pk_un (by omega), pk_un e]; exact h.1 j (by omega)
theorem ar_Z_B {F c o : Nat} {T cT oT : Nat → Int32} (h : ar_Z F c o T cT oT) (hc : c + o < 48) (x : Int32) : ar_Z F c (o + 1) (upd T ((F + (c + o)) % 48) x) cT (upd oT o x) := by
  refine ⟨fun j hj => ?_, fun j hj => ?_⟩
  · rw [pk_un (by omega)]; exact h.1 j hj
  · by_cases e : j = o
    · subst e; rw [pk_us, pk_us]
    · rw [pk_un (by omega), pk_un e]; exact h.2 j (by omega)
theorem ar_Z_mv {F c o : Nat} {T cT oT : Nat → Int32} (h : ar_Z F c (o + 1) T cT oT) : ar_Z F (c + 1) o T (upd cT c (oT 0)) (ar_sh oT 0 (o + 1)) := by
  refine ⟨fun j hj => ?_, fun j hj => ?_⟩
  · by_cases e : j = c
    · subst e; rw [pk_us]; exact h.2 0 (by omega)
    · rw [pk_un e]; exact h.1 j (by omega)
  · rw [ar_sh_hi oT (by omega), ← h.2 (j + 1) (by omega), show c + 1 + j = c + (j + 1) by omega]
theorem ar_Z_pop {F c o : Nat} {T cT oT : Nat → Int32} (h : ar_Z F (c + 1) o T cT oT) : ar_Z ((F + 1) % 48) c o T (ar_sh cT 0 (c + 1)) oT := by
  refine ⟨fun j hj => ?_, fun j hj => ?_⟩
  · rw [ar_sh_hi cT (by omega), ← h.1 (j + 1) (by omega), show ((F + 1) % 48 + j) % 48 = (F + (j + 1)) % 48 by omega]
  · rw [← h.2 j hj, show ((F + 1) % 48 + (c + j)) % 48 = (F + (c + 1 + j)) % 48 by omega]
/-! the submissions: a ring in X, a row in Y -/
def ar_W (F N : Nat) (a b : Nat → Int32) : Prop := ∀ j, j < N → a ((F + j) % 16) = b j
theorem ar_W_put {F N : Nat} {a b : Nat → Int32} (h : ar_W F N a b) (hN : N < 16) (x : Int32) : ar_W F (N + 1) (upd a ((F + N) % 16) x) (upd b N x) := by
  intro j hj
  by_cases e : j = N
  · subst e; rw [pk_us, pk_us]
  · rw [pk_un (by omega), pk_un e]; exact h j (by omega)
theorem ar_W_0 {F N : Nat} {a b : Nat → Int32} (h : ar_W F (N + 1) a b) (hF : F < 16) : a F = b 0 := by
  have := h 0 (by omega)
  rw [show (F + 0) % 16 = F by omega] at this
  exact this
theorem ar_W_take {F N : Nat} {a b : Nat → Int32} (h : ar_W F (N + 1) a b) : ar_W ((F + 1) % 16) N a (ar_sh b 0 (N + 1)) := by
  intro j hj
  rw [ar_sh_hi b (by omega), ← h (j + 1) (by omega), show ((F + 1) % 16 + j) % 16 = (F + (j + 1)) % 16 by omega]
/-! the live requests, all views together -/
def ar_pd (st : Nat → Int32) : Nat → Int32 := fun p => if st p = 1 then 1 else 0
def ar_su (hs : Nat → Int32) (q : Nat → Nat) : Nat → Int64 := fun p => if hs p = 0 then -1 else lN (q p + 1)
def ar_sq (q : Nat → Nat) : Nat → Int64 := fun p => lN (q p)
def ar_Q (n s : Nat) (st hs : Nat → Int32) (q : Nat → Nat) : Prop := (∀ p r, p < r → r < n → q p < q r) ∧ (∀ p, p < n → ¬ st p = 2 → ¬ hs p = 0 → q (p + 1) = q p + 1) ∧ (∀ p, p < n → q p < s)
def ar_blk (a : Int32) : Prop := ¬ a < 0 ∧ a < 16
def ar_buf (b : Int32) : Prop := ¬ b < 0 ∧ b < 8
/-- a request that waits: valid, and of a kind that waits -/
def ar_ok (o a b : Int32) : Prop := ((o = 1 ∨ o = 2) ∧ ar_blk a ∧ ar_buf b) ∨ (o = 3 ∧ ar_blk a) ∨ (o = 4 ∧ ¬ a < 1 ∧ ¬ 16 < a)
def ar_P (n : Nat) (st op A B : Nat → Int32) : Prop := ∀ p, p < n → st p = 1 → ar_ok (op p) (A p) (B p)
def ar_M (n m s : Nat) (e q : Nat → Nat) (op A B tg st tk hs lOp lA lB lTag lTicks lPend : Nat → Int32) (lSeq lSucc : Nat → Int64) : Prop :=
  ar_E n m st e ∧ ar_V e m lOp op ∧ ar_V e m lA A ∧ ar_V e m lB B ∧ ar_V e m lTag tg ∧ ar_V e m lTicks tk ∧ ar_V e m lPend (ar_pd st) ∧ ar_V e m lSeq (ar_sq q) ∧ ar_V e m lSucc (ar_su hs q) ∧ ar_C n st hs ∧ ar_Q n s st hs q ∧ ar_P n st op A B
theorem ar_Q_st {n s : Nat} {st st' hs : Nat → Int32} {q : Nat → Nat} (h : ar_Q n s st hs q) (hs' : ∀ p, p < n → st p = 2 → st' p = 2) : ar_Q n s st' hs q :=
  ⟨h.1, fun p hp ha hh => h.2.1 p hp (fun z => ha (hs' p hp z)) hh, h.2.2⟩
section
variable {n m s : Nat} {e q : Nat → Nat} {op A B tg st tk hs lOp lA lB lTag lTicks lPend : Nat → Int32} {lSeq lSucc : Nat → Int64}
theorem ar_M_post (h : ar_M n m s e q op A B tg st tk hs lOp lA lB lTag lTicks lPend lSeq lSucc) {i : Nat} (hi : i < m) (hH : ar_H st hs (e i)) :
    ar_M n (m - 1) s (ar_sh e i m) q op A B tg (upd st (e i) 2) tk hs (ar_sh lOp i m) (ar_sh lA i m) (ar_sh lB i m) (ar_sh lTag i m) (ar_sh lTicks i m) (ar_sh lPend i m) (ar_sh lSeq i m) (ar_sh lSucc i m) := by
  obtain ⟨hE, h1, h2, h3, h4, h5, h6, h7, h8, hC, hQ, hP⟩ := h
  have hE' := ar_E_rm hE hi
  refine ⟨hE', ar_V_rm h1 i, ar_V_rm h2 i, ar_V_rm h3 i, ar_V_rm h4 i, ar_V_rm h5 i, ?_, ar_V_rm h7 i, ar_V_rm h8 i, ar_C_up hC hH 2 (hE.2.1 i hi).2, ?_, ?_⟩
  · refine ar_V_g (ar_V_rm h6 i) (fun j hj => ?_)
    have h9 := (hE'.2.1 j hj).2
    have h10 : ar_sh e i m j ≠ e i := fun z => h9 (by rw [z]; exact pk_us)
    unfold ar_pd
    rw [pk_un h10]
  · refine ar_Q_st hQ (fun p _ z => ?_)
    by_cases e1 : p = e i
    · rw [e1]; exact pk_us
    · rw [pk_un e1]; exact z
  · intro p hp h9
    by_cases e1 : p = e i
    · rw [e1, pk_us] at h9; exact absurd h9 ar_21
    · rw [pk_un e1] at h9; exact hP p hp h9
theorem ar_M_pend (h : ar_M n m s e q op A B tg st tk hs lOp lA lB lTag lTicks lPend lSeq lSucc) {i : Nat} (hi : i < m) (hH : ar_H st hs (e i)) (t : Int32) (ho : ar_ok (op (e i)) (A (e i)) (B (e i))) :
    ar_M n m s e q op A B tg (upd st (e i) 1) (upd tk (e i) t) hs lOp lA lB lTag (upd lTicks i t) (upd lPend i 1) lSeq lSucc := by
  obtain ⟨hE, h1, h2, h3, h4, h5, h6, h7, h8, hC, hQ, hP⟩ := h
  have hal := (hE.2.1 i hi).2
  have hst : ∀ p, p < n → (upd st (e i) 1 p = 2 ↔ st p = 2) := by
    intro p _
    by_cases e1 : p = e i
    · rw [e1, pk_us]; exact ⟨fun z => absurd z ar_12, fun z => absurd z hal⟩
    · rw [pk_un e1]
  refine ⟨ar_E_st hE hst, h1, h2, h3, h4, ar_V_up hE h5 hi t, ?_, h7, h8, ar_C_up hC hH 1 hal, ar_Q_st hQ (fun p hp z => (hst p hp).mpr z), ?_⟩
  · refine ar_V_g (ar_V_up hE h6 hi 1) (fun j hj => ?_)
    unfold ar_pd
    by_cases e1 : j = i
    · rw [e1, pk_us, pk_us]; rfl
    · rw [pk_un (ar_E_ne hE hj hi e1), pk_un (ar_E_ne hE hj hi e1)]
  · intro p hp h9
    by_cases e1 : p = e i
    · rw [e1]; exact ho
    · rw [pk_un e1] at h9; exact hP p hp h9
theorem ar_M_ix (h : ar_M n m s e q op A B tg st tk hs lOp lA lB lTag lTicks lPend lSeq lSucc) {p : Nat} (hp : p < n) (ha : ¬ st p = 2) : ∃ i, i < m ∧ e i = p := h.1.2.2 p hp ha
theorem ar_M_seq (h : ar_M n m s e q op A B tg st tk hs lOp lA lB lTag lTicks lPend lSeq lSucc) (hs : s < 2 ^ 31) {i j : Nat} (hi : i < m) (hj : j < m) : lSeq j = lN (q (e i)) ↔ j = i := by
  obtain ⟨hE, -, -, -, -, -, -, h7, -, -, hQ, -⟩ := h
  rw [h7 j hj]
  show lN (q (e j)) = lN (q (e i)) ↔ j = i
  have a1 := hQ.2.2 (e i) (hE.2.1 i hi).1
  have a2 := hQ.2.2 (e j) (hE.2.1 j hj).1
  rw [lN_eq (by omega) (by omega)]
  constructor
  · intro z
    rcases Nat.lt_trichotomy (e i) (e j) with c | c | c
    · have := hQ.1 _ _ c (hE.2.1 j hj).1; omega
    · exact (ar_E_inj hE hi hj c).symm
    · have := hQ.1 _ _ c (hE.2.1 i hi).1; omega
  · intro z; rw [z]
/-- after the call: the live requests stand at their own places again -/
theorem ar_M_drop (h : ar_M n m s e q op A B tg st tk hs lOp lA lB lTag lTicks lPend lSeq lSucc) {op' A' B' tg' st' tk' hs' : Nat → Int32}
    (c1 : ∀ j, j < m → op' j = op (e j)) (c2 : ∀ j, j < m → A' j = A (e j)) (c3 : ∀ j, j < m → B' j = B (e j)) (c4 : ∀ j, j < m → tg' j = tg (e j)) (c5 : ∀ j, j < m → st' j = st (e j)) (c6 : ∀ j, j < m → tk' j = tk (e j)) (c7 : ∀ j, j < m → hs' j = hs (e j)) :
    ar_M m m s (fun j => j) (fun j => q (e j)) op' A' B' tg' st' tk' hs' lOp lA lB lTag lTicks lPend lSeq lSucc ∧ (∀ p, p < m → ¬ st' p = 2) := by
  obtain ⟨hE, h1, h2, h3, h4, h5, h6, h7, h8, hC, hQ, hP⟩ := h
  have hal : ∀ p, p < m → ¬ st' p = 2 := fun p hp => by rw [c5 p hp]; exact (hE.2.1 p hp).2
  have hnx : ∀ p, p < m → ¬ hs' p = 0 → p + 1 < m ∧ e (p + 1) = e p + 1 ∧ st (e p + 1) = 0 := by
    intro p hp hh
    rw [c7 p hp] at hh
    have hb := hE.2.1 p hp
    obtain ⟨d1, d2⟩ := hC (e p) hb.1 hb.2 hh
    obtain ⟨j, hj, ej⟩ := hE.2.2 (e p + 1) d1 (by rw [d2]; exact ar_02)
    have hpj : p < j := ar_E_lt hE hp hj (by omega)
    have hp1 : p + 1 < m := by omega
    have hj1 : j = p + 1 := by
      by_cases e1 : j = p + 1
      · exact e1
      · have a1 := hE.1 p (p + 1) (by omega) hp1
        have a2 := hE.1 (p + 1) j (by omega) hj
        omega
    rw [hj1] at ej
    exact ⟨hp1, ej, d2⟩
  refine ⟨⟨ar_E_id hal, ?_, ?_, ?_, ?_, ?_, ?_, ?_, ?_, ?_, ⟨?_, ?_, ?_⟩, ?_⟩, hal⟩
  · exact fun j hj => (h1 j hj).trans (c1 j hj).symm
  · exact fun j hj => (h2 j hj).trans (c2 j hj).symm
  · exact fun j hj => (h3 j hj).trans (c3 j hj).symm
  · exact fun j hj => (h4 j hj).trans (c4 j hj).symm
  · exact fun j hj => (h5 j hj).trans (c6 j hj).symm
  · intro j hj
    rw [h6 j hj]
    unfold ar_pd
    rw [c5 j hj]
  · exact fun j hj => h7 j hj
  · intro j hj
    rw [h8 j hj]
    unfold ar_su
    rw [c7 j hj]
  · intro p hp _ hh
    obtain ⟨a1, a2, a3⟩ := hnx p hp hh
    exact ⟨a1, by rw [c5 _ a1, a2]; exact a3⟩
  · exact fun p r hpr hr => hQ.1 _ _ (hE.1 p r hpr hr) (hE.2.1 r hr).1
  · intro p hp _ hh
    obtain ⟨a1, a2, a3⟩ := hnx p hp hh
    rw [c7 p hp] at hh
    show q (e (p + 1)) = q (e p) + 1
    rw [a2]
    exact hQ.2.1 (e p) (hE.2.1 p hp).1 (hE.2.1 p hp).2 hh
  · exact fun p hp => hQ.2.2 _ (hE.2.1 p hp).1
  · intro p hp h9
    rw [c5 p hp] at h9
    rw [c1 p hp, c2 p hp, c3 p hp]
    exact hP _ (hE.2.1 p hp).1 h9
end
