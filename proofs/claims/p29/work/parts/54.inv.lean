/-! WHAT HOLDS OF THE ROW -/
section INV
def Wb (Bd Ba Bw : Nat) (q : QS) : Prop :=
  Sz q ∧ (∀ s, s < nS q → ∃ o, o < nM q ∧ q (11 + s) = nI o) ∧ (∀ s, s < 4 → ∃ l, l ≤ 9 ∧ q (7 + s) = nI l) ∧
  (∀ a b, a < 6 → b < 6 → ∃ d, d ≤ Bd ∧ owQ q a b = nI d) ∧ (∀ a b, a < 6 → b < 6 → (nM q ≤ a ∨ nM q ≤ b) → owQ q a b = 0) ∧
  (∀ m, m < 6 → ∃ w, w ≤ Bw ∧ mQ q m 1 = nI w) ∧
  (∀ m k, m < 6 → k < nB q m → (∃ s, s < 4 ∧ mQ q m (8 + 3 * k) = nI s) ∧ (∃ w, 1 ≤ w ∧ w ≤ 8 ∧ mQ q m (9 + 3 * k) = nI w) ∧ (mQ q m (10 + 3 * k) = 0 ∨ mQ q m (10 + 3 * k) = 1)) ∧
  (∀ m k, m < 6 → k < nA q m → ∃ r, r + nA q m ≤ Ba + 10 + k ∧ mQ q m (26 + k) = nI r) ∧
  (∀ m j, nM q ≤ m → m < 6 → j < 8 → mQ q m j = 0) ∧ ∃ p, q 6 = mk p (nM q)
section
variable {Bd Ba Bw : Nat} {q : QS}
theorem Wb.sz (h : Wb Bd Ba Bw q) : Sz q := h.1
theorem Wb.own (h : Wb Bd Ba Bw q) : ∀ s, s < nS q → ∃ o, o < nM q ∧ q (11 + s) = nI o := h.2.1
theorem Wb.lat (h : Wb Bd Ba Bw q) : ∀ s, s < 4 → ∃ l, l ≤ 9 ∧ q (7 + s) = nI l := h.2.2.1
theorem Wb.debt (h : Wb Bd Ba Bw q) : ∀ a b, a < 6 → b < 6 → ∃ d, d ≤ Bd ∧ owQ q a b = nI d := h.2.2.2.1
theorem Wb.debt0 (h : Wb Bd Ba Bw q) : ∀ a b, a < 6 → b < 6 → (nM q ≤ a ∨ nM q ≤ b) → owQ q a b = 0 := h.2.2.2.2.1
theorem Wb.wait (h : Wb Bd Ba Bw q) : ∀ m, m < 6 → ∃ w, w ≤ Bw ∧ mQ q m 1 = nI w := h.2.2.2.2.2.1
theorem Wb.burst (h : Wb Bd Ba Bw q) : ∀ m k, m < 6 → k < nB q m → (∃ s, s < 4 ∧ mQ q m (8 + 3 * k) = nI s) ∧ (∃ w, 1 ≤ w ∧ w ≤ 8 ∧ mQ q m (9 + 3 * k) = nI w) ∧ (mQ q m (10 + 3 * k) = 0 ∨ mQ q m (10 + 3 * k) = 1) := h.2.2.2.2.2.2.1
theorem Wb.answer (h : Wb Bd Ba Bw q) : ∀ m k, m < 6 → k < nA q m → ∃ r, r + nA q m ≤ Ba + 10 + k ∧ mQ q m (26 + k) = nI r := h.2.2.2.2.2.2.2.1
theorem Wb.rest (h : Wb Bd Ba Bw q) : ∀ m j, nM q ≤ m → m < 6 → j < 8 → mQ q m j = 0 := h.2.2.2.2.2.2.2.2.1
theorem Wb.bank (h : Wb Bd Ba Bw q) : ∃ p, q 6 = mk p (nM q) := h.2.2.2.2.2.2.2.2.2
end
theorem nM_of {q r : QS} (h : r 0 = q 0) : nM r = nM q := congrArg Int32.toNatClampNeg h
theorem nS_of {q r : QS} (h : r 1 = q 1) : nS r = nS q := congrArg Int32.toNatClampNeg h
theorem nA_of {q r : QS} {m : Nat} (h : mQ r m 7 = mQ q m 7) : nA r m = nA q m := congrArg Int32.toNatClampNeg h
theorem nB_of {q r : QS} {m : Nat} (h : mQ r m 0 = mQ q m 0) : nB r m = nB q m := congrArg Int32.toNatClampNeg h
/-- sizes, owners, bursts, answers stay as they are -/
def St (q r : QS) : Prop := r 0 = q 0 ∧ r 1 = q 1 ∧ r 6 = q 6 ∧ (∀ i, 7 ≤ i → i < 27 → r i = q i) ∧ ∀ m j, m < 6 → (j = 0 ∨ (7 ≤ j ∧ j < 38)) → mQ r m j = mQ q m j
theorem Sz.st {q r : QS} (h : Sz q) (e : St q r) : Sz r := by
  refine ⟨?_, ?_, fun m hm => ⟨?_, ?_⟩⟩
  · rw [e.1]; exact h.1
  · rw [e.2.1]; exact h.2.1
  · rw [e.2.2.2.2 m 7 hm (Or.inr (by omega))]; exact (h.2.2 m hm).1
  · rw [e.2.2.2.2 m 0 hm (Or.inl rfl)]; exact (h.2.2 m hm).2
theorem Wb.st {Bd Ba Bw Bd2 Bw2 : Nat} {q r : QS} (h : Wb Bd Ba Bw q) (e : St q r) (hd : ∀ a b, a < 6 → b < 6 → ∃ d, d ≤ Bd2 ∧ owQ r a b = nI d) (hd0 : ∀ a b, a < 6 → b < 6 → (nM q ≤ a ∨ nM q ≤ b) → owQ r a b = 0)
    (hw : ∀ m, m < 6 → ∃ w, w ≤ Bw2 ∧ mQ r m 1 = nI w) (hr : ∀ m j, nM q ≤ m → m < 6 → 1 ≤ j → j < 7 → mQ r m j = 0) : Wb Bd2 Ba Bw2 r := by
  have eM := nM_of e.1
  have eS := nS_of e.2.1
  have eA : ∀ m, m < 6 → nA r m = nA q m := fun m hm => nA_of (e.2.2.2.2 m 7 hm (Or.inr (by omega)))
  have eB : ∀ m, m < 6 → nB r m = nB q m := fun m hm => nB_of (e.2.2.2.2 m 0 hm (Or.inl rfl))
  refine ⟨h.sz.st e, ?_, ?_, hd, ?_, hw, ?_, ?_, ?_, ?_⟩
  · intro s hs
    rw [eS] at hs
    have := h.sz.S
    rw [eM, e.2.2.2.1 (11 + s) (by omega) (by omega)]
    exact h.own s hs
  · intro s hs
    rw [e.2.2.2.1 (7 + s) (by omega) (by omega)]
    exact h.lat s hs
  · intro a b ha hb z
    rw [eM] at z
    exact hd0 a b ha hb z
  · intro m k hm hk
    rw [eB m hm] at hk
    have := (h.sz.B hm).2
    rw [e.2.2.2.2 m (8 + 3 * k) hm (Or.inr (by omega)), e.2.2.2.2 m (9 + 3 * k) hm (Or.inr (by omega)), e.2.2.2.2 m (10 + 3 * k) hm (Or.inr (by omega))]
    exact h.burst m k hm hk
  · intro m k hm hk
    rw [eA m hm] at hk ⊢
    have := (h.sz.A hm).2
    rw [e.2.2.2.2 m (26 + k) hm (Or.inr (by omega))]
    exact h.answer m k hm hk
  · intro m j hM hm hj
    rw [eM] at hM
    by_cases z : j = 0 ∨ (7 ≤ j ∧ j < 38)
    · rw [e.2.2.2.2 m j hm z]; exact h.rest m j hM hm hj
    · exact hr m j hM hm (by omega) (by omega)
  · rw [e.2.2.1, eM]; exact h.bank
theorem Wb.mono {Bd Ba Bw Bd2 Ba2 Bw2 : Nat} {q : QS} (h : Wb Bd Ba Bw q) (h1 : Bd ≤ Bd2) (h2 : Ba ≤ Ba2) (h3 : Bw ≤ Bw2) : Wb Bd2 Ba2 Bw2 q := by
  refine ⟨h.sz, h.own, h.lat, ?_, h.debt0, ?_, h.burst, ?_, h.rest, h.bank⟩
  · intro a b ha hb
    obtain ⟨d, hd, e⟩ := h.debt a b ha hb
    exact ⟨d, by omega, e⟩
  · intro m hm
    obtain ⟨w, hw, e⟩ := h.wait m hm
    exact ⟨w, by omega, e⟩
  · intro m k hm hk
    obtain ⟨r, hr, e⟩ := h.answer m k hm hk
    exact ⟨r, by omega, e⟩
/-- numbers that no law speaks of: idle ticks, credit, last turn, ticks -/
theorem Wb.free {Bd Ba Bw : Nat} {q : QS} (h : Wb Bd Ba Bw q) {i : Nat} (hi : 2 ≤ i) (hi2 : i < 6) (v : Int32) : Wb Bd Ba Bw (qs q i v) := by
  have e : ∀ j, j < 2 ∨ 6 ≤ j → qs q i v j = q j := fun j hj => qs_ne q v (by omega)
  refine h.st ⟨e 0 (by omega), e 1 (by omega), e 6 (by omega), fun j h1 h2 => e j (by omega), fun m j hm hj => e _ (by omega)⟩ ?_ ?_ ?_ ?_
  · intro a b ha hb; rw [show owQ (qs q i v) a b = owQ q a b from e _ (by omega)]; exact h.debt a b ha hb
  · intro a b ha hb z; rw [show owQ (qs q i v) a b = owQ q a b from e _ (by omega)]; exact h.debt0 a b ha hb z
  · intro m hm; rw [show mQ (qs q i v) m 1 = mQ q m 1 from e _ (by omega)]; exact h.wait m hm
  · intro m j h1 h2 h3 h4; rw [show mQ (qs q i v) m j = mQ q m j from e _ (by omega)]; exact h.rest m j h1 h2 (by omega)
/-- a debt -/
theorem Wb.setDebt {Bd Ba Bw Bd2 : Nat} {q : QS} (h : Wb Bd Ba Bw q) {a b d : Nat} (ha : a < nM q) (hb : b < nM q) (hB : Bd ≤ Bd2) (hd : d ≤ Bd2) : Wb Bd2 Ba Bw (qs q (27 + 6 * a + b) (nI d)) := by
  have hM := h.sz.M
  have e : ∀ j, j ≠ 27 + 6 * a + b → qs q (27 + 6 * a + b) (nI d) j = q j := fun j hj => qs_ne q _ hj
  refine h.st ⟨e 0 (by omega), e 1 (by omega), e 6 (by omega), fun j h1 h2 => e j (by omega), fun m j hm hj => e _ (by omega)⟩ ?_ ?_ ?_ ?_
  · intro a2 b2 h1 h2
    by_cases z : a2 = a ∧ b2 = b
    · obtain ⟨rfl, rfl⟩ := z; exact ⟨d, hd, qs_same q _ _⟩
    · rw [show owQ (qs q (27 + 6 * a + b) (nI d)) a2 b2 = owQ q a2 b2 from e _ (by omega)]
      obtain ⟨d2, h3, h4⟩ := h.debt a2 b2 h1 h2
      exact ⟨d2, by omega, h4⟩
  · intro a2 b2 h1 h2 z; rw [show owQ (qs q (27 + 6 * a + b) (nI d)) a2 b2 = owQ q a2 b2 from e _ (by omega)]; exact h.debt0 a2 b2 h1 h2 z
  · intro m hm; rw [show mQ (qs q (27 + 6 * a + b) (nI d)) m 1 = mQ q m 1 from e _ (by omega)]; exact h.wait m hm
  · intro m j h1 h2 h3 h4; rw [show mQ (qs q (27 + 6 * a + b) (nI d)) m j = mQ q m j from e _ (by omega)]; exact h.rest m j h1 h2 (by omega)
/-- a count of a master's, of turns or answers taken, or its longest wait -/
theorem Wb.setCnt {Bd Ba Bw : Nat} {q : QS} (h : Wb Bd Ba Bw q) {m j : Nat} (hm : m < nM q) (hj : 2 ≤ j) (hj2 : j < 7) (v : Int32) : Wb Bd Ba Bw (qs q (63 + 38 * m + j) v) := by
  have hM := h.sz.M
  have e : ∀ i, i ≠ 63 + 38 * m + j → qs q (63 + 38 * m + j) v i = q i := fun i hi => qs_ne q _ hi
  refine h.st ⟨e 0 (by omega), e 1 (by omega), e 6 (by omega), fun i h1 h2 => e i (by omega), fun m2 j2 hm2 hj2 => e _ (by omega)⟩ ?_ ?_ ?_ ?_
  · intro a2 b2 h1 h2; rw [show owQ (qs q (63 + 38 * m + j) v) a2 b2 = owQ q a2 b2 from e _ (by omega)]; exact h.debt a2 b2 h1 h2
  · intro a2 b2 h1 h2 z; rw [show owQ (qs q (63 + 38 * m + j) v) a2 b2 = owQ q a2 b2 from e _ (by omega)]; exact h.debt0 a2 b2 h1 h2 z
  · intro m2 hm2; rw [show mQ (qs q (63 + 38 * m + j) v) m2 1 = mQ q m2 1 from e _ (by omega)]; exact h.wait m2 hm2
  · intro m2 j2 h1 h2 h3 h4; rw [show mQ (qs q (63 + 38 * m + j) v) m2 j2 = mQ q m2 j2 from e _ (by omega)]; exact h.rest m2 j2 h1 h2 (by omega)
theorem Wb.setWait {Bd Ba Bw : Nat} {q : QS} (h : Wb Bd Ba Bw q) {m w : Nat} (hm : m < nM q) (hw : w ≤ Bw) : Wb Bd Ba Bw (qs q (63 + 38 * m + 1) (nI w)) := by
  have hM := h.sz.M
  have e : ∀ i, i ≠ 63 + 38 * m + 1 → qs q (63 + 38 * m + 1) (nI w) i = q i := fun i hi => qs_ne q _ hi
  refine h.st ⟨e 0 (by omega), e 1 (by omega), e 6 (by omega), fun i h1 h2 => e i (by omega), fun m2 j2 hm2 hj2 => e _ (by omega)⟩ ?_ ?_ ?_ ?_
  · intro a2 b2 h1 h2; rw [show owQ (qs q (63 + 38 * m + 1) (nI w)) a2 b2 = owQ q a2 b2 from e _ (by omega)]; exact h.debt a2 b2 h1 h2
  · intro a2 b2 h1 h2 z; rw [show owQ (qs q (63 + 38 * m + 1) (nI w)) a2 b2 = owQ q a2 b2 from e _ (by omega)]; exact h.debt0 a2 b2 h1 h2 z
  · intro m2 hm2
    by_cases z : m2 = m
    · subst z; exact ⟨w, hw, qs_same q _ _⟩
    · rw [show mQ (qs q (63 + 38 * m + 1) (nI w)) m2 1 = mQ q m2 1 from e _ (by omega)]; exact h.wait m2 hm2
  · intro m2 j2 h1 h2 h3 h4; rw [show mQ (qs q (63 + 38 * m + 1) (nI w)) m2 j2 = mQ q m2 j2 from e _ (by omega)]; exact h.rest m2 j2 h1 h2 (by omega)
/-- the turn -/
theorem pos_nI {d : Nat} (hd : d < 2 ^ 31) (h : (0 : Int32) < nI d) : 0 < d := (nI_ltI (by omega) hd).mp h
theorem Wb.turn {T : Nat} {q : QS} (h : Wb T T T q) (hT : T < 2 ^ 30) {o : Nat} (ho : o < nM q) (p : Nat → Bool) : Wb (T + 1) T T (turnQ q o p).2 ∧ ∀ k, (turnQ q o p).1 = some k → k < nM q ∧ p k = true := by
  have hM := h.sz.M
  unfold turnQ
  cases hcr : crQ q o p with
  | some c =>
    have hc : c < nM q := bestN_lt hcr
    have hmay := bestN_may hcr
    rw [Bool.and_eq_true] at hmay
    obtain ⟨d, hd, e⟩ := h.debt o c (by omega) (by omega)
    have hd0 : 0 < d := pos_nI (by omega) (by rw [← e]; exact of_decide_eq_true hmay.1)
    obtain ⟨z, rfl⟩ : ∃ z, d = z + 1 := ⟨d - 1, by omega⟩
    have e2 : q (27 + 6 * o + c) = nI (z + 1) := e
    refine ⟨?_, fun k hk => by cases hk; exact ⟨hc, hmay.2⟩⟩
    dsimp only
    rw [e2, nI_pred]
    have h1 := h.setDebt (Bd2 := T + 1) ho hc (by omega) (show z ≤ T + 1 by omega)
    exact h1.setCnt (by rw [nM_of (qs_ne q _ (show 0 ≠ 27 + 6 * o + c by omega))]; exact hc) (by omega) (by omega) _
  | none =>
    by_cases e : p o = true
    · dsimp only
      rw [if_pos e]
      exact ⟨(h.mono (by omega) (Nat.le_refl T) (Nat.le_refl T)).setCnt ho (by omega) (by omega) _, fun k hk => by cases hk; exact ⟨ho, e⟩⟩
    · dsimp only
      rw [if_neg e]
      cases hbo : boQ q p with
      | none => exact ⟨h.mono (by omega) (Nat.le_refl T) (Nat.le_refl T), fun k hk => by cases hk⟩
      | some m =>
        have hm : m < nM q := bestN_lt hbo
        have hmay := bestN_may hbo
        rw [Bool.and_eq_true, Bool.and_eq_true] at hmay
        obtain ⟨d, hd, e⟩ := h.debt m o (by omega) (by omega)
        have e2 : q (27 + 6 * m + o) = nI d := e
        refine ⟨?_, fun k hk => by cases hk; exact ⟨hm, hmay.1.1⟩⟩
        dsimp only
        rw [e2, nI_1]
        have h1 := h.setDebt (Bd2 := T + 1) hm ho (by omega) (show d + 1 ≤ T + 1 by omega)
        exact h1.setCnt (by rw [nM_of (qs_ne q _ (show 0 ≠ 27 + 6 * m + o by omega))]; exact hm) (by omega) (by omega) _
/-- what the turn leaves as it was -/
theorem turnQ_st {q : QS} {o : Nat} (hz : Sz q) (ho : o < 6) (p : Nat → Bool) : ∀ i, i < 27 ∨ (63 ≤ i ∧ ¬ ∃ m j, m < 6 ∧ 3 ≤ j ∧ j < 6 ∧ i = 63 + 38 * m + j) → (turnQ q o p).2 i = q i := by
  intro i hi
  have hM := hz.M
  unfold turnQ
  cases hcr : crQ q o p with
  | some c =>
    have hc : c < nM q := bestN_lt hcr
    dsimp only
    rw [qs_ne _ _ (fun z => hi.elim (fun y => by omega) (fun y => y.2 ⟨c, 4, by omega, by omega, by omega, z⟩)), qs_ne _ _ (by omega)]
  | none =>
    by_cases e : p o = true
    · dsimp only
      rw [if_pos e]
      exact qs_ne _ _ (fun z => hi.elim (fun y => by omega) (fun y => y.2 ⟨o, 3, ho, by omega, by omega, z⟩))
    · dsimp only
      rw [if_neg e]
      cases hbo : boQ q p with
      | none => rfl
      | some m =>
        have hm : m < nM q := bestN_lt hbo
        dsimp only
        rw [qs_ne _ _ (fun z => hi.elim (fun y => by omega) (fun y => y.2 ⟨m, 5, by omega, by omega, by omega, z⟩)), qs_ne _ _ (by omega)]
end INV
