/-! WHAT IS IN RANGE -/
section INR
variable {q r : QS} {c d : Mem} {T : Nat}
theorem i64_le (a b : Int32) : a.toInt64 ≤ b.toInt64 ↔ a ≤ b := by
  rw [Int64.le_iff_toInt_le, Int32.le_iff_toInt_le, Int32.toInt_toInt64, Int32.toInt_toInt64]
theorem m_in (a l h : Int32) {lo hi : Int64} (hl : lo = l.toInt64) (hh : hi = h.toInt64) (σ : Mem) : f7_in a.toInt64 lo hi σ = some (bI (decide (l ≤ a) && decide (a ≤ h)), σ) := by
  subst hl hh
  unfold f7_in
  simp only [nmS]
  by_cases h1 : l ≤ a
  · rw [if_neg (show ¬ lg_cmp a.toInt64 l.toInt64 < 0 from not_lt_le.mpr ((lg_cmp_ge _ _).mpr ((i64_le _ _).mpr h1))), decide_eq_true h1]
    by_cases h2 : a ≤ h
    · rw [if_neg (show ¬ 0 < lg_cmp a.toInt64 h.toInt64 from not_lt_le.mpr ((lg_cmp_le _ _).mpr ((i64_le _ _).mpr h2))), decide_eq_true h2]
      rfl
    · rw [if_pos (show 0 < lg_cmp a.toInt64 h.toInt64 from not_le_lt.mp fun z => h2 ((i64_le _ _).mp ((lg_cmp_le _ _).mp z))), decide_eq_false h2]
      rfl
  · rw [if_pos (show lg_cmp a.toInt64 l.toInt64 < 0 from not_le_lt.mp fun z => h1 ((i64_le _ _).mp ((lg_cmp_ge _ _).mp z))), decide_eq_false h1]
    rfl
theorem le_pred {a : Int32} {M : Nat} (h0 : 0 < M) (hM : M < 2 ^ 31) : (a ≤ nI M - 1) ↔ a < nI M := by
  obtain ⟨k, rfl⟩ : ∃ k, M = k + 1 := ⟨M - 1, by omega⟩
  rw [nI_pred, Int32.le_iff_toInt_le, Int32.lt_iff_toInt_lt, nI_toInt (by omega), nI_toInt (by omega)]
  omega
theorem m_isM (σ : Mem) (hz : Sz q) (a : Int32) : f7_isMaster a (wq σ q) = some (bI (decide (0 ≤ a) && decide (a < q 0)), wq σ q) := by
  obtain ⟨g1, g2, g3⟩ := hz.M
  unfold f7_isMaster
  rw [show wq σ q 20 0 (0 : Int32).toNatClampNeg = q 0 from wq_get σ q 0, m_in a 0 (q 0 - 1) (lo := 0) (by decide) rfl, bdS, gdI (zok_b _), g1, decide_eq_decide.mpr (le_pred (a := a) (M := nM q) (by omega) (by omega))]
theorem m_isS (σ : Mem) (hz : Sz q) (a : Int32) : f7_isSlot a (wq σ q) = some (bI (decide (0 ≤ a) && decide (a < q 1)), wq σ q) := by
  obtain ⟨g1, g2, g3⟩ := hz.S
  unfold f7_isSlot
  rw [show wq σ q 20 0 (1 : Int32).toNatClampNeg = q 1 from wq_get σ q 1, m_in a 0 (q 1 - 1) (lo := 0) (by decide) rfl, bdS, gdI (zok_b _), g1, decide_eq_decide.mpr (le_pred (a := a) (M := nS q) (by omega) (by omega))]
theorem m_isV (σ : Mem) (a : Int32) : f7_isSlave a σ = some (bI (decide (0 ≤ a) && decide (a ≤ 3)), σ) := by
  unfold f7_isSlave
  rw [m_in a 0 3 (lo := 0) (hi := 3) (by decide) (by decide), bdS, gdI (zok_b _)]
theorem c_hasS (σ : Mem) (b : Nat) {S : Nat} {nb na : Nat → Nat} {x y : Int32} {f : Nat → Int32} (h : E S nb na q x y f c) (hz : Sz q) (a : Int32) : f2_hasSlot b a (wc σ b c) = some (bI (decide (0 ≤ a) && decide (a < q 1)), wc σ b c) := by
  obtain ⟨g1, g2, g3⟩ := hz.S
  unfold f2_hasSlot
  simp (disch := decide) only [nmS, wc_b, h.t1]
  by_cases h1 : a < 0
  · rw [if_pos h1, show decide (0 ≤ a) = false from decide_eq_false (fun z => not_le_lt.mpr h1 z)]
    rfl
  · rw [if_neg h1, show decide (0 ≤ a) = true from decide_eq_true (not_lt_le.mp h1)]
    by_cases h2 : q 1 ≤ a
    · rw [if_pos h2, show decide (a < q 1) = false from decide_eq_false (not_lt_le.mpr h2)]
      rfl
    · have h3 : a < q 1 := not_le_lt.mp h2
      have h4 : ¬ (16 : Int32) ≤ a := by
        rw [g1] at h3
        have e1 := Int32.lt_iff_toInt_lt.mp h3
        rw [nI_toInt (by omega)] at e1
        rw [Int32.le_iff_toInt_le]
        have e2 : (16 : Int32).toInt = 16 := rfl
        omega
      rw [if_neg h2, if_neg h4, show decide (a < q 1) = true from decide_eq_true h3]
      rfl
/-- what is in range is a number -/
theorem in_nI {a : Int32} {M : Nat} (hM : M < 2 ^ 31) (h : (decide (0 ≤ a) && decide (a < nI M)) = true) : ∃ m, m < M ∧ a = nI m := by
  rw [Bool.and_eq_true] at h
  have h1 : (0 : Int32) ≤ a := of_decide_eq_true h.1
  have h2 : a < nI M := of_decide_eq_true h.2
  obtain ⟨j, hj, rfl⟩ := nI_of (x := a) (not_lt_le.mpr h1)
  exact ⟨j, (nI_ltI (by omega) hM).mp h2, rfl⟩
end INR
