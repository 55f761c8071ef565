/-! WHAT IS IN RANGE -/
section INR
variable {q r : QS} {c d : Mem} {T : Nat}
theorem i64_le (a b : Int32) : a.toInt64 ≤ b.toInt64 ↔ a ≤ b := by
  rw [Int64.le_iff_toInt_le, Int32.le_iff_toInt_le, Int32.toInt_toInt64, Int32.toInt_toInt64]
theorem le_pred {a : Int32} {M : Nat} (h0 : 0 < M) (hM : M < 2 ^ 31) : (a ≤ nI M - 1) ↔ a < nI M := by
  obtain ⟨k, rfl⟩ : ∃ k, M = k + 1 := ⟨M - 1, by omega⟩
  rw [nI_pred, Int32.le_iff_toInt_le, Int32.lt_iff_toInt_lt, nI_toInt (by omega), nI_toInt (by omega)]
  omega
theorem c_hasS (σ : Mem) (b : Nat) {S : Nat} {nb na : Nat → Nat} {x y : Int32} {f : Nat → Int32} (h : E S nb na q x y f c) (hz : Sz q) (a : Int32) : f2_hasSlot b a (wc σ b c) = some (bI (decide (0 ≤ a) && decide (a < q 1)), wc σ b c) := by
  obtain ⟨g1, g2, g3⟩ := hz.S
  unfold f2_hasSlot
  simp (disch := decide) only [nmS, wc_b, h.t1]
  by_cases h1 : a < 0
  · rw [if_pos h1, show decide (0 ≤ a) = false from decide_eq_false (fun z => not_le_lt.mpr h1 z)]
    rfl
  · rw [if_neg h1, show decide (0 ≤ a) = true from decide_eq_true (not_lt_le.mp h1)]
    by_cases h2 : q 1 ≤ a
    · rw [if_pos h2, show decide (a < q 1) = false from decide_eq_false (not_lt_le.mpr h2)]
      rfl
    · have h3 : a < q 1 := not_le_lt.mp h2
      have h4 : ¬ (16 : Int32) ≤ a := by
        rw [g1] at h3
        have e1 := Int32.lt_iff_toInt_lt.mp h3
        rw [nI_toInt (by omega)] at e1
        rw [Int32.le_iff_toInt_le]
        have e2 : (16 : Int32).toInt = 16 := rfl
        omega
      rw [if_neg h2, if_neg h4, show decide (a < q 1) = true from decide_eq_true h3]
      rfl
/-- what is in range is a number -/
theorem in_nI {a : Int32} {M : Nat} (hM : M < 2 ^ 31) (h : (decide (0 ≤ a) && decide (a < nI M)) = true) : ∃ m, m < M ∧ a = nI m := by
  rw [Bool.and_eq_true] at h
  have h1 : (0 : Int32) ≤ a := of_decide_eq_true h.1
  have h2 : a < nI M := of_decide_eq_true h.2
  obtain ⟨j, hj, rfl⟩ := nI_of (x := a) (not_lt_le.mpr h1)
  exact ⟨j, (nI_ltI (by omega) hM).mp h2, rfl⟩
end INR
