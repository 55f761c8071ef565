/-! LONGS: groups of five digits -/
section LONGS
theorem litL (n : Nat) : (OfNat.ofNat n : Int64) = lN n := Eq.trans rfl rfl
/-- powers of 100000 -/
def pw (k : Nat) : Nat := 100000 ^ k
theorem pw_s (k : Nat) : pw (k + 1) = pw k * 100000 := Nat.pow_succ ..
theorem pw_pos (k : Nat) : 0 < pw k := Nat.pow_pos (by omega)
theorem pw_lt {k : Nat} (h : k ≤ 3) : pw k < 2 ^ 63 := by
  have : k = 0 ∨ k = 1 ∨ k = 2 ∨ k = 3 := by omega
  rcases this with rfl | rfl | rfl | rfl <;> decide
theorem c_without (σ : Mem) {A k : Nat} (hA : A < 2 ^ 63) (hk : k ≤ 3) : f6_withoutGroups (lN A) (nI k) σ = some (lN (A / pw k), σ) := by
  have hN : 20 < FU := by decide
  unfold f6_withoutGroups
  generalize FU = N at hN ⊢
  simp only [lit, nmS]
  have h9 := lup (fun n (z : Int64 × Int32) => f6_withoutGroups_l5 (nI k) (fun y1 s1 => some (y1, s1)) n z.1 z.2 σ) (fun i => (lN (A / pw i), nI i)) k (some (lN (A / pw k), σ)) ?_ ?_ k 0 N (by omega) (by omega)
  · have e : A / pw 0 = A := Nat.div_one A
    have h8 : f6_withoutGroups_l5 (nI k) (fun y1 s1 => some (y1, s1)) N (lN (A / pw 0)) (nI 0) σ = some (lN (A / pw k), σ) := h9
    rw [e] at h8
    exact h8
  · intro n i hi
    show f6_withoutGroups_l5 (nI k) _ (n + 1) (lN (A / pw i)) (nI i) σ = f6_withoutGroups_l5 (nI k) _ n (lN (A / pw (i + 1))) (nI (i + 1)) σ
    rw [f6_withoutGroups_l5]
    simp only [lit, litL, nmS, nI_add]
    rw [if_neg (nI_ge hi (by omega)), pk_lDiv (Nat.lt_of_le_of_lt (Nat.div_le_self _ _) hA) (by decide) (by decide), Nat.div_div_eq_div_mul, ← pw_s]
  · intro n
    show f6_withoutGroups_l5 (nI k) _ (n + 1) _ (nI k) σ = _
    rw [f6_withoutGroups_l5]
    rw [if_pos (nI_le (Nat.le_refl _) (by omega))]
theorem m_pow (σ : Mem) {a : Nat} (ha : a ≤ 3) (k1 : Int64 → Mem → Option (Int32 × Mem)) : f7_runScript_l11 (nI a) k1 FU (lN 1) (nI 0) σ = k1 (lN (pw a)) σ := by
  have hN : 20 < FU := by decide
  generalize FU = N at hN ⊢
  refine lup (fun n (z : Int64 × Int32) => f7_runScript_l11 (nI a) k1 n z.1 z.2 σ) (fun i => (lN (pw i), nI i)) a (k1 (lN (pw a)) σ) ?_ ?_ a 0 N (by omega) (by omega)
  · intro n i hi
    show f7_runScript_l11 (nI a) k1 (n + 1) (lN (pw i)) (nI i) σ = f7_runScript_l11 (nI a) k1 n (lN (pw (i + 1))) (nI (i + 1)) σ
    rw [f7_runScript_l11]
    simp only [lit, litL, nmS, nI_add]
    rw [if_neg (nI_ge hi (by omega)), if_neg (nI_ge (show i < 3 by omega) (by omega)), lN_mul, ← pw_s]
  · intro n
    show f7_runScript_l11 (nI a) k1 (n + 1) _ (nI a) σ = _
    rw [f7_runScript_l11]
    rw [if_pos (nI_le (Nat.le_refl _) (by omega))]
/-- whatever the number of groups, the power is worked out -/
theorem m_powE (σ : Mem) (a : Int32) (k1 : Int64 → Mem → Option (Int32 × Mem)) : ∃ y, f7_runScript_l11 a k1 FU (lN 1) (nI 0) σ = k1 y σ := by
  have hs : ∀ d i n y, i + d = 3 → d < n → ∃ z, f7_runScript_l11 a k1 n y (nI i) σ = k1 z σ := by
    intro d
    induction d with
    | zero =>
      intro i n y h1 h2
      obtain rfl : i = 3 := h1
      obtain ⟨k, rfl⟩ : ∃ k, n = k + 1 := ⟨n - 1, by omega⟩
      rw [f7_runScript_l11]
      simp only [lit]
      by_cases e : a ≤ nI 3
      · exact ⟨y, by rw [if_pos e]⟩
      · exact ⟨y, by rw [if_neg e, if_pos (nI_le (Nat.le_refl _) (by omega))]⟩
    | succ d ih =>
      intro i n y h1 h2
      obtain ⟨k, rfl⟩ : ∃ k, n = k + 1 := ⟨n - 1, by omega⟩
      obtain ⟨z, hz⟩ := ih (i + 1) k (y * lN 100000) (by omega) (by omega)
      rw [f7_runScript_l11]
      simp only [lit, litL, nmS, nI_add]
      by_cases e : a ≤ nI i
      · exact ⟨y, by rw [if_pos e]⟩
      · exact ⟨z, by rw [if_neg e, if_neg (nI_ge (show i < 3 by omega) (by omega)), hz]⟩
  exact hs 3 0 FU (lN 1) rfl (by decide)
end LONGS
