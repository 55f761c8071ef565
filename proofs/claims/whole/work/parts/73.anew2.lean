/-! ALL NEW, in the reference -/
section ANEW2
variable {q r : QS}
theorem m_anew (σ : Mem) (q : QS) {M S : Nat} (hM : 2 ≤ M) (hM2 : M ≤ 6) (hS : 2 ≤ S) (hS2 : S ≤ 16) : ∃ r, f7_anew (nI M) (nI S) (wq σ q) = some (wq σ r) ∧ ∀ j, j < 291 → r j = anQ M S j := by
  have hN : 300 < FU := by decide
  unfold f7_anew
  generalize FU = N at hN ⊢
  simp (disch := omega) only [lit, nmS, clI, wq_set]
  obtain ⟨r1, a1, a2⟩ := lupR (fun n i (r : QS) (K : Mem → Option Mem) => f7_anew_l2 K n (nI i) (wq σ r)) (fun t r => ∀ j, j < t → r j = 0) 291 (fun r K => K (wq σ r)) (by
    intro n i r hi h1
    refine ⟨qs r i (nI 0), fun j hj => ?_, ?_⟩
    · by_cases z : j = i
      · rw [z, qs_same]; rfl
      · rw [qs_ne _ _ z]; exact h1 j (by omega)
    · funext K
      rw [f7_anew_l2]
      simp (disch := omega) only [lit, nmS, clI, gd_ib, wq_set, nI_add]
      rw [if_neg (nI_ge hi (by omega))]) (by
    intro n r h1
    funext K
    rw [f7_anew_l2]
    simp only [lit]
    rw [if_pos (nI_le (Nat.le_refl _) (by omega))]) 291 0 N q (by omega) (by omega) (fun j hj => absurd hj (Nat.not_lt_zero j))
  have a2' : ∀ K, f7_anew_l2 K N (nI 0) (wq σ q) = K (wq σ r1) := fun K => congrFun a2 K
  rw [a2']
  simp (disch := omega) only [wq_set]
  obtain ⟨r2, hr2⟩ : ∃ r2, r2 = qs (qs (qs (qs r1 0 (nI M)) 1 (nI S)) 4 (nI 4)) 5 (-nI 9) := ⟨_, rfl⟩
  rw [← hr2]
  obtain ⟨r3, ⟨b1, b2⟩, b3⟩ := lupR (fun n i (r : QS) (K : Mem → Option Mem) => f7_anew_l53 K n (nI i) (wq σ r)) (fun t r => (∀ j, ¬ (7 ≤ j ∧ j < 11) → r j = r2 j) ∧ ∀ s, s < t → r (7 + s) = nI 2) 4 (fun r K => K (wq σ r)) (by
    intro n i r hi h1
    refine ⟨qs r (7 + i) (nI 2), ⟨fun j hj => (qs_ne _ _ (by omega)).trans (h1.1 j hj), fun j hj => ?_⟩, ?_⟩
    · by_cases z : j = i
      · rw [z, qs_same]
      · rw [qs_ne _ _ (by omega)]; exact h1.2 j (by omega)
    · funext K
      rw [f7_anew_l53]
      simp (disch := omega) only [lit, nmS, clI, gd_ib, wq_set, nI_add]
      rw [if_neg (nI_ge hi (by omega))]) (by
    intro n r h1
    funext K
    rw [f7_anew_l53]
    simp only [lit]
    rw [if_pos (nI_le (Nat.le_refl _) (by omega))]) 4 0 N r2 (by omega) (by omega) ⟨fun _ _ => rfl, fun j hj => absurd hj (Nat.not_lt_zero j)⟩
  have b3' : ∀ K, f7_anew_l53 K N (nI 0) (wq σ r2) = K (wq σ r3) := fun K => congrFun b3 K
  rw [b3']
  obtain ⟨r4, ⟨d1, d2⟩, d3⟩ := lupR (fun n i (r : QS) (K : Mem → Option Mem) => f7_anew_l76 (nI M) (nI S) K n (nI i) (wq σ r)) (fun t r => (∀ j, ¬ (11 ≤ j ∧ j < 11 + S) → r j = r3 j) ∧ ∀ s, s < t → r (11 + s) = nI (s % M)) S (fun r K => K (wq σ r)) (by
    intro n i r hi h1
    refine ⟨qs r (11 + i) (nI (i % M)), ⟨fun j hj => (qs_ne _ _ (by omega)).trans (h1.1 j hj), fun j hj => ?_⟩, ?_⟩
    · by_cases z : j = i
      · rw [z, qs_same]
      · rw [qs_ne _ _ (by omega)]; exact h1.2 j (by omega)
    · funext K
      rw [f7_anew_l76]
      simp (disch := omega) only [lit, nmS, clI, gd_ib, gd_nz, wq_set, nI_add, pk_rem]
      rw [if_neg (nI_ge hi (by omega))]) (by
    intro n r h1
    funext K
    rw [f7_anew_l76]
    rw [if_pos (nI_le (Nat.le_refl _) (by omega))]) S 0 N r3 (by omega) (by omega) ⟨fun _ _ => rfl, fun j hj => absurd hj (Nat.not_lt_zero j)⟩
  have d3' : ∀ K, f7_anew_l76 (nI M) (nI S) K N (nI 0) (wq σ r3) = K (wq σ r4) := fun K => congrFun d3 K
  rw [d3']
  refine ⟨r4, rfl, fun j hj => ?_⟩
  by_cases e1 : 11 ≤ j ∧ j < 11 + S
  · obtain ⟨s, rfl⟩ : ∃ s, j = 11 + s := ⟨j - 11, by omega⟩
    rw [d2 s (by omega), anQ_own M S (by omega)]
  · rw [d1 j e1]
    by_cases e2 : 7 ≤ j ∧ j < 11
    · obtain ⟨s, rfl⟩ : ∃ s, j = 7 + s := ⟨j - 7, by omega⟩
      rw [b2 s (by omega), anQ_lat M S (by omega)]
    · rw [b1 j e2, hr2]
      unfold qs anQ
      by_cases z5 : j = 5
      · rw [if_pos z5, if_neg (by omega), if_neg (by omega), if_neg (by omega), if_pos z5]; rfl
      · rw [if_neg z5]
        by_cases z4 : j = 4
        · rw [if_pos z4, if_neg (by omega), if_neg (by omega), if_pos z4]; rfl
        · rw [if_neg z4]
          by_cases z1 : j = 1
          · rw [if_pos z1, if_neg (by omega), if_pos z1]
          · rw [if_neg z1]
            by_cases z0 : j = 0
            · rw [if_pos z0, if_pos z0]
            · rw [if_neg z0, if_neg z0, if_neg z1, if_neg z4, if_neg z5, if_neg e2, if_neg e1]
              exact a1 j hj
end ANEW2
