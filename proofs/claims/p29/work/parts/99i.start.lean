/-! THE START: all is made; what holds of the memory then -/
section START
variable {κ : Kx} {g g1 : Gr} {σ σ6 : Mem} {c0 : Mem} {r : QS}
def SF : Nat → Nat → Nat → Prop := STm 2
theorem kF_sp : ((List.range 19).all fun K => (kF K).all fun f => !f.1 || ((Nat.ble 70 f.2 && Nat.ble f.2 77 && kCnt K == 1) || (Nat.ble 78 f.2 && Nat.ble f.2 80 && kCnt K == 19) || (Nat.ble 81 f.2 && Nat.ble f.2 87 && kCnt K == 114) || (Nat.ble 88 f.2 && Nat.ble f.2 88 && kCnt K == 1))) = true := by decide +kernel
theorem kA_sp : ((List.range 19).all fun K => !(Nat.ble 4 (kT K) && Nat.blt (kT K) 6) || K == 6 || K == 16 || K == 17) = true := by decide +kernel
theorem kT_le : ((List.range 27).all fun K => Nat.ble (kT K) 6) = true := by decide +kernel
theorem off_le : ((List.range 19).all fun K => (List.range (kCnt K)).all fun o => Nat.blt (off K o) 995) = true := by decide +kernel
theorem off_lt {K o : Nat} (h : o < kCnt K) (h2 : K < 19) : off K o < 995 := by
  have h1 := List.all_eq_true.mp (List.all_eq_true.mp off_le K (List.mem_range.mpr h2)) o (List.mem_range.mpr h)
  have := Nat.le_of_ble_eq_true h1
  omega
theorem sf_f {K o : Nat} (ho : o < kCnt K) (h19 : K < 19) {f : Bool × Nat} (hf : f ∈ kF K) (h : f.1 = true) : SF f.2 o 0 := by
  have h1 := List.all_eq_true.mp (List.all_eq_true.mp kF_sp K (List.mem_range.mpr h19)) f hf
  rw [h] at h1
  simp only [Bool.not_true, Bool.false_or, Bool.or_eq_true, Bool.and_eq_true, Nat.ble_eq, beq_iff_eq] at h1
  unfold SF STm
  rcases h1 with ((⟨⟨a1, a2⟩, a3⟩ | ⟨⟨a1, a2⟩, a3⟩) | ⟨⟨a1, a2⟩, a3⟩) | ⟨⟨a1, a2⟩, a3⟩
  · rw [a3] at ho
    by_cases e : f.2 = 77
    · exact Or.inr (Or.inl ⟨e, by omega, rfl⟩)
    · exact Or.inl ⟨a1, by omega, by omega, rfl⟩
  · rw [a3] at ho
    exact Or.inr (Or.inr (Or.inr (Or.inr (Or.inr ⟨o, by omega, Or.inl ⟨a1, a2, rfl, rfl⟩⟩))))
  · rw [a3] at ho
    exact Or.inr (Or.inr (Or.inr (Or.inr (Or.inr ⟨o / 6, by omega, Or.inr (Or.inl ⟨a1, a2, rfl, by omega, rfl⟩)⟩))))
  · rw [a3] at ho
    exact Or.inr (Or.inr (Or.inl ⟨by omega, by omega, rfl⟩))
theorem sf_a {K o i : Nat} (h19 : K < 19) (h4 : 4 ≤ kT K) (h6 : kT K < 6) (ho : o < kCnt K) (hi : i < kL K) : SF K o i := by
  have h1 := List.all_eq_true.mp kA_sp K (List.mem_range.mpr h19)
  rw [Nat.ble_eq_true_of_le h4, show Nat.blt (kT K) 6 = true from Nat.ble_eq_true_of_le h6] at h1
  simp only [Bool.and_self, Bool.not_true, Bool.false_or, Bool.or_eq_true, beq_iff_eq] at h1
  unfold SF STm
  rcases h1 with (rfl | rfl) | rfl
  · exact Or.inr (Or.inr (Or.inr (Or.inr (Or.inr ⟨o, ho, Or.inr (Or.inr ⟨rfl, rfl, hi⟩)⟩))))
  · exact Or.inr (Or.inr (Or.inr (Or.inl ⟨rfl, Nat.lt_one_iff.mp ho, hi⟩)))
  · exact Or.inr (Or.inr (Or.inr (Or.inr (Or.inl ⟨rfl, Nat.lt_one_iff.mp ho, hi⟩))))
theorem ent_same {D : va_G} {dA : Nat → ClassId} {τ : Nat → Int64} {K o a : Nat} {H : Heap} (hK : K < 27) (hf : ∀ f ∈ kF K, f.1 = true → g f.2 o 0 = g1 f.2 o 0) (ha : 4 ≤ kT K → kT K < 6 → ∀ i, i < kL K → g K o i = g1 K o i) (h : va_at D vwCl (a, ent dA g σ τ K o) H) : va_at D vwCl (a, ent dA g1 σ τ K o) H := by
  by_cases h6 : kT K = 6
  · rw [ent_obj h6] at h ⊢
    have e : ((kF K).map fun f => if f.1 then va_rf (g f.2 o 0) else .int (σ f.2 o 0)) = (kF K).map fun f => if f.1 then va_rf (g1 f.2 o 0) else .int (σ f.2 o 0) := by
      refine List.map_congr_left fun f hff => ?_
      by_cases e1 : f.1 = true
      · rw [if_pos e1, if_pos e1, hf f hff e1]
      · rw [if_neg e1, if_neg e1]
    rw [← e]
    exact h
  · by_cases h4 : 4 ≤ kT K
    · have hle := Nat.le_of_ble_eq_true (List.all_eq_true.mp kT_le K (List.mem_range.mpr hK))
      have h5 : kT K < 6 := by omega
      rw [ent_ref h4 h5] at h ⊢
      have h' : H[a]? = some (vp_cell (dA (kT K)) (kL K, .inr (.inr (.inr (.inr (g K o)))))) := h
      show H[a]? = some (vp_cell (dA (kT K)) (kL K, .inr (.inr (.inr (.inr (g1 K o))))))
      rw [h', vp_cell_q, vp_cell_q]
      unfold arrV
      congr 3
      funext j
      show va_rf (g K o j.val) = va_rf (g1 K o j.val)
      rw [ha h4 h5 j.val j.2]
    · by_cases h3 : kT K = 3
      · rw [ent_long h3] at h ⊢
        exact h
      · rw [ent_int (by omega)] at h ⊢
        exact h
theorem toNV {H : Heap} {g0 : Gr} (hu : Up κ.1 SF g0 g) (h : RelH κ (Vc 995 g) σ H) : RelH κ (NV κ (fun _ => 0)) σ H :=
  ⟨fun K o ho => ent_same (kCnt_lt ho.1) (fun f hf e => hu.at (sf_f ho.1 ho.2 hf e)) (fun h4 h6 i hi => hu.at (sf_a ho.2 h4 h6 ho.1 hi)) (h.1 K o ⟨ho.1, off_lt ho.1 ho.2⟩), fun K o ho => ho.1, fun k hk => nomatch hk⟩
end START
