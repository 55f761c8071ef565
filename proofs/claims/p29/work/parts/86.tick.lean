/-! THE LAW'S SECOND CHECK: a tick goes by as it was told -/
section TICKL
variable {q : QS} {T : Nat} {σ σ' : Mem}
theorem n10 : (nI 1 = nI 0) = False := eq_false (by decide)
theorem l212_run (h : Bus q (cOf σ 0) T) (hn : NB q) (hB : Bk q) (k1 : Int32 → Mem → Option (Int32 × Mem)) : fL_tick_l212 k1 FU (nI 1) (nI 0) σ = k1 (nI 1) σ := by
  have hM := h.2.1.sz.M
  have h9 := lup (fun n (z : Int32) => fL_tick_l212 k1 n (nI 1) z σ) (fun i => nI i) (nM q) (k1 (nI 1) σ) ?_ ?_ (nM q) 0 FU (by omega) (Nat.lt_of_le_of_lt hM.2.1 (by decide))
  · exact h9
  · intro n i hi
    show fL_tick_l212 k1 (n + 1) (nI 1) (nI i) σ = fL_tick_l212 k1 n (nI 1) (nI (i + 1)) σ
    have hle : ¬ nI 4 * msV q i 0 < msV q i 1 := by
      cases hb : bkQ q i with
      | true =>
        obtain ⟨z0, z1, -, -⟩ := nul_sums h.2.1 (by omega) (hB.2 i (by omega) hb)
        rw [z0, z1]
        decide
      | false =>
        intro z
        exact hn i hi ⟨hb, fun y => not_lt_le.mpr y z⟩
    rw [fL_tick_l212]
    simp only [lit, nmS]
    rw [ab_M h, bdS, if_neg (nI_ge hi (by omega)), if_neg (show ¬ nI 1 = nI 0 by decide), a_master h hi (by omega), bdS, a_master h hi (by omega), bdS, if_neg hle, nI_add]
  · intro n
    show fL_tick_l212 k1 (n + 1) (nI 1) (nI (nM q)) σ = _
    rw [fL_tick_l212]
    simp only [lit]
    rw [ab_M h, bdS, if_pos (nI_le (Nat.le_refl _) (by omega))]
theorem tck (h : Bus q (cOf σ 0) T) (hr : RI σ) (hI : Iv T q) (hT : T + 3000 < 2 ^ 27) {m : Nat} (hm : m < nM q) : ∃ σ', fL_tick (nI m) σ = some (1, σ') ∧ Bus (tkQ q) (cOf σ' 0) (T + 1) ∧ RI σ' ∧ Iv (T + 1) (tkQ q) := by
  obtain ⟨σ1, a1, t1⟩ := a_turnIn h hT (n := 0) (by omega)
  have h1 := t1.bus (b := 0) (by omega) h
  obtain ⟨σ2, a2, t2⟩ := a_turnIn h1 hT (n := 3) (by omega)
  have h2 := t2.bus (b := 0) (by omega) h1
  obtain ⟨σ3, a3, t3⟩ := a_doneIn h2 hT hm
  have h3 := t3.bus (b := 0) (by omega) h2
  obtain ⟨σ4, a4, A⟩ := a_pass h3 (t3.ri (t2.ri (t1.ri hr))) (n := 1) (by omega) (by omega) hT
  unfold fL_tick
  simp only [lit, nmS, n10, ↓reduceIte]
  rw [a1, bdS, a2, bdS, a3, bdS, a_about h3 (by omega), bdS, a_master h3 hm (by omega), bdS, a_master h3 hm (by omega), bdS, a4, bdS]
  sorry
end TICKL
