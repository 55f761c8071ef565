/-! THE LAW'S LOOP over its script, and what comes behind it -/
section LOOPL
variable {q : QS} {T Ls : Nat} {σ σ' : Mem} {xs : Nat → Int32}
theorem cell_ok (hL : Ls ≤ 260) {i : Nat} (hi : i < 100) (σ : Mem) : ∃ Y, Y < 2 ^ 31 ∧ fL_cell Ls xs (nI i) σ = some (nI Y, σ) := by
  have hm : (2147483647 : Int32).toBitVec.toNat = 2 ^ 31 - 1 := by decide
  unfold fL_cell
  by_cases e : Ls ≤ i
  · rw [if_pos (show Int32.ofNat Ls ≤ nI i from nI_le e (by omega))]
    obtain ⟨j, hj, h⟩ := pk_andE ((15564307 : Int32) * nI i + (1801 : Int32)) 31 hm
    exact ⟨j, hj, by rw [h]⟩
  · rw [if_neg (show ¬ Int32.ofNat Ls ≤ nI i from nI_ge (by omega) (by omega)), gd_ib (by omega) (by omega), clI (by omega)]
    obtain ⟨j, hj, h⟩ := pk_andE (xs i) 31 hm
    exact ⟨j, hj, by rw [h]⟩
theorem l77_run (hL : Ls ≤ 260) : ∀ d i n (σ : Mem) (q : QS) (T : Nat), i + d = 44 → d < n → Bus q (cOf σ 0) T → RI σ → Iv T q → T ≤ 20 * i →
    ∃ σ' q' T', Bus q' (cOf σ' 0) T' ∧ RI σ' ∧ Iv T' q' ∧ T' ≤ 880 ∧ ∀ k1, fL_law_l77 Ls xs k1 n (nI 1) (nI i) σ = k1 (nI 1) σ' := by
  intro d
  induction d with
  | zero =>
    intro i n σ q T h1 h2 h hr hI hT
    obtain rfl : i = 44 := h1
    obtain ⟨z, rfl⟩ : ∃ z, n = z + 1 := ⟨n - 1, by omega⟩
    refine ⟨σ, q, T, h, hr, hI, by omega, fun k1 => ?_⟩
    rw [fL_law_l77]
    simp only [lit]
    rw [if_pos (nI_le (Nat.le_refl 44) (by omega))]
  | succ d ih =>
    intro i n σ q T h1 h2 h hr hI hT
    obtain ⟨z, rfl⟩ : ∃ z, n = z + 1 := ⟨n - 1, by omega⟩
    obtain ⟨Y, hY, c1⟩ := cell_ok (xs := xs) hL (show i < 100 by omega) σ
    obtain ⟨σ1, q1, T1, e1, b1, r1, i1, t1⟩ := acts_ok h hr hI (by omega) hY
    obtain ⟨σ2, t2, e2⟩ := snd b1 i1 (by omega)
    obtain ⟨σ', q', T', g1, g2, g3, g4, g5⟩ := ih (i + 1) z σ2 q1 T1 (by omega) (by omega) (t2.bus (by omega) b1) (t2.ri r1) i1 (by omega)
    refine ⟨σ', q', T', g1, g2, g3, g4, fun k1 => ?_⟩
    rw [fL_law_l77]
    simp only [lit, nmS, n10, ↓reduceIte]
    rw [if_neg (nI_ge (show i < 44 by omega) (by omega)), c1, bdS, e1, bdS, if_neg (show ¬ nI 1 = nI 0 by decide), e2, bdS, if_neg (show ¬ (1 : Int32) = nI 0 by decide), nI_add]
    exact g5 k1
theorem law_go (h : Bus (anQ 2 4) (cOf σ 0) 0) (hr : RI σ) (h54 : σ 54 0 0 = 0) (hL : Ls ≤ 260) (xs : Nat → Int32) : ∃ sR, fL_law Ls xs σ = some (1, sR) := by
  obtain ⟨-, eM, eS⟩ := anQ_wb (M := 2) (S := 4) (by omega) (by omega) (by omega) (by omega)
  obtain ⟨σ1, t1, e1⟩ := snd h Iv.start (by omega)
  obtain ⟨σ2, e2, t2⟩ := a_error ((t1.at (by decide) (by decide) (by decide) (by decide)).trans h54)
  have h2 := t2.bus (b := 0) (by omega) (t1.bus (b := 0) (by omega) h)
  obtain ⟨σ3, q, T, h3, r3, i3, hT, e3⟩ := l77_run (xs := xs) hL 44 0 FU σ2 (anQ 2 4) 0 rfl (by decide) h2 (t2.ri (t1.ri hr)) Iv.start (by omega)
  obtain ⟨σ4, e4, t4⟩ := a_turnIn h3 (by omega) (n := 7) (by omega)
  have h4 := t4.bus (b := 0) (by omega) h3
  obtain ⟨σ5, e5, h5, r5, s5⟩ := a_save h4 (t4.ri r3)
  obtain ⟨σ6, e6, A6⟩ := a_pass h5 r5 (n := 40) (by omega) (by omega) (by omega)
  obtain ⟨σ7, k, hk, e7, h7, r7, s7⟩ := a_undo A6.2.1
  obtain ⟨σ8, e8, t8⟩ := a_turnIn h7 (by omega) (n := 7) (by omega)
  have h8 := t8.bus (b := 0) (by omega) h7
  obtain ⟨σ9, e9, A9⟩ := a_pass h8 (t8.ri r7) (n := 9) (by omega) (by omega) (by omega)
  obtain ⟨σa, ea, ha, ra⟩ := a_restore (A9.2.2 _ _ (t8.sav (s7 _ _ (A6.2.2 _ _ s5)))) A9.2.1.ri
  obtain ⟨σb, eb, tb⟩ := a_turnIn ha (by omega) (n := 7) (by omega)
  obtain ⟨σc, tc, ec⟩ := snd (tb.bus (b := 0) (by omega) ha) i3 (by omega)
  have w40 := (tkN_idle h5.2.1 h5.2.2 40 (by omega)).1
  have w9 := (tkN_idle h8.2.1 h8.2.2 9 (by omega)).1
  refine ⟨σc, ?_⟩
  unfold fL_law
  simp only [lit, nmS, n10, ↓reduceIte]
  rw [ab_M h, bdS, if_pos (show nI (nM (anQ 2 4)) = nI 2 by rw [eM]), a_about h (by omega), bdS, if_pos (show abV (anQ 2 4) 1 = nI 4 from rfl), a_about h (by omega), bdS, if_pos (show abV (anQ 2 4) 4 = nI 4 from rfl), a_about h (by omega), bdS, if_pos (show abV (anQ 2 4) 8 = -nI 9 from rfl), e1, bdS, if_neg (show ¬ (1 : Int32) = nI 0 by decide), e2, bdS, if_pos (show (0 : Int32) = nI 0 from rfl), a_owner h2 (s := 3) (by omega), bdS, if_pos (show anQ 2 4 (11 + 3) = nI 1 from rfl), e3,
    a_about h3 (by omega), bdS, a_about h3 (by omega), bdS, e4, bdS, if_neg (show ¬ nI 1 = nI 0 by decide), e5, bdS, if_pos (show q 2 = abV q 2 from rfl), e6, bdS, if_neg (show ¬ nI (wkN q 40) < nI 0 from nI_pos (by omega)), e7, bdS, if_neg (show ¬ nI k < nI 0 from nI_pos (by omega)), a_about h7 (by omega), bdS, if_pos rfl, a_about h7 (by omega), bdS, if_pos rfl, e8, bdS, if_pos rfl, e9, bdS, if_neg (show ¬ nI (wkN q 9) < nI 0 from nI_pos (by omega)), ea, bdS, if_pos (show q 2 = abV q 2 from rfl), eb, bdS, if_pos rfl, ec, bdS, if_neg (show ¬ (1 : Int32) = nI 0 by decide), gdI (show zok (nI 1) = true by decide)]
end LOOPL
