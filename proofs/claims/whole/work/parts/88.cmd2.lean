/-! THE COMMANDS -/
section CMD2
variable {r : QS} {T : Nat} {σ : Mem} {d2 d3 d4 d5 : Nat}
theorem a7 {d1 : Nat} (h1 : 1 ≤ d1) (h5 : d1 ≤ 5) (x2 x3 : Int32) (h4 : d4 < 10) (h5' : d5 < 10) (s : Mem) : cmd7 (nI d1) x2 x3 (nI (10 * d4 + d5)) s = bd (f7_acts (nI d1) x2 x3 (nI d4) (nI d5) s) fun r7 s8 => gd (zok r7) (some (r7, s8)) := by
  unfold cmd7
  rw [in_15 (by omega), bdS, decide_eq_true h1, decide_eq_true h5, if_neg (show ¬ bI (true && true) = 0 by decide), (dig45 h4 h5').2, (dig45 h4 h5').1]
theorem a7b {d1 : Nat} (h1 : d1 = 0 ∨ 5 < d1) (hd : d1 < 10) (s : Mem) : f7_in (nI d1).toInt64 (1 : Int64) (5 : Int64) s = some (nI 0, s) := by
  rw [in_15 (by omega)]
  rcases h1 with z | z
  · rw [show decide (1 ≤ d1) = false from decide_eq_false (by omega)]; rfl
  · rw [show decide (d1 ≤ 5) = false from decide_eq_false (by omega), Bool.and_false]; rfl
theorem bdz (b : Bool) (s : Mem) : (bd (some (bI b, s)) fun r7 s8 => gd (zok r7) (some (r7, s8))) = some (bI b, s) := by
  rw [bdS, gdI (zok_b b)]
theorem nle0 {d : Nat} (h : 0 < d) (h2 : d < 2 ^ 31) : ¬ nI d ≤ 0 := nI_ge (a := 0) h h2
theorem neq0 {d : Nat} (h : ¬ d = 0) (h2 : d < 2 ^ 31) : ¬ nI d = 0 := nI_ne0 (by omega) h2
theorem suc_0 (h : Bus r (cOf σ 15) T) (hT : T + 1000 < 2 ^ 27) (h2 : d2 < 10) (h3 : d3 < 10) (h4 : d4 < 10) (h5 : d5 < 10) : SucR r T σ (cmd6 (nI 0) (nI d2) (nI d3) (nI d4) (nI d5) (nI (10 * d4 + d5))) (cmd7 (nI 0) (nI d2) (nI d3) (nI (10 * d4 + d5))) := by
  refine sucSame h false ?_ (fun ρ => ?_)
  · unfold cmd6
    rw [if_neg (show ¬ nI 0 = (1 : Int32) by decide), if_neg (show ¬ nI 0 = (2 : Int32) by decide), if_neg (show ¬ nI 0 = (3 : Int32) by decide), if_neg (show ¬ nI 0 = (4 : Int32) by decide), if_neg (show ¬ nI 0 = (5 : Int32) by decide), if_neg (show ¬ nI 0 = (6 : Int32) by decide), if_neg (show ¬ nI 0 = (7 : Int32) by decide), if_neg (show ¬ nI 0 = (8 : Int32) by decide), if_neg (show ¬ nI 0 = (9 : Int32) by decide)]
    rfl
  · unfold cmd7
    rw [a7b (Or.inl rfl) (by omega), bdS, if_pos (show nI 0 = (0 : Int32) from rfl), if_pos (show nI 0 = (0 : Int32) from rfl)]
    rfl
theorem suc_1 (h : Bus r (cOf σ 15) T) (hT : T + 1000 < 2 ^ 27) (h2 : d2 < 10) (h3 : d3 < 10) (h4 : d4 < 10) (h5 : d5 < 10) : SucR r T σ (cmd6 (nI 1) (nI d2) (nI d3) (nI d4) (nI d5) (nI (10 * d4 + d5))) (cmd7 (nI 1) (nI d2) (nI d3) (nI (10 * d4 + d5))) := by
  by_cases e : d2 = 0 ∧ d3 = 0 ∧ 1 ≤ 10 * d4 + d5
  · obtain ⟨c', j1, j2⟩ := h.steps (n := 10 * d4 + d5) (by omega) (by omega) σ 15
    rw [wc_self] at j1
    refine sucCh (r' := tkN r (10 * d4 + d5)) ?_ (fun ρ => ?_) j2 (by omega)
    · unfold cmd6
      rw [if_pos (show nI 1 = (1 : Int32) from rfl)]
      simp (decide := true) (disch := omega) only [lit, i_eq, i_le, e, if_true, j1, bvS]
    · rw [a7 (by omega) (by omega) _ _ h4 h5]
      unfold f7_acts
      simp (decide := true) (disch := omega) only [lit, nmS]
      rw [if_pos trivial, nI_add, if_neg (show ¬ nI 0 < nI (d2 + d3) from fun z => by
        have := (nI_ltI (by omega) (by omega)).mp z
        omega), pk_mul, nI_add, if_neg (show ¬ nI (10 * d4 + d5) = nI 0 from fun z => by
        have := (nI_eq (by omega) (by omega)).mp z
        omega), m_passes ρ h.2.1 h.2.2 (by omega) (by omega), bdS]
      exact bdz true _
  · refine sucSame h false ?_ (fun ρ => ?_)
    · unfold cmd6
      rw [if_pos (show nI 1 = (1 : Int32) from rfl)]
      simp (decide := true) (disch := omega) only [lit, i_eq, i_le]
      by_cases e2 : d2 = 0
      · by_cases e3 : d3 = 0
        · rw [if_pos e2, if_pos e3, if_neg (by omega)]; rfl
        · rw [if_pos e2, if_neg e3]; rfl
      · rw [if_neg e2]; rfl
    · rw [a7 (by omega) (by omega) _ _ h4 h5]
      unfold f7_acts
      simp (decide := true) (disch := omega) only [lit, nmS]
      rw [if_pos trivial, nI_add, pk_mul, nI_add]
      by_cases e2 : 0 < d2 + d3
      · rw [if_pos (show nI 0 < nI (d2 + d3) from nI_lt e2 (by omega))]
        exact bdz false _
      · rw [if_neg (show ¬ nI 0 < nI (d2 + d3) from fun z => e2 ((nI_ltI (by omega) (by omega)).mp z)), if_pos (show nI (10 * d4 + d5) = nI 0 by rw [show 10 * d4 + d5 = 0 by omega])]
        exact bdz false _
theorem suc_5 (h : Bus r (cOf σ 15) T) (hT : T + 1000 < 2 ^ 27) (h2 : d2 < 10) (h3 : d3 < 10) (h4 : d4 < 10) (h5 : d5 < 10) : SucR r T σ (cmd6 (nI 5) (nI d2) (nI d3) (nI d4) (nI d5) (nI (10 * d4 + d5))) (cmd7 (nI 5) (nI d2) (nI d3) (nI (10 * d4 + d5))) := by
  by_cases e : d3 = 0 ∧ 10 * d4 + d5 = 0
  · refine sucCh (r' := qs r 4 (nI d2)) (T' := T) ?_ (fun ρ => ?_) (h.credit (nI d2)) (by omega)
    · unfold cmd6
      rw [if_neg (show ¬ nI 5 = (1 : Int32) by decide), if_neg (show ¬ nI 5 = (2 : Int32) by decide), if_neg (show ¬ nI 5 = (3 : Int32) by decide), if_neg (show ¬ nI 5 = (4 : Int32) by decide), if_pos (show nI 5 = (5 : Int32) from rfl)]
      simp (decide := true) (disch := omega) only [lit, nmS, i_eq, e, if_true]
      rw [← wc_sb σ _ (by decide), wc_self]
    · rw [a7 (by omega) (by omega) _ _ h4 h5]
      unfold f7_acts
      rw [nmS, if_neg (show ¬ nI 5 = (1 : Int32) by decide), if_neg (show ¬ nI 5 = (2 : Int32) by decide), if_neg (show ¬ nI 5 = (3 : Int32) by decide), if_neg (show ¬ nI 5 = (4 : Int32) by decide)]
      simp (decide := true) (disch := omega) only [lit, nmS]
      rw [pk_mul, nI_add, nI_add, if_pos (nI_le (by omega) (by omega)), clI (by decide), wq_set]
      exact bdz true _
  · refine sucSame h false ?_ (fun ρ => ?_)
    · unfold cmd6
      rw [if_neg (show ¬ nI 5 = (1 : Int32) by decide), if_neg (show ¬ nI 5 = (2 : Int32) by decide), if_neg (show ¬ nI 5 = (3 : Int32) by decide), if_neg (show ¬ nI 5 = (4 : Int32) by decide), if_pos (show nI 5 = (5 : Int32) from rfl)]
      simp (decide := true) (disch := omega) only [lit, nmS, i_eq]
      by_cases e3 : d3 = 0
      · rw [if_pos e3, if_neg (by omega)]; rfl
      · rw [if_neg e3]; rfl
    · rw [a7 (by omega) (by omega) _ _ h4 h5]
      unfold f7_acts
      rw [nmS, if_neg (show ¬ nI 5 = (1 : Int32) by decide), if_neg (show ¬ nI 5 = (2 : Int32) by decide), if_neg (show ¬ nI 5 = (3 : Int32) by decide), if_neg (show ¬ nI 5 = (4 : Int32) by decide)]
      simp (decide := true) (disch := omega) only [lit, nmS]
      rw [pk_mul, nI_add, nI_add, if_neg (show ¬ nI (d3 + (10 * d4 + d5)) ≤ nI 0 from nI_ge (by omega) (by omega))]
      exact bdz false _
theorem suc_6 (h : Bus r (cOf σ 15) T) (hT : T + 1000 < 2 ^ 27) (h2 : d2 < 10) (h3 : d3 < 10) (h4 : d4 < 10) (h5 : d5 < 10) : SucR r T σ (cmd6 (nI 6) (nI d2) (nI d3) (nI d4) (nI d5) (nI (10 * d4 + d5))) (cmd7 (nI 6) (nI d2) (nI d3) (nI (10 * d4 + d5))) := by
  obtain ⟨f, hE⟩ := h.1
  have hM := h.2.1.sz.M
  by_cases hm : d2 < nM r
  · have hd := c_debts σ 15 hE (m := d2) (by omega)
    rw [wc_self] at hd
    by_cases e3 : d3 = 0
    · refine sucSame h (!decide (nI (10 * d4 + d5) < dbQ r d2)) ?_ (fun ρ => ?_)
      · unfold cmd6
        rw [if_neg (show ¬ nI 6 = (1 : Int32) by decide), if_neg (show ¬ nI 6 = (2 : Int32) by decide), if_neg (show ¬ nI 6 = (3 : Int32) by decide), if_neg (show ¬ nI 6 = (4 : Int32) by decide), if_neg (show ¬ nI 6 = (5 : Int32) by decide), if_pos (show nI 6 = (6 : Int32) from rfl)]
        rw [nmS, if_pos (show nI d3 = 0 by rw [e3]; rfl), t_has h (by omega), bdS, decide_eq_true hm, if_neg (show ¬ bI true = 0 by decide), gd_ib (show d2 < 6 by omega) (by decide), clI (by omega), hd, bdS]
        by_cases e : nI (10 * d4 + d5) < dbQ r d2
        · rw [if_pos e, decide_eq_true e]; rfl
        · rw [if_neg e, decide_eq_false e]; rfl
      · unfold cmd7
        rw [a7b (Or.inr (by omega)) (by omega), bdS, if_pos (show nI 0 = (0 : Int32) from rfl), if_neg (show ¬ nI 6 = (0 : Int32) by decide), u_has h ρ (by omega), bdS, decide_eq_true hm, if_neg (show ¬ bI true = 0 by decide), if_pos (show nI d3 ≤ 0 by rw [e3]; decide), if_pos (show nI 6 = (6 : Int32) from rfl), f7_debts_s ρ r (by omega), bdS]
        by_cases e : nI (10 * d4 + d5) < dbQ r d2
        · rw [if_pos e, decide_eq_true e]; rfl
        · rw [if_neg e, decide_eq_false e]; rfl
    · refine sucSame h false ?_ (fun ρ => ?_)
      · unfold cmd6
        rw [if_neg (show ¬ nI 6 = (1 : Int32) by decide), if_neg (show ¬ nI 6 = (2 : Int32) by decide), if_neg (show ¬ nI 6 = (3 : Int32) by decide), if_neg (show ¬ nI 6 = (4 : Int32) by decide), if_neg (show ¬ nI 6 = (5 : Int32) by decide), if_pos (show nI 6 = (6 : Int32) from rfl)]
        rw [nmS, if_neg (show ¬ nI d3 = 0 from fun z => e3 ((nI_eq (by omega) (by omega)).mp z))]; rfl
      · unfold cmd7
        rw [a7b (Or.inr (by omega)) (by omega), bdS, if_pos (show nI 0 = (0 : Int32) from rfl), if_neg (show ¬ nI 6 = (0 : Int32) by decide), u_has h ρ (by omega), bdS, decide_eq_true hm, if_neg (show ¬ bI true = 0 by decide), if_neg (nle0 (show 0 < d3 by omega) (by omega))]
        rfl
  · refine sucSame h false ?_ (fun ρ => ?_)
    · unfold cmd6
      rw [if_neg (show ¬ nI 6 = (1 : Int32) by decide), if_neg (show ¬ nI 6 = (2 : Int32) by decide), if_neg (show ¬ nI 6 = (3 : Int32) by decide), if_neg (show ¬ nI 6 = (4 : Int32) by decide), if_neg (show ¬ nI 6 = (5 : Int32) by decide), if_pos (show nI 6 = (6 : Int32) from rfl)]
      rw [nmS, t_has h (by omega), bdS, decide_eq_false hm, if_pos (show bI false = 0 from rfl), ite_self]; rfl
    · unfold cmd7
      rw [a7b (Or.inr (by omega)) (by omega), bdS, if_pos (show nI 0 = (0 : Int32) from rfl), if_neg (show ¬ nI 6 = (0 : Int32) by decide), u_has h ρ (by omega), bdS, decide_eq_false hm, if_pos (show bI false = 0 from rfl)]
      rfl
end CMD2
