/-! THE COMMANDS that ask -/
section CMD3
variable {r : QS} {T : Nat} {σ : Mem} {d2 d3 d4 d5 : Nat}
set_option maxHeartbeats 1000000 in
theorem suc_7 (h : Bus r (cOf σ 15) T) (hT : T + 1000 < 2 ^ 27) (h2 : d2 < 10) (h3 : d3 < 10) (h4 : d4 < 10) (h5 : d5 < 10) : SucR r T σ (cmd6 (nI 7) (nI d2) (nI d3) (nI d4) (nI d5) (nI (10 * d4 + d5))) (cmd7 (nI 7) (nI d2) (nI d3) (nI (10 * d4 + d5))) := by
  obtain ⟨f, hE⟩ := h.1
  have hM := h.2.1.sz.M
  by_cases hm : d2 < nM r
  · have hm6 : d2 < 6 := by omega
    have e42 : σ 42 (6 * 15 + d2) 0 = mQ r d2 1 := hE.cnt (j := 1) hm6 (by omega) (by omega)
    by_cases e3 : d3 = 0
    · refine sucSame h (!decide (nI (10 * d4 + d5) < mQ r d2 1)) ?_ (fun ρ => ?_)
      · unfold cmd6
        rw [if_neg (show ¬ nI 7 = (1 : Int32) by decide), if_neg (show ¬ nI 7 = (2 : Int32) by decide), if_neg (show ¬ nI 7 = (3 : Int32) by decide), if_neg (show ¬ nI 7 = (4 : Int32) by decide), if_neg (show ¬ nI 7 = (5 : Int32) by decide), if_neg (show ¬ nI 7 = (6 : Int32) by decide), if_pos (show nI 7 = (7 : Int32) from rfl)]
        rw [nmS, if_pos (show nI d3 = 0 by rw [e3]; rfl), t_has h (by omega), bdS, decide_eq_true hm, if_neg (show ¬ bI true = 0 by decide), gd_ib hm6 (by decide), clI (by omega), e42]
        by_cases e : nI (10 * d4 + d5) < mQ r d2 1
        · rw [if_pos e, decide_eq_true e]; rfl
        · rw [if_neg e, decide_eq_false e]; rfl
      · unfold cmd7
        rw [a7b (Or.inr (by omega)) (by omega), bdS, if_pos (show nI 0 = (0 : Int32) from rfl), if_neg (show ¬ nI 7 = (0 : Int32) by decide), u_has h ρ (by omega), bdS, decide_eq_true hm, if_neg (show ¬ bI true = 0 by decide), if_pos (show nI d3 ≤ 0 by rw [e3]; decide), if_neg (show ¬ nI 7 = (6 : Int32) by decide), if_pos (show nI 7 = (7 : Int32) from rfl), show f7_of (nI d2) 1 (wq ρ r) = some (mQ r d2 1, wq ρ r) from f7_of_s ρ r (m := d2) (j := 1) (by omega), bdS]
        by_cases e : nI (10 * d4 + d5) < mQ r d2 1
        · rw [if_pos e, decide_eq_true e]; rfl
        · rw [if_neg e, decide_eq_false e]; rfl
    · refine sucSame h false ?_ (fun ρ => ?_)
      · unfold cmd6
        rw [if_neg (show ¬ nI 7 = (1 : Int32) by decide), if_neg (show ¬ nI 7 = (2 : Int32) by decide), if_neg (show ¬ nI 7 = (3 : Int32) by decide), if_neg (show ¬ nI 7 = (4 : Int32) by decide), if_neg (show ¬ nI 7 = (5 : Int32) by decide), if_neg (show ¬ nI 7 = (6 : Int32) by decide), if_pos (show nI 7 = (7 : Int32) from rfl)]
        rw [nmS, if_neg (show ¬ nI d3 = 0 from neq0 e3 (by omega))]; rfl
      · unfold cmd7
        rw [a7b (Or.inr (by omega)) (by omega), bdS, if_pos (show nI 0 = (0 : Int32) from rfl), if_neg (show ¬ nI 7 = (0 : Int32) by decide), u_has h ρ (by omega), bdS, decide_eq_true hm, if_neg (show ¬ bI true = 0 by decide), if_neg (nle0 (show 0 < d3 by omega) (by omega))]
        rfl
  · refine sucSame h false ?_ (fun ρ => ?_)
    · unfold cmd6
      rw [if_neg (show ¬ nI 7 = (1 : Int32) by decide), if_neg (show ¬ nI 7 = (2 : Int32) by decide), if_neg (show ¬ nI 7 = (3 : Int32) by decide), if_neg (show ¬ nI 7 = (4 : Int32) by decide), if_neg (show ¬ nI 7 = (5 : Int32) by decide), if_neg (show ¬ nI 7 = (6 : Int32) by decide), if_pos (show nI 7 = (7 : Int32) from rfl)]
      rw [nmS, t_has h (by omega), bdS, decide_eq_false hm, if_pos (show bI false = 0 from rfl), ite_self]; rfl
    · unfold cmd7
      rw [a7b (Or.inr (by omega)) (by omega), bdS, if_pos (show nI 0 = (0 : Int32) from rfl), if_neg (show ¬ nI 7 = (0 : Int32) by decide), u_has h ρ (by omega), bdS, decide_eq_false hm, if_pos (show bI false = 0 from rfl)]
      rfl
set_option maxHeartbeats 1000000 in
theorem suc_8 (h : Bus r (cOf σ 15) T) (hT : T + 1000 < 2 ^ 27) (h2 : d2 < 10) (h3 : d3 < 10) (h4 : d4 < 10) (h5 : d5 < 10) : SucR r T σ (cmd6 (nI 8) (nI d2) (nI d3) (nI d4) (nI d5) (nI (10 * d4 + d5))) (cmd7 (nI 8) (nI d2) (nI d3) (nI (10 * d4 + d5))) := by
  obtain ⟨f, hE⟩ := h.1
  have hM := h.2.1.sz.M
  by_cases hm : d2 < nM r
  · have hm6 : d2 < 6 := by omega
    have e40 : σ 40 (6 * 15 + d2) 0 = bI (bkQ r d2) := hE.bk hm6
    by_cases e3 : d3 = 0
    · by_cases e4 : d4 = 0 ∧ d5 ≤ 1
      · refine sucSame h (decide (bkQ r d2 = decide (d5 = 1))) ?_ (fun ρ => ?_)
        · unfold cmd6
          rw [if_neg (show ¬ nI 8 = (1 : Int32) by decide), if_neg (show ¬ nI 8 = (2 : Int32) by decide), if_neg (show ¬ nI 8 = (3 : Int32) by decide), if_neg (show ¬ nI 8 = (4 : Int32) by decide), if_neg (show ¬ nI 8 = (5 : Int32) by decide), if_neg (show ¬ nI 8 = (6 : Int32) by decide), if_neg (show ¬ nI 8 = (7 : Int32) by decide), if_pos (show nI 8 = (8 : Int32) from rfl)]
          rw [nmS, if_pos (show nI d3 = 0 by rw [e3]; rfl), if_pos (show nI d4 = 0 by rw [e4.1]; rfl), if_neg (show ¬ (1 : Int32) < nI d5 from fun z => by
            have := (nI_ltI (a := 1) (by omega) (by omega)).mp z
            omega), t_has h (by omega), bdS, decide_eq_true hm, if_neg (show ¬ bI true = 0 by decide), gd_ib hm6 (by decide), clI (by omega), nmS, e40]
          have : d5 = 0 ∨ d5 = 1 := by omega
          rcases this with z | z
          · subst z
            rw [if_neg (show ¬ nI 0 = (1 : Int32) by decide)]
            cases bkQ r d2 <;> rfl
          · subst z
            rw [if_pos (show nI 1 = (1 : Int32) from rfl)]
            cases bkQ r d2 <;> rfl
        · unfold cmd7
          rw [a7b (Or.inr (by omega)) (by omega), bdS, if_pos (show nI 0 = (0 : Int32) from rfl), if_neg (show ¬ nI 8 = (0 : Int32) by decide), u_has h ρ (by omega), bdS, decide_eq_true hm, if_neg (show ¬ bI true = 0 by decide), if_pos (show nI d3 ≤ 0 by rw [e3]; decide), if_neg (show ¬ nI 8 = (6 : Int32) by decide), if_neg (show ¬ nI 8 = (7 : Int32) by decide), if_pos (show nI 8 = (8 : Int32) from rfl), f7_isBankrupt_s, bdS, nmS]
          have : d5 = 0 ∨ d5 = 1 := by omega
          rw [show 10 * d4 + d5 = d5 by omega]
          rcases this with z | z
          · subst z
            cases bkQ r d2
            · rw [if_pos (show bI false = 0 by decide)]; rfl
            · rw [if_neg (show ¬ bI true = 0 by decide)]; rfl
          · subst z
            cases bkQ r d2
            · rw [if_pos (show bI false = 0 by decide)]; rfl
            · rw [if_neg (show ¬ bI true = 0 by decide)]; rfl
      · refine sucSame h false ?_ (fun ρ => ?_)
        · unfold cmd6
          rw [if_neg (show ¬ nI 8 = (1 : Int32) by decide), if_neg (show ¬ nI 8 = (2 : Int32) by decide), if_neg (show ¬ nI 8 = (3 : Int32) by decide), if_neg (show ¬ nI 8 = (4 : Int32) by decide), if_neg (show ¬ nI 8 = (5 : Int32) by decide), if_neg (show ¬ nI 8 = (6 : Int32) by decide), if_neg (show ¬ nI 8 = (7 : Int32) by decide), if_pos (show nI 8 = (8 : Int32) from rfl)]
          rw [nmS, if_pos (show nI d3 = 0 by rw [e3]; rfl)]
          by_cases e5 : d4 = 0
          · rw [if_pos (show nI d4 = 0 by rw [e5]; rfl), if_pos (show (1 : Int32) < nI d5 from nI_lt (a := 1) (by omega) (by omega))]; rfl
          · rw [if_neg (neq0 e5 (by omega))]; rfl
        · unfold cmd7
          rw [a7b (Or.inr (by omega)) (by omega), bdS, if_pos (show nI 0 = (0 : Int32) from rfl), if_neg (show ¬ nI 8 = (0 : Int32) by decide), u_has h ρ (by omega), bdS, decide_eq_true hm, if_neg (show ¬ bI true = 0 by decide), if_pos (show nI d3 ≤ 0 by rw [e3]; decide), if_neg (show ¬ nI 8 = (6 : Int32) by decide), if_neg (show ¬ nI 8 = (7 : Int32) by decide), if_pos (show nI 8 = (8 : Int32) from rfl), f7_isBankrupt_s, bdS, nmS]
          have n0 : ¬ (0 : Int32) = nI (10 * d4 + d5) := fun z => by
            have := (nI_eq (a := 0) (by omega) (by omega)).mp z
            omega
          have n1 : ¬ (1 : Int32) = nI (10 * d4 + d5) := fun z => by
            have := (nI_eq (a := 1) (by omega) (by omega)).mp z
            omega
          cases bkQ r d2
          · rw [if_pos (show bI false = 0 by decide)]; exact if_neg n0
          · rw [if_neg (show ¬ bI true = 0 by decide)]; exact if_neg n1
    · refine sucSame h false ?_ (fun ρ => ?_)
      · unfold cmd6
        rw [if_neg (show ¬ nI 8 = (1 : Int32) by decide), if_neg (show ¬ nI 8 = (2 : Int32) by decide), if_neg (show ¬ nI 8 = (3 : Int32) by decide), if_neg (show ¬ nI 8 = (4 : Int32) by decide), if_neg (show ¬ nI 8 = (5 : Int32) by decide), if_neg (show ¬ nI 8 = (6 : Int32) by decide), if_neg (show ¬ nI 8 = (7 : Int32) by decide), if_pos (show nI 8 = (8 : Int32) from rfl)]
        rw [nmS, if_neg (show ¬ nI d3 = 0 from neq0 e3 (by omega))]; rfl
      · unfold cmd7
        rw [a7b (Or.inr (by omega)) (by omega), bdS, if_pos (show nI 0 = (0 : Int32) from rfl), if_neg (show ¬ nI 8 = (0 : Int32) by decide), u_has h ρ (by omega), bdS, decide_eq_true hm, if_neg (show ¬ bI true = 0 by decide), if_neg (nle0 (show 0 < d3 by omega) (by omega))]
        rfl
  · refine sucSame h false ?_ (fun ρ => ?_)
    · unfold cmd6
      rw [if_neg (show ¬ nI 8 = (1 : Int32) by decide), if_neg (show ¬ nI 8 = (2 : Int32) by decide), if_neg (show ¬ nI 8 = (3 : Int32) by decide), if_neg (show ¬ nI 8 = (4 : Int32) by decide), if_neg (show ¬ nI 8 = (5 : Int32) by decide), if_neg (show ¬ nI 8 = (6 : Int32) by decide), if_neg (show ¬ nI 8 = (7 : Int32) by decide), if_pos (show nI 8 = (8 : Int32) from rfl)]
      rw [nmS, t_has h (by omega), bdS, decide_eq_false hm, if_pos (show bI false = 0 from rfl), ite_self, ite_self, ite_self]; rfl
    · unfold cmd7
      rw [a7b (Or.inr (by omega)) (by omega), bdS, if_pos (show nI 0 = (0 : Int32) from rfl), if_neg (show ¬ nI 8 = (0 : Int32) by decide), u_has h ρ (by omega), bdS, decide_eq_false hm, if_pos (show bI false = 0 from rfl)]
      rfl
set_option maxHeartbeats 1000000 in
theorem suc_9 (h : Bus r (cOf σ 15) T) (hT : T + 1000 < 2 ^ 27) (h2 : d2 < 10) (h3 : d3 < 10) (h4 : d4 < 10) (h5 : d5 < 10) : SucR r T σ (cmd6 (nI 9) (nI d2) (nI d3) (nI d4) (nI d5) (nI (10 * d4 + d5))) (cmd7 (nI 9) (nI d2) (nI d3) (nI (10 * d4 + d5))) := by
  obtain ⟨f, hE⟩ := h.1
  have hM := h.2.1.sz.M
  by_cases hm : d2 < nM r
  · have hm6 : d2 < 6 := by omega
    by_cases e3 : d3 = 0
    · obtain ⟨c1, hc1, hc2⟩ := c_copy σ (o := 16) (a := 15) (by omega) h (cOf σ 16)
      rw [wc_self] at hc1
      obtain ⟨c2, ht⟩ := c_till σ 16 (P := fun i => decide (i = d2)) (a := d2) (z := d2) (N := 10 * d4 + d5 + 1) (a3 := nI (10 * d4 + d5)) hc2 hm (Nat.le_refl _) (fun j hj => one_P j hj) (nI_1 _) (fun i hi => by rw [nI_ltI (by omega) (by omega)]; omega) (by omega) (by omega)
      have hmin := dnT_min (fun i => decide (i = d2)) r (show 10 * d4 + d5 + 1 ≤ 401 by omega)
      have hle := dnT_le (fun i => decide (i = d2)) r 401
      intro ρ
      obtain ⟨q2, m1, m2⟩ := m_done ρ h.2.1 h.2.2 (by omega) (P := fun i => decide (i = d2)) (a1 := 1 <<< (nI d2 &&& 31)) (fun i hi => bit_1' (by omega) (by omega))
      generalize hD : dnT (fun i => decide (i = d2)) r 401 = D at hmin m1 hle
      have hb : Bus q2 (cOf (wc σ 16 c2) 15) T := (h.other c2 (by omega)).rows m2
      refine ⟨!decide (10 * d4 + d5 < D), wc σ 16 c2, q2, T, w2 ρ 2 r, ?_, ?_, t15_wc σ c2 (Or.inr rfl), hb, by omega, fun k o x hk => w2_out _ _ _ hk⟩
      · unfold cmd6
        rw [if_neg (show ¬ nI 9 = (1 : Int32) by decide), if_neg (show ¬ nI 9 = (2 : Int32) by decide), if_neg (show ¬ nI 9 = (3 : Int32) by decide), if_neg (show ¬ nI 9 = (4 : Int32) by decide), if_neg (show ¬ nI 9 = (5 : Int32) by decide), if_neg (show ¬ nI 9 = (6 : Int32) by decide), if_neg (show ¬ nI 9 = (7 : Int32) by decide), if_neg (show ¬ nI 9 = (8 : Int32) by decide), if_pos (show nI 9 = (9 : Int32) from rfl)]
        rw [if_pos (show nI d3 = 0 by rw [e3]; rfl), t_has h (by omega), bdS, decide_eq_true hm, if_neg (show ¬ bI true = 0 by decide), hc1, bvS, ht, bdS, hmin]
        by_cases e : 10 * d4 + d5 < D
        · rw [decide_eq_true e, if_pos (show nI (10 * d4 + d5) < nI (if D < 10 * d4 + d5 + 1 then D else 10 * d4 + d5 + 1) from nI_lt (by split <;> omega) (by split <;> omega))]; rfl
        · rw [decide_eq_false e, if_pos (show D < 10 * d4 + d5 + 1 by omega), if_neg (show ¬ nI (10 * d4 + d5) < nI D from fun z => e ((nI_ltI (by omega) (by omega)).mp z))]; rfl
      · unfold cmd7
        rw [a7b (Or.inr (by omega)) (by omega), bdS, if_pos (show nI 0 = (0 : Int32) from rfl), if_neg (show ¬ nI 9 = (0 : Int32) by decide), u_has h ρ (by omega), bdS, decide_eq_true hm, if_neg (show ¬ bI true = 0 by decide), if_pos (show nI d3 ≤ 0 by rw [e3]; decide), if_neg (show ¬ nI 9 = (6 : Int32) by decide), if_neg (show ¬ nI 9 = (7 : Int32) by decide), if_neg (show ¬ nI 9 = (8 : Int32) by decide), m1, bdS]
        by_cases e : 10 * d4 + d5 < D
        · rw [decide_eq_true e, if_pos (nI_lt e (by omega))]; rfl
        · rw [decide_eq_false e, if_neg (show ¬ nI (10 * d4 + d5) < nI D from fun z => e ((nI_ltI (by omega) (by omega)).mp z))]; rfl
    · refine sucSame h false ?_ (fun ρ => ?_)
      · unfold cmd6
        rw [if_neg (show ¬ nI 9 = (1 : Int32) by decide), if_neg (show ¬ nI 9 = (2 : Int32) by decide), if_neg (show ¬ nI 9 = (3 : Int32) by decide), if_neg (show ¬ nI 9 = (4 : Int32) by decide), if_neg (show ¬ nI 9 = (5 : Int32) by decide), if_neg (show ¬ nI 9 = (6 : Int32) by decide), if_neg (show ¬ nI 9 = (7 : Int32) by decide), if_neg (show ¬ nI 9 = (8 : Int32) by decide), if_pos (show nI 9 = (9 : Int32) from rfl)]
        rw [if_neg (show ¬ nI d3 = 0 from neq0 e3 (by omega))]; rfl
      · unfold cmd7
        rw [a7b (Or.inr (by omega)) (by omega), bdS, if_pos (show nI 0 = (0 : Int32) from rfl), if_neg (show ¬ nI 9 = (0 : Int32) by decide), u_has h ρ (by omega), bdS, decide_eq_true hm, if_neg (show ¬ bI true = 0 by decide), if_neg (nle0 (show 0 < d3 by omega) (by omega))]
        rfl
  · refine sucSame h false ?_ (fun ρ => ?_)
    · unfold cmd6
      rw [if_neg (show ¬ nI 9 = (1 : Int32) by decide), if_neg (show ¬ nI 9 = (2 : Int32) by decide), if_neg (show ¬ nI 9 = (3 : Int32) by decide), if_neg (show ¬ nI 9 = (4 : Int32) by decide), if_neg (show ¬ nI 9 = (5 : Int32) by decide), if_neg (show ¬ nI 9 = (6 : Int32) by decide), if_neg (show ¬ nI 9 = (7 : Int32) by decide), if_neg (show ¬ nI 9 = (8 : Int32) by decide), if_pos (show nI 9 = (9 : Int32) from rfl)]
      rw [t_has h (by omega), bdS, decide_eq_false hm, if_pos (show bI false = 0 from rfl), ite_self]; rfl
    · unfold cmd7
      rw [a7b (Or.inr (by omega)) (by omega), bdS, if_pos (show nI 0 = (0 : Int32) from rfl), if_neg (show ¬ nI 9 = (0 : Int32) by decide), u_has h ρ (by omega), bdS, decide_eq_false hm, if_pos (show bI false = 0 from rfl)]
      rfl
end CMD3
