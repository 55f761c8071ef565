/-! THE COMMANDS that act: send, give, forgive -/
section CMD4
variable {r : QS} {T : Nat} {σ : Mem} {d2 d3 d4 d5 : Nat}
theorem x10 (a b : Nat) : 10 * nI a + nI b = nI (10 * a + b) := by
  rw [show (10 : Int32) = nI 10 from rfl, pk_mul, nI_add]
/-! forgive -/
theorem rf_no (h : Bus r (cOf σ 15) T) {m k : Nat} (hm : m < 10) (hk : k < 10) (e : ¬ (m < nM r ∧ k < nM r)) : f6_runsForgive (nI m) (nI k) σ = some (0, σ) := by
  unfold f6_runsForgive
  rw [t_has h (by omega), bdS]
  by_cases e1 : m < nM r
  · rw [decide_eq_true e1, if_neg (show ¬ bI true = 0 by decide), t_has h (by omega), bdS, decide_eq_false (show ¬ k < nM r from fun z => e ⟨e1, z⟩), if_pos (show bI false = 0 from rfl)]
  · rw [decide_eq_false e1, if_pos (show bI false = 0 from rfl)]
theorem rf_yes (h : Bus r (cOf σ 15) T) {m k : Nat} (hm : m < nM r) (hk : k < nM r) : f6_runsForgive (nI m) (nI k) σ = some (1, wc σ 15 (ms (cOf σ 15) 8 m k (nI 0))) := by
  have hM := h.2.1.sz.M
  unfold f6_runsForgive
  rw [t_has h (by omega), bdS, decide_eq_true hm, if_neg (show ¬ bI true = 0 by decide), t_has h (by omega), bdS, decide_eq_true hk, if_neg (show ¬ bI true = 0 by decide), gd_ib (show m < 6 by omega) (by decide), gd_ib (show k < 6 by omega) (by decide), nmS, clI (by omega), clI (by omega), ← wc_sm σ _ (by decide) (by decide) (show m < 6 by omega), wc_self]
  rfl
set_option maxHeartbeats 1000000 in
theorem suc_4 (h : Bus r (cOf σ 15) T) (hT : T + 1000 < 2 ^ 27) (h2 : d2 < 10) (h3 : d3 < 10) (h4 : d4 < 10) (h5 : d5 < 10) : SucR r T σ (cmd6 (nI 4) (nI d2) (nI d3) (nI d4) (nI d5) (nI (10 * d4 + d5))) (cmd7 (nI 4) (nI d2) (nI d3) (nI (10 * d4 + d5))) := by
  have hM := h.2.1.sz.M
  by_cases e : d2 < nM r ∧ d3 < nM r
  · by_cases ex : 10 * d4 + d5 = 0
    · refine sucCh (r' := qs r (27 + 6 * d2 + d3) (nI 0)) (T' := T) ?_ (fun ρ => ?_) (h.forgive e.1 e.2) (by omega)
      · unfold cmd6
        rw [if_neg (show ¬ nI 4 = (1 : Int32) by decide), if_neg (show ¬ nI 4 = (2 : Int32) by decide), if_neg (show ¬ nI 4 = (3 : Int32) by decide), if_pos (show nI 4 = (4 : Int32) from rfl)]
        rw [nmS, if_pos (show nI (10 * d4 + d5) = 0 by rw [ex]; rfl), rf_yes h e.1 e.2, bdS, if_neg (show ¬ (1 : Int32) = 0 by decide)]
        rfl
      · rw [a7 (by omega) (by omega) _ _ h4 h5]
        unfold f7_acts
        rw [nmS, if_neg (show ¬ nI 4 = (1 : Int32) by decide), if_neg (show ¬ nI 4 = (2 : Int32) by decide), if_neg (show ¬ nI 4 = (3 : Int32) by decide), if_pos (show nI 4 = (4 : Int32) from rfl), u_has h ρ (by omega), bdS, decide_eq_true e.1, if_neg (show ¬ bI true = 0 by decide), u_has h ρ (by omega), bdS, decide_eq_true e.2, if_neg (show ¬ bI true = 0 by decide), x10, if_pos (show nI (10 * d4 + d5) ≤ 0 by rw [ex]; decide), show 27 + 6 * nI d2 + nI d3 = nI (27 + 6 * d2 + d3) by rw [show (6 : Int32) = nI 6 from rfl, show (27 : Int32) = nI 27 from rfl, pk_mul, nI_add, nI_add], gd_ib (by omega) (by decide), clI (by omega), nmS, wq_set]
        exact bdz true _
    · refine sucSame h false ?_ (fun ρ => ?_)
      · unfold cmd6
        rw [if_neg (show ¬ nI 4 = (1 : Int32) by decide), if_neg (show ¬ nI 4 = (2 : Int32) by decide), if_neg (show ¬ nI 4 = (3 : Int32) by decide), if_pos (show nI 4 = (4 : Int32) from rfl)]
        rw [nmS, if_neg (neq0 ex (by omega))]; rfl
      · rw [a7 (by omega) (by omega) _ _ h4 h5]
        unfold f7_acts
        rw [nmS, if_neg (show ¬ nI 4 = (1 : Int32) by decide), if_neg (show ¬ nI 4 = (2 : Int32) by decide), if_neg (show ¬ nI 4 = (3 : Int32) by decide), if_pos (show nI 4 = (4 : Int32) from rfl), u_has h ρ (by omega), bdS, decide_eq_true e.1, if_neg (show ¬ bI true = 0 by decide), u_has h ρ (by omega), bdS, decide_eq_true e.2, if_neg (show ¬ bI true = 0 by decide), x10, if_neg (nle0 (show 0 < 10 * d4 + d5 by omega) (by omega))]
        exact bdz false _
  · refine sucSame h false ?_ (fun ρ => ?_)
    · unfold cmd6
      rw [if_neg (show ¬ nI 4 = (1 : Int32) by decide), if_neg (show ¬ nI 4 = (2 : Int32) by decide), if_neg (show ¬ nI 4 = (3 : Int32) by decide), if_pos (show nI 4 = (4 : Int32) from rfl)]
      rw [nmS, rf_no h h2 h3 e, bdS, if_pos (show (0 : Int32) = 0 from rfl), ite_self]; rfl
    · rw [a7 (by omega) (by omega) _ _ h4 h5]
      unfold f7_acts
      rw [nmS, if_neg (show ¬ nI 4 = (1 : Int32) by decide), if_neg (show ¬ nI 4 = (2 : Int32) by decide), if_neg (show ¬ nI 4 = (3 : Int32) by decide), if_pos (show nI 4 = (4 : Int32) from rfl), u_has h ρ (by omega), bdS]
      by_cases e1 : d2 < nM r
      · rw [decide_eq_true e1, if_neg (show ¬ bI true = 0 by decide), u_has h ρ (by omega), bdS, decide_eq_false (show ¬ d3 < nM r from fun z => e ⟨e1, z⟩), if_pos (show bI false = 0 from rfl)]
        exact bdz false _
      · rw [decide_eq_false e1, if_pos (show bI false = 0 from rfl)]
        exact bdz false _
/-! give -/
theorem rg_no (h : Bus r (cOf σ 15) T) {s m : Nat} (hs : s < 100) (hm : m < 10) (e : ¬ (s < nS r ∧ m < nM r ∧ bkQ r m = false)) : f6_runsGive (nI s) (nI m) σ = some (0, σ) := by
  obtain ⟨f, hE⟩ := h.1
  have hM := h.2.1.sz.M
  unfold f6_runsGive
  rw [t_hasS h (by omega), bdS]
  by_cases e1 : s < nS r
  · rw [decide_eq_true e1, if_neg (show ¬ bI true = 0 by decide), t_has h (by omega), bdS]
    by_cases e2 : m < nM r
    · have e40 : σ 40 (6 * 15 + m) 0 = bI (bkQ r m) := hE.bk (by omega)
      rw [decide_eq_true e2, if_neg (show ¬ bI true = 0 by decide), gd_ib (show m < 6 by omega) (by decide), clI (show m < 2 ^ 31 by omega), e40]
      cases hb : bkQ r m with
      | false => exact absurd ⟨e1, e2, hb⟩ e
      | true => rw [if_neg (show ¬ bI true = 0 by decide)]
    · rw [decide_eq_false e2, if_pos (show bI false = 0 from rfl)]
  · rw [decide_eq_false e1, if_pos (show bI false = 0 from rfl)]
theorem rg_yes (h : Bus r (cOf σ 15) T) {s m : Nat} (hs : s < nS r) (hm : m < nM r) (hb : bkQ r m = false) : f6_runsGive (nI s) (nI m) σ = some (1, wc σ 15 (ms (cOf σ 15) 4 0 s (nI m))) := by
  obtain ⟨f, hE⟩ := h.1
  have hM := h.2.1.sz.M
  have hS := h.2.1.sz.S
  have e40 : σ 40 (6 * 15 + m) 0 = bI (bkQ r m) := hE.bk (by omega)
  unfold f6_runsGive
  rw [t_hasS h (by omega), bdS, decide_eq_true hs, if_neg (show ¬ bI true = 0 by decide), t_has h (by omega), bdS, decide_eq_true hm, if_neg (show ¬ bI true = 0 by decide), gd_ib (show m < 6 by omega) (by decide), clI (show m < 2 ^ 31 by omega), e40, hb, if_pos (show bI false = 0 from rfl), gd_ib (show s < 16 by omega) (by decide), nmS, clI (by omega), ← wc_sb σ _ (by decide), wc_self]
set_option maxHeartbeats 1000000 in
theorem suc_3 (h : Bus r (cOf σ 15) T) (hT : T + 1000 < 2 ^ 27) (h2 : d2 < 10) (h3 : d3 < 10) (h4 : d4 < 10) (h5 : d5 < 10) : SucR r T σ (cmd6 (nI 3) (nI d2) (nI d3) (nI d4) (nI d5) (nI (10 * d4 + d5))) (cmd7 (nI 3) (nI d2) (nI d3) (nI (10 * d4 + d5))) := by
  have hM := h.2.1.sz.M
  have hS := h.2.1.sz.S
  by_cases e : 10 * d2 + d3 < nS r ∧ d4 < nM r ∧ bkQ r d4 = false
  · by_cases ex : d5 = 0
    · refine sucCh (r' := qs r (11 + (10 * d2 + d3)) (nI d4)) (T' := T) ?_ (fun ρ => ?_) (h.give e.1 e.2.1) (by omega)
      · unfold cmd6
        rw [if_neg (show ¬ nI 3 = (1 : Int32) by decide), if_neg (show ¬ nI 3 = (2 : Int32) by decide), if_pos (show nI 3 = (3 : Int32) from rfl)]
        rw [nmS, if_pos (show nI d5 = 0 by rw [ex]; rfl), x10, rg_yes h e.1 e.2.1 e.2.2, bdS, if_neg (show ¬ (1 : Int32) = 0 by decide)]
        rfl
      · rw [a7 (by omega) (by omega) _ _ h4 h5]
        unfold f7_acts
        rw [nmS, if_neg (show ¬ nI 3 = (1 : Int32) by decide), if_neg (show ¬ nI 3 = (2 : Int32) by decide), if_pos (show nI 3 = (3 : Int32) from rfl), x10, u_hasS h ρ (by omega), bdS, decide_eq_true e.1, if_neg (show ¬ bI true = 0 by decide), u_has h ρ (by omega), bdS, decide_eq_true e.2.1, if_neg (show ¬ bI true = 0 by decide), f7_isBankrupt_s, bdS, e.2.2, if_pos (show bI false = 0 from rfl), if_pos (show nI d5 ≤ 0 by rw [ex]; decide), show 11 + 10 * nI d2 + nI d3 = nI (11 + (10 * d2 + d3)) by rw [show (10 : Int32) = nI 10 from rfl, show (11 : Int32) = nI 11 from rfl, pk_mul, nI_add, nI_add, show 11 + 10 * d2 + d3 = 11 + (10 * d2 + d3) by omega], gd_ib (by omega) (by decide), clI (by omega), nmS, wq_set]
        exact bdz true _
    · refine sucSame h false ?_ (fun ρ => ?_)
      · unfold cmd6
        rw [if_neg (show ¬ nI 3 = (1 : Int32) by decide), if_neg (show ¬ nI 3 = (2 : Int32) by decide), if_pos (show nI 3 = (3 : Int32) from rfl)]
        rw [nmS, if_neg (neq0 ex (by omega))]; rfl
      · rw [a7 (by omega) (by omega) _ _ h4 h5]
        unfold f7_acts
        rw [nmS, if_neg (show ¬ nI 3 = (1 : Int32) by decide), if_neg (show ¬ nI 3 = (2 : Int32) by decide), if_pos (show nI 3 = (3 : Int32) from rfl), x10, u_hasS h ρ (by omega), bdS, decide_eq_true e.1, if_neg (show ¬ bI true = 0 by decide), u_has h ρ (by omega), bdS, decide_eq_true e.2.1, if_neg (show ¬ bI true = 0 by decide), f7_isBankrupt_s, bdS, e.2.2, if_pos (show bI false = 0 from rfl), if_neg (nle0 (show 0 < d5 by omega) (by omega))]
        exact bdz false _
  · refine sucSame h false ?_ (fun ρ => ?_)
    · unfold cmd6
      rw [if_neg (show ¬ nI 3 = (1 : Int32) by decide), if_neg (show ¬ nI 3 = (2 : Int32) by decide), if_pos (show nI 3 = (3 : Int32) from rfl)]
      rw [nmS, x10, rg_no h (by omega) h4 e, bdS, if_pos (show (0 : Int32) = 0 from rfl), ite_self]; rfl
    · rw [a7 (by omega) (by omega) _ _ h4 h5]
      unfold f7_acts
      rw [nmS, if_neg (show ¬ nI 3 = (1 : Int32) by decide), if_neg (show ¬ nI 3 = (2 : Int32) by decide), if_pos (show nI 3 = (3 : Int32) from rfl), x10, u_hasS h ρ (by omega), bdS]
      by_cases e1 : 10 * d2 + d3 < nS r
      · rw [decide_eq_true e1, if_neg (show ¬ bI true = 0 by decide), u_has h ρ (by omega), bdS]
        by_cases e2 : d4 < nM r
        · rw [decide_eq_true e2, if_neg (show ¬ bI true = 0 by decide), f7_isBankrupt_s, bdS]
          cases hb : bkQ r d4 with
          | false => exact absurd ⟨e1, e2, hb⟩ e
          | true =>
            rw [if_neg (show ¬ bI true = 0 by decide)]
            exact bdz false _
        · rw [decide_eq_false e2, if_pos (show bI false = 0 from rfl)]
          exact bdz false _
      · rw [decide_eq_false e1, if_pos (show bI false = 0 from rfl)]
        exact bdz false _
/-! send -/
theorem rs_no (h : Bus r (cOf σ 15) T) {m s w : Nat} (hm : m < 10) (hs : s < 10) (hw : w < 10) (v : Int32) (e : ¬ (m < nM r ∧ s < 4 ∧ (1 ≤ w ∧ w ≤ 8) ∧ (!bkQ r m && decide (nB r m < 6)) = true)) : f6_runsSend (nI m) (nI s) (nI w) v σ = some (0, σ) := by
  obtain ⟨f, hE⟩ := h.1
  have hM := h.2.1.sz.M
  unfold f6_runsSend
  rw [t_has h (by omega), bdS]
  by_cases e1 : m < nM r
  · rw [decide_eq_true e1, if_neg (show ¬ bI true = 0 by decide)]
    by_cases e2 : s < 4
    · rw [if_neg (show ¬ (4 : Int32) ≤ nI s from nI_ge (b := 4) e2 (by decide))]
      by_cases e3 : 1 ≤ w
      · rw [if_neg (show ¬ nI w < 1 from fun z => by
          have := (nI_ltI (b := 1) (by omega) (by omega)).mp z
          omega)]
        by_cases e4 : w ≤ 8
        · have htk := c_takes σ 15 hE h.2.1.sz (m := m) (by omega)
          rw [wc_self] at htk
          rw [if_neg (show ¬ 8 < nI w from fun z => by
            have := (nI_ltI (a := 8) (by omega) (by omega)).mp z
            omega), gd_ib (show m < 6 by omega) (by decide), clI (show m < 2 ^ 31 by omega), htk, bdS]
          cases hb : (!bkQ r m && decide (nB r m < 6)) with
          | true => exact absurd ⟨e1, e2, ⟨e3, e4⟩, hb⟩ e
          | false => rw [if_pos (show bI false = 0 from rfl)]
        · rw [if_pos (show 8 < nI w from nI_lt (a := 8) (by omega) (by omega))]
      · rw [if_pos (show nI w < 1 from nI_lt (b := 1) (by omega) (by omega))]
    · rw [if_pos (show (4 : Int32) ≤ nI s from nI_le (a := 4) (by omega) (by omega))]
  · rw [decide_eq_false e1, if_pos (show bI false = 0 from rfl)]
set_option maxHeartbeats 1000000 in
theorem suc_2 (h : Bus r (cOf σ 15) T) (hT : T + 1000 < 2 ^ 27) (h2 : d2 < 10) (h3 : d3 < 10) (h4 : d4 < 10) (h5 : d5 < 10) : SucR r T σ (cmd6 (nI 2) (nI d2) (nI d3) (nI d4) (nI d5) (nI (10 * d4 + d5))) (cmd7 (nI 2) (nI d2) (nI d3) (nI (10 * d4 + d5))) := by
  obtain ⟨f, hE⟩ := h.1
  have hM := h.2.1.sz.M
  by_cases e : d2 < nM r ∧ d3 < 4 ∧ (1 ≤ d4 ∧ d4 ≤ 8) ∧ (!bkQ r d2 && decide (nB r d2 < 6)) = true
  · obtain ⟨e1, e2, ⟨e3, e4⟩, e6⟩ := e
    have hm6 : d2 < 6 := by omega
    have hB6 : nB r d2 < 6 := by
      have e6' := e6
      rw [Bool.and_eq_true] at e6'
      exact of_decide_eq_true e6'.2
    have htk := c_takes σ 15 hE h.2.1.sz hm6
    rw [wc_self, e6] at htk
    have hcn : ∀ ρ, f7_canSend (nI d2) (wq ρ r) = some (bI true, wq ρ r) := fun ρ => by rw [m_can ρ h.2.1.sz hm6, e6]
    have hV : ∀ ρ, f7_isSlave (nI d3) ρ = some (nI 1, ρ) := fun ρ => by
      rw [m_isV, show (decide (0 ≤ nI d3) && decide (nI d3 ≤ 3)) = true from rng_in (l := 0) (u := 3) (by omega) (by omega) (by decide)]; rfl
    have hW : ∀ ρ, f7_in (nI d4).toInt64 (1 : Int64) (8 : Int64) ρ = some (bI true, ρ) := fun ρ => by
      rw [m_in (nI d4) (nI 1) (nI 8) (by decide) (by decide), rng_in e3 e4 (by decide)]
    by_cases ex : d5 ≤ 1
    · have hv : nI d5 = 0 ∨ nI d5 = 1 := by
        have : d5 = 0 ∨ d5 = 1 := by omega
        rcases this with rfl | rfl
        · exact Or.inl rfl
        · exact Or.inr rfl
      obtain ⟨c', j1, j2, j3⟩ := c_addB σ 15 h e1 hB6 e2 e3 e4 hv
      rw [wc_self] at j1
      have hrs : f6_runsSend (nI d2) (nI d3) (nI d4) (nI d5) σ = some (1, wc σ 15 c') := by
        unfold f6_runsSend
        rw [t_has h (by omega), bdS, decide_eq_true e1, if_neg (show ¬ bI true = 0 by decide), if_neg (show ¬ (4 : Int32) ≤ nI d3 from nI_ge (b := 4) e2 (by decide)), if_neg (show ¬ nI d4 < 1 from fun z => by
          have := (nI_ltI (b := 1) (by omega) (by omega)).mp z
          omega), if_neg (show ¬ 8 < nI d4 from fun z => by
          have := (nI_ltI (a := 8) (by omega) (by omega)).mp z
          omega), gd_ib hm6 (by decide), clI (show d2 < 2 ^ 31 by omega), htk, bdS, if_neg (show ¬ bI true = 0 by decide), gd_ib hm6 (by decide), j1, bvS]
      refine sucCh (T' := T) ?_ (fun ρ => ?_) j2 (by omega)
      · unfold cmd6
        rw [if_neg (show ¬ nI 2 = (1 : Int32) by decide), if_pos (show nI 2 = (2 : Int32) from rfl)]
        rw [nmS, if_neg (show ¬ (1 : Int32) < nI d5 from fun z => by
          have := (nI_ltI (a := 1) (by omega) (by omega)).mp z
          omega), nmS]
        rcases hv with z | z
        · rw [z] at hrs ⊢
          rw [if_neg (show ¬ (0 : Int32) = 1 by decide)]; dsimp only; rw [hrs, bdS, if_neg (show ¬ (1 : Int32) = 0 by decide)]; rfl
        · rw [z] at hrs ⊢
          rw [if_pos (show (1 : Int32) = 1 from rfl)]; dsimp only; rw [hrs, bdS, if_neg (show ¬ (1 : Int32) = 0 by decide)]; rfl
      · rw [a7 (by omega) (by omega) _ _ h4 h5]
        unfold f7_acts
        rw [nmS, if_neg (show ¬ nI 2 = (1 : Int32) by decide), if_pos (show nI 2 = (2 : Int32) from rfl), u_has h ρ (by omega), bdS, decide_eq_true e1, if_neg (show ¬ bI true = 0 by decide), hV, bdS, if_neg (show ¬ nI 1 = 0 by decide), hW, bdS, if_neg (show ¬ bI true = 0 by decide), if_neg (show ¬ (1 : Int32) < nI d5 from fun z => by
          have := (nI_ltI (a := 1) (by omega) (by omega)).mp z
          omega), hcn, bdS, if_neg (show ¬ bI true = 0 by decide), m_sends ρ h.2.1.sz hm6 hB6, bdS]
        exact bdz true _
    · refine sucSame h false ?_ (fun ρ => ?_)
      · unfold cmd6
        rw [if_neg (show ¬ nI 2 = (1 : Int32) by decide), if_pos (show nI 2 = (2 : Int32) from rfl)]
        rw [nmS, if_pos (show (1 : Int32) < nI d5 from nI_lt (a := 1) (by omega) (by omega))]; rfl
      · rw [a7 (by omega) (by omega) _ _ h4 h5]
        unfold f7_acts
        rw [nmS, if_neg (show ¬ nI 2 = (1 : Int32) by decide), if_pos (show nI 2 = (2 : Int32) from rfl), u_has h ρ (by omega), bdS, decide_eq_true e1, if_neg (show ¬ bI true = 0 by decide), hV, bdS, if_neg (show ¬ nI 1 = 0 by decide), hW, bdS, if_neg (show ¬ bI true = 0 by decide), if_pos (show (1 : Int32) < nI d5 from nI_lt (a := 1) (by omega) (by omega))]
        exact bdz false _
  · refine sucSame h false ?_ (fun ρ => ?_)
    · unfold cmd6
      rw [if_neg (show ¬ nI 2 = (1 : Int32) by decide), if_pos (show nI 2 = (2 : Int32) from rfl)]
      rw [nmS, nmS]
      by_cases ex : (1 : Int32) < nI d5
      · rw [if_pos ex]; rfl
      · rw [if_neg ex]
        by_cases e5 : nI d5 = 1
        · rw [if_pos e5]; dsimp only; rw [rs_no h h2 h3 h4 _ e, bdS, if_pos (show (0 : Int32) = 0 from rfl)]; rfl
        · rw [if_neg e5]; dsimp only; rw [rs_no h h2 h3 h4 _ e, bdS, if_pos (show (0 : Int32) = 0 from rfl)]; rfl
    · rw [a7 (by omega) (by omega) _ _ h4 h5]
      unfold f7_acts
      rw [nmS, if_neg (show ¬ nI 2 = (1 : Int32) by decide), if_pos (show nI 2 = (2 : Int32) from rfl), u_has h ρ (by omega), bdS]
      by_cases e1 : d2 < nM r
      · rw [decide_eq_true e1, if_neg (show ¬ bI true = 0 by decide), show f7_isSlave (nI d3) (wq ρ r) = some (bI (decide (d3 < 4)), wq ρ r) by
          rw [m_isV, decide_eq_true (nI_pos' (by omega)), Bool.true_and, show decide (nI d3 ≤ 3) = decide (d3 < 4) from decide_eq_decide.mpr ((nI_leI (b := 3) (by omega) (by decide)).trans (by omega))], bdS]
        by_cases e2 : d3 < 4
        · rw [decide_eq_true e2, if_neg (show ¬ bI true = 0 by decide), show f7_in (nI d4).toInt64 (1 : Int64) (8 : Int64) (wq ρ r) = some (bI (decide (1 ≤ d4 ∧ d4 ≤ 8)), wq ρ r) by
            rw [m_in (nI d4) (nI 1) (nI 8) (by decide) (by decide), decide_eq_decide.mpr (nI_leI (by omega) (by omega)), decide_eq_decide.mpr (nI_leI (by omega) (by omega)), Bool.decide_and], bdS]
          by_cases e3 : 1 ≤ d4 ∧ d4 ≤ 8
          · rw [decide_eq_true e3, if_neg (show ¬ bI true = 0 by decide)]
            by_cases ex : (1 : Int32) < nI d5
            · rw [if_pos ex]
              exact bdz false _
            · rw [if_neg ex, m_can ρ h.2.1.sz (by omega), bdS]
              cases hb : (!bkQ r d2 && decide (nB r d2 < 6)) with
              | true => exact absurd ⟨e1, e2, e3, hb⟩ e
              | false =>
                rw [if_pos (show bI false = 0 from rfl)]
                exact bdz false _
          · rw [decide_eq_false e3, if_pos (show bI false = 0 from rfl)]
            exact bdz false _
        · rw [decide_eq_false e2, if_pos (show bI false = 0 from rfl)]
          exact bdz false _
      · rw [decide_eq_false e1, if_pos (show bI false = 0 from rfl)]
        exact bdz false _
/-- a command does alike on both sides -/
theorem t_succeeds (h : Bus r (cOf σ 15) T) (hT : T + 1000 < 2 ^ 27) {g : Nat} (hg : g < 100000) : SucR r T σ (f6_succeeds (nI g)) (f7_succeeds (nI g)) := by
  intro ρ
  have hd : g / 10000 < 10 := by omega
  rw [suc6 hg, suc7 hg]
  generalize hk : g / 10000 = k at hd ⊢
  have h2 : g / 1000 % 10 < 10 := by omega
  have h3 : g / 100 % 10 < 10 := by omega
  have h4 : g / 10 % 10 < 10 := by omega
  have h5 : g % 10 < 10 := by omega
  have : k = 0 ∨ k = 1 ∨ k = 2 ∨ k = 3 ∨ k = 4 ∨ k = 5 ∨ k = 6 ∨ k = 7 ∨ k = 8 ∨ k = 9 := by omega
  rcases this with rfl | rfl | rfl | rfl | rfl | rfl | rfl | rfl | rfl | rfl
  · exact suc_0 h hT h2 h3 h4 h5 ρ
  · exact suc_1 h hT h2 h3 h4 h5 ρ
  · exact suc_2 h hT h2 h3 h4 h5 ρ
  · exact suc_3 h hT h2 h3 h4 h5 ρ
  · exact suc_4 h hT h2 h3 h4 h5 ρ
  · exact suc_5 h hT h2 h3 h4 h5 ρ
  · exact suc_6 h hT h2 h3 h4 h5 ρ
  · exact suc_7 h hT h2 h3 h4 h5 ρ
  · exact suc_8 h hT h2 h3 h4 h5 ρ
  · exact suc_9 h hT h2 h3 h4 h5 ρ
end CMD4
