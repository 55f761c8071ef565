/-! CALLS THAT CHANGE THE PRESENT: give, forgive, send, pass -/
section ACTS3
variable {q : QS} {c : Mem} {T B : Nat} {σ : Mem}
theorem g_give (a b : Int32) : Good (cf2 2 1) (f6_give a b) (f7_give a b) := by
  intro σ B h hB
  obtain ⟨T, hT, hp⟩ := h.1
  have hM := hp.2.1.sz.M
  have hS := hp.2.1.sz.S
  obtain ⟨f0, hE0⟩ := hp.1
  rcases isS_or hp a with ⟨s, hs, rfl⟩ | hno
  · rcases isM_or hp b with ⟨m, hm, rfl⟩ | hno
    · have hm6 : m < 6 := by omega
      have e40 : σ 40 (6 * 0 + m) 0 = bI (bkQ (σ 20 0) m) := hE0.bk hm6
      cases hbk : bkQ (σ 20 0) m with
      | false =>
        rw [hbk] at e40
        obtain ⟨σa, s1, s2, s3, s4⟩ := pushed h hp
        obtain ⟨f, hE⟩ := s2.1
        obtain ⟨τ, t1, t2, t3⟩ := s4 _ _ T (s2.give hs hm) (by omega)
        refine ⟨.inr (σ 20 0 (11 + s)), wc σa 0 (ms (cOf σa 0) 4 0 s (nI m)), σ 20 0 (11 + s), _, ?_, ?_, t2, t3, rfl⟩
        · unfold f6_give
          simp only [lit, nmS]
          rw [p_yesS hp hs, bxR, p_yes hp hm, bxR, gd_ib hm6 (by decide), clI (show m < 2 ^ 31 by omega), e40, if_pos (show bI false = nI 0 by decide), s1, bvS, gd_ib (show s < 16 by omega) (by decide), gd_ib (show s < 16 by omega) (by decide), clI (show s < 2 ^ 31 by omega)]
          rw [← hE.own hs (by omega), ← wc_sb σa _ (by decide), wc_self]
          rfl
        · unfold f7_give
          simp only [lit, nmS]
          rw [← e62, s3, m_yesS _ hp hs, bdS, if_neg (show ¬ nI 1 = nI 0 by decide), m_yes _ hp hm, bdS, if_neg (show ¬ nI 1 = nI 0 by decide), f7_isBankrupt_s, bdS, hbk, if_pos (show bI false = nI 0 by decide), t1, bvS, nI_add, m_puts _ _ (by omega), bdS]
      | true =>
        rw [hbk] at e40
        refine refuse h (e := 1) ?_ (by decide) ?_
        · unfold f6_give
          simp only [lit, nmS]
          rw [p_yesS hp hs, bxR, p_yes hp hm, bxR, gd_ib hm6 (by decide), clI (show m < 2 ^ 31 by omega), e40, if_neg (show ¬ bI true = nI 0 by decide)]
        · unfold f7_give
          simp only [lit, nmS]
          rw [← e62, m_yesS _ hp hs, bdS, if_neg (show ¬ nI 1 = nI 0 by decide), m_yes _ hp hm, bdS, if_neg (show ¬ nI 1 = nI 0 by decide), f7_isBankrupt_s, bdS, hbk, if_neg (show ¬ bI true = nI 0 by decide), m_fails, bdS]
          rfl
    · refine refuse h (e := 2) ?_ (by decide) ?_
      · unfold f6_give
        rw [p_yesS hp hs, bxR, p_no hp hno, bxL]
      · unfold f7_give
        simp only [lit, nmS]
        rw [← e62, m_yesS _ hp hs, bdS, if_neg (show ¬ nI 1 = nI 0 by decide), m_no _ hp hno, bdS, if_pos rfl, m_fails, bdS]
        rfl
  · refine refuse h (e := 2) ?_ (by decide) ?_
    · unfold f6_give
      rw [p_noS hp hno, bxL]
    · unfold f7_give
      simp only [lit, nmS]
      rw [← e62, m_noS _ hp hno, bdS, if_pos rfl, m_fails, bdS]
      rfl
theorem g_forgive (a b : Int32) : Good (cf1 2) (f6_forgive a b) (f7_forgive a b) := by
  intro σ B h hB
  obtain ⟨T, hT, hp⟩ := h.1
  have hM := hp.2.1.sz.M
  rcases isM_or hp a with ⟨m, hm, rfl⟩ | hno
  · rcases isM_or hp b with ⟨k, hk, rfl⟩ | hno
    · have hm6 : m < 6 := by omega
      have hk6 : k < 6 := by omega
      obtain ⟨σa, s1, s2, s3, s4⟩ := pushed h hp
      obtain ⟨f, hE⟩ := s2.1
      obtain ⟨τ, t1, t2, t3⟩ := s4 _ _ T (s2.forgive hm hk) (by omega)
      refine ⟨.inr (owQ (σ 20 0) m k), wc σa 0 (ms (cOf σa 0) 8 m k (nI 0)), owQ (σ 20 0) m k, _, ?_, ?_, t2, t3, rfl⟩
      · unfold f6_forgive
        simp only [lit, nmS]
        rw [p_yes hp hm, bxR, p_yes hp hk, bxR, s1, bvS, gd_ib hm6 (by decide), gd_ib hk6 (by decide), gd_ib hm6 (by decide), gd_ib hk6 (by decide), clI (show m < 2 ^ 31 by omega), clI (show k < 2 ^ 31 by omega)]
        rw [← hE.ow hm6 hk6, ← wc_sm σa _ (by decide) (by decide) hm6, wc_self]
        rfl
      · unfold f7_forgive
        simp only [lit, nmS]
        rw [← e62, s3, m_yes _ hp hm, bdS, if_neg (show ¬ nI 1 = nI 0 by decide), m_yes _ hp hk, bdS, if_neg (show ¬ nI 1 = nI 0 by decide), t1, bvS, pk_mul, nI_add, nI_add, m_puts _ _ (by omega), bdS]
        rfl
    · refine refuse h (e := 2) ?_ (by decide) ?_
      · unfold f6_forgive
        rw [p_yes hp hm, bxR, p_no hp hno, bxL]
      · unfold f7_forgive
        simp only [lit, nmS]
        rw [← e62, m_yes _ hp hm, bdS, if_neg (show ¬ nI 1 = nI 0 by decide), m_no _ hp hno, bdS, if_pos rfl, m_fails, bdS]
        rfl
  · refine refuse h (e := 2) ?_ (by decide) ?_
    · unfold f6_forgive
      rw [p_no hp hno, bxL]
    · unfold f7_forgive
      simp only [lit, nmS]
      rw [← e62, m_no _ hp hno, bdS, if_pos rfl, m_fails, bdS]
      rfl
def cf3 : Nat → Nat := fun e => if e = 2 then 1 else if e = 0 then 2 else if e = 1 then 3 else 0
set_option maxHeartbeats 1000000 in
theorem g_send (a b d v : Int32) (hv : v = 0 ∨ v = 1) : Good cf3 (f6_send a b d v) (f7_send a b d v) := by
  intro σ B h hB
  obtain ⟨T, hT, hp⟩ := h.1
  have hM := hp.2.1.sz.M
  obtain ⟨f0, hE0⟩ := hp.1
  rcases isM_or hp a with ⟨m, hm, rfl⟩ | hno
  · have hm6 : m < 6 := by omega
    rcases rng_or b (l := 0) (u := 3) (by omega) (by decide) with ⟨s, -, hs, rfl⟩ | hno
    · have hs4 : s < 4 := by omega
      have hv6 : f6_needSlave (nI s) σ = some (.inr (), σ) := by
        unfold f6_needSlave
        simp only [lit]
        rw [if_neg (show ¬ nI s < nI 0 from nI_pos (by omega)), if_pos (nI_lt hs4 (by decide))]
      have hv7 : ∀ ρ, f7_isSlave (nI s) ρ = some (nI 1, ρ) := fun ρ => by
        rw [m_isV, show (decide (0 ≤ nI s) && decide (nI s ≤ 3)) = true from rng_in (l := 0) (u := 3) (by omega) hs (by decide)]; rfl
      rcases rng_or d (l := 1) (u := 8) (by omega) (by decide) with ⟨w, hw, hw2, rfl⟩ | hno
      · have htk := c_takes σ 0 hE0 hp.2.1.sz hm6
        rw [wc_self] at htk
        have hcn := fun τ => m_can τ hp.2.1.sz (m := m) hm6
        have h1 : ¬ nI w < nI 1 := fun z => by
          have := (nI_ltI (by omega) (by omega)).mp z
          omega
        cases hc : (!bkQ (σ 20 0) m && decide (nB (σ 20 0) m < 6)) with
        | true =>
          rw [hc] at htk hcn
          have hB6 : nB (σ 20 0) m < 6 := by
            rw [Bool.and_eq_true] at hc
            exact of_decide_eq_true hc.2
          obtain ⟨σa, s1, s2, s3, s4⟩ := pushed h hp
          obtain ⟨c', j1, j2, j3⟩ := c_addB σa 0 s2 hm hB6 hs4 hw hw2 hv
          rw [wc_self] at j1
          obtain ⟨τ, t1, t2, t3⟩ := s4 _ _ T j2 (by omega)
          refine ⟨.inr (nI (nB (σ 20 0) m + 1)), wc σa 0 c', nI (nB (σ 20 0) m + 1), _, ?_, ?_, t2, t3, rfl⟩
          · unfold f6_send
            simp only [lit]
            rw [p_yes hp hm, bxR, hv6, bxR, if_neg h1, if_pos (nI_le hw2 (by decide)), gd_ib hm6 (by decide), clI (show m < 2 ^ 31 by omega), htk, bdS, if_neg (show ¬ bI true = nI 0 by decide), s1, bvS, j1, bvS, wc_m _ _ (by decide) (by decide) hm6, j3]
          · unfold f7_send
            simp only [lit, nmS]
            rw [← e62, s3, m_yes _ hp hm, bdS, if_neg (show ¬ nI 1 = nI 0 by decide), hv7, bdS, if_neg (show ¬ nI 1 = nI 0 by decide), m_in (nI w) (nI 1) (nI 8) (by decide) (by decide), bdS, rng_in hw hw2 (by decide), if_neg (show ¬ bI true = nI 0 by decide), hcn, bdS, if_neg (show ¬ bI true = nI 0 by decide), t1, bvS, m_sends _ hp.2.1.sz hm6 hB6, bdS, m_sends _ hp.2.1.sz hm6 hB6, bdS]
            rcases hv with z | z
            · rw [z, if_pos (show (0 : Int32) = nI 0 from rfl)]; rfl
            · rw [z, if_neg (show ¬ (1 : Int32) = nI 0 by decide)]; rfl
        | false =>
          rw [hc] at htk hcn
          refine refuse h (e := 1) ?_ (by decide) ?_
          · unfold f6_send
            simp only [lit]
            rw [p_yes hp hm, bxR, hv6, bxR, if_neg h1, if_pos (nI_le hw2 (by decide)), gd_ib hm6 (by decide), clI (show m < 2 ^ 31 by omega), htk, bdS, if_pos (show bI false = nI 0 by decide)]
          · unfold f7_send
            simp only [lit, nmS]
            rw [← e62, m_yes _ hp hm, bdS, if_neg (show ¬ nI 1 = nI 0 by decide), hv7, bdS, if_neg (show ¬ nI 1 = nI 0 by decide), m_in (nI w) (nI 1) (nI 8) (by decide) (by decide), bdS, rng_in hw hw2 (by decide), if_neg (show ¬ bI true = nI 0 by decide), hcn, bdS, if_pos (show bI false = nI 0 by decide), m_fails, bdS]
            rfl
      · refine refuse h (e := 0) ?_ (by decide) ?_
        · unfold f6_send
          simp only [lit]
          rw [p_yes hp hm, bxR, hv6, bxR]
          by_cases e1 : d < nI 1
          · rw [if_pos e1]
          · rw [if_neg e1, if_neg (not_le_lt.mpr ((rng_no hno).resolve_left e1))]
        · unfold f7_send
          simp only [lit, nmS]
          rw [← e62, m_yes _ hp hm, bdS, if_neg (show ¬ nI 1 = nI 0 by decide), hv7, bdS, if_neg (show ¬ nI 1 = nI 0 by decide), m_in d (nI 1) (nI 8) (by decide) (by decide), bdS, hno, if_pos (show bI false = nI 0 by decide), m_fails, bdS]
          rfl
    · refine refuse h (e := 2) ?_ (by decide) ?_
      · unfold f6_send f6_needSlave
        simp only [lit]
        rw [p_yes hp hm, bxR]
        by_cases e1 : b < nI 0
        · rw [if_pos e1, bxL]
        · have e2 := (rng_no hno).resolve_left e1
          rw [if_neg e1, if_neg (show ¬ b < nI 4 from fun z => by
            have g1 := Int32.lt_iff_toInt_lt.mp e2
            have g2 := Int32.lt_iff_toInt_lt.mp z
            rw [nI_toInt (by decide)] at g1 g2
            omega), bxL]
      · unfold f7_send
        simp only [lit, nmS]
        rw [← e62, m_yes _ hp hm, bdS, if_neg (show ¬ nI 1 = nI 0 by decide), m_isV, bdS, show (decide (0 ≤ b) && decide (b ≤ 3)) = false from hno, if_pos (show bI false = nI 0 by decide), m_fails, bdS]
        rfl
  · refine refuse h (e := 2) ?_ (by decide) ?_
    · unfold f6_send
      rw [p_no hp hno, bxL]
    · unfold f7_send
      simp only [lit, nmS]
      rw [← e62, m_no _ hp hno, bdS, if_pos rfl, m_fails, bdS]
      rfl
theorem g_pass (a : Int32) : Good (cf1 0) (f6_pass a) (f7_pass a) := by
  intro σ B h hB
  obtain ⟨T, hT, hp⟩ := h.1
  rcases rng_or a (l := 1) (u := 99) (by omega) (by decide) with ⟨n, hn, hn2, rfl⟩ | hno
  · obtain ⟨σa, s1, s2, s3, s4⟩ := pushed h hp
    obtain ⟨f, hE⟩ := s2.1
    obtain ⟨c', j1, j2⟩ := s2.steps (n := n) (by omega) (by omega) σa 0
    rw [wc_self] at j1
    obtain ⟨f2, hE2⟩ := j2.1
    obtain ⟨τ, t1, t2, t3⟩ := s4 _ _ (T + n) j2 (by omega)
    have hid := tkN_idle hp.2.1 hp.2.2 n (by omega)
    refine ⟨.inr (nI (wkN (σ 20 0) n)), wc σa 0 c', nI (wkN (σ 20 0) n), _, ?_, ?_, t2, t3, rfl⟩
    · unfold f6_pass
      simp only [lit, nmS]
      have e33 : σa 33 0 0 = σ 20 0 3 := hE.tx
      rw [if_neg (show ¬ nI n < nI 1 from fun z => by
        have := (nI_ltI (by omega) (by omega)).mp z
        omega), if_pos (nI_le hn2 (by decide)), s1, bvS, j1, bvS, wc_b _ _ (by decide), hE2.tx, e33, hid.2, Int32.add_comm (σ 20 0 3), Int32.add_sub_cancel, pk_sub (by omega), show n - (n - wkN (σ 20 0) n) = wkN (σ 20 0) n by omega]
    · unfold f7_pass
      simp only [lit, nmS]
      rw [m_in (nI n) (nI 1) (nI 99) (by decide) (by decide), bdS, rng_in hn hn2 (by decide), if_neg (show ¬ bI true = nI 0 by decide), ← e62, s3, t1, bvS, m_passes _ hp.2.1 hp.2.2 (by omega) (by omega), bdS]
  · refine refuse h (e := 0) ?_ (by decide) ?_
    · unfold f6_pass
      simp only [lit]
      by_cases e1 : a < nI 1
      · rw [if_pos e1]
      · rw [if_neg e1, if_neg (not_le_lt.mpr ((rng_no hno).resolve_left e1))]
    · unfold f7_pass
      simp only [lit, nmS]
      rw [m_in a (nI 1) (nI 99) (by decide) (by decide), bdS, hno, if_pos (show bI false = nI 0 by decide), ← e62, m_fails, bdS]
      rfl
end ACTS3
