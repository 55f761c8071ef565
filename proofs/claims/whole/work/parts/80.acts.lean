/-! CALLS THAT CHANGE THE PRESENT -/
section ACTS2
variable {q : QS} {c : Mem} {T B : Nat} {σ : Mem}
theorem wq_row (τ : Mem) (q : QS) : wq τ q 20 0 = q := by
  funext i
  exact wq_get τ q i
theorem wq_of {τ : Mem} {q : QS} (h : τ 20 0 = q) : wq τ q = τ := by
  subst h
  exact wq_self τ
theorem e62 (σ : Mem) (v : Int32) : wq (ms σ 62 0 0 v) (σ 20 0) = ms σ 62 0 0 v := wq_of (row62 σ v)
theorem pushed (h : Inv σ B) (hp : Bus (σ 20 0) (cOf σ 0) T) : ∃ σa, f4_remember 0 σ = some σa ∧ Bus (σ 20 0) (cOf σa 0) T ∧ (∀ c', wc σa 0 c' 20 0 = σ 20 0) ∧
    ∀ (c' : Mem) (q' : QS) (T' : Nat), Bus q' c' T' → T' ≤ B + 100 → ∃ τ, f7_remember (wq (ms (wc σa 0 c') 62 0 0 (nI 0)) (σ 20 0)) = some (wq τ (σ 20 0)) ∧ Inv (wq τ q') (B + 100) ∧ wq τ q' 62 0 0 = nI 0 := by
  obtain ⟨σa, h1, h2, h3⟩ := push h
  have hrow : σa 20 0 = σ 20 0 := by
    funext i
    exact h2 20 0 i (by decide) (by decide) (by decide) (by decide)
  refine ⟨σa, h1, ?_, fun c' => (wc_row σa 0 c').trans hrow, fun c' q' T' hb hT' => ?_⟩
  · refine hp.mv0 (fun k i hk => ?_) (fun k o i hk hk2 ho => ?_)
    · have := isB_is hk
      exact h2 k 0 i (by omega) (by omega) (fun z => z.2 rfl) (fun z => by omega)
    · have := isM_is hk2
      exact h2 k _ i (by omega) (by omega) (fun z => by rw [hk] at z; cases z.1) (fun z => by omega)
  · have hk : Keep σa (wq (ms (wc σa 0 c') 62 0 0 (nI 0)) (σ 20 0)) := (keep_wc σa c' (Or.inl rfl)).trans ((keep_ms _ 0 _ (ch_t (by omega) (by omega) 0)).trans (keep_wq _ _))
    obtain ⟨τ, t1, t2, t3⟩ := h3 _ hk (fun j _ => wq_get _ _ j)
    have hτ : wq τ (σ 20 0) = τ := wq_of (by
      funext i
      rw [t2 20 0 i (by decide) (by decide), wq_get])
    refine ⟨τ, by rw [hτ]; exact t1, ⟨⟨T', hT', ?_⟩, t3.keep (keep_wq τ q') (by omega)⟩, ?_⟩
    · rw [wq_row]
      refine (hb.put σa).mv0 (fun k i hk => ?_) (fun k o i hk hk2 ho => ?_)
      · have := isB_is hk
        rw [wq_other _ _ _ (by omega), t2 k _ i (by omega) (by omega), wq_other _ _ _ (by omega), ms_ne _ _ (by omega)]
      · have := isM_is hk2
        rw [wq_other _ _ _ (by omega), t2 k _ i (by omega) (by omega), wq_other _ _ _ (by omega), ms_ne _ _ (by omega)]
    · rw [wq_other _ _ _ (by omega), t2 62 0 0 (by decide) (by decide), wq_other _ _ _ (by omega), ms_eq]
/-- both refuse -/
theorem refuse {cf : Nat → Nat} {F6 : Mem → Option ((Nat ⊕ Int32) × Mem)} {F7 : Mem → Option (Int32 × Mem)} {e : Nat} (h : Inv σ B) (h6 : F6 σ = some (.inl e, σ)) (hc : cf e ≠ 0) (h7 : F7 σ = some (nI 0, wq (ms σ 62 0 0 (nI (cf e))) (σ 20 0))) :
    ∃ r6 σ1 r7 σ2, F6 σ = some (r6, σ1) ∧ F7 σ1 = some (r7, σ2) ∧ Inv σ2 (B + 100) ∧ AnsV cf r6 r7 (σ2 62 0 0) := by
  rw [e62] at h7
  exact ⟨.inl e, σ, _, _, h6, h7, inv62 h _ (by omega), hc, ms_eq _ _ _ _ _⟩
theorem m_puts (τ : Mem) (q : QS) {i : Nat} (hi : i < 291) (v : Int32) : f7_puts (nI i) v (wq τ q) = some (q i, wq τ (qs q i v)) := by
  unfold f7_puts
  simp (disch := first | omega | decide) only [gd_ib, nmS, clI, wq_get, wq_set]
theorem p_yes (hp : Bus (σ 20 0) (cOf σ 0) T) {m : Nat} (hm : m < nM (σ 20 0)) : f6_needMaster (nI m) σ = some (.inr (), σ) := by
  have := c_yes σ hp hm
  rw [wc_self] at this
  exact this
theorem p_no (hp : Bus (σ 20 0) (cOf σ 0) T) {a : Int32} (e : (decide (0 ≤ a) && decide (a < σ 20 0 0)) = false) : f6_needMaster a σ = some (.inl 2, σ) := by
  have := c_no σ hp e
  rw [wc_self] at this
  exact this
theorem p_yesS (hp : Bus (σ 20 0) (cOf σ 0) T) {m : Nat} (hm : m < nS (σ 20 0)) : f6_needSlot (nI m) σ = some (.inr (), σ) := by
  have := c_yesS σ hp hm
  rw [wc_self] at this
  exact this
theorem p_noS (hp : Bus (σ 20 0) (cOf σ 0) T) {a : Int32} (e : (decide (0 ≤ a) && decide (a < σ 20 0 1)) = false) : f6_needSlot a σ = some (.inl 2, σ) := by
  have := c_noS σ hp e
  rw [wc_self] at this
  exact this
theorem g_setCredit (a : Int32) : Good (cf1 0) (f6_setCredit a) (f7_setCredit a) := by
  intro σ B h hB
  obtain ⟨T, hT, hp⟩ := h.1
  rcases rng_or a (l := 0) (u := 9) (by omega) (by decide) with ⟨k, -, hk, rfl⟩ | hno
  · obtain ⟨σa, s1, s2, s3, s4⟩ := pushed h hp
    obtain ⟨f, hE⟩ := s2.1
    obtain ⟨τ, t1, t2, t3⟩ := s4 _ _ T (s2.credit (nI k)) (by omega)
    refine ⟨.inr (σ 20 0 4), wc σa 0 (ms (cOf σa 0) 34 0 0 (nI k)), σ 20 0 4, _, ?_, ?_, t2, t3, rfl⟩
    · unfold f6_setCredit
      simp only [lit, nmS]
      rw [if_neg (show ¬ nI k < nI 0 from nI_pos (by omega)), if_pos (nI_le hk (by decide)), s1, bvS]
      rw [← hE.t4, ← wc_sb σa _ (by decide), wc_self]
      rfl
    · unfold f7_setCredit
      simp only [lit, nmS]
      rw [m_in (nI k) (nI 0) (nI 9) (by decide) (by decide), bdS, rng_in (by omega) hk (by decide), if_neg (show ¬ bI true = nI 0 by decide), ← e62, s3, t1, bvS, m_puts _ _ (by decide), bdS]
  · refine refuse h (e := 0) ?_ (by decide) ?_
    · unfold f6_setCredit
      simp only [lit]
      by_cases e1 : a < nI 0
      · rw [if_pos e1]
      · rw [if_neg e1, if_neg (not_le_lt.mpr ((rng_no hno).resolve_left e1))]
    · unfold f7_setCredit
      simp only [lit, nmS]
      rw [m_in a (nI 0) (nI 9) (by decide) (by decide), bdS, hno, if_pos (show bI false = nI 0 by decide), ← e62, m_fails, bdS]
      rfl
theorem g_setLatency (a b : Int32) : Good (cf2 2 0) (f6_setLatency a b) (f7_setLatency a b) := by
  intro σ B h hB
  obtain ⟨T, hT, hp⟩ := h.1
  rcases rng_or a (l := 0) (u := 3) (by omega) (by decide) with ⟨s, -, hs, rfl⟩ | hno
  · have hs4 : s < 4 := by omega
    have hv : f6_needSlave (nI s) σ = some (.inr (), σ) := by
      unfold f6_needSlave
      simp only [lit]
      rw [if_neg (show ¬ nI s < nI 0 from nI_pos (by omega)), if_pos (nI_lt hs4 (by decide))]
    have hv7 : ∀ ρ, f7_isSlave (nI s) ρ = some (nI 1, ρ) := fun ρ => by
      rw [m_isV, show (decide (0 ≤ nI s) && decide (nI s ≤ 3)) = true from rng_in (l := 0) (u := 3) (by omega) hs (by decide)]; rfl
    rcases rng_or b (l := 0) (u := 9) (by omega) (by decide) with ⟨k, -, hk, rfl⟩ | hno
    · obtain ⟨σa, s1, s2, s3, s4⟩ := pushed h hp
      obtain ⟨f, hE⟩ := s2.1
      obtain ⟨τ, t1, t2, t3⟩ := s4 _ _ T (s2.lat hs4 hk) (by omega)
      refine ⟨.inr (σ 20 0 (7 + s)), wc σa 0 (ms (cOf σa 0) 5 0 s (nI k)), σ 20 0 (7 + s), _, ?_, ?_, t2, t3, rfl⟩
      · unfold f6_setLatency
        simp only [lit, nmS]
        rw [hv, bxR, if_neg (show ¬ nI k < nI 0 from nI_pos (by omega)), if_pos (nI_le hk (by decide)), s1, bvS, gd_ib hs4 (by decide), gd_ib hs4 (by decide), clI (by omega)]
        rw [← hE.lat hs4, ← wc_sb σa _ (by decide), wc_self]
        rfl
      · unfold f7_setLatency
        simp only [lit, nmS]
        rw [hv7, bdS, if_neg (show ¬ nI 1 = nI 0 by decide), m_in (nI k) (nI 0) (nI 9) (by decide) (by decide), bdS, rng_in (by omega) hk (by decide), if_neg (show ¬ bI true = nI 0 by decide), ← e62, s3, t1, bvS, nI_add, m_puts _ _ (by omega), bdS]
    · refine refuse h (e := 0) ?_ (by decide) ?_
      · unfold f6_setLatency
        simp only [lit]
        rw [hv, bxR]
        by_cases e1 : b < nI 0
        · rw [if_pos e1]
        · rw [if_neg e1, if_neg (not_le_lt.mpr ((rng_no hno).resolve_left e1))]
      · unfold f7_setLatency
        simp only [lit, nmS]
        rw [hv7, bdS, if_neg (show ¬ nI 1 = nI 0 by decide), m_in b (nI 0) (nI 9) (by decide) (by decide), bdS, hno, if_pos (show bI false = nI 0 by decide), ← e62, m_fails, bdS]
        rfl
  · refine refuse h (e := 2) ?_ (by decide) ?_
    · unfold f6_setLatency f6_needSlave
      simp only [lit]
      by_cases e1 : a < nI 0
      · rw [if_pos e1, bxL]
      · have e2 := (rng_no hno).resolve_left e1
        rw [if_neg e1, if_neg (show ¬ a < nI 4 from fun z => by
          have g1 := Int32.lt_iff_toInt_lt.mp e2
          have g2 := Int32.lt_iff_toInt_lt.mp z
          rw [nI_toInt (by decide)] at g1 g2
          omega), bxL]
    · unfold f7_setLatency
      simp only [lit, nmS]
      rw [m_isV, bdS, show (decide (0 ≤ a) && decide (a ≤ 3)) = false from hno, if_pos (show bI false = nI 0 by decide), ← e62, m_fails, bdS]
      rfl
theorem g_addMaster : Good (cf1 1) f6_addMaster f7_addMaster := by
  intro σ B h hB
  obtain ⟨T, hT, hp⟩ := h.1
  have hM := hp.2.1.sz.M
  obtain ⟨f0, hE0⟩ := hp.1
  have e30 : σ 30 0 0 = nI (nM (σ 20 0)) := hE0.t0.trans hM.1
  by_cases e : nM (σ 20 0) < 6
  · obtain ⟨σa, s1, s2, s3, s4⟩ := pushed h hp
    obtain ⟨c', j1, j2⟩ := c_join σa 0 s2 e
    rw [wc_self] at j1
    obtain ⟨τ, t1, t2, t3⟩ := s4 _ _ T j2 (by omega)
    refine ⟨.inr (nI (nM (σ 20 0))), wc σa 0 c', nI (nM (σ 20 0)), _, ?_, ?_, t2, t3, rfl⟩
    · unfold f6_addMaster
      simp only [lit]
      rw [e30, if_pos (nI_lt e (by decide)), s1, bvS, j1, bdS]
    · unfold f7_addMaster
      simp only [lit, nmS, clI (show 0 < 2 ^ 31 by decide)]
      rw [← e62, s3, wq_get, hM.1, if_neg (show ¬ nI (nM (σ 20 0)) = nI 6 from fun z => by
        have := (nI_eq (by omega) (by decide)).mp z
        omega), t1, bvS, wq_get, wq_set, wq_get, qs_same, hM.1, nI_add]
      rw [show nI (nM (σ 20 0) + 1) - nI 1 = nI (nM (σ 20 0)) from nI_pred _]
  · have e6 : nM (σ 20 0) = 6 := by omega
    refine refuse h (e := 1) ?_ (by decide) ?_
    · unfold f6_addMaster
      simp only [lit]
      rw [e30, if_neg (fun z => e ((nI_ltI (by omega) (by decide)).mp z))]
    · unfold f7_addMaster
      simp only [lit, nmS, clI (show 0 < 2 ^ 31 by decide)]
      rw [← e62, wq_get, hM.1, if_pos (by rw [e6]), m_fails, bdS]
      rfl
end ACTS2
