/-! save, restore -/
section SAVE
variable {q : QS} {c : Mem} {T B : Nat} {σ σ' : Mem}
def puS (σ : Mem) (a n : Nat) : Mem := fun k o j => if k = 22 ∧ o = 0 ∧ a ≤ j ∧ j < a + n then σ 20 0 (j - a) else σ k o j
theorem puS_0 (σ : Mem) (a : Nat) : puS σ a 0 = σ := by
  funext k o j
  exact if_neg fun z => by omega
theorem puS_s (σ : Mem) (a n : Nat) : ms (puS σ a n) 22 0 (a + n) (σ 20 0 n) = puS σ a (n + 1) := by
  funext k o j
  unfold ms puS
  by_cases e : k = 22 ∧ o = 0 ∧ j = a + n
  · obtain ⟨rfl, rfl, rfl⟩ := e
    rw [if_pos ⟨rfl, rfl, rfl⟩, if_pos ⟨rfl, rfl, by omega, by omega⟩, show a + n - a = n by omega]
  · rw [if_neg e]
    by_cases e2 : k = 22 ∧ o = 0 ∧ a ≤ j ∧ j < a + n
    · rw [if_pos e2, if_pos ⟨e2.1, e2.2.1, e2.2.2.1, by omega⟩]
    · rw [if_neg e2, if_neg fun z => e2 ⟨z.1, z.2.1, z.2.2.1, by
        have : ¬ j = a + n := fun w => e ⟨z.1, z.2.1, w⟩
        omega⟩]
theorem puS_out (σ : Mem) {a n k o j : Nat} (h : ¬ (k = 22 ∧ o = 0 ∧ a ≤ j ∧ j < a + n)) : puS σ a n k o j = σ k o j := if_neg h
theorem puS_in (σ : Mem) {a n j : Nat} (h : j < n) : puS σ a n 22 0 (a + j) = σ 20 0 j := (if_pos ⟨rfl, rfl, by omega, by omega⟩).trans (by rw [show a + j - a = j by omega])
theorem m_save23 (σ : Mem) {a : Nat} (ha : a < 2) (k : Mem → Option (Int32 × Mem)) : f7_save_l23 (nI a) k FU (nI 0) σ = k (puS σ (291 * a) 291) := by
  have h9 := lup (fun n (z : Int32 × Mem) => f7_save_l23 (nI a) k n z.1 z.2) (fun i => (nI i, puS σ (291 * a) i)) 291 (k (puS σ (291 * a) 291)) ?_ ?_ 291 0 FU rfl (by decide)
  · rw [puS_0] at h9; exact h9
  · intro n i hi
    show f7_save_l23 (nI a) k (n + 1) (nI i) (puS σ (291 * a) i) = f7_save_l23 (nI a) k n (nI (i + 1)) (puS σ (291 * a) (i + 1))
    rw [f7_save_l23]
    simp (disch := first | omega | decide) only [lit, nmS, pk_mul, nI_add, gd_ib, clI]
    rw [if_neg (nI_ge hi (by decide)), puS_out σ (k := 20) (by omega), puS_s]
  · intro n
    show f7_save_l23 (nI a) k (n + 1) (nI 291) _ = _
    rw [f7_save_l23]
    simp only [lit]
    rw [if_pos (nI_le (Nat.le_refl _) (by decide))]
theorem m_rest38 (ρ : Mem) (q : QS) {a : Nat} (ha : a < 2) (k : Mem → Option (Int32 × Mem)) : f7_restore_l38 (nI a) k FU (nI 0) (wq ρ q) = k (wq ρ (cpI q (fun j => ρ 22 0 (291 * a + j)) 291)) := by
  have h9 := lup (fun n (z : Int32 × QS) => f7_restore_l38 (nI a) k n z.1 (wq ρ z.2)) (fun i => (nI i, cpI q (fun j => ρ 22 0 (291 * a + j)) i)) 291 (k (wq ρ (cpI q (fun j => ρ 22 0 (291 * a + j)) 291))) ?_ ?_ 291 0 FU rfl (by decide)
  · rw [cpI_0] at h9; exact h9
  · intro n i hi
    show f7_restore_l38 (nI a) k (n + 1) (nI i) (wq ρ (cpI q _ i)) = f7_restore_l38 (nI a) k n (nI (i + 1)) (wq ρ (cpI q _ (i + 1)))
    rw [f7_restore_l38]
    simp (disch := first | omega | decide) only [lit, nmS, pk_mul, nI_add, gd_ib, clI, wq_set]
    rw [if_neg (nI_ge hi (by decide)), wq_other _ _ _ (by omega), ← cpI_s]
  · intro n
    show f7_restore_l38 (nI a) k (n + 1) (nI 291) _ = _
    rw [f7_restore_l38]
    simp only [lit]
    rw [if_pos (nI_le (Nat.le_refl _) (by decide))]
theorem slot_or (a : Int32) (σ : Mem) : (∃ s, s < 2 ∧ a = nI s ∧ f6_needSaveSlot a σ = some (.inr (), σ)) ∨ ((decide (nI 0 ≤ a) && decide (a ≤ nI 1)) = false ∧ f6_needSaveSlot a σ = some (.inl 2, σ)) := by
  unfold f6_needSaveSlot
  simp only [lit]
  rcases rng_or a (l := 0) (u := 1) (by omega) (by decide) with ⟨s, -, hs, rfl⟩ | hno
  · refine Or.inl ⟨s, by omega, rfl, ?_⟩
    rw [if_neg (show ¬ nI s < nI 0 from nI_pos (by omega)), if_pos (nI_lt (by omega) (by decide))]
  · refine Or.inr ⟨hno, ?_⟩
    by_cases e1 : a < nI 0
    · rw [if_pos e1]
    · have e2 := (rng_no hno).resolve_left e1
      rw [if_neg e1, if_neg (show ¬ a < nI 2 from fun z => by
        have g1 := Int32.lt_iff_toInt_lt.mp e2
        have g2 := Int32.lt_iff_toInt_lt.mp z
        rw [nI_toInt (by decide)] at g1 g2
        omega)]
set_option maxHeartbeats 1000000 in
theorem g_save (a : Int32) : Good (cf1 2) (f6_save a) (f7_save a) := by
  intro σ B h hB
  have h' := h
  obtain ⟨⟨T, hT, hp⟩, ⟨n, c, hn, hc, h53, h52, h60, hR⟩, hS, hX⟩ := h'
  rcases slot_or a σ with ⟨s, hs, rfl, h6⟩ | ⟨hno, h6⟩
  · obtain ⟨d, hd1, hd2⟩ := c_copy σ (o := s + 17) (a := 0) (by omega) hp (cOf σ (s + 17))
    rw [wc_self] at hd1
    obtain ⟨f, hE⟩ := hp.1
    have hcls : f6_save (nI s) σ = some (.inr (σ 20 0 2), ms (wc σ (s + 17) d) 18 0 s (nI 1)) := by
      unfold f6_save
      simp only [lit, nmS]
      rw [h6, bxR, gd_ib hs (by decide), clI (by omega), hd1, bvS, gd_ib hs (by decide), show zb (nI 1) = nI 1 from zb_01 (Or.inr rfl), ms_ne _ _ (by omega)]
      have e32 : wc σ (s + 17) d 32 0 0 = σ 20 0 2 := (rd_b σ d (k := 32) (by decide) (show 0 ≠ s + 17 by omega) 0).trans hE.t2
      rw [e32]
    generalize hρ : ms (puS (ms (ms (wc σ (s + 17) d) 18 0 s (nI 1)) 62 0 0 (nI 0)) (291 * s) 291) 23 0 s (nI 1) = ρ
    have hρo : ∀ k o i, k ≠ 18 → k ≠ 62 → k ≠ 23 → k ≠ 22 → ρ k o i = wc σ (s + 17) d k o i := fun k o i h1 h2 h3 h4 => by
      rw [← hρ, ms_ne _ _ (by omega), puS_out _ (by omega), ms_ne _ _ (by omega), ms_ne _ _ (by omega)]
    have hρs : ∀ k o i, ¬ Stk k → ρ k o i = wc σ (s + 17) d k o i := fun k o i hk => hρo k o i (fun z => hk (by rw [z]; unfold Stk; decide)) (fun z => hk (by rw [z]; unfold Stk; decide)) (fun z => hk (by rw [z]; unfold Stk; decide)) (fun z => hk (by rw [z]; unfold Stk; decide))
    have hrow : ∀ i, ρ 20 0 i = σ 20 0 i := fun i => (hρo 20 0 i (by decide) (by decide) (by decide) (by decide)).trans (wc_out _ _ _ (by decide) (by decide) _ _)
    have href : f7_save (nI s) (ms (wc σ (s + 17) d) 18 0 s (nI 1)) = some (σ 20 0 2, ρ) := by
      unfold f7_save
      simp only [lit, nmS]
      rw [m_in (nI s) (nI 0) (nI 1) (by decide) (by decide), bdS, rng_in (by omega) (by omega) (by decide), if_neg (show ¬ bI true = nI 0 by decide), m_save23 _ hs, gd_ib hs (by decide), clI (by omega), show zb (nI 1) = nI 1 from zb_01 (Or.inr rfl), hρ, clI (by decide), hrow]
    have hdif : Dif (s + 17) σ ρ := fun k o i h1 h2 h3 => (hρs k o i h1).trans (dif_wc σ (s + 17) d k o i h1 h2 h3)
    have y : ∀ k o i, k ≠ 18 → k ≠ 62 → k ≠ 23 → k ≠ 22 → isB k = false → isM k = false → ρ k o i = σ k o i := fun k o i h1 h2 h3 h4 h6 h7 => (hρo k o i h1 h2 h3 h4).trans (wc_out _ _ _ h6 h7 _ _)
    refine ⟨_, _, _, _, hcls, href, ⟨⟨T, by omega, ?_⟩, ⟨n, c, hn, hc, ?_, ?_, ?_, fun i hi => ?_⟩, fun a ha => ?_, ?_⟩, ?_, rfl⟩
    · exact (hp.dif hdif (by omega)).rows fun j _ => hrow j
    · exact (y 53 0 0 (by decide) (by decide) (by decide) (by decide) (by decide) (by decide)).trans h53
    · exact (y 52 0 0 (by decide) (by decide) (by decide) (by decide) (by decide) (by decide)).trans h52
    · exact (y 60 0 0 (by decide) (by decide) (by decide) (by decide) (by decide) (by decide)).trans h60
    · obtain ⟨T3, k1, k2⟩ := hR i hi
      exact ⟨T3, by omega, (k2.dif hdif (by omega)).rows fun j _ => y 21 0 _ (by decide) (by decide) (by decide) (by decide) (by decide) (by decide)⟩
    · by_cases e : a = s
      · subst e
        refine ⟨true, ?_, ?_, fun _ => ⟨T, by omega, ?_⟩⟩
        · rw [← hρ, ms_ne _ _ (by omega), puS_out _ (by omega), ms_ne _ _ (by omega), ms_eq]; rfl
        · rw [← hρ, ms_eq]; rfl
        · have h1 : Bus (σ 20 0) (cOf (wc σ (a + 17) d) (a + 17)) T := hd2.put σ
          rw [show 17 + a = a + 17 by omega]
          refine (h1.same (σ' := ρ) hρs).rows fun j hj => ?_
          show ρ 22 0 (291 * a + j) = _
          rw [← hρ, ms_ne _ _ (by omega), puS_in _ hj, ms_ne _ _ (by omega), ms_ne _ _ (by omega), wc_out _ _ _ (by decide) (by decide)]
      · obtain ⟨t, x1, x2, x3⟩ := hS a ha
        refine ⟨t, ?_, ?_, fun ht => ?_⟩
        · rw [← hρ, ms_ne _ _ (by omega), puS_out _ (by omega), ms_ne _ _ (by omega), ms_ne _ _ (by omega), wc_out _ _ _ (by decide) (by decide)]; exact x1
        · rw [← hρ, ms_ne _ _ (by omega), puS_out _ (by omega), ms_ne _ _ (by omega), ms_ne _ _ (by omega), wc_out _ _ _ (by decide) (by decide)]; exact x2
        · obtain ⟨T3, k1, k2⟩ := x3 ht
          refine ⟨T3, by omega, (k2.dif hdif (by omega)).rows fun j hj => ?_⟩
          show ρ 22 0 (291 * a + j) = _
          rw [← hρ, ms_ne _ _ (by omega), puS_out _ (by omega), ms_ne _ _ (by omega), ms_ne _ _ (by omega), wc_out _ _ _ (by decide) (by decide)]
    · exact hX.of (y 54 0 0 (by decide) (by decide) (by decide) (by decide) (by decide) (by decide)) (y 61 0 0 (by decide) (by decide) (by decide) (by decide) (by decide) (by decide)) (dif_2 hdif) (dif_24 hdif)
    · rw [← hρ, ms_ne _ _ (by omega), puS_out _ (by omega), ms_eq]; rfl
  · refine refuse h (e := 2) ?_ (by decide) ?_
    · unfold f6_save
      rw [h6, bxL]
    · unfold f7_save
      simp only [lit, nmS]
      rw [m_in a (nI 0) (nI 1) (by decide) (by decide), bdS, hno, if_pos (show bI false = nI 0 by decide), ← e62, m_fails, bdS]
      rfl
set_option maxHeartbeats 1000000 in
theorem g_restore (a : Int32) : Good (cf2 2 1) (f6_restore a) (f7_restore a) := by
  intro σ B h hB
  have h' := h
  obtain ⟨⟨T, hT, hp⟩, ⟨n, c, hn, hc, h53, h52, h60, hR⟩, hS, hX⟩ := h'
  rcases slot_or a σ with ⟨s, hs, rfl, h6⟩ | ⟨hno, h6⟩
  · obtain ⟨t, x1, x2, x3⟩ := hS s hs
    have e23 : ms σ 62 0 0 (nI 0) 23 0 s = bI t := (ms_ne _ _ (by omega)).trans x2
    cases t with
    | false =>
      refine refuse h (e := 1) ?_ (by decide) ?_
      · unfold f6_restore
        simp only [lit]
        rw [h6, bxR, gd_ib hs (by decide), clI (by omega), x1, if_pos (show bI false = nI 0 by decide)]
      · unfold f7_restore
        simp only [lit, nmS]
        rw [m_in (nI s) (nI 0) (nI 1) (by decide) (by decide), bdS, rng_in (by omega) (by omega) (by decide), if_neg (show ¬ bI true = nI 0 by decide), gd_ib hs (by decide), clI (by omega), e23, if_pos (show bI false = nI 0 by decide), ← e62, m_fails, bdS]
        rfl
    | true =>
      obtain ⟨T2, g1, g2⟩ := x3 rfl
      rw [show 17 + s = s + 17 by omega] at g2
      obtain ⟨d, hd1, hd2⟩ := c_copy σ (o := 0) (a := s + 17) (by omega) g2 (cOf σ 0)
      rw [wc_self] at hd1
      obtain ⟨f, hE⟩ := hd2.1
      have hcls : f6_restore (nI s) σ = some (.inr (σ 22 0 (291 * s + 2)), ms (wc σ 0 d) 52 0 0 (nI 0)) := by
        unfold f6_restore f4_empty
        simp only [lit, nmS]
        rw [h6, bxR, gd_ib hs (by decide), gd_ib hs (by decide), clI (by omega), x1, if_neg (show ¬ bI true = nI 0 by decide), hd1, bvS, bvS, ms_ne _ _ (by omega), wc_b _ _ (by decide), hE.t2]
      have e23' : ms (ms (wc σ 0 d) 52 0 0 (nI 0)) 62 0 0 (nI 0) 23 0 s = bI true := by
        rw [ms_ne _ _ (by omega), ms_ne _ _ (by omega), wc_out _ _ _ (by decide) (by decide)]; exact x2
      have hrow : ms (ms (wc σ 0 d) 52 0 0 (nI 0)) 62 0 0 (nI 0) 20 0 = σ 20 0 := by
        funext i
        rw [ms_ne _ _ (by omega), ms_ne _ _ (by omega), wc_row]
      have h22 : ∀ i, ms (ms (wc σ 0 d) 52 0 0 (nI 0)) 62 0 0 (nI 0) 22 0 i = σ 22 0 i := fun i => by
        rw [ms_ne _ _ (by omega), ms_ne _ _ (by omega), wc_out _ _ _ (by decide) (by decide)]
      generalize hq : cpI (σ 20 0) (fun j => ms (ms (wc σ 0 d) 52 0 0 (nI 0)) 62 0 0 (nI 0) 22 0 (291 * s + j)) 291 = q2
      have hq2 : ∀ j, j < 291 → q2 j = σ 22 0 (291 * s + j) := fun j hj => by rw [← hq, cpI_in _ _ hj, h22]
      generalize hρ : ms (wq (ms (ms (wc σ 0 d) 52 0 0 (nI 0)) 62 0 0 (nI 0)) q2) 60 0 0 (nI 0) = ρ
      have href : f7_restore (nI s) (ms (wc σ 0 d) 52 0 0 (nI 0)) = some (σ 22 0 (291 * s + 2), ρ) := by
        unfold f7_restore
        simp only [lit, nmS]
        rw [m_in (nI s) (nI 0) (nI 1) (by decide) (by decide), bdS, rng_in (by omega) (by omega) (by decide), if_neg (show ¬ bI true = nI 0 by decide), gd_ib hs (by decide), clI (by omega), e23', if_neg (show ¬ bI true = nI 0 by decide), ← wq_of hrow, m_rest38 _ _ hs, hq, hρ, clI (by decide), ← hρ, ms_ne _ _ (by omega), wq_get, hq2 2 (by omega)]
      have hρo : ∀ k o i, k ≠ 52 → k ≠ 62 → k ≠ 60 → k ≠ 20 → ρ k o i = wc σ 0 d k o i := fun k o i h1 h2 h3 h4 => by
        rw [← hρ, ms_ne _ _ (by omega), wq_other _ _ _ (by omega), ms_ne _ _ (by omega), ms_ne _ _ (by omega)]
      have hρs : ∀ k o i, ¬ Stk k → ρ k o i = wc σ 0 d k o i := fun k o i hk => hρo k o i (fun z => hk (by rw [z]; unfold Stk; decide)) (fun z => hk (by rw [z]; unfold Stk; decide)) (fun z => hk (by rw [z]; unfold Stk; decide)) (fun z => hk (by rw [z]; unfold Stk; decide))
      have hdif : Dif 0 σ ρ := fun k o i h1 h2 h3 => (hρs k o i h1).trans (dif_wc σ 0 d k o i h1 h2 h3)
      have y : ∀ k o i, k ≠ 52 → k ≠ 62 → k ≠ 60 → k ≠ 20 → isB k = false → isM k = false → ρ k o i = σ k o i := fun k o i h1 h2 h3 h4 h6 h7 => (hρo k o i h1 h2 h3 h4).trans (wc_out _ _ _ h6 h7 _ _)
      refine ⟨_, _, _, _, hcls, href, ⟨⟨T2, by omega, ?_⟩, ⟨n, 0, hn, by omega, ?_, ?_, ?_, fun i hi => absurd hi (Nat.not_lt_zero i)⟩, fun a ha => ?_, ?_⟩, ?_, rfl⟩
      · have h1 := hd2.put (b := 0) σ
        refine (h1.same (σ' := ρ) hρs).rows fun j hj => ?_
        show ρ 20 0 j = σ 22 0 (291 * s + j)
        rw [← hρ, ms_ne _ _ (by omega), wq_get, hq2 j hj]
      · exact (y 53 0 0 (by decide) (by decide) (by decide) (by decide) (by decide) (by decide)).trans h53
      · rw [← hρ, ms_ne _ _ (by omega), wq_other _ _ _ (by omega), ms_ne _ _ (by omega), ms_eq]
      · rw [← hρ, ms_eq]
      · obtain ⟨t, x1, x2, x3⟩ := hS a ha
        refine ⟨t, (y 18 0 a (by decide) (by decide) (by decide) (by decide) (by decide) (by decide)).trans x1, (y 23 0 a (by decide) (by decide) (by decide) (by decide) (by decide) (by decide)).trans x2, fun ht => ?_⟩
        obtain ⟨T3, k1, k2⟩ := x3 ht
        exact ⟨T3, by omega, (k2.dif hdif (by omega)).rows fun j _ => y 22 0 _ (by decide) (by decide) (by decide) (by decide) (by decide) (by decide)⟩
      · exact hX.of (y 54 0 0 (by decide) (by decide) (by decide) (by decide) (by decide) (by decide)) (y 61 0 0 (by decide) (by decide) (by decide) (by decide) (by decide) (by decide)) (dif_2 hdif) (dif_24 hdif)
      · rw [← hρ, ms_ne _ _ (by omega), wq_other _ _ _ (by omega), ms_eq]; rfl
  · refine refuse h (e := 2) ?_ (by decide) ?_
    · unfold f6_restore
      rw [h6, bxL]
    · unfold f7_restore
      simp only [lit, nmS]
      rw [m_in a (nI 0) (nI 1) (by decide) (by decide), bdS, hno, if_pos (show bI false = nI 0 by decide), ← e62, m_fails, bdS]
      rfl
end SAVE
