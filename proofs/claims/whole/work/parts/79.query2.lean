/-! CALLS THAT ONLY LOOK: master, burst, order -/
section QUERY2
variable {q : QS} {c : Mem} {T : Nat}
theorem in_rng {a : Int32} {l u : Nat} (hl : l ≤ u) (hu : u < 2 ^ 31) (e : (decide (nI l ≤ a) && decide (a ≤ nI u)) = true) : ∃ k, l ≤ k ∧ k ≤ u ∧ a = nI k := by
  rw [Bool.and_eq_true] at e
  have h1 := of_decide_eq_true e.1
  have h2 := of_decide_eq_true e.2
  have h3 : ¬ a < 0 := fun z => by
    have e1 := Int32.lt_iff_toInt_lt.mp z
    have e2 := Int32.le_iff_toInt_le.mp h1
    rw [nI_toInt (by omega)] at e2
    have e3 : (0 : Int32).toInt = 0 := rfl
    omega
  obtain ⟨j, hj, rfl⟩ := nI_of h3
  exact ⟨j, (nI_leI (by omega) hj).mp h1, (nI_leI hj hu).mp h2, rfl⟩
theorem rng_in {l u k : Nat} (h1 : l ≤ k) (h2 : k ≤ u) (hu : u < 2 ^ 31) : (decide (nI l ≤ nI k) && decide (nI k ≤ nI u)) = true := by
  rw [decide_eq_true (nI_le h1 (by omega)), decide_eq_true (nI_le h2 hu)]; rfl
theorem rng_or (a : Int32) {l u : Nat} (hl : l ≤ u) (hu : u < 2 ^ 31) : (∃ k, l ≤ k ∧ k ≤ u ∧ a = nI k) ∨ (decide (nI l ≤ a) && decide (a ≤ nI u)) = false := by
  cases e : (decide (nI l ≤ a) && decide (a ≤ nI u)) with
  | false => exact Or.inr rfl
  | true => exact Or.inl (in_rng hl hu e)
theorem rng_no {a : Int32} {l u : Nat} (e : (decide (nI l ≤ a) && decide (a ≤ nI u)) = false) : a < nI l ∨ nI u < a := by
  rcases Bool.and_eq_false_iff.mp e with z | z
  · exact Or.inl (not_le_lt.mp (of_decide_eq_false z))
  · exact Or.inr (not_le_lt.mp (of_decide_eq_false z))
def msV (q : QS) (m : Nat) : Nat → Int32
  | 0 => slQ q (nS q) m
  | 1 => dbQ q m
  | 2 => sumF (fun a => owQ q a m) (nM q)
  | 3 => mQ q m 0
  | 4 => sumF (fun k => mQ q m (9 + 3 * k)) (nB q m)
  | n + 5 => mQ q m (n + 1)
set_option maxHeartbeats 2000000 in
theorem g_master (a b : Int32) : Good (cf2 2 0) (f6_master a b) (f7_master a b) := by
  refine query fun q c T σ τ h => ?_
  obtain ⟨f, hE⟩ := h.1
  have hz := h.2.1.sz
  have hM := hz.M
  have hN : 20 < FU := by decide
  rcases isM_or h a with ⟨m, hm, rfl⟩ | hno
  · have hm6 : m < 6 := by omega
    have hc : ∀ j, 1 ≤ j → j < 7 → c (41 + j) m 0 = mQ q m j := fun j h1 h2 => hE.cnt hm6 h1 h2
    have ha6 : f6_master (nI m) b (wc σ 0 c) = (if b = nI 0 then some (.inr (msV q m 0), wc σ 0 c) else if b = nI 1 then some (.inr (msV q m 1), wc σ 0 c) else if b = nI 2 then some (.inr (msV q m 2), wc σ 0 c) else if b = nI 3 then some (.inr (msV q m 3), wc σ 0 c) else if b = nI 4 then some (.inr (msV q m 4), wc σ 0 c) else
        if b = nI 5 then some (.inr (msV q m 5), wc σ 0 c) else if b = nI 6 then some (.inr (msV q m 6), wc σ 0 c) else if b = nI 7 then some (.inr (msV q m 7), wc σ 0 c) else if b = nI 8 then some (.inr (msV q m 8), wc σ 0 c) else if b = nI 9 then some (.inr (msV q m 9), wc σ 0 c) else if b = nI 10 then some (.inr (msV q m 10), wc σ 0 c) else some (.inl 0, wc σ 0 c)) := by
      unfold f6_master
      rw [c_yes σ h hm, bxR, gd_ib hm6 (by decide), clI (by omega)]
      simp only [lit]
      rw [c_slots σ 0 hE hz (Nat.le_refl _), c_debts σ 0 hE hm6, c_owedTo σ 0 hE hz hm, wc_m σ c (k := 50) (by decide) (by decide) hm6, c_words σ 0 hE hz hm6 (Nat.le_refl _), wc_m σ c (k := 42) (by decide) (by decide) hm6, wc_m σ c (k := 43) (by decide) (by decide) hm6, wc_m σ c (k := 44) (by decide) (by decide) hm6, wc_m σ c (k := 45) (by decide) (by decide) hm6, wc_m σ c (k := 46) (by decide) (by decide) hm6, wc_m σ c (k := 47) (by decide) (by decide) hm6, bdS, bdS, bdS, bdS, hE.tnb hm6,
        show c 42 m 0 = mQ q m 1 from hc 1 (by omega) (by omega), show c 43 m 0 = mQ q m 2 from hc 2 (by omega) (by omega), show c 44 m 0 = mQ q m 3 from hc 3 (by omega) (by omega), show c 45 m 0 = mQ q m 4 from hc 4 (by omega) (by omega), show c 46 m 0 = mQ q m 5 from hc 5 (by omega) (by omega), show c 47 m 0 = mQ q m 6 from hc 6 (by omega) (by omega)]
      rfl
    have ha7 : f7_master (nI m) b (wq τ q) = (if b = nI 0 then some (msV q m 0, wq (ms τ 62 0 0 (nI 0)) q) else if b = nI 1 then some (msV q m 1, wq (ms τ 62 0 0 (nI 0)) q) else if b = nI 2 then some (msV q m 2, wq (ms τ 62 0 0 (nI 0)) q) else if b = nI 3 then some (msV q m 3, wq (ms τ 62 0 0 (nI 0)) q) else if b = nI 4 then some (msV q m 4, wq (ms τ 62 0 0 (nI 0)) q) else
        if bI (decide (nI 5 ≤ b) && decide (b ≤ nI 10)) = nI 0 then some (nI 0, wq (ms τ 62 0 0 (nI 2)) q) else bd (f7_of (nI m) (b - nI 4) (wq (ms τ 62 0 0 (nI 0)) q)) fun r7 s10 => some (r7, s10)) := by
      unfold f7_master
      generalize FU = N at hN ⊢
      simp only [lit, nmS]
      rw [w62, m_yes _ h hm, bdS, if_neg (show ¬ nI 1 = nI 0 by decide), m_master24 _ hm6 hN, m_master53 _ hz hm6 hN, f7_slotsOf_s _ q hz, f7_debts_s _ q hm6, owed_cut h.2.1 hm6, show f7_of (nI m) (nI 0) (wq (ms τ 62 0 0 (nI 0)) q) = some (mQ q m 0, wq (ms τ 62 0 0 (nI 0)) q) from f7_of_s _ q (m := m) (j := 0) (by omega), m_in b (nI 5) (nI 10) (by decide) (by decide), bdS, bdS, bdS, bdS, m_fails, bdS]
      rfl
    rcases numb 11 b with ⟨k, hk, rfl⟩ | hno
    · refine ⟨.inr (msV q m k), msV q m k, 0, ?_, ?_, rfl, rfl⟩
      · rw [ha6]
        have : k = 0 ∨ k = 1 ∨ k = 2 ∨ k = 3 ∨ k = 4 ∨ k = 5 ∨ k = 6 ∨ k = 7 ∨ k = 8 ∨ k = 9 ∨ k = 10 := by omega
        rcases this with rfl | rfl | rfl | rfl | rfl | rfl | rfl | rfl | rfl | rfl | rfl <;> simp (decide := true) only [↓reduceIte]
      · rw [ha7]
        by_cases e : k < 5
        · have : k = 0 ∨ k = 1 ∨ k = 2 ∨ k = 3 ∨ k = 4 := by omega
          rcases this with rfl | rfl | rfl | rfl | rfl <;> simp (decide := true) only [↓reduceIte] <;> rfl
        · obtain ⟨j, rfl⟩ : ∃ j, k = j + 5 := ⟨k - 5, by omega⟩
          have hne : ∀ i, i < 5 → ¬ nI (j + 5) = nI i := fun i hi z => by
            have := (nI_eq (by omega) (by omega)).mp z
            omega
          rw [if_neg (hne 0 (by omega)), if_neg (hne 1 (by omega)), if_neg (hne 2 (by omega)), if_neg (hne 3 (by omega)), if_neg (hne 4 (by omega)), rng_in (by omega) (by omega) (by decide), if_neg (show ¬ bI true = nI 0 by decide), pk_sub (by omega), show j + 5 - 4 = j + 1 by omega, f7_of_s _ q (by omega), bdS]
          rfl
    · refine ⟨.inl 0, nI 0, nI 2, ?_, ?_, by decide, rfl⟩
      · rw [ha6, if_neg (hno 0 (by omega)), if_neg (hno 1 (by omega)), if_neg (hno 2 (by omega)), if_neg (hno 3 (by omega)), if_neg (hno 4 (by omega)), if_neg (hno 5 (by omega)), if_neg (hno 6 (by omega)), if_neg (hno 7 (by omega)), if_neg (hno 8 (by omega)), if_neg (hno 9 (by omega)), if_neg (hno 10 (by omega))]
      · have e : (decide (nI 5 ≤ b) && decide (b ≤ nI 10)) = false := by
          rcases rng_or b (l := 5) (u := 10) (by omega) (by decide) with ⟨k, h1, h2, h3⟩ | z
          · exact absurd h3 (hno k (by omega))
          · exact z
        rw [ha7, if_neg (hno 0 (by omega)), if_neg (hno 1 (by omega)), if_neg (hno 2 (by omega)), if_neg (hno 3 (by omega)), if_neg (hno 4 (by omega)), e, if_pos (show bI false = nI 0 by decide)]
  · refine ⟨.inl 2, nI 0, nI 1, ?_, ?_, by decide, rfl⟩
    · unfold f6_master
      rw [c_no σ h hno, bxL]
    · unfold f7_master
      simp only [lit, nmS]
      rw [w62, m_no _ h hno, bdS, if_pos rfl, m_fails, bdS]
set_option maxHeartbeats 1000000 in
theorem g_burst (a b d : Int32) : Good (cf2 2 0) (f6_burst a b d) (f7_burst a b d) := by
  refine query fun q c T σ τ h => ?_
  obtain ⟨f, hE⟩ := h.1
  have hz := h.2.1.sz
  have hM := hz.M
  unfold f6_burst f7_burst
  simp only [lit, nmS, w62]
  rcases isM_or h a with ⟨m, hm, rfl⟩ | hno
  · have hm6 : m < 6 := by omega
    have hB := hz.B hm6
    rw [c_yes σ h hm, bxR, m_yes _ h hm, bdS, if_neg (show ¬ nI 1 = nI 0 by decide), gd_ib hm6 (by decide), clI (show m < 2 ^ 31 by omega), m_fails, bdS]
    by_cases hb0 : b < nI 0
    · exact ⟨.inl 0, nI 0, nI 2, if_pos hb0, if_pos hb0, by decide, rfl⟩
    · rw [if_neg hb0, if_neg hb0, m_in d (nI 0) (nI 2) (by decide) (by decide), bdS]
      obtain ⟨j, hj, rfl⟩ := nI_of (x := b) hb0
      rcases rng_or d (l := 0) (u := 2) (by omega) (by decide) with ⟨k, -, hk, rfl⟩ | hd
      · rw [rng_in (by omega) hk (by decide), if_neg (show ¬ bI true = nI 0 by decide), show f7_of (nI m) (nI 0) (wq (ms τ 62 0 0 (nI 0)) q) = some (mQ q m 0, wq (ms τ 62 0 0 (nI 0)) q) from f7_of_s _ q (m := m) (j := 0) (by omega), bdS, if_neg (show ¬ nI k < nI 0 from nI_pos (by omega)), if_pos (show nI k ≤ nI 2 from nI_le hk (by decide)), wc_m σ c (k := 50) (by decide) (by decide) hm6, hE.tnb hm6, hB.1]
        by_cases e : nB q m ≤ j
        · refine ⟨.inr (-9), -9, nI 0, ?_, ?_, rfl, rfl⟩
          · rw [if_pos (nI_le e hj)]; rfl
          · rw [if_pos (nI_le e hj)]; rfl
        · have hj6 : j < 6 := by omega
          have hbu := hE.bur hm6 (show j < nB q m by omega) hj6
          have hbu2 := h.2.1.burst m j hm6 (by omega)
          refine ⟨.inr (mQ q m (8 + 3 * j + k)), mQ q m (8 + 3 * j + k), nI 0, ?_, ?_, rfl, rfl⟩
          · rw [if_neg (nI_ge (by omega) (by omega)), if_pos (nI_lt hj6 (by decide)), gd_ib hj6 (by decide), gd_ib hj6 (by decide), gd_ib hj6 (by decide), clI hj, wc_m σ c (k := 10) (by decide) (by decide) hm6, wc_m σ c (k := 11) (by decide) (by decide) hm6, wc_m σ c (k := 12) (by decide) (by decide) hm6, hbu.1, hbu.2.1, hbu.2.2]
            have : k = 0 ∨ k = 1 ∨ k = 2 := by omega
            rcases this with rfl | rfl | rfl
            · rw [if_pos rfl]
              rfl
            · rw [if_neg (show ¬ nI 1 = nI 0 by decide), if_pos rfl, show 8 + 3 * j + 1 = 9 + 3 * j by omega]
            · rw [if_neg (show ¬ nI 2 = nI 0 by decide), if_neg (show ¬ nI 2 = nI 1 by decide), show 8 + 3 * j + 2 = 10 + 3 * j by omega]
              rcases hbu2.2.2 with z | z
              · rw [z, if_pos (show (0 : Int32) = nI 0 from rfl)]; rfl
              · rw [z, if_neg (show ¬ (1 : Int32) = nI 0 by decide)]; rfl
          · rw [if_neg (nI_ge (by omega) (by omega)), pk_mul, nI_add, nI_add, f7_of_s _ q (by omega), bdS]
      · rw [hd, if_pos (show bI false = nI 0 by decide)]
        refine ⟨.inl 0, nI 0, nI 2, ?_, by rw [m_fails, bdS], by decide, rfl⟩
        by_cases e1 : d < nI 0
        · rw [if_pos e1]
        · rw [if_neg e1]
          rcases rng_no hd with z | z
          · exact absurd z e1
          · rw [if_neg (not_le_lt.mpr z)]
  · refine ⟨.inl 2, nI 0, nI 1, ?_, ?_, by decide, rfl⟩
    · rw [c_no σ h hno, bxL]
    · rw [m_no _ h hno, bdS, if_pos rfl, m_fails, bdS]
set_option maxHeartbeats 1000000 in
theorem g_order (a : Int32) : Good (cf1 0) (f6_order a) (f7_order a) := by
  refine query fun q c T σ τ h => ?_
  obtain ⟨f, hE⟩ := h.1
  have hz := h.2.1.sz
  have hM := hz.M
  have hN : 20 < FU := by decide
  unfold f6_order f7_order
  simp only [lit, nmS, w62]
  by_cases h0 : nI 0 ≤ a
  · rw [if_pos h0, if_pos h0]
    have s6 : ∀ n i, i < nM q → f6_order_l16 a (fun s1 => some (.inr (-nI 9), s1)) (n + 1) (nI i) (wc σ 0 c) = if nI (ahN q i (nM q)) = a then some (.inr (nI i), wc σ 0 c) else f6_order_l16 a (fun s1 => some (.inr (-nI 9), s1)) n (nI (i + 1)) (wc σ 0 c) := fun n i hi => by
      rw [f6_order_l16]
      simp only [lit, nmS]
      rw [wc_b σ c (k := 30) (by decide), hE.t0, hM.1, if_neg (nI_ge hi (by omega)), c_ahead σ 0 hE hz hi, bdS, nI_add]
    have s7 : ∀ n i, i < nM q → f7_order_l17 a (fun s1 => some (-nI 9, s1)) (n + 1) (nI i) (wq (ms τ 62 0 0 (nI 0)) q) = if nI (ahN q i (nM q)) = a then some (nI i, wq (ms τ 62 0 0 (nI 0)) q) else f7_order_l17 a (fun s1 => some (-nI 9, s1)) n (nI (i + 1)) (wq (ms τ 62 0 0 (nI 0)) q) := fun n i hi => by
      rw [f7_order_l17]
      simp only [lit, nmS, wq_get, clI (show 0 < 2 ^ 31 by decide)]
      rw [hM.1, if_neg (nI_ge hi (by omega)), m_order32 _ hz hi hN, nI_add]
    have e6 : ∀ n, f6_order_l16 a (fun s1 => some (.inr (-nI 9), s1)) (n + 1) (nI (nM q)) (wc σ 0 c) = some (.inr (-nI 9), wc σ 0 c) := fun n => by
      rw [f6_order_l16]
      simp only [lit]
      rw [wc_b σ c (k := 30) (by decide), hE.t0, hM.1, if_pos (nI_le (Nat.le_refl _) (by omega))]
    have e7 : ∀ n, f7_order_l17 a (fun s1 => some (-nI 9, s1)) (n + 1) (nI (nM q)) (wq (ms τ 62 0 0 (nI 0)) q) = some (-nI 9, wq (ms τ 62 0 0 (nI 0)) q) := fun n => by
      rw [f7_order_l17]
      simp only [lit, wq_get, clI (show 0 < 2 ^ 31 by decide)]
      rw [hM.1, if_pos (nI_le (Nat.le_refl _) (by omega))]
    have hmain : ∀ d i n, i + d = nM q → d < n → ∃ v, f6_order_l16 a (fun s1 => some (.inr (-nI 9), s1)) n (nI i) (wc σ 0 c) = some (.inr v, wc σ 0 c) ∧ f7_order_l17 a (fun s1 => some (-nI 9, s1)) n (nI i) (wq (ms τ 62 0 0 (nI 0)) q) = some (v, wq (ms τ 62 0 0 (nI 0)) q) := by
      intro d
      induction d with
      | zero =>
        intro i n h1 h2
        obtain rfl : i = nM q := h1
        obtain ⟨k, rfl⟩ : ∃ k, n = k + 1 := ⟨n - 1, by omega⟩
        exact ⟨-nI 9, e6 k, e7 k⟩
      | succ d ih =>
        intro i n h1 h2
        obtain ⟨k, rfl⟩ : ∃ k, n = k + 1 := ⟨n - 1, by omega⟩
        rw [s6 k i (by omega), s7 k i (by omega)]
        by_cases e : nI (ahN q i (nM q)) = a
        · exact ⟨nI i, if_pos e, if_pos e⟩
        · rw [if_neg e, if_neg e]
          exact ih (i + 1) k (by omega) (by omega)
    obtain ⟨v, h1, h2⟩ := hmain (nM q) 0 FU (by omega) (by omega)
    exact ⟨.inr v, v, nI 0, h1, h2, rfl, rfl⟩
  · rw [if_neg h0, if_neg h0]
    refine ⟨.inl 0, nI 0, nI 1, rfl, ?_, by decide, rfl⟩
    rw [m_fails, bdS]
end QUERY2
