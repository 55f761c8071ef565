/-! bestCredit, bestSlot -/
section BEST
variable {q : QS} {c : Mem} {T B : Nat} {σ : Mem}
def GoodI (F6 F7 : Mem → Option (Int32 × Mem)) : Prop := ∀ σ B, Inv σ B → B + 3000 < 2 ^ 27 → ∃ r σ1 σ2, F6 σ = some (r, σ1) ∧ F7 σ1 = some (r, σ2) ∧ Inv σ2 (B + 100)
def DC (q : QS) (i : Nat) : Nat := dnT (fun _ => true) (qs q 4 (nI i)) 401
def DS (q : QS) (m i : Nat) : Nat := dnT (fun j => decide (j = m)) (qs q (11 + i) (nI m)) 401
theorem DC_le (q : QS) (i : Nat) : DC q i ≤ 401 := dnT_le _ _ _
theorem DS_le (q : QS) (m i : Nat) : DS q m i ≤ 401 := dnT_le _ _ _
theorem all_P {M : Nat} (h : 0 < M) (j : Nat) (hj : j < M) : ((fun _ => true) j = true ↔ (0 ≤ j ∧ j ≤ M - 1)) := ⟨fun _ => ⟨Nat.zero_le _, by omega⟩, fun _ => rfl⟩
theorem bst_s (D : Nat → Nat) (x i : Nat) : bst D x (i + 1) = if D i < (bst D x i).2 then (i, D i) else bst D x i := Eq.trans rfl rfl
set_option maxHeartbeats 1000000 in
theorem c_bestC (hp : Bus q (cOf σ 0) T) (hT : T + 1000 < 2 ^ 27) : ∀ d i n c, i + d = 10 → d < n → ∃ c', f6_bestCredit_l8 (fun y1 s1 => some (y1, s1)) n (nI (bst (DC q) 401 i).1) (nI (bst (DC q) 401 i).2) (nI i) (wc σ 15 c) = some (nI (bst (DC q) 401 10).1, wc σ 15 c') := by
  have hM := hp.2.1.sz.M
  intro d
  induction d with
  | zero =>
    intro i n c h1 h2
    obtain rfl : i = 10 := h1
    obtain ⟨k, rfl⟩ : ∃ k, n = k + 1 := ⟨n - 1, by omega⟩
    refine ⟨c, ?_⟩
    rw [f6_bestCredit_l8]
    simp only [lit]
    rw [if_pos (nI_lt (by omega) (by omega))]
  | succ d ih =>
    intro i n c h1 h2
    obtain ⟨k, rfl⟩ : ∃ k, n = k + 1 := ⟨n - 1, by omega⟩
    obtain ⟨c1, hc1, hc2⟩ := c_copy σ (o := 15) (a := 0) (by omega) hp c
    have hb := hc2.credit (nI i)
    have hle := bst_le (DC q) 401 i
    obtain ⟨l1, l2⟩ := lim hle.1
    have eM : nM (qs q 4 (nI i)) = nM q := nM_of (qs_ne _ _ (by omega))
    obtain ⟨c2, ht⟩ := c_till σ 15 (P := fun _ => true) (a := 0) (z := nM q - 1) (N := (bst (DC q) 401 i).2) (a3 := nI (bst (DC q) 401 i).2 - nI 1) hb (by omega) (by omega) (fun j hj => all_P (by omega) j (by omega)) l1 l2 hle.1 (by omega)
    have e30 : wc σ 15 (ms c1 34 0 0 (nI i)) 30 15 0 = nI (nM q) := by
      obtain ⟨f, hE⟩ := hb.1
      rw [wc_b _ _ (by decide), hE.t0, qs_ne _ _ (by omega)]; exact hM.1
    obtain ⟨M, hMe⟩ : ∃ M, nM q = M + 1 := ⟨nM q - 1, by omega⟩
    rw [f6_bestCredit_l8]
    simp only [lit, nmS]
    rw [if_neg (show ¬ nI 9 < nI i from fun z => by
      have := (nI_ltI (by omega) (by omega)).mp z
      omega), hc1, bvS, wc_sb σ c1 (by decide), e30, hMe, show nI (M + 1) - nI 1 = nI M from nI_pred M, show nI M = nI (nM q - 1) by rw [hMe]; rfl, ht, bdS]
    have hmin := dnT_min (fun _ => true) (qs q 4 (nI i)) hle.1
    have hDC : DC q i = dnT (fun _ => true) (qs q 4 (nI i)) 401 := rfl
    have hD := DC_le q i
    rw [← hDC] at hmin
    have ih2 := ih (i + 1) k c2 (by omega) (by omega)
    rw [bst_s] at ih2
    rw [hmin, nI_add]
    by_cases e : DC q i < (bst (DC q) 401 i).2
    · rw [if_pos e] at ih2 ⊢
      rw [if_neg (nI_ge e (by omega))]
      dsimp only at ih2
      exact ih2
    · rw [if_neg e] at ih2 ⊢
      rw [if_pos (nI_le (Nat.le_refl _) (by omega))]
      exact ih2
set_option maxHeartbeats 1000000 in
theorem m_bestC (hp : Bus q c T) (hT : T + 1000 < 2 ^ 27) (k1 : Int32 → Mem → Option (Int32 × Mem)) : ∀ d i n ρ r, i + d = 10 → d < n → (∀ j, j < 291 → j ≠ 4 → r j = q j) → ∃ ρ' r', f7_bestCredit_l21 k1 n (nI (bst (DC q) 402 i).1) (nI (bst (DC q) 402 i).2) (nI i) (wq ρ r) = k1 (nI (bst (DC q) 402 10).1) (wq ρ' r') ∧ (∀ j, j < 291 → j ≠ 4 → r' j = q j) ∧ ∀ k o x, k ≠ 20 → ρ' k o x = ρ k o x := by
  have hM := hp.2.1.sz.M
  intro d
  induction d with
  | zero =>
    intro i n ρ r h1 h2 hr
    obtain rfl : i = 10 := h1
    obtain ⟨k, rfl⟩ : ∃ k, n = k + 1 := ⟨n - 1, by omega⟩
    refine ⟨ρ, r, ?_, hr, fun _ _ _ _ => rfl⟩
    rw [f7_bestCredit_l21]
    simp only [lit]
    rw [if_pos (nI_le (Nat.le_refl _) (by omega))]
  | succ d ih =>
    intro i n ρ r h1 h2 hr
    obtain ⟨k, rfl⟩ : ∃ k, n = k + 1 := ⟨n - 1, by omega⟩
    have hle := bst_le (DC q) 402 i
    have er : ∀ j, j < 291 → qs r 4 (nI i) j = qs q 4 (nI i) j := fun j hj => by
      by_cases e : j = 4
      · rw [e, qs_same, qs_same]
      · rw [qs_ne _ _ e, qs_ne _ _ e, hr j hj e]
    have hb := hp.credit (nI i)
    have eM : nM (qs q 4 (nI i)) = nM q := nM_of (qs_ne _ _ (by omega))
    have eM2 : nM (qs r 4 (nI i)) = nM q := (nM_of (er 0 (by omega))).trans eM
    have hwb : Wb T T T (qs r 4 (nI i)) := hb.2.1.congr er
    obtain ⟨q2, m1, m2⟩ := m_done ρ hwb ((er 2 (by omega)).trans hb.2.2) hT (P := fun _ => true) (a1 := nI 63) (fun j hj => ⟨fun _ => rfl, fun _ => bit_63 ⟨j, by omega⟩⟩)
    have hD2 : dnT (fun _ => true) (qs r 4 (nI i)) 401 = DC q i := dnT_row (a := 0) (z := nM q - 1) hb er (by omega) (by omega) (fun j hj => all_P (by omega) j (by omega)) hT
    have hD := DC_le q i
    rw [hD2] at m1
    obtain ⟨ρ', r', i1, i2, i3⟩ := ih (i + 1) k (w2 ρ 2 (qs r 4 (nI i))) q2 (by omega) (by omega) (fun j h1 h2 => by rw [m2 j h1, er j h1, qs_ne _ _ h2])
    refine ⟨ρ', r', ?_, i2, fun k o x hk => (i3 k o x hk).trans (w2_out _ _ _ (by omega))⟩
    rw [← i1, f7_bestCredit_l21]
    simp only [lit, nmS, clI (show 4 < 2 ^ 31 by decide), wq_set]
    rw [if_neg (nI_ge (show i < 10 by omega) (by omega)), m1, bdS, bst_s, nI_add]
    by_cases e : DC q i < (bst (DC q) 402 i).2
    · rw [if_pos e, if_neg (nI_ge e (by omega)), if_neg (nI_ge e (by omega))]
    · rw [if_neg e, if_pos (nI_le (by omega) (by omega)), if_pos (nI_le (by omega) (by omega))]
theorem g_bestCredit : GoodI f6_bestCredit f7_bestCredit := by
  intro σ B h hB
  obtain ⟨T, hT, hp⟩ := h.1
  obtain ⟨c2, hs⟩ := c_bestC hp (by omega) 10 0 FU (cOf σ 15) rfl (by decide)
  rw [wc_self] at hs
  have hrow2 : ms (wc σ 15 c2) 62 0 0 (nI 0) 20 0 = σ 20 0 := (row62 _ _).trans (wc_row σ 15 c2)
  obtain ⟨ρ', r', h1, h2, h3⟩ := m_bestC hp (by omega) (fun y1 s2 => some (y1, ms s2 20 0 4 (σ 20 0 4))) 10 0 FU (ms (wc σ 15 c2) 62 0 0 (nI 0)) (σ 20 0) rfl (by decide) (fun j _ _ => rfl)
  refine ⟨nI (bst (DC (σ 20 0)) 401 10).1, wc σ 15 c2, wq ρ' (qs r' 4 (σ 20 0 4)), ?_, ?_, ?_⟩
  · unfold f6_bestCredit
    simp only [lit, nmS]
    exact hs
  · unfold f7_bestCredit
    simp only [lit, nmS, clI (show 4 < 2 ^ 31 by decide)]
    rw [← wq_of hrow2, wq_get]
    refine h1.trans ?_
    rw [bst_eq _ (DC_le (σ 20 0)) 9, wq_set]
  · refine trial h (t15_wc σ c2 (Or.inl rfl)) (fun k o i z1 z2 => ?_) (fun j hj => ?_)
    · rw [wq_other _ _ _ (by omega), h3 k o i z1, ms_ne _ _ (by omega)]
    · rw [wq_get]
      by_cases e : j = 4
      · rw [e, qs_same]
      · rw [qs_ne _ _ e]; exact h2 j hj e
set_option maxHeartbeats 1000000 in
theorem c_bestS (hp : Bus q (cOf σ 0) T) (hT : T + 1000 < 2 ^ 27) {m : Nat} (hm : m < nM q) : ∀ d i n c, i + d = nS q → d < n → ∃ c', f6_bestSlot_l32 (nI m) (fun y1 s1 => some (.inr y1, s1)) n (nI (bst (DS q m) 401 i).1) (nI (bst (DS q m) 401 i).2) (nI i) (wc σ 15 c) = some (.inr (nI (bst (DS q m) 401 (nS q)).1), wc σ 15 c') := by
  have hM := hp.2.1.sz.M
  have hS := hp.2.1.sz.S
  have e31 : ∀ c, wc σ 15 c 31 0 0 = nI (nS q) := fun c => by
    obtain ⟨f, hE⟩ := hp.1
    exact (rd_b σ c (k := 31) (by decide) (show 0 ≠ 15 by omega) 0).trans (hE.t1.trans hS.1)
  intro d
  induction d with
  | zero =>
    intro i n c h1 h2
    obtain rfl : i = nS q := h1
    obtain ⟨k, rfl⟩ : ∃ k, n = k + 1 := ⟨n - 1, by omega⟩
    refine ⟨c, ?_⟩
    rw [f6_bestSlot_l32, e31, if_pos (nI_le (Nat.le_refl _) (by omega))]
  | succ d ih =>
    intro i n c h1 h2
    obtain ⟨k, rfl⟩ : ∃ k, n = k + 1 := ⟨n - 1, by omega⟩
    obtain ⟨c1, hc1, hc2⟩ := c_copy σ (o := 15) (a := 0) (by omega) hp c
    have hb := hc2.give (s := i) (by omega) hm
    have hle := bst_le (DS q m) 401 i
    obtain ⟨l1, l2⟩ := lim hle.1
    have eM : nM (qs q (11 + i) (nI m)) = nM q := nM_of (qs_ne _ _ (by omega))
    obtain ⟨c2, ht⟩ := c_till σ 15 (P := fun j => decide (j = m)) (a := m) (z := m) (N := (bst (DS q m) 401 i).2) (a3 := nI (bst (DS q m) 401 i).2 - nI 1) hb (by omega) (by omega) (fun j hj => one_P j hj) l1 l2 hle.1 (by omega)
    rw [f6_bestSlot_l32]
    simp only [lit, nmS]
    rw [e31, if_neg (nI_ge (show i < nS q by omega) (by omega)), hc1, bvS, gd_ib (show i < 16 by omega) (by decide), clI (show i < 2 ^ 31 by omega), wc_sb σ c1 (by decide), ht, bdS]
    have hmin := dnT_min (fun j => decide (j = m)) (qs q (11 + i) (nI m)) hle.1
    have hDC : DS q m i = dnT (fun j => decide (j = m)) (qs q (11 + i) (nI m)) 401 := rfl
    have hD := DS_le q m i
    rw [← hDC] at hmin
    have ih2 := ih (i + 1) k c2 (by omega) (by omega)
    rw [bst_s] at ih2
    rw [hmin, nI_add]
    by_cases e : DS q m i < (bst (DS q m) 401 i).2
    · rw [if_pos e] at ih2 ⊢
      rw [if_neg (nI_ge e (by omega))]
      dsimp only at ih2
      exact ih2
    · rw [if_neg e] at ih2 ⊢
      rw [if_pos (nI_le (Nat.le_refl _) (by omega))]
      exact ih2
set_option maxHeartbeats 1000000 in
theorem m_bestS (hp : Bus q c T) (hT : T + 1000 < 2 ^ 27) {m : Nat} (hm : m < nM q) (k1 : Int32 → Mem → Option (Int32 × Mem)) : ∀ d i n ρ r, i + d = nS q → d < n → (∀ j, j < 291 → r j = q j) → ∃ ρ' r', f7_bestSlot_l39 (nI m) k1 n (nI (bst (DS q m) 402 i).1) (nI (bst (DS q m) 402 i).2) (nI i) (wq ρ r) = k1 (nI (bst (DS q m) 402 (nS q)).1) (wq ρ' r') ∧ (∀ j, j < 291 → r' j = q j) ∧ ∀ k o x, k ≠ 20 → ρ' k o x = ρ k o x := by
  have hM := hp.2.1.sz.M
  have hS := hp.2.1.sz.S
  intro d
  induction d with
  | zero =>
    intro i n ρ r h1 h2 hr
    obtain rfl : i = nS q := h1
    obtain ⟨k, rfl⟩ : ∃ k, n = k + 1 := ⟨n - 1, by omega⟩
    refine ⟨ρ, r, ?_, hr, fun _ _ _ _ => rfl⟩
    rw [f7_bestSlot_l39]
    simp only [lit, clI (show 1 < 2 ^ 31 by decide), wq_get]
    rw [hr 1 (by omega), hS.1, if_pos (nI_le (Nat.le_refl _) (by omega))]
  | succ d ih =>
    intro i n ρ r h1 h2 hr
    obtain ⟨k, rfl⟩ : ∃ k, n = k + 1 := ⟨n - 1, by omega⟩
    have hle := bst_le (DS q m) 402 i
    have er : ∀ j, j < 291 → qs r (11 + i) (nI m) j = qs q (11 + i) (nI m) j := fun j hj => by
      by_cases e : j = 11 + i
      · rw [e, qs_same, qs_same]
      · rw [qs_ne _ _ e, qs_ne _ _ e, hr j hj]
    have hb := hp.give (s := i) (by omega) hm
    have eM : nM (qs q (11 + i) (nI m)) = nM q := nM_of (qs_ne _ _ (by omega))
    have eM2 : nM (qs r (11 + i) (nI m)) = nM q := (nM_of (er 0 (by omega))).trans eM
    have hwb : Wb T T T (qs r (11 + i) (nI m)) := hb.2.1.congr er
    obtain ⟨q2, m1, m2⟩ := m_done ρ hwb ((er 2 (by omega)).trans hb.2.2) hT (P := fun j => decide (j = m)) (a1 := nI 1 <<< (nI m &&& 31)) (fun j hj => bit_1' (by omega) (by omega))
    have hD2 : dnT (fun j => decide (j = m)) (qs r (11 + i) (nI m)) 401 = DS q m i := dnT_row (a := m) (z := m) hb er (by omega) (by omega) (fun j hj => one_P j hj) hT
    have hD := DS_le q m i
    rw [hD2] at m1
    simp only [lit] at m1
    obtain ⟨ρ', r', i1, i2, i3⟩ := ih (i + 1) k (w2 ρ 2 (qs r (11 + i) (nI m))) (qs q2 (11 + i) (r (11 + i))) (by omega) (by omega) (fun j h1 => by
      by_cases e : j = 11 + i
      · rw [e, qs_same, hr _ (by omega)]
      · rw [qs_ne _ _ e, m2 j h1, er j h1, qs_ne _ _ e])
    refine ⟨ρ', r', ?_, i2, fun k o x hk => (i3 k o x hk).trans (w2_out _ _ _ (by omega))⟩
    rw [← i1, f7_bestSlot_l39]
    simp only [lit, nmS, clI (show 1 < 2 ^ 31 by decide), wq_get]
    rw [hr 1 (by omega), hS.1, if_neg (nI_ge (show i < nS q by omega) (by omega)), nI_add, m_puts _ _ (by omega), bdS, m1, bdS, gd_ib (show 11 + i < 291 by omega) (by decide), clI (show 11 + i < 2 ^ 31 by omega), wq_set, bst_s, nI_add]
    by_cases e : DS q m i < (bst (DS q m) 402 i).2
    · rw [if_pos e, if_neg (nI_ge e (by omega)), if_neg (nI_ge e (by omega))]
    · rw [if_neg e, if_pos (nI_le (by omega) (by omega)), if_pos (nI_le (by omega) (by omega))]
theorem g_bestSlot (a : Int32) : Good (cf1 2) (f6_bestSlot a) (f7_bestSlot a) := by
  intro σ B h hB
  obtain ⟨T, hT, hp⟩ := h.1
  have hM := hp.2.1.sz.M
  have hS := hp.2.1.sz.S
  obtain ⟨f0, hE0⟩ := hp.1
  rcases isM_or hp a with ⟨m, hm, rfl⟩ | hno
  · have hm6 : m < 6 := by omega
    have e40 : σ 40 (6 * 0 + m) 0 = bI (bkQ (σ 20 0) m) := hE0.bk hm6
    cases hbk : bkQ (σ 20 0) m with
    | false =>
      rw [hbk] at e40
      obtain ⟨c2, hs⟩ := c_bestS hp (by omega) hm (nS (σ 20 0)) 0 FU (cOf σ 15) (by omega) (Nat.lt_of_le_of_lt hS.2.1 (by decide))
      rw [wc_self] at hs
      have hrow2 : ms (wc σ 15 c2) 62 0 0 (nI 0) 20 0 = σ 20 0 := (row62 _ _).trans (wc_row σ 15 c2)
      obtain ⟨ρ', r', h1, h2, h3⟩ := m_bestS hp (by omega) hm (fun y1 s4 => some (y1, s4)) (nS (σ 20 0)) 0 FU (ms (wc σ 15 c2) 62 0 0 (nI 0)) (σ 20 0) (by omega) (Nat.lt_of_le_of_lt hS.2.1 (by decide)) (fun j _ => rfl)
      obtain ⟨S, hSe⟩ : ∃ S, nS (σ 20 0) = S + 1 := ⟨nS (σ 20 0) - 1, by omega⟩
      refine ⟨.inr (nI (bst (DS (σ 20 0) m) 401 (nS (σ 20 0))).1), wc σ 15 c2, nI (bst (DS (σ 20 0) m) 401 (nS (σ 20 0))).1, wq ρ' r', ?_, ?_, ?_, ?_, rfl⟩
      · unfold f6_bestSlot
        simp only [lit, nmS]
        rw [p_yes hp hm, bxR, gd_ib hm6 (by decide), clI (show m < 2 ^ 31 by omega), e40, if_pos (show bI false = nI 0 by decide)]
        exact hs
      · unfold f7_bestSlot
        simp only [lit, nmS]
        rw [← wq_of hrow2, m_yes _ hp hm, bdS, if_neg (show ¬ nI 1 = nI 0 by decide), f7_isBankrupt_s, bdS, hbk, if_pos (show bI false = nI 0 by decide)]
        refine h1.trans ?_
        rw [hSe, bst_eq _ (DS_le (σ 20 0) m) S]
      · refine trial h (t15_wc σ c2 (Or.inl rfl)) (fun k o i z1 z2 => ?_) (fun j hj => ?_)
        · rw [wq_other _ _ _ (by omega), h3 k o i z1, ms_ne _ _ (by omega)]
        · rw [wq_get]; exact h2 j hj
      · rw [wq_other _ _ _ (by omega), h3 _ _ _ (by decide), ms_eq]; rfl
    | true =>
      rw [hbk] at e40
      refine ⟨.inr (-nI 9), σ, -nI 9, ms σ 62 0 0 (nI 0), ?_, ?_, inv62 h _ (by omega), ms_eq _ _ _ _ _, rfl⟩
      · unfold f6_bestSlot
        simp only [lit, nmS]
        rw [p_yes hp hm, bxR, gd_ib hm6 (by decide), clI (show m < 2 ^ 31 by omega), e40, if_neg (show ¬ bI true = nI 0 by decide)]
      · unfold f7_bestSlot
        simp only [lit, nmS]
        rw [← e62, m_yes _ hp hm, bdS, if_neg (show ¬ nI 1 = nI 0 by decide), f7_isBankrupt_s, bdS, hbk, if_neg (show ¬ bI true = nI 0 by decide)]
  · refine refuse h (e := 2) ?_ (by decide) ?_
    · unfold f6_bestSlot
      rw [p_no hp hno, bxL]
    · unfold f7_bestSlot
      simp only [lit, nmS]
      rw [← e62, m_no _ hp hno, bdS, if_pos rfl, m_fails, bdS]
      rfl
end BEST
