/-! WHAT WOULD BE: turnIn, doneIn, bestCredit, bestSlot -/
section TRIAL
variable {q r : QS} {c : Mem} {T B : Nat} {σ σ' σ1 σ2 : Mem}
/-- only the trial and the probe have changed -/
def T15 (σ σ' : Mem) : Prop := ∀ k o i, ¬ (isB k = true ∧ (o = 15 ∨ o = 16)) → ¬ (isM k = true ∧ (o / 6 = 15 ∨ o / 6 = 16)) → σ' k o i = σ k o i
theorem T15.refl (σ : Mem) : T15 σ σ := fun _ _ _ _ _ => rfl
theorem T15.trans {τ : Mem} (h : T15 σ σ') (g : T15 σ' τ) : T15 σ τ := fun k o i h1 h2 => (g k o i h1 h2).trans (h k o i h1 h2)
theorem t15_wc (σ : Mem) {b : Nat} (c : Mem) (hb : b = 15 ∨ b = 16) : T15 σ (wc σ b c) := fun k o i h2 h3 => by
  unfold wc
  by_cases e : isB k = true
  · rw [if_pos e, if_neg (fun z => h2 ⟨e, by omega⟩)]
  · rw [if_neg e]
    by_cases e2 : isM k = true
    · rw [if_pos e2, if_neg (fun z => h3 ⟨e2, by omega⟩)]
    · rw [if_neg e2]
theorem t15_row (h : T15 σ σ1) : σ1 20 0 = σ 20 0 := by
  funext i
  exact h 20 0 i (fun z => by cases z.1) (fun z => by cases z.1)
theorem trial (h : Inv σ B) (k : T15 σ σ1) (e : ∀ k o i, k ≠ 20 → k ≠ 62 → σ2 k o i = σ1 k o i) (er : ∀ j, j < 291 → σ2 20 0 j = σ 20 0 j) : Inv σ2 (B + 100) := by
  obtain ⟨⟨T, hT, hp⟩, hr⟩ := h
  have kk : Keep σ σ2 := fun k1 o i hc => by
    by_cases e2 : k1 = 20
    · exact absurd (by rw [e2]; exact ch_20 o) hc
    · by_cases e3 : k1 = 62
      · exact absurd (by rw [e3]; exact ch_t (by omega) (by omega) o) hc
      · rw [e k1 o i e2 e3]
        refine k k1 o i (fun z => hc (ch_b z.1 (by omega))) (fun z => ?_)
        cases hb : isB k1 with
        | true =>
          have := isB_is hb
          have := isM_is z.1
          omega
        | false => exact hc (ch_m hb z.1 (by omega))
  refine ⟨⟨T, by omega, Bus.rows (q := σ 20 0) ?_ er⟩, hr.keep kk (by omega)⟩
  refine hp.mv0 (fun k1 i hk => ?_) (fun k1 o i hk hk2 ho => ?_)
  · have := isB_is hk
    rw [e k1 0 i (by omega) (by omega)]
    refine k k1 0 i (fun z => by omega) (fun z => by omega)
  · have := isM_is hk2
    rw [e k1 _ i (by omega) (by omega)]
    exact k k1 _ i (fun z => by rw [hk] at z; cases z.1) (fun z => by omega)
theorem g_turnIn (a : Int32) : Good (cf1 0) (f6_turnIn a) (f7_turnIn a) := by
  intro σ B h hB
  obtain ⟨T, hT, hp⟩ := h.1
  rcases rng_or a (l := 0) (u := 99) (by omega) (by decide) with ⟨n, -, hn, rfl⟩ | hno
  · obtain ⟨c1, hc1, hc2⟩ := c_copy σ (o := 15) (a := 0) (by omega) hp (cOf σ 15)
    rw [wc_self] at hc1
    obtain ⟨c2, hs1, hs2⟩ := hc2.steps (n := n + 1) (by omega) (by omega) σ 15
    obtain ⟨f, hE⟩ := hs2.1
    have e5 : c2 35 0 0 = oN (tk1 (tkN (σ 20 0) n)).1 := hE.ty.trans (tkQ_5 _)
    have hw := tkN_wb hp.2.1 hp.2.2 n (by omega)
    have ht := hw.1.tick hw.2 (by omega)
    obtain ⟨q2, h1, h2⟩ := cp_in (w2 (ms (wc σ 15 c2) 62 0 0 (nI 0)) 1 (σ 20 0)) (σ 20 0) (tkN (σ 20 0) (n + 1)) (a := 1) (by decide) (fun i hi => w2_in _ 1 _ hi)
    have hrow : (wc σ 15 c2) 20 0 = σ 20 0 := wc_row σ 15 c2
    have hrow2 : ms (wc σ 15 c2) 62 0 0 (nI 0) 20 0 = σ 20 0 := (row62 _ _).trans hrow
    have h1' : f7_copy 1 0 (wq (w2 (ms (wc σ 15 c2) 62 0 0 (nI 0)) 1 (σ 20 0)) (tkQ (tkN (σ 20 0) n))) = some (wq (w2 (ms (wc σ 15 c2) 62 0 0 (nI 0)) 1 (σ 20 0)) q2) := h1
    refine ⟨.inr (oN (tk1 (tkN (σ 20 0) n)).1), wc σ 15 c2, oN (tk1 (tkN (σ 20 0) n)).1, wq (w2 (ms (wc σ 15 c2) 62 0 0 (nI 0)) 1 (σ 20 0)) q2, ?_, ?_, ?_, ?_, rfl⟩
    · unfold f6_turnIn
      simp only [lit]
      rw [if_neg (show ¬ nI n < nI 0 from nI_pos (by omega)), if_pos (nI_le hn (by decide)), hc1, bvS, nI_add, hs1, bvS, wc_b _ _ (by decide), e5]
    · unfold f7_turnIn
      simp only [lit, nmS]
      rw [m_in (nI n) (nI 0) (nI 99) (by decide) (by decide), bdS, rng_in (by omega) hn (by decide), if_neg (show ¬ bI true = nI 0 by decide), ← wq_of hrow2, cp_out _ _ (by decide), bvS, m_passes _ hp.2.1 hp.2.2 (by omega) (by omega), bdS, ht.ref, bdS, h1', bvS]
      cases hk : (tk1 (tkN (σ 20 0) n)).1 with
      | none => rw [if_neg (show ¬ nI 0 ≤ oI none by decide), wq_of hrow2]; rfl
      | some k =>
        have := (ht.who k hk).1
        have := hw.1.sz.M
        rw [if_pos (show nI 0 ≤ oI (some k) from nI_le (Nat.zero_le k) (by omega)), wq_of hrow2]; rfl
    · refine trial h (t15_wc σ c2 (Or.inl rfl)) (fun k o i z1 z2 => ?_) (fun j hj => ?_)
      · rw [wq_other _ _ _ (by omega), w2_out _ _ _ (by omega), ms_ne _ _ (by omega)]
      · rw [wq_get]; exact h2 j hj
    · rw [wq_other _ _ _ (by omega), w2_out _ _ _ (by omega), ms_eq]; rfl
  · refine refuse h (e := 0) ?_ (by decide) ?_
    · unfold f6_turnIn
      simp only [lit]
      by_cases e1 : a < nI 0
      · rw [if_pos e1]
      · rw [if_neg e1, if_neg (not_le_lt.mpr ((rng_no hno).resolve_left e1))]
    · unfold f7_turnIn
      simp only [lit, nmS]
      rw [m_in a (nI 0) (nI 99) (by decide) (by decide), bdS, hno, if_pos (show bI false = nI 0 by decide), ← e62, m_fails, bdS]
      rfl
theorem lim {N : Nat} (hN : N ≤ 401) : nI N - nI 1 + 1 = nI N ∧ ∀ i, i ≤ N → (nI N - nI 1 < nI i ↔ N ≤ i) := by
  refine ⟨Int32.sub_add_cancel _ _, fun i hi => ?_⟩
  rw [Int32.lt_iff_toInt_lt, pk_sub_toInt (by omega) (by omega), nI_toInt (by omega)]
  omega
theorem one_P {M m : Nat} (j : Nat) (_ : j < M) : ((fun i => decide (i = m)) j = true ↔ (m ≤ j ∧ j ≤ m)) := by
  rw [decide_eq_true_iff]; omega
theorem g_doneIn (a : Int32) : Good (cf1 2) (f6_doneIn a) (f7_doneIn a) := by
  intro σ B h hB
  obtain ⟨T, hT, hp⟩ := h.1
  have hM := hp.2.1.sz.M
  rcases isM_or hp a with ⟨m, hm, rfl⟩ | hno
  · obtain ⟨c1, hc1, hc2⟩ := c_copy σ (o := 15) (a := 0) (by omega) hp (cOf σ 15)
    rw [wc_self] at hc1
    obtain ⟨c2, hs⟩ := c_till σ 15 (P := fun i => decide (i = m)) (a := m) (z := m) (N := 401) (a3 := nI 400) hc2 hm (Nat.le_refl _) (fun j hj => one_P j hj) (by decide) (fun i hi => by rw [nI_ltI (by omega) (by omega)]; omega) (by omega) (by omega)
    have hrow2 : ms (wc σ 15 c2) 62 0 0 (nI 0) 20 0 = σ 20 0 := (row62 _ _).trans (wc_row σ 15 c2)
    obtain ⟨q2, h1, h2⟩ := m_done (ms (wc σ 15 c2) 62 0 0 (nI 0)) hp.2.1 hp.2.2 (by omega) (P := fun i => decide (i = m)) (a1 := nI 1 <<< (nI m &&& 31)) (fun i hi => bit_1' (by omega) (by omega))
    simp only [lit] at h1
    refine ⟨.inr (if nI (dnT (fun i => decide (i = m)) (σ 20 0) 401) ≤ nI 400 then nI (dnT (fun i => decide (i = m)) (σ 20 0) 401) else -nI 9), wc σ 15 c2, (if nI (dnT (fun i => decide (i = m)) (σ 20 0) 401) ≤ nI 400 then nI (dnT (fun i => decide (i = m)) (σ 20 0) 401) else -nI 9), wq (w2 (ms (wc σ 15 c2) 62 0 0 (nI 0)) 2 (σ 20 0)) q2, ?_, ?_, ?_, ?_, rfl⟩
    · unfold f6_doneIn
      simp only [lit]
      rw [p_yes hp hm, bxR, hc1, bvS, hs, bdS]
      by_cases e : nI (dnT (fun i => decide (i = m)) (σ 20 0) 401) ≤ nI 400
      · rw [if_pos e, if_pos e]
      · rw [if_neg e, if_neg e]
    · unfold f7_doneIn
      simp only [lit, nmS]
      rw [← wq_of hrow2, m_yes _ hp hm, bdS, if_neg (show ¬ nI 1 = nI 0 by decide), h1, bdS, wq_of hrow2]
      by_cases e : nI (dnT (fun i => decide (i = m)) (σ 20 0) 401) ≤ nI 400
      · rw [if_pos e, if_pos e]
      · rw [if_neg e, if_neg e]
    · refine trial h (t15_wc σ c2 (Or.inl rfl)) (fun k o i z1 z2 => ?_) (fun j hj => ?_)
      · rw [wq_other _ _ _ (by omega), w2_out _ _ _ (by omega), ms_ne _ _ (by omega)]
      · rw [wq_get]; exact h2 j hj
    · rw [wq_other _ _ _ (by omega), w2_out _ _ _ (by omega), ms_eq]; rfl
  · refine refuse h (e := 2) ?_ (by decide) ?_
    · unfold f6_doneIn
      rw [p_no hp hno, bxL]
    · unfold f7_doneIn
      simp only [lit, nmS]
      rw [← e62, m_no _ hp hno, bdS, if_pos rfl, m_fails, bdS]
      rfl
/-! the best one -/
theorem dnT_min (P : Nat → Bool) (q : QS) {N M : Nat} (h : N ≤ M) : dnT P q N = if dnT P q M < N then dnT P q M else N := by
  unfold dnT
  cases e : firstN (fun n => dnQ P (tkN q n)) N with
  | some k =>
    obtain ⟨h1, h2, h3⟩ := firstN_some e
    rw [firstN_is (n := M) (k := k) (by omega) h2 h3]
    exact (if_pos h1).symm
  | none =>
    have h1 := firstN_none e
    cases e2 : firstN (fun n => dnQ P (tkN q n)) M with
    | none =>
      show N = if M < N then M else N
      rw [if_neg (by omega)]
    | some k =>
      obtain ⟨g1, g2, g3⟩ := firstN_some e2
      refine (if_neg fun z => ?_).symm
      have := h1 k z
      rw [g2] at this; cases this
theorem dnT_row {P : Nat → Bool} {a z : Nat} (h : Bus q c T) (e : ∀ i, i < 291 → r i = q i) (hz : z < nM q) (haz : a ≤ z) (hP : ∀ m, m < nM q → (P m = true ↔ (a ≤ m ∧ m ≤ z))) (hT : T + 1000 < 2 ^ 27) : dnT P r 401 = dnT P q 401 := by
  have hM : nM r = nM q := nM_of (e 0 (by omega))
  have h3 := fun i (hi : i ≤ 401) => show (nI 400 < nI i ↔ 401 ≤ i) by rw [nI_ltI (by omega) (by omega)]; omega
  obtain ⟨c1, h1⟩ := c_till c 0 (P := P) (a := a) (z := z) (N := 401) (a3 := nI 400) h hz haz hP (by decide) h3 (by omega) hT
  obtain ⟨c2, h2⟩ := c_till c 0 (P := P) (a := a) (z := z) (N := 401) (a3 := nI 400) (h.rows e) (by omega) haz (fun m hm => hP m (by omega)) (by decide) h3 (by omega) hT
  rw [h1] at h2
  have h4 : nI (dnT P q 401) = nI (dnT P r 401) := (Prod.mk.inj (Option.some.inj h2)).1
  have l1 := dnT_le P q 401
  have l2 := dnT_le P r 401
  exact ((nI_eq (by omega) (by omega)).mp h4).symm
/-- the least of some numbers, and where it stands first -/
def bst (D : Nat → Nat) (x : Nat) : Nat → Nat × Nat
  | 0 => (0, x)
  | n + 1 => if D n < (bst D x n).2 then (n, D n) else bst D x n
theorem bst_le (D : Nat → Nat) (x : Nat) : ∀ n, (bst D x n).2 ≤ x ∧ (bst D x n).1 ≤ n
  | 0 => ⟨Nat.le_refl x, Nat.le_refl 0⟩
  | n + 1 => by
    have ih := bst_le D x n
    unfold bst
    by_cases e : D n < (bst D x n).2
    · rw [if_pos e]; exact ⟨by show D n ≤ x; omega, Nat.le_succ n⟩
    · rw [if_neg e]; exact ⟨ih.1, by omega⟩
theorem bst_eq (D : Nat → Nat) (hD : ∀ i, D i ≤ 401) : ∀ n, bst D 401 (n + 1) = bst D 402 (n + 1)
  | 0 => by
    show (if D 0 < 401 then (0, D 0) else (0, 401)) = (if D 0 < 402 then (0, D 0) else (0, 402))
    have := hD 0
    rw [if_pos (show D 0 < 402 by omega)]
    by_cases e : D 0 < 401
    · rw [if_pos e]
    · rw [if_neg e, show D 0 = 401 by omega]
  | n + 1 => by
    have ih := bst_eq D hD n
    show (if D (n + 1) < (bst D 401 (n + 1)).2 then (n + 1, D (n + 1)) else bst D 401 (n + 1)) = (if D (n + 1) < (bst D 402 (n + 1)).2 then (n + 1, D (n + 1)) else bst D 402 (n + 1))
    rw [ih]
end TRIAL
