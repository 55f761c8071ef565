/-! SUMS: the class's and the reference's -/
section SUMS
variable {S : Nat} {nb na : Nat → Nat} {q : QS} {x y : Int32} {f : Nat → Int32} {c : Mem}
theorem c_waiting (σ : Mem) (b : Nat) (h : E S nb na q x y f c) (hz : Sz q) : f2_waitingBursts b (wc σ b c) = some (sumF (fun m => mQ q m 0) (nM q), wc σ b c) := by
  obtain ⟨g1, g2, g3⟩ := hz.M
  have hN : 20 < FU := by decide
  unfold f2_waitingBursts
  generalize FU = N at hN ⊢
  simp only [nmS]
  refine lup (fun n (z : Int32 × Int32) => f2_waitingBursts_l4 b _ n z.1 z.2 (wc σ b c)) (fun i => (sumF (fun m => mQ q m 0) i, nI i)) (nM q) _ ?_ ?_ (nM q) 0 N (by omega) (by omega)
  · intro n i hi
    show f2_waitingBursts_l4 _ _ (n + 1) (sumF (fun m => mQ q m 0) i) (nI i) _ = f2_waitingBursts_l4 _ _ n (sumF (fun m => mQ q m 0) i + mQ q i 0) (nI (i + 1)) _
    rw [f2_waitingBursts_l4]
    simp (disch := first | omega | decide) only [lit, nmS, clI, nI_add, gd_ib, wc_b, wc_m, h.t0, h.tnb, g1]
    rw [if_neg (nI_ge hi (by omega))]
  · intro n
    show f2_waitingBursts_l4 _ _ (n + 1) _ (nI (nM q)) _ = _
    rw [f2_waitingBursts_l4]
    simp (disch := first | omega | decide) only [wc_b, h.t0, g1]
    rw [if_pos (nI_le (Nat.le_refl _) (by omega))]
theorem c_open (σ : Mem) (b : Nat) (h : E S nb na q x y f c) (hz : Sz q) : f2_openAnswers b (wc σ b c) = some (sumF (fun m => mQ q m 7) (nM q), wc σ b c) := by
  obtain ⟨g1, g2, g3⟩ := hz.M
  have hN : 20 < FU := by decide
  unfold f2_openAnswers
  generalize FU = N at hN ⊢
  simp only [nmS]
  refine lup (fun n (z : Int32 × Int32) => f2_openAnswers_l4 b _ n z.1 z.2 (wc σ b c)) (fun i => (sumF (fun m => mQ q m 7) i, nI i)) (nM q) _ ?_ ?_ (nM q) 0 N (by omega) (by omega)
  · intro n i hi
    show f2_openAnswers_l4 _ _ (n + 1) (sumF (fun m => mQ q m 7) i) (nI i) _ = f2_openAnswers_l4 _ _ n (sumF (fun m => mQ q m 7) i + mQ q i 7) (nI (i + 1)) _
    rw [f2_openAnswers_l4]
    simp (disch := first | omega | decide) only [lit, nmS, clI, nI_add, gd_ib, wc_b, wc_m, h.t0, h.tna, g1]
    rw [if_neg (nI_ge hi (by omega))]
  · intro n
    show f2_openAnswers_l4 _ _ (n + 1) _ (nI (nM q)) _ = _
    rw [f2_openAnswers_l4]
    simp (disch := first | omega | decide) only [wc_b, h.t0, g1]
    rw [if_pos (nI_le (Nat.le_refl _) (by omega))]
theorem c_allDebts (σ : Mem) (b : Nat) (h : E S nb na q x y f c) (hz : Sz q) : f2_allDebts b (wc σ b c) = some (sumF (dbQ q) (nM q), wc σ b c) := by
  obtain ⟨g1, g2, g3⟩ := hz.M
  have hN : 20 < FU := by decide
  unfold f2_allDebts
  generalize FU = N at hN ⊢
  simp only [nmS]
  refine lup (fun n (z : Int32 × Int32) => f2_allDebts_l4 b _ n z.1 z.2 (wc σ b c)) (fun i => (sumF (dbQ q) i, nI i)) (nM q) _ ?_ ?_ (nM q) 0 N (by omega) (by omega)
  · intro n i hi
    show f2_allDebts_l4 _ _ (n + 1) (sumF (dbQ q) i) (nI i) _ = f2_allDebts_l4 _ _ n (sumF (dbQ q) i + dbQ q i) (nI (i + 1)) _
    rw [f2_allDebts_l4]
    simp (disch := first | omega | decide) only [lit, nmS, clI, nI_add, gd_ib, wc_b, h.t0, g1, c_debts σ b h, bdS]
    rw [if_neg (nI_ge hi (by omega))]
  · intro n
    show f2_allDebts_l4 _ _ (n + 1) _ (nI (nM q)) _ = _
    rw [f2_allDebts_l4]
    simp (disch := first | omega | decide) only [wc_b, h.t0, g1]
    rw [if_pos (nI_le (Nat.le_refl _) (by omega))]
theorem c_owedTo (σ : Mem) (b : Nat) (h : E S nb na q x y f c) (hz : Sz q) {a : Nat} (ha : a < nM q) : f2_owedTo b (nI a) (wc σ b c) = some (sumF (fun m => owQ q m a) (nM q), wc σ b c) := by
  obtain ⟨g1, g2, g3⟩ := hz.M
  have hN : 20 < FU := by decide
  unfold f2_owedTo
  generalize FU = N at hN ⊢
  simp only [lit, nmS, c_has_in σ b h hz ha, bdS]
  rw [if_neg (show ¬ nI 1 = nI 0 by decide)]
  refine lup (fun n (z : Int32 × Int32) => f2_owedTo_l12 b (nI a) _ n z.1 z.2 (wc σ b c)) (fun i => (sumF (fun m => owQ q m a) i, nI i)) (nM q) _ ?_ ?_ (nM q) 0 N (by omega) (by omega)
  · intro n i hi
    show f2_owedTo_l12 _ _ _ (n + 1) (sumF (fun m => owQ q m a) i) (nI i) _ = f2_owedTo_l12 _ _ _ n (sumF (fun m => owQ q m a) i + owQ q i a) (nI (i + 1)) _
    rw [f2_owedTo_l12]
    simp (disch := first | omega | decide) only [lit, nmS, clI, nI_add, gd_ib, wc_b, wc_m, h.t0, h.ow, g1]
    rw [if_neg (nI_ge hi (by omega))]
  · intro n
    show f2_owedTo_l12 _ _ _ (n + 1) _ (nI (nM q)) _ = _
    rw [f2_owedTo_l12]
    simp (disch := first | omega | decide) only [wc_b, h.t0, g1]
    rw [if_pos (nI_le (Nat.le_refl _) (by omega))]
theorem sum_cut {g : Nat → Int32} {n : Nat} : ∀ k, (∀ i, n ≤ i → i < n + k → g i = 0) → sumF g (n + k) = sumF g n
  | 0, _ => rfl
  | k + 1, h => by
    show sumF g (n + k) + g (n + k) = _
    rw [h (n + k) (by omega) (by omega), sum_cut k fun i h1 h2 => h i h1 (by omega)]
    exact Int32.add_zero _
theorem owed_cut {Bd Ba Bw : Nat} (h : Wb Bd Ba Bw q) {a : Nat} (ha : a < 6) : sumF (fun m => owQ q m a) 6 = sumF (fun m => owQ q m a) (nM q) := by
  have hM := h.sz.M
  have h9 := sum_cut (g := fun m => owQ q m a) (n := nM q) (6 - nM q) (fun i h1 h2 => h.debt0 i a (by omega) ha (Or.inl h1))
  rw [show nM q + (6 - nM q) = 6 by omega] at h9
  exact h9
theorem c_bits (σ : Mem) (b : Nat) (h : E S nb na q x y f c) (hz : Sz q) : f2_bankruptBits b (wc σ b c) = some (mk (bkQ q) (nM q), wc σ b c) := by
  obtain ⟨g1, g2, g3⟩ := hz.M
  have hN : 20 < FU := by decide
  unfold f2_bankruptBits
  generalize FU = N at hN ⊢
  simp only [nmS]
  refine lup (fun n (z : Int32 × Int32) => f2_bankruptBits_l4 b _ n z.1 z.2 (wc σ b c)) (fun i => (mk (bkQ q) i, nI i)) (nM q) _ ?_ ?_ (nM q) 0 N (by omega) (by omega)
  · intro n i hi
    show f2_bankruptBits_l4 _ _ (n + 1) (mk (bkQ q) i) (nI i) _ = f2_bankruptBits_l4 _ _ n (mk (bkQ q) i ||| (if bkQ q i = true then 1 <<< (nI i &&& 31) else 0)) (nI (i + 1)) _
    rw [f2_bankruptBits_l4]
    simp (disch := first | omega | decide) only [lit, nmS, clI, nI_add, gd_ib, wc_b, wc_m, h.t0, h.bk, g1]
    rw [if_neg (nI_ge hi (by omega))]
    cases hb : bkQ q i with
    | true => rw [if_neg (show ¬ bI true = nI 0 by decide), if_pos rfl]
    | false =>
      rw [if_pos (show bI false = nI 0 by decide), if_neg (fun z => by cases z), show mk (bkQ q) i ||| nI 0 = mk (bkQ q) i from Int32.or_zero]
  · intro n
    show f2_bankruptBits_l4 _ _ (n + 1) _ (nI (nM q)) _ = _
    rw [f2_bankruptBits_l4]
    simp (disch := first | omega | decide) only [wc_b, h.t0, g1]
    rw [if_pos (nI_le (Nat.le_refl _) (by omega))]
theorem bits_is {Bd Ba Bw : Nat} (h : Wb Bd Ba Bw q) : mk (bkQ q) (nM q) = q 6 := by
  have hM := h.sz.M
  obtain ⟨p, hp⟩ := h.bank
  rw [hp]
  refine mk_congr fun i hi => ?_
  apply Bool.eq_iff_iff.mpr
  unfold bkQ
  rw [hp]
  exact (decide_eq_true_iff.trans (mk_bit hM.2.1 (by omega))).trans ⟨fun z => z.2, fun z => ⟨hi, z⟩⟩
theorem c_words (σ : Mem) (b : Nat) (h : E S nb na q x y f c) (hz : Sz q) {m : Nat} (hm : m < 6) (hnb : nB q m ≤ nb m) : f1_allWords (6 * b + m) (wc σ b c) = some (sumF (fun k => mQ q m (9 + 3 * k)) (nB q m), wc σ b c) := by
  obtain ⟨g1, g2⟩ := hz.B hm
  have hN : 20 < FU := by decide
  unfold f1_allWords
  generalize FU = N at hN ⊢
  simp only [nmS]
  refine lup (fun n (z : Int32 × Int32) => f1_allWords_l4 (6 * b + m) _ n z.1 z.2 (wc σ b c)) (fun i => (sumF (fun k => mQ q m (9 + 3 * k)) i, nI i)) (nB q m) _ ?_ ?_ (nB q m) 0 N (by omega) (by omega)
  · intro n i hi
    show f1_allWords_l4 _ _ (n + 1) (sumF (fun k => mQ q m (9 + 3 * k)) i) (nI i) _ = f1_allWords_l4 _ _ n (sumF (fun k => mQ q m (9 + 3 * k)) i + mQ q m (9 + 3 * i)) (nI (i + 1)) _
    have hb := (h.bur hm (show i < nb m by omega) (by omega)).2.1
    rw [f1_allWords_l4]
    simp (disch := first | omega | decide) only [lit, nmS, clI, nI_add, gd_ib, wc_m, h.tnb, g1, hb]
    rw [if_neg (nI_ge hi (by omega)), if_neg (nI_ge (show i < 6 by omega) (by omega))]
  · intro n
    show f1_allWords_l4 _ _ (n + 1) _ (nI (nB q m)) _ = _
    rw [f1_allWords_l4]
    simp (disch := first | omega | decide) only [wc_m, h.tnb, g1]
    rw [if_pos (nI_le (Nat.le_refl _) (by omega))]
end SUMS
