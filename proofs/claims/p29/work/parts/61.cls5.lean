/-! THE CLASS's STEP -/
section CLS5
variable {S : Nat} {nb na : Nat → Nat} {q : QS} {x y : Int32} {f : Nat → Int32} {c : Mem}
theorem c_wait (σ : Mem) (b : Nat) (h : E S nb na q x y f c) {m : Nat} (hm : m < 6) (p : Nat → Bool) (w : Option Nat) (hf : f m = bI (p m)) {a1 : Int32} (ha : a1 = bI (decide (w = some m))) : ∃ c', f5_countWait (6 * b + m) a1 (wc σ b c) = some (wc σ b c') ∧ E S nb na (wt1 q p w m) x y f c' := by
  have h2 := h.cnt (m := m) (j := 2) hm (by omega) (by omega)
  have h2 : c 43 m 0 = q (63 + 38 * m + 2) := h2
  have h1 : c 42 m 0 = q (63 + 38 * m + 1) := h.cnt (m := m) (j := 1) hm (by omega) (by omega)
  have hE := (h.set (Ok.m (k := 42) (o := m) (by omega) (by omega) hm) (wtV q p w m)).set (Ok.m (k := 43) (o := m) (by omega) (by omega) hm) (if wtV q p w m ≤ q (63 + 38 * m + 2) then q (63 + 38 * m + 2) else wtV q p w m)
  refine ⟨_, ?_, hE⟩
  unfold f5_countWait fJ_max
  simp (disch := first | omega | decide) only [lit, nmS, wc_m, wc_sm, h.fl, hf, ms_eq, h1]
  have e43 : ∀ v, ms c 42 m 0 v 43 m 0 = q (63 + 38 * m + 2) := fun v => (ms_ne _ _ (by omega)).trans h2
  simp only [e43]
  have hj : ∀ v, bd (if q (63 + 38 * m + 2) < v then some (v, wc σ b (ms c 42 m 0 v)) else some (q (63 + 38 * m + 2), wc σ b (ms c 42 m 0 v))) (fun r1 s3 => some (ms s3 43 (6 * b + m) 0 r1)) = some (wc σ b (ms (ms c 42 m 0 v) 43 m 0 (if v ≤ q (63 + 38 * m + 2) then q (63 + 38 * m + 2) else v))) := by
    intro v
    by_cases e : q (63 + 38 * m + 2) < v
    · rw [if_pos e, if_neg (not_le_lt.mpr e), bdS, wc_sm _ _ (by decide) (by decide) hm]
    · rw [if_neg e, if_pos (not_lt_le.mp e), bdS, wc_sm _ _ (by decide) (by decide) hm]
  simp only [hj]
  subst ha
  unfold wtV
  cases hp : p m with
  | false =>
    rw [if_pos (show bI false = nI 0 by decide), if_neg (show ¬ (false = true ∧ w ≠ some m) from fun z => by cases z.1)]
    rfl
  | true =>
    rw [if_neg (show ¬ bI true = nI 0 by decide)]
    by_cases e : w = some m
    · rw [decide_eq_true e, if_neg (show ¬ bI true = nI 0 by decide), if_neg (show ¬ (true = true ∧ w ≠ some m) from fun z => z.2 e)]
      rfl
    · rw [decide_eq_false e, if_pos (show bI false = nI 0 by decide), if_pos (show true = true ∧ w ≠ some m from ⟨rfl, e⟩)]
      rfl
theorem oN_is {w : Option Nat} (hw : ∀ k, w = some k → k < 6) {i : Nat} (hi : i < 6) : (nI i = oN w) = (w = some i) := by
  cases w with
  | none => exact propext ⟨fun z => absurd z (oN_ne (by omega)), fun z => by cases z⟩
  | some k =>
    have hk := hw k rfl
    exact propext ⟨fun z => by rw [(nI_eq (by omega) (by omega)).mp z], fun z => by cases z; rfl⟩
theorem c_l80 (σ : Mem) (b : Nat) {w : Option Nat} (h : E S nb na q x (oN w) f c) {M N : Nat} (hM : q 0 = nI M) (hM2 : M ≤ 6) (hN : 20 < N) (hw : ∀ k, w = some k → k < 6) (p : Nat → Bool) (hf : ∀ m, m < M → f m = bI (p m)) :
    ∃ c', E S nb na (wtN q p w M) x (oN w) f c' ∧ (fun k2 => f2_step_l80 b k2 N (nI 0) (wc σ b c)) = fun k2 => k2 (wc σ b c') := by
  refine lupR (fun n i (c : Mem) (k2 : Mem → Option Mem) => f2_step_l80 b k2 n (nI i) (wc σ b c)) (fun i c => E S nb na (wtN q p w i) x (oN w) f c) M (fun c k2 => k2 (wc σ b c)) ?_ ?_ M 0 N c (by omega) (by omega) h
  · intro n i c1 hi h1
    have e0 : c1 30 0 0 = nI M := h1.t0.trans ((wtN_at q p w i (fun m hm => by omega)).trans hM)
    obtain ⟨c2, h2, h3⟩ := c_wait σ b h1 (m := i) (by omega) p w (hf i hi) (a1 := bI (decide (w = some i))) rfl
    refine ⟨c2, h3, ?_⟩
    funext k2
    rw [f2_step_l80]
    simp (disch := first | omega | decide) only [lit, nmS, wc_b, clI, gd_ib, nI_add, e0, h1.ty, oN_is hw]
    rw [if_neg (nI_ge hi (by omega))]
    by_cases e : w = some i
    · rw [if_pos e, show nI 1 = bI (decide (w = some i)) by rw [decide_eq_true e]; rfl, h2, bvS]
    · rw [if_neg e, show nI 0 = bI (decide (w = some i)) by rw [decide_eq_false e]; rfl, h2, bvS]
  · intro n c1 h1
    have e0 : c1 30 0 0 = nI M := h1.t0.trans ((wtN_at q p w M (fun m hm => by omega)).trans hM)
    funext k2
    rw [f2_step_l80]
    simp (disch := first | omega | decide) only [wc_b, e0]
    rw [if_pos (nI_le (Nat.le_refl _) (by omega))]
theorem c_l2 (σ : Mem) (b : Nat) (h : E S nb na q x y f c) (hz : Sz q) (ha : ∀ m, m < 6 → nA q m ≤ na m) {N : Nat} (hN : 20 < N) :
    ∃ c', (∃ f', E S nb na q x y f' c' ∧ ∀ m, m < nM q → f' m = bI (busyQ q m)) ∧ (fun k1 => f2_step_l2 b k1 N (nI 0) (wc σ b c)) = fun k1 => k1 (wc σ b c') := by
  obtain ⟨g1, g2, g3⟩ := hz.M
  refine lupR (fun n i (c : Mem) (k1 : Mem → Option Mem) => f2_step_l2 b k1 n (nI i) (wc σ b c)) (fun i c' => ∃ f', E S nb na q x y f' c' ∧ ∀ m, m < i → f' m = bI (busyQ q m)) (nM q) (fun c k1 => k1 (wc σ b c)) ?_ ?_ (nM q) 0 N c (by omega) (by omega) ⟨f, h, fun m hm => absurd hm (Nat.not_lt_zero m)⟩
  · intro n i c1 hi h1
    obtain ⟨f1, h1, h2⟩ := h1
    refine ⟨_, ⟨_, h1.sf i (bI (busyQ q i)), fun m hm => ?_⟩, ?_⟩
    · show (if m = i then _ else f1 m) = _
      by_cases e : m = i
      · rw [if_pos e, e]
      · rw [if_neg e]; exact h2 m (by omega)
    · funext k1
      rw [f2_step_l2]
      simp (disch := first | omega | decide) only [lit, nmS, wc_b, clI, gd_ib, nI_add, h1.t0, g1, h1.t2]
      rw [if_neg (nI_ge hi (by omega)), c_look σ b h1 hz (by omega) (ha i (by omega)), bvS]
  · intro n c1 h1
    obtain ⟨f1, h1, h2⟩ := h1
    funext k1
    rw [f2_step_l2]
    simp (disch := first | omega | decide) only [wc_b, h1.t0, g1]
    rw [if_pos (nI_le (Nat.le_refl _) (by omega))]
theorem slQ_nI (q : QS) (m : Nat) : ∀ n, ∃ s, s ≤ n ∧ slQ q n m = nI s
  | 0 => ⟨0, Nat.le_refl 0, rfl⟩
  | n + 1 => by
    obtain ⟨s, h1, h2⟩ := slQ_nI q m n
    by_cases e : q (11 + n) = nI m
    · refine ⟨s + 1, by omega, ?_⟩
      show slQ q n m + (if _ then _ else _) = _
      rw [if_pos e, h2, nI_1]
    · refine ⟨s, by omega, ?_⟩
      show slQ q n m + (if _ then _ else _) = _
      rw [if_neg e, h2]
      exact Int32.add_zero _
theorem c_cant (σ : Mem) (b : Nat) (h : E S nb na q x y f c) (hz : Sz q) (hS : nS q ≤ S) {m : Nat} (hm : m < nM q) : f2_cannotPay b (nI m) (wc σ b c) = some (bI (decide (bkQ q m = false ∧ ¬ dbQ q m ≤ nI 4 * slQ q (nS q) m)), wc σ b c) := by
  obtain ⟨g1, g2, g3⟩ := hz.M
  obtain ⟨s1, s2, s3⟩ := hz.S
  unfold f2_cannotPay
  simp (disch := first | omega | decide) only [lit, nmS, c_has_in σ b h hz hm, bdS, gd_ib, clI, wc_m, h.bk, c_debts σ b h, c_slots σ b h hz hS]
  rw [if_neg (show ¬ nI 1 = nI 0 by decide)]
  cases hb : bkQ q m with
  | true =>
    rw [if_neg (show ¬ bI true = nI 0 by decide), decide_eq_false (fun z => by cases z.1)]
    rfl
  | false =>
    rw [if_pos (show bI false = nI 0 by decide)]
    by_cases e : dbQ q m ≤ nI 4 * slQ q (nS q) m
    · rw [decide_eq_false (fun z => z.2 e)]
      by_cases e2 : dbQ q m ≤ nI 0
      · rw [if_pos e2]; rfl
      · rw [if_neg e2, if_pos e]; rfl
    · rw [decide_eq_true ⟨rfl, e⟩]
      obtain ⟨s, h1, h2⟩ := slQ_nI q m (nS q)
      have e2 : ¬ dbQ q m ≤ nI 0 := fun z => e (by
        rw [h2, pk_mul]
        have e3 := Int32.le_iff_toInt_le.mp z
        rw [Int32.le_iff_toInt_le, nI_toInt (by omega)]
        rw [nI_toInt (by omega)] at e3
        omega)
      rw [if_neg e2, if_neg e]; rfl
theorem hd_best (q : QS) (m : Nat) : ∀ n, bestN (fun j => decide (0 < owQ q m j) && true) (owQ q m) (n + 1) = if 0 < owQ q m (hdQ q m n) then some (hdQ q m n) else none
  | 0 => by
    show (if (decide (0 < owQ q m 0) && true) = true then some 0 else none) = if 0 < owQ q m 0 then some 0 else none
    by_cases e : 0 < owQ q m 0
    · rw [if_pos e, decide_eq_true e]; rfl
    · rw [if_neg e, decide_eq_false e]; rfl
  | n + 1 => by
    have ih := hd_best q m n
    rw [show bestN (fun j => decide (0 < owQ q m j) && true) (owQ q m) (n + 1 + 1) = if (decide (0 < owQ q m (n + 1)) && true) = true then (match bestN (fun j => decide (0 < owQ q m j) && true) (owQ q m) (n + 1) with
      | none => some (n + 1)
      | some c => if owQ q m c < owQ q m (n + 1) then some (n + 1) else some c) else bestN (fun j => decide (0 < owQ q m j) && true) (owQ q m) (n + 1) from rfl, ih]
    rw [show hdQ q m (n + 1) = if owQ q m (n + 1) ≤ owQ q m (hdQ q m n) then hdQ q m n else n + 1 from rfl]
    by_cases e1 : owQ q m (n + 1) ≤ owQ q m (hdQ q m n)
    · rw [if_pos e1]
      by_cases e2 : 0 < owQ q m (hdQ q m n)
      · rw [if_pos e2]
        dsimp only
        rw [if_neg (not_lt_le.mpr e1)]
        by_cases e3 : (decide (0 < owQ q m (n + 1)) && true) = true
        · rw [if_pos e3]
        · rw [if_neg e3]
      · rw [if_neg e2, if_neg (fun z => by
          rw [Bool.and_true] at z
          have e3 := Int32.lt_iff_toInt_lt.mp (of_decide_eq_true z)
          have e4 := Int32.le_iff_toInt_le.mp e1
          exact e2 (Int32.lt_iff_toInt_lt.mpr (by omega)))]
    · rw [if_neg e1]
      have e5 := not_le_lt.mp e1
      by_cases e2 : 0 < owQ q m (hdQ q m n)
      · have e3 : 0 < owQ q m (n + 1) := Int32.lt_iff_toInt_lt.mpr (Int.lt_trans (Int32.lt_iff_toInt_lt.mp e2) (Int32.lt_iff_toInt_lt.mp e5))
        rw [if_pos e2]
        dsimp only
        rw [if_pos e5, if_pos e3, decide_eq_true e3]
        rfl
      · rw [if_neg e2]
        by_cases e3 : 0 < owQ q m (n + 1)
        · rw [if_pos e3, decide_eq_true e3]; rfl
        · rw [if_neg e3, decide_eq_false e3]; rfl
theorem hd_pos {Bd Ba Bw : Nat} (h : Wb Bd Ba Bw q) (hB : Bd < 2 ^ 31) {m : Nat} (hm : m < nM q) (hd : ¬ dbQ q m ≤ nI 4 * slQ q (nS q) m) : bestN (fun j => decide (0 < owQ q m j) && true) (owQ q m) (nM q) = some (hdQ q m (nM q - 1)) := by
  have hM := h.sz.M
  have hS := h.sz.S
  obtain ⟨k, hk⟩ : ∃ k, nM q = k + 1 := ⟨nM q - 1, by omega⟩
  have hb := hd_best q m k
  rw [← hk] at hb
  rw [hb, show nM q - 1 = k by omega]
  by_cases e : 0 < owQ q m (hdQ q m k)
  · rw [if_pos e]
  · exfalso
    rw [if_neg e] at hb
    have hn := bestN_none hb
    apply hd
    have h0 : dbQ q m = 0 := by
      have h1 : sumF (owQ q m) 6 = sumF (fun _ => 0) 6 := sumF_congr fun i hi => by
        by_cases z : i < nM q
        · have h2 := hn i z
          rw [Bool.and_true] at h2
          obtain ⟨d, hd1, hd2⟩ := h.debt m i (by omega) hi
          rw [hd2] at h2 ⊢
          rcases Nat.eq_zero_or_pos d with w | w
          · rw [w]; rfl
          · exact absurd ((nI_ltI (a := 0) (by omega) (by omega)).mpr w) (of_decide_eq_false h2)
        · exact h.debt0 m i (by omega) hi (Or.inr (by omega))
      exact h1
    obtain ⟨s, h1, h2⟩ := slQ_nI q m (nS q)
    rw [h0, h2, pk_mul]
    exact nI_pos' (by omega)
end CLS5
