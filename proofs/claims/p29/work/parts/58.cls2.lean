/-! THE CLASS's READS -/
section CLS2
variable {S : Nat} {nb na : Nat → Nat} {q : QS} {x y : Int32} {f : Nat → Int32} {c : Mem}
def bV (f : Nat → Int32) (x0 : Int32) : Option Nat → Int32
  | none => x0
  | some c => f c
theorem bV_n (f : Nat → Int32) (x0 : Int32) : bV f x0 none = x0 := Eq.trans rfl rfl
theorem bV_s (f : Nat → Int32) (x0 : Int32) (k : Nat) : bV f x0 (some k) = f k := Eq.trans rfl rfl
theorem best_run (x0 : Int32) (t : Nat → Bool) (f : Nat → Int32) (i : Nat) :
    (oN (bestN (fun j => decide (x0 < f j) && t j) f (i + 1)), bV f x0 (bestN (fun j => decide (x0 < f j) && t j) f (i + 1))) = if f i ≤ bV f x0 (bestN (fun j => decide (x0 < f j) && t j) f i) ∨ t i = false then (oN (bestN (fun j => decide (x0 < f j) && t j) f i), bV f x0 (bestN (fun j => decide (x0 < f j) && t j) f i)) else (nI i, f i) := by
  rw [show bestN (fun j => decide (x0 < f j) && t j) f (i + 1) = if (decide (x0 < f i) && t i) = true then (match bestN (fun j => decide (x0 < f j) && t j) f i with
      | none => some i
      | some c => if f c < f i then some i else some c) else bestN (fun j => decide (x0 < f j) && t j) f i from rfl]
  cases g : bestN (fun j => decide (x0 < f j) && t j) f i with
  | none =>
    simp only [bV_n]
    by_cases e : f i ≤ x0 ∨ t i = false
    · rw [if_pos e, if_neg (fun z => by
        rw [Bool.and_eq_true] at z
        rcases e with e | e
        · exact not_le_lt.mpr (of_decide_eq_true z.1) e
        · rw [z.2] at e; cases e)]
      rfl
    · have e1 : x0 < f i := not_le_lt.mp fun z => e (Or.inl z)
      have e2 : t i = true := by cases h : t i with
        | true => rfl
        | false => exact absurd (Or.inr h) e
      rw [if_neg e, if_pos (by rw [decide_eq_true e1, e2]; rfl)]
      rfl
  | some k =>
    have hk := bestN_may g
    rw [Bool.and_eq_true] at hk
    have hk1 : x0 < f k := of_decide_eq_true hk.1
    simp only [bV_s]
    by_cases e : f i ≤ f k ∨ t i = false
    · rw [if_pos e]
      by_cases z : (decide (x0 < f i) && t i) = true
      · rw [if_pos z]
        rw [Bool.and_eq_true] at z
        have e1 : f i ≤ f k := e.resolve_right (fun w => by rw [z.2] at w; cases w)
        rw [if_neg (not_lt_le.mpr e1)]
        rfl
      · rw [if_neg z]
        rfl
    · have e1 : f k < f i := not_le_lt.mp fun z => e (Or.inl z)
      have e2 : t i = true := by cases h : t i with
        | true => rfl
        | false => exact absurd (Or.inr h) e
      have e3 : x0 < f i := Int32.lt_iff_toInt_lt.mpr (Int.lt_trans (Int32.lt_iff_toInt_lt.mp hk1) (Int32.lt_iff_toInt_lt.mp e1))
      rw [if_neg e, if_pos (by rw [decide_eq_true e3, e2]; rfl), if_pos e1]
      rfl
theorem c_debts (σ : Mem) (b : Nat) (h : E S nb na q x y f c) {m : Nat} (hm : m < 6) : f5_debts (6 * b + m) (wc σ b c) = some (dbQ q m, wc σ b c) := by
  have hN : 20 < FU := by decide
  unfold f5_debts
  generalize FU = N at hN ⊢
  simp only [nmS]
  refine lup (fun n (z : Int32 × Int32) => f5_debts_l4 (6 * b + m) _ n z.1 z.2 (wc σ b c)) (fun i => (sumF (owQ q m) i, nI i)) 6 _ ?_ ?_ 6 0 N (by omega) (by omega)
  · intro n i hi
    show f5_debts_l4 _ _ (n + 1) (sumF (owQ q m) i) (nI i) _ = f5_debts_l4 _ _ n (sumF (owQ q m) i + owQ q m i) (nI (i + 1)) _
    rw [f5_debts_l4]
    simp (disch := first | omega | decide) only [lit, nmS, clI, nI_add, gd_ib, wc_m, h.ow]
    rw [if_neg (nI_ge hi (by omega))]
  · intro n
    show f5_debts_l4 _ _ (n + 1) _ (nI 6) _ = _
    rw [f5_debts_l4]
    simp only [lit]
    rw [if_pos (nI_le (Nat.le_refl _) (by omega))]
    rfl
theorem c_has (σ : Mem) (b : Nat) (h : E S nb na q x y f c) (hz : Sz q) (a : Int32) : f2_hasMaster b a (wc σ b c) = some (bI (decide (0 ≤ a) && decide (a < q 0)), wc σ b c) := by
  obtain ⟨g1, g2, g3⟩ := hz.M
  unfold f2_hasMaster
  simp (disch := decide) only [nmS, wc_b, h.t0]
  by_cases h1 : a < 0
  · rw [if_pos h1, show decide (0 ≤ a) = false from decide_eq_false (fun z => not_le_lt.mpr h1 z)]
    rfl
  · rw [if_neg h1, show decide (0 ≤ a) = true from decide_eq_true (not_lt_le.mp h1)]
    by_cases h2 : q 0 ≤ a
    · rw [if_pos h2, show decide (a < q 0) = false from decide_eq_false (not_lt_le.mpr h2)]
      rfl
    · have h3 : a < q 0 := not_le_lt.mp h2
      have h4 : ¬ (6 : Int32) ≤ a := by
        rw [g1] at h3
        have e1 := Int32.lt_iff_toInt_lt.mp h3
        rw [nI_toInt (by omega)] at e1
        rw [Int32.le_iff_toInt_le]
        have e2 : (6 : Int32).toInt = 6 := rfl
        omega
      rw [if_neg h2, if_neg h4, show decide (a < q 0) = true from decide_eq_true h3]
      rfl
theorem c_has_in (σ : Mem) (b : Nat) (h : E S nb na q x y f c) (hz : Sz q) {m : Nat} (hm : m < nM q) : f2_hasMaster b (nI m) (wc σ b c) = some (nI 1, wc σ b c) := by
  obtain ⟨g1, g2, g3⟩ := hz.M
  rw [c_has σ b h hz, g1, show decide (0 ≤ nI m) = true from decide_eq_true (nI_le (a := 0) (Nat.zero_le m) (by omega)), show decide (nI m < nI (nM q)) = true from decide_eq_true ((nI_ltI (by omega) (by omega)).mpr hm)]
  rfl
theorem c_has_no (σ : Mem) (b : Nat) (h : E S nb na q x y f c) (hz : Sz q) : f2_hasMaster b (-9) (wc σ b c) = some (nI 0, wc σ b c) := by
  rw [c_has σ b h hz, show decide ((0 : Int32) ≤ -9) = false by decide]
  rfl
theorem c_has_o (σ : Mem) (b : Nat) (h : E S nb na q x y f c) (hz : Sz q) {w : Option Nat} (hw : ∀ k, w = some k → k < nM q) : f2_hasMaster b (oN w) (wc σ b c) = some (bI w.isSome, wc σ b c) := by
  cases w with
  | none => exact c_has_no σ b h hz
  | some k => exact c_has_in σ b h hz (hw k rfl)
theorem c_ready (σ : Mem) (b : Nat) (h : E S nb na q x y f c) (hz : Sz q) {m : Nat} (hm : m < 6) (ha : nA q m ≤ na m) : f0_firstReady (6 * b + m) (q 2) (wc σ b c) = some (oN (rdQ q m (nA q m)), wc σ b c) := by
  obtain ⟨g1, g2⟩ := hz.A hm
  have hN : 20 < FU := by decide
  unfold f0_firstReady
  generalize FU = N at hN ⊢
  simp only [nmS]
  have hs : ∀ (k : Mem → Option (Int32 × Mem)) n i, i < nA q m → f0_firstReady_l2 (6 * b + m) (q 2) k (n + 1) (nI i) (wc σ b c) = if decide (mQ q m (26 + i) ≤ q 2) = true then some (nI i, wc σ b c) else f0_firstReady_l2 (6 * b + m) (q 2) k n (nI (i + 1)) (wc σ b c) := by
    intro k n i hi
    rw [f0_firstReady_l2]
    simp (disch := first | omega | decide) only [lit, nmS, clI, nI_add, gd_ib, wc_m, h.tna, h.ans, g1]
    rw [if_neg (nI_ge hi (by omega)), if_neg (nI_ge (show i < 10 by omega) (by omega))]
    by_cases e : q 2 < mQ q m (26 + i)
    · rw [if_pos e, if_neg (fun z => not_le_lt.mpr e (of_decide_eq_true z))]
    · rw [if_neg e, if_pos (decide_eq_true (not_lt_le.mp e))]
  cases hrd : rdQ q m (nA q m) with
  | none =>
    have hf := firstN_none hrd
    refine lup (fun n (z : Int32) => f0_firstReady_l2 (6 * b + m) (q 2) _ n z (wc σ b c)) (fun i => nI i) (nA q m) _ ?_ ?_ (nA q m) 0 N (by omega) (by omega)
    · intro n i hi
      have h9 : decide (mQ q m (26 + i) ≤ q 2) = false := hf i hi
      show f0_firstReady_l2 _ _ _ (n + 1) (nI i) _ = f0_firstReady_l2 _ _ _ n (nI (i + 1)) _
      rw [hs _ n i hi, if_neg (by rw [h9]; decide)]
    · intro n
      show f0_firstReady_l2 _ _ _ (n + 1) (nI (nA q m)) _ = _
      rw [f0_firstReady_l2]
      simp (disch := first | omega | decide) only [wc_m, h.tna, g1]
      rw [if_pos (nI_le (Nat.le_refl _) (by omega))]
      rfl
  | some k =>
    obtain ⟨h1, h2, h3⟩ := firstN_some hrd
    refine lupX (fun n (z : Int32) => f0_firstReady_l2 (6 * b + m) (q 2) _ n z (wc σ b c)) (fun i => nI i) (nA q m) (fun k => decide (mQ q m (26 + k) ≤ q 2)) (fun i => some (nI i, wc σ b c)) ?_ ?_ k h1 h2 h3 k 0 N (by omega) (by omega)
    · intro n i hi hp
      have hp : decide (mQ q m (26 + i) ≤ q 2) = false := hp
      show f0_firstReady_l2 _ _ _ (n + 1) (nI i) _ = f0_firstReady_l2 _ _ _ n (nI (i + 1)) _
      rw [hs _ n i hi, if_neg (by rw [hp]; decide)]
    · intro n i hi hp
      have hp : decide (mQ q m (26 + i) ≤ q 2) = true := hp
      show f0_firstReady_l2 _ _ _ (n + 1) (nI i) _ = some (nI i, wc σ b c)
      rw [hs _ n i hi, if_pos hp]
theorem zok_0 : zok 0 = true := by decide
theorem zok_1 : zok 1 = true := by decide
theorem oN_ne {k : Nat} (hk : k < 2 ^ 31) : ¬ nI k = -9 := fun z => by
  have h1 : nI k < 0 := by rw [z]; decide
  exact nI_pos hk h1
theorem c_look (σ : Mem) (b : Nat) (h : E S nb na q x y f c) (hz : Sz q) {m : Nat} (hm : m < 6) (ha : nA q m ≤ na m) : f5_lookForWork (6 * b + m) (q 2) (wc σ b c) = some (wc σ b (ms c 41 m 0 (bI (busyQ q m)))) := by
  unfold f5_lookForWork busyQ
  simp (disch := first | omega | decide) only [nmS, wc_m, wc_sm, h.tnb, c_ready σ b h hz hm ha, bdS]
  by_cases e : 0 < mQ q m 0
  · rw [if_pos e, decide_eq_true e, gdI zok_1]
    rfl
  · rw [if_neg e, decide_eq_false e]
    cases hk : rdQ q m (nA q m) with
    | none =>
      rw [if_pos (show oN none = -9 from rfl), gdI zok_0]
      rfl
    | some k =>
      by_cases e2 : oN (some k) = -9
      · exfalso
        have e3 : nI k = -9 := e2
        exact oN_ne (by have := (firstN_some hk).1; have := (hz.A hm).2; omega) e3
      · rw [if_neg e2, gdI zok_1]
        rfl
theorem c_slots (σ : Mem) (b : Nat) (h : E S nb na q x y f c) (hz : Sz q) (hS : nS q ≤ S) (m : Nat) : f2_slotsOf b (nI m) (wc σ b c) = some (slQ q (nS q) m, wc σ b c) := by
  obtain ⟨g1, g2, g3⟩ := hz.S
  have hN : 20 < FU := by decide
  unfold f2_slotsOf
  generalize FU = N at hN ⊢
  simp only [nmS]
  refine lup (fun n (z : Int32 × Int32) => f2_slotsOf_l4 b (nI m) _ n z.1 z.2 (wc σ b c)) (fun i => (slQ q i m, nI i)) (nS q) _ ?_ ?_ (nS q) 0 N (by omega) (by omega)
  · intro n i hi
    show f2_slotsOf_l4 _ _ _ (n + 1) (slQ q i m) (nI i) _ = f2_slotsOf_l4 _ _ _ n (slQ q i m + if q (11 + i) = nI m then 1 else 0) (nI (i + 1)) _
    rw [f2_slotsOf_l4]
    simp (disch := first | omega | decide) only [lit, nmS, clI, nI_add, gd_ib, wc_b, h.t1, h.own, g1]
    rw [if_neg (nI_ge hi (by omega))]
    by_cases e : q (11 + i) = nI m
    · rw [if_pos e, if_pos e]
    · rw [if_neg e, if_neg e, show slQ q i m + nI 0 = slQ q i m from Int32.add_zero _]
  · intro n
    show f2_slotsOf_l4 _ _ _ (n + 1) _ (nI (nS q)) _ = _
    rw [f2_slotsOf_l4]
    simp (disch := first | omega | decide) only [wc_b, h.t1, g1]
    rw [if_pos (nI_le (Nat.le_refl _) (by omega))]
theorem c_cred (σ : Mem) (b : Nat) (h : E S nb na q x y f c) (hz : Sz q) {o : Nat} (ho : o < 6) (a2 : Int32) (p : Nat → Bool) (hf : ∀ m, m < nM q → ((a2 = 0 ∨ ¬ f m = 0) ↔ p m = true)) :
    f2_creditorOf b (6 * b + o) a2 (wc σ b c) = some (oN (bestN (fun j => decide (0 < owQ q o j) && p j) (owQ q o) (nM q)), wc σ b c) := by
  obtain ⟨g1, g2, g3⟩ := hz.M
  have hN : 20 < FU := by decide
  unfold f2_creditorOf
  generalize FU = N at hN ⊢
  simp only [nmS]
  refine lup (fun n (z : (Int32 × Int32) × Int32) => f2_creditorOf_l9 b (6 * b + o) a2 _ n z.1.1 z.1.2 z.2 (wc σ b c)) (fun i => ((oN (bestN (fun j => decide (0 < owQ q o j) && p j) (owQ q o) i), bV (owQ q o) 0 (bestN (fun j => decide (0 < owQ q o j) && p j) (owQ q o) i)), nI i)) (nM q) _ ?_ ?_ (nM q) 0 N (by omega) (by omega)
  · intro n i hi
    dsimp only
    rw [show oN (bestN (fun j => decide (0 < owQ q o j) && p j) (owQ q o) (i + 1)) = _ from congrArg Prod.fst (best_run 0 p (owQ q o) i), show bV (owQ q o) 0 (bestN (fun j => decide (0 < owQ q o j) && p j) (owQ q o) (i + 1)) = _ from congrArg Prod.snd (best_run 0 p (owQ q o) i)]
    generalize oN (bestN (fun j => decide (0 < owQ q o j) && p j) (owQ q o) i) = B
    generalize bV (owQ q o) 0 (bestN (fun j => decide (0 < owQ q o j) && p j) (owQ q o) i) = W
    rw [f2_creditorOf_l9]
    simp (disch := first | omega | decide) only [lit, nmS, clI, nI_add, gd_ib, wc_b, wc_m, h.t0, h.ow, h.fl, g1]
    rw [if_neg (nI_ge hi (by omega))]
    have h9 := hf i hi
    by_cases e1 : owQ q o i ≤ W
    · rw [if_pos e1, if_pos (Or.inl e1)]
    · rw [if_neg e1]
      by_cases e2 : p i = true
      · rw [if_neg (show ¬ (owQ q o i ≤ W ∨ p i = false) from fun z => z.elim e1 (fun w => by rw [e2] at w; cases w))]
        have e3 := h9.mpr e2
        by_cases e4 : a2 = nI 0
        · rw [if_pos e4]
        · rw [if_neg e4, if_neg (show ¬ f i = nI 0 from e3.resolve_left e4)]
      · rw [if_pos (show owQ q o i ≤ W ∨ p i = false from Or.inr (Bool.eq_false_iff.mpr e2))]
        have e3 : ¬ (a2 = 0 ∨ ¬ f i = 0) := fun z => e2 (h9.mp z)
        rw [if_neg (show ¬ a2 = nI 0 from fun z => e3 (Or.inl z)), if_pos (show f i = nI 0 from Decidable.not_not.mp fun z => e3 (Or.inr z))]
  · intro n
    dsimp only
    rw [f2_creditorOf_l9]
    simp (disch := first | omega | decide) only [wc_b, h.t0, g1]
    rw [if_pos (nI_le (Nat.le_refl _) (by omega))]
theorem c_borr (σ : Mem) (b : Nat) (h : E S nb na q x y f c) (hz : Sz q) (p : Nat → Bool) (hf : ∀ m, m < nM q → (¬ f m = 0 ↔ p m = true)) (hw : ∀ m, m < 6 → ∃ w, w < 2 ^ 31 ∧ mQ q m 1 = nI w) : f2_firstBorrower b (wc σ b c) = some (oN (boQ q p), wc σ b c) := by
  obtain ⟨g1, g2, g3⟩ := hz.M
  have hN : 20 < FU := by decide
  have hb : boQ q p = bestN (fun j => decide (-1 < mQ q j 1) && ((p j && !bkQ q j) && decide (dbQ q j < q 4))) (fun j => mQ q j 1) (nM q) := by
    unfold boQ
    refine bestN_congr (fun i hi => ?_) (fun i hi => rfl)
    obtain ⟨w, hw1, hw2⟩ := hw i (by omega)
    rw [hw2, show decide ((-1 : Int32) < nI w) = true from decide_eq_true (by
      rw [Int32.lt_iff_toInt_lt, nI_toInt hw1]
      have e2 : (-1 : Int32).toInt = -1 := rfl
      omega), Bool.true_and]
  rw [hb]
  unfold f2_firstBorrower
  generalize FU = N at hN ⊢
  simp only [nmS]
  refine lup (fun n (z : (Int32 × Int32) × Int32) => f2_firstBorrower_l7 b _ n z.1.1 z.1.2 z.2 (wc σ b c)) (fun i => ((oN (bestN (fun j => decide (-1 < mQ q j 1) && ((p j && !bkQ q j) && decide (dbQ q j < q 4))) (fun j => mQ q j 1) i), bV (fun j => mQ q j 1) (-1) (bestN (fun j => decide (-1 < mQ q j 1) && ((p j && !bkQ q j) && decide (dbQ q j < q 4))) (fun j => mQ q j 1) i)), nI i)) (nM q) _ ?_ ?_ (nM q) 0 N (by omega) (by omega)
  · intro n i hi
    dsimp only
    rw [show oN (bestN (fun j => decide (-1 < mQ q j 1) && ((p j && !bkQ q j) && decide (dbQ q j < q 4))) (fun j => mQ q j 1) (i + 1)) = _ from congrArg Prod.fst (best_run (-1) (fun j => (p j && !bkQ q j) && decide (dbQ q j < q 4)) (fun j => mQ q j 1) i), show bV (fun j => mQ q j 1) (-1) (bestN (fun j => decide (-1 < mQ q j 1) && ((p j && !bkQ q j) && decide (dbQ q j < q 4))) (fun j => mQ q j 1) (i + 1)) = _ from congrArg Prod.snd (best_run (-1) (fun j => (p j && !bkQ q j) && decide (dbQ q j < q 4)) (fun j => mQ q j 1) i)]
    generalize oN (bestN (fun j => decide (-1 < mQ q j 1) && ((p j && !bkQ q j) && decide (dbQ q j < q 4))) (fun j => mQ q j 1) i) = B
    generalize bV (fun j => mQ q j 1) (-1) (bestN (fun j => decide (-1 < mQ q j 1) && ((p j && !bkQ q j) && decide (dbQ q j < q 4))) (fun j => mQ q j 1) i) = W
    rw [f2_firstBorrower_l7]
    have hc := h.cnt (m := i) (j := 1) (by omega) (by omega) (by omega)
    simp (disch := first | omega | decide) only [lit, nmS, clI, nI_add, gd_ib, wc_b, wc_m, h.t0, h.fl, h.bk, g1, c_debts σ b h, bdS, h.t4]
    rw [show c 42 i 0 = mQ q i 1 from hc, if_neg (nI_ge hi (by omega))]
    have h9 := hf i hi
    cases e1 : p i with
    | false =>
      rw [if_pos (show f i = nI 0 from Decidable.not_not.mp fun z => by rw [e1] at h9; cases h9.mp z), if_pos (show mQ q i 1 ≤ W ∨ (false && !bkQ q i && decide (dbQ q i < q 4)) = false from Or.inr rfl)]
    | true =>
      rw [if_neg (show ¬ f i = nI 0 from h9.mpr e1)]
      cases e2 : bkQ q i with
      | true => rw [if_neg (show ¬ bI true = nI 0 by decide), if_pos (show mQ q i 1 ≤ W ∨ (true && !true && decide (dbQ q i < q 4)) = false from Or.inr rfl)]
      | false =>
        rw [if_pos (show bI false = nI 0 by decide)]
        by_cases e3 : mQ q i 1 ≤ W
        · rw [if_pos e3, if_pos (Or.inl e3)]
        · rw [if_neg e3]
          by_cases e4 : q 4 ≤ dbQ q i
          · rw [if_pos e4, if_pos (Or.inr (by rw [decide_eq_false (not_lt_le.mpr e4)]; rfl))]
          · rw [if_neg e4, if_neg (fun z => z.elim e3 (fun w => by rw [decide_eq_true (not_le_lt.mp e4)] at w; cases w))]
  · intro n
    dsimp only
    rw [f2_firstBorrower_l7]
    simp (disch := first | omega | decide) only [wc_b, h.t0, g1]
    rw [if_pos (nI_le (Nat.le_refl _) (by omega))]
end CLS2
