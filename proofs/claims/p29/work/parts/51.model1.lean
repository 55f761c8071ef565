/-! THE REFERENCE, READ: what its small functions answer, over its row q -/
section MODEL1
def owQ (q : QS) (a b : Nat) : Int32 := q (27 + 6 * a + b)
def mQ (q : QS) (m j : Nat) : Int32 := q (63 + 38 * m + j)
def dbQ (q : QS) (a : Nat) : Int32 := sumF (owQ q a) 6
def slQ (q : QS) (S m : Nat) : Int32 := sumF (fun s => if q (11 + s) = nI m then 1 else 0) S
/-- the first answer that is ready, of n -/
def rdQ (q : QS) (m n : Nat) : Option Nat := firstN (fun k => decide (mQ q m (26 + k) ≤ q 2)) n
/-- how many masters, slots, answers -/
def nM (q : QS) : Nat := (q 0).toNatClampNeg
def nS (q : QS) : Nat := (q 1).toNatClampNeg
def nA (q : QS) (m : Nat) : Nat := (mQ q m 7).toNatClampNeg
def nB (q : QS) (m : Nat) : Nat := (mQ q m 0).toNatClampNeg
def bkQ (q : QS) (m : Nat) : Bool := decide ((q 6 >>> (nI m &&& 31)) &&& 1 = 1)
def busyQ (q : QS) (m : Nat) : Bool := decide (0 < mQ q m 0) || (rdQ q m (nA q m)).isSome
/-- the sizes are what they may be -/
def Sz (q : QS) : Prop := (∃ M, M ≤ 6 ∧ 2 ≤ M ∧ q 0 = nI M) ∧ (∃ S, S ≤ 16 ∧ 2 ≤ S ∧ q 1 = nI S) ∧ ∀ m, m < 6 → (∃ a, a ≤ 10 ∧ mQ q m 7 = nI a) ∧ ∃ b, b ≤ 6 ∧ mQ q m 0 = nI b
theorem Sz.M {q : QS} (h : Sz q) : q 0 = nI (nM q) ∧ nM q ≤ 6 ∧ 2 ≤ nM q := by
  obtain ⟨⟨M, h1, h2, h3⟩, -⟩ := h
  have e : nM q = M := by unfold nM; rw [h3, nI_clamp (by omega)]
  rw [e]; exact ⟨h3, h1, h2⟩
theorem Sz.S {q : QS} (h : Sz q) : q 1 = nI (nS q) ∧ nS q ≤ 16 ∧ 2 ≤ nS q := by
  obtain ⟨-, ⟨S, h1, h2, h3⟩, -⟩ := h
  have e : nS q = S := by unfold nS; rw [h3, nI_clamp (by omega)]
  rw [e]; exact ⟨h3, h1, h2⟩
theorem Sz.A {q : QS} (h : Sz q) {m : Nat} (hm : m < 6) : mQ q m 7 = nI (nA q m) ∧ nA q m ≤ 10 := by
  obtain ⟨-, -, h⟩ := h
  obtain ⟨⟨a, h1, h2⟩, -⟩ := h m hm
  have e : nA q m = a := by unfold nA; rw [h2, nI_clamp (by omega)]
  rw [e]; exact ⟨h2, h1⟩
theorem Sz.B {q : QS} (h : Sz q) {m : Nat} (hm : m < 6) : mQ q m 0 = nI (nB q m) ∧ nB q m ≤ 6 := by
  obtain ⟨-, -, h⟩ := h
  obtain ⟨-, b, h1, h2⟩ := h m hm
  have e : nB q m = b := by unfold nB; rw [h2, nI_clamp (by omega)]
  rw [e]; exact ⟨h2, h1⟩
theorem f7_at_s (m j : Nat) (σ : Mem) : f7_at (nI m) (nI j) σ = some (nI (63 + 38 * m + j), σ) := by
  simp only [f7_at, lit, pk_mul, nI_add]
theorem f7_of_s (σ : Mem) (q : QS) {m j : Nat} (h : 63 + 38 * m + j < 291) : f7_of (nI m) (nI j) (wq σ q) = some (mQ q m j, wq σ q) := by
  simp only [f7_of, f7_at_s, bdS, wq_get]
  rw [gdI (ib_nI h (by decide)), nI_clamp (by omega)]
  rfl
theorem f7_owed_s (σ : Mem) (q : QS) {a b : Nat} (h : 27 + 6 * a + b < 291) : f7_owed (nI a) (nI b) (wq σ q) = some (owQ q a b, wq σ q) := by
  simp only [f7_owed, lit, pk_mul, nI_add, wq_get]
  rw [gdI (ib_nI h (by decide)), nI_clamp (by omega)]
  rfl
theorem f7_debts_s (σ : Mem) (q : QS) {a : Nat} (ha : a < 6) : f7_debts (nI a) (wq σ q) = some (dbQ q a, wq σ q) := by
  simp only [f7_debts, nmS, lit]
  refine lup (fun n (p : Int32 × Int32) => f7_debts_l4 (nI a) _ n p.1 p.2 (wq σ q)) (fun i => (sumF (owQ q a) i, nI i)) 6 _ ?_ ?_ 6 0 FU rfl (by decide)
  · intro n i hi
    show f7_debts_l4 _ _ (n + 1) (sumF (owQ q a) i) (nI i) _ = f7_debts_l4 _ _ n (sumF (owQ q a) i + owQ q a i) (nI (i + 1)) _
    rw [f7_debts_l4]
    simp only [lit, nmS]
    rw [if_neg (nI_ge hi (by decide)), f7_owed_s σ q (by omega), bdS, nI_add]
  · intro n
    show f7_debts_l4 _ _ (n + 1) _ (nI 6) _ = _
    rw [f7_debts_l4]
    simp only [lit]
    rw [if_pos (nI_le (Nat.le_refl 6) (by decide))]
    rfl
theorem f7_slotsOf_s (σ : Mem) (q : QS) (hz : Sz q) {m : Nat} : f7_slotsOf (nI m) (wq σ q) = some (slQ q (nS q) m, wq σ q) := by
  obtain ⟨h1, h2, h3⟩ := hz.S
  simp only [f7_slotsOf, nmS, lit]
  refine lup (fun n (p : Int32 × Int32) => f7_slotsOf_l4 (nI m) _ n p.1 p.2 (wq σ q)) (fun i => (slQ q i m, nI i)) (nS q) _ ?_ ?_ (nS q) 0 FU (by omega) (Nat.lt_of_le_of_lt h2 (by decide))
  · intro n i hi
    show f7_slotsOf_l4 _ _ (n + 1) (slQ q i m) (nI i) _ = f7_slotsOf_l4 _ _ n (slQ q i m + (if q (11 + i) = nI m then 1 else 0)) (nI (i + 1)) _
    rw [f7_slotsOf_l4]
    simp only [lit, nmS, nI_add, wq_get, nI_clamp (show 1 < 2 ^ 31 by decide), h1]
    rw [if_neg (nI_ge hi (by omega)), gdI (ib_nI (by omega) (by decide)), nI_clamp (by omega)]
    by_cases e : q (11 + i) = nI m
    · rw [if_pos e, if_pos e]
    · rw [if_neg e, if_neg e]
  · intro n
    show f7_slotsOf_l4 _ _ (n + 1) _ (nI (nS q)) _ = _
    rw [f7_slotsOf_l4]
    simp only [lit, wq_get, nI_clamp (show 1 < 2 ^ 31 by decide), h1]
    rw [if_pos (nI_le (Nat.le_refl _) (by omega))]
/-- a scan from above keeps the lowest -/
theorem rd_step (p : Nat → Bool) (n i : Nat) (hi : i < n) : (match firstN (fun j => p (n - (i + 1) + j)) (i + 1) with | some k => nI (n - (i + 1) + k) | none => (-1 : Int32)) =
    if p (n - (i + 1)) = true then nI (n - (i + 1)) else (match firstN (fun j => p (n - i + j)) i with | some k => nI (n - i + k) | none => (-1 : Int32)) := by
  by_cases e : p (n - (i + 1)) = true
  · rw [if_pos e, firstN_is (k := 0) (by omega) e (fun j hj => absurd hj (Nat.not_lt_zero j))]
    rfl
  · rw [if_neg e]
    cases f : firstN (fun j => p (n - i + j)) i with
    | none =>
      rw [firstN_no]
      intro j hj
      match j, hj with
      | 0, _ => exact Bool.eq_false_iff.mpr e
      | j + 1, hj =>
        have := firstN_none f j (by omega)
        rw [show n - (i + 1) + (j + 1) = n - i + j by omega]
        exact this
    | some k =>
      obtain ⟨g1, g2, g3⟩ := firstN_some f
      rw [firstN_is (k := k + 1) (by omega)]
      · show nI (n - (i + 1) + (k + 1)) = nI (n - i + k)
        rw [show n - (i + 1) + (k + 1) = n - i + k by omega]
      · show p (n - (i + 1) + (k + 1)) = true
        rw [show n - (i + 1) + (k + 1) = n - i + k by omega]
        exact g2
      · intro j hj
        match j, hj with
        | 0, _ => exact Bool.eq_false_iff.mpr e
        | j + 1, hj =>
          have := g3 j (by omega)
          show p (n - (i + 1) + (j + 1)) = false
          rw [show n - (i + 1) + (j + 1) = n - i + j by omega]
          exact this
theorem f7_ready_s (σ : Mem) (q : QS) (hz : Sz q) {m : Nat} (hm : m < 6) : f7_ready (nI m) (wq σ q) = some (oI (rdQ q m (nA q m)), wq σ q) := by
  obtain ⟨h1, h2⟩ := hz.A hm
  have h0 : f7_of (nI m) (7 : Int32) (wq σ q) = some (nI (nA q m), wq σ q) := by rw [← h1]; exact f7_of_s σ q (m := m) (j := 7) (by omega)
  unfold f7_ready
  rw [h0, bdS]
  simp only [nmS]
  have hmain : ∀ n : Nat, n ≤ 10 → ∀ S0 : Int32, (S0 = if n = 0 then -1 else nI (n - 1)) → f7_ready_l12 (nI m) (fun y1 s2 => some (y1, s2)) FU (-1 : Int32) S0 (wq σ q) = some (oI (rdQ q m n), wq σ q) := by
    intro n hn S0 hS0
    have hst : ∀ i : Nat, i ≤ n → ∀ f : Nat, i < f → f7_ready_l12 (nI m) (fun y1 s2 => some (y1, s2)) f (match firstN (fun j => decide (mQ q m (26 + (i + j)) ≤ q 2)) (n - i) with | some k => nI (i + k) | none => (-1 : Int32)) (if i = 0 then -1 else nI (i - 1)) (wq σ q) = some (oI (rdQ q m n), wq σ q) := by
      intro i
      induction i with
      | zero =>
        intro _ f hf
        obtain ⟨f, rfl⟩ : ∃ z, f = z + 1 := ⟨f - 1, by omega⟩
        rw [f7_ready_l12, if_pos rfl, if_pos (by decide)]
        have e : firstN (fun j => decide (mQ q m (26 + (0 + j)) ≤ q 2)) (n - 0) = rdQ q m n := by
          unfold rdQ
          exact firstN_congr fun j _ => by rw [Nat.zero_add]
        rw [e]
        cases rdQ q m n with
        | none => rfl
        | some k => show some (nI (0 + k), _) = some (nI k, _); rw [Nat.zero_add]
      | succ i ih =>
        intro hi f hf
        obtain ⟨f, rfl⟩ : ∃ z, f = z + 1 := ⟨f - 1, by omega⟩
        rw [f7_ready_l12, if_neg (Nat.succ_ne_zero i), Nat.add_sub_cancel]
        simp only [lit, nI_add, nmS]
        rw [if_neg (nI_nlt (Nat.zero_le i) (by omega)), f7_of_s σ q (by omega), bdS]
        simp only [wq_get, nI_clamp (show 2 < 2 ^ 31 by decide)]
        have hp := rd_step (fun j => decide (mQ q m (26 + j) ≤ q 2)) n (n - (i + 1)) (by omega)
        rw [show n - (n - (i + 1) + 1) = i by omega, show n - (n - (i + 1)) = i + 1 by omega, show n - (i + 1) + 1 = n - i by omega] at hp
        have ih2 := ih (by omega) f (by omega)
        rw [hp] at ih2
        have hx : nI i + -nI 1 = (if i = 0 then (-1 : Int32) else nI (i - 1)) := by
          match i with
          | 0 => rfl
          | i + 1 => rw [if_neg (Nat.succ_ne_zero i), Nat.add_sub_cancel]; exact nI_m1 i
        rw [hx]
        by_cases e : q 2 < mQ q m (26 + i)
        · rw [if_pos e]
          have e2 : ¬ decide (mQ q m (26 + i) ≤ q 2) = true := fun z => by
            have a1 := Int32.le_iff_toInt_le.mp (of_decide_eq_true z)
            have a2 := Int32.lt_iff_toInt_lt.mp e
            omega
          rw [if_neg e2] at ih2
          exact ih2
        · rw [if_neg e]
          have e2 : decide (mQ q m (26 + i) ≤ q 2) = true := decide_eq_true (Int32.le_iff_toInt_le.mpr (by
            have a2 : ¬ (q 2).toInt < (mQ q m (26 + i)).toInt := fun z => e (Int32.lt_iff_toInt_lt.mpr z)
            omega))
          rw [if_pos e2] at ih2
          exact ih2
    have h9 := hst n (Nat.le_refl n) FU (Nat.lt_of_le_of_lt hn (by decide))
    rw [Nat.sub_self] at h9
    rw [hS0]
    exact h9
  refine hmain (nA q m) h2 _ ?_
  match nA q m with
  | 0 => rfl
  | n + 1 => rw [if_neg (Nat.succ_ne_zero n), Nat.add_sub_cancel]; exact nI_s1 n
theorem oI_neg (x : Option Nat) : oI x < 0 ↔ (x = none ∨ ∃ k, x = some k ∧ nI k < 0) := by
  cases x with
  | none => exact ⟨fun _ => Or.inl rfl, fun _ => by decide⟩
  | some k => exact ⟨fun h => Or.inr ⟨k, rfl, h⟩, fun h => h.elim (fun z => nomatch z) (fun ⟨j, z, g⟩ => by cases z; exact g)⟩
theorem oI_lt {x : Option Nat} (h : ∀ k, x = some k → k < 2 ^ 31) : oI x < 0 ↔ x = none := by
  rw [oI_neg]
  exact ⟨fun g => g.elim id fun ⟨k, g1, g2⟩ => absurd g2 (nI_pos (h k g1)), Or.inl⟩
theorem f7_hasToDo_s (σ : Mem) (q : QS) (hz : Sz q) {m : Nat} (hm : m < 6) : f7_hasToDo (nI m) (wq σ q) = some (bI (busyQ q m), wq σ q) := by
  have h0 : f7_of (nI m) (0 : Int32) (wq σ q) = some (mQ q m 0, wq σ q) := f7_of_s σ q (m := m) (j := 0) (by omega)
  have hr : oI (rdQ q m (nA q m)) < 0 ↔ rdQ q m (nA q m) = none := oI_lt fun k hk => by
    have := (firstN_some hk).1
    have := (hz.A hm).2
    omega
  unfold f7_hasToDo
  rw [h0, bdS]
  simp only [nmS]
  unfold busyQ
  by_cases e : 0 < mQ q m 0
  · rw [if_pos e, decide_eq_true e]; rfl
  · rw [if_neg e, f7_ready_s σ q hz hm, bdS, decide_eq_false e]
    cases f : rdQ q m (nA q m) with
    | none => rw [if_pos (by decide)]; rfl
    | some k => rw [f] at hr; rw [if_neg (fun z => by cases hr.mp z)]; rfl
theorem f7_isBankrupt_s (σ : Mem) (q : QS) (m : Nat) : f7_isBankrupt (nI m) (wq σ q) = some (bI (bkQ q m), wq σ q) := by
  unfold f7_isBankrupt bkQ
  simp only [lit, wq_get, nI_clamp (show 6 < 2 ^ 31 by decide)]
  by_cases e : (q 6 >>> (nI m &&& nI 31)) &&& nI 1 = nI 1
  · rw [if_pos e]; show _ = some (bI (decide ((q 6 >>> (nI m &&& nI 31)) &&& nI 1 = nI 1)), _); rw [decide_eq_true e]; rfl
  · rw [if_neg e]; show _ = some (bI (decide ((q 6 >>> (nI m &&& nI 31)) &&& nI 1 = nI 1)), _); rw [decide_eq_false e]; rfl
/-- the two scans -/
theorem best_step (may : Nat → Bool) (f : Nat → Int32) (i : Nat) (hi : i < 6) : oI (bestN may f (i + 1)) = if may i = true then (if oI (bestN may f i) < 0 then nI i else if f i ≤ f (oI (bestN may f i)).toNatClampNeg then oI (bestN may f i) else nI i) else oI (bestN may f i) := by
  show oI (if may i = true then _ else _) = _
  by_cases e : may i = true
  · rw [if_pos e, if_pos e]
    cases g : bestN may f i with
    | none => rw [if_pos (by decide)]; rfl
    | some c =>
      have hc := bestN_lt g
      show oI (if f c < f i then some i else some c) = if nI c < 0 then nI i else if f i ≤ f (nI c).toNatClampNeg then nI c else nI i
      rw [if_neg (nI_pos (n := c) (by omega)), nI_clamp (n := c) (by omega)]
      by_cases e2 : f c < f i
      · rw [if_pos e2, if_neg (fun z => by
          have a1 := Int32.le_iff_toInt_le.mp z
          have a2 := Int32.lt_iff_toInt_lt.mp e2
          omega)]
        rfl
      · rw [if_neg e2, if_pos (Int32.le_iff_toInt_le.mpr (by
          have a2 : ¬ (f c).toInt < (f i).toInt := fun z => e2 (Int32.lt_iff_toInt_lt.mpr z)
          omega))]
        rfl
  · rw [if_neg e, if_neg e]
def crQ (q : QS) (o : Nat) (busy : Nat → Bool) : Option Nat := bestN (fun b => decide (0 < owQ q o b) && busy b) (owQ q o) (nM q)
def boQ (q : QS) (busy : Nat → Bool) : Option Nat := bestN (fun m => (busy m && !bkQ q m) && decide (dbQ q m < q 4)) (fun m => mQ q m 1) (nM q)
theorem not_le_lt {x y : Int32} : ¬ x ≤ y ↔ y < x := by
  rw [Int32.le_iff_toInt_le, Int32.lt_iff_toInt_lt]; omega
theorem not_lt_le {x y : Int32} : ¬ x < y ↔ y ≤ x := by
  rw [Int32.le_iff_toInt_le, Int32.lt_iff_toInt_lt]; omega
theorem f7_creditorOf_s (σ : Mem) (q : QS) (hz : Sz q) {o : Nat} (ho : o < 6) (p : Nat → Bool) : f7_creditorOf (nI o) (mk p (nM q)) (wq σ q) = some (oI (crQ q o p), wq σ q) := by
  obtain ⟨h1, h2, h3⟩ := hz.M
  simp only [f7_creditorOf, nmS]
  refine lup (fun n (z : Int32 × Int32) => f7_creditorOf_l5 (nI o) (mk p (nM q)) _ n z.1 z.2 (wq σ q)) (fun i => (oI (bestN (fun b => decide (0 < owQ q o b) && p b) (owQ q o) i), nI i)) (nM q) _ ?_ ?_ (nM q) 0 FU (by omega) (Nat.lt_of_le_of_lt h2 (by decide))
  · intro n i hi
    show f7_creditorOf_l5 _ _ _ (n + 1) (oI (bestN _ _ i)) (nI i) _ = f7_creditorOf_l5 _ _ _ n (oI (bestN _ _ (i + 1))) (nI (i + 1)) _
    rw [best_step _ _ i (by omega), f7_creditorOf_l5]
    generalize hB : oI (bestN (fun b => decide (0 < owQ q o b) && p b) (owQ q o) i) = B
    have hB2 : ¬ B < 0 → B = nI B.toNatClampNeg ∧ B.toNatClampNeg < 6 := by
      intro hb
      cases g : bestN (fun b => decide (0 < owQ q o b) && p b) (owQ q o) i with
      | none => rw [g] at hB; subst hB; exact absurd (by decide) hb
      | some c =>
        have hc := bestN_lt g
        rw [g] at hB; subst hB
        show nI c = nI (nI c).toNatClampNeg ∧ _
        rw [oI, nI_clamp (by omega)]; exact ⟨rfl, by omega⟩
    simp only [wq_get, nmS]
    rw [show q ((0 : Int32)).toNatClampNeg = nI (nM q) from h1, if_neg (nI_ge hi (by omega)), f7_owed_s σ q (by omega), bdS]
    simp only [nI_1]
    by_cases e1 : owQ q o i ≤ 0
    · rw [if_pos e1, if_pos trivial]
      rw [if_neg (show ¬ (decide (0 < owQ q o i) && p i) = true from fun z => by
        rw [Bool.and_eq_true] at z
        exact not_le_lt.mpr (of_decide_eq_true z.1) e1)]
    · rw [if_neg e1]
      by_cases e2 : ((mk p (nM q) >>> (nI i &&& 31)) &&& 1) = 1
      · have hp := ((mk_bit h2 (by omega)).mp e2).2
        rw [if_pos e2, if_neg (by decide : ¬ (1 : Int32) = 0)]
        rw [if_pos (show (decide (0 < owQ q o i) && p i) = true by rw [decide_eq_true (not_le_lt.mp e1), hp]; rfl)]
        by_cases e3 : B < 0
        · rw [if_pos e3, if_pos e3]
        · obtain ⟨b1, b2⟩ := hB2 e3
          rw [if_neg e3, if_neg e3, b1, f7_owed_s σ q (by omega), bdS, f7_owed_s σ q (by omega), bdS, nI_clamp (by omega)]
          by_cases e4 : owQ q o i ≤ owQ q o B.toNatClampNeg
          · rw [if_pos e4, if_pos e4]
          · rw [if_neg e4, if_neg e4]
      · have hp : ¬ p i = true := fun z => e2 ((mk_bit h2 (by omega)).mpr ⟨hi, z⟩)
        rw [if_neg e2, if_pos trivial]
        rw [if_neg (show ¬ (decide (0 < owQ q o i) && p i) = true from fun z => by rw [Bool.and_eq_true] at z; exact hp z.2)]
  · intro n
    show f7_creditorOf_l5 _ _ _ (n + 1) _ (nI (nM q)) _ = _
    rw [f7_creditorOf_l5]
    simp only [wq_get]
    rw [show q ((0 : Int32)).toNatClampNeg = nI (nM q) from h1, if_pos (nI_le (Nat.le_refl _) (by omega))]
    rfl
theorem f7_longestWaiting_s (σ : Mem) (q : QS) (hz : Sz q) (p : Nat → Bool) : f7_longestWaiting (mk p (nM q)) (wq σ q) = some (oI (boQ q p), wq σ q) := by
  obtain ⟨h1, h2, h3⟩ := hz.M
  simp only [f7_longestWaiting, nmS]
  refine lup (fun n (z : Int32 × Int32) => f7_longestWaiting_l4 (mk p (nM q)) _ n z.1 z.2 (wq σ q)) (fun i => (oI (bestN (fun m => (p m && !bkQ q m) && decide (dbQ q m < q 4)) (fun m => mQ q m 1) i), nI i)) (nM q) _ ?_ ?_ (nM q) 0 FU (by omega) (Nat.lt_of_le_of_lt h2 (by decide))
  · intro n i hi
    show f7_longestWaiting_l4 _ _ (n + 1) (oI (bestN _ _ i)) (nI i) _ = f7_longestWaiting_l4 _ _ n (oI (bestN _ _ (i + 1))) (nI (i + 1)) _
    rw [best_step _ _ i (by omega), f7_longestWaiting_l4]
    generalize hB : oI (bestN (fun m => (p m && !bkQ q m) && decide (dbQ q m < q 4)) (fun m => mQ q m 1) i) = B
    have hB2 : ¬ B < 0 → B = nI B.toNatClampNeg ∧ B.toNatClampNeg < 6 := by
      intro hb
      cases g : bestN (fun m => (p m && !bkQ q m) && decide (dbQ q m < q 4)) (fun m => mQ q m 1) i with
      | none => rw [g] at hB; subst hB; exact absurd (by decide) hb
      | some c =>
        have hc := bestN_lt g
        rw [g] at hB; subst hB
        show nI c = nI (nI c).toNatClampNeg ∧ _
        rw [oI, nI_clamp (by omega)]; exact ⟨rfl, by omega⟩
    simp only [wq_get, nmS]
    rw [show q ((0 : Int32)).toNatClampNeg = nI (nM q) from h1, if_neg (nI_ge hi (by omega))]
    simp only [nI_1]
    have no : ∀ z : Bool, z = false → (if z = true then (if B < 0 then nI i else if mQ q i 1 ≤ mQ q B.toNatClampNeg 1 then B else nI i) else B) = B := fun z hz2 => by rw [hz2]; rfl
    by_cases e2 : ((mk p (nM q) >>> (nI i &&& 31)) &&& 1) = 1
    · have hp := ((mk_bit h2 (by omega)).mp e2).2
      rw [if_pos e2, f7_isBankrupt_s, bdS]
      by_cases e3 : bkQ q i = true
      · rw [show bI (bkQ q i) = 1 by rw [e3]; rfl, if_neg (by decide : ¬ (1 : Int32) = 0), if_pos trivial, no _ (by rw [e3]; simp)]
      · have e3f : bkQ q i = false := Bool.eq_false_iff.mpr e3
        rw [show bI (bkQ q i) = 0 by rw [e3f]; rfl, if_pos rfl, f7_debts_s σ q (by omega), bdS, wq_get, show q ((4 : Int32)).toNatClampNeg = q 4 from rfl]
        by_cases e4 : q 4 ≤ dbQ q i
        · rw [if_pos e4, if_pos trivial, no _ (by rw [decide_eq_false (fun z => not_lt_le.mpr e4 z)]; simp)]
        · rw [if_neg e4, if_neg (by decide : ¬ (1 : Int32) = 0)]
          rw [if_pos (show ((p i && !bkQ q i) && decide (dbQ q i < q 4)) = true by rw [hp, e3f, decide_eq_true (not_le_lt.mp e4)]; rfl)]
          by_cases e5 : B < 0
          · rw [if_pos e5, if_pos e5]
          · obtain ⟨b1, b2⟩ := hB2 e5
            have j1 : f7_of (nI i) (1 : Int32) (wq σ q) = some (mQ q i 1, wq σ q) := f7_of_s σ q (m := i) (j := 1) (by omega)
            have j2 : f7_of (nI B.toNatClampNeg) (1 : Int32) (wq σ q) = some (mQ q B.toNatClampNeg 1, wq σ q) := f7_of_s σ q (m := B.toNatClampNeg) (j := 1) (by omega)
            rw [if_neg e5, if_neg e5, j1, bdS]
            rw [b1, j2, bdS, nI_clamp (by omega)]
            by_cases e6 : mQ q i 1 ≤ mQ q B.toNatClampNeg 1
            · rw [if_pos e6, if_pos e6]
            · rw [if_neg e6, if_neg e6]
    · have hp : p i = false := Bool.eq_false_iff.mpr fun z => e2 ((mk_bit h2 (by omega)).mpr ⟨hi, z⟩)
      rw [if_neg e2, if_pos trivial, no _ (by rw [hp]; rfl)]
  · intro n
    show f7_longestWaiting_l4 _ _ (n + 1) _ (nI (nM q)) _ = _
    rw [f7_longestWaiting_l4]
    simp only [wq_get]
    rw [show q ((0 : Int32)).toNatClampNeg = nI (nM q) from h1, if_pos (nI_le (Nat.le_refl _) (by omega))]
    rfl
end MODEL1
