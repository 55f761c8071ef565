/-! WHAT THE SUMS COME TO -/
section FACTS
variable {q r u : QS} {T N Bd Ba Bw : Nat}
theorem sumF_addF (f g : Nat → Int32) : ∀ n, sumF (fun i => f i + g i) n = sumF f n + sumF g n
  | 0 => rfl
  | n + 1 => by
    show sumF (fun i => f i + g i) n + (f n + g n) = sumF f n + f n + (sumF g n + g n)
    rw [sumF_addF f g n, Int32.add_assoc, ← Int32.add_assoc (sumF g n), Int32.add_comm (sumF g n) (f n), Int32.add_assoc (f n), ← Int32.add_assoc, ← Int32.add_assoc]
theorem sumF_zero : ∀ n, sumF (fun _ => 0) n = 0
  | 0 => rfl
  | n + 1 => by
    show sumF (fun _ => 0) n + 0 = 0
    rw [sumF_zero n]; rfl
theorem sumF_swap (g : Nat → Nat → Int32) (k : Nat) : ∀ n, sumF (fun a => sumF (fun m => g a m) k) n = sumF (fun m => sumF (fun a => g a m) n) k
  | 0 => (sumF_zero k).symm
  | n + 1 => by
    show sumF (fun a => sumF (fun m => g a m) k) n + sumF (fun m => g n m) k = sumF (fun m => sumF (fun a => g a m) n + g n m) k
    rw [sumF_swap g k n, sumF_addF]
theorem nI_z {x : Nat} (hx : x < 2 ^ 31) (h : nI x = 0) : x = 0 := (nI_eq (b := 0) hx (by decide)).mp h
theorem cut6 {f : Nat → Nat} {M : Nat} (hM : M ≤ 6) (h : ∀ i, M ≤ i → i < 6 → f i = 0) : sumN f 6 = sumN f M := by
  have := sumN_cut (f := f) (n := M) (6 - M) (fun i h1 h2 => h i h1 (by omega))
  rw [show M + (6 - M) = 6 by omega] at this
  exact this
/-- the turns' sum -/
theorem s_turns (h : Ac T q) (hw : Wb T T T q) (hT : q 2 = nI T) (hT2 : T < 2 ^ 28) : sumF (fun m => msV q m 7 + msV q m 8 + msV q m 9) (nM q) + q 3 = q 2 := by
  obtain ⟨a, b, l, i, g1, g2, g3, g4⟩ := h
  have hM := hw.sz.M
  have hle : ∀ m, m < 6 → a m + b m + l m ≤ T := fun m hm => by
    have := sumN_ge (f := fun m => a m + b m + l m) hm
    omega
  have hz : ∀ m, nM q ≤ m → m < 6 → a m + b m + l m = 0 := fun m h1 h2 => by
    have x := g1 m h2
    have y := hle m h2
    have x3 := nI_z (by omega) (x.1.symm.trans (hw.rest m 3 h1 h2 (by omega)))
    have x4 := nI_z (by omega) (x.2.1.symm.trans (hw.rest m 4 h1 h2 (by omega)))
    have x5 := nI_z (by omega) (x.2.2.symm.trans (hw.rest m 5 h1 h2 (by omega)))
    omega
  have e1 : sumF (fun m => msV q m 7 + msV q m 8 + msV q m 9) (nM q) = nI (sumN (fun m => a m + b m + l m) (nM q)) := sumF_nI fun m hm => by
    have x := g1 m (by omega)
    show mQ q m 3 + mQ q m 4 + mQ q m 5 = _
    rw [x.1, x.2.1, x.2.2, nI_add, nI_add]
  rw [e1, ← cut6 hM.2.1 hz, g2, nI_add, g3, hT]
/-- the debts are turns on credit that are not paid back -/
theorem s_debts (h : Ac T q) (hw : Wb T T T q) (hT2 : T < 2 ^ 28) : ¬ sumF (fun m => msV q m 9) (nM q) - sumF (fun m => msV q m 8) (nM q) < sumF (dbQ q) (nM q) := by
  obtain ⟨a, b, l, i, g1, g2, g3, g4⟩ := h
  have hM := hw.sz.M
  have hle : ∀ m, m < 6 → a m + b m + l m ≤ T := fun m hm => by
    have := sumN_ge (f := fun m => a m + b m + l m) hm
    omega
  have e5 : sumF (fun m => msV q m 9) (nM q) = nI (sumN l (nM q)) := sumF_nI fun m hm => (g1 m (by omega)).2.2
  have e4 : sumF (fun m => msV q m 8) (nM q) = nI (sumN b (nM q)) := sumF_nI fun m hm => (g1 m (by omega)).2.1
  have e1 : sumF (dbQ q) (nM q) = nI (sumN (dN q) (nM q)) := sumF_nI fun m hm => (hw.dN hT2 (by omega)).1
  have c5 : sumN l 6 = sumN l (nM q) := cut6 hM.2.1 fun m h1 h2 => by
    have y := hle m h2
    exact nI_z (by omega) ((g1 m h2).2.2.symm.trans (hw.rest m 5 h1 h2 (by omega)))
  have c4 : sumN b 6 = sumN b (nM q) := cut6 hM.2.1 fun m h1 h2 => by
    have y := hle m h2
    exact nI_z (by omega) ((g1 m h2).2.1.symm.trans (hw.rest m 4 h1 h2 (by omega)))
  have c1 : sumN (dN q) 6 = sumN (dN q) (nM q) := cut6 hM.2.1 fun m h1 h2 => by
    have : ∀ b, b < 6 → (owQ q m b).toNatClampNeg = 0 := fun b hb => by
      rw [hw.debt0 m b h2 hb (Or.inl h1)]; decide
    show sumN (fun b => (owQ q m b).toNatClampNeg) 6 = 0
    rw [sumN_eq (f := fun _ => 0) this]
    rfl
  have s1 := sumN_add (f := fun m => a m + b m) (g := l) 6
  have s2 := sumN_add (f := a) (g := b) 6
  rw [e5, e4, e1, pk_sub (by omega)]
  exact nI_nlt (by omega) (by omega)
theorem ind_sum {o : Nat} : ∀ n, sumN (fun m => if m = o then 1 else 0) n = if o < n then 1 else 0
  | 0 => rfl
  | n + 1 => by
    show sumN (fun m => if m = o then 1 else 0) n + (if n = o then 1 else 0) = _
    rw [ind_sum n]
    by_cases e : n = o
    · rw [if_neg (by omega), if_pos e, if_pos (by omega)]
    · rw [if_neg e]
      by_cases e2 : o < n
      · rw [if_pos e2, if_pos (by omega)]
      · rw [if_neg e2, if_neg (by omega)]
/-- each slot belongs to one master -/
theorem s_slots (hw : Wb Bd Ba Bw q) : sumF (fun m => msV q m 0) (nM q) = q 1 := by
  have hM := hw.sz.M
  have hS := hw.sz.S
  have h1 : ∀ n, n ≤ nS q → sumN (fun m => slN q m n) (nM q) = n := by
    intro n
    induction n with
    | zero =>
      intro _
      show sumN (fun _ => 0) (nM q) = 0
      have : ∀ k, sumN (fun _ => 0) k = 0 := fun k => by
        induction k with
        | zero => rfl
        | succ k ih => show sumN (fun _ => 0) k + 0 = 0; rw [ih]
      exact this _
    | succ n ih =>
      intro hn
      obtain ⟨o, ho1, ho2⟩ := hw.own n (by omega)
      show sumN (fun m => slN q m n + if q (11 + n) = nI m then 1 else 0) (nM q) = n + 1
      rw [sumN_add, ih (by omega)]
      congr 1
      rw [sumN_eq (f := fun m => if m = o then 1 else 0) fun m hm => ?_, ind_sum, if_pos ho1]
      rw [ho2]
      by_cases e : m = o
      · rw [if_pos e, e, if_pos rfl]
      · rw [if_neg e, if_neg (fun z => e ((nI_eq (by omega) (by omega)).mp z).symm)]
  have h2 : sumF (fun m => msV q m 0) (nM q) = nI (sumN (fun m => slN q m (nS q)) (nM q)) := sumF_nI fun m hm => slN_is q m (nS q)
  rw [h2, h1 _ (Nat.le_refl _), hS.1]
/-- what a master owes, over the masters that there are -/
theorem s_to (hw : Wb Bd Ba Bw q) {m : Nat} (hm : m < 6) : sumF (fun b => owQ q m b) (nM q) = dbQ q m := by
  have hM := hw.sz.M
  have h := sum_cut (g := fun b => owQ q m b) (n := nM q) (6 - nM q) (fun i h1 h2 => hw.debt0 m i hm (by omega) (Or.inr h1))
  rw [show nM q + (6 - nM q) = 6 by omega] at h
  exact h.symm
theorem s_owed (hw : Wb Bd Ba Bw q) : sumF (fun m => msV q m 2) (nM q) = sumF (fun m => msV q m 1) (nM q) := by
  have hM := hw.sz.M
  show sumF (fun m => sumF (fun a => owQ q a m) (nM q)) (nM q) = sumF (dbQ q) (nM q)
  rw [sumF_swap (fun m a => owQ q a m)]
  exact sumF_congr fun a ha => s_to hw (by omega)
/-! ### the order of the debts -/
theorem sumN_lt {f g : Nat → Nat} {k : Nat} : ∀ {n}, k < n → (∀ i, i < n → f i ≤ g i) → f k < g k → sumN f n < sumN g n
  | 0, h, _, _ => absurd h (Nat.not_lt_zero k)
  | n + 1, h, hh, hk => by
    show sumN f n + f n < sumN g n + g n
    by_cases e : k = n
    · subst e
      have := sumN_le (n := k) (f := f) (g := g) fun i hi => hh i (by omega)
      omega
    · have := sumN_lt (f := f) (g := g) (show k < n by omega) (fun i hi => hh i (by omega)) hk
      have := hh n (by omega)
      omega
def ah (D : Nat → Nat) (m i : Nat) : Bool := decide (D m < D i) || (decide (D i = D m) && decide (i < m))
theorem ah_iff (D : Nat → Nat) (m i : Nat) : ah D m i = true ↔ (D m < D i ∨ (D i = D m ∧ i < m)) := by
  unfold ah
  rw [Bool.or_eq_true, Bool.and_eq_true, decide_eq_true_iff, decide_eq_true_iff, decide_eq_true_iff]
def rk (D : Nat → Nat) (M m : Nat) : Nat := sumN (fun i => if ah D m i = true then 1 else 0) M
theorem rk_lt {D : Nat → Nat} {M i j : Nat} (hi : i < M) (h : ah D j i = true) : rk D M i < rk D M j := by
  have h0 := (ah_iff D j i).mp h
  refine sumN_lt (k := i) hi (fun x _ => ?_) ?_
  · by_cases e : ah D i x = true
    · have h1 := (ah_iff D i x).mp e
      rw [if_pos e, if_pos ((ah_iff D j x).mpr (by omega))]
      exact Nat.le_refl _
    · rw [if_neg e]; exact Nat.zero_le _
  · rw [if_neg (fun z => by
      have := (ah_iff D i i).mp z
      omega), if_pos h]
    omega
theorem rk_inj {D : Nat → Nat} {M i j : Nat} (hi : i < M) (hj : j < M) (h : rk D M i = rk D M j) : i = j := by
  by_cases a : ah D j i = true
  · have := rk_lt hi a; omega
  · by_cases b : ah D i j = true
    · have := rk_lt hj b; omega
    · rw [ah_iff] at a b
      omega
theorem rk_M {D : Nat → Nat} {M m : Nat} (hm : m < M) : rk D M m < M := by
  have h1 : sumN (fun _ => 1) M = M := by
    have : ∀ k, sumN (fun _ => 1) k = k := fun k => by
      induction k with
      | zero => rfl
      | succ k ih => show sumN (fun _ => 1) k + 1 = k + 1; rw [ih]
    exact this M
  have h2 : rk D M m < sumN (fun _ => 1) M := sumN_lt (k := m) hm (fun i _ => by
    by_cases e : ah D m i = true
    · rw [if_pos e]; exact Nat.le_refl _
    · rw [if_neg e]; exact Nat.zero_le _) (by
    rw [if_neg (fun z => by
      have := (ah_iff D m m).mp z
      omega)]
    omega)
  omega
theorem one_at {c : Nat → Nat} {k : Nat} : ∀ M, (∀ i j, i < M → j < M → c i = c j → i = j) → sumN (fun x => if c x = k then 1 else 0) M ≤ 1 ∧ ((∀ x, x < M → c x ≠ k) → sumN (fun x => if c x = k then 1 else 0) M = 0)
  | 0, _ => ⟨Nat.zero_le _, fun _ => rfl⟩
  | M + 1, h => by
    obtain ⟨i1, i2⟩ := one_at (c := c) (k := k) M (fun i j hi hj => h i j (by omega) (by omega))
    have e : sumN (fun x => if c x = k then 1 else 0) (M + 1) = sumN (fun x => if c x = k then 1 else 0) M + if c M = k then 1 else 0 := rfl
    rw [e]
    refine ⟨?_, fun hn => ?_⟩
    · by_cases z : c M = k
      · rw [if_pos z, i2 fun x hx hz => by
          have := h x M (by omega) (by omega) (hz.trans z.symm)
          omega]
        exact Nat.le_refl 1
      · rw [if_neg z]; exact i1
    · rw [if_neg (hn M (by omega)), i2 fun x hx => hn x (by omega)]
theorem rk_sur {D : Nat → Nat} {M k : Nat} (hk : k < M) : ∃ i, i < M ∧ rk D M i = k := by
  apply Classical.byContradiction
  intro hno
  have hno2 : ∀ x, x < M → rk D M x ≠ k := fun x hx e => hno ⟨x, hx, e⟩
  have hs : ∀ j, sumN (fun x => if rk D M x < j + 1 then 1 else 0) M = sumN (fun x => if rk D M x < j then 1 else 0) M + sumN (fun x => if rk D M x = j then 1 else 0) M := fun j => by
    rw [← sumN_add]
    refine sumN_eq fun x _ => ?_
    by_cases a : rk D M x < j
    · rw [if_pos (show rk D M x < j + 1 by omega), if_pos a, if_neg (by omega)]
    · by_cases b : rk D M x = j
      · rw [if_pos (show rk D M x < j + 1 by omega), if_neg a, if_pos b]
      · rw [if_neg (show ¬ rk D M x < j + 1 by omega), if_neg a, if_neg b]
  have c1 : ∀ j, sumN (fun x => if rk D M x < j then 1 else 0) M + (if k < j then 1 else 0) ≤ j := by
    intro j
    induction j with
    | zero =>
      rw [if_neg (by omega)]
      have := sumN_max (n := M) (f := fun x => if rk D M x < 0 then 1 else 0) (B := 0) (fun i _ => by rw [if_neg (by omega)]; exact Nat.le_refl _)
      omega
    | succ j ih =>
      obtain ⟨o1, o2⟩ := one_at (c := rk D M) (k := j) M (fun i j hi hj => rk_inj hi hj)
      rw [hs j]
      by_cases e : k = j
      · subst e
        rw [o2 hno2, if_pos (by omega)]
        rw [if_neg (by omega)] at ih
        omega
      · by_cases e2 : k < j
        · rw [if_pos (by omega)]
          rw [if_pos e2] at ih
          omega
        · rw [if_neg (by omega)]
          rw [if_neg e2] at ih
          omega
  have c2 := c1 M
  rw [if_pos hk, sumN_eq (f := fun _ => 1) fun x hx => if_pos (rk_M hx)] at c2
  have : ∀ k, sumN (fun _ => 1) k = k := fun k => by
    induction k with
    | zero => rfl
    | succ k ih => show sumN (fun _ => 1) k + 1 = k + 1; rw [ih]
  rw [this] at c2
  omega
/-- the rank of a master -/
theorem ah_is (hw : Wb Bd Ba Bw q) (hB : Bd < 2 ^ 28) {m : Nat} (hm : m < 6) : ∀ n, n ≤ 6 → ahN q m n = sumN (fun i => if ah (dN q) m i = true then 1 else 0) n
  | 0, _ => rfl
  | n + 1, hn => by
    show ahN q m n + (if ahQ q m n = true then 1 else 0) = sumN _ n + (if ah (dN q) m n = true then 1 else 0)
    rw [ah_is hw hB hm n (by omega)]
    have h1 := hw.dN hB hm
    have h2 := hw.dN hB (show n < 6 by omega)
    have e : ahQ q m n = ah (dN q) m n := by
      unfold ahQ ah
      rw [h1.1, h2.1, decide_eq_decide.mpr (nI_ltI h1.2 h2.2), decide_eq_decide.mpr (nI_eq h2.2 h1.2)]
    rw [e]
theorem ord_at (hw : Wb Bd Ba Bw q) (hB : Bd < 2 ^ 28) {k : Nat} (hk : k < nM q) : ∃ a, a < nM q ∧ rk (dN q) (nM q) a = k ∧ firstN (fun i => decide (ahN q i (nM q) = k)) (nM q) = some a := by
  have hM := hw.sz.M
  obtain ⟨a, ha, hr⟩ := rk_sur (D := dN q) hk
  have e : ∀ i, i < nM q → ahN q i (nM q) = rk (dN q) (nM q) i := fun i hi => ah_is hw hB (by omega) (nM q) hM.2.1
  refine ⟨a, ha, hr, firstN_is ha (decide_eq_true ((e a ha).trans hr)) fun j hj => decide_eq_false fun z => ?_⟩
  have := rk_inj (D := dN q) (M := nM q) (i := j) (j := a) (by omega) ha (((e j (by omega)).symm.trans z).trans hr.symm)
  omega
theorem ord_end (hw : Wb Bd Ba Bw q) (hB : Bd < 2 ^ 28) : firstN (fun i => decide (ahN q i (nM q) = nM q)) (nM q) = none := by
  have hM := hw.sz.M
  refine firstN_no fun j hj => decide_eq_false fun z => ?_
  have e : ahN q j (nM q) = rk (dN q) (nM q) j := ah_is hw hB (by omega) (nM q) hM.2.1
  have := rk_M (D := dN q) hj
  omega
/-- two that stand side by side -/
theorem ord_two (hw : Wb Bd Ba Bw q) (hB : Bd < 2 ^ 28) {k a b : Nat} (ha : a < nM q) (hb : b < nM q) (h1 : rk (dN q) (nM q) a = k) (h2 : rk (dN q) (nM q) b = k + 1) : dN q b < dN q a ∨ (dN q a = dN q b ∧ a < b) := by
  by_cases e : ah (dN q) a b = true
  · have := rk_lt hb e
    omega
  · rw [ah_iff] at e
    have hne : a ≠ b := fun z => by
      rw [z] at h1
      omega
    omega
end FACTS
