/-! WHAT HOLDS OF THE ROW besides: accounts of turns and debts, waits, bankrupt masters -/
section IV
variable {q r : QS} {T N Bd Ba Bw : Nat}
theorem sumN_add {f g : Nat → Nat} : ∀ n, sumN (fun i => f i + g i) n = sumN f n + sumN g n
  | 0 => rfl
  | n + 1 => by
    show sumN (fun i => f i + g i) n + (f n + g n) = sumN f n + f n + (sumN g n + g n)
    rw [sumN_add n]; omega
theorem sumN_ge {f : Nat → Nat} {k : Nat} : ∀ {n}, k < n → f k ≤ sumN f n
  | 0, h => absurd h (Nat.not_lt_zero k)
  | n + 1, h => by
    show f k ≤ sumN f n + f n
    by_cases e : k = n
    · rw [e]; omega
    · have := sumN_ge (f := f) (show k < n by omega)
      omega
theorem sumN_eq {f g : Nat → Nat} : ∀ {n}, (∀ i, i < n → g i = f i) → sumN g n = sumN f n
  | 0, _ => rfl
  | n + 1, h => by
    show sumN g n + g n = sumN f n + f n
    rw [sumN_eq fun i hi => h i (by omega), h n (by omega)]
theorem sumN_chg {f g : Nat → Nat} {k : Nat} : ∀ {n}, k < n → (∀ i, i < n → i ≠ k → g i = f i) → sumN g n + f k = sumN f n + g k
  | 0, h, _ => absurd h (Nat.not_lt_zero k)
  | n + 1, h, hh => by
    show sumN g n + g n + f k = sumN f n + f n + g k
    by_cases e : k = n
    · subst e
      rw [sumN_eq (f := f) (g := g) fun i hi => hh i (by omega) (by omega)]
      omega
    · have := sumN_chg (f := f) (g := g) (show k < n by omega) (fun i hi => hh i (by omega))
      rw [hh n (by omega) (by omega)]
      omega
theorem sumN_cut {f : Nat → Nat} {n : Nat} : ∀ k, (∀ i, n ≤ i → i < n + k → f i = 0) → sumN f (n + k) = sumN f n
  | 0, _ => rfl
  | k + 1, h => by
    show sumN f (n + k) + f (n + k) = _
    rw [sumN_cut k (fun i h1 h2 => h i h1 (by omega)), h (n + k) (by omega) (by omega)]
    rfl
/-- the accounts: each tick is an own one, paid back, on credit, or idle; debts are turns on credit that are not paid back -/
def Ac (N : Nat) (q : QS) : Prop := ∃ (a b l : Nat → Nat) (i : Nat), (∀ m, m < 6 → mQ q m 3 = nI (a m) ∧ mQ q m 4 = nI (b m) ∧ mQ q m 5 = nI (l m)) ∧ q 3 = nI i ∧
  sumN (fun m => a m + b m + l m) 6 + i = N ∧ sumN b 6 + sumN (dN q) 6 ≤ sumN l 6
def Wa (T : Nat) (q : QS) : Prop := ∀ m, m < 6 → ∃ w l, w ≤ l ∧ l ≤ T ∧ mQ q m 1 = nI w ∧ mQ q m 2 = nI l
def Nul (q : QS) (m : Nat) : Prop := (∀ s, s < nS q → q (11 + s) ≠ nI m) ∧ (∀ b, b < 6 → owQ q m b = 0 ∧ owQ q b m = 0) ∧ mQ q m 0 = 0 ∧ mQ q m 7 = 0
def Bk (q : QS) : Prop := (∀ m, m < 6 → owQ q m m = 0) ∧ ∀ m, m < 6 → bkQ q m = true → Nul q m
def Cr (q : QS) : Prop := ∃ k, k ≤ 9 ∧ q 4 = nI k
def Iv (T : Nat) (q : QS) : Prop := Ac T q ∧ Wa T q ∧ Bk q ∧ Cr q
theorem dN_le (h : ∀ a b, a < 6 → b < 6 → (owQ r a b).toNatClampNeg ≤ (owQ q a b).toNatClampNeg) : sumN (dN r) 6 ≤ sumN (dN q) 6 := sumN_le fun a ha => sumN_le fun b hb => h a b ha hb
theorem Ac.fr (h : Ac N q) (hm : ∀ m j, m < 6 → 3 ≤ j → j < 6 → mQ r m j = mQ q m j) (h3 : r 3 = q 3) (hd : ∀ a b, a < 6 → b < 6 → (owQ r a b).toNatClampNeg ≤ (owQ q a b).toNatClampNeg) : Ac N r := by
  obtain ⟨a, b, l, i, g1, g2, g3, g4⟩ := h
  refine ⟨a, b, l, i, fun m h6 => ?_, h3.trans g2, g3, ?_⟩
  · rw [hm m 3 h6 (by omega) (by omega), hm m 4 h6 (by omega) (by omega), hm m 5 h6 (by omega) (by omega)]; exact g1 m h6
  · have := dN_le hd
    omega
theorem Ac.idle (h : Ac N q) {e : Nat} (hm : ∀ m j, m < 6 → 3 ≤ j → j < 6 → mQ r m j = mQ q m j) (h3 : r 3 = q 3 + nI e) (hd : ∀ a b, a < 6 → b < 6 → owQ r a b = owQ q a b) : Ac (N + e) r := by
  obtain ⟨a, b, l, i, g1, g2, g3, g4⟩ := h
  refine ⟨a, b, l, i + e, fun m h6 => ?_, by rw [h3, g2, nI_add], by omega, ?_⟩
  · rw [hm m 3 h6 (by omega) (by omega), hm m 4 h6 (by omega) (by omega), hm m 5 h6 (by omega) (by omega)]; exact g1 m h6
  · have := dN_le (q := q) (r := r) fun a b ha hb => by rw [hd a b ha hb]; exact Nat.le_refl _
    omega
theorem Wa.fr (h : Wa T q) (hm : ∀ m j, m < 6 → 1 ≤ j → j < 3 → mQ r m j = mQ q m j) : Wa T r := fun m h6 => by
  rw [hm m 1 h6 (by omega) (by omega), hm m 2 h6 (by omega) (by omega)]; exact h m h6
theorem Wa.mono {T2 : Nat} (h : Wa T q) (hT : T ≤ T2) : Wa T2 q := fun m h6 => by
  obtain ⟨w, l, g1, g2, g3⟩ := h m h6
  exact ⟨w, l, g1, by omega, g3⟩
theorem Bk.fr (h : Bk q) (h6 : r 6 = q 6) (hS : r 1 = q 1) (ho : ∀ s, s < nS q → r (11 + s) = q (11 + s)) (hd : ∀ a b, a < 6 → b < 6 → owQ q a b = 0 → (a = b ∨ bkQ q a = true ∨ bkQ q b = true) → owQ r a b = 0) (hm : ∀ m, m < 6 → bkQ q m = true → mQ r m 0 = mQ q m 0 ∧ mQ r m 7 = mQ q m 7) : Bk r := by
  refine ⟨fun m hm6 => hd m m hm6 hm6 (h.1 m hm6) (Or.inl rfl), fun m hm6 hb => ?_⟩
  rw [bkQ_of h6] at hb
  obtain ⟨g1, g2, g3, g4⟩ := h.2 m hm6 hb
  refine ⟨fun s hs => ?_, fun b hb6 => ⟨hd _ _ hm6 hb6 (g2 b hb6).1 (Or.inr (Or.inl hb)), hd _ _ hb6 hm6 (g2 b hb6).2 (Or.inr (Or.inr hb))⟩, ?_, ?_⟩
  · rw [nS_of hS] at hs
    rw [ho s hs]; exact g1 s hs
  · rw [(hm m hm6 hb).1]; exact g3
  · rw [(hm m hm6 hb).2]; exact g4
/-! a turn -/
def t2 (q : QS) (o c k j : Nat) (v w : Int32) : QS := qs (qs q (27 + 6 * o + c) v) (63 + 38 * k + j) w
theorem t2_ow {o c k j a b : Nat} {v w : Int32} (hc : c < 6) (ha : a < 6) (hb : b < 6) : owQ (t2 q o c k j v w) a b = if a = o ∧ b = c then v else owQ q a b := by
  show t2 q o c k j v w (27 + 6 * a + b) = _
  unfold t2
  rw [qs_ne _ _ (by omega)]
  by_cases e : a = o ∧ b = c
  · rw [if_pos e, e.1, e.2, qs_same]
  · rw [if_neg e, qs_ne _ _ (by omega)]
    rfl
theorem t2_m {o c k j m i : Nat} {v w : Int32} (ho : o < 6) (hc : c < 6) (hj : j < 38) (hi : i < 38) : mQ (t2 q o c k j v w) m i = if m = k ∧ i = j then w else mQ q m i := by
  show t2 q o c k j v w (63 + 38 * m + i) = _
  unfold t2
  by_cases e : m = k ∧ i = j
  · rw [if_pos e, e.1, e.2, qs_same]
  · rw [if_neg e, qs_ne _ _ (by omega), qs_ne _ _ (by omega)]
    rfl
theorem t2_lo {o c k j i : Nat} {v w : Int32} (h : i < 27) : t2 q o c k j v w i = q i := by
  unfold t2
  rw [qs_ne _ _ (by omega), qs_ne _ _ (by omega)]
theorem dN_t2 {o c k j d e : Nat} {w : Int32} (ho : o < 6) (hc : c < 6) (hd : owQ q o c = nI d) (hd2 : d < 2 ^ 31) (he : e < 2 ^ 31) : sumN (dN (t2 q o c k j (nI e) w)) 6 + d = sumN (dN q) 6 + e := by
  have h1 : ∀ a, a < 6 → a ≠ o → dN (t2 q o c k j (nI e) w) a = dN q a := fun a ha hne => sumN_eq fun b hb => by
    rw [t2_ow hc ha hb, if_neg (fun z => hne z.1)]
  have h2 := sumN_chg (n := 6) (k := c) (f := fun b => (owQ q o b).toNatClampNeg) (g := fun b => (owQ (t2 q o c k j (nI e) w) o b).toNatClampNeg) hc (fun b hb hne => by
    rw [t2_ow hc ho hb, if_neg (fun z => hne z.2)])
  have h3 := sumN_chg (n := 6) (k := o) (f := dN q) (g := dN (t2 q o c k j (nI e) w)) ho h1
  rw [t2_ow hc ho hc, if_pos ⟨rfl, rfl⟩, hd, clI hd2, clI he] at h2
  have h4 : dN (t2 q o c k j (nI e) w) o = sumN (fun b => (owQ (t2 q o c k j (nI e) w) o b).toNatClampNeg) 6 := rfl
  have h5 : dN q o = sumN (fun b => (owQ q o b).toNatClampNeg) 6 := rfl
  omega
theorem sum_up {f : Nat → Nat} {k : Nat} (hk : k < 6) : sumN (fun m => if m = k then f m + 1 else f m) 6 = sumN f 6 + 1 := by
  have h := sumN_chg (n := 6) (k := k) (f := f) (g := fun m => if m = k then f m + 1 else f m) hk (fun i _ hne => if_neg hne)
  rw [if_pos rfl] at h
  omega
theorem Ac.turn (h : Ac N q) (hw : Wb T T T q) (hT : T < 2 ^ 28) {o : Nat} (ho : o < nM q) (p : Nat → Bool) (hp : p o = false ∨ p o = true) : Ac (N + if (turnQ q o p).1 = none then 0 else 1) (turnQ q o p).2 := by
  obtain ⟨a, b, l, i, g1, g2, g3, g4⟩ := h
  have hM := hw.sz.M
  have ho6 : o < 6 := by omega
  unfold turnQ
  cases hc : crQ q o p with
  | some c =>
    have hcM := bestN_lt hc
    have hc6 : c < 6 := by omega
    have hmay := bestN_may hc
    rw [Bool.and_eq_true] at hmay
    obtain ⟨d, hd1, hd2⟩ := hw.debt o c ho6 hc6
    have hpos := of_decide_eq_true hmay.1
    rw [hd2] at hpos
    have hd0 := pos_nI (by omega) hpos
    have e1 : q (27 + 6 * o + c) - 1 = nI (d - 1) := by
      rw [show q (27 + 6 * o + c) = nI d from hd2]
      show nI d - nI 1 = _
      exact pk_sub (by omega)
    have e2 : q (63 + 38 * c + 4) + 1 = nI (b c + 1) := by
      rw [show q (63 + 38 * c + 4) = nI (b c) from (g1 c hc6).2.1]
      exact nI_add _ 1
    dsimp only
    rw [if_neg (fun z => nomatch z), e1, e2]
    have hd := dN_t2 (k := c) (j := 4) (w := nI (b c + 1)) (e := d - 1) ho6 hc6 hd2 (by omega) (by omega)
    refine ⟨a, fun m => if m = c then b m + 1 else b m, l, i, fun m hm => ?_, (t2_lo (q := q) (by omega)).trans g2, ?_, ?_⟩
    · obtain ⟨x1, x2, x3⟩ := g1 m hm
      refine ⟨(t2_m (q := q) ho6 hc6 (by omega) (by omega)).trans ?_, (t2_m (q := q) ho6 hc6 (by omega) (by omega)).trans ?_, (t2_m (q := q) ho6 hc6 (by omega) (by omega)).trans ?_⟩
      · rw [if_neg (fun z => by omega)]; exact x1
      · show _ = nI (if m = c then b m + 1 else b m)
        by_cases e : m = c
        · rw [if_pos ⟨e, rfl⟩, if_pos e, e]
        · rw [if_neg (fun z => e z.1), if_neg e]; exact x2
      · rw [if_neg (fun z => by omega)]; exact x3
    · dsimp only
      have := sum_up (f := b) hc6
      have s1 := sumN_add (f := fun m => a m + b m) (g := l) 6
      have s2 := sumN_add (f := a) (g := b) 6
      have s3 := sumN_add (f := fun m => a m + if m = c then b m + 1 else b m) (g := l) 6
      have s4 := sumN_add (f := a) (g := fun m => if m = c then b m + 1 else b m) 6
      omega
    · have := sum_up (f := b) hc6
      show sumN (fun m => if m = c then b m + 1 else b m) 6 + sumN (dN (t2 q o c c 4 (nI (d - 1)) (nI (b c + 1)))) 6 ≤ _
      omega
  | none =>
    dsimp only
    by_cases e : p o = true
    · rw [if_pos e]
      dsimp only
      rw [if_neg (fun z => nomatch z)]
      have e2 : q (63 + 38 * o + 3) + 1 = nI (a o + 1) := by
        rw [show q (63 + 38 * o + 3) = nI (a o) from (g1 o ho6).1]
        exact nI_add _ 1
      rw [e2]
      have hmq : ∀ m i, m < 6 → i < 38 → mQ (qs q (63 + 38 * o + 3) (nI (a o + 1))) m i = if m = o ∧ i = 3 then nI (a o + 1) else mQ q m i := fun m i _ hi => by
        show qs q (63 + 38 * o + 3) (nI (a o + 1)) (63 + 38 * m + i) = _
        by_cases e : m = o ∧ i = 3
        · rw [if_pos e, e.1, e.2, qs_same]
        · rw [if_neg e, qs_ne _ _ (by omega)]; rfl
      refine ⟨fun m => if m = o then a m + 1 else a m, b, l, i, fun m hm => ?_, (qs_ne _ _ (by omega)).trans g2, ?_, ?_⟩
      · obtain ⟨x1, x2, x3⟩ := g1 m hm
        rw [hmq m 3 hm (by omega), hmq m 4 hm (by omega), hmq m 5 hm (by omega)]
        refine ⟨?_, ?_, ?_⟩
        · by_cases e : m = o
          · rw [if_pos ⟨e, rfl⟩]; dsimp only; rw [if_pos e, e]
          · rw [if_neg (fun z => e z.1)]; dsimp only; rw [if_neg e]; exact x1
        · rw [if_neg (fun z => by omega)]; exact x2
        · rw [if_neg (fun z => by omega)]; exact x3
      · dsimp only
        have := sum_up (f := a) ho6
        have s1 := sumN_add (f := fun m => a m + b m) (g := l) 6
        have s2 := sumN_add (f := a) (g := b) 6
        have s3 := sumN_add (f := fun m => (if m = o then a m + 1 else a m) + b m) (g := l) 6
        have s4 := sumN_add (f := fun m => if m = o then a m + 1 else a m) (g := b) 6
        omega
      · have hd : sumN (dN (qs q (63 + 38 * o + 3) (nI (a o + 1)))) 6 ≤ sumN (dN q) 6 := dN_le fun x y hx hy => by
          rw [show owQ (qs q (63 + 38 * o + 3) (nI (a o + 1))) x y = owQ q x y from qs_ne _ _ (by omega)]
          exact Nat.le_refl _
        omega
    · rw [if_neg e]
      cases hb : boQ q p with
      | some m =>
        have hmM := bestN_lt hb
        have hm6 : m < 6 := by omega
        dsimp only
        rw [if_neg (fun z => nomatch z)]
        obtain ⟨d, hd1, hd2⟩ := hw.debt m o hm6 ho6
        have e1 : q (27 + 6 * m + o) + 1 = nI (d + 1) := by
          rw [show q (27 + 6 * m + o) = nI d from hd2]
          exact nI_add _ 1
        have e2 : q (63 + 38 * m + 5) + 1 = nI (l m + 1) := by
          rw [show q (63 + 38 * m + 5) = nI (l m) from (g1 m hm6).2.2]
          exact nI_add _ 1
        rw [e1, e2]
        have hd := dN_t2 (k := m) (j := 5) (w := nI (l m + 1)) (e := d + 1) hm6 ho6 hd2 (by omega) (by omega)
        refine ⟨a, b, fun x => if x = m then l x + 1 else l x, i, fun x hx => ?_, (t2_lo (q := q) (by omega)).trans g2, ?_, ?_⟩
        · obtain ⟨x1, x2, x3⟩ := g1 x hx
          refine ⟨(t2_m (q := q) hm6 ho6 (by omega) (by omega)).trans ?_, (t2_m (q := q) hm6 ho6 (by omega) (by omega)).trans ?_, (t2_m (q := q) hm6 ho6 (by omega) (by omega)).trans ?_⟩
          · rw [if_neg (fun z => by omega)]; exact x1
          · rw [if_neg (fun z => by omega)]; exact x2
          · by_cases e : x = m
            · rw [if_pos ⟨e, rfl⟩]; dsimp only; rw [if_pos e, e]
            · rw [if_neg (fun z => e z.1)]; dsimp only; rw [if_neg e]; exact x3
        · dsimp only
          have := sum_up (f := l) hm6
          have s1 := sumN_add (f := fun x => a x + b x) (g := l) 6
          have s3 := sumN_add (f := fun x => a x + b x) (g := fun x => if x = m then l x + 1 else l x) 6
          omega
        · have := sum_up (f := l) hm6
          show sumN b 6 + sumN (dN (t2 q m o m 5 (nI (d + 1)) (nI (l m + 1)))) 6 ≤ sumN (fun x => if x = m then l x + 1 else l x) 6
          omega
      | none =>
        dsimp only
        rw [if_pos rfl]
        exact ⟨a, b, l, i, g1, g2, g3, g4⟩
end IV
