/-! THE REFERENCE's TICK, as a function of its row -/
section MODEL2
theorem gd_ib {α : Type} {i N : Nat} (h : i < N) (hN : N < 2 ^ 31) (x : Option α) : gd (ib (nI i) N) x = x := gdI (ib_nI h hN) x
theorem gd_nz {α : Type} {n : Nat} (h : 0 < n) (h2 : n < 2 ^ 31) (x : Option α) : gd (nz (nI n)) x = x := gdI (decide_eq_true (nI_ne0 h h2)) x
theorem clI {n : Nat} (h : n < 2 ^ 31) : (nI n).toNatClampNeg = n := nI_clamp h
theorem i_le {a b : Nat} (ha : a < 2 ^ 31) (hb : b < 2 ^ 31) : (nI a ≤ nI b) = (a ≤ b) := propext (nI_leI ha hb)
theorem i_lt {a b : Nat} (ha : a < 2 ^ 31) (hb : b < 2 ^ 31) : (nI a < nI b) = (a < b) := propext (nI_ltI ha hb)
theorem i_eq {a b : Nat} (ha : a < 2 ^ 31) (hb : b < 2 ^ 31) : (nI a = nI b) = (a = b) := propext (nI_eq ha hb)
def turnQ (q : QS) (o : Nat) (p : Nat → Bool) : Option Nat × QS := match crQ q o p with
  | some c => (some c, qs (qs q (27 + 6 * o + c) (q (27 + 6 * o + c) - 1)) (63 + 38 * c + 4) (q (63 + 38 * c + 4) + 1))
  | none => if p o = true then (some o, qs q (63 + 38 * o + 3) (q (63 + 38 * o + 3) + 1)) else match boQ q p with
    | some m => (some m, qs (qs q (27 + 6 * m + o) (q (27 + 6 * m + o) + 1)) (63 + 38 * m + 5) (q (63 + 38 * m + 5) + 1))
    | none => (none, q)
theorem f7_turn_s (σ : Mem) (q : QS) (hz : Sz q) {T o : Nat} (hT : q 2 = nI T) (hT2 : T < 2 ^ 30) (ho : q (11 + T % nS q) = nI o) (hoM : o < nM q) (p : Nat → Bool) :
    f7_turn (mk p (nM q)) (wq σ q) = some (oI (turnQ q o p).1, wq σ (turnQ q o p).2) := by
  obtain ⟨h1, h2, h3⟩ := hz.S
  obtain ⟨g1, g2, g3⟩ := hz.M
  have hr : T % nS q < nS q := Nat.mod_lt _ (by omega)
  unfold f7_turn
  simp (disch := omega) only [lit, nmS, wq_get, clI, h1, hT, pk_rem, nI_add, gd_nz, gd_ib, ho, f7_creditorOf_s, bdS]
  unfold turnQ
  cases hcr : crQ q o p with
  | some c =>
    have hc : c < nM q := bestN_lt hcr
    simp (disch := omega) only [oI, i_lt, Nat.not_lt_zero, if_false, pk_mul, nI_add, gd_ib, clI, wq_get, wq_set, f7_at_s, bdS, lit]
    rw [qs_ne q _ (by omega : 63 + 38 * c + 4 ≠ 27 + 6 * o + c)]
  | none =>
    rw [if_pos (show oI none < nI 0 by decide)]
    by_cases e : p o = true
    · have hb := (mk_bit (p := p) g2 (show o < 6 by omega)).mpr ⟨hoM, e⟩
      simp only [lit] at hb
      rw [if_pos hb, if_pos e]
      simp (disch := omega) only [nI_add, gd_ib, clI, wq_get, wq_set, f7_at_s, bdS, oI]
      rfl
    · have hb : ¬ ((mk p (nM q) >>> (nI o &&& 31)) &&& 1 = 1) := fun z => e ((mk_bit g2 (by omega)).mp z).2
      simp only [lit] at hb
      rw [if_neg hb, if_neg e, f7_longestWaiting_s σ q hz, bdS]
      cases hbo : boQ q p with
      | none => rw [if_pos (show oI none < nI 0 by decide)]
      | some m =>
        have hm : m < nM q := bestN_lt hbo
        simp (disch := omega) only [oI, i_lt, Nat.not_lt_zero, if_false, pk_mul, nI_add, gd_ib, clI, wq_get, wq_set, f7_at_s, bdS, lit]
        rw [qs_ne q _ (by omega : 63 + 38 * m + 5 ≠ 27 + 6 * m + o)]
/-- a stretch that moves down by d -/
def shQ (q : QS) (a n d : Nat) : QS := fun j => if a ≤ j ∧ j < a + n then q (j + d) else q j
theorem shQ_0 (q : QS) (a d : Nat) : shQ q a 0 d = q := by
  funext j
  exact if_neg (by omega)
theorem shQ_s (q : QS) (a n d : Nat) : qs (shQ q a n d) (a + n) (q (a + n + d)) = shQ q a (n + 1) d := by
  funext j
  unfold qs shQ
  by_cases e : j = a + n
  · subst e; rw [if_pos rfl, if_pos (by omega)]
  · rw [if_neg e]
    by_cases e2 : a ≤ j ∧ j < a + n
    · rw [if_pos e2, if_pos (by omega)]
    · rw [if_neg e2, if_neg (by omega)]
theorem shQ_out (q : QS) {a n d j : Nat} (h : ¬ (a ≤ j ∧ j < a + n)) : shQ q a n d j = q j := if_neg h
def usQ (q : QS) (m : Nat) : QS := match rdQ q m (nA q m) with
  | some a =>
    let q1 := shQ q (63 + 38 * m + (26 + a)) (nA q m - 1 - a) 1
    qs (qs q1 (63 + 38 * m + 7) (q (63 + 38 * m + 7) - 1)) (63 + 38 * m + 6) (q (63 + 38 * m + 6) + 1)
  | none =>
    let q1 := qs q (63 + 38 * m + 9) (q (63 + 38 * m + 9) - 1)
    if q (63 + 38 * m + 9) - 1 ≤ 0 then
      let q2 := if q (63 + 38 * m + 10) = 1 then qs (qs q1 (63 + 38 * m + (26 + nA q m)) (q 2 + 1 + q (7 + (q (63 + 38 * m + 8)).toNatClampNeg))) (63 + 38 * m + 7) (q (63 + 38 * m + 7) + 1) else q1
      qs (shQ q2 (63 + 38 * m + 8) 15 3) (63 + 38 * m + 0) (q (63 + 38 * m + 0) - 1)
    else q1
theorem us_l12 (σ : Mem) (q : QS) {m a A N : Nat} (hm : m < 6) (hA : A ≤ 10) (ha : a < A) (hA3 : q (63 + 38 * m + 7) = nI A) (hN : 20 < N) (k : Mem → Option Mem) :
    f7_uses_l12 (nI m) k N (nI a) (wq σ q) = k (wq σ (shQ q (63 + 38 * m + (26 + a)) (A - 1 - a) 1)) := by
  have h9 := lup (fun n (z : Int32 × QS) => f7_uses_l12 (nI m) k n z.1 (wq σ z.2)) (fun i => (nI (a + i), shQ q (63 + 38 * m + (26 + a)) i 1)) (A - 1 - a) (k (wq σ (shQ q (63 + 38 * m + (26 + a)) (A - 1 - a) 1))) ?_ ?_ (A - 1 - a) 0 N (by omega) (by omega)
  · rw [shQ_0] at h9
    exact h9
  · intro n i hi
    show f7_uses_l12 _ _ (n + 1) (nI (a + i)) (wq σ (shQ q _ i 1)) = f7_uses_l12 _ _ n (nI (a + (i + 1))) (wq σ (shQ q _ (i + 1) 1))
    rw [f7_uses_l12]
    have hc : mQ (shQ q (63 + 38 * m + (26 + a)) i 1) m 7 = nI A := by
      show shQ q _ i 1 (63 + 38 * m + 7) = _
      rw [shQ_out q (by omega)]; exact hA3
    obtain ⟨z, hz2⟩ : ∃ z, A = z + 1 := ⟨A - 1, by omega⟩
    simp (disch := omega) only [lit, f7_of_s, hc, bdS, nmS]
    rw [hz2, nI_s1, if_neg (nI_ge (by omega) (by omega))]
    simp (disch := omega) only [nI_add, f7_at_s, f7_of_s, bdS, gd_ib, clI, wq_set]
    have hv : mQ (shQ q (63 + 38 * m + (26 + a)) i 1) m (26 + (a + i) + 1) = q (63 + 38 * m + (26 + a) + i + 1) := by
      show shQ q _ i 1 (63 + 38 * m + (26 + (a + i) + 1)) = _
      rw [shQ_out q (by omega)]
      exact congrArg q (by omega)
    rw [hv, show 63 + 38 * m + (26 + (a + i)) = 63 + 38 * m + (26 + a) + i by omega, shQ_s, show a + i + 1 = a + (i + 1) by omega]
  · intro n
    show f7_uses_l12 _ _ (n + 1) (nI (a + (A - 1 - a))) (wq σ (shQ q _ (A - 1 - a) 1)) = _
    rw [f7_uses_l12]
    have hc : mQ (shQ q (63 + 38 * m + (26 + a)) (A - 1 - a) 1) m 7 = nI A := by
      show shQ q _ _ 1 (63 + 38 * m + 7) = _
      rw [shQ_out q (by omega)]; exact hA3
    obtain ⟨z, hz2⟩ : ∃ z, A = z + 1 := ⟨A - 1, by omega⟩
    simp (disch := omega) only [lit, f7_of_s, hc, bdS, nmS]
    rw [hz2, nI_s1, if_pos (nI_le (by omega) (by omega))]
theorem us_l183 (σ : Mem) (q2 : QS) {m N : Nat} (hm : m < 6) (hN : 20 < N) (k : Mem → Option Mem) : f7_uses_l183 (nI m) k N (nI 0) (wq σ q2) = k (wq σ (shQ q2 (63 + 38 * m + 8) 15 3)) := by
  have h8 := lup (fun n (z : Int32 × QS) => f7_uses_l183 (nI m) k n z.1 (wq σ z.2)) (fun i => (nI i, shQ q2 (63 + 38 * m + 8) i 3)) 15 (k (wq σ (shQ q2 (63 + 38 * m + 8) 15 3))) ?_ ?_ 15 0 N (by omega) (by omega)
  · rw [shQ_0] at h8; exact h8
  · intro n i hi
    show f7_uses_l183 _ _ (n + 1) (nI i) (wq σ (shQ q2 _ i 3)) = f7_uses_l183 _ _ n (nI (i + 1)) (wq σ (shQ q2 _ (i + 1) 3))
    rw [f7_uses_l183]
    simp only [lit, nmS]
    rw [if_neg (nI_ge hi (by decide))]
    simp (disch := omega) only [nI_add, f7_at_s, f7_of_s, bdS, gd_ib, clI, wq_set]
    have hv : mQ (shQ q2 (63 + 38 * m + 8) i 3) m (8 + i + 3) = q2 (63 + 38 * m + 8 + i + 3) := by
      show shQ q2 _ i 3 (63 + 38 * m + (8 + i + 3)) = _
      rw [shQ_out q2 (by omega)]
      exact congrArg q2 (by omega)
    rw [hv, show 63 + 38 * m + (8 + i) = 63 + 38 * m + 8 + i by omega, shQ_s]
  · intro n
    show f7_uses_l183 _ _ (n + 1) (nI 15) _ = _
    rw [f7_uses_l183]
    simp only [lit]
    rw [if_pos (nI_le (Nat.le_refl _) (by decide))]
theorem us_some (σ : Mem) (q : QS) (hz : Sz q) {m a : Nat} (hm : m < 6) (hrd : rdQ q m (nA q m) = some a) : f7_uses (nI m) (wq σ q) = some (wq σ (qs (qs (shQ q (63 + 38 * m + (26 + a)) (nA q m - 1 - a) 1) (63 + 38 * m + 7) (q (63 + 38 * m + 7) - 1)) (63 + 38 * m + 6) (q (63 + 38 * m + 6) + 1))) := by
  obtain ⟨hA1, hA2⟩ := hz.A hm
  obtain ⟨ha, -, -⟩ := firstN_some hrd
  unfold f7_uses
  rw [f7_ready_s σ q hz hm, bdS, hrd, if_neg (show ¬ oI (some a) < 0 from nI_pos (by omega))]
  simp only [nmS]
  rw [show oI (some a) = nI a from rfl, us_l12 σ q hm hA2 ha hA1 (by decide)]
  simp (disch := omega) only [lit, nI_add, f7_at_s, bdS, gd_ib, clI, wq_get, wq_set]
  rw [qs_ne _ _ (show 63 + 38 * m + 6 ≠ 63 + 38 * m + 7 by omega), shQ_out q (by omega), shQ_out q (by omega)]
theorem us_none (σ : Mem) (q : QS) (hz : Sz q) {m : Nat} (hm : m < 6) (hs : ∃ s, s < 4 ∧ q (63 + 38 * m + 8) = nI s) (hrd : rdQ q m (nA q m) = none) : f7_uses (nI m) (wq σ q) = some (wq σ (
    let q1 := qs q (63 + 38 * m + 9) (q (63 + 38 * m + 9) - 1)
    if q (63 + 38 * m + 9) - 1 ≤ 0 then
      let q2 := if q (63 + 38 * m + 10) = 1 then qs (qs q1 (63 + 38 * m + (26 + nA q m)) (q 2 + 1 + q (7 + (q (63 + 38 * m + 8)).toNatClampNeg))) (63 + 38 * m + 7) (q (63 + 38 * m + 7) + 1) else q1
      qs (shQ q2 (63 + 38 * m + 8) 15 3) (63 + 38 * m + 0) (q (63 + 38 * m + 0) - 1)
    else q1)) := by
  obtain ⟨hA1, hA2⟩ := hz.A hm
  obtain ⟨s, hs4, hs⟩ := hs
  have hA3 : q (63 + 38 * m + 7) = nI (nA q m) := hA1
  have hN : 20 < FU := by decide
  unfold f7_uses
  generalize FU = N at hN ⊢
  rw [f7_ready_s σ q hz hm, bdS, hrd, if_pos (show oI none < 0 by decide)]
  simp (disch := omega) only [lit, f7_at_s, f7_of_s, bdS, nmS, gd_ib, clI, wq_get, wq_set, us_l183]
  have hv9 : mQ (qs q (63 + 38 * m + 9) (q (63 + 38 * m + 9) - nI 1)) m 9 = q (63 + 38 * m + 9) - nI 1 := qs_same q _ _
  have hv10 : mQ (qs q (63 + 38 * m + 9) (q (63 + 38 * m + 9) - nI 1)) m 10 = q (63 + 38 * m + 10) := qs_ne q _ (by omega)
  rw [hv9, hv10]
  by_cases e1 : q (63 + 38 * m + 9) - nI 1 ≤ nI 0
  · rw [if_pos e1, if_pos e1]
    by_cases e2 : q (63 + 38 * m + 10) = nI 1
    · have hv7 : mQ (qs q (63 + 38 * m + 9) (q (63 + 38 * m + 9) - nI 1)) m 7 = nI (nA q m) := (qs_ne q _ (by omega)).trans hA3
      have hv8 : mQ (qs q (63 + 38 * m + 9) (q (63 + 38 * m + 9) - nI 1)) m 8 = nI s := (qs_ne q _ (by omega)).trans hs
      rw [if_pos e2, if_pos e2, hv7]
      simp (disch := omega) only [nI_add, f7_at_s, f7_of_s, hv8, bdS, gd_ib, clI, wq_get, wq_set, hs, us_l183]
      have z1 : shQ (qs (qs (qs q (63 + 38 * m + 9) (q (63 + 38 * m + 9) - nI 1)) (63 + 38 * m + (26 + nA q m)) (q 2 + nI 1 + q (7 + s))) (63 + 38 * m + 7) (q (63 + 38 * m + 7) + nI 1)) (63 + 38 * m + 8) 15 3 (63 + 38 * m + 0) = q (63 + 38 * m + 0) := by
        rw [shQ_out _ (by omega), qs_ne _ _ (by omega), qs_ne _ _ (by omega), qs_ne _ _ (by omega)]
      rw [qs_ne q _ (show 2 ≠ 63 + 38 * m + 9 by omega), qs_ne q _ (show 7 + s ≠ 63 + 38 * m + 9 by omega), qs_ne _ _ (show 63 + 38 * m + 7 ≠ 63 + 38 * m + (26 + nA q m) by omega), qs_ne _ _ (show 63 + 38 * m + 7 ≠ 63 + 38 * m + 9 by omega), z1]
    · have z2 : shQ (qs q (63 + 38 * m + 9) (q (63 + 38 * m + 9) - nI 1)) (63 + 38 * m + 8) 15 3 (63 + 38 * m + 0) = q (63 + 38 * m + 0) := by
        rw [shQ_out _ (by omega), qs_ne _ _ (by omega)]
      rw [if_neg e2, if_neg e2, z2]
  · rw [if_neg e1, if_neg e1]
theorem f7_uses_s (σ : Mem) (q : QS) (hz : Sz q) {m : Nat} (hm : m < 6) (hs : rdQ q m (nA q m) = none → ∃ s, s < 4 ∧ q (63 + 38 * m + 8) = nI s) : f7_uses (nI m) (wq σ q) = some (wq σ (usQ q m)) := by
  unfold usQ
  cases hrd : rdQ q m (nA q m) with
  | some a => exact us_some σ q hz hm hrd
  | none => exact us_none σ q hz hm (hs hrd) hrd
end MODEL2
