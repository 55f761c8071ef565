/-! WHO OWES MOST -/
section ORDER
variable {S : Nat} {nb na : Nat → Nat} {q : QS} {x y : Int32} {f : Nat → Int32} {c : Mem}
def ahQ (q : QS) (m i : Nat) : Bool := decide (dbQ q m < dbQ q i) || (decide (dbQ q i = dbQ q m) && decide (i < m))
def ahN (q : QS) (m : Nat) : Nat → Nat
  | 0 => 0
  | n + 1 => ahN q m n + if ahQ q m n = true then 1 else 0
theorem c_ahead (σ : Mem) (b : Nat) (h : E S nb na q x y f c) (hz : Sz q) {m : Nat} (hm : m < nM q) : f2_mastersAhead b (nI m) (wc σ b c) = some (nI (ahN q m (nM q)), wc σ b c) := by
  obtain ⟨g1, g2, g3⟩ := hz.M
  have hN : 20 < FU := by decide
  unfold f2_mastersAhead
  generalize FU = N at hN ⊢
  simp (disch := first | omega | decide) only [lit, nmS, c_has_in σ b h hz hm, bdS, gd_ib, clI, c_debts σ b h]
  rw [if_neg (show ¬ nI 1 = nI 0 by decide)]
  refine lup (fun n (z : Int32 × Int32) => f2_mastersAhead_l26 b (nI m) (dbQ q m) _ n z.1 z.2 (wc σ b c)) (fun i => (nI (ahN q m i), nI i)) (nM q) _ ?_ ?_ (nM q) 0 N (by omega) (by omega)
  · intro n i hi
    show f2_mastersAhead_l26 _ _ _ _ (n + 1) (nI (ahN q m i)) (nI i) _ = f2_mastersAhead_l26 _ _ _ _ n (nI (ahN q m i + if ahQ q m i = true then 1 else 0)) (nI (i + 1)) _
    rw [f2_mastersAhead_l26]
    simp (disch := first | omega | decide) only [lit, nmS, clI, nI_add, gd_ib, wc_b, h.t0, g1, c_debts σ b h, bdS]
    rw [if_neg (nI_ge hi (by omega))]
    unfold ahQ
    by_cases e1 : dbQ q m < dbQ q i
    · rw [if_pos e1, decide_eq_true e1, Bool.true_or, if_pos rfl]
    · rw [if_neg e1, decide_eq_false e1, Bool.false_or]
      by_cases e2 : dbQ q i = dbQ q m
      · rw [if_pos e2, decide_eq_true e2, Bool.true_and]
        by_cases e3 : i < m
        · rw [if_neg (nI_ge e3 (by omega)), decide_eq_true e3, if_pos rfl]
        · rw [if_pos (nI_le (by omega) (by omega)), decide_eq_false e3, if_neg (fun z => by cases z)]
          rfl
      · rw [if_neg e2, decide_eq_false e2, Bool.false_and, if_neg (fun z => by cases z)]
        rfl
  · intro n
    show f2_mastersAhead_l26 _ _ _ _ (n + 1) _ (nI (nM q)) _ = _
    rw [f2_mastersAhead_l26]
    simp (disch := first | omega | decide) only [wc_b, h.t0, g1]
    rw [if_pos (nI_le (Nat.le_refl _) (by omega))]
end ORDER
