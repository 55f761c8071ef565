/-! A TICK KEEPS WHAT HOLDS -/
section TICKK
theorem ownT_is {Bd Ba Bw T : Nat} {q : QS} (h : Wb Bd Ba Bw q) (hT : q 2 = nI T) (hT2 : T < 2 ^ 30) : ownT q < nM q ∧ q (11 + T % nS q) = nI (ownT q) := by
  have hS := h.sz.S
  have hM := h.sz.M
  obtain ⟨o, h1, h2⟩ := h.own (T % nS q) (Nat.mod_lt _ (by omega))
  have e : ownT q = o := by
    unfold ownT
    rw [hT, clI (by omega), h2, clI (by omega)]
  rw [e]; exact ⟨h1, h2⟩
theorem turn_m {q : QS} {o : Nat} (hz : Sz q) (ho : o < 6) (p : Nat → Bool) {m j : Nat} (hm : m < 6) (hj : j < 3 ∨ 6 ≤ j) (hj2 : j < 38) : mQ (turnQ q o p).2 m j = mQ q m j :=
  turnQ_st hz ho p (63 + 38 * m + j) (Or.inr ⟨by omega, fun ⟨m2, j2, h1, h2, h3, h4⟩ => by omega⟩)
theorem rdQ_of {q r : QS} {m : Nat} (h2 : r 2 = q 2) (ha : mQ r m 7 = mQ q m 7) (h : ∀ k, k < nA q m → mQ r m (26 + k) = mQ q m (26 + k)) : rdQ r m (nA r m) = rdQ q m (nA q m) := by
  rw [nA_of ha]
  unfold rdQ
  exact firstN_congr fun k hk => by rw [h k hk, h2]
theorem busy_nB {q : QS} (hz : Sz q) {m : Nat} (hm : m < 6) (hb : busyQ q m = true) (hr : rdQ q m (nA q m) = none) : 0 < nB q m := by
  obtain ⟨h1, h2⟩ := hz.B hm
  unfold busyQ at hb
  rw [hr, h1] at hb
  rcases Bool.or_eq_true _ _ |>.mp hb with z | z
  · exact pos_nI (by omega) (of_decide_eq_true z)
  · cases z
theorem usQ_out {q : QS} (hz : Sz q) {m i : Nat} (hm : m < 6) (hi : ¬ (63 + 38 * m ≤ i ∧ i < 63 + 38 * m + 38)) : usQ q m i = q i := by
  have hA := (hz.A hm).2
  unfold usQ
  cases hrd : rdQ q m (nA q m) with
  | some a =>
    obtain ⟨ha, -, -⟩ := firstN_some hrd
    dsimp only
    rw [qs_ne _ _ (by omega), qs_ne _ _ (by omega), shQ_out q (by omega)]
  | none =>
    dsimp only
    by_cases e1 : q (63 + 38 * m + 9) - 1 ≤ 0
    · rw [if_pos e1]
      by_cases e2 : q (63 + 38 * m + 10) = 1
      · rw [if_pos e2, qs_ne _ _ (by omega), shQ_out _ (by omega), qs_ne _ _ (by omega), qs_ne _ _ (by omega), qs_ne _ _ (by omega)]
      · rw [if_neg e2, qs_ne _ _ (by omega), shQ_out _ (by omega), qs_ne _ _ (by omega)]
    · rw [if_neg e1, qs_ne _ _ (by omega)]
theorem brQ_out (q : QS) (m : Nat) {i : Nat} (hi : i < 6 ∨ (7 ≤ i ∧ i < 11)) : brQ q m i = q i := by
  unfold brQ
  rw [qs_ne _ _ (by omega), qs_ne _ _ (by omega), qs_ne _ _ (by omega), ow2Q_out _ _ _ _ (by omega), ow1Q_ge _ _ _ _ _ (by omega)]
theorem bkN_out (q : QS) {i : Nat} (hi : i < 6 ∨ (7 ≤ i ∧ i < 11)) : ∀ n, bkN q n i = q i
  | 0 => rfl
  | n + 1 => by
    show (if _ then _ else _ : QS) i = q i
    by_cases z : bkQ (bkN q n) n = false ∧ ¬ dbQ (bkN q n) n ≤ nI 4 * slQ (bkN q n) (nS (bkN q n)) n
    · rw [if_pos z, brQ_out _ _ hi]; exact bkN_out q hi n
    · rw [if_neg z]; exact bkN_out q hi n
theorem tk4_out {Bd Ba Bw T : Nat} {q : QS} (h : Wb Bd Ba Bw q) (hT : q 2 = nI T) (hT2 : T < 2 ^ 30) {i : Nat} (hi : i < 6 ∨ (7 ≤ i ∧ i < 11)) : tk4 q i = q i ∧ tk3 q i = q i ∧ tk2 q i = q i ∧ (tk1 q).2 i = q i := by
  have hM := h.sz.M
  have ho := (ownT_is h hT hT2).1
  have h1 : (tk1 q).2 i = q i := turnQ_st h.sz (by omega) _ i (Or.inl (by omega))
  have hz1 : Sz (tk1 q).2 := h.sz.st ⟨turnQ_st h.sz (by omega) _ 0 (Or.inl (by omega)), turnQ_st h.sz (by omega) _ 1 (Or.inl (by omega)), turnQ_st h.sz (by omega) _ 6 (Or.inl (by omega)), fun i h1 h2 => turnQ_st h.sz (by omega) _ i (Or.inl h2), fun m j hm hj => turn_m h.sz (by omega) _ hm (by omega) (by omega)⟩
  have h2 : tk2 q i = q i := by
    unfold tk2
    cases hq : (tk1 q).1 with
    | none => exact h1
    | some k =>
      have hk : k < nM q := by
        have h9 : (turnQ q (ownT q) (busyQ q)).1 = some k := hq
        unfold turnQ at h9
        cases hcr : crQ q (ownT q) (busyQ q) with
        | some c => rw [hcr] at h9; cases h9; exact bestN_lt hcr
        | none =>
          rw [hcr] at h9
          dsimp only at h9
          by_cases e : busyQ q (ownT q) = true
          · rw [if_pos e] at h9; cases h9; exact ho
          · rw [if_neg e] at h9
            cases hbo : boQ q (busyQ q) with
            | none => rw [hbo] at h9; cases h9
            | some m => rw [hbo] at h9; cases h9; exact bestN_lt hbo
      exact (usQ_out hz1 (by omega) (by omega)).trans h1
  have h3 : tk3 q i = q i := (wtN_at _ _ _ _ fun m hm => by omega).trans h2
  exact ⟨(bkN_out _ hi _).trans h3, h3, h2, h1⟩
def TickOk (T : Nat) (q : QS) : Prop :=
  (Wb (T + 1) T T (tk1 q).2) ∧
  (Wb (T + 1) (T + 1) T (tk2 q)) ∧
  (Wb (T + 1) (T + 1) (T + 1) (tk3 q)) ∧
  (∀ i, i ≤ nM q → Wb (T + 1) (T + 1) (T + 1) (bkN (tk3 q) i) ∧ bkN (tk3 q) i 0 = nI (nM q)) ∧
  (Wb (T + 1) (T + 1) (T + 1) (tkQ q)) ∧
  (tkQ q 2 = nI (T + 1)) ∧
  (∀ i, (i < 2 ∨ i = 4 ∨ (7 ≤ i ∧ i < 11)) → tkQ q i = q i) ∧
  (∀ k, (tk1 q).1 = some k → k < nM q ∧ busyQ q k = true) ∧
  (∀ k, (tk1 q).1 = some k → rdQ (tk1 q).2 k (nA (tk1 q).2 k) = none → 0 < nB (tk1 q).2 k) ∧
  (∀ σ, f7_tick (wq σ q) = some (oI (tk1 q).1, wq σ (tkQ q)))
section
variable {T : Nat} {q : QS}
theorem TickOk.wb1 (h : TickOk T q) : Wb (T + 1) T T (tk1 q).2 := h.1
theorem TickOk.wb2 (h : TickOk T q) : Wb (T + 1) (T + 1) T (tk2 q) := h.2.1
theorem TickOk.wb3 (h : TickOk T q) : Wb (T + 1) (T + 1) (T + 1) (tk3 q) := h.2.2.1
theorem TickOk.wb4 (h : TickOk T q) : ∀ i, i ≤ nM q → Wb (T + 1) (T + 1) (T + 1) (bkN (tk3 q) i) ∧ bkN (tk3 q) i 0 = nI (nM q) := h.2.2.2.1
theorem TickOk.wb (h : TickOk T q) : Wb (T + 1) (T + 1) (T + 1) (tkQ q) := h.2.2.2.2.1
theorem TickOk.tick (h : TickOk T q) : tkQ q 2 = nI (T + 1) := h.2.2.2.2.2.1
theorem TickOk.out (h : TickOk T q) : ∀ i, (i < 2 ∨ i = 4 ∨ (7 ≤ i ∧ i < 11)) → tkQ q i = q i := h.2.2.2.2.2.2.1
theorem TickOk.who (h : TickOk T q) : ∀ k, (tk1 q).1 = some k → k < nM q ∧ busyQ q k = true := h.2.2.2.2.2.2.2.1
theorem TickOk.nb (h : TickOk T q) : ∀ k, (tk1 q).1 = some k → rdQ (tk1 q).2 k (nA (tk1 q).2 k) = none → 0 < nB (tk1 q).2 k := h.2.2.2.2.2.2.2.2.1
theorem TickOk.ref (h : TickOk T q) : ∀ σ, f7_tick (wq σ q) = some (oI (tk1 q).1, wq σ (tkQ q)) := h.2.2.2.2.2.2.2.2.2
end
theorem Wb.tick {T : Nat} {q : QS} (h : Wb T T T q) (hT : q 2 = nI T) (hT2 : T < 2 ^ 29) : TickOk T q := by
  have hM := h.sz.M
  obtain ⟨ho, ho2⟩ := ownT_is h hT (by omega)
  obtain ⟨h1, hwho⟩ := h.turn (by omega) ho (busyQ q)
  have hout := fun i (hi : i < 6 ∨ (7 ≤ i ∧ i < 11)) => tk4_out h hT (by omega) hi
  have hw1 : Wb (T + 1) T T (tk1 q).2 := h1
  have e2 : (tk1 q).2 2 = q 2 := (hout 2 (by omega)).2.2.2
  have e0 : (tk1 q).2 0 = q 0 := (hout 0 (by omega)).2.2.2
  have eM1 : nM (tk1 q).2 = nM q := nM_of e0
  have tm : ∀ m j, m < 6 → (j < 3 ∨ 6 ≤ j) → j < 38 → mQ (tk1 q).2 m j = mQ q m j := fun m j h1 h2 h3 => turn_m h.sz (by omega) _ h1 h2 h3
  have nb : ∀ k, (tk1 q).1 = some k → rdQ (tk1 q).2 k (nA (tk1 q).2 k) = none → 0 < nB (tk1 q).2 k := by
    intro k hk hr
    obtain ⟨h3, h4⟩ := hwho k hk
    have hA := (h.sz.A (m := k) (by omega)).2
    rw [rdQ_of e2 (tm k 7 (by omega) (by omega) (by omega)) (fun j hj => tm k _ (by omega) (by omega) (by omega))] at hr
    rw [nB_of (tm k 0 (by omega) (by omega) (by omega))]
    exact busy_nB h.sz (by omega) h4 hr
  have hw2 : Wb (T + 1) (T + 1) T (tk2 q) := by
    unfold tk2
    cases hq : (tk1 q).1 with
    | none => exact hw1.mono (Nat.le_refl _) (by omega) (Nat.le_refl _)
    | some k => exact hw1.uses (e2.trans hT) (by omega) (by rw [eM1]; exact (hwho k hq).1) (nb k hq)
  have eM2 : nM (tk2 q) = nM q := nM_of (hout 0 (by omega)).2.2.1
  have eM3 : nM (tk3 q) = nM q := nM_of (hout 0 (by omega)).2.1
  have hw3 : Wb (T + 1) (T + 1) (T + 1) (tk3 q) := hw2.waits (by omega) _ _ _ (by omega)
  have hw4 : ∀ i, i ≤ nM q → Wb (T + 1) (T + 1) (T + 1) (bkN (tk3 q) i) ∧ bkN (tk3 q) i 0 = nI (nM q) := fun i hi => by
    have h5 := hw3.bks i (by omega)
    exact ⟨h5.1, h5.2.trans ((hout 0 (by omega)).2.1.trans hM.1)⟩
  have hw : Wb (T + 1) (T + 1) (T + 1) (tkQ q) := by
    have h4 : Wb (T + 1) (T + 1) (T + 1) (tk4 q) := (hw4 (nM q) (Nat.le_refl _)).1
    exact ((h4.free (i := 3) (by omega) (by omega) _).free (i := 5) (by omega) (by omega) _).free (i := 2) (by omega) (by omega) _
  refine ⟨hw1, hw2, hw3, hw4, hw, ?_, ?_, hwho, nb, ?_⟩
  · show qs _ 2 _ 2 = _
    rw [qs_same, (hout 2 (by omega)).1, hT, nI_1]
  · intro i hi
    show qs _ 2 _ i = _
    rw [qs_ne _ _ (by omega), qs_ne _ _ (by omega), qs_ne _ _ (by omega)]
    exact (hout i (by omega)).1
  · intro σ
    refine f7_tick_s σ q h.sz hT (by omega) ⟨_, ho, ho2⟩ ?_ hw1.sz ?_ (fun i hi => ⟨(hw4 i hi).1.sz, (hw4 i hi).2⟩)
    · intro k hk
      refine ⟨by have := (hwho k hk).1; omega, fun hr => ?_⟩
      exact (hw1.burst k 0 (by have := (hwho k hk).1; omega) (nb k hk hr)).1
    · exact (hout 0 (by omega)).2.2.1
end TICKK
