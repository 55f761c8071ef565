section INV2
variable {Bd Ba Bw T : Nat} {q : QS}
/-- a change within one master's own numbers -/
theorem Wb.within {Ba2 : Nat} (h : Wb Bd Ba Bw q) (hB : Ba ≤ Ba2) {r : QS} {m : Nat} (hm : m < nM q) (e : ∀ i, ¬ (63 + 38 * m ≤ i ∧ i < 63 + 38 * m + 38) → r i = q i) (e6 : mQ r m 1 = mQ q m 1) {a b : Nat} (ha : mQ r m 7 = nI a) (ha2 : a ≤ 10) (hb : mQ r m 0 = nI b) (hb2 : b ≤ 6)
    (hbu : ∀ k, k < b → (∃ s, s < 4 ∧ mQ r m (8 + 3 * k) = nI s) ∧ (∃ w, 1 ≤ w ∧ w ≤ 8 ∧ mQ r m (9 + 3 * k) = nI w) ∧ (mQ r m (10 + 3 * k) = 0 ∨ mQ r m (10 + 3 * k) = 1))
    (han : ∀ k, k < a → ∃ x, x + a ≤ Ba2 + 10 + k ∧ mQ r m (26 + k) = nI x) : Wb Bd Ba2 Bw r := by
  have hM := h.sz.M
  have eM : nM r = nM q := nM_of (e 0 (by omega))
  have eS : nS r = nS q := nS_of (e 1 (by omega))
  have eo : ∀ m2 j, m2 < 6 → m2 ≠ m → j < 38 → mQ r m2 j = mQ q m2 j := fun m2 j h1 h2 h3 => e _ (by omega)
  have na : nA r m = a := by unfold nA; rw [ha, clI (by omega)]
  have nb : nB r m = b := by unfold nB; rw [hb, clI (by omega)]
  have eow : ∀ x y, x < 6 → y < 6 → owQ r x y = owQ q x y := fun x y h1 h2 => e _ (by omega)
  refine ⟨⟨?_, ?_, fun m2 hm2 => ?_⟩, ?_, ?_, ?_, ?_, ?_, ?_, ?_, ?_, ?_⟩
  · rw [e 0 (by omega)]; exact h.sz.1
  · rw [e 1 (by omega)]; exact h.sz.2.1
  · by_cases z : m2 = m
    · subst z; exact ⟨⟨a, ha2, ha⟩, b, hb2, hb⟩
    · rw [eo m2 7 hm2 z (by omega), eo m2 0 hm2 z (by omega)]; exact h.sz.2.2 m2 hm2
  · intro s hs
    rw [eS] at hs
    have := h.sz.S
    rw [eM, e (11 + s) (by omega)]
    exact h.own s hs
  · intro s hs; rw [e (7 + s) (by omega)]; exact h.lat s hs
  · intro x y h1 h2; rw [eow x y h1 h2]; exact h.debt x y h1 h2
  · intro x y h1 h2 z; rw [eM] at z; rw [eow x y h1 h2]; exact h.debt0 x y h1 h2 z
  · intro m2 hm2
    by_cases z : m2 = m
    · subst z; rw [e6]; exact h.wait m2 hm2
    · rw [eo m2 1 hm2 z (by omega)]; exact h.wait m2 hm2
  · intro m2 k hm2 hk
    by_cases z : m2 = m
    · subst z; rw [nb] at hk; exact hbu k hk
    · have e0 : nB r m2 = nB q m2 := nB_of (eo m2 0 hm2 z (by omega))
      have := (h.sz.B hm2).2
      rw [e0] at hk
      rw [eo m2 _ hm2 z (by omega), eo m2 _ hm2 z (by omega), eo m2 _ hm2 z (by omega)]
      exact h.burst m2 k hm2 hk
  · intro m2 k hm2 hk
    by_cases z : m2 = m
    · subst z; rw [na] at hk ⊢; exact han k hk
    · have e0 : nA r m2 = nA q m2 := nA_of (eo m2 7 hm2 z (by omega))
      have := (h.sz.A hm2).2
      rw [e0] at hk ⊢
      rw [eo m2 _ hm2 z (by omega)]
      obtain ⟨x, h1, h2⟩ := h.answer m2 k hm2 hk
      exact ⟨x, by omega, h2⟩
  · intro m2 j h1 h2 h3
    rw [eM] at h1
    rw [eo m2 j h2 (by omega) (by omega)]
    exact h.rest m2 j h1 h2 h3
  · rw [e 6 (by omega), eM]; exact h.bank
theorem Wb.uses (h : Wb Bd T Bw q) (hT : q 2 = nI T) (hT2 : T < 2 ^ 30) {m : Nat} (hm : m < nM q) (hb : rdQ q m (nA q m) = none → 0 < nB q m) : Wb Bd (T + 1) Bw (usQ q m) := by
  have hM := h.sz.M
  have hm6 : m < 6 := by omega
  obtain ⟨hA1, hA2⟩ := h.sz.A hm6
  obtain ⟨hB1, hB2⟩ := h.sz.B hm6
  have hA3 : q (63 + 38 * m + 7) = nI (nA q m) := hA1
  have hB3 : q (63 + 38 * m + 0) = nI (nB q m) := hB1
  unfold usQ
  cases hrd : rdQ q m (nA q m) with
  | some a =>
    obtain ⟨ha, -, -⟩ := firstN_some hrd
    dsimp only
    obtain ⟨A, hAe⟩ : ∃ A, nA q m = A + 1 := ⟨nA q m - 1, by omega⟩
    rw [hA3, hAe, nI_s1']
    have e : ∀ i, ¬ (63 + 38 * m ≤ i ∧ i < 63 + 38 * m + 38) → qs (qs (shQ q (63 + 38 * m + (26 + a)) (A + 1 - 1 - a) 1) (63 + 38 * m + 7) (nI A)) (63 + 38 * m + 6) (q (63 + 38 * m + 6) + 1) i = q i := by
      intro i hi
      rw [qs_ne _ _ (by omega), qs_ne _ _ (by omega), shQ_out q (by omega)]
    have ej : ∀ j, j < 26 + a → j ≠ 6 → j ≠ 7 → mQ (qs (qs (shQ q (63 + 38 * m + (26 + a)) (A + 1 - 1 - a) 1) (63 + 38 * m + 7) (nI A)) (63 + 38 * m + 6) (q (63 + 38 * m + 6) + 1)) m j = mQ q m j := by
      intro j h1 h2 h3
      show qs _ _ _ (63 + 38 * m + j) = _
      rw [qs_ne _ _ (by omega), qs_ne _ _ (by omega), shQ_out q (by omega)]
      rfl
    refine h.within (a := A) (b := nB q m) (by omega) hm e (ej 1 (by omega) (by omega) (by omega)) ?_ (by omega) ((ej 0 (by omega) (by omega) (by omega)).trans hB1) hB2 ?_ ?_
    · show qs _ _ _ (63 + 38 * m + 7) = _
      rw [qs_ne _ _ (by omega), qs_same]
    · intro k hk
      rw [ej _ (by omega) (by omega) (by omega), ej _ (by omega) (by omega) (by omega), ej _ (by omega) (by omega) (by omega)]
      exact h.burst m k hm6 hk
    · intro k hk
      by_cases z : k < a
      · obtain ⟨x, h1, h2⟩ := h.answer m k hm6 (by omega)
        rw [ej _ (by omega) (by omega) (by omega)]
        exact ⟨x, by omega, h2⟩
      · obtain ⟨x, h1, h2⟩ := h.answer m (k + 1) hm6 (by omega)
        refine ⟨x, by omega, ?_⟩
        show qs _ _ _ (63 + 38 * m + (26 + k)) = _
        rw [qs_ne _ _ (by omega), qs_ne _ _ (by omega)]
        unfold shQ
        rw [if_pos (by omega), ← h2]
        exact congrArg q (by omega)
  | none =>
    have hb := hb hrd
    dsimp only
    obtain ⟨⟨s, hs1, hs2⟩, ⟨w, hw1, hw2, hw3⟩, hasks⟩ := h.burst m 0 hm6 hb
    have hw4 : q (63 + 38 * m + 9) = nI w := hw3
    have hs3 : q (63 + 38 * m + 8) = nI s := hs2
    obtain ⟨v, rfl⟩ : ∃ v, w = v + 1 := ⟨w - 1, by omega⟩
    obtain ⟨b, hbe⟩ : ∃ b, nB q m = b + 1 := ⟨nB q m - 1, by omega⟩
    rw [hw4, nI_s1', hB3, hbe, nI_s1']
    by_cases e1 : nI v ≤ 0
    · rw [if_pos e1]
      have hbu : ∀ q2 : QS, (∀ i, 63 + 38 * m + 10 < i → i < 63 + 38 * m + 26 → q2 i = q i) → ∀ k, k < b → (∃ s, s < 4 ∧ mQ (qs (shQ q2 (63 + 38 * m + 8) 15 3) (63 + 38 * m + 0) (nI b)) m (8 + 3 * k) = nI s) ∧ (∃ w, 1 ≤ w ∧ w ≤ 8 ∧ mQ (qs (shQ q2 (63 + 38 * m + 8) 15 3) (63 + 38 * m + 0) (nI b)) m (9 + 3 * k) = nI w) ∧
          (mQ (qs (shQ q2 (63 + 38 * m + 8) 15 3) (63 + 38 * m + 0) (nI b)) m (10 + 3 * k) = 0 ∨ mQ (qs (shQ q2 (63 + 38 * m + 8) 15 3) (63 + 38 * m + 0) (nI b)) m (10 + 3 * k) = 1) := by
        intro q2 h2 k hk
        have ez : ∀ j, 8 ≤ j → j < 23 → mQ (qs (shQ q2 (63 + 38 * m + 8) 15 3) (63 + 38 * m + 0) (nI b)) m j = mQ q m (j + 3) := by
          intro j hj1 hj2
          show qs _ _ _ (63 + 38 * m + j) = q (63 + 38 * m + (j + 3))
          rw [qs_ne _ _ (by omega)]
          unfold shQ
          rw [if_pos (by omega), h2 _ (by omega) (by omega)]
          exact congrArg q (by omega)
        rw [ez _ (by omega) (by omega), ez _ (by omega) (by omega), ez _ (by omega) (by omega)]
        have h5 := h.burst m (k + 1) hm6 (by omega)
        rw [show 8 + 3 * (k + 1) = 8 + 3 * k + 3 by omega, show 9 + 3 * (k + 1) = 9 + 3 * k + 3 by omega, show 10 + 3 * (k + 1) = 10 + 3 * k + 3 by omega] at h5
        exact h5
      by_cases e2 : q (63 + 38 * m + 10) = 1
      · rw [if_pos e2, hs3, clI (by omega), hT]
        obtain ⟨l, hl1, hl2⟩ := h.lat s hs1
        have hA9 : nA q m < 10 := by
          rcases Nat.eq_zero_or_pos (nA q m) with z | z
          · omega
          · obtain ⟨x, h1, h2⟩ := h.answer m 0 hm6 z
            have h3 := firstN_none hrd 0 z
            have h4 : ¬ mQ q m (26 + 0) ≤ q 2 := of_decide_eq_false h3
            rw [h2, hT, nI_leI (by omega) (by omega)] at h4
            omega
        rw [hl2, show (1 : Int32) = nI 1 from rfl, nI_add, nI_add, hA3, nI_add]
        have ey : ∀ j, j ≠ 0 → j ≠ 7 → ¬ (8 ≤ j ∧ j < 23) → j ≠ 26 + nA q m → mQ (qs (shQ (qs (qs (qs q (63 + 38 * m + 9) (nI v)) (63 + 38 * m + (26 + nA q m)) (nI (T + 1 + l))) (63 + 38 * m + 7) (nI (nA q m + 1))) (63 + 38 * m + 8) 15 3) (63 + 38 * m + 0) (nI b)) m j = mQ q m j := by
          intro j h1 h2 h3 h4
          show qs _ _ _ (63 + 38 * m + j) = _
          rw [qs_ne _ _ (by omega), shQ_out _ (by omega), qs_ne _ _ (by omega), qs_ne _ _ (by omega), qs_ne _ _ (by omega)]
          rfl
        refine h.within (a := nA q m + 1) (b := b) (by omega) hm ?_ (ey 1 (by omega) (by omega) (by omega) (by omega)) ?_ (by omega) (qs_same _ _ _) (by omega) (hbu _ ?_) ?_
        · intro i hi
          rw [qs_ne _ _ (by omega), shQ_out _ (by omega), qs_ne _ _ (by omega), qs_ne _ _ (by omega), qs_ne _ _ (by omega)]
        · show qs _ _ _ (63 + 38 * m + 7) = _
          rw [qs_ne _ _ (by omega), shQ_out _ (by omega), qs_same]
        · intro i h1 h2
          rw [qs_ne _ _ (by omega), qs_ne _ _ (by omega), qs_ne _ _ (by omega)]
        · intro k hk
          by_cases z : k = nA q m
          · subst z
            refine ⟨T + 1 + l, by omega, ?_⟩
            show qs _ _ _ (63 + 38 * m + (26 + nA q m)) = _
            rw [qs_ne _ _ (by omega), shQ_out _ (by omega), qs_ne _ _ (by omega), qs_same]
          · obtain ⟨x, h1, h2⟩ := h.answer m k hm6 (by omega)
            rw [ey _ (by omega) (by omega) (by omega) (by omega)]
            exact ⟨x, by omega, h2⟩
      · rw [if_neg e2]
        have ey : ∀ j, j ≠ 0 → ¬ (8 ≤ j ∧ j < 23) → mQ (qs (shQ (qs q (63 + 38 * m + 9) (nI v)) (63 + 38 * m + 8) 15 3) (63 + 38 * m + 0) (nI b)) m j = mQ q m j := by
          intro j h1 h2
          show qs _ _ _ (63 + 38 * m + j) = _
          rw [qs_ne _ _ (by omega), shQ_out _ (by omega), qs_ne _ _ (by omega)]
          rfl
        refine h.within (a := nA q m) (b := b) (by omega) hm ?_ (ey 1 (by omega) (by omega)) ((ey 7 (by omega) (by omega)).trans hA1) hA2 (qs_same _ _ _) (by omega) (hbu _ ?_) ?_
        · intro i hi
          rw [qs_ne _ _ (by omega), shQ_out _ (by omega), qs_ne _ _ (by omega)]
        · intro i h1 h2
          rw [qs_ne _ _ (by omega)]
        · intro k hk
          obtain ⟨x, h1, h2⟩ := h.answer m k hm6 hk
          rw [ey _ (by omega) (by omega)]
          exact ⟨x, by omega, h2⟩
    · rw [if_neg e1]
      have hv : 0 < v := by
        rcases Nat.eq_zero_or_pos v with z | z
        · subst z; exact absurd (by decide) e1
        · exact z
      have ey : ∀ j, j ≠ 9 → mQ (qs q (63 + 38 * m + 9) (nI v)) m j = mQ q m j := fun j hj => qs_ne q _ (by omega)
      refine h.within (a := nA q m) (b := nB q m) (by omega) hm (fun i hi => qs_ne q _ (by omega)) (ey 1 (by omega)) ((ey 7 (by omega)).trans hA1) hA2 ((ey 0 (by omega)).trans hB1) hB2 ?_ ?_
      · intro k hk
        rw [ey _ (by omega), ey (10 + 3 * k) (by omega)]
        by_cases z : k = 0
        · subst z
          exact ⟨(h.burst m 0 hm6 hk).1, ⟨v, hv, by omega, qs_same q _ _⟩, (h.burst m 0 hm6 hk).2.2⟩
        · rw [ey _ (by omega)]
          exact h.burst m k hm6 hk
      · intro k hk
        obtain ⟨x, h1, h2⟩ := h.answer m k hm6 hk
        rw [ey _ (by omega)]
        exact ⟨x, by omega, h2⟩
where nI_s1' (n : Nat) : nI (n + 1) - 1 = nI n := nI_pred n
theorem Wb.waits (h : Wb Bd Ba Bw q) (hB : Bw < 2 ^ 30) (p : Nat → Bool) (w : Option Nat) : ∀ n, n ≤ nM q → Wb Bd Ba (Bw + 1) (wtN q p w n)
  | 0, _ => h.mono (Nat.le_refl _) (Nat.le_refl _) (Nat.le_succ _)
  | n + 1, hn => by
    have hM := h.sz.M
    have ih := Wb.waits h hB p w n (by omega)
    have e0 : nM (wtN q p w n) = nM q := nM_of (wtN_at q p w n fun m hm => by omega)
    obtain ⟨x, hx1, hx2⟩ := h.wait n (by omega)
    have e1 : wtN q p w n (63 + 38 * n + 1) = nI x := (wtN_at q p w n fun m hm => by omega).trans hx2
    obtain ⟨v, hv1, hv2⟩ : ∃ v, v ≤ Bw + 1 ∧ wtV (wtN q p w n) p w n = nI v := by
      unfold wtV
      by_cases z : p n = true ∧ w ≠ some n
      · rw [if_pos z, e1, nI_1]; exact ⟨x + 1, by omega, rfl⟩
      · rw [if_neg z]; exact ⟨0, by omega, rfl⟩
    show Wb Bd Ba (Bw + 1) (wt1 (wtN q p w n) p w n)
    unfold wt1
    rw [hv2]
    have h1 := ih.setWait (m := n) (by omega) hv1
    exact h1.setCnt (by rw [nM_of (qs_ne _ _ (by omega))]; omega) (by omega) (by omega) _
theorem Wb.breaks (h : Wb Bd Ba Bw q) {m : Nat} (hm : m < nM q) : Wb Bd Ba Bw (brQ q m) ∧ brQ q m 0 = q 0 := by
  have hM := h.sz.M
  have hS := h.sz.S
  have hto := hdQ_le q m (nM q - 1)
  have eow : ∀ i, ¬ (11 ≤ i ∧ i < 63) → i ≠ 6 → i ≠ 63 + 38 * m + 0 → i ≠ 63 + 38 * m + 7 → brQ q m i = q i := by
    intro i h1 h2 h3 h4
    unfold brQ
    rw [qs_ne _ _ h2, qs_ne _ _ h4, qs_ne _ _ h3, ow2Q_out _ _ _ _ (by omega), ow1Q_ge _ _ _ _ _ (by omega)]
  have e0 : brQ q m 0 = q 0 := eow 0 (by omega) (by omega) (by omega) (by omega)
  have eM : nM (brQ q m) = nM q := nM_of e0
  have eS : nS (brQ q m) = nS q := nS_of (eow 1 (by omega) (by omega) (by omega) (by omega))
  have em : ∀ m2 j, m2 < 6 → j < 38 → ¬ (m2 = m ∧ (j = 0 ∨ j = 7)) → mQ (brQ q m) m2 j = mQ q m2 j := fun m2 j h1 h2 h3 => eow _ (by omega) (by omega) (by omega) (by omega)
  have em0 : mQ (brQ q m) m 0 = nI 0 := by
    show brQ q m (63 + 38 * m + 0) = _
    unfold brQ
    rw [qs_ne _ _ (by omega), qs_ne _ _ (by omega), qs_same]
    rfl
  have em7 : mQ (brQ q m) m 7 = nI 0 := by
    show brQ q m (63 + 38 * m + 7) = _
    unfold brQ
    rw [qs_ne _ _ (by omega), qs_same]
    rfl
  have ed : ∀ a b, a < 6 → b < 6 → owQ (brQ q m) a b = if a = m ∨ b = m then 0 else owQ q a b := by
    intro a b ha hb
    show brQ q m (27 + 6 * a + b) = _
    unfold brQ
    rw [qs_ne _ _ (by omega), qs_ne _ _ (by omega), qs_ne _ _ (by omega)]
    unfold ow2Q
    by_cases z : a = m ∨ b = m
    · rw [if_pos z, if_pos (by omega)]
    · rw [if_neg z, if_neg (by omega), ow1Q_ge _ _ _ _ _ (by omega)]
      rfl
  refine ⟨⟨⟨?_, ?_, fun m2 hm2 => ?_⟩, ?_, ?_, ?_, ?_, ?_, ?_, ?_, ?_, ?_⟩, e0⟩
  · rw [e0]; exact h.sz.1
  · rw [eow 1 (by omega) (by omega) (by omega) (by omega)]; exact h.sz.2.1
  · by_cases z : m2 = m
    · subst z; exact ⟨⟨0, by omega, em7⟩, 0, by omega, em0⟩
    · rw [em m2 7 hm2 (by omega) (by omega), em m2 0 hm2 (by omega) (by omega)]; exact h.sz.2.2 m2 hm2
  · intro s hs
    rw [eS] at hs
    rw [eM]
    obtain ⟨o, ho1, ho2⟩ := h.own s hs
    have e1 : brQ q m (11 + s) = if q (11 + s) = nI m then nI (hdQ q m (nM q - 1)) else q (11 + s) := by
      unfold brQ
      rw [qs_ne _ _ (by omega), qs_ne _ _ (by omega), qs_ne _ _ (by omega), ow2Q_out _ _ _ _ (by omega)]
      unfold ow1Q
      by_cases z : q (11 + s) = nI m
      · rw [if_pos z, if_pos ⟨by omega, z⟩]
      · rw [if_neg z, if_neg (fun y => z y.2)]
    rw [e1]
    by_cases z : q (11 + s) = nI m
    · rw [if_pos z]; exact ⟨_, by omega, rfl⟩
    · rw [if_neg z]; exact ⟨o, ho1, ho2⟩
  · intro s hs; rw [eow (7 + s) (by omega) (by omega) (by omega) (by omega)]; exact h.lat s hs
  · intro a b ha hb
    rw [ed a b ha hb]
    by_cases z : a = m ∨ b = m
    · rw [if_pos z]; exact ⟨0, by omega, rfl⟩
    · rw [if_neg z]; exact h.debt a b ha hb
  · intro a b ha hb y
    rw [eM] at y
    rw [ed a b ha hb]
    by_cases z : a = m ∨ b = m
    · rw [if_pos z]
    · rw [if_neg z]; exact h.debt0 a b ha hb y
  · intro m2 hm2; rw [em m2 1 hm2 (by omega) (by omega)]; exact h.wait m2 hm2
  · intro m2 k hm2 hk
    by_cases z : m2 = m
    · subst z
      rw [show nB (brQ q m2) m2 = 0 by unfold nB; rw [em0]; rfl] at hk
      exact absurd hk (Nat.not_lt_zero k)
    · rw [nB_of (em m2 0 hm2 (by omega) (by omega))] at hk
      have := (h.sz.B hm2).2
      rw [em m2 _ hm2 (by omega) (by omega), em m2 _ hm2 (by omega) (by omega), em m2 _ hm2 (by omega) (by omega)]
      exact h.burst m2 k hm2 hk
  · intro m2 k hm2 hk
    by_cases z : m2 = m
    · subst z
      rw [show nA (brQ q m2) m2 = 0 by unfold nA; rw [em7]; rfl] at hk
      exact absurd hk (Nat.not_lt_zero k)
    · rw [nA_of (em m2 7 hm2 (by omega) (by omega))] at hk ⊢
      have := (h.sz.A hm2).2
      rw [em m2 _ hm2 (by omega) (by omega)]
      exact h.answer m2 k hm2 hk
  · intro m2 j h1 h2 h3
    rw [eM] at h1
    rw [em m2 j h2 (by omega) (by omega)]
    exact h.rest m2 j h1 h2 h3
  · obtain ⟨p, hp⟩ := h.bank
    refine ⟨fun i => p i || decide (i = m), ?_⟩
    rw [eM]
    unfold brQ
    rw [qs_same, hp]
    exact mk_or hM.2.1 hm
theorem Wb.bks (h : Wb Bd Ba Bw q) : ∀ n, n ≤ nM q → Wb Bd Ba Bw (bkN q n) ∧ bkN q n 0 = q 0
  | 0, _ => ⟨h, rfl⟩
  | n + 1, hn => by
    obtain ⟨ih, e0⟩ := Wb.bks h n (by omega)
    show Wb Bd Ba Bw (if _ then _ else _) ∧ (if _ then _ else _ : QS) 0 = q 0
    by_cases z : bkQ (bkN q n) n = false ∧ ¬ dbQ (bkN q n) n ≤ nI 4 * slQ (bkN q n) (nS (bkN q n)) n
    · rw [if_pos z]
      have h2 := ih.breaks (m := n) (by rw [nM_of e0]; omega)
      exact ⟨h2.1, h2.2.trans e0⟩
    · rw [if_neg z]; exact ⟨ih, e0⟩
end INV2
