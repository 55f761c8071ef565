/-! A NEW BUS -/
section NEWB
variable {q r : QS} {c d : Mem} {T : Nat}
def d0 : Mem := fun _ _ _ => 0
theorem c_new1 (σ : Mem) (b : Nat) (c : Mem) {m : Nat} (hm : m < 6) : ∃ c', f5_makeNew (6 * b + m) (wc σ b c) = some (wc σ b c') ∧ Kp d0 c c' ∧ MM 0 0 m d0 c' ∧ ∀ k o i, (k < 8 ∨ (30 ≤ k ∧ k < 36) ∨ o ≠ m ∨ k = 41) → c' k o i = c k o i := by
  obtain ⟨c4, hc4⟩ : ∃ c4, c4 = ms (ms (ms (ms (ms (ms (ms (ms (ms (zD c m 6) 50 m 0 (nI 0)) 51 m 0 (nI 0)) 40 m 0 (nI 0)) 42 m 0 (nI 0)) 43 m 0 (nI 0)) 44 m 0 (nI 0)) 45 m 0 (nI 0)) 46 m 0 (nI 0)) 47 m 0 (nI 0) := ⟨_, rfl⟩
  have k0 : Kp d0 c (zD c m 6) := fun k o i h => by
    by_cases e : k = 8 ∧ o = m ∧ i < 6
    · obtain ⟨rfl, rfl, h2⟩ := e
      exact zD_in _ h2
    · rw [zD_out _ e]; exact h
  have k1 : Kp d0 (zD c m 6) c4 := by
    rw [hc4]
    exact ((((((((Kp.set _ _ rfl).trans (Kp.set _ _ rfl)).trans (Kp.set _ _ rfl)).trans (Kp.set _ _ rfl)).trans (Kp.set _ _ rfl)).trans (Kp.set _ _ rfl)).trans (Kp.set _ _ rfl)).trans (Kp.set _ _ rfl)).trans (Kp.set _ _ rfl)
  have g0 : Ag (fun k o i => o = m ∧ i = 0 ∧ k = 50) d0 (ms (zD c m 6) 50 m 0 (nI 0)) := (Ag.no (P := fun _ _ _ => False) _ (zD c m 6) (fun _ _ _ z => z)).set rfl (fun k1 o1 i1 z w => w ⟨z.2.2, z.1, z.2.1⟩)
  have g1 := g0.set (P2 := fun k o i => o = m ∧ i = 0 ∧ (k = 50 ∨ k = 51)) (k := 51) (o := m) (i := 0) (v := nI 0) rfl (fun k1 o1 i1 z w => by omega)
  have g2 := g1.set (P2 := fun k o i => o = m ∧ i = 0 ∧ (k = 50 ∨ k = 51 ∨ k = 40)) (k := 40) (o := m) (i := 0) (v := nI 0) rfl (fun k1 o1 i1 z w => by omega)
  have g3 := g2.set (P2 := fun k o i => o = m ∧ i = 0 ∧ (k = 50 ∨ k = 51 ∨ k = 40 ∨ (42 ≤ k ∧ k < 43))) (k := 42) (o := m) (i := 0) (v := nI 0) rfl (fun k1 o1 i1 z w => by omega)
  have g4 := g3.set (P2 := fun k o i => o = m ∧ i = 0 ∧ (k = 50 ∨ k = 51 ∨ k = 40 ∨ (42 ≤ k ∧ k < 44))) (k := 43) (o := m) (i := 0) (v := nI 0) rfl (fun k1 o1 i1 z w => by omega)
  have g5 := g4.set (P2 := fun k o i => o = m ∧ i = 0 ∧ (k = 50 ∨ k = 51 ∨ k = 40 ∨ (42 ≤ k ∧ k < 45))) (k := 44) (o := m) (i := 0) (v := nI 0) rfl (fun k1 o1 i1 z w => by omega)
  have g6 := g5.set (P2 := fun k o i => o = m ∧ i = 0 ∧ (k = 50 ∨ k = 51 ∨ k = 40 ∨ (42 ≤ k ∧ k < 46))) (k := 45) (o := m) (i := 0) (v := nI 0) rfl (fun k1 o1 i1 z w => by omega)
  have g7 := g6.set (P2 := fun k o i => o = m ∧ i = 0 ∧ (k = 50 ∨ k = 51 ∨ k = 40 ∨ (42 ≤ k ∧ k < 47))) (k := 46) (o := m) (i := 0) (v := nI 0) rfl (fun k1 o1 i1 z w => by omega)
  have g8 := g7.set (P2 := fun k o i => o = m ∧ i = 0 ∧ (k = 50 ∨ k = 51 ∨ k = 40 ∨ (42 ≤ k ∧ k < 48))) (k := 47) (o := m) (i := 0) (v := nI 0) rfl (fun k1 o1 i1 z w => by omega)
  rw [← hc4] at g8
  refine ⟨c4, ?_, k0.trans k1, ⟨fun i hi => k1 _ _ _ (zD_in _ hi), ⟨g8 50 m 0 ⟨rfl, rfl, by omega⟩, fun i hi => absurd hi (Nat.not_lt_zero i)⟩, ⟨g8 51 m 0 ⟨rfl, rfl, by omega⟩, fun i hi => absurd hi (Nat.not_lt_zero i)⟩, g8 40 m 0 ⟨rfl, rfl, by omega⟩, fun k j1 j2 => g8 k m 0 ⟨rfl, rfl, by omega⟩⟩, fun k o i hk => ?_⟩
  · unfold f5_makeNew
    simp (disch := first | omega | decide) only [lit, nmS, c_forget σ b c hm, bvS, wc_sm]
    rw [hc4]
  · rw [hc4, ms_ne _ _ (by omega), ms_ne _ _ (by omega), ms_ne _ _ (by omega), ms_ne _ _ (by omega), ms_ne _ _ (by omega), ms_ne _ _ (by omega), ms_ne _ _ (by omega), ms_ne _ _ (by omega), ms_ne _ _ (by omega), zD_out _ (by omega)]
theorem Wb.join {Bd Ba Bw : Nat} (h : Wb Bd Ba Bw q) (hM6 : nM q < 6) : Wb Bd Ba Bw (qs q 0 (nI (nM q + 1))) := by
  have hM := h.sz.M
  have hS := h.sz.S
  have e : ∀ i, i ≠ 0 → qs q 0 (nI (nM q + 1)) i = q i := fun i hi => qs_ne _ _ hi
  have eM : nM (qs q 0 (nI (nM q + 1))) = nM q + 1 := by
    show (qs q 0 (nI (nM q + 1)) 0).toNatClampNeg = _
    rw [qs_same, clI (by omega)]
  have eS : nS (qs q 0 (nI (nM q + 1))) = nS q := nS_of (e 1 (by omega))
  have em : ∀ m j, mQ (qs q 0 (nI (nM q + 1))) m j = mQ q m j := fun m j => e _ (by omega)
  have eo : ∀ a b, owQ (qs q 0 (nI (nM q + 1))) a b = owQ q a b := fun a b => e _ (by omega)
  refine ⟨⟨⟨nM q + 1, by omega, by omega, qs_same _ _ _⟩, ?_, fun m hm => ⟨?_, ?_⟩⟩, fun s hs => ?_, fun s hs => ?_, fun a b ha hb => ?_, fun a b ha hb hx => ?_, fun m hm => ?_, fun m k hm hk => ?_, fun m k hm hk => ?_, fun m j h1 h2 h3 => ?_, ?_⟩
  · rw [e 1 (by omega)]; exact h.sz.2.1
  · rw [em]; exact (h.sz.2.2 m hm).1
  · rw [em]; exact (h.sz.2.2 m hm).2
  · rw [eS] at hs
    obtain ⟨o, h1, h2⟩ := h.own s hs
    rw [eM, e _ (by omega)]
    exact ⟨o, by omega, h2⟩
  · rw [e _ (by omega)]; exact h.lat s hs
  · rw [eo]; exact h.debt a b ha hb
  · rw [eM] at hx; rw [eo]; exact h.debt0 a b ha hb (by omega)
  · rw [em]; exact h.wait m hm
  · rw [nB_of (em m 0)] at hk
    rw [em, em, em]
    exact h.burst m k hm hk
  · rw [nA_of (em m 7)] at hk ⊢
    rw [em]
    exact h.answer m k hm hk
  · rw [eM] at h1; rw [em]; exact h.rest m j (by omega) h2 h3
  · obtain ⟨p, hp⟩ := h.bank
    refine ⟨fun i => p i && decide (i < nM q), ?_⟩
    rw [e 6 (by omega), eM, hp]
    show _ = mk (fun i => p i && decide (i < nM q)) (nM q) ||| (if (p (nM q) && decide (nM q < nM q)) = true then _ else 0)
    rw [if_neg (by rw [decide_eq_false (Nat.lt_irrefl _), Bool.and_false]; decide), show mk (fun i => p i && decide (i < nM q)) (nM q) ||| 0 = mk (fun i => p i && decide (i < nM q)) (nM q) from Int32.or_zero]
    exact mk_congr fun i hi => by rw [decide_eq_true hi, Bool.and_true]
theorem c_join (σ : Mem) (b : Nat) (h : Bus q c T) (hM6 : nM q < 6) : ∃ c', f2_join b (wc σ b c) = some (nI (nM q), wc σ b c') ∧ Bus (qs q 0 (nI (nM q + 1))) c' T := by
  obtain ⟨⟨f, hE⟩, hwb, hT⟩ := h
  have hz := hwb.sz
  obtain ⟨g1, g2, g3⟩ := hz.M
  obtain ⟨c1, h1, h2, h3, h4⟩ := c_new1 σ b c hM6
  have e30 : c 30 0 0 = nI (nM q) := hE.t0.trans g1
  have f30 : c1 30 0 0 = nI (nM q) := (h4 30 0 0 (by omega)).trans e30
  refine ⟨ms c1 30 0 0 (nI (nM q + 1)), ?_, ⟨f, ?_⟩, hwb.join hM6, (qs_ne _ _ (by omega)).trans hT⟩
  · unfold f2_join
    simp (disch := first | omega | decide) only [lit, nmS, wc_b, wc_sb, e30, clI, gd_ib, h1, bvS, f30, nI_add, ms_eq]
    rw [if_pos (nI_lt hM6 (by omega)), show nI (nM q + 1) - nI 1 = nI (nM q) from nI_s1 _]
  · have e : ∀ i, i ≠ 0 → qs q 0 (nI (nM q + 1)) i = q i := fun i hi => qs_ne _ _ hi
    rw [nS_of (e 1 (by omega)), e 3 (by omega), e 5 (by omega)]
    have hB0 : nB q (nM q) = 0 := by
      unfold nB
      rw [hwb.rest (nM q) 0 (Nat.le_refl _) hM6 (by omega)]
      rfl
    have hA0 : nA q (nM q) = 0 := by
      unfold nA
      rw [hwb.rest (nM q) 7 (Nat.le_refl _) hM6 (by omega)]
      rfl
    have hE2 : E (nS q) (nB q) (nA q) (qs q 0 (nI (nM q + 1))) (q 3) (q 5) f (ms c1 30 0 0 (nI (nM q + 1))) := by
      refine ⟨fun k o i hk => ?_, ?_, ?_, fun m => ?_, fun m hm => ?_⟩
      · by_cases z : k = 30
        · subst z
          have hc : o = 0 ∧ i = 0 := by
            have := hk.cases
            omega
          rw [hc.1, hc.2, ms_eq]
          rfl
        · rw [ms_ne _ _ (fun w => z w.1)]
          have hj : cj k o i ≠ 0 := by
            have := hk.cases
            omega
          rw [e _ hj, ← hE.1 k o i hk]
          by_cases w : k < 8 ∨ (30 ≤ k ∧ k < 36) ∨ o ≠ nM q ∨ k = 41
          · exact h4 k o i w
          · have ho : o = nM q := by omega
            subst ho
            rw [hE.1 k (nM q) i hk]
            rcases hk.cases with ⟨rfl, -⟩ | ⟨rfl, -⟩ | ⟨rfl, j2, j3, j4⟩ | ⟨j1, j2, j3, -⟩ | ⟨rfl, j2, j3, -⟩ | ⟨j1, -⟩ | ⟨j1, j2, j3, rfl, j5⟩ | ⟨rfl, j2, rfl, j4⟩ | ⟨rfl, j2, rfl, j4⟩
            · omega
            · omega
            · rw [j4, h3.1 i j3]
              exact (hwb.debt0 (nM q) i hM6 j3 (Or.inl (Nat.le_refl _))).symm
            · rw [hB0] at j3; exact absurd j3 (Nat.not_lt_zero _)
            · rw [hA0] at j3; exact absurd j3 (Nat.not_lt_zero _)
            · omega
            · rw [j5, h3.2.2.2.2 k j1 j2]
              exact (hwb.rest (nM q) (k - 41) (Nat.le_refl _) hM6 (by omega)).symm
            · rw [j4, h3.2.1.1]
              exact (hwb.rest (nM q) 0 (Nat.le_refl _) hM6 (by omega)).symm
            · rw [j4, h3.2.2.1.1]
              exact (hwb.rest (nM q) 7 (Nat.le_refl _) hM6 (by omega)).symm
      · rw [ms_ne _ _ (by omega), h4 33 0 0 (by omega)]; exact hE.2.1
      · rw [ms_ne _ _ (by omega), h4 35 0 0 (by omega)]; exact hE.2.2.1
      · rw [ms_ne _ _ (by omega), h4 41 m 0 (by omega)]; exact hE.2.2.2.1 m
      · rw [ms_ne _ _ (by omega), bkQ_of (e 6 (by omega))]
        by_cases z : m = nM q
        · rw [z, h3.2.2.2.1]
          obtain ⟨p, hp⟩ := hwb.bank
          have hb : bkQ q (nM q) = false := by
            unfold bkQ
            rw [hp]
            exact decide_eq_false fun w => Nat.lt_irrefl _ ((mk_bit g2 hM6).mp w).1
          rw [hb]
          rfl
        · rw [h4 40 m 0 (by omega)]; exact hE.2.2.2.2 m hm
    refine hE2.less (fun m hm => Nat.le_of_eq (nB_of (e _ (by omega)))) (fun m hm => Nat.le_of_eq (nA_of (e _ (by omega))))
end NEWB
