/-! A NEW BUS -/
section NEWB
variable {q r : QS} {c d : Mem} {T : Nat}
def d0 : Mem := fun _ _ _ => 0
theorem c_new1 (σ : Mem) (b : Nat) (c : Mem) {m : Nat} (hm : m < 6) : ∃ c', f5_makeNew (6 * b + m) (wc σ b c) = some (wc σ b c') ∧ Kp d0 c c' ∧ MM 0 0 m d0 c' ∧ ∀ k o i, (k < 8 ∨ (30 ≤ k ∧ k < 36)) → c' k o i = c k o i := by
  obtain ⟨c4, hc4⟩ : ∃ c4, c4 = ms (ms (ms (ms (ms (ms (ms (ms (ms (zD c m 6) 50 m 0 (nI 0)) 51 m 0 (nI 0)) 40 m 0 (nI 0)) 42 m 0 (nI 0)) 43 m 0 (nI 0)) 44 m 0 (nI 0)) 45 m 0 (nI 0)) 46 m 0 (nI 0)) 47 m 0 (nI 0) := ⟨_, rfl⟩
  have k0 : Kp d0 c (zD c m 6) := fun k o i h => by
    by_cases e : k = 8 ∧ o = m ∧ i < 6
    · obtain ⟨rfl, rfl, h2⟩ := e
      exact zD_in _ h2
    · rw [zD_out _ e]; exact h
  have k1 : Kp d0 (zD c m 6) c4 := by
    rw [hc4]
    exact ((((((((Kp.set _ _ rfl).trans (Kp.set _ _ rfl)).trans (Kp.set _ _ rfl)).trans (Kp.set _ _ rfl)).trans (Kp.set _ _ rfl)).trans (Kp.set _ _ rfl)).trans (Kp.set _ _ rfl)).trans (Kp.set _ _ rfl)).trans (Kp.set _ _ rfl)
  have g0 : Ag (fun k o i => o = m ∧ i = 0 ∧ k = 50) d0 (ms (zD c m 6) 50 m 0 (nI 0)) := (Ag.no (P := fun _ _ _ => False) _ (zD c m 6) (fun _ _ _ z => z)).set rfl (fun k1 o1 i1 z w => w ⟨z.2.2, z.1, z.2.1⟩)
  have g1 := g0.set (P2 := fun k o i => o = m ∧ i = 0 ∧ (k = 50 ∨ k = 51)) (k := 51) (o := m) (i := 0) (v := nI 0) rfl (fun k1 o1 i1 z w => by omega)
  have g2 := g1.set (P2 := fun k o i => o = m ∧ i = 0 ∧ (k = 50 ∨ k = 51 ∨ k = 40)) (k := 40) (o := m) (i := 0) (v := nI 0) rfl (fun k1 o1 i1 z w => by omega)
  have g3 := g2.set (P2 := fun k o i => o = m ∧ i = 0 ∧ (k = 50 ∨ k = 51 ∨ k = 40 ∨ (42 ≤ k ∧ k < 43))) (k := 42) (o := m) (i := 0) (v := nI 0) rfl (fun k1 o1 i1 z w => by omega)
  have g4 := g3.set (P2 := fun k o i => o = m ∧ i = 0 ∧ (k = 50 ∨ k = 51 ∨ k = 40 ∨ (42 ≤ k ∧ k < 44))) (k := 43) (o := m) (i := 0) (v := nI 0) rfl (fun k1 o1 i1 z w => by omega)
  have g5 := g4.set (P2 := fun k o i => o = m ∧ i = 0 ∧ (k = 50 ∨ k = 51 ∨ k = 40 ∨ (42 ≤ k ∧ k < 45))) (k := 44) (o := m) (i := 0) (v := nI 0) rfl (fun k1 o1 i1 z w => by omega)
  have g6 := g5.set (P2 := fun k o i => o = m ∧ i = 0 ∧ (k = 50 ∨ k = 51 ∨ k = 40 ∨ (42 ≤ k ∧ k < 46))) (k := 45) (o := m) (i := 0) (v := nI 0) rfl (fun k1 o1 i1 z w => by omega)
  have g7 := g6.set (P2 := fun k o i => o = m ∧ i = 0 ∧ (k = 50 ∨ k = 51 ∨ k = 40 ∨ (42 ≤ k ∧ k < 47))) (k := 46) (o := m) (i := 0) (v := nI 0) rfl (fun k1 o1 i1 z w => by omega)
  have g8 := g7.set (P2 := fun k o i => o = m ∧ i = 0 ∧ (k = 50 ∨ k = 51 ∨ k = 40 ∨ (42 ≤ k ∧ k < 48))) (k := 47) (o := m) (i := 0) (v := nI 0) rfl (fun k1 o1 i1 z w => by omega)
  rw [← hc4] at g8
  refine ⟨c4, ?_, k0.trans k1, ⟨fun i hi => k1 _ _ _ (zD_in _ hi), ⟨g8 50 m 0 ⟨rfl, rfl, by omega⟩, fun i hi => absurd hi (Nat.not_lt_zero i)⟩, ⟨g8 51 m 0 ⟨rfl, rfl, by omega⟩, fun i hi => absurd hi (Nat.not_lt_zero i)⟩, g8 40 m 0 ⟨rfl, rfl, by omega⟩, fun k j1 j2 => g8 k m 0 ⟨rfl, rfl, by omega⟩⟩, fun k o i hk => ?_⟩
  · unfold f5_makeNew
    simp (disch := first | omega | decide) only [lit, nmS, c_forget σ b c hm, bvS, wc_sm]
    rw [hc4]
  · rw [hc4, ms_ne _ _ (by omega), ms_ne _ _ (by omega), ms_ne _ _ (by omega), ms_ne _ _ (by omega), ms_ne _ _ (by omega), ms_ne _ _ (by omega), ms_ne _ _ (by omega), ms_ne _ _ (by omega), ms_ne _ _ (by omega), zD_out _ (by omega)]
end NEWB
