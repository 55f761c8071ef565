/-! COPIES OF A BUS -/
section COPY2
variable {q : QS} {c d c0 : Mem}
theorem E.of {S : Nat} {nb na : Nat → Nat} {x y : Int32} {f : Nat → Int32} (h : E S nb na q x y f d) (h30 : ∀ k, 30 ≤ k → k < 36 → c k 0 0 = d k 0 0) (h4 : ∀ i, i < 16 → c 4 0 i = d 4 0 i) (h5 : ∀ i, i < 4 → c 5 0 i = d 5 0 i) (hM : ∀ m, m < 6 → MM (nb m) (na m) m d c) : E S nb na q x y (fun m => c 41 m 0) c := by
  refine ⟨fun k o i hk => ?_, ?_, ?_, fun m => rfl, fun m hm => ?_⟩
  · rw [← h.1 k o i hk]
    rcases hk.cases with ⟨rfl, rfl, h3, -⟩ | ⟨rfl, rfl, h3, h6, -⟩ | ⟨rfl, h2, h3, -⟩ | ⟨h1, h2, h3, -⟩ | ⟨rfl, h2, h3, -⟩ | ⟨h1, rfl, rfl, -⟩ | ⟨h1, h2, h3, rfl, -⟩ | ⟨rfl, h2, rfl, -⟩ | ⟨rfl, h2, rfl, -⟩
    · exact h5 i h3
    · exact h4 i h6
    · exact (hM o h2).1 i h3
    · have h9 := (hM o h2).2.1.2 i h3
      rcases h1 with rfl | rfl | rfl
      · exact h9.1
      · exact h9.2.1
      · exact h9.2.2
    · exact (hM o h2).2.2.1.2 i h3
    · exact h30 k (by omega) (by omega)
    · exact (hM o h3).2.2.2.2 k h1 h2
    · exact (hM o h2).2.1.1
    · exact (hM o h2).2.2.1.1
  · rw [h30 33 (by omega) (by omega)]; exact h.2.1
  · rw [h30 35 (by omega) (by omega)]; exact h.2.2.1
  · rw [(hM m hm).2.2.2.1]; exact h.2.2.2.2 m hm
theorem c_copy (σ : Mem) {o a T : Nat} (ho : a ≠ o) (h : Bus q (cOf σ a) T) (c : Mem) : ∃ c', f2_copyFrom o a (wc σ o c) = some (wc σ o c') ∧ Bus q c' T := by
  obtain ⟨⟨f, hE⟩, hwb, hT⟩ := h
  have hz := hwb.sz
  have hN : 20 < FU := by decide
  unfold f2_copyFrom
  generalize FU = N at hN ⊢
  simp (disch := first | omega | decide) only [lit, nmS, rd_b, wc_sb]
  obtain ⟨c1, hc1⟩ : ∃ c1, c1 = ms (ms (ms (ms (ms (ms c 30 0 0 (cOf σ a 30 0 0)) 31 0 0 (cOf σ a 31 0 0)) 32 0 0 (cOf σ a 32 0 0)) 33 0 0 (cOf σ a 33 0 0)) 34 0 0 (cOf σ a 34 0 0)) 35 0 0 (cOf σ a 35 0 0) := ⟨_, rfl⟩
  have g0 : Ag (fun k o i => o = 0 ∧ i = 0 ∧ 30 ≤ k ∧ k < 31) (cOf σ a) (ms c 30 0 0 (cOf σ a 30 0 0)) := (Ag.no (P := fun _ _ _ => False) _ c (fun _ _ _ z => z)).set rfl (fun k1 o1 i1 z w => w ⟨by omega, z.1, z.2.1⟩)
  have g1 := g0.set (P2 := fun k o i => o = 0 ∧ i = 0 ∧ 30 ≤ k ∧ k < 32) (k := 31) (o := 0) (i := 0) rfl (fun k1 o1 i1 z w => by omega)
  have g2 := g1.set (P2 := fun k o i => o = 0 ∧ i = 0 ∧ 30 ≤ k ∧ k < 33) (k := 32) (o := 0) (i := 0) rfl (fun k1 o1 i1 z w => by omega)
  have g3 := g2.set (P2 := fun k o i => o = 0 ∧ i = 0 ∧ 30 ≤ k ∧ k < 34) (k := 33) (o := 0) (i := 0) rfl (fun k1 o1 i1 z w => by omega)
  have g4 := g3.set (P2 := fun k o i => o = 0 ∧ i = 0 ∧ 30 ≤ k ∧ k < 35) (k := 34) (o := 0) (i := 0) rfl (fun k1 o1 i1 z w => by omega)
  have g5 := g4.set (P2 := fun k o i => o = 0 ∧ i = 0 ∧ 30 ≤ k ∧ k < 36) (k := 35) (o := 0) (i := 0) rfl (fun k1 o1 i1 z w => by omega)
  rw [← hc1] at g5 ⊢
  obtain ⟨c2, h1, h2⟩ := lupR (fun n i (c : Mem) (K : Mem → Option Mem) => f2_copyFrom_l50 o a K n (nI i) (wc σ o c)) (fun t c2 => Kp (cOf σ a) c1 c2 ∧ ∀ i, i < t → c2 4 0 i = cOf σ a 4 0 i) 16 (fun c K => K (wc σ o c)) (by
    intro n i c2 hi h1
    refine ⟨ms c2 4 0 i (cOf σ a 4 0 i), ⟨h1.1.trans (Kp.set _ _ rfl), fun j hj => ?_⟩, ?_⟩
    · by_cases z : j = i
      · rw [z, ms_eq]
      · rw [ms_ne _ _ (by omega)]; exact h1.2 j (by omega)
    · funext K
      rw [f2_copyFrom_l50]
      simp (disch := first | omega | decide) only [lit, nmS, rd_b, wc_sb, clI, gd_ib, nI_add]
      rw [if_neg (nI_ge hi (by omega))]) (by
    intro n c2 h1
    funext K
    rw [f2_copyFrom_l50]
    simp only [lit]
    rw [if_pos (nI_le (Nat.le_refl _) (by omega))]) 16 0 N c1 (by omega) (by omega) ⟨Kp.refl _ _, fun i hi => absurd hi (Nat.not_lt_zero i)⟩
  have h2' : ∀ K, f2_copyFrom_l50 o a K N (nI 0) (wc σ o c1) = K (wc σ o c2) := fun K => congrFun h2 K
  obtain ⟨c3, h3, h4⟩ := lupR (fun n i (c : Mem) (K : Mem → Option Mem) => f2_copyFrom_l76 o a K n (nI i) (wc σ o c)) (fun t c3 => Kp (cOf σ a) c2 c3 ∧ ∀ i, i < t → c3 5 0 i = cOf σ a 5 0 i) 4 (fun c K => K (wc σ o c)) (by
    intro n i c2 hi h1
    refine ⟨ms c2 5 0 i (cOf σ a 5 0 i), ⟨h1.1.trans (Kp.set _ _ rfl), fun j hj => ?_⟩, ?_⟩
    · by_cases z : j = i
      · rw [z, ms_eq]
      · rw [ms_ne _ _ (by omega)]; exact h1.2 j (by omega)
    · funext K
      rw [f2_copyFrom_l76]
      simp (disch := first | omega | decide) only [lit, nmS, rd_b, wc_sb, clI, gd_ib, nI_add]
      rw [if_neg (nI_ge hi (by omega))]) (by
    intro n c2 h1
    funext K
    rw [f2_copyFrom_l76]
    simp only [lit]
    rw [if_pos (nI_le (Nat.le_refl _) (by omega))]) 4 0 N c2 (by omega) (by omega) ⟨Kp.refl _ _, fun i hi => absurd hi (Nat.not_lt_zero i)⟩
  have h4' : ∀ K, f2_copyFrom_l76 o a K N (nI 0) (wc σ o c2) = K (wc σ o c3) := fun K => congrFun h4 K
  obtain ⟨c4, h5, h6⟩ := lupR (fun n i (c : Mem) (K : Mem → Option Mem) => f2_copyFrom_l101 o a K n (nI i) (wc σ o c)) (fun t c4 => Kp (cOf σ a) c3 c4 ∧ ∀ m, m < t → MM (nB q m) (nA q m) m (cOf σ a) c4) 6 (fun c K => K (wc σ o c)) (by
    intro n i c2 hi h1
    obtain ⟨hA1, hA2⟩ := hz.A hi
    obtain ⟨hB1, hB2⟩ := hz.B hi
    obtain ⟨c5, k1, k2, k3⟩ := c_cpM σ (o := o) ho hi c2 ((hE.tna hi).trans hA1) hA2 ((hE.tnb hi).trans hB1) hB2 (fun k hk => by
      rw [(hE.bur hi hk (by omega)).2.2]
      exact (hwb.burst i k hi hk).2.2) (hE.bk hi)
    refine ⟨c5, ⟨h1.1.trans k2, fun m hm => ?_⟩, ?_⟩
    · by_cases z : m = i
      · rw [z]; exact k3
      · exact (h1.2 m (by omega)).kp k2
    · funext K
      rw [f2_copyFrom_l101]
      simp (disch := first | omega | decide) only [lit, nmS, clI, gd_ib, nI_add, k1, bvS]
      rw [if_neg (nI_ge hi (by omega))]) (by
    intro n c2 h1
    funext K
    rw [f2_copyFrom_l101]
    simp only [lit]
    rw [if_pos (nI_le (Nat.le_refl _) (by omega))]) 6 0 N c3 (by omega) (by omega) ⟨Kp.refl _ _, fun i hi => absurd hi (Nat.not_lt_zero i)⟩
  have h6' : ∀ K, f2_copyFrom_l101 o a K N (nI 0) (wc σ o c3) = K (wc σ o c4) := fun K => congrFun h6 K
  rw [h2', h4', h6']
  have k34 := h3.1.trans h5.1
  have k14 := h1.1.trans k34
  refine ⟨c4, rfl, ⟨_, hE.of (c := c4) (fun k j1 j2 => k14 _ _ _ (g5 k 0 0 ⟨rfl, rfl, j1, j2⟩)) (fun i hi => k34 _ _ _ (h1.2 i hi)) (fun i hi => h5.1 _ _ _ (h3.2 i hi)) h5.2⟩, hwb, hT⟩
end COPY2
