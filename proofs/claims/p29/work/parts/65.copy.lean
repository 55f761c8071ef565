/-! COPIES -/
section COPY
variable {q : QS} {c d c0 : Mem}
theorem rd_b (σ : Mem) {o a : Nat} (c : Mem) {k : Nat} (hk : isB k = true) (h : a ≠ o) (i : Nat) : wc σ o c k a i = cOf σ a k 0 i := by
  unfold wc cOf
  rw [if_pos hk, if_neg h, if_pos hk]
theorem rd_m (σ : Mem) {o a : Nat} (c : Mem) {k m : Nat} (hk : isB k = false) (hk2 : isM k = true) (h : a ≠ o) (hm : m < 6) (i : Nat) : wc σ o c k (6 * a + m) i = cOf σ a k m i := by
  unfold wc cOf
  rw [if_neg (by rw [hk]; decide), if_pos hk2, if_neg (by omega), if_neg (by rw [hk]; decide)]
/-- what stands as in d still does -/
def Kp (d c c2 : Mem) : Prop := ∀ k o i, c k o i = d k o i → c2 k o i = d k o i
def Ag (P : Nat → Nat → Nat → Prop) (d c : Mem) : Prop := ∀ k o i, P k o i → c k o i = d k o i
theorem Kp.refl (d c : Mem) : Kp d c c := fun _ _ _ h => h
theorem Kp.trans {c1 c2 c3 : Mem} (h : Kp d c1 c2) (h2 : Kp d c2 c3) : Kp d c1 c3 := fun k o i z => h2 k o i (h k o i z)
theorem Kp.set (d c : Mem) {k o i : Nat} {v : Int32} (hv : v = d k o i) : Kp d c (ms c k o i v) := by
  intro k1 o1 i1 h
  by_cases e : k1 = k ∧ o1 = o ∧ i1 = i
  · obtain ⟨rfl, rfl, rfl⟩ := e
    rw [ms_eq, hv]
  · rw [ms_ne _ _ e, h]
theorem Ag.kp {P : Nat → Nat → Nat → Prop} {c2 : Mem} (h : Ag P d c) (h2 : Kp d c c2) : Ag P d c2 := fun k o i z => h2 k o i (h k o i z)
theorem Ag.set {P P2 : Nat → Nat → Nat → Prop} {k o i : Nat} {v : Int32} (h : Ag P d c) (hv : v = d k o i) (hP : ∀ k1 o1 i1, P2 k1 o1 i1 → ¬ (k1 = k ∧ o1 = o ∧ i1 = i) → P k1 o1 i1) : Ag P2 d (ms c k o i v) := by
  intro k1 o1 i1 z
  by_cases e : k1 = k ∧ o1 = o ∧ i1 = i
  · obtain ⟨rfl, rfl, rfl⟩ := e
    rw [ms_eq, hv]
  · rw [ms_ne _ _ e]
    exact h k1 o1 i1 (hP k1 o1 i1 z e)
theorem Ag.no {P : Nat → Nat → Nat → Prop} (d c : Mem) (h : ∀ k o i, ¬ P k o i) : Ag P d c := fun k o i z => absurd z (h k o i)
theorem zok_b (t : Bool) : zok (bI t) = true := by cases t <;> decide
theorem c_cpA (σ : Mem) {o a m A : Nat} (ho : a ≠ o) (hm : m < 6) (c : Mem) (hA : cOf σ a 51 m 0 = nI A) (hA2 : A ≤ 10) : ∃ c', f0_copyFrom (6 * o + m) (6 * a + m) (wc σ o c) = some (wc σ o c') ∧ Kp (cOf σ a) c c' ∧ c' 51 m 0 = nI A ∧ ∀ i, i < A → c' 14 m i = cOf σ a 14 m i := by
  have hN : 20 < FU := by decide
  unfold f0_copyFrom
  generalize FU = N at hN ⊢
  simp (disch := first | omega | decide) only [lit, nmS, rd_m, wc_sm, hA]
  obtain ⟨c', h1, h2⟩ := lupR (fun n i (c : Mem) => f0_copyFrom_l10 (6 * o + m) (6 * a + m) (fun s2 => some s2) n (nI i) (wc σ o c)) (fun t c1 => Kp (cOf σ a) c c1 ∧ c1 51 m 0 = nI A ∧ ∀ i, i < t → c1 14 m i = cOf σ a 14 m i) A (fun c => some (wc σ o c)) (by
    intro n i c1 hi h1
    obtain ⟨k1, e51, a1⟩ := h1
    refine ⟨ms c1 14 m i (cOf σ a 14 m i), ⟨k1.trans (Kp.set _ _ rfl), (ms_ne _ _ (by omega)).trans e51, fun j hj => ?_⟩, ?_⟩
    · by_cases z : j = i
      · rw [z, ms_eq]
      · rw [ms_ne _ _ (by omega)]; exact a1 j (by omega)
    · rw [f0_copyFrom_l10]
      simp (disch := first | omega | decide) only [lit, nmS, wc_m, rd_m, wc_sm, e51, clI, gd_ib, nI_add]
      rw [if_neg (nI_ge hi (by omega)), if_neg (nI_ge (show i < 10 by omega) (by omega))]) (by
    intro n c1 h1
    obtain ⟨k1, e51, a1⟩ := h1
    rw [f0_copyFrom_l10]
    simp (disch := first | omega | decide) only [wc_m, e51]
    rw [if_pos (nI_le (Nat.le_refl _) (by omega))]) A 0 N (ms c 51 m 0 (nI A)) (by omega) (by omega) ⟨Kp.set _ _ hA.symm, ms_eq _ _ _ _ _, fun i hi => absurd hi (Nat.not_lt_zero i)⟩
  exact ⟨c', h2, h1⟩
theorem c_cpB (σ : Mem) {o a m B : Nat} (ho : a ≠ o) (hm : m < 6) (c : Mem) (hB : cOf σ a 50 m 0 = nI B) (hB2 : B ≤ 6) (h12 : ∀ k, k < B → cOf σ a 12 m k = 0 ∨ cOf σ a 12 m k = 1) : ∃ c', f1_copyFrom (6 * o + m) (6 * a + m) (wc σ o c) = some (wc σ o c') ∧ Kp (cOf σ a) c c' ∧ c' 50 m 0 = nI B ∧ ∀ i, i < B → c' 10 m i = cOf σ a 10 m i ∧ c' 11 m i = cOf σ a 11 m i ∧ c' 12 m i = cOf σ a 12 m i := by
  have hN : 20 < FU := by decide
  unfold f1_copyFrom
  generalize FU = N at hN ⊢
  simp (disch := first | omega | decide) only [lit, nmS, rd_m, wc_sm, hB]
  obtain ⟨c', h1, h2⟩ := lupR (fun n i (c : Mem) => f1_copyFrom_l10 (6 * o + m) (6 * a + m) (fun s2 => some s2) n (nI i) (wc σ o c)) (fun t c1 => Kp (cOf σ a) c c1 ∧ c1 50 m 0 = nI B ∧ ∀ i, i < t → c1 10 m i = cOf σ a 10 m i ∧ c1 11 m i = cOf σ a 11 m i ∧ c1 12 m i = cOf σ a 12 m i) B (fun c => some (wc σ o c)) (by
    intro n i c1 hi h1
    obtain ⟨k1, e50, a1⟩ := h1
    refine ⟨ms (ms (ms c1 10 m i (cOf σ a 10 m i)) 11 m i (cOf σ a 11 m i)) 12 m i (cOf σ a 12 m i), ⟨((k1.trans (Kp.set _ _ rfl)).trans (Kp.set _ _ rfl)).trans (Kp.set _ _ rfl), ?_, fun j hj => ?_⟩, ?_⟩
    · rw [ms_ne _ _ (by omega), ms_ne _ _ (by omega), ms_ne _ _ (by omega)]; exact e50
    · by_cases z : j = i
      · subst z
        refine ⟨?_, ?_, ms_eq _ _ _ _ _⟩
        · rw [ms_ne _ _ (by omega), ms_ne _ _ (by omega), ms_eq]
        · rw [ms_ne _ _ (by omega), ms_eq]
      · rw [ms_ne _ _ (by omega), ms_ne _ _ (by omega), ms_ne _ _ (by omega), ms_ne _ _ (by omega), ms_ne _ _ (by omega), ms_ne _ _ (by omega), ms_ne _ _ (by omega), ms_ne _ _ (by omega), ms_ne _ _ (by omega)]
        exact a1 j (by omega)
    · rw [f1_copyFrom_l10]
      simp (disch := first | omega | decide) only [lit, nmS, wc_m, rd_m, wc_sm, e50, clI, gd_ib, nI_add]
      rw [if_neg (nI_ge hi (by omega)), if_neg (nI_ge (show i < 6 by omega) (by omega)), zb_01 (h12 i hi)]) (by
    intro n c1 h1
    obtain ⟨k1, e50, a1⟩ := h1
    rw [f1_copyFrom_l10]
    simp (disch := first | omega | decide) only [wc_m, e50]
    rw [if_pos (nI_le (Nat.le_refl _) (by omega))]) B 0 N (ms c 50 m 0 (nI B)) (by omega) (by omega) ⟨Kp.set _ _ hB.symm, ms_eq _ _ _ _ _, fun i hi => absurd hi (Nat.not_lt_zero i)⟩
  exact ⟨c', h2, h1⟩
/-- the cells of a master that a copy has made -/
def MM (B A m : Nat) (d c : Mem) : Prop := (∀ i, i < 6 → c 8 m i = d 8 m i) ∧ (c 50 m 0 = d 50 m 0 ∧ ∀ i, i < B → c 10 m i = d 10 m i ∧ c 11 m i = d 11 m i ∧ c 12 m i = d 12 m i) ∧ (c 51 m 0 = d 51 m 0 ∧ ∀ i, i < A → c 14 m i = d 14 m i) ∧ c 40 m 0 = d 40 m 0 ∧ ∀ k, 42 ≤ k → k < 48 → c k m 0 = d k m 0
theorem MM.kp {B A m : Nat} {c2 : Mem} (h : MM B A m d c) (k : Kp d c c2) : MM B A m d c2 :=
  ⟨fun i hi => k _ _ _ (h.1 i hi), ⟨k _ _ _ h.2.1.1, fun i hi => ⟨k _ _ _ (h.2.1.2 i hi).1, k _ _ _ (h.2.1.2 i hi).2.1, k _ _ _ (h.2.1.2 i hi).2.2⟩⟩, ⟨k _ _ _ h.2.2.1.1, fun i hi => k _ _ _ (h.2.2.1.2 i hi)⟩, k _ _ _ h.2.2.2.1, fun j h1 h2 => k _ _ _ (h.2.2.2.2 j h1 h2)⟩
theorem c_cpM (σ : Mem) {o a m A B : Nat} (ho : a ≠ o) (hm : m < 6) (c : Mem) (hA : cOf σ a 51 m 0 = nI A) (hA2 : A ≤ 10) (hB : cOf σ a 50 m 0 = nI B) (hB2 : B ≤ 6) (h12 : ∀ k, k < B → cOf σ a 12 m k = 0 ∨ cOf σ a 12 m k = 1) {t : Bool} (h40 : cOf σ a 40 m 0 = bI t) :
    ∃ c', f5_copyFrom (6 * o + m) (6 * a + m) (wc σ o c) = some (wc σ o c') ∧ Kp (cOf σ a) c c' ∧ MM B A m (cOf σ a) c' := by
  have hN : 20 < FU := by decide
  obtain ⟨c1, h1, h2⟩ := lupR (fun n i (c : Mem) (K : Mem → Option Mem) => f5_copyFrom_l2 (6 * o + m) (6 * a + m) K n (nI i) (wc σ o c)) (fun t c1 => Kp (cOf σ a) c c1 ∧ ∀ i, i < t → c1 8 m i = cOf σ a 8 m i) 6 (fun c K => K (wc σ o c)) (by
    intro n i c1 hi h1
    refine ⟨ms c1 8 m i (cOf σ a 8 m i), ⟨h1.1.trans (Kp.set _ _ rfl), fun j hj => ?_⟩, ?_⟩
    · by_cases z : j = i
      · rw [z, ms_eq]
      · rw [ms_ne _ _ (by omega)]; exact h1.2 j (by omega)
    · funext K
      rw [f5_copyFrom_l2]
      simp (disch := first | omega | decide) only [lit, nmS, wc_m, rd_m, wc_sm, clI, gd_ib, nI_add]
      rw [if_neg (nI_ge hi (by omega))]) (by
    intro n c1 h1
    funext K
    rw [f5_copyFrom_l2]
    simp only [lit]
    rw [if_pos (nI_le (Nat.le_refl _) (by omega))]) 6 0 FU c (by omega) (by omega) ⟨Kp.refl _ _, fun i hi => absurd hi (Nat.not_lt_zero i)⟩
  have h2' : ∀ K, f5_copyFrom_l2 (6 * o + m) (6 * a + m) K FU (nI 0) (wc σ o c) = K (wc σ o c1) := fun K => congrFun h2 K
  obtain ⟨c2, h3, h4⟩ := c_cpB σ ho hm c1 hB hB2 h12
  obtain ⟨c3, h5, h6⟩ := c_cpA σ ho hm c2 hA hA2
  obtain ⟨c4, hc4⟩ : ∃ c4, c4 = ms (ms (ms (ms (ms (ms (ms c3 40 m 0 (cOf σ a 40 m 0)) 42 m 0 (cOf σ a 42 m 0)) 43 m 0 (cOf σ a 43 m 0)) 44 m 0 (cOf σ a 44 m 0)) 45 m 0 (cOf σ a 45 m 0)) 46 m 0 (cOf σ a 46 m 0)) 47 m 0 (cOf σ a 47 m 0) := ⟨_, rfl⟩
  have k4 : Kp (cOf σ a) c3 c4 := by
    rw [hc4]
    exact ((((((Kp.set _ _ rfl).trans (Kp.set _ _ rfl)).trans (Kp.set _ _ rfl)).trans (Kp.set _ _ rfl)).trans (Kp.set _ _ rfl)).trans (Kp.set _ _ rfl)).trans (Kp.set _ _ rfl)
  have g0 : Ag (fun k o i => o = m ∧ i = 0 ∧ k = 40) (cOf σ a) (ms c3 40 m 0 (cOf σ a 40 m 0)) := (Ag.no (P := fun _ _ _ => False) _ c3 (fun _ _ _ z => z)).set rfl (fun k1 o1 i1 z w => w ⟨z.2.2, z.1, z.2.1⟩)
  have g1 := g0.set (P2 := fun k o i => o = m ∧ i = 0 ∧ (k = 40 ∨ (42 ≤ k ∧ k < 43))) (k := 42) (o := m) (i := 0) rfl (fun k1 o1 i1 z w => by omega)
  have g2 := g1.set (P2 := fun k o i => o = m ∧ i = 0 ∧ (k = 40 ∨ (42 ≤ k ∧ k < 44))) (k := 43) (o := m) (i := 0) rfl (fun k1 o1 i1 z w => by omega)
  have g3 := g2.set (P2 := fun k o i => o = m ∧ i = 0 ∧ (k = 40 ∨ (42 ≤ k ∧ k < 45))) (k := 44) (o := m) (i := 0) rfl (fun k1 o1 i1 z w => by omega)
  have g4 := g3.set (P2 := fun k o i => o = m ∧ i = 0 ∧ (k = 40 ∨ (42 ≤ k ∧ k < 46))) (k := 45) (o := m) (i := 0) rfl (fun k1 o1 i1 z w => by omega)
  have g5 := g4.set (P2 := fun k o i => o = m ∧ i = 0 ∧ (k = 40 ∨ (42 ≤ k ∧ k < 47))) (k := 46) (o := m) (i := 0) rfl (fun k1 o1 i1 z w => by omega)
  have g6 := g5.set (P2 := fun k o i => o = m ∧ i = 0 ∧ (k = 40 ∨ (42 ≤ k ∧ k < 48))) (k := 47) (o := m) (i := 0) rfl (fun k1 o1 i1 z w => by omega)
  rw [← hc4] at g6
  have k24 := h6.1.trans k4
  have k14 := h4.1.trans k24
  refine ⟨c4, ?_, h1.1.trans k14, fun i hi => k14 _ _ _ (h1.2 i hi), ⟨k24 _ _ _ (h4.2.1.trans hB.symm), fun i hi => ⟨k24 _ _ _ (h4.2.2 i hi).1, k24 _ _ _ (h4.2.2 i hi).2.1, k24 _ _ _ (h4.2.2 i hi).2.2⟩⟩, ⟨k4 _ _ _ (h6.2.1.trans hA.symm), fun i hi => k4 _ _ _ (h6.2.2 i hi)⟩, g6 40 m 0 ⟨rfl, rfl, Or.inl rfl⟩, fun k j1 j2 => g6 k m 0 ⟨rfl, rfl, Or.inr ⟨j1, j2⟩⟩⟩
  unfold f5_copyFrom
  simp (disch := first | omega | decide) only [lit, nmS, h2', h3, h5, bvS, rd_m, wc_sm]
  rw [hc4, h40, gdI (zok_b t)]
end COPY
