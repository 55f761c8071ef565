/-! ALL NEW -/
section ANEW
variable {q r : QS} {c d : Mem} {T : Nat}
def anQ (M S : Nat) : QS := fun j => if j = 0 then nI M else if j = 1 then nI S else if j = 4 then 4 else if j = 5 then -9 else if 7 ≤ j ∧ j < 11 then 2 else if 11 ≤ j ∧ j < 11 + S then nI ((j - 11) % M) else 0
theorem anQ_0 (M S : Nat) {j : Nat} (h : j = 2 ∨ j = 3 ∨ j = 6 ∨ 11 + S ≤ j) (hS : 0 < S) : anQ M S j = 0 := by
  unfold anQ
  rw [if_neg (by omega), if_neg (by omega), if_neg (by omega), if_neg (by omega), if_neg (by omega), if_neg (by omega)]
theorem anQ_lat (M S : Nat) {s : Nat} (h : s < 4) : anQ M S (7 + s) = nI 2 := by
  unfold anQ
  rw [if_neg (by omega), if_neg (by omega), if_neg (by omega), if_neg (by omega), if_pos (by omega)]
  rfl
theorem anQ_own (M S : Nat) {s : Nat} (h : s < S) : anQ M S (11 + s) = nI (s % M) := by
  unfold anQ
  rw [if_neg (by omega), if_neg (by omega), if_neg (by omega), if_neg (by omega), if_neg (by omega), if_pos (by omega), show 11 + s - 11 = s by omega]
theorem anQ_wb {M S : Nat} (hM : 2 ≤ M) (hM2 : M ≤ 6) (hS : 2 ≤ S) (hS2 : S ≤ 16) : Wb 0 0 0 (anQ M S) ∧ nM (anQ M S) = M ∧ nS (anQ M S) = S := by
  have eM : nM (anQ M S) = M := by
    show (nI M).toNatClampNeg = M
    exact clI (by omega)
  have eS : nS (anQ M S) = S := by
    show (nI S).toNatClampNeg = S
    exact clI (by omega)
  have em : ∀ m j, mQ (anQ M S) m j = 0 := fun m j => anQ_0 M S (by omega) (by omega)
  have eo : ∀ a b, owQ (anQ M S) a b = 0 := fun a b => anQ_0 M S (by omega) (by omega)
  have eA : ∀ m, nA (anQ M S) m = 0 := fun m => by unfold nA; rw [em]; rfl
  have eB : ∀ m, nB (anQ M S) m = 0 := fun m => by unfold nB; rw [em]; rfl
  refine ⟨⟨⟨⟨M, hM2, hM, rfl⟩, ⟨S, hS2, hS, rfl⟩, fun m hm => ⟨⟨0, by omega, em m 7⟩, 0, by omega, em m 0⟩⟩, fun s hs => ?_, fun s hs => ⟨2, by omega, anQ_lat M S hs⟩, fun a b _ _ => ⟨0, Nat.le_refl 0, eo a b⟩, fun a b _ _ _ => eo a b, fun m _ => ⟨0, Nat.le_refl 0, em m 1⟩, fun m k _ hk => ?_, fun m k _ hk => ?_, fun m j _ _ _ => em m j, fun _ => false, ?_⟩, eM, eS⟩
  · rw [eS] at hs
    rw [eM]
    exact ⟨s % M, Nat.mod_lt _ (by omega), anQ_own M S hs⟩
  · rw [eB] at hk; exact absurd hk (Nat.not_lt_zero _)
  · rw [eA] at hk; exact absurd hk (Nat.not_lt_zero _)
  · rw [anQ_0 M S (by omega) (by omega)]
    have h9 : ∀ n, mk (fun _ => false) n = 0 := by
      intro n
      induction n with
      | zero => rfl
      | succ n ih =>
        show mk (fun _ => false) n ||| (if false = true then _ else 0) = 0
        rw [ih, if_neg (by decide)]
        rfl
    exact (h9 _).symm
theorem c_makeNew (σ : Mem) (b : Nat) (c : Mem) {M S : Nat} (hM : 2 ≤ M) (hM2 : M ≤ 6) (hS : 2 ≤ S) (hS2 : S ≤ 16) : ∃ c', f2_makeNew b (nI M) (nI S) (wc σ b c) = some (wc σ b c') ∧ Bus (anQ M S) c' 0 := by
  have hN : 20 < FU := by decide
  obtain ⟨hW, eM, eS⟩ := anQ_wb hM hM2 hS hS2
  unfold f2_makeNew fJ_max fJ_min
  generalize FU = N at hN ⊢
  simp (disch := first | omega | decide) only [lit, nmS]
  rw [if_neg (nI_nlt hM (by omega)), bdS, if_neg (nI_nlt hM2 (by omega)), bdS, if_neg (nI_nlt hS (by omega))]
  simp (disch := first | omega | decide) only [bdS, wc_sb]
  rw [if_neg (nI_nlt hS2 (by omega))]
  simp (disch := first | omega | decide) only [bdS, wc_sb]
  obtain ⟨c1, hc1⟩ : ∃ c1, c1 = ms (ms (ms (ms (ms (ms c 30 0 0 (nI M)) 31 0 0 (nI S)) 32 0 0 (nI 0)) 33 0 0 (nI 0)) 34 0 0 (nI 4)) 35 0 0 (-nI 9) := ⟨_, rfl⟩
  rw [← hc1]
  have f30 : c1 30 0 0 = nI M := by rw [hc1, ms_ne _ _ (by omega), ms_ne _ _ (by omega), ms_ne _ _ (by omega), ms_ne _ _ (by omega), ms_ne _ _ (by omega), ms_eq]
  have f31 : c1 31 0 0 = nI S := by rw [hc1, ms_ne _ _ (by omega), ms_ne _ _ (by omega), ms_ne _ _ (by omega), ms_ne _ _ (by omega), ms_eq]
  have f32 : c1 32 0 0 = nI 0 := by rw [hc1, ms_ne _ _ (by omega), ms_ne _ _ (by omega), ms_ne _ _ (by omega), ms_eq]
  have f33 : c1 33 0 0 = nI 0 := by rw [hc1, ms_ne _ _ (by omega), ms_ne _ _ (by omega), ms_eq]
  have f34 : c1 34 0 0 = nI 4 := by rw [hc1, ms_ne _ _ (by omega), ms_eq]
  have f35 : c1 35 0 0 = -nI 9 := by rw [hc1, ms_eq]
  obtain ⟨c2, ⟨a1, a2⟩, a3⟩ := lupR (fun n i (c : Mem) (K : Mem → Option Mem) => f2_makeNew_l51 b K n (nI i) (wc σ b c)) (fun t c2 => (∀ k o i, k ≠ 4 → c2 k o i = c1 k o i) ∧ ∀ i, i < t → c2 4 0 i = nI (i % M)) S (fun c K => K (wc σ b c)) (by
    intro n i c2 hi h1
    have e30 : c2 30 0 0 = nI M := (h1.1 30 0 0 (by omega)).trans f30
    have e31 : c2 31 0 0 = nI S := (h1.1 31 0 0 (by omega)).trans f31
    refine ⟨ms c2 4 0 i (nI (i % M)), ⟨fun k o j hk => (ms_ne _ _ (by omega)).trans (h1.1 k o j hk), fun j hj => ?_⟩, ?_⟩
    · by_cases z : j = i
      · rw [z, ms_eq]
      · rw [ms_ne _ _ (by omega)]; exact h1.2 j (by omega)
    · funext K
      rw [f2_makeNew_l51]
      simp (disch := first | omega | decide) only [lit, nmS, wc_b, wc_sb, e30, e31, clI, gd_ib, gd_nz, nI_add, pk_rem]
      rw [if_neg (nI_ge hi (by omega))]) (by
    intro n c2 h1
    funext K
    rw [f2_makeNew_l51]
    simp (disch := first | omega | decide) only [wc_b, show c2 31 0 0 = nI S from (h1.1 31 0 0 (by omega)).trans f31]
    rw [if_pos (nI_le (Nat.le_refl _) (by omega))]) S 0 N c1 (by omega) (by omega) ⟨fun _ _ _ _ => rfl, fun i hi => absurd hi (Nat.not_lt_zero i)⟩
  have a3' : ∀ K, f2_makeNew_l51 b K N (nI 0) (wc σ b c1) = K (wc σ b c2) := fun K => congrFun a3 K
  obtain ⟨c3, ⟨b1, b2⟩, b3⟩ := lupR (fun n i (c : Mem) (K : Mem → Option Mem) => f2_makeNew_l79 b K n (nI i) (wc σ b c)) (fun t c3 => (∀ k o i, k ≠ 5 → c3 k o i = c2 k o i) ∧ ∀ i, i < t → c3 5 0 i = nI 2) 4 (fun c K => K (wc σ b c)) (by
    intro n i c2 hi h1
    refine ⟨ms c2 5 0 i (nI 2), ⟨fun k o j hk => (ms_ne _ _ (by omega)).trans (h1.1 k o j hk), fun j hj => ?_⟩, ?_⟩
    · by_cases z : j = i
      · rw [z, ms_eq]
      · rw [ms_ne _ _ (by omega)]; exact h1.2 j (by omega)
    · funext K
      rw [f2_makeNew_l79]
      simp (disch := first | omega | decide) only [lit, nmS, wc_sb, clI, gd_ib, nI_add]
      rw [if_neg (nI_ge hi (by omega))]) (by
    intro n c2 h1
    funext K
    rw [f2_makeNew_l79]
    simp only [lit]
    rw [if_pos (nI_le (Nat.le_refl _) (by omega))]) 4 0 N c2 (by omega) (by omega) ⟨fun _ _ _ _ => rfl, fun i hi => absurd hi (Nat.not_lt_zero i)⟩
  have b3' : ∀ K, f2_makeNew_l79 b K N (nI 0) (wc σ b c2) = K (wc σ b c3) := fun K => congrFun b3 K
  obtain ⟨c4, ⟨d1, d2⟩, d3⟩ := lupR (fun n i (c : Mem) (K : Mem → Option Mem) => f2_makeNew_l99 b K n (nI i) (wc σ b c)) (fun t c4 => (∀ k o i, (k < 8 ∨ (30 ≤ k ∧ k < 36)) → c4 k o i = c3 k o i) ∧ ∀ m, m < t → MM 0 0 m d0 c4) 6 (fun c K => K (wc σ b c)) (by
    intro n i c2 hi h1
    obtain ⟨c5, k1, k2, k3, k4⟩ := c_new1 σ b c2 hi
    refine ⟨c5, ⟨fun k o j hk => (k4 k o j (by omega)).trans (h1.1 k o j hk), fun m hm => ?_⟩, ?_⟩
    · by_cases z : m = i
      · rw [z]; exact k3
      · exact (h1.2 m (by omega)).kp k2
    · funext K
      rw [f2_makeNew_l99]
      simp (disch := first | omega | decide) only [lit, nmS, clI, gd_ib, nI_add, k1, bvS]
      rw [if_neg (nI_ge hi (by omega))]) (by
    intro n c2 h1
    funext K
    rw [f2_makeNew_l99]
    simp only [lit]
    rw [if_pos (nI_le (Nat.le_refl _) (by omega))]) 6 0 N c3 (by omega) (by omega) ⟨fun _ _ _ _ => rfl, fun i hi => absurd hi (Nat.not_lt_zero i)⟩
  have d3' : ∀ K, f2_makeNew_l99 b K N (nI 0) (wc σ b c3) = K (wc σ b c4) := fun K => congrFun d3 K
  rw [a3', b3', d3']
  have tb : ∀ k, 30 ≤ k → k < 36 → c4 k 0 0 = c1 k 0 0 := fun k j1 j2 => (d1 k 0 0 (by omega)).trans ((b1 k 0 0 (by omega)).trans (a1 k 0 0 (by omega)))
  refine ⟨c4, rfl, ⟨fun m => c4 41 m 0, ?_⟩, hW, anQ_0 M S (by omega) (by omega)⟩
  have em : ∀ m j, mQ (anQ M S) m j = 0 := fun m j => anQ_0 M S (by omega) (by omega)
  have eo : ∀ a b, owQ (anQ M S) a b = 0 := fun a b => anQ_0 M S (by omega) (by omega)
  rw [eS]
  refine ⟨fun k o i hk => ?_, ?_, ?_, fun m => rfl, fun m hm => ?_⟩
  · rcases hk.cases with ⟨rfl, rfl, j3, j4⟩ | ⟨rfl, rfl, j2, j3, j4⟩ | ⟨rfl, j2, j3, j4⟩ | ⟨j1, j2, j3, -⟩ | ⟨rfl, j2, j3, -⟩ | ⟨j1, rfl, rfl, j4⟩ | ⟨j1, j2, j3, rfl, j5⟩ | ⟨rfl, j2, rfl, j4⟩ | ⟨rfl, j2, rfl, j4⟩
    · rw [j4, anQ_lat M S j3, d1 5 0 i (by omega)]; exact b2 i j3
    · rw [j4, anQ_own M S j2, d1 4 0 i (by omega), b1 4 0 i (by omega)]; exact a2 i j2
    · rw [j4]; exact ((d2 o j2).1 i j3).trans (eo o i).symm
    · rw [show nB (anQ M S) o = 0 by unfold nB; rw [em]; rfl] at j3; exact absurd j3 (Nat.not_lt_zero _)
    · rw [show nA (anQ M S) o = 0 by unfold nA; rw [em]; rfl] at j3; exact absurd j3 (Nat.not_lt_zero _)
    · rcases j1 with rfl | rfl | rfl | rfl
      · exact (tb 30 (by omega) (by omega)).trans f30
      · exact (tb 31 (by omega) (by omega)).trans f31
      · exact (tb 32 (by omega) (by omega)).trans f32
      · exact (tb 34 (by omega) (by omega)).trans f34
    · rw [j5]; exact ((d2 o j3).2.2.2.2 k j1 j2).trans (em o (k - 41)).symm
    · rw [j4]; exact ((d2 o j2).2.1.1).trans (em o 0).symm
    · rw [j4]; exact ((d2 o j2).2.2.1.1).trans (em o 7).symm
  · exact (tb 33 (by omega) (by omega)).trans f33
  · exact (tb 35 (by omega) (by omega)).trans f35
  · rw [(d2 m hm).2.2.2.1]
    have hb : bkQ (anQ M S) m = false := by
      unfold bkQ
      rw [anQ_0 M S (by omega) (by omega)]
      exact decide_eq_false fun z => by
        have h9 : ∀ m : Fin 6, ¬ (((0 : Int32) >>> (nI m.val &&& 31)) &&& 1 = 1) := by decide
        exact h9 ⟨m, hm⟩ z
    rw [hb]
    rfl
end ANEW
