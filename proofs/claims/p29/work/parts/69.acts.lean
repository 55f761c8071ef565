/-! BURSTS THAT COME IN, MASTERS THAT JOIN -/
section ACTS
variable {q r : QS} {c d : Mem} {T : Nat}
theorem c_addB (σ : Mem) (b : Nat) (h : Bus q c T) {m s w : Nat} {v : Int32} (hm : m < nM q) (hB : nB q m < 6) (hs : s < 4) (hw : 1 ≤ w) (hw2 : w ≤ 8) (hv : v = 0 ∨ v = 1) :
    ∃ c', f1_add (6 * b + m) (nI s) (nI w) v (wc σ b c) = some (wc σ b c') ∧ Bus (qs (qs (qs (qs q (63 + 38 * m + (8 + 3 * nB q m)) (nI s)) (63 + 38 * m + (9 + 3 * nB q m)) (nI w)) (63 + 38 * m + (10 + 3 * nB q m)) v) (63 + 38 * m + 0) (nI (nB q m + 1))) c' T ∧ c' 50 m 0 = nI (nB q m + 1) := by
  obtain ⟨⟨f, hE⟩, hwb, hT⟩ := h
  have hz := hwb.sz
  have hM := hz.M
  have hm6 : m < 6 := by omega
  have hW := hwb.sends hm hB hs hw hw2 hv
  obtain ⟨g1, g2⟩ := hz.B hm6
  have e50 : c 50 m 0 = nI (nB q m) := (hE.tnb hm6).trans g1
  refine ⟨ms (ms (ms (ms c 10 m (nB q m) (nI s)) 11 m (nB q m) (nI w)) 12 m (nB q m) v) 50 m 0 (nI (nB q m + 1)), ?_, ?_, ms_eq _ _ _ _ _⟩
  · unfold f1_add
    have f1 : ms c 10 m (nB q m) (nI s) 50 m 0 = nI (nB q m) := (ms_ne _ _ (by omega)).trans e50
    have f2 : ms (ms c 10 m (nB q m) (nI s)) 11 m (nB q m) (nI w) 50 m 0 = nI (nB q m) := (ms_ne _ _ (by omega)).trans f1
    have f3 : ms (ms (ms c 10 m (nB q m) (nI s)) 11 m (nB q m) (nI w)) 12 m (nB q m) v 50 m 0 = nI (nB q m) := (ms_ne _ _ (by omega)).trans f2
    simp (disch := first | omega | decide) only [lit, nmS, wc_m, wc_sm, e50, f1, f2, clI, gd_ib, nI_add, zb_01 hv, f3]
    rw [if_neg (show ¬ nI (nB q m) < nI 0 from nI_pos (by omega)), if_pos (nI_lt hB (by omega))]
  · have hk10 : ∀ k, (k = 10 ∨ k = 11 ∨ k = 12) → Ok (nS q) (fun j => if j = m then nB q m + 1 else nB q j) (nA q) k m (nB q m) := fun k hk => Or.inr (Or.inr (Or.inr (Or.inl ⟨hk, hm6, by show nB q m < if m = m then nB q m + 1 else nB q m; rw [if_pos rfl]; omega, hB⟩)))
    -- the new cells count from now on
    have hE3 : E (nS q) (fun j => if j = m then nB q m + 1 else nB q j) (nA q) (qs (qs (qs q (63 + 38 * m + (8 + 3 * nB q m)) (nI s)) (63 + 38 * m + (9 + 3 * nB q m)) (nI w)) (63 + 38 * m + (10 + 3 * nB q m)) v) (q 3) (q 5) f (ms (ms (ms c 10 m (nB q m) (nI s)) 11 m (nB q m) (nI w)) 12 m (nB q m) v) := by
      have j10 : cj 10 m (nB q m) = 63 + 38 * m + (8 + 3 * nB q m) := (cj_b _ _ _ (by omega)).trans (by omega)
      have j11 : cj 11 m (nB q m) = 63 + 38 * m + (9 + 3 * nB q m) := (cj_b _ _ _ (by omega)).trans (by omega)
      have j12 : cj 12 m (nB q m) = 63 + 38 * m + (10 + 3 * nB q m) := (cj_b _ _ _ (by omega)).trans (by omega)
      refine ⟨fun k o i hk => ?_, ?_, ?_, fun m2 => ?_, fun m2 hm2 => ?_⟩
      · by_cases e : (k = 10 ∨ k = 11 ∨ k = 12) ∧ o = m ∧ i = nB q m
        · obtain ⟨hk0, rfl, rfl⟩ := e
          rcases hk0 with rfl | rfl | rfl
          · rw [ms_ne _ _ (by omega), ms_ne _ _ (by omega), ms_eq, j10, qs_ne _ _ (by omega), qs_ne _ _ (by omega), qs_same]
          · rw [ms_ne _ _ (by omega), ms_eq, j11, qs_ne _ _ (by omega), qs_same]
          · rw [ms_eq, j12, qs_same]
        · rw [ms_ne _ _ (by omega), ms_ne _ _ (by omega), ms_ne _ _ (by omega)]
          have n1 : cj k o i ≠ 63 + 38 * m + (8 + 3 * nB q m) := fun z => by
            have := hk.inj (hk10 10 (by omega)) (z.trans j10.symm); exact e ⟨Or.inl this.1, this.2.1, this.2.2⟩
          have n2 : cj k o i ≠ 63 + 38 * m + (9 + 3 * nB q m) := fun z => by
            have := hk.inj (hk10 11 (by omega)) (z.trans j11.symm); exact e ⟨Or.inr (Or.inl this.1), this.2.1, this.2.2⟩
          have n3 : cj k o i ≠ 63 + 38 * m + (10 + 3 * nB q m) := fun z => by
            have := hk.inj (hk10 12 (by omega)) (z.trans j12.symm); exact e ⟨Or.inr (Or.inr this.1), this.2.1, this.2.2⟩
          rw [qs_ne _ _ n3, qs_ne _ _ n2, qs_ne _ _ n1]
          refine hE.1 k o i (hk.imp (fun h1 h2 h3 => ?_) (fun _ _ z => z))
          by_cases z : o = m
          · rw [if_pos z] at h3; rw [z]; omega
          · rw [if_neg z] at h3; exact h3
      · rw [ms_ne _ _ (by omega), ms_ne _ _ (by omega), ms_ne _ _ (by omega)]; exact hE.2.1
      · rw [ms_ne _ _ (by omega), ms_ne _ _ (by omega), ms_ne _ _ (by omega)]; exact hE.2.2.1
      · rw [ms_ne _ _ (by omega), ms_ne _ _ (by omega), ms_ne _ _ (by omega)]; exact hE.2.2.2.1 m2
      · rw [ms_ne _ _ (by omega), ms_ne _ _ (by omega), ms_ne _ _ (by omega), bkQ_of (by rw [qs_ne _ _ (by omega), qs_ne _ _ (by omega), qs_ne _ _ (by omega)])]; exact hE.2.2.2.2 m2 hm2
    have hE4 := hE3.set (Ok.n50 hm6) (nI (nB q m + 1))
    have low : ∀ i, i < 63 → qs (qs (qs (qs q (63 + 38 * m + (8 + 3 * nB q m)) (nI s)) (63 + 38 * m + (9 + 3 * nB q m)) (nI w)) (63 + 38 * m + (10 + 3 * nB q m)) v) (63 + 38 * m + 0) (nI (nB q m + 1)) i = q i := fun i hi => by
      rw [qs_ne _ _ (by omega), qs_ne _ _ (by omega), qs_ne _ _ (by omega), qs_ne _ _ (by omega)]
    refine ⟨⟨f, ?_⟩, hW, (low 2 (by omega)).trans hT⟩
    rw [nS_of (low 1 (by omega)), low 3 (by omega), low 5 (by omega)]
    refine E.less hE4 (fun j hj => ?_) (fun j hj => ?_)
    · by_cases z : j = m
      · rw [if_pos z, z]
        refine Nat.le_of_eq ?_
        unfold nB mQ
        rw [qs_same, clI (by have := hB; unfold nB mQ at this; omega)]
      · rw [if_neg z]
        refine Nat.le_of_eq (nB_of ?_)
        show qs _ _ _ (63 + 38 * j + 0) = _
        rw [qs_ne _ _ (by omega), qs_ne _ _ (by omega), qs_ne _ _ (by omega), qs_ne _ _ (by omega)]
        rfl
    · refine Nat.le_of_eq (nA_of ?_)
      show qs _ _ _ (63 + 38 * j + 7) = _
      rw [qs_ne _ _ (by omega), qs_ne _ _ (by omega), qs_ne _ _ (by omega), qs_ne _ _ (by omega)]
      rfl
theorem c_takes (σ : Mem) (b : Nat) {S : Nat} {nb na : Nat → Nat} {x y : Int32} {f : Nat → Int32} (h : E S nb na q x y f c) (hz : Sz q) {m : Nat} (hm : m < 6) : f5_takesBursts (6 * b + m) (wc σ b c) = some (bI (!bkQ q m && decide (nB q m < 6)), wc σ b c) := by
  obtain ⟨g1, g2⟩ := hz.B hm
  unfold f5_takesBursts f1_isFull
  simp (disch := first | omega | decide) only [lit, nmS, wc_m, h.bk, h.tnb, g1]
  cases bkQ q m with
  | true =>
    rw [if_neg (show ¬ bI true = nI 0 by decide)]
    rfl
  | false =>
    rw [if_pos (show bI false = nI 0 by decide)]
    by_cases e : nB q m < 6
    · rw [if_pos (nI_lt e (by omega)), bdS, if_pos rfl, decide_eq_true e]
      rfl
    · rw [if_neg (fun z => e ((nI_ltI (by omega) (by omega)).mp z)), bdS, if_neg (by decide), decide_eq_false e]
      rfl
end ACTS
