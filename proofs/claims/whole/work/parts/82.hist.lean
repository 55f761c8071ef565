/-! undo, save, restore -/
section HIST
variable {q : QS} {c : Mem} {T B : Nat} {σ σ' : Mem}
def Stk (k : Nat) : Prop := (18 ≤ k ∧ k ≤ 23) ∨ 52 ≤ k
/-- alike but for bus b and what is kept of texts, rings, saves, the reference -/
def Dif (b : Nat) (σ σ' : Mem) : Prop := ∀ k o i, ¬ Stk k → ¬ (isB k = true ∧ o = b) → ¬ (isM k = true ∧ o / 6 = b) → σ' k o i = σ k o i
theorem Dif.trans {b : Nat} {τ : Mem} (h : Dif b σ σ') (g : Dif b σ' τ) : Dif b σ τ := fun k o i h1 h2 h3 => (g k o i h1 h2 h3).trans (h k o i h1 h2 h3)
theorem dif_wc (σ : Mem) (b : Nat) (c : Mem) : Dif b σ (wc σ b c) := fun k o i _ h2 h3 => by
  unfold wc
  by_cases e : isB k = true
  · rw [if_pos e, if_neg (fun z => h2 ⟨e, z⟩)]
  · rw [if_neg e]
    by_cases e2 : isM k = true
    · rw [if_pos e2, if_neg (fun z => h3 ⟨e2, z⟩)]
    · rw [if_neg e2]
theorem dif_ms (σ : Mem) (b : Nat) {k : Nat} (o i : Nat) (v : Int32) (h : Stk k) : Dif b σ (ms σ k o i v) := fun k1 o1 i1 h1 _ _ => ms_ne _ _ fun z => h1 (by rw [z.1]; exact h)
theorem dif_wq (σ : Mem) (b : Nat) (q : QS) : Dif b σ (wq σ q) := fun k o i h1 _ _ => wq_other _ _ _ fun z => h1 (by rw [z.1]; exact Or.inl (by omega))
theorem Bus.dif {b b2 : Nat} (h : Bus q (cOf σ b2) T) (k : Dif b σ σ') (hb : b2 ≠ b) : Bus q (cOf σ' b2) T :=
  h.mv0 (fun k1 i hk => by
    have := isB_is hk
    refine k _ _ _ (fun z => ?_) (fun z => hb z.2) (fun z => ?_)
    · unfold Stk at z; omega
    · have := isM_is z.1
      omega) (fun k1 o i hk hk2 ho => by
    have := isM_is hk2
    refine k _ _ _ (fun z => ?_) (fun z => by rw [hk] at z; cases z.1) (fun z => by omega)
    unfold Stk at z; omega)
/-- the same bus -/
theorem Bus.same {b : Nat} (h : Bus q (cOf σ b) T) (e : ∀ k o i, ¬ Stk k → σ' k o i = σ k o i) : Bus q (cOf σ' b) T :=
  h.mv0 (fun k1 i hk => by
    have := isB_is hk
    refine e _ _ _ fun z => ?_
    unfold Stk at z; omega) (fun k1 o i hk hk2 ho => by
    have := isM_is hk2
    refine e _ _ _ fun z => ?_
    unfold Stk at z; omega)
theorem st_ms (σ : Mem) {k : Nat} (o i : Nat) (v : Int32) (h : Stk k) : ∀ k1 o1 i1, ¬ Stk k1 → ms σ k o i v k1 o1 i1 = σ k1 o1 i1 := fun k1 o1 i1 h1 => ms_ne _ _ fun z => h1 (by rw [z.1]; exact h)
theorem st_wq (σ : Mem) (q : QS) : ∀ k1 o1 i1, ¬ Stk k1 → wq σ q k1 o1 i1 = σ k1 o1 i1 := fun k1 o1 i1 h1 => wq_other _ _ _ fun z => h1 (by rw [z.1]; exact Or.inl (by omega))
theorem Text.of (h : Text σ) (h54 : σ' 54 0 0 = σ 54 0 0) (h61 : σ' 61 0 0 = σ 61 0 0) (h2 : ∀ i, σ' 2 0 i = σ 2 0 i) (h24 : ∀ i, σ' 24 0 i = σ 24 0 i) : Text σ' := by
  obtain ⟨L, x1, x2, x3, x4⟩ := h
  refine ⟨L, x1, h54.trans x2, h61.trans x3, fun i hi => ?_⟩
  obtain ⟨x, y1, y2, y3⟩ := x4 i hi
  exact ⟨x, y1, (h2 i).trans y2, (h24 i).trans y3⟩
theorem dif_2 {b : Nat} (h : Dif b σ σ') (i : Nat) : σ' 2 0 i = σ 2 0 i := h 2 0 i (by unfold Stk; decide) (fun z => by cases z.1) (fun z => by cases z.1)
theorem dif_24 {b : Nat} (h : Dif b σ σ') (i : Nat) : σ' 24 0 i = σ 24 0 i := h 24 0 i (by unfold Stk; decide) (fun z => by cases z.1) (fun z => by cases z.1)
/-- a row whose first n numbers are others -/
def cpI (q r : QS) (n : Nat) : QS := fun j => if j < n then r j else q j
theorem cpI_0 (q r : QS) : cpI q r 0 = q := by
  funext j
  exact if_neg (Nat.not_lt_zero j)
theorem cpI_s (q r : QS) (n : Nat) : qs (cpI q r n) n (r n) = cpI q r (n + 1) := by
  funext j
  unfold qs cpI
  by_cases e : j = n
  · subst e; rw [if_pos rfl, if_pos (by omega)]
  · rw [if_neg e]
    by_cases e2 : j < n
    · rw [if_pos e2, if_pos (by omega)]
    · rw [if_neg e2, if_neg (by omega)]
theorem cpI_in (q r : QS) {n j : Nat} (h : j < n) : cpI q r n j = r j := if_pos h
theorem m_undo30 (ρ : Mem) (q : QS) {c : Nat} (hc : c ≤ 13) (h60 : ρ 60 0 0 = nI c) (k : Mem → Option (Int32 × Mem)) : f7_undo_l30 k FU (nI 0) (wq ρ q) = k (wq ρ (cpI q (fun j => ρ 21 0 (291 * c + j)) 291)) := by
  have h9 := lup (fun n (z : Int32 × QS) => f7_undo_l30 k n z.1 (wq ρ z.2)) (fun i => (nI i, cpI q (fun j => ρ 21 0 (291 * c + j)) i)) 291 (k (wq ρ (cpI q (fun j => ρ 21 0 (291 * c + j)) 291))) ?_ ?_ 291 0 FU rfl (by decide)
  · rw [cpI_0] at h9; exact h9
  · intro n i hi
    show f7_undo_l30 k (n + 1) (nI i) (wq ρ (cpI q _ i)) = f7_undo_l30 k n (nI (i + 1)) (wq ρ (cpI q _ (i + 1)))
    have e60 : ∀ q, wq ρ q 60 0 0 = nI c := fun q => (wq_other _ _ _ (by omega)).trans h60
    rw [f7_undo_l30]
    simp (disch := first | omega | decide) only [lit, nmS, e60, pk_mul, nI_add, gd_ib, clI, wq_set]
    rw [if_neg (nI_ge hi (by decide)), wq_other _ _ _ (by omega), ← cpI_s]
  · intro n
    show f7_undo_l30 k (n + 1) (nI 291) _ = _
    rw [f7_undo_l30]
    simp only [lit]
    rw [if_pos (nI_le (Nat.le_refl _) (by decide))]
set_option maxHeartbeats 1000000 in
theorem g_undo : Good (cf1 1) f6_undo f7_undo := by
  intro σ B h hB
  have h' := h
  obtain ⟨⟨T, hT, hp⟩, ⟨n, c, hn, hc, h53, h52, h60, hR⟩, hS, hX⟩ := h'
  have e60 : ms σ 62 0 0 (nI 0) 60 0 0 = nI c := (ms_ne _ _ (by omega)).trans h60
  by_cases e : c = 0
  · subst e
    refine refuse h (e := 1) ?_ (by decide) ?_
    · unfold f6_undo
      simp only [lit]
      rw [h52, if_neg (show ¬ nI 1 ≤ nI 0 by decide)]
    · unfold f7_undo
      simp only [lit, nmS]
      rw [e60, if_pos rfl, ← e62, m_fails, bdS]
      rfl
  · obtain ⟨c1, rfl⟩ : ∃ c1, c = c1 + 1 := ⟨c - 1, by omega⟩
    obtain ⟨T2, g1, g2⟩ := hR c1 (by omega)
    rw [show 1 + (n + 14 - (c1 + 1) + c1) % 14 = (n + 13) % 14 + 1 by omega] at g2
    generalize hb : (n + 13) % 14 = b at g2
    have hb14 : b < 14 := by omega
    obtain ⟨d, hd1, hd2⟩ := c_copy σ (o := 0) (a := b + 1) (by omega) g2 (cOf σ 0)
    rw [wc_self] at hd1
    have e52d : wc σ 0 d 52 0 0 = nI (c1 + 1) := (wc_out _ _ _ (by decide) (by decide) _ _).trans h52
    have hcls : f6_undo σ = some (.inr (nI c1), ms (ms (wc σ 0 d) 53 0 0 (nI b)) 52 0 0 (nI c1)) := by
      have hj : ∀ y : Int32, y = nI b → (if (σ 52 0 0) < nI 1 then some σ else if y < nI 14 then gd (ib y 14) (bv (f2_copyFrom 0 (y.toNatClampNeg + 1) σ) fun s2 => some (ms (ms s2 53 0 0 y) 52 0 0 (ms s2 53 0 0 y 52 0 0 - nI 1))) else some σ) = some (ms (ms (wc σ 0 d) 53 0 0 (nI b)) 52 0 0 (nI c1)) := by
        intro y hy
        subst hy
        rw [h52, if_neg (show ¬ nI (c1 + 1) < nI 1 from fun z => by
          have := (nI_ltI (by omega) (by omega)).mp z
          omega), if_pos (nI_lt hb14 (by decide)), gd_ib hb14 (by decide), clI (by omega), hd1, bvS, ms_ne _ _ (by omega), e52d, show nI (c1 + 1) - nI 1 = nI c1 from nI_pred c1]
      unfold f6_undo f4_takeBack
      simp only [lit, nmS]
      rw [h52, h53, if_pos (nI_le (by omega) (by omega))]
      rw [h52] at hj
      by_cases e0 : n = 0
      · subst e0
        rw [if_pos (show nI 0 ≤ nI 0 by decide), hj (nI 13) (by rw [← hb]), bvS, ms_eq]
      · rw [if_neg (show ¬ nI n ≤ nI 0 from nI_ge (by omega) (by omega)), hj (nI n - nI 1) (by rw [pk_sub (by omega), ← hb, show (n + 13) % 14 = n - 1 by omega]), bvS, ms_eq]
    -- the reference
    have e60' : ms (ms (ms (wc σ 0 d) 53 0 0 (nI b)) 52 0 0 (nI c1)) 62 0 0 (nI 0) 60 0 0 = nI (c1 + 1) := by
      rw [ms_ne _ _ (by omega), ms_ne _ _ (by omega), ms_ne _ _ (by omega), wc_out _ _ _ (by decide) (by decide)]; exact h60
    generalize hρ : ms (ms (ms (ms (wc σ 0 d) 53 0 0 (nI b)) 52 0 0 (nI c1)) 62 0 0 (nI 0)) 60 0 0 (nI c1) = ρ
    have hrow : ρ 20 0 = σ 20 0 := by
      funext i
      rw [← hρ, ms_ne _ _ (by omega), ms_ne _ _ (by omega), ms_ne _ _ (by omega), ms_ne _ _ (by omega), wc_row]
    have hρ60 : ρ 60 0 0 = nI c1 := by rw [← hρ, ms_eq]
    have hρ52 : ρ 52 0 0 = nI c1 := by rw [← hρ, ms_ne _ _ (by omega), ms_ne _ _ (by omega), ms_eq]
    have hρ53 : ρ 53 0 0 = nI b := by rw [← hρ, ms_ne _ _ (by omega), ms_ne _ _ (by omega), ms_ne _ _ (by omega), ms_eq]
    have hρ62 : ρ 62 0 0 = nI 0 := by rw [← hρ, ms_ne _ _ (by omega), ms_eq]
    have hρo : ∀ k o i, k ≠ 52 → k ≠ 53 → k ≠ 60 → k ≠ 62 → ρ k o i = wc σ 0 d k o i := fun k o i h1 h2 h3 h4 => by
      rw [← hρ, ms_ne _ _ (by omega), ms_ne _ _ (by omega), ms_ne _ _ (by omega), ms_ne _ _ (by omega)]
    have hρs : ∀ k o i, ¬ Stk k → ρ k o i = wc σ 0 d k o i := fun k o i hk => hρo k o i (fun z => hk (by rw [z]; unfold Stk; decide)) (fun z => hk (by rw [z]; unfold Stk; decide)) (fun z => hk (by rw [z]; unfold Stk; decide)) (fun z => hk (by rw [z]; unfold Stk; decide))
    have h21 : ∀ i, ρ 21 0 i = σ 21 0 i := fun i => (hρo 21 0 i (by decide) (by decide) (by decide) (by decide)).trans (wc_out _ _ _ (by decide) (by decide) _ _)
    have hdif : Dif 0 σ ρ := fun k o i h1 h2 h3 => (hρs k o i h1).trans (dif_wc σ 0 d k o i h1 h2 h3)
    have hdif2 : ∀ q, Dif 0 σ (wq ρ q) := fun q => hdif.trans (dif_wq ρ 0 q)
    have href : f7_undo (ms (ms (wc σ 0 d) 53 0 0 (nI b)) 52 0 0 (nI c1)) = some (nI c1, wq ρ (cpI (σ 20 0) (fun j => ρ 21 0 (291 * c1 + j)) 291)) := by
      unfold f7_undo
      simp only [lit, nmS]
      rw [e60', if_neg (show ¬ nI (c1 + 1) = nI 0 from fun z => by
        have := (nI_eq (by omega) (by omega)).mp z
        omega), show nI (c1 + 1) - nI 1 = nI c1 from nI_pred c1, hρ, ← wq_of hrow, m_undo30 ρ _ (by omega) hρ60, wq_of hrow, wq_other _ _ _ (by omega), hρ60]
    refine ⟨_, _, _, _, hcls, href, ⟨⟨T2, by omega, ?_⟩, ⟨b, c1, hb14, by omega, ?_, ?_, ?_, fun i hi => ?_⟩, fun a ha => ?_, ?_⟩, ?_, rfl⟩
    · rw [wq_row]
      have h1 : Bus (fun j => σ 21 0 (291 * c1 + j)) (cOf (wc σ 0 d) 0) T2 := hd2.put σ
      have h2 : Bus (fun j => σ 21 0 (291 * c1 + j)) (cOf (wq ρ (cpI (σ 20 0) (fun j => ρ 21 0 (291 * c1 + j)) 291)) 0) T2 := h1.same fun k o i hk => (st_wq ρ _ k o i hk).trans (hρs k o i hk)
      exact h2.rows fun j hj => by rw [cpI_in _ _ hj, h21]
    · rw [wq_other _ _ _ (by omega)]; exact hρ53
    · rw [wq_other _ _ _ (by omega)]; exact hρ52
    · rw [wq_other _ _ _ (by omega)]; exact hρ60
    · obtain ⟨T3, k1, k2⟩ := hR i (by omega)
      refine ⟨T3, by omega, ?_⟩
      rw [show 1 + (b + 14 - c1 + i) % 14 = 1 + (n + 14 - (c1 + 1) + i) % 14 by omega]
      exact (k2.dif (hdif2 _) (by omega)).rows fun j _ => (wq_other _ _ _ (by omega)).trans (h21 _)
    · obtain ⟨t, x1, x2, x3⟩ := hS a ha
      have y : ∀ k o i, k ≠ 52 → k ≠ 53 → k ≠ 60 → k ≠ 62 → k ≠ 20 → isB k = false → isM k = false → wq ρ (cpI (σ 20 0) (fun j => ρ 21 0 (291 * c1 + j)) 291) k o i = σ k o i := fun k o i h1 h2 h3 h4 h5 h6 h7 => (wq_other _ _ _ (by omega)).trans ((hρo k o i h1 h2 h3 h4).trans (wc_out _ _ _ h6 h7 _ _))
      refine ⟨t, (y 18 0 a (by decide) (by decide) (by decide) (by decide) (by decide) (by decide) (by decide)).trans x1, (y 23 0 a (by decide) (by decide) (by decide) (by decide) (by decide) (by decide) (by decide)).trans x2, fun ht => ?_⟩
      obtain ⟨T3, k1, k2⟩ := x3 ht
      exact ⟨T3, by omega, (k2.dif (hdif2 _) (by omega)).rows fun j _ => y 22 0 _ (by decide) (by decide) (by decide) (by decide) (by decide) (by decide) (by decide)⟩
    · refine hX.of ?_ ?_ (dif_2 (hdif2 _)) (dif_24 (hdif2 _))
      · rw [wq_other _ _ _ (by omega), hρo _ _ _ (by decide) (by decide) (by decide) (by decide), wc_out _ _ _ (by decide) (by decide)]
      · rw [wq_other _ _ _ (by omega), hρo _ _ _ (by decide) (by decide) (by decide) (by decide), wc_out _ _ _ (by decide) (by decide)]
    · rw [wq_other _ _ _ (by omega)]; exact hρ62
end HIST
