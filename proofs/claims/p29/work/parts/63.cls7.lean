/-! THE CLASS's STEP, WHOLE -/
section CLS7
variable {S : Nat} {nb na : Nat → Nat} {q : QS} {x y : Int32} {f : Nat → Int32} {c : Mem}
theorem brQ_m (q : QS) {m m2 j : Nat} (hS : nS q ≤ 16) (hm : m2 < 6) (hj : j < 38) (h : ¬ (m2 = m ∧ (j = 0 ∨ j = 7))) : mQ (brQ q m) m2 j = mQ q m2 j := by
  show brQ q m (63 + 38 * m2 + j) = q (63 + 38 * m2 + j)
  unfold brQ
  rw [qs_ne _ _ (by omega), qs_ne _ _ (by omega), qs_ne _ _ (by omega), ow2Q_out _ _ _ _ (by omega), ow1Q_ge _ _ _ _ _ (by omega)]
theorem brQ_0 (q : QS) {m : Nat} (hm : m < 6) : nB (brQ q m) m = 0 ∧ nA (brQ q m) m = 0 := by
  have em0 : mQ (brQ q m) m 0 = nI 0 := by
    show brQ q m (63 + 38 * m + 0) = _
    unfold brQ
    rw [qs_ne _ _ (by omega), qs_ne _ _ (by omega), qs_same]
    rfl
  have em7 : mQ (brQ q m) m 7 = nI 0 := by
    show brQ q m (63 + 38 * m + 7) = _
    unfold brQ
    rw [qs_ne _ _ (by omega), qs_same]
    rfl
  unfold nB nA
  rw [em0, em7]
  exact ⟨rfl, rfl⟩
theorem c_l118 (σ : Mem) (b : Nat) {r : QS} {Bd Ba Bw M : Nat} (h : E S (nB r) (nA r) r x y f c) (hw : ∀ i, i ≤ M → Wb Bd Ba Bw (bkN r i) ∧ bkN r i 0 = nI M) (hB : Bd < 2 ^ 31) (hM2 : M ≤ 6) (hS : nS r ≤ S) {N : Nat} (hN : 20 < N) :
    ∃ c', E S (nB (bkN r M)) (nA (bkN r M)) (bkN r M) x y f c' ∧ (fun k3 => f2_step_l118 b k3 N (nI 0) (wc σ b c)) = fun k3 => k3 (wc σ b c') := by
  refine lupR (fun n i (c : Mem) (k3 : Mem → Option Mem) => f2_step_l118 b k3 n (nI i) (wc σ b c)) (fun i c => E S (nB (bkN r i)) (nA (bkN r i)) (bkN r i) x y f c) M (fun c k3 => k3 (wc σ b c)) ?_ ?_ M 0 N c (by omega) (by omega) h
  · intro n i c1 hi h1
    obtain ⟨h2, h0⟩ := hw i (by omega)
    have hS2 : nS (bkN r i) ≤ S := by rw [nS_of (bkN_out r (i := 1) (by omega) i)]; exact hS
    show ∃ c2, E S (nB (if bkQ (bkN r i) i = false ∧ ¬ dbQ (bkN r i) i ≤ nI 4 * slQ (bkN r i) (nS (bkN r i)) i then brQ (bkN r i) i else bkN r i)) (nA (if bkQ (bkN r i) i = false ∧ ¬ dbQ (bkN r i) i ≤ nI 4 * slQ (bkN r i) (nS (bkN r i)) i then brQ (bkN r i) i else bkN r i)) (if bkQ (bkN r i) i = false ∧ ¬ dbQ (bkN r i) i ≤ nI 4 * slQ (bkN r i) (nS (bkN r i)) i then brQ (bkN r i) i else bkN r i) x y f c2 ∧ (fun k3 => f2_step_l118 b k3 (n + 1) (nI i) (wc σ b c1)) = fun k3 => f2_step_l118 b k3 n (nI (i + 1)) (wc σ b c2)
    generalize bkN r i = q at h1 h2 h0 hS2 ⊢
    have eM : nM q = M := by unfold nM; rw [h0, clI (by omega)]
    have hc := c_cant σ b h1 h2.sz hS2 (m := i) (by omega)
    by_cases e : bkQ q i = false ∧ ¬ dbQ q i ≤ nI 4 * slQ q (nS q) i
    · rw [if_pos e]
      rw [decide_eq_true e] at hc
      obtain ⟨c2, h3, h4⟩ := c_ruin σ b h1 h2 hB hS2 (m := i) (by omega) e.2
      refine ⟨c2, E.less h4 (fun j hj => ?_) (fun j hj => ?_), ?_⟩
      · by_cases z : j = i
        · rw [z, (brQ_0 q (by omega)).1]; exact Nat.zero_le _
        · rw [if_neg z, nB_of (brQ_m q h2.sz.S.2.1 hj (by omega) (by omega))]; exact Nat.le_refl _
      · by_cases z : j = i
        · rw [z, (brQ_0 q (by omega)).2]; exact Nat.zero_le _
        · rw [if_neg z, nA_of (brQ_m q h2.sz.S.2.1 hj (by omega) (by omega))]; exact Nat.le_refl _
      · funext k3
        rw [f2_step_l118]
        simp (disch := first | omega | decide) only [lit, nmS, wc_b, h1.t0, h0, hc, bdS, h3, bvS, nI_add]
        rw [if_neg (nI_ge hi (by omega)), if_neg (show ¬ bI true = nI 0 by decide)]
    · rw [if_neg e]
      rw [decide_eq_false e] at hc
      refine ⟨c1, h1, ?_⟩
      funext k3
      rw [f2_step_l118]
      simp (disch := first | omega | decide) only [lit, nmS, wc_b, h1.t0, h0, hc, bdS, bvS, nI_add]
      rw [if_neg (nI_ge hi (by omega)), if_pos (show bI false = nI 0 by decide)]
  · intro n c1 h1
    funext k3
    rw [f2_step_l118]
    simp (disch := first | omega | decide) only [wc_b, h1.t0, (hw M (Nat.le_refl M)).2]
    rw [if_pos (nI_le (Nat.le_refl _) (by omega))]
/-- one bus of the class stands as the row -/
def EQ (q : QS) (c : Mem) : Prop := ∃ f, E (nS q) (nB q) (nA q) q (q 3) (q 5) f c
theorem c_step (σ : Mem) (b : Nat) {T : Nat} (h : EQ q c) (hk : Wb T T T q) (hT : q 2 = nI T) (hT2 : T < 2 ^ 28) : ∃ c', f2_step b (wc σ b c) = some (wc σ b c') ∧ EQ (tkQ q) c' := by
  obtain ⟨f0, h⟩ := h
  have ht := hk.tick hT (by omega)
  have hz := hk.sz
  obtain ⟨g1, g2, g3⟩ := hz.M
  obtain ⟨s1, s2, s3⟩ := hz.S
  obtain ⟨ho, ho2⟩ := ownT_is hk hT (by omega)
  have hout := fun i (hi : i < 6 ∨ (7 ≤ i ∧ i < 11)) => tk4_out hk hT (by omega) hi
  have hN : 20 < FU := by decide
  unfold f2_step
  generalize FU = N at hN ⊢
  obtain ⟨c1, ⟨f1, h1, hf1⟩, e1⟩ := c_l2 σ b h hz (fun m hm => Nat.le_refl _) hN
  simp only [lit, nmS]
  have e1' : ∀ k, f2_step_l2 b k N (nI 0) (wc σ b c) = k (wc σ b c1) := fun k => congrFun e1 k
  rw [e1', c_now σ b h1 hz (Nat.le_refl _) hT (by omega) ho2, bdS]
  obtain ⟨c2, e2, h2⟩ := c_take σ b h1 hz ho (busyQ q) hf1 (fun m hm => by
    obtain ⟨w, hw1, hw2⟩ := hk.wait m hm
    exact ⟨w, by omega, hw2⟩)
  rw [e2, bdS]
  have h2 : E (nS q) (nB q) (nA q) (tk1 q).2 (q 3) (q 5) f1 c2 := h2
  have hw1 := ht.wb1
  have h3 := h2.sy (oN (tk1 q).1)
  have e10 : (tk1 q).2 0 = q 0 := (hout 0 (by omega)).2.2.2
  have e4 := c_has_o σ b h3 hw1.sz (w := (tk1 q).1) (fun k hk => by rw [nM_of e10]; exact (ht.who k hk).1)
  rw [show (turnQ q (ownT q) (busyQ q)).1 = (tk1 q).1 from rfl]
  simp (disch := first | omega | decide) only [wc_b, wc_sb, ms_eq, e4, bdS]
  -- from the work on
  have hfin : ∀ (xv : Int32) (c3 : Mem) (f3 : Nat → Int32), f3 = f1 → xv = tk4 q 3 + (if (tk1 q).1 = none then 1 else 0) → E (nS q) (nB (tk2 q)) (nA (tk2 q)) (tk2 q) xv (oN (tk1 q).1) f3 c3 → ∃ c', f2_step_l80 b (fun s7 => f2_step_l118 b (fun s8 => some (ms s8 32 b 0 (s8 32 b 0 + nI 1))) N (nI 0) s7) N (nI 0) (wc σ b c3) = some (wc σ b c') ∧ EQ (tkQ q) c' := by
    intro xv c3 f3 hf3 hxv h5
    subst hf3
    have e20 : tk2 q 0 = nI (nM q) := (hout 0 (by omega)).2.2.1.trans g1
    obtain ⟨c4, h6, e6⟩ := c_l80 σ b h5 e20 g2 hN (fun k hk => by have := (ht.who k hk).1; omega) (busyQ q) hf1
    have e6' : ∀ k, f2_step_l80 b k N (nI 0) (wc σ b c3) = k (wc σ b c4) := fun k => congrFun e6 k
    rw [e6']
    have h6 : E (nS q) (nB (tk2 q)) (nA (tk2 q)) (tk3 q) xv (oN (tk1 q).1) f3 c4 := h6
    have h7 : E (nS q) (nB (tk3 q)) (nA (tk3 q)) (tk3 q) xv (oN (tk1 q).1) f3 c4 := h6.less (fun m hm => by
      rw [show nB (tk3 q) m = nB (tk2 q) m from nB_of (wtN_at _ _ _ _ fun j hj => by omega)]; exact Nat.le_refl _) (fun m hm => by
      rw [show nA (tk3 q) m = nA (tk2 q) m from nA_of (wtN_at _ _ _ _ fun j hj => by omega)]; exact Nat.le_refl _)
    obtain ⟨c5, h8, e8⟩ := c_l118 σ b h7 ht.wb4 (by omega) g2 (by rw [nS_of (hout 1 (by omega)).2.1]; exact Nat.le_refl _) hN
    have e8' : ∀ k, f2_step_l118 b k N (nI 0) (wc σ b c4) = k (wc σ b c5) := fun k => congrFun e8 k
    rw [e8']
    have h8 : E (nS q) (nB (tk4 q)) (nA (tk4 q)) (tk4 q) xv (oN (tk1 q).1) f3 c5 := h8
    have h9 := h8.set (k := 32) (o := 0) (i := 0) (Or.inr (Or.inr (Or.inr (Or.inr (Or.inr (Or.inl ⟨by omega, rfl, rfl⟩)))))) (tk4 q 2 + nI 1)
    have h9 : E (nS q) (nB (tk4 q)) (nA (tk4 q)) (qs (tk4 q) 2 (tk4 q 2 + nI 1)) xv (oN (tk1 q).1) f3 (ms c5 32 0 0 (tk4 q 2 + nI 1)) := h9
    have e32 : c5 32 0 0 = tk4 q 2 := h8.t2
    simp (disch := first | omega | decide) only [wc_b, wc_sb, e32]
    refine ⟨_, rfl, f3, ?_⟩
    have etk : tkQ q = qs (qs (qs (tk4 q) 3 (tk4 q 3 + if (tk1 q).1 = none then 1 else 0)) 5 (oN (tk1 q).1)) 2 (tk4 q 2 + 1) := rfl
    have e3 : tkQ q 3 = xv := by rw [etk, qs_ne _ _ (by decide), qs_ne _ _ (by decide), qs_same, hxv]
    have e5 : tkQ q 5 = oN (tk1 q).1 := by rw [etk, qs_ne _ _ (by decide), qs_same]
    have eS : nS (tkQ q) = nS q := nS_of (ht.out 1 (by omega))
    rw [e3, e5, eS]
    have eo : ∀ i, i ≠ 2 → i ≠ 3 → i ≠ 5 → tkQ q i = tk4 q i := fun i i1 i2 i3 => by rw [etk, qs_ne _ _ i1, qs_ne _ _ i3, qs_ne _ _ i2]
    refine (h9.row (r := tkQ q) (fun k o i hk => ?_) ?_).less (fun m hm => ?_) (fun m hm => ?_)
    · have := hk.ne
      by_cases z : cj k o i = 2
      · rw [z, qs_same, ht.tick, (hout 2 (by omega)).1, hT, nI_add]
      · rw [qs_ne _ _ z, eo _ z this.2.2.2.2.1 this.2.2.2.2.2.1]
    · rw [qs_ne _ _ (by decide), eo _ (by decide) (by decide) (by decide)]
    · rw [show nB (tkQ q) m = nB (tk4 q) m from nB_of (eo _ (by omega) (by omega) (by omega))]; exact Nat.le_refl _
    · rw [show nA (tkQ q) m = nA (tk4 q) m from nA_of (eo _ (by omega) (by omega) (by omega))]; exact Nat.le_refl _
  have hz1 := hw1.sz
  have tm : ∀ m j, m < 6 → (j < 3 ∨ 6 ≤ j) → j < 38 → mQ (tk1 q).2 m j = mQ q m j := fun m j h1 h2 h3 => turn_m hz (by omega) _ h1 h2 h3
  have hl1 : ∀ m, m < 6 → nB (tk1 q).2 m = nB q m := fun m hm => nB_of (tm m 0 hm (by omega) (by omega))
  have hl2 : ∀ m, m < 6 → nA (tk1 q).2 m = nA q m := fun m hm => nA_of (tm m 7 hm (by omega) (by omega))
  have e43 : tk4 q 3 = q 3 := (hout 3 (by omega)).1
  cases hq : (tk1 q).1 with
  | none =>
    rw [if_pos (show bI (none : Option Nat).isSome = nI 0 by decide)]
    have h4 := h3.sx (q 3 + nI 1)
    rw [hq] at h4
    have e33 : ms c2 35 0 0 (oN none) 33 0 0 = q 3 := by
      have := h3.tx
      rw [hq] at this
      exact this
    rw [e33]
    have h9 := hfin (q 3 + nI 1) (ms (ms c2 35 0 0 (oN none)) 33 0 0 (q 3 + nI 1)) f1 rfl (by rw [e43, if_pos hq]; rfl) (by
      rw [hq]
      have et : tk2 q = (tk1 q).2 := by unfold tk2; rw [hq]
      rw [et]
      exact h4.less (fun m hm => by rw [hl1 m hm]; exact Nat.le_refl _) (fun m hm => by rw [hl2 m hm]; exact Nat.le_refl _))
    exact h9
  | some k =>
    have hk6 : k < 6 := by have := (ht.who k hq).1; omega
    rw [if_neg (show ¬ bI (some k).isSome = nI 0 from (by decide : ¬ bI true = nI 0))]
    simp (disch := first | omega | decide) only [oN, clI, gd_ib]
    rw [hq] at h3
    have h3 : E (nS q) (nB q) (nA q) (tk1 q).2 (q 3) (nI k) f1 (ms c2 35 0 0 (nI k)) := h3
    have e12 : (tk1 q).2 2 = nI T := (hout 2 (by omega)).2.2.2.trans hT
    obtain ⟨c3, e5, h5⟩ := c_work σ b h3 hz1 hk6 (hl2 k hk6).symm (hl1 k hk6).symm (fun hr => by
      have h0 := ht.nb k hq hr
      have hA := hz1.A hk6
      refine ⟨?_, h0, (hw1.burst k 0 hk6 h0).1, fun j hj => (hw1.burst k j hk6 hj).2.2⟩
      rcases Nat.eq_zero_or_pos (nA (tk1 q).2 k) with z | z
      · omega
      · obtain ⟨x, v1, v2⟩ := hw1.answer k 0 hk6 z
        have v3 : ¬ mQ (tk1 q).2 k (26 + 0) ≤ (tk1 q).2 2 := of_decide_eq_false (firstN_none hr 0 z)
        rw [v2, e12, nI_leI (by omega) (by omega)] at v3
        omega)
    rw [e5, bvS]
    have et : tk2 q = usQ (tk1 q).2 k := by unfold tk2; rw [hq]
    have h9 := hfin (q 3) c3 f1 rfl (by rw [e43, hq, if_neg (fun z => by cases z)]; exact (Int32.add_zero _).symm) (by
      rw [hq, et]
      refine h5.less (fun m hm => ?_) (fun m hm => ?_)
      · by_cases z : m = k
        · rw [if_pos z, z]; exact Nat.le_refl _
        · rw [if_neg z, ← hl1 m hm, show nB (usQ (tk1 q).2 k) m = nB (tk1 q).2 m from nB_of (usQ_out hz1 hk6 (by omega))]; exact Nat.le_refl _
      · by_cases z : m = k
        · rw [if_pos z, z]; exact Nat.le_refl _
        · rw [if_neg z, ← hl2 m hm, show nA (usQ (tk1 q).2 k) m = nA (tk1 q).2 m from nA_of (usQ_out hz1 hk6 (by omega))]; exact Nat.le_refl _)
    exact h9
end CLS7
