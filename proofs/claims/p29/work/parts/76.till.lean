/-! TICKS UNTIL THEY ARE DONE -/
section TILL
variable {T : Nat} {q : QS} {c : Mem}
theorem tkN_add (q : QS) (a : Nat) : ∀ n, tkN (tkN q a) n = tkN q (a + n)
  | 0 => rfl
  | n + 1 => by
    show tkQ (tkN (tkN q a) n) = tkQ (tkN q (a + n))
    rw [tkN_add q a n]
theorem tkN_out (h : Wb T T T q) (hT : q 2 = nI T) {i : Nat} (hi : i < 2 ∨ i = 4 ∨ (7 ≤ i ∧ i < 11)) : ∀ n, T + n < 2 ^ 28 → tkN q n i = q i
  | 0, _ => rfl
  | n + 1, hn => by
    obtain ⟨h1, h2⟩ := tkN_wb h hT n (by omega)
    exact ((h1.tick h2 (by omega)).out i hi).trans (tkN_out h hT hi n (by omega))
theorem c_isDone (σ : Mem) (b : Nat) {S : Nat} {nb na : Nat → Nat} {x y : Int32} {f : Nat → Int32} (h : E S nb na q x y f c) {m : Nat} (hm : m < 6) : f5_isDone (6 * b + m) (wc σ b c) = some (bI (dn1 q m), wc σ b c) := by
  unfold f5_isDone dn1
  simp (disch := first | omega | decide) only [lit, nmS, wc_m, h.tnb, h.tna]
  by_cases e : mQ q m 0 = nI 0
  · rw [if_pos e, show decide (mQ q m 0 = nI 0) = true from decide_eq_true e]
    by_cases e2 : mQ q m 7 = nI 0
    · rw [if_pos e2, show decide (mQ q m 7 = nI 0) = true from decide_eq_true e2]; rfl
    · rw [if_neg e2, show decide (mQ q m 7 = nI 0) = false from decide_eq_false e2]; rfl
  · rw [if_neg e, show decide (mQ q m 0 = nI 0) = false from decide_eq_false e]; rfl
theorem c_areDone (σ : Mem) (b : Nat) {S : Nat} {nb na : Nat → Nat} {x y : Int32} {f : Nat → Int32} (h : E S nb na q x y f c) (hz : Sz q) {P : Nat → Bool} {a z : Nat} (hzM : z < nM q) (haz : a ≤ z) (hP : ∀ m, m < nM q → (P m = true ↔ (a ≤ m ∧ m ≤ z))) : f2_areDone b (nI a) (nI z) (wc σ b c) = some (bI (dnQ P q), wc σ b c) := by
  have hM := hz.M
  have hN : 20 < FU := by decide
  unfold f2_areDone
  generalize FU = N at hN ⊢
  simp only [nmS]
  have hmain : ∀ d i n, i + d = z + 1 → d < n → a ≤ i → (∀ m, a ≤ m → m < i → dn1 q m = true) → f2_areDone_l2 b (nI z) (fun s1 => some ((1 : Int32), s1)) n (nI i) (wc σ b c) = some (bI (dnQ P q), wc σ b c) := by
    intro d
    induction d with
    | zero =>
      intro i n h1 h2 h3 h4
      obtain ⟨k, rfl⟩ : ∃ k, n = k + 1 := ⟨n - 1, by omega⟩
      rw [f2_areDone_l2]
      rw [if_pos ((nI_ltI (by omega) (by omega)).mpr (by omega))]
      have e : dnQ P q = true := (dnU_iff P q _).mpr fun m hm hp => by
        have := (hP m hm).mp hp
        exact h4 m this.1 (by omega)
      rw [e]; rfl
    | succ d ih =>
      intro i n h1 h2 h3 h4
      obtain ⟨k, rfl⟩ : ∃ k, n = k + 1 := ⟨n - 1, by omega⟩
      rw [f2_areDone_l2]
      simp (disch := first | omega | decide) only [lit, nmS, c_has_in σ b h hz (show i < nM q by omega), bdS, gd_ib, clI, c_isDone σ b h, nI_add]
      rw [if_neg (show ¬ nI z < nI i from fun w => by
        have := (nI_ltI (by omega) (by omega)).mp w
        omega), if_neg (show ¬ nI 1 = nI 0 by decide)]
      cases e : dn1 q i with
      | true =>
        rw [if_neg (show ¬ bI true = nI 0 by decide)]
        exact ih (i + 1) k (by omega) (by omega) (by omega) fun m g1 g2 => by
          by_cases w : m = i
          · rw [w]; exact e
          · exact h4 m g1 (by omega)
      | false =>
        rw [if_pos (show bI false = nI 0 by decide)]
        have e2 : dnQ P q = false := Bool.eq_false_iff.mpr fun w => by
          have := (dnU_iff P q _).mp w i (by omega) ((hP i (by omega)).mpr ⟨h3, by omega⟩)
          rw [e] at this; cases this
        rw [e2]; rfl
  exact hmain (z + 1 - a) a N (by omega) (by omega) (Nat.le_refl _) fun m h1 h2 => by omega
theorem tkQ_5 (q : QS) : tkQ q 5 = oN (tk1 q).1 := (qs_ne _ _ (by decide)).trans (qs_same _ _ _)
set_option maxHeartbeats 1000000 in
theorem c_till (σ : Mem) (b : Nat) {P : Nat → Bool} {a z N : Nat} {a3 : Int32} (h : Bus q c T) (hzM : z < nM q) (haz : a ≤ z) (hP : ∀ m, m < nM q → (P m = true ↔ (a ≤ m ∧ m ≤ z))) (h3 : a3 + 1 = nI N) (h3' : ∀ i, i ≤ N → (a3 < nI i ↔ N ≤ i)) (hN : N ≤ 401) (hT : T + 1000 < 2 ^ 27) :
    ∃ c', f2_stepsTillDone b (nI a) (nI z) a3 (wc σ b c) = some (nI (dnT P q N), wc σ b c') := by
  have hM := h.2.1.sz.M
  have hS := h.2.1.sz.S
  have hF : 1000 < FU := by decide
  have e31 : ∀ (c : Mem) (i : Nat), T + i < 2 ^ 28 → Bus (tkN q i) c (T + i) → c 31 0 0 = nI (nS q) := fun c i hi hb => by
    obtain ⟨f, hb⟩ := hb.1
    exact hb.t1.trans ((tkN_out h.2.1 h.2.2 (by omega) i hi).trans hS.1)
  have e31z := e31 c 0 (by omega) h
  unfold f2_stepsTillDone
  generalize FU = F at hF ⊢
  simp (disch := first | omega | decide) only [lit, nmS, wc_b, e31z, nI_add]
  have hmain : ∀ d i n run c, i + d = N → d < n → Bus (tkN q i) c (T + i) → run ≤ i → (∀ j, i - run ≤ j → j < i → (tk1 (tkN q j)).1 = none) → (∀ j, j < i → dnQ P (tkN q j) = false) →
      ∃ c', f2_stepsTillDone_l17 b (nI a) (nI z) a3 (nI (nS q + 9 + 2)) (fun s1 => some (a3 + nI 1, s1)) n (nI run) (nI i) (wc σ b c) = some (nI (dnT P q N), wc σ b c') := by
    intro d
    induction d with
    | zero =>
      intro i n run c h1 h2 h4 h5 h6 h7
      obtain rfl : i = N := h1
      obtain ⟨k, rfl⟩ : ∃ k, n = k + 1 := ⟨n - 1, by omega⟩
      refine ⟨c, ?_⟩
      rw [f2_stepsTillDone_l17, if_pos ((h3' i (Nat.le_refl _)).mpr (Nat.le_refl _))]
      have e : dnT P q i = i := by
        unfold dnT
        rw [firstN_no h7]
      rw [e, ← h3]; rfl
    | succ d ih =>
      intro i n run c h1 h2 h4 h5 h6 h7
      obtain ⟨k, rfl⟩ : ∃ k, n = k + 1 := ⟨n - 1, by omega⟩
      rw [f2_stepsTillDone_l17]
      simp only [lit]
      rw [if_neg (show ¬ a3 < nI i from fun w => by
        have := (h3' i (by omega)).mp w
        omega)]
      by_cases e1 : nS q + 9 + 2 ≤ run
      · rw [if_pos (nI_le e1 (by omega))]
        refine ⟨c, ?_⟩
        have hw := tkN_wb h.2.1 h.2.2 (i - run) (by omega)
        have eS : nS (tkN q (i - run)) = nS q := nS_of (tkN_out h.2.1 h.2.2 (by omega) _ (by omega))
        have hfr := frozen hw.1 hw.2 (K := run) (N := N) (by omega) (by omega) (by omega) (fun j hj => by
          rw [tkN_add]
          exact h6 _ (by omega) (by omega))
        have e : dnT P q N = N := by
          unfold dnT
          rw [firstN_no (n := N)]
          intro j hj
          by_cases y : j < i
          · exact h7 j y
          · have h8 := (hfr (N) (by omega)).2 (j - (i - run)) (by omega) (by omega)
            have h9 := (hfr (N) (by omega)).2 (run - 1) (by omega) (by omega)
            have h10 := h9.symm.trans h8
            rw [tkN_add, tkN_add, show i - run + (run - 1) = i - 1 by omega, show i - run + (j - (i - run)) = j by omega] at h10
            have hw1 := tkN_wb h.2.1 h.2.2 (i - 1) (by omega)
            rw [h10.dn hw1.1.sz.M.2.1 P]
            exact h7 (i - 1) (by omega)
        rw [e, ← h3]; rfl
      · rw [if_neg (show ¬ nI (nS q + 9 + 2) ≤ nI run from fun w => e1 ((nI_leI (by omega) (by omega)).mp w))]
        have eM : nM (tkN q i) = nM q := nM_of (tkN_out h.2.1 h.2.2 (by omega) _ (by omega))
        obtain ⟨f, hE⟩ := h4.1
        have hd := c_areDone σ b hE h4.2.1.sz (P := P) (a := a) (z := z) (by omega) haz (fun m hm => hP m (by omega))
        obtain ⟨c2, hs1, hs2⟩ := h4.step (by omega) σ b
        rw [hd, bdS]
        cases e : dnQ P (tkN q i) with
        | true =>
          rw [if_neg (show ¬ bI true = nI 0 by decide)]
          refine ⟨c, ?_⟩
          have e2 : dnT P q N = i := by
            unfold dnT
            rw [firstN_is (k := i) (by omega) e h7]
          rw [e2]
        | false =>
          rw [if_pos (show bI false = nI 0 by decide), hs1, bvS]
          have h5c : c2 35 0 0 = oN (tk1 (tkN q i)).1 := by
            obtain ⟨f2, hE2⟩ := hs2.1
            exact hE2.ty.trans (tkQ_5 _)
          simp (disch := first | omega | decide) only [lit, nmS, wc_b, h5c, nI_add]
          have h7' : ∀ j, j < i + 1 → dnQ P (tkN q j) = false := fun j hj => by
            by_cases y : j = i
            · rw [y]; exact e
            · exact h7 j (by omega)
          cases ei : (tk1 (tkN q i)).1 with
          | none =>
            rw [if_pos (show oN none = -nI 9 by decide)]
            exact ih (i + 1) k (run + 1) c2 (by omega) (by omega) hs2 (by omega) (fun j g1 g2 => by
              by_cases y : j = i
              · rw [y]; exact ei
              · exact h6 j (by omega) (by omega)) h7'
          | some w =>
            have hw := (h4.2.1.tick h4.2.2 (by omega)).who w ei
            have hM4 := h4.2.1.sz.M
            rw [if_neg (show ¬ oN (some w) = -nI 9 from oN_ne (by omega))]
            exact ih (i + 1) k 0 c2 (by omega) (by omega) hs2 (by omega) (fun j g1 g2 => by omega) h7'
  exact hmain N 0 F 0 c (by omega) (by omega) h (Nat.le_refl _) (fun j g1 g2 => by omega) (fun j g => by omega)
/-- one bit, all bits -/
theorem bit_1 : ∀ (a : Fin 6) (m : Fin 6), ((((1 : Int32) <<< (nI a.val &&& 31)) >>> (nI m.val &&& 31)) &&& 1 = 1) ↔ m.val = a.val := by decide +kernel
theorem bit_1' {a m : Nat} (ha : a < 6) (hm : m < 6) : ((((1 : Int32) <<< (nI a &&& 31)) >>> (nI m &&& 31)) &&& 1 = 1) ↔ decide (m = a) = true := (bit_1 ⟨a, ha⟩ ⟨m, hm⟩).trans decide_eq_true_iff.symm
end TILL
