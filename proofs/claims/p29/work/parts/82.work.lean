/-! WHAT A TICK DOES: one word sent or one answer taken; who is done one tick earlier -/
section WORK
variable {q r u : QS} {T N Bd Ba Bw : Nat}
def wd (q : QS) (m : Nat) : Int32 := sumF (fun k => mQ q m (9 + 3 * k)) (nB q m)
theorem add_rc (a b c : Int32) : a + b + c = a + c + b := by rw [Int32.add_assoc, Int32.add_comm b c, ← Int32.add_assoc]
theorem sumF_shift (f : Nat → Int32) : ∀ n, sumF f (n + 1) = sumF (fun k => f (k + 1)) n + f 0
  | 0 => by show (0 : Int32) + f 0 = 0 + f 0; rfl
  | n + 1 => by
    show sumF f (n + 1) + f (n + 1) = sumF (fun k => f (k + 1)) n + f (n + 1) + f 0
    rw [sumF_shift f n, add_rc]
theorem wd_of {m : Nat} (hz : Sz q) (hm : m < 6) (h : ∀ j, (j = 0 ∨ 6 ≤ j) → j < 38 → mQ r m j = mQ q m j) : wd r m = wd q m := by
  have hb := hz.B hm
  unfold wd
  rw [nB_of (h 0 (Or.inl rfl) (by omega))]
  exact sumF_congr fun k hk => h _ (by omega) (by omega)
theorem us_words (hw : Wb Bd Ba Bw u) {m : Nat} (hm : m < 6) (hnb : rdQ u m (nA u m) = none → 0 < nB u m) :
    (mQ (usQ u m) m 6 = mQ u m 6 + 1 ∧ wd (usQ u m) m = wd u m) ∨ (mQ (usQ u m) m 6 = mQ u m 6 ∧ wd u m = wd (usQ u m) m + 1) := by
  have hz := hw.sz
  have hA := hz.A hm
  have hB := hz.B hm
  cases hr : rdQ u m (nA u m) with
  | some a =>
    refine Or.inl ?_
    have ha := (firstN_some hr).1
    have c : ∀ j, j < 26 → j ≠ 6 → j ≠ 7 → usQ u m (63 + 38 * m + j) = u (63 + 38 * m + j) := fun j hj h6 h7 => by
      unfold usQ
      rw [hr]
      dsimp only
      rw [qs_ne _ _ (by omega), qs_ne _ _ (by omega), shQ_out _ (by omega)]
    refine ⟨?_, ?_⟩
    · show usQ u m (63 + 38 * m + 6) = _
      unfold usQ
      rw [hr]
      exact qs_same _ _ _
    · unfold wd
      rw [nB_of (show mQ (usQ u m) m 0 = mQ u m 0 from c 0 (by omega) (by omega) (by omega))]
      exact sumF_congr fun k hk => c (9 + 3 * k) (by omega) (by omega) (by omega)
  | none =>
    refine Or.inr ?_
    have hb0 := hnb hr
    obtain ⟨-, ⟨w, hw1, hw8, hww⟩, -⟩ := hw.burst m 0 hm hb0
    have e9 : u (63 + 38 * m + 9) = nI w := hww
    have e9' : u (63 + 38 * m + 9) - 1 = nI (w - 1) := by
      rw [e9]
      show nI w - nI 1 = _
      exact pk_sub (by omega)
    obtain ⟨B, hBe⟩ : ∃ B, nB u m = B + 1 := ⟨nB u m - 1, by omega⟩
    by_cases e : w = 1
    · subst e
      have hle : u (63 + 38 * m + 9) - 1 ≤ 0 := by rw [e9']; decide
      have c : ∀ j, j < 26 → j ≠ 7 → j ≠ 9 → (if u (63 + 38 * m + 10) = 1 then qs (qs (qs u (63 + 38 * m + 9) (u (63 + 38 * m + 9) - 1)) (63 + 38 * m + (26 + nA u m)) (u 2 + 1 + u (7 + (u (63 + 38 * m + 8)).toNatClampNeg))) (63 + 38 * m + 7) (u (63 + 38 * m + 7) + 1) else qs u (63 + 38 * m + 9) (u (63 + 38 * m + 9) - 1)) (63 + 38 * m + j) = u (63 + 38 * m + j) := fun j hj h7 h9 => by
        by_cases e2 : u (63 + 38 * m + 10) = 1
        · rw [if_pos e2, qs_ne _ _ (by omega), qs_ne _ _ (by omega), qs_ne _ _ (by omega)]
        · rw [if_neg e2, qs_ne _ _ (by omega)]
      have hus : usQ u m = qs (shQ (if u (63 + 38 * m + 10) = 1 then qs (qs (qs u (63 + 38 * m + 9) (u (63 + 38 * m + 9) - 1)) (63 + 38 * m + (26 + nA u m)) (u 2 + 1 + u (7 + (u (63 + 38 * m + 8)).toNatClampNeg))) (63 + 38 * m + 7) (u (63 + 38 * m + 7) + 1) else qs u (63 + 38 * m + 9) (u (63 + 38 * m + 9) - 1)) (63 + 38 * m + 8) 15 3) (63 + 38 * m + 0) (u (63 + 38 * m + 0) - 1) := by
        unfold usQ
        rw [hr]
        exact if_pos hle
      generalize (if u (63 + 38 * m + 10) = 1 then qs (qs (qs u (63 + 38 * m + 9) (u (63 + 38 * m + 9) - 1)) (63 + 38 * m + (26 + nA u m)) (u 2 + 1 + u (7 + (u (63 + 38 * m + 8)).toNatClampNeg))) (63 + 38 * m + 7) (u (63 + 38 * m + 7) + 1) else qs u (63 + 38 * m + 9) (u (63 + 38 * m + 9) - 1)) = q2 at c hus
      have nBr : nB (usQ u m) m = B := by
        show (usQ u m (63 + 38 * m + 0)).toNatClampNeg = B
        rw [hus, qs_same, show u (63 + 38 * m + 0) = nI (nB u m) from hB.1, hBe, show nI (B + 1) - 1 = nI B from nI_pred B, clI (by omega)]
      refine ⟨?_, ?_⟩
      · show usQ u m (63 + 38 * m + 6) = u (63 + 38 * m + 6)
        rw [hus, qs_ne _ _ (by omega), shQ_out _ (by omega), c 6 (by omega) (by omega) (by omega)]
      · unfold wd
        rw [nBr, hBe, sumF_shift, show mQ u m (9 + 3 * 0) = 1 from hww]
        congr 1
        refine sumF_congr fun k hk => ?_
        show u (63 + 38 * m + (9 + 3 * (k + 1))) = usQ u m (63 + 38 * m + (9 + 3 * k))
        rw [hus, qs_ne _ _ (by omega)]
        unfold shQ
        rw [if_pos (by omega), show 63 + 38 * m + (9 + 3 * k) + 3 = 63 + 38 * m + (9 + 3 * (k + 1)) by omega, c _ (by omega) (by omega) (by omega)]
    · have hle : ¬ u (63 + 38 * m + 9) - 1 ≤ 0 := by
        rw [e9']
        exact nI_nle (by omega) (by omega)
      have hus : usQ u m = qs u (63 + 38 * m + 9) (nI (w - 1)) := by
        unfold usQ
        rw [hr]
        dsimp only
        rw [if_neg hle, e9']
      have c : ∀ j, j ≠ 9 → mQ (usQ u m) m j = mQ u m j := fun j h9 => by
        show usQ u m (63 + 38 * m + j) = u (63 + 38 * m + j)
        rw [hus, qs_ne _ _ (by omega)]
      refine ⟨c 6 (by omega), ?_⟩
      unfold wd
      rw [nB_of (c 0 (by omega)), hBe, sumF_shift, sumF_shift, show mQ u m (9 + 3 * 0) = nI w from hww, show mQ (usQ u m) m (9 + 3 * 0) = nI (w - 1) by
        show usQ u m (63 + 38 * m + 9) = _
        rw [hus, qs_same]]
      rw [Int32.add_assoc, show nI (w - 1) + 1 = nI w by
        rw [show nI (w - 1) + 1 = nI (w - 1 + 1) from nI_add _ 1, show w - 1 + 1 = w by omega]]
      congr 1
      exact sumF_congr fun k hk => (c _ (by omega)).symm
/-- a tick's word or answer -/
theorem tick_work (h : Iv T q) (hw : Wb T T T q) (hT : q 2 = nI T) (hT2 : T < 2 ^ 27) {m : Nat} (hm : m < nM q) (hb : bkQ (tkQ q) m = false) : mQ (tkQ q) m 6 - mQ q m 6 + wd q m - wd (tkQ q) m = if (tk1 q).1 = some m then 1 else 0 := by
  have hz := hw.sz
  have hM := hz.M
  have hm6 : m < 6 := by omega
  have ht := hw.tick hT (by omega)
  have ho := ownT_is hw hT (by omega)
  have hk := fun j hj hb2 => ((h.tick hw hT hT2).2 m j hm6 hj hb hb2).2
  have hz2 := ht.wb2.sz
  have w2 : wd (tkQ q) m = wd (tk2 q) m := wd_of hz2 hm6 fun j hj hj2 => hk j hj2 hj
  have M1 : ∀ j, (j < 3 ∨ 6 ≤ j) → j < 38 → mQ (tk1 q).2 m j = mQ q m j := fun j hj hj2 => turn_m hz (by omega) (busyQ q) hm6 hj hj2
  have w1 : wd (tk1 q).2 m = wd q m := wd_of hz hm6 fun j hj hj2 => M1 j (by omega) hj2
  rw [w2, hk 6 (by omega) (by omega), ← w1, ← M1 6 (by omega) (by omega)]
  unfold tk2
  cases hw1 : (tk1 q).1 with
  | none =>
    rw [if_neg (fun z => nomatch z)]
    dsimp only
    rw [Int32.sub_self, Int32.zero_add, Int32.sub_self]
  | some w =>
    have hwho := ht.who w hw1
    have hnb := ht.nb w hw1
    have hb1 := ht.wb1
    generalize (tk1 q).2 = u at hb1 hnb M1 w1
    dsimp only
    by_cases e : w = m
    · subst e
      rw [if_pos rfl]
      rcases us_words hb1 hm6 hnb with ⟨g1, g2⟩ | ⟨g1, g2⟩
      · rw [g1, g2, Int32.add_comm (mQ u w 6) 1, Int32.add_sub_cancel, Int32.add_sub_cancel]
      · rw [g1, g2, Int32.sub_self, Int32.zero_add, Int32.add_comm (wd (usQ u w) w) 1, Int32.add_sub_cancel]
    · rw [if_neg (fun z => e (Option.some.inj z))]
      have c : ∀ j, j < 38 → mQ (usQ u w) m j = mQ u m j := fun j hj => usQ_out hb1.sz (by omega) (by omega)
      rw [c 6 (by omega), wd_of hb1.sz hm6 (r := usQ u w) fun j _ hj => c j hj, Int32.sub_self, Int32.zero_add, Int32.sub_self]
/-! who is done -/
def dnF (q : QS) (m : Nat) : Option Nat := firstN (fun n => dnQ (fun i => decide (i = m)) (tkN q n)) 401
theorem dnI_s {m d : Nat} (h : dnF q m = some d) : d ≤ 400 ∧ dnI q m = nI d := by
  have h1 := (firstN_some h).1
  have e : dnT (fun i => decide (i = m)) q 401 = d := by
    unfold dnT
    rw [show firstN (fun n => dnQ (fun i => decide (i = m)) (tkN q n)) 401 = some d from h]
  refine ⟨by omega, ?_⟩
  unfold dnI
  rw [e, if_pos (by omega)]
theorem dnI_n {m : Nat} (h : dnF q m = none) : dnI q m = -9 := by
  have e : dnT (fun i => decide (i = m)) q 401 = 401 := by
    unfold dnT
    rw [show firstN (fun n => dnQ (fun i => decide (i = m)) (tkN q n)) 401 = none from h]
  unfold dnI
  rw [e, if_neg (by omega)]
theorem dnF_tick {m d : Nat} (h : dnF q m = some (d + 1)) : dnF (tkQ q) m = some d := by
  obtain ⟨h1, h2, h3⟩ := firstN_some h
  have e : ∀ n, tkN (tkQ q) n = tkN q (n + 1) := fun n => by
    have := tkN_add q 1 n
    rw [show tkN q 1 = tkQ q from rfl, Nat.add_comm 1 n] at this
    exact this
  refine firstN_is (by omega) ?_ fun j hj => ?_
  · rw [e]; exact h2
  · rw [e]; exact h3 (j + 1) (by omega)
theorem dnF_0 {m : Nat} (h0 : mQ q m 0 = 0) (h7 : mQ q m 7 = 0) : dnF q m = some 0 := by
  refine firstN_is (by omega) ?_ fun j hj => absurd hj (Nat.not_lt_zero j)
  show dnU (fun i => decide (i = m)) q (nM q) = true
  refine (dnU_iff _ q _).mpr fun x hx hp => ?_
  have e : x = m := of_decide_eq_true hp
  rw [e]
  unfold dn1
  rw [h0, h7]
  decide
end WORK
