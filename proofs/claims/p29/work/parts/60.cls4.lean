/-! THE CLASS's WORK -/
section CLS4
variable {S : Nat} {nb na : Nat → Nat} {q : QS} {x y : Int32} {f : Nat → Int32} {c : Mem}
theorem Ok.imp {S : Nat} {nb na nb2 na2 : Nat → Nat} {k o i : Nat} (h : Ok S nb na k o i) (hb : (k = 10 ∨ k = 11 ∨ k = 12) → o < 6 → i < nb o → i < nb2 o) (ha : k = 14 → o < 6 → i < na o → i < na2 o) : Ok S nb2 na2 k o i := by
  rcases h with h | h | h | h | h | h
  · exact Or.inl h
  · exact Or.inr (Or.inl h)
  · exact Or.inr (Or.inr (Or.inl h))
  · exact Or.inr (Or.inr (Or.inr (Or.inl ⟨h.1, h.2.1, hb h.1 h.2.1 h.2.2.1, h.2.2.2⟩)))
  · exact Or.inr (Or.inr (Or.inr (Or.inr (Or.inl ⟨h.1, h.2.1, ha h.1 h.2.1 h.2.2.1, h.2.2.2⟩))))
  · exact Or.inr (Or.inr (Or.inr (Or.inr (Or.inr h))))
theorem Ok.off {S : Nat} {nb na : Nat → Nat} {k o i : Nat} (h : Ok S nb na k o i) : cj k o i < 63 ∨ ∃ r, r < 38 ∧ o < 6 ∧ cj k o i = 63 + 38 * o + r ∧ (((k = 10 ∨ k = 11 ∨ k = 12) ∧ r = 8 + 3 * i + (k - 10) ∧ 8 ≤ r ∧ r < 26 ∧ i < nb o ∧ i < 6) ∨ (k = 14 ∧ r = 26 + i ∧ i < na o ∧ i < 12) ∨ (42 ≤ k ∧ k < 48 ∧ r = k - 41 ∧ i = 0) ∨ (k = 50 ∧ r = 0 ∧ i = 0) ∨ (k = 51 ∧ r = 7 ∧ i = 0)) := by
  rcases h.cases with ⟨h1, h2, h3, h4⟩ | ⟨h1, h2, h3, h5, h4⟩ | ⟨h1, h2, h3, h4⟩ | ⟨h1, h2, h3, h5, h4⟩ | ⟨h1, h2, h3, h5, h4⟩ | ⟨h1, h2, h3, h4⟩ | ⟨h0, h1, h2, h3, h4⟩ | ⟨h1, h2, h3, h4⟩ | ⟨h1, h2, h3, h4⟩
  · exact Or.inl (by omega)
  · exact Or.inl (by omega)
  · exact Or.inl (by omega)
  · exact Or.inr ⟨_, by omega, h2, h4, Or.inl ⟨h1, rfl, by omega, by omega, h3, h5⟩⟩
  · exact Or.inr ⟨_, by omega, h2, h4, Or.inr (Or.inl ⟨h1, rfl, h3, h5⟩)⟩
  · exact Or.inl (by omega)
  · exact Or.inr ⟨_, by omega, h2, h4, Or.inr (Or.inr (Or.inl ⟨h0, h1, rfl, h3⟩))⟩
  · exact Or.inr ⟨_, by omega, h2, h4, Or.inr (Or.inr (Or.inr (Or.inl ⟨h1, rfl, h3⟩)))⟩
  · exact Or.inr ⟨_, by omega, h2, h4, Or.inr (Or.inr (Or.inr (Or.inr ⟨h1, rfl, h3⟩)))⟩
theorem E.mvA (h : E S nb na q x y f c) {w a A : Nat} (hw : w < 6) (hA : na w = A) (hA2 : A ≤ 12) (ha : a < A) : E S nb (fun m => if m = w then A - 1 else na m) (shQ q (63 + 38 * w + (26 + a)) (A - 1 - a) 1) x y f (shA c w a (A - 1 - a)) := by
  refine ⟨fun k o i hk => ?_, ?_, ?_, fun m => ?_, fun m hm => ?_⟩
  · by_cases e : k = 14 ∧ o = w ∧ a ≤ i ∧ i < a + (A - 1 - a)
    · obtain ⟨rfl, rfl, h1, h2⟩ := e
      rw [shA_in _ h1 h2, h.ans hw (by omega) (by omega), cj_14]
      unfold shQ
      rw [if_pos (by omega)]
      exact congrArg q (by omega)
    · rw [shA_out _ e, shQ_out]
      · refine h.1 k o i (hk.imp (fun _ _ z => z) (fun h1 h2 h3 => ?_))
        by_cases z : o = w
        · rw [if_pos z] at h3; rw [z, hA]; omega
        · rw [if_neg z] at h3; exact h3
      · rcases hk.off with h1 | ⟨r, h1, h2, h3, h4⟩
        · omega
        · rw [h3]
          intro z
          have ho : o = w := by omega
          subst ho
          rw [if_pos rfl] at h4
          omega
  · rw [shA_out _ (by omega)]; exact h.2.1
  · rw [shA_out _ (by omega)]; exact h.2.2.1
  · rw [shA_out _ (by omega)]; exact h.2.2.2.1 m
  · rw [shA_out _ (by omega), bkQ_of (shQ_out q (by omega))]; exact h.2.2.2.2 m hm
theorem E.mvB (h : E S nb na q x y f c) {w B : Nat} (hw : w < 6) (hB : nb w = B) (hB2 : B ≤ 6) (hB0 : 0 < B) : E S (fun m => if m = w then B - 1 else nb m) na (shQ q (63 + 38 * w + 8) 15 3) x y f (shB c w (B - 1)) := by
  refine ⟨fun k o i hk => ?_, ?_, ?_, fun m => ?_, fun m hm => ?_⟩
  · by_cases e : (k = 10 ∨ k = 11 ∨ k = 12) ∧ o = w ∧ i < B - 1
    · obtain ⟨h0, rfl, h2⟩ := e
      rw [shB_in _ h0 h2, h.1 k o (i + 1) (Or.inr (Or.inr (Or.inr (Or.inl ⟨h0, hw, by omega, by omega⟩)))), cj_b _ _ _ h0, cj_b _ _ _ h0]
      unfold shQ
      rw [if_pos (by omega)]
      exact congrArg q (by omega)
    · rw [shB_out _ e, shQ_out]
      · refine h.1 k o i (hk.imp (fun h1 h2 h3 => ?_) (fun _ _ z => z))
        by_cases z : o = w
        · rw [if_pos z] at h3; rw [z, hB]; omega
        · rw [if_neg z] at h3; exact h3
      · rcases hk.off with h1 | ⟨r, h1, h2, h3, h4⟩
        · omega
        · rw [h3]
          intro z
          have ho : o = w := by omega
          subst ho
          rw [if_pos rfl] at h4
          omega
  · rw [shB_out _ (by omega)]; exact h.2.1
  · rw [shB_out _ (by omega)]; exact h.2.2.1
  · rw [shB_out _ (by omega)]; exact h.2.2.2.1 m
  · rw [shB_out _ (by omega), bkQ_of (shQ_out q (by omega))]; exact h.2.2.2.2 m hm
theorem E.grow (h : E S nb na q x y f c) {w A : Nat} (hw : w < 6) (hA : na w = A) (hA2 : A < 12) (v : Int32) : E S nb (fun m => if m = w then A + 1 else na m) (qs q (63 + 38 * w + (26 + A)) v) x y f (ms c 14 w A v) := by
  have hk0 : Ok S nb (fun m => if m = w then A + 1 else na m) 14 w A := Or.inr (Or.inr (Or.inr (Or.inr (Or.inl ⟨rfl, hw, by show A < if w = w then A + 1 else na w; rw [if_pos rfl]; omega, hA2⟩))))
  refine ⟨fun k o i hk => ?_, ?_, ?_, fun m => ?_, fun m hm => ?_⟩
  · by_cases e : k = 14 ∧ o = w ∧ i = A
    · obtain ⟨rfl, rfl, rfl⟩ := e
      rw [ms_eq, cj_14, qs_same]
    · rw [ms_ne _ _ e, qs_ne]
      · refine h.1 k o i (hk.imp (fun _ _ z => z) (fun h1 h2 h3 => ?_))
        by_cases z : o = w
        · rw [if_pos z] at h3; rw [z, hA]; omega
        · rw [if_neg z] at h3; exact h3
      · intro z
        have := hk.inj hk0 (z.trans (cj_14 w A).symm)
        exact e ⟨this.1, this.2.1, this.2.2⟩
  · rw [ms_ne _ _ (by omega)]; exact h.2.1
  · rw [ms_ne _ _ (by omega)]; exact h.2.2.1
  · rw [ms_ne _ _ (by omega)]; exact h.2.2.2.1 m
  · rw [ms_ne _ _ (by omega), bkQ_of (qs_ne _ _ (by omega))]; exact h.2.2.2.2 m hm
theorem c_add (σ : Mem) (b : Nat) {w A : Nat} (hw : w < 6) (hA : c 51 w 0 = nI A) (hA2 : A < 10) (v : Int32) : f0_add (6 * b + w) v (wc σ b c) = some (wc σ b (ms (ms c 14 w A v) 51 w 0 (nI (A + 1)))) := by
  unfold f0_add
  have e1 : ms c 14 w A v 51 w 0 = nI A := (ms_ne _ _ (by omega)).trans hA
  simp (disch := first | omega | decide) only [lit, nmS, wc_m, wc_sm, hA, clI, gd_ib, e1, nI_add]
  rw [if_neg (show ¬ nI A < nI 0 from nI_pos (by omega)), if_pos (nI_lt hA2 (by omega))]
theorem Ok.n50 {S : Nat} {nb na : Nat → Nat} {o : Nat} (h3 : o < 6) : Ok S nb na 50 o 0 := Or.inr (Or.inr (Or.inr (Or.inr (Or.inr (Or.inr (Or.inr ⟨Or.inl rfl, h3, rfl⟩))))))
theorem Ok.n51 {S : Nat} {nb na : Nat → Nat} {o : Nat} (h3 : o < 6) : Ok S nb na 51 o 0 := Or.inr (Or.inr (Or.inr (Or.inr (Or.inr (Or.inr (Or.inr ⟨Or.inr rfl, h3, rfl⟩))))))
theorem c_work (σ : Mem) (b : Nat) (h : E S nb na q x y f c) (hz : Sz q) {w : Nat} (hw : w < 6) (hna : na w = nA q w) (hnb : nb w = nB q w)
    (hn : rdQ q w (nA q w) = none → nA q w < 10 ∧ 0 < nB q w ∧ (∃ s, s < 4 ∧ mQ q w 8 = nI s) ∧ ∀ k, k < nB q w → mQ q w (10 + 3 * k) = 0 ∨ mQ q w (10 + 3 * k) = 1) :
    ∃ c', f2_work b (6 * b + w) (wc σ b c) = some (wc σ b c') ∧ E S (fun m => if m = w then nB (usQ q w) w else nb m) (fun m => if m = w then nA (usQ q w) w else na m) (usQ q w) x y f c' := by
  obtain ⟨hA1, hA2⟩ := hz.A hw
  obtain ⟨hB1, hB2⟩ := hz.B hw
  have hA3 : q (63 + 38 * w + 7) = nI (nA q w) := hA1
  have hB3 : q (63 + 38 * w + 0) = nI (nB q w) := hB1
  unfold f2_work
  simp (disch := first | omega | decide) only [lit, wc_b, h.t2, c_ready σ b h hz hw (by omega), bdS]
  cases hrd : rdQ q w (nA q w) with
  | some a =>
    obtain ⟨ha, -, -⟩ := firstN_some hrd
    rw [if_neg (show ¬ oN (some a) = -nI 9 from oN_ne (by omega)), show oN (some a) = nI a from rfl, c_rem σ b hw ((h.tna hw).trans hA1) hA2 ha, bvS]
    have e1 : ms (shA c w a (nA q w - 1 - a)) 51 w 0 (nI (nA q w - 1)) 47 w 0 = mQ q w 6 := (ms_ne _ _ (by omega)).trans ((shA_out _ (by omega)).trans (h.cnt (j := 6) hw (by omega) (by omega)))
    simp (disch := first | omega | decide) only [nmS, wc_m, wc_sm, e1]
    refine ⟨_, rfl, ?_⟩
    have hu : usQ q w = qs (qs (shQ q (63 + 38 * w + (26 + a)) (nA q w - 1 - a) 1) (63 + 38 * w + 7) (nI (nA q w - 1))) (63 + 38 * w + 6) (q (63 + 38 * w + 6) + 1) := by
      unfold usQ
      rw [hrd]
      dsimp only
      rw [show q (63 + 38 * w + 7) - 1 = nI (nA q w - 1) by
        rw [hA3]
        obtain ⟨z, hz⟩ : ∃ z, nA q w = z + 1 := ⟨nA q w - 1, by omega⟩
        rw [hz]; exact nI_s1 _]
    have n1 : nA (usQ q w) w = nA q w - 1 := by
      unfold nA mQ
      rw [hu, qs_ne _ _ (by omega), qs_same, clI (by omega)]
      rfl
    have n2 : nB (usQ q w) w = nB q w := by
      refine nB_of ?_
      unfold mQ
      rw [hu, qs_ne _ _ (by omega), qs_ne _ _ (by omega), shQ_out q (by omega)]
    rw [n1, n2]
    have h1 := ((h.mvA hw hna (by omega) ha).set (Ok.n51 hw) (nI (nA q w - 1))).set (Ok.m (k := 47) (o := w) (by omega) (by omega) hw) (mQ q w 6 + nI 1)
    rw [hu]
    refine E.less h1 (fun m hm => ?_) (fun m hm => Nat.le_refl _)
    by_cases z : m = w
    · rw [if_pos z, z, hnb]; exact Nat.le_refl _
    · rw [if_neg z]; exact Nat.le_refl _
  | none =>
    obtain ⟨hA9, hB0, ⟨s, hs1, hs2⟩, has⟩ := hn hrd
    have hb0 := h.bur hw (show 0 < nb w by omega) (by omega)
    have hs3 : q (63 + 38 * w + 8) = nI s := hs2
    rw [if_pos (show oN none = -nI 9 from rfl)]
    simp (disch := first | omega | decide) only [wc_m, h.tnb, hB1]
    rw [if_neg (nI_ge hB0 (by omega))]
    unfold f2_sendWord
    simp (disch := first | omega | decide) only [lit, clI, nmS, wc_m, wc_sm]
    rw [hb0.2.1]
    have h1 := h.set (k := 11) (o := w) (i := 0) (Or.inr (Or.inr (Or.inr (Or.inl ⟨by omega, hw, by omega, by omega⟩)))) (mQ q w 9 - nI 1)
    have h1 : E S nb na (qs q (63 + 38 * w + 9) (q (63 + 38 * w + 9) - 1)) x y f (ms c 11 w 0 (mQ q w (9 + 3 * 0) - nI 1)) := h1
    generalize ms c 11 w 0 (mQ q w (9 + 3 * 0) - nI 1) = c1 at h1 ⊢
    have hb1 := h1.bur hw (show 0 < nb w by omega) (by omega)
    have e9 : c1 11 w 0 = q (63 + 38 * w + 9) - 1 := hb1.2.1.trans (qs_same _ _ _)
    have e8 : c1 10 w 0 = nI s := hb1.1.trans ((qs_ne _ _ (by omega)).trans hs2)
    have e10 : c1 12 w 0 = q (63 + 38 * w + 10) := hb1.2.2.trans (qs_ne _ _ (by omega))
    have e51 : c1 51 w 0 = nI (nA q w) := (h1.tna hw).trans ((qs_ne _ _ (by omega)).trans hA3)
    have e50 : c1 50 w 0 = nI (nB q w) := (h1.tnb hw).trans ((qs_ne _ _ (by omega)).trans hB3)
    have e12 : ∀ k, k < nB q w → c1 12 w k = 0 ∨ c1 12 w k = 1 := fun k hk => by
      rw [(h1.bur hw (show k < nb w by omega) (by omega)).2.2, show mQ (qs q (63 + 38 * w + 9) (q (63 + 38 * w + 9) - 1)) w (10 + 3 * k) = mQ q w (10 + 3 * k) from qs_ne _ _ (by omega)]
      exact has k hk
    rw [e9, e8, e10]
    have hu : usQ q w = if q (63 + 38 * w + 9) - 1 ≤ 0 then qs (shQ (if q (63 + 38 * w + 10) = 1 then qs (qs (qs q (63 + 38 * w + 9) (q (63 + 38 * w + 9) - 1)) (63 + 38 * w + (26 + nA q w)) (q 2 + 1 + q (7 + s))) (63 + 38 * w + 7) (nI (nA q w + 1)) else qs q (63 + 38 * w + 9) (q (63 + 38 * w + 9) - 1)) (63 + 38 * w + 8) 15 3) (63 + 38 * w + 0) (nI (nB q w - 1)) else qs q (63 + 38 * w + 9) (q (63 + 38 * w + 9) - 1) := by
      unfold usQ
      rw [hrd]
      dsimp only
      rw [hs3, clI (by omega), hA3, hB3, show nI (nB q w) - 1 = nI (nB q w - 1) by
        obtain ⟨z, hz⟩ : ∃ z, nB q w = z + 1 := ⟨nB q w - 1, by omega⟩
        rw [hz]; exact nI_s1 _, nI_1]
    by_cases e : q (63 + 38 * w + 9) - 1 ≤ 0
    · rw [if_pos (show q (63 + 38 * w + 9) - 1 ≤ nI 0 from e)]
      rw [if_pos e] at hu
      rcases has 0 hB0 with e3 | e3
      · have e4 : q (63 + 38 * w + 10) = 0 := e3
        rw [if_pos (show q (63 + 38 * w + 10) = nI 0 from e4), c_remB σ b hw e50 hB2 hB0 e12, bvS]
        rw [if_neg (show ¬ q (63 + 38 * w + 10) = 1 by rw [e4]; decide)] at hu
        have h2 := (h1.mvB hw hnb hB2 hB0).set (Ok.n50 hw) (nI (nB q w - 1))
        refine ⟨_, rfl, ?_⟩
        have n1 : nB (usQ q w) w = nB q w - 1 := by
          unfold nB mQ
          rw [hu, qs_same, clI (by omega)]
          rfl
        have n2 : nA (usQ q w) w = nA q w := by
          refine nA_of ?_
          unfold mQ
          rw [hu, qs_ne _ _ (by omega), shQ_out _ (by omega), qs_ne _ _ (by omega)]
        rw [n1, n2, hu]
        refine E.less h2 (fun m hm => Nat.le_refl _) (fun m hm => ?_)
        by_cases z : m = w
        · rw [if_pos z, z, hna]; exact Nat.le_refl _
        · rw [if_neg z]; exact Nat.le_refl _
      · have e4 : q (63 + 38 * w + 10) = 1 := e3
        rw [if_neg (show ¬ q (63 + 38 * w + 10) = nI 0 by rw [e4]; decide)]
        unfold f2_latencyNow
        have hl : c1 5 0 s = q (7 + s) := (h1.lat hs1).trans (qs_ne _ _ (by omega))
        have ht : c1 32 0 0 = q 2 := h1.t2.trans (qs_ne _ _ (by omega))
        simp (disch := first | omega | decide) only [lit, nmS, clI, wc_b, gd_ib, hl, ht]
        rw [if_neg (show ¬ nI s < nI 0 from nI_pos (by omega)), if_neg (nI_ge hs1 (by omega)), bdS, c_add σ b hw e51 hA9, bvS]
        have h2 := (h1.grow hw hna (by omega) (q 2 + nI 1 + q (7 + s))).set (Ok.n51 hw) (nI (nA q w + 1))
        have h2 : E S nb (fun m => if m = w then nA q w + 1 else na m) (qs (qs (qs q (63 + 38 * w + 9) (q (63 + 38 * w + 9) - 1)) (63 + 38 * w + (26 + nA q w)) (q 2 + 1 + q (7 + s))) (63 + 38 * w + 7) (nI (nA q w + 1))) x y f (ms (ms c1 14 w (nA q w) (q 2 + nI 1 + q (7 + s))) 51 w 0 (nI (nA q w + 1))) := h2
        have f50 : ms (ms c1 14 w (nA q w) (q 2 + nI 1 + q (7 + s))) 51 w 0 (nI (nA q w + 1)) 50 w 0 = nI (nB q w) := (ms_ne _ _ (by omega)).trans ((ms_ne _ _ (by omega)).trans e50)
        have f12 : ∀ k, k < nB q w → ms (ms c1 14 w (nA q w) (q 2 + nI 1 + q (7 + s))) 51 w 0 (nI (nA q w + 1)) 12 w k = 0 ∨ ms (ms c1 14 w (nA q w) (q 2 + nI 1 + q (7 + s))) 51 w 0 (nI (nA q w + 1)) 12 w k = 1 := fun k hk => by
          rw [ms_ne _ _ (by omega), ms_ne _ _ (by omega)]; exact e12 k hk
        rw [c_remB σ b hw f50 hB2 hB0 f12, bvS]
        rw [if_pos e4] at hu
        have h3 := (h2.mvB hw hnb hB2 hB0).set (Ok.n50 hw) (nI (nB q w - 1))
        refine ⟨_, rfl, ?_⟩
        have n1 : nB (usQ q w) w = nB q w - 1 := by
          unfold nB mQ
          rw [hu, qs_same, clI (by omega)]
          rfl
        have n2 : nA (usQ q w) w = nA q w + 1 := by
          unfold nA mQ
          rw [hu, qs_ne _ _ (by omega), shQ_out _ (by omega), qs_same, clI (by omega)]
          rfl
        rw [n1, n2, hu]
        exact h3
    · rw [if_neg (show ¬ q (63 + 38 * w + 9) - 1 ≤ nI 0 from e)]
      rw [if_neg e] at hu
      refine ⟨_, rfl, ?_⟩
      have n1 : nB (usQ q w) w = nB q w := by
        refine nB_of ?_
        unfold mQ
        rw [hu, qs_ne _ _ (by omega)]
      have n2 : nA (usQ q w) w = nA q w := by
        refine nA_of ?_
        unfold mQ
        rw [hu, qs_ne _ _ (by omega)]
      rw [n1, n2, hu]
      refine E.less h1 (fun m hm => ?_) (fun m hm => ?_)
      · by_cases z : m = w
        · rw [if_pos z, z, hnb]; exact Nat.le_refl _
        · rw [if_neg z]; exact Nat.le_refl _
      · by_cases z : m = w
        · rw [if_pos z, z, hna]; exact Nat.le_refl _
        · rw [if_neg z]; exact Nat.le_refl _
end CLS4
