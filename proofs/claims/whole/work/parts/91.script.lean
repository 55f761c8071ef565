/-! runScript -/
section SCRIPT
variable {q : QS} {T B : Nat} {σ : Mem}
theorem grp {A j : Nat} (hA : A < 2 ^ 63) : (lN (A / pw j) - lN (A / pw j) / lN 100000 * lN 100000).toInt32 = nI (A / pw j % 100000) := by
  rw [pk_lRem (Nat.lt_of_le_of_lt (Nat.div_le_self _ _) hA) (by decide) (by decide), lN_i]
set_option maxHeartbeats 1000000 in
theorem script_loop {A n T0 : Nat} (hA : A < 2 ^ 63) (hn : n ≤ 3) (hT0 : T0 + 2000 < 2 ^ 27) (k2 : Int32 → Mem → Option (Int32 × Mem)) : ∀ d i k (σ : Mem) (r : QS) (T : Nat) (ρ : Mem), i + d = n → d + 2 < k → Bus r (cOf σ 15) T → T ≤ T0 + 99 * i → ∃ v σ' ρ' r', f6_runScript_l50 (nI n) (lN A) (fun s3 => some (.inr (-nI 9), s3)) k (nI i) σ = some (.inr v, σ') ∧
    f7_runScript_l86 (nI n) (lN A) k2 k (lN (pw (n - i))) (-nI 9) (nI i) (wq ρ r) = k2 v (wq ρ' r') ∧ T15 σ σ' ∧ ∀ k o x, ¬ (k = 20 ∧ o = 2) → ρ' k o x = ρ k o x := by
  intro d
  induction d with
  | zero =>
    intro i k σ r T ρ h1 h2 hb hT
    obtain rfl : i = n := h1
    obtain ⟨k, rfl⟩ : ∃ z, k = z + 1 := ⟨k - 1, by omega⟩
    refine ⟨-nI 9, σ, ρ, r, ?_, ?_, T15.refl σ, fun _ _ _ _ => rfl⟩
    · rw [f6_runScript_l50, if_pos (nI_le (Nat.le_refl _) (by omega))]
    · rw [f7_runScript_l86, if_pos (nI_le (Nat.le_refl _) (by omega))]
  | succ d ih =>
    intro i k σ r T ρ h1 h2 hb hT
    obtain ⟨k, rfl⟩ : ∃ z, k = z + 1 + 1 := ⟨k - 2, by omega⟩
    obtain ⟨j, hj⟩ : ∃ j, n - i = j + 1 := ⟨n - i - 1, by omega⟩
    have hj3 : j ≤ 3 := by omega
    have hg : A / pw j % 100000 < 100000 := Nat.mod_lt _ (by omega)
    obtain ⟨b, σ1, r1, T1, ρ1, s1, s2, s3, s4, s5, s6⟩ := t_succeeds hb (by omega) hg ρ
    have e6 : f6_runScript_l50 (nI n) (lN A) (fun s3 => some (.inr (-nI 9), s3)) (k + 1 + 1) (nI i) σ = if bI b = nI 0 then some (.inr (nI i), σ1) else f6_runScript_l50 (nI n) (lN A) (fun s3 => some (.inr (-nI 9), s3)) (k + 1) (nI (i + 1)) σ1 := by
      rw [f6_runScript_l50]
      simp only [lit, litL, nmS]
      rw [if_neg (nI_ge (show i < n by omega) (by omega)), pk_sub (by omega), pk_sub (by omega), show n - 1 - i = j by omega, c_without σ hA hj3, bdS, grp hA, s1, bdS, nI_add]
    have e7 : f7_runScript_l86 (nI n) (lN A) k2 (k + 1 + 1) (lN (pw (n - i))) (-nI 9) (nI i) (wq ρ r) = if bI b = nI 0 then f7_runScript_l86 (nI n) (lN A) k2 (k + 1) (lN (pw j)) (nI i) (nI (i + 1)) (wq ρ1 r1) else f7_runScript_l86 (nI n) (lN A) k2 (k + 1) (lN (pw j)) (-nI 9) (nI (i + 1)) (wq ρ1 r1) := by
      have hp := pw_lt hj3
      have hp0 := pw_pos j
      rw [f7_runScript_l86]
      simp only [lit, litL, nmS]
      have ex : lN (pw (n - i)) / lN 100000 = lN (pw j) := by
        rw [hj, pk_lDiv (by rw [← hj]; exact pw_lt (by omega)) (by decide) (by decide), pw_s, Nat.mul_div_cancel _ (by omega)]
      have hz : nzl (lN (pw j)) = true := decide_eq_true (fun z => by
        have := (pk_lEQ hp (show 0 < 2 ^ 63 by decide)).mp z
        omega)
      rw [if_neg (nI_ge (show i < n by omega) (by omega)), if_neg (show ¬ nI 0 ≤ -nI 9 by decide), ex, gdI hz, pk_lDiv hA hp0 hp, grp hA, s2, bdS, nI_add]
    by_cases e : bI b = nI 0
    · refine ⟨nI i, σ1, ρ1, r1, e6.trans (if_pos e), e7.trans ((if_pos e).trans ?_), s3, s6⟩
      rw [f7_runScript_l86]
      simp only [lit]
      by_cases e2 : nI n ≤ nI (i + 1)
      · rw [if_pos e2]
      · rw [if_neg e2, if_pos (show nI 0 ≤ nI i from nI_le (Nat.zero_le i) (by omega))]
    · obtain ⟨v, σ', ρ', r', i1, i2, i3, i4⟩ := ih (i + 1) (k + 1) σ1 r1 T1 ρ1 (by omega) (by omega) s4 (by omega)
      rw [show n - (i + 1) = j by omega] at i2
      exact ⟨v, σ', ρ', r', e6.trans ((if_neg e).trans i1), e7.trans ((if_neg e).trans i2), s3.trans i3, fun k o x hk => (i4 k o x hk).trans (s6 k o x hk)⟩
set_option maxHeartbeats 1000000 in
theorem g_runScript (a : Int32) (b : Int64) : Good (cf1 0) (f6_runScript a b) (f7_runScript a b) := by
  intro σ B h hB
  obtain ⟨T, hT, hp⟩ := h.1
  rcases rng_or a (l := 1) (u := 3) (by omega) (by decide) with ⟨n, hn, hn3, rfl⟩ | hno
  · have c1 : ¬ nI n < nI 1 := fun z => by
      have := (nI_ltI (by omega) (by omega)).mp z
      omega
    have c3 : ¬ nI 3 < nI n := fun z => by
      have := (nI_ltI (by omega) (by omega)).mp z
      omega
    by_cases hb : b < lN 0
    · refine refuse h (e := 0) ?_ (by decide) ?_
      · unfold f6_runScript
        simp only [lit, litL]
        rw [if_neg c1, if_neg c3, if_pos (show lg_cmp b (lN 0) < nI 0 from (lg_cmp_lt _ _).mpr hb)]
      · unfold f7_runScript
        simp only [lit, litL, nmS]
        rw [m_pow _ hn3, m_in (nI n) (nI 1) (nI 3) (by decide) (by decide), bdS, rng_in hn hn3 (by decide), if_neg (show ¬ bI true = nI 0 by decide), if_pos (show lg_cmp b (lN 0) < nI 0 from (lg_cmp_lt _ _).mpr hb), ← e62, m_fails, bdS]
        rfl
    · obtain ⟨A, hA, rfl⟩ := pk_lOf (x := b) hb
      have n0 : ¬ lg_cmp (lN A) (lN 0) < nI 0 := fun z => hb ((lg_cmp_lt _ _).mp z)
      have hpw := pw_lt hn3
      have hpos := pw_pos n
      by_cases hlt : A < pw n
      · obtain ⟨c1', hc1, hc2⟩ := c_copy σ (o := 15) (a := 0) (by omega) hp (cOf σ 15)
        rw [wc_self] at hc1
        have hbus : Bus (σ 20 0) (cOf (wc σ 15 c1') 15) T := hc2.put σ
        have hF : 0 + 3 + 100 < FU := by decide
        obtain ⟨v0, σ', -, -, j1, -, j3, -⟩ := script_loop (n := n) (T0 := T) hA hn3 (by omega) (fun y2 s7 => bv (f7_copy 1 0 s7) fun s8 => some (y2, s8)) n 0 FU (wc σ 15 c1') (σ 20 0) T σ (by omega) (by omega) hbus (by omega)
        obtain ⟨v, σ2, ρ', r', l1, l2, -, l4⟩ := script_loop (n := n) (T0 := T) hA hn3 (by omega) (fun y2 s7 => bv (f7_copy 1 0 s7) fun s8 => some (y2, s8)) n 0 FU (wc σ 15 c1') (σ 20 0) T (w2 (ms σ' 62 0 0 (nI 0)) 1 (σ 20 0)) (by omega) (by omega) hbus (by omega)
        rw [j1] at l1
        obtain ⟨z1, z2⟩ := Prod.mk.inj (Option.some.inj l1)
        have z1 := Sum.inr.inj z1
        subst z1 z2
        have ht15 : T15 σ σ' := (t15_wc σ c1' (Or.inl rfl)).trans j3
        have hrow2 : ms σ' 62 0 0 (nI 0) 20 0 = σ 20 0 := (row62 _ _).trans (t15_row ht15)
        obtain ⟨q2, m1, m2⟩ := cp_in ρ' (σ 20 0) r' (a := 1) (by decide) (fun i hi => (l4 20 1 i (by decide)).trans (w2_in _ 1 _ hi))
        refine ⟨.inr v0, σ', v0, wq ρ' q2, ?_, ?_, ?_, ?_, rfl⟩
        · unfold f6_runScript
          simp only [lit, litL]
          rw [if_neg c1, if_neg c3, if_neg n0, c_without σ hA hn3, bdS, Nat.div_eq_of_lt hlt, if_pos (show lg_cmp (lN 0) (lN 0) = nI 0 from (lg_cmp_eq _ _).mpr rfl), hc1, bvS, nmS]
          exact j1
        · unfold f7_runScript
          simp only [lit, litL, nmS]
          rw [m_pow _ hn3, m_in (nI n) (nI 1) (nI 3) (by decide) (by decide), bdS, rng_in hn hn3 (by decide), if_neg (show ¬ bI true = nI 0 by decide), if_neg n0, if_pos (show lg_cmp (lN A) (lN (pw n)) < nI 0 from (lg_cmp_lt _ _).mpr ((pk_lLT hA hpw).mpr hlt)), ← wq_of hrow2, cp_out _ _ (by decide), bvS]
          rw [Nat.sub_zero] at l2
          refine l2.trans ?_
          rw [m1, bvS]
        · refine trial h ht15 (fun k o i z1 z2 => ?_) (fun j hj => ?_)
          · rw [wq_other _ _ _ (by omega), l4 k o i (by omega), w2_out _ _ _ (by omega), ms_ne _ _ (by omega)]
          · rw [wq_get]; exact m2 j hj
        · rw [wq_other _ _ _ (by omega), l4 _ _ _ (by decide), w2_out _ _ _ (by omega), ms_eq]; rfl
      · refine refuse h (e := 0) ?_ (by decide) ?_
        · unfold f6_runScript
          simp only [lit, litL]
          rw [if_neg c1, if_neg c3, if_neg n0, c_without σ hA hn3, bdS, if_neg (show ¬ lg_cmp (lN (A / pw n)) (lN 0) = nI 0 from fun z => by
            have h9 := (pk_lEQ (Nat.lt_of_le_of_lt (Nat.div_le_self _ _) hA) (show 0 < 2 ^ 63 by decide)).mp ((lg_cmp_eq _ _).mp z)
            have := Nat.div_pos (show pw n ≤ A by omega) hpos
            omega)]
        · unfold f7_runScript
          simp only [lit, litL, nmS]
          rw [m_pow _ hn3, m_in (nI n) (nI 1) (nI 3) (by decide) (by decide), bdS, rng_in hn hn3 (by decide), if_neg (show ¬ bI true = nI 0 by decide), if_neg n0, if_neg (show ¬ lg_cmp (lN A) (lN (pw n)) < nI 0 from fun z => hlt ((pk_lLT hA hpw).mp ((lg_cmp_lt _ _).mp z))), ← e62, m_fails, bdS]
          rfl
  · refine refuse h (e := 0) ?_ (by decide) ?_
    · unfold f6_runScript
      simp only [lit]
      by_cases e1 : a < nI 1
      · rw [if_pos e1]
      · rw [if_neg e1, if_pos ((rng_no hno).resolve_left e1)]
    · unfold f7_runScript
      simp only [lit, litL, nmS]
      obtain ⟨y, hy⟩ := m_powE (ms σ 62 0 0 (nI 0)) a (fun y1 s2 => bd (f7_in a.toInt64 (lN 1) (lN 3) s2) fun r1 s3 => if r1 = nI 0 then bd (f7_fails (nI 1) s3) (fun r2 s5 => some (r2, s5)) else if lg_cmp b (lN 0) < nI 0 then bd (f7_fails (nI 1) s3) (fun r2 s5 => some (r2, s5)) else if lg_cmp b y1 < nI 0 then bv (f7_copy 0 1 s3) (fun s6 => f7_runScript_l86 a b (fun y2 s7 => bv (f7_copy 1 0 s7) fun s8 => some (y2, s8)) FU y1 (-nI 9) (nI 0) s6) else bd (f7_fails (nI 1) s3) (fun r2 s5 => some (r2, s5)))
      refine hy.trans ?_
      rw [m_in a (nI 1) (nI 3) (by decide) (by decide), bdS, hno, if_pos (show bI false = nI 0 by decide), ← e62, m_fails, bdS]
      rfl
end SCRIPT
