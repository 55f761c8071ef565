/-! simulate -/
section SIM
variable {q r : QS} {T B : Nat} {σ : Mem} {c : Mem}
theorem sh33 (x : Int64) : ∃ n, n < 2 ^ 31 ∧ ((x.toUInt64 >>> ((nI 33).toInt64.toUInt64 &&& Int64.toUInt64 63)).toInt64).toInt32 = nI n := by
  have hb := x.toBitVec.isLt
  have hk : ((nI 33).toInt64.toUInt64 &&& Int64.toUInt64 63) = 33 := by decide +kernel
  rw [hk]
  have e2 : ((x.toUInt64 >>> (33 : UInt64)).toInt64).toBitVec.toNat = x.toBitVec.toNat / 2 ^ 33 := by
    simp only [UInt64.toBitVec_toInt64, UInt64.toBitVec_shiftRight, Int64.toBitVec_toUInt64]
    simp [BitVec.toNat_ushiftRight, Nat.shiftRight_eq_div_pow]
  have hlt : x.toBitVec.toNat / 2 ^ 33 < 2 ^ 31 := by omega
  have e3 : ((x.toUInt64 >>> (33 : UInt64)).toInt64).toInt = ((x.toBitVec.toNat / 2 ^ 33 : Nat) : Int) := by
    have : ((x.toUInt64 >>> (33 : UInt64)).toInt64).toInt = ((x.toUInt64 >>> (33 : UInt64)).toInt64).toBitVec.toInt := rfl
    rw [this, BitVec.toInt_eq_toNat_cond, e2, if_pos (by omega)]
  refine ⟨x.toBitVec.toNat / 2 ^ 33, hlt, ?_⟩
  generalize x.toBitVec.toNat / 2 ^ 33 = n at e3 hlt
  apply Int32.toInt_inj.mp
  rw [Jvm.Kit.i32_of_i64 (by rw [e3]; omega) (by rw [e3]; omega), e3, nI_toInt hlt]
/-! counting bits -/
def bcV (a : Int32) : Int32 :=
  nm (a - (((a.toUInt32 >>> ((1 : Int32).toUInt32 &&& Int32.toUInt32 31)).toInt32) &&& (1431655765 : Int32))) fun x1 => nm ((x1 &&& (858993459 : Int32)) + (((x1.toUInt32 >>> ((2 : Int32).toUInt32 &&& Int32.toUInt32 31)).toInt32) &&& (858993459 : Int32))) fun x2 => nm ((x2 + ((x2.toUInt32 >>> ((4 : Int32).toUInt32 &&& Int32.toUInt32 31)).toInt32)) &&& (252645135 : Int32)) fun x3 => nm (x3 + ((x3.toUInt32 >>> ((8 : Int32).toUInt32 &&& Int32.toUInt32 31)).toInt32)) fun x4 => nm (x4 + ((x4.toUInt32 >>> ((16 : Int32).toUInt32 &&& Int32.toUInt32 31)).toInt32)) fun x5 => x5 &&& (63 : Int32)
theorem bc_is (a : Int32) (s : Mem) : fJ_bitCount a s = some (bcV a, s) := Eq.trans rfl rfl
theorem bc_t : ∀ (a0 a1 a2 a3 a4 a5 : Bool) (n : Fin 7), bcV (mk (bL a0 a1 a2 a3 a4 a5) n.val) = sumF (fun m => bI (bL a0 a1 a2 a3 a4 a5 m)) n.val := by decide +kernel
theorem bc_mk {p : Nat → Bool} {n : Nat} (hn : n ≤ 6) : bcV (mk p n) = sumF (fun m => bI (p m)) n := by
  rw [mk_congr (r := bL (p 0) (p 1) (p 2) (p 3) (p 4) (p 5)) (fun i hi => bL_is p (by omega)), bc_t _ _ _ _ _ _ ⟨n, by omega⟩]
  exact sumF_congr fun i hi => by rw [← bL_is p (by omega)]
theorem m_sim160 (ρ : Mem) (hz : Sz r) (k : Int32 → Mem → Option (Int32 × Mem)) : f7_simulate_l160 k FU (nI 0) (nI 0) (wq ρ r) = k (sumF (fun m => bI (bkQ r m)) (nM r)) (wq ρ r) := by
  obtain ⟨g1, g2, g3⟩ := hz.M
  have hN : 20 < FU := by decide
  generalize FU = N at hN ⊢
  refine lup (fun n (z : Int32 × Int32) => f7_simulate_l160 k n z.1 z.2 (wq ρ r)) (fun i => (sumF (fun m => bI (bkQ r m)) i, nI i)) (nM r) _ ?_ ?_ (nM r) 0 N (by omega) (by omega)
  · intro n i hi
    show f7_simulate_l160 _ (n + 1) (sumF (fun m => bI (bkQ r m)) i) (nI i) _ = f7_simulate_l160 _ n (sumF (fun m => bI (bkQ r m)) i + bI (bkQ r i)) (nI (i + 1)) _
    rw [f7_simulate_l160]
    simp only [lit, nmS, wq_get, clI (show 0 < 2 ^ 31 by decide)]
    rw [g1, if_neg (nI_ge hi (by omega)), f7_isBankrupt_s, bdS, nI_add]
    cases bkQ r i with
    | true => rw [if_neg (show ¬ bI true = nI 0 by decide)]; rfl
    | false => rw [if_pos (show bI false = nI 0 by decide)]; rfl
  · intro n
    show f7_simulate_l160 _ (n + 1) _ (nI (nM r)) _ = _
    rw [f7_simulate_l160]
    simp only [lit, wq_get, clI (show 0 < 2 ^ 31 by decide)]
    rw [g1, if_pos (nI_le (Nat.le_refl _) (by omega))]
/-! a burst that is drawn -/
def rd7 (j2 : Mem → Option (Int32 × Mem)) (n M : Nat) (s : Mem) : Option (Int32 × Mem) := if nI (n % 3) = nI 0 then bd (f7_canSend (nI (n / 4 % M)) s) fun r5 s15 => (if r5 = nI 0 then j2 s15 else bd (f7_sends (nI (n / 4 % M)) (nI (n / 64 % 4)) (nI (1 + n / 256 % 8)) (nI (n / 2048 % 2)) s15) fun _ s16 => j2 s16) else j2 s
theorem dig {n a b : Nat} (hn : n < 2 ^ 31) (ha : 0 < a) (ha2 : a < 2 ^ 31) (hb : 0 < b) (hb2 : b < 2 ^ 31) : nI n / nI a - nI n / nI a / nI b * nI b = nI (n / a % b) := by
  rw [pk_div hn ha ha2, pk_rem (Nat.lt_of_le_of_lt (Nat.div_le_self _ _) hn) hb hb2]
set_option maxHeartbeats 1000000 in
theorem draw (h : Bus r c T) {n : Nat} (hn : n < 2 ^ 31) : ∃ r1 c1, f6_drawBurst (nI n) (wc σ 15 c) = some (wc σ 15 c1) ∧ Bus r1 c1 T ∧ r1 3 = r 3 ∧ ∀ (ρ : Mem) (j2 : Mem → Option (Int32 × Mem)), rd7 j2 n (nM r) (wq ρ r) = j2 (wq ρ r1) := by
  obtain ⟨f, hE⟩ := h.1
  have hM := h.2.1.sz.M
  have e30 : wc σ 15 c 30 15 0 = nI (nM r) := (wc_b _ _ (by decide) _).trans (hE.t0.trans hM.1)
  have hm : n / 4 % nM r < nM r := Nat.mod_lt _ (by omega)
  have hm6 : n / 4 % nM r < 6 := by omega
  unfold f6_drawBurst rd7
  simp only [lit, nmS]
  rw [if_neg (show ¬ nI n < nI 0 from nI_pos hn), pk_rem hn (by decide) (by decide), e30, if_pos (show nI 1 ≤ nI (nM r) from nI_le (by omega) (by omega)), gd_nz (by omega) (by omega), dig hn (by decide) (by decide) (by omega) (by omega), gd_ib hm6 (by decide), clI (by omega), c_takes σ 15 hE h.2.1.sz hm6, bdS, dig hn (by decide) (by decide) (by decide) (by decide), dig hn (by decide) (by decide) (by decide) (by decide), dig hn (by decide) (by decide) (by decide) (by decide), nI_add]
  by_cases e3 : nI (n % 3) = nI 0
  · rw [if_pos e3]
    cases ht : (!bkQ r (n / 4 % nM r) && decide (nB r (n / 4 % nM r) < 6)) with
    | true =>
      have hB6 : nB r (n / 4 % nM r) < 6 := by
        rw [Bool.and_eq_true] at ht
        exact of_decide_eq_true ht.2
      have h2 : n / 2048 % 2 = 0 ∨ n / 2048 % 2 = 1 := by omega
      have hv : nI (n / 2048 % 2) = 0 ∨ nI (n / 2048 % 2) = 1 := by
        rcases h2 with z | z
        · rw [z]; exact Or.inl rfl
        · rw [z]; exact Or.inr rfl
      obtain ⟨c1, j1, j2, j3⟩ := c_addB σ 15 h hm hB6 (show n / 64 % 4 < 4 by omega) (show 1 ≤ 1 + n / 256 % 8 by omega) (by omega) hv
      refine ⟨_, c1, ?_, j2, ?_, fun ρ j2' => ?_⟩
      · rw [if_neg (show ¬ bI true = nI 0 by decide)]
        rcases h2 with z | z
        · rw [z] at j1 ⊢
          rw [if_neg (show ¬ nI 0 = nI 1 by decide), j1, bvS]
        · rw [z] at j1 ⊢
          rw [if_pos (show nI 1 = nI 1 from rfl), j1, bvS]
      · rw [qs_ne _ _ (by omega), qs_ne _ _ (by omega), qs_ne _ _ (by omega), qs_ne _ _ (by omega)]
      · rw [if_pos e3, m_can ρ h.2.1.sz hm6, ht, bdS, if_neg (show ¬ bI true = nI 0 by decide), m_sends ρ h.2.1.sz hm6 hB6, bdS]
    | false =>
      refine ⟨r, c, ?_, h, rfl, fun ρ j2' => ?_⟩
      · rw [if_pos (show bI false = nI 0 by decide)]
      · rw [if_pos e3, m_can ρ h.2.1.sz hm6, ht, bdS, if_pos (show bI false = nI 0 by decide)]
  · exact ⟨r, c, if_neg e3, h, rfl, fun ρ j2' => if_neg e3⟩
theorem tkQ_3 (h : Wb T T T r) (hT : r 2 = nI T) (hT2 : T < 2 ^ 28) : tkQ r 3 = r 3 + if (tk1 r).1 = none then 1 else 0 := by
  have etk : tkQ r = qs (qs (qs (tk4 r) 3 (tk4 r 3 + if (tk1 r).1 = none then 1 else 0)) 5 (oN (tk1 r).1)) 2 (tk4 r 2 + 1) := rfl
  rw [etk, qs_ne _ _ (by decide), qs_ne _ _ (by decide), qs_same, (tk4_out h hT (by omega) (i := 3) (by omega)).1]
set_option maxHeartbeats 2000000 in
theorem sim_loop {m T0 : Nat} {x0 : Int32} (hm : m ≤ 200) (hT0 : T0 + 1000 < 2 ^ 27) (k6 : Mem → Option ((Nat ⊕ Int32) × Mem)) (k7 : Int32 → Mem → Option (Int32 × Mem)) : ∀ d i k (c : Mem) (r : QS) (x : Int64) (y : Int32), i + d = m → d < k → Bus r c (T0 + i) → r 3 = y + x0 → ∃ c' r' y', f6_simulate_l48 (nI m) k6 k x (nI i) (wc σ 15 c) = k6 (wc σ 15 c') ∧ Bus r' c' (T0 + m) ∧ r' 3 = y' + x0 ∧
    ∀ ρ, f7_simulate_l43 (nI m) k7 k x y (nI i) (wq ρ r) = k7 y' (wq ρ r') := by
  intro d
  induction d with
  | zero =>
    intro i k c r x y h1 h2 hb hy
    obtain rfl : i = m := h1
    obtain ⟨k, rfl⟩ : ∃ z, k = z + 1 := ⟨k - 1, by omega⟩
    refine ⟨c, r, y, ?_, hb, hy, fun ρ => ?_⟩
    · rw [f6_simulate_l48, if_pos (nI_le (Nat.le_refl _) (by omega))]
    · rw [f7_simulate_l43, if_pos (nI_le (Nat.le_refl _) (by omega))]
  | succ d ih =>
    intro i k c r x y h1 h2 hb hy
    obtain ⟨k, rfl⟩ : ∃ z, k = z + 1 := ⟨k - 1, by omega⟩
    have hM := hb.2.1.sz.M
    obtain ⟨n, hn, hx⟩ := sh33 (x * (6364136223846793005 : Int64) + (1442695040888963407 : Int64))
    obtain ⟨r1, c1, d1, d2, d3, d4⟩ := draw (σ := σ) hb hn
    obtain ⟨c2, s1, s2⟩ := d2.step (by omega) σ 15
    have ht := d2.2.1.tick d2.2.2 (by omega)
    have hM1 := d2.2.1.sz.M
    obtain ⟨c', r', y', i1, i2, i3, i4⟩ := ih (i + 1) k c2 (tkQ r1) (x * (6364136223846793005 : Int64) + (1442695040888963407 : Int64)) (y + if (tk1 r1).1 = none then 1 else 0) (by omega) (by omega) s2 (by
      rw [tkQ_3 d2.2.1 d2.2.2 (by omega), d3, hy, Int32.add_assoc, Int32.add_comm x0, ← Int32.add_assoc])
    refine ⟨c', r', y', ?_, i2, i3, fun ρ => ?_⟩
    · rw [← i1, f6_simulate_l48]
      simp only [lit, nmS]
      rw [if_neg (nI_ge (show i < m by omega) (by omega)), hx, d1, bvS, s1, bvS, nI_add]
    · rw [← i4 ρ, f7_simulate_l43]
      simp only [lit, nmS, wq_get, clI (show 0 < 2 ^ 31 by decide)]
      rw [if_neg (nI_ge (show i < m by omega) (by omega)), hx, hM.1, gd_nz (by omega) (by omega), dig hn (by decide) (by decide) (by omega) (by omega), pk_rem hn (by decide) (by decide), dig hn (by decide) (by decide) (by decide) (by decide), dig hn (by decide) (by decide) (by decide) (by decide), dig hn (by decide) (by decide) (by decide) (by decide), nI_add, nI_add]
      refine (d4 ρ (fun s12 => bd (f7_tick s12) fun r4 s13 => if nI 0 ≤ r4 then f7_simulate_l43 (nI m) k7 k (x * (6364136223846793005 : Int64) + (1442695040888963407 : Int64)) (y + nI 0) (nI (i + 1)) s13 else f7_simulate_l43 (nI m) k7 k (x * (6364136223846793005 : Int64) + (1442695040888963407 : Int64)) (y + nI 1) (nI (i + 1)) s13)).trans ?_
      rw [ht.ref, bdS]
      cases hk : (tk1 r1).1 with
      | none => rw [if_neg (show ¬ nI 0 ≤ oI none by decide), if_pos rfl]
      | some w =>
        have := (ht.who w hk).1
        rw [if_pos (show nI 0 ≤ oI (some w) from nI_le (Nat.zero_le w) (by omega)), if_neg (fun z => nomatch z)]
set_option maxHeartbeats 1000000 in
theorem g_simulate (a : Int64) (b : Int32) : Good (cf1 0) (f6_simulate a b) (f7_simulate a b) := by
  intro σ B h hB
  obtain ⟨T, hT, hp⟩ := h.1
  rcases rng_or b (l := 1) (u := 200) (by omega) (by decide) with ⟨m, hm, hm2, rfl⟩ | hno
  · obtain ⟨c1, hc1, hc2⟩ := c_copy σ (o := 15) (a := 0) (by omega) hp (cOf σ 15)
    rw [wc_self] at hc1
    have hF : 0 + 200 < FU := by decide
    obtain ⟨c', r', y', l1, l2, l3, l4⟩ := sim_loop (σ := σ) (m := m) (T0 := T) (x0 := σ 20 0 3) hm2 (by omega) (fun s2 => bd (f2_waitingBursts 15 s2) fun r1 s3 => bd (f2_bankruptBits 15 s3) fun r2 s4 => bd (fJ_bitCount r2 s4) fun r3 s5 => some (.inr ((((nI 1000) * ((s2 33 15 0) - σ 20 0 3)) + ((nI 10) * r1)) + r3), s5)) (fun y1 s4 => f7_simulate_l160 (fun y2 s5 => bd (f7_allOf (nI 0) s5) fun r2 s6 => bv (f7_copy 1 0 s6) fun s7 => some (((nI 1000) * y1 + (nI 10) * r2) + y2, s7)) FU (nI 0) (nI 0) s4) m 0 FU c1 (σ 20 0) a (nI 0) (by omega) (by omega) hc2 (by rw [show nI 0 = (0 : Int32) from rfl, Int32.zero_add])
    obtain ⟨f, hE⟩ := l2.1
    have hz := l2.2.1.sz
    have hM := hz.M
    have hrow2 : ms (wc σ 15 c') 62 0 0 (nI 0) 20 0 = σ 20 0 := (row62 _ _).trans (wc_row σ 15 c')
    obtain ⟨q2, m1, m2⟩ := cp_in (w2 (ms (wc σ 15 c') 62 0 0 (nI 0)) 1 (σ 20 0)) (σ 20 0) r' (a := 1) (by decide) (fun i hi => w2_in _ 1 _ hi)
    have e33 : wc σ 15 c1 33 15 0 = σ 20 0 3 := by
      obtain ⟨f1, hE1⟩ := hc2.1
      exact (wc_b _ _ (by decide) _).trans hE1.tx
    have e33' : wc σ 15 c' 33 15 0 = y' + σ 20 0 3 := (wc_b _ _ (by decide) _).trans (hE.tx.trans l3)
    refine ⟨.inr (nI 1000 * y' + nI 10 * sumF (fun m => mQ r' m 0) (nM r') + sumF (fun m => bI (bkQ r' m)) (nM r')), wc σ 15 c', nI 1000 * y' + nI 10 * sumF (fun m => mQ r' m 0) (nM r') + sumF (fun m => bI (bkQ r' m)) (nM r'), wq (w2 (ms (wc σ 15 c') 62 0 0 (nI 0)) 1 (σ 20 0)) q2, ?_, ?_, ?_, ?_, rfl⟩
    · unfold f6_simulate
      simp only [lit, nmS]
      rw [if_neg (show ¬ nI m < nI 1 from fun z => by
        have := (nI_ltI (by omega) (by omega)).mp z
        omega), if_pos (nI_le hm2 (by decide)), hc1, bvS, e33]
      refine l1.trans ?_
      rw [c_waiting σ 15 hE hz, bdS, c_bits σ 15 hE hz, bdS, bc_is, bdS, e33', Int32.add_sub_cancel, bc_mk hM.2.1]
    · unfold f7_simulate
      simp only [lit, nmS]
      rw [m_in (nI m) (nI 1) (nI 200) (by decide) (by decide), bdS, rng_in hm hm2 (by decide), if_neg (show ¬ bI true = nI 0 by decide), ← wq_of hrow2, cp_out _ _ (by decide), bvS]
      refine (l4 _).trans ?_
      rw [m_sim160 _ hz, m_allOf _ hz (by omega), bdS, m1, bvS, wq_of hrow2]
    · refine trial h (t15_wc σ c' (Or.inl rfl)) (fun k o i z1 z2 => ?_) (fun j hj => ?_)
      · rw [wq_other _ _ _ (by omega), w2_out _ _ _ (by omega), ms_ne _ _ (by omega)]
      · rw [wq_get]; exact m2 j hj
    · rw [wq_other _ _ _ (by omega), w2_out _ _ _ (by omega), ms_eq]; rfl
  · refine refuse h (e := 0) ?_ (by decide) ?_
    · unfold f6_simulate
      simp only [lit]
      by_cases e1 : b < nI 1
      · rw [if_pos e1]
      · rw [if_neg e1, if_neg (not_le_lt.mpr ((rng_no hno).resolve_left e1))]
    · unfold f7_simulate
      simp only [lit, nmS]
      rw [m_in b (nI 1) (nI 200) (by decide) (by decide), bdS, hno, if_pos (show bI false = nI 0 by decide), ← e62, m_fails, bdS]
      rfl
end SIM
