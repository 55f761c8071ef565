/-! append, clearText, load -/
section LOAD
variable {x : Nat → Nat} {L : Nat} {σ ρ σ2 : Mem} {q r : QS} {T B : Nat} {c : Mem}
theorem inv_text (h : Inv σ B) (e : ∀ k o i, k ≠ 2 → k ≠ 24 → k ≠ 54 → k ≠ 61 → k ≠ 62 → σ2 k o i = σ k o i) (ht : Text σ2) {B2 : Nat} (hB : B ≤ B2) : Inv σ2 B2 := by
  obtain ⟨⟨T, hT, hp⟩, ⟨n, c, hn, hc, h53, h52, h60, hR⟩, hS, -⟩ := h
  have hb : ∀ {q : QS} {b T : Nat}, Bus q (cOf σ b) T → Bus q (cOf σ2 b) T := fun hq => hq.mv0 (fun k i hk => by
    have := isB_is hk
    exact e _ _ _ (by omega) (by omega) (by omega) (by omega) (by omega)) (fun k o i hk hk2 ho => by
    have := isM_is hk2
    exact e _ _ _ (by omega) (by omega) (by omega) (by omega) (by omega))
  refine ⟨⟨T, by omega, (hb hp).rows fun j _ => e 20 0 j (by decide) (by decide) (by decide) (by decide) (by decide)⟩, ⟨n, c, hn, hc, (e 53 0 0 (by decide) (by decide) (by decide) (by decide) (by decide)).trans h53, (e 52 0 0 (by decide) (by decide) (by decide) (by decide) (by decide)).trans h52, (e 60 0 0 (by decide) (by decide) (by decide) (by decide) (by decide)).trans h60, fun i hi => ?_⟩, fun a ha => ?_, ht⟩
  · obtain ⟨T2, g1, g2⟩ := hR i hi
    exact ⟨T2, by omega, (hb g2).rows fun j _ => e 21 0 _ (by decide) (by decide) (by decide) (by decide) (by decide)⟩
  · obtain ⟨t, s1, s2, s3⟩ := hS a ha
    refine ⟨t, (e 18 0 a (by decide) (by decide) (by decide) (by decide) (by decide)).trans s1, (e 23 0 a (by decide) (by decide) (by decide) (by decide) (by decide)).trans s2, fun z => ?_⟩
    obtain ⟨T2, g1, g2⟩ := s3 z
    exact ⟨T2, by omega, (hb g2).rows fun j _ => e 22 0 _ (by decide) (by decide) (by decide) (by decide) (by decide)⟩
theorem g_append (a : Int32) : Good (cf2 0 1) (f6_append a) (f7_append a) := by
  intro σ B h hB
  obtain ⟨L, h1, h54, h61, hx⟩ := h.2.2.2
  rcases rng_or a (l := 0) (u := 255) (by omega) (by decide) with ⟨n, -, hn, rfl⟩ | hno
  · have e61 : ms σ 62 0 0 (nI 0) 61 0 0 = nI L := (ms_ne _ _ (by omega)).trans h61
    have e0 : ¬ nI n < nI 0 := nI_pos (by omega)
    have hch : ((nI n).toUInt32 % 65536).toInt32 = nI n := lg_i2c_word (by rw [nI_toInt (by omega)]; omega) (by rw [nI_toInt (by omega)]; omega)
    by_cases hL : L < 120
    · have hcls : f6_append (nI n) σ = some (.inr (nI (L + 1)), ms (ms σ 2 0 L (nI n)) 54 0 0 (nI (L + 1))) := by
        unfold f6_append f3_isFull f3_add
        simp only [lit, nmS]
        rw [if_neg e0, if_pos (nI_le hn (by decide)), h54, if_pos (nI_lt hL (by decide)), bdS, if_pos rfl, hch, h54, if_neg (show ¬ nI L < nI 0 from nI_pos (by omega)), if_neg (show ¬ nI 120 ≤ nI L from nI_ge hL (by omega)), gd_ib hL (by decide), clI (by omega), cb_s hn, show ms σ 2 0 L (nI n) 54 0 0 = nI L from (ms_ne _ _ (by omega)).trans h54, nI_add, ms_eq, bdS]
      have e61' : ms (ms (ms σ 2 0 L (nI n)) 54 0 0 (nI (L + 1))) 62 0 0 (nI 0) 61 0 0 = nI L := by
        rw [ms_ne _ _ (by omega), ms_ne _ _ (by omega), ms_ne _ _ (by omega)]; exact h61
      have href : f7_append (nI n) (ms (ms σ 2 0 L (nI n)) 54 0 0 (nI (L + 1))) = some (nI (L + 1), ms (ms (ms (ms (ms σ 2 0 L (nI n)) 54 0 0 (nI (L + 1))) 62 0 0 (nI 0)) 24 0 L (nI n)) 61 0 0 (nI (L + 1))) := by
        unfold f7_append
        simp only [lit, nmS]
        rw [m_in (nI n) (nI 0) (nI 255) (by decide) (by decide), bdS, rng_in (by omega) hn (by decide), if_neg (show ¬ bI true = nI 0 by decide), e61', if_neg (show ¬ nI L = nI 120 from fun z => by
          have := (nI_eq (by omega) (by decide)).mp z
          omega), gd_ib hL (by decide), clI (by omega), show ms (ms (ms (ms σ 2 0 L (nI n)) 54 0 0 (nI (L + 1))) 62 0 0 (nI 0)) 24 0 L (nI n) 61 0 0 = nI L from (ms_ne _ _ (by omega)).trans e61', nI_add, ms_eq]
      refine ⟨_, _, _, _, hcls, href, inv_text h (fun k o i k1 k2 k3 k4 k5 => ?_) ⟨L + 1, by omega, ?_, ?_, fun i hi => ?_⟩ (by omega), ?_, rfl⟩
      · rw [ms_ne _ _ (by omega), ms_ne _ _ (by omega), ms_ne _ _ (by omega), ms_ne _ _ (by omega), ms_ne _ _ (by omega)]
      · rw [ms_ne _ _ (by omega), ms_ne _ _ (by omega), ms_ne _ _ (by omega), ms_eq]
      · rw [ms_eq]
      · by_cases e : i = L
        · subst e
          refine ⟨n, hn, ?_, ?_⟩
          · rw [ms_ne _ _ (by omega), ms_ne _ _ (by omega), ms_ne _ _ (by omega), ms_ne _ _ (by omega), ms_eq]
          · rw [ms_ne _ _ (by omega), ms_eq]
        · obtain ⟨y, g1, g2, g3⟩ := hx i (by omega)
          refine ⟨y, g1, ?_, ?_⟩
          · rw [ms_ne _ _ (by omega), ms_ne _ _ (by omega), ms_ne _ _ (by omega), ms_ne _ _ (by omega), ms_ne _ _ (by omega)]; exact g2
          · rw [ms_ne _ _ (by omega), ms_ne _ _ (by omega), ms_ne _ _ (by omega), ms_ne _ _ (by omega), ms_ne _ _ (by omega)]; exact g3
      · rw [ms_ne _ _ (by omega), ms_ne _ _ (by omega), ms_eq]; rfl
    · refine refuse h (e := 1) ?_ (by decide) ?_
      · unfold f6_append f3_isFull
        simp only [lit]
        rw [if_neg e0, if_pos (nI_le hn (by decide)), h54, if_neg (show ¬ nI L < nI 120 from fun z => hL ((nI_ltI (by omega) (by decide)).mp z)), bdS, if_neg (show ¬ nI 1 = nI 0 by decide)]
      · unfold f7_append
        simp only [lit, nmS]
        rw [m_in (nI n) (nI 0) (nI 255) (by decide) (by decide), bdS, rng_in (by omega) hn (by decide), if_neg (show ¬ bI true = nI 0 by decide), e61, if_pos (show nI L = nI 120 by rw [show L = 120 by omega]), ← e62, m_fails, bdS]
        rfl
  · refine refuse h (e := 0) ?_ (by decide) ?_
    · unfold f6_append
      simp only [lit]
      by_cases e1 : a < nI 0
      · rw [if_pos e1]
      · rw [if_neg e1, if_neg (not_le_lt.mpr ((rng_no hno).resolve_left e1))]
    · unfold f7_append
      simp only [lit, nmS]
      rw [m_in a (nI 0) (nI 255) (by decide) (by decide), bdS, hno, if_pos (show bI false = nI 0 by decide), ← e62, m_fails, bdS]
      rfl
theorem g_clearText : GoodI f6_clearText f7_clearText := by
  intro σ B h hB
  obtain ⟨L, h1, h54, h61, hx⟩ := h.2.2.2
  have e61 : ms (ms σ 54 0 0 (nI 0)) 62 0 0 (nI 0) 61 0 0 = nI L := by
    rw [ms_ne _ _ (by omega), ms_ne _ _ (by omega)]; exact h61
  refine ⟨nI L, ms σ 54 0 0 (nI 0), ms (ms (ms σ 54 0 0 (nI 0)) 62 0 0 (nI 0)) 61 0 0 (nI 0), ?_, ?_, inv_text h (fun k o i k1 k2 k3 k4 k5 => ?_) ⟨0, by omega, ?_, ?_, fun i hi => absurd hi (Nat.not_lt_zero i)⟩ (by omega)⟩
  · unfold f6_clearText f3_empty
    simp only [lit, nmS]
    rw [h54, bdS]
  · unfold f7_clearText
    simp only [lit, nmS]
    rw [e61]
  · rw [ms_ne _ _ (by omega), ms_ne _ _ (by omega), ms_ne _ _ (by omega)]
  · rw [ms_ne _ _ (by omega), ms_ne _ _ (by omega), ms_eq]
  · rw [ms_eq]
set_option maxHeartbeats 1000000 in
theorem g_load : Good (cf1 1) f6_load f7_load := by
  intro σ B h hB
  have h' := h
  obtain ⟨-, ⟨n, cc, hn, hcc, h53, h52, h60, hR⟩, hS, hX⟩ := h'
  obtain ⟨x, L, t1, t2⟩ := hX.tx
  obtain ⟨ok0, p0, s0, b1, b2, b3, b4, b5, -, -⟩ := both t1 (q1 := σ 20 0) t2 (q2 := σ 20 0) t2
  cases ok0 with
  | false =>
    have hrow : ms s0 62 0 0 (nI 0) 20 0 = σ 20 0 := by
      funext i
      rw [ms_ne _ _ (by omega), b5 20 0 i (by decide) (by decide) (fun z => by cases z.1) (fun z => by cases z.1)]
    have t3 : TxM (ms s0 62 0 0 (nI 0)) x L := t2.mv (by rw [ms_ne _ _ (by omega), b5 61 0 0 (by decide) (by decide) (fun z => by cases z.1) (fun z => by cases z.1)]) (fun i => by rw [ms_ne _ _ (by omega), b5 24 0 i (by decide) (by decide) (fun z => by cases z.1) (fun z => by cases z.1)])
    obtain ⟨ok, p', s2, d1, d2, d3, d4, d5, ⟨ρa, va, d6, d7⟩, -⟩ := both t1 (q1 := σ 20 0) t3 (q2 := σ 20 0) t2
    have hs := d2.symm.trans b2
    obtain ⟨-, hs⟩ := Prod.mk.inj (Option.some.inj hs)
    subst hs
    have hok : ok = false := by
      rw [d4] at b4
      cases ok with
      | false => rfl
      | true => exact absurd b4 (by decide)
    subst hok
    rw [wq_of hrow] at d6
    have e62x : ms (xS ρa (σ 20 0) p' va) 62 0 0 (nI 1) = xS (ms ρa 62 0 0 (nI 1)) (σ 20 0) p' va := xS_ms _ _ _ _ _ _ _ (by omega)
    refine ⟨.inl 1, s2, nI 0, xS (ms ρa 62 0 0 (nI 1)) (σ 20 0) p' va, ?_, ?_, ?_, by decide, ?_⟩
    · unfold f6_load
      simp only [lit, nmS]
      rw [show f3_readInto 15 σ = some (nI p', s2) from d2, bdS, if_neg (show ¬ nI p' = -nI 9 from oN_ne (by omega))]
    · unfold f7_load f7_fails
      simp only [lit, nmS]
      rw [show f7_reads (nI 0) (ms s2 62 0 0 (nI 0)) = some (bI false, xS ρa (σ 20 0) p' va) from d6, bdS, if_pos (show bI false = nI 0 from rfl), bdS, e62x]
    · refine inv_keep h ((kc_keep d5).trans ((keep_ms _ 0 _ (ch_t (by omega) (by omega) 0)).trans ((kr_keep d7).trans ((keep_ms _ 0 _ (ch_t (by omega) (by omega) 0)).trans (keep_xS _ _ _ _))))) (fun k i hk => ?_) (fun k o i hk hk2 ho => ?_) (fun j _ => xS_20 _ _ _ _ _) (by omega)
      · have := isB_is hk
        rw [xS_o _ _ _ _ _ _ (by omega), ms_ne _ _ (by omega), d7 k 0 i (by omega) (by omega), ms_ne _ _ (by omega), d5 k 0 i (by omega) (by omega) (fun z => by omega) (fun z => by omega)]
      · have := isM_is hk2
        rw [xS_o _ _ _ _ _ _ (by omega), ms_ne _ _ (by omega), d7 k _ i (by omega) (by omega), ms_ne _ _ (by omega), d5 k _ i (by omega) (by omega) (fun z => by rw [hk] at z; cases z.1) (fun z => by omega)]
    · rw [xS_o _ _ _ _ _ _ (by omega), ms_eq]; rfl
  | true =>
    -- the class goes on: the present is the trial, the ring and the saves are empty
    obtain ⟨ok9, p9, s9, -, z2, -, z4, -, -, z7⟩ := both t1 (q1 := σ 20 0) t2 (q2 := σ 20 0) t2
    have hs9 := z2.symm.trans b2
    obtain ⟨-, hs9⟩ := Prod.mk.inj (Option.some.inj hs9)
    subst hs9
    have hok9 : ok9 = true := by
      rw [z4] at b4
      cases ok9 with
      | true => rfl
      | false => exact absurd b4 (by decide)
    obtain ⟨-, q9, -, -, -, hb9⟩ := z7 hok9
    obtain ⟨d, hd1, -⟩ := c_copy s9 (o := 0) (a := 15) (by omega) hb9 (cOf s9 0)
    rw [wc_self] at hd1
    generalize hσc : ms (ms (ms (wc s9 0 d) 52 0 0 (nI 0)) 18 0 0 (nI 0)) 18 0 1 (nI 0) = σc
    have co : ∀ k o i, k ≠ 52 → k ≠ 18 → σc k o i = wc s9 0 d k o i := fun k o i k1 k2 => by
      rw [← hσc, ms_ne _ _ (by omega), ms_ne _ _ (by omega), ms_ne _ _ (by omega)]
    have hrow : ms σc 62 0 0 (nI 0) 20 0 = σ 20 0 := by
      funext i
      rw [ms_ne _ _ (by omega), co 20 0 i (by decide) (by decide), wc_row, b5 20 0 i (by decide) (by decide) (fun z => by cases z.1) (fun z => by cases z.1)]
    have t3 : TxM (ms σc 62 0 0 (nI 0)) x L := t2.mv (by rw [ms_ne _ _ (by omega), co _ _ _ (by decide) (by decide), wc_out _ _ _ (by decide) (by decide), b5 61 0 0 (by decide) (by decide) (fun z => by cases z.1) (fun z => by cases z.1)]) (fun i => by rw [ms_ne _ _ (by omega), co _ _ _ (by decide) (by decide), wc_out _ _ _ (by decide) (by decide), b5 24 0 i (by decide) (by decide) (fun z => by cases z.1) (fun z => by cases z.1)])
    -- the first pass of the reference
    obtain ⟨okA, pA, sA, -, dA2, -, dA4, -, ⟨ρa, va, dA6, dA7⟩, -⟩ := both t1 (q1 := σ 20 0) t3 (q2 := σ 20 0) t2
    have hsA := dA2.symm.trans b2
    obtain ⟨-, hsA⟩ := Prod.mk.inj (Option.some.inj hsA)
    subst hsA
    have hokA : okA = true := by
      rw [dA4] at b4
      cases okA with
      | true => rfl
      | false => exact absurd b4 (by decide)
    subst hokA
    rw [wq_of hrow] at dA6
    -- the second pass
    have t4 : TxM (uS ρa pA va) x L := t3.mv (by rw [uS_out _ _ _ _ _ (by omega), dA7 61 0 0 (by decide) (by decide)]) (fun i => by rw [uS_out _ _ _ _ _ (by omega), dA7 24 0 i (by decide) (by decide)])
    obtain ⟨okB, pB', sB, -, dB2, -, dB4, -, -, dB8⟩ := both t1 (q1 := σ 20 0) t3 (q2 := σ 20 0) t4
    have hsB := dB2.symm.trans b2
    obtain ⟨-, hsB⟩ := Prod.mk.inj (Option.some.inj hsB)
    subst hsB
    have hokB : okB = true := by
      rw [dB4] at b4
      cases okB with
      | true => rfl
      | false => exact absurd b4 (by decide)
    obtain ⟨ρb, qb, vb, e1, e2, e3⟩ := dB8 hokB
    have e1 : f7_reads (bI true) (xS ρa (σ 20 0) pA va) = some (bI true, xS ρb qb pB' vb) := e1
    -- the class's end, with this row
    obtain ⟨d', hd1', hd2'⟩ := c_copy sB (o := 0) (a := 15) (by omega) e3 (cOf sB 0)
    rw [wc_self, hd1] at hd1'
    have hwc := Option.some.inj hd1'
    have hbus : Bus qb (cOf (wc sB 0 d) 0) 0 := by rw [hwc]; exact hd2'.put sB
    have hbc : Bus qb (cOf σc 0) 0 := hbus.mv0 (fun k i hk => by
      have := isB_is hk
      exact co k 0 i (by omega) (by omega)) (fun k o i hk hk2 ho => by
      have := isM_is hk2
      exact co k _ i (by omega) (by omega))
    obtain ⟨f, hE⟩ := hbc.1
    have hz := hbc.2.1.sz
    have hwait := c_waiting σc 0 hE hz
    rw [wc_self] at hwait
    have z00 : zb (nI 0) = nI 0 := zb_01 (Or.inl rfl)
    have hcls : f6_load σ = some (.inr (sumF (fun m => mQ qb m 0) (nM qb)), σc) := by
      obtain ⟨m9, hm9⟩ : ∃ m, FU = m + 1 + 1 + 1 := ⟨5997, rfl⟩
      unfold f6_load f4_empty
      simp only [lit, nmS]
      rw [b2, bdS, if_pos rfl, if_pos rfl, hd1, bvS, bvS, hm9, f6_load_l46]
      simp only [lit, nmS]
      rw [if_neg (show ¬ nI 2 ≤ nI 0 by decide), gdI (show ib (nI 0) 2 = true by decide), z00, clI (by decide), nI_add, f6_load_l46]
      simp only [lit, nmS]
      rw [if_neg (show ¬ nI 2 ≤ nI (0 + 1) by decide), gdI (show ib (nI (0 + 1)) 2 = true by decide), z00, clI (by decide), nI_add, f6_load_l46]
      simp only [lit]
      rw [if_pos (show nI 2 ≤ nI (0 + 1 + 1) by decide), hσc, hwait, bdS]
    have w60 : ms (xS ρb qb pB' vb) 60 0 0 (nI 0) = xS (ms ρb 60 0 0 (nI 0)) qb pB' vb := xS_ms _ _ _ _ _ _ _ (by omega)
    have w23 : ∀ (ρ : Mem) i, ms (xS ρ qb pB' vb) 23 0 i (nI 0) = xS (ms ρ 23 0 i (nI 0)) qb pB' vb := fun ρ i => xS_ms _ _ _ _ _ _ _ (by omega)
    generalize hρf : ms (ms (ms ρb 60 0 0 (nI 0)) 23 0 0 (nI 0)) 23 0 1 (nI 0) = ρf
    have href : f7_load σc = some (sumF (fun m => mQ qb m 0) (nM qb), xS ρf qb pB' vb) := by
      unfold f7_load
      simp only [lit, nmS]
      rw [show f7_reads (nI 0) (ms σc 62 0 0 (nI 0)) = some (bI true, xS ρa (σ 20 0) pA va) from dA6, bdS, if_neg (show ¬ bI true = nI 0 by decide), show f7_reads (nI 1) (xS ρa (σ 20 0) pA va) = some (bI true, xS ρb qb pB' vb) from e1, bdS, w60, z00, clI (by decide), clI (by decide), w23, w23, hρf, show f7_allOf (nI 0) (xS ρf qb pB' vb) = some (sumF (fun m => mQ qb m 0) (nM qb), xS ρf qb pB' vb) from m_allOf _ hz (by omega), bdS]
    -- what holds behind it
    have ρf0 : ∀ k o i, k ≠ 60 → k ≠ 23 → ρf k o i = ρb k o i := fun k o i k1 k2 => by
      rw [← hρf, ms_ne _ _ (by omega), ms_ne _ _ (by omega), ms_ne _ _ (by omega)]
    have all : ∀ k o i, k ≠ 60 → k ≠ 23 → k ≠ 25 → ¬ (62 ≤ k ∧ k ≤ 66) → k ≠ 20 → xS ρf qb pB' vb k o i = σc k o i := fun k o i k1 k2 k3 k4 k5 => by
      rw [xS_o _ _ _ _ _ _ (by omega), ρf0 k o i k1 k2, e2 k o i k3 (by omega), uS_out _ _ _ _ _ (by omega), dA7 k o i k3 (by omega), ms_ne _ _ (by omega)]
    have all2 : ∀ k o i, k ≠ 60 → k ≠ 23 → k ≠ 25 → ¬ (62 ≤ k ∧ k ≤ 66) → k ≠ 20 → k ≠ 52 → k ≠ 18 → k ≠ 55 → k ≠ 56 → isB k = false → isM k = false → xS ρf qb pB' vb k o i = σ k o i := fun k o i k1 k2 k3 k4 k5 k6 k7 k8 k9 k10 k11 => by
      rw [all k o i k1 k2 k3 k4 k5, co k o i k6 k7, wc_out _ _ _ k10 k11, b5 k o i k8 k9 (fun z => by rw [k10] at z; cases z.1) (fun z => by rw [k11] at z; cases z.1)]
    refine ⟨_, _, _, _, hcls, href, ⟨⟨0, by omega, ?_⟩, ⟨n, 0, hn, by omega, ?_, ?_, ?_, fun i hi => absurd hi (Nat.not_lt_zero i)⟩, fun a ha => ⟨false, ?_, ?_, fun z => (nomatch z)⟩, ?_⟩, ?_, rfl⟩
    · refine Bus.rows (q := qb) (hbc.mv0 (fun k i hk => ?_) (fun k o i hk hk2 ho => ?_)) (fun j _ => xS_20 _ _ _ _ _)
      · have := isB_is hk
        exact all k 0 i (by omega) (by omega) (by omega) (by omega) (by omega)
      · have := isM_is hk2
        exact all k _ i (by omega) (by omega) (by omega) (by omega) (by omega)
    · exact (all2 53 0 0 (by decide) (by decide) (by decide) (by decide) (by decide) (by decide) (by decide) (by decide) (by decide) (by decide) (by decide)).trans h53
    · rw [all 52 0 0 (by decide) (by decide) (by decide) (by decide) (by decide), ← hσc, ms_ne _ _ (by omega), ms_ne _ _ (by omega), ms_eq]
    · rw [xS_o _ _ _ _ _ _ (by omega), ← hρf, ms_ne _ _ (by omega), ms_ne _ _ (by omega), ms_eq]
    · rw [all 18 0 a (by decide) (by decide) (by decide) (by decide) (by decide), ← hσc]
      by_cases ea : a = 1
      · subst ea; rw [ms_eq]; rfl
      · have : a = 0 := by omega
        subst this
        rw [ms_ne _ _ (by omega), ms_eq]; rfl
    · rw [xS_o _ _ _ _ _ _ (by omega), ← hρf]
      by_cases ea : a = 1
      · subst ea; rw [ms_eq]; rfl
      · have : a = 0 := by omega
        subst this
        rw [ms_ne _ _ (by omega), ms_eq]; rfl
    · have y := fun k o i k1 k2 k3 k4 k5 k6 k7 k8 k9 k10 k11 => all2 k o i k1 k2 k3 k4 k5 k6 k7 k8 k9 k10 k11
      exact hX.of (y 54 0 0 (by decide) (by decide) (by decide) (by decide) (by decide) (by decide) (by decide) (by decide) (by decide) (by decide) (by decide)) (y 61 0 0 (by decide) (by decide) (by decide) (by decide) (by decide) (by decide) (by decide) (by decide) (by decide) (by decide) (by decide)) (fun i => y 2 0 i (by decide) (by decide) (by decide) (by decide) (by decide) (by decide) (by decide) (by decide) (by decide) (by decide) (by decide)) (fun i => y 24 0 i (by decide) (by decide) (by decide) (by decide) (by decide) (by decide) (by decide) (by decide) (by decide) (by decide) (by decide))
    · rw [xS_o _ _ _ _ _ _ (by omega), ρf0 _ _ _ (by decide) (by decide), e2 62 0 0 (by decide) (by decide), uS_out _ _ _ _ _ (by omega), dA7 62 0 0 (by decide) (by decide), ms_eq]; rfl
end LOAD
