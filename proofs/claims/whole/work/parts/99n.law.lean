/-! THE LAW: its loop, its start -/
section LAW
variable {κ : Kx} {φ : Fr} {Q : State → Prop} {b Ls : Nat} {xs : Nat → Int32}
theorem idx_of {i : Nat} (hL : Ls ≤ 2560) (hi : i ≤ Ls) (h5 : i = 0 ∨ 5 ≤ i) (h : ¬ nI Ls - nI 5 < nI i) : i + 5 ≤ Ls := by
  rcases Nat.lt_or_ge Ls 5 with q | q
  · obtain rfl : i = 0 := by omega
    rcases (show Ls = 0 ∨ Ls = 1 ∨ Ls = 2 ∨ Ls = 3 ∨ Ls = 4 by omega) with rfl | rfl | rfl | rfl | rfl
    all_goals exact absurd (by decide) h
  · obtain ⟨m, rfl⟩ : ∃ m, Ls = m + 5 := ⟨Ls - 5, by omega⟩
    have e : nI (m + 5) - nI 5 = nI m := by
      rw [← nI_add]
      exact Int32.add_sub_cancel _ _
    rw [e] at h
    rcases Nat.lt_or_ge m i with q2 | q2
    · exact absurd (nI_lt q2 (by omega)) h
    · omega
theorem inv_up {σ : Mem} {B B2 : Nat} (h : Inv σ B) (hB : B ≤ B2) : Inv σ B2 := by
  obtain ⟨⟨T, hT, hb⟩, h2⟩ := h
  exact ⟨⟨T, Nat.le_trans hT hB, hb⟩, h2.keep (Keep.refl σ) hB⟩
theorem g_conv {V V2 : Wv} {k n pc : Nat} {σ : Mem} {L : List (Nat × Value)} {st : List Value} (h : ∀ H : Heap, RelH κ V σ H → RelH κ V2 σ H) (kk : G κ φ Q V2 k n σ L pc st) : G κ φ Q V k n σ L pc st := by
  obtain ⟨p, l, e, R, s, m, args, below, meth, c⟩ := φ
  intro H locs ls hR hS hl
  exact kk H locs ls (h H hR) hS hl
theorem inc5 (m : Nat) : nI m + Int32.ofInt 5 = nI (m + 5) := nI_add m 5
set_option maxHeartbeats 8000000 in
theorem law_loop (hc : Cx κ φ RL cL_law 7 room_1) (hX : Xs κ φ b Ls xs) (hL : Ls ≤ 2560) (hend : ∀ (V : Wv) (k n : Nat) (σ : Mem) (L : List (Nat × Value)), k ≤ 601024 → n ≤ 7293034 → G κ φ Q V k n σ L 1678 [.int 1]) :
    ∀ (d t : Nat) (σ : Mem) (τ : Nat → Int64), 5 * t ≤ Ls → Ls < 5 * t + 5 * (d + 1) → Inv σ (100 * t) → G κ φ Q (NV κ τ) (1005 + 4 * t) (12304 + 24 * t) σ (LL κ b (5 * t)) 23 [] := by
  intro d
  induction d with
  | zero =>
    intro t σ τ h1 h2 hσ
    show G κ φ Q (NV κ τ) _ _ σ [(0, .ref b), (1, .ref (ad κ.1 0 0)), (2, .ref (ad κ.1 19 0)), (3, .ref (ad κ.1 26 0)), (4, .int (nI (5 * t)))] 23 []
    refine g_iload hc 4 rfl dL_law_23 (pc2 := 25) rfl ?_
    refine g_aload_n (i := 0) hc 0 rfl rfl dL_law_25 (pc2 := 26) rfl ?_
    refine g_slen hc hX dL_law_26 (pc2 := 27) rfl ?_
    refine g_iconst (v := (5 : Int32)) hc (by decide) dL_law_27 (pc2 := 28) rfl ?_
    refine g_isub hc dL_law_28 (pc2 := 29) rfl ?_
    refine g_icmp_gt hc 1677 (by decide) dL_law_29 (pc2 := 32) rfl (fun q => ?_) (fun q => absurd (idx_of hL h1 (by omega) q) (by omega))
    refine g_iconst (v := (1 : Int32)) hc (by decide) dL_law_1677 (pc2 := 1678) rfl ?_
    exact hend _ _ _ _ _ (by omega) (by omega)
  | succ d ih =>
    intro t σ τ h1 h2 hσ
    show G κ φ Q (NV κ τ) _ _ σ [(0, .ref b), (1, .ref (ad κ.1 0 0)), (2, .ref (ad κ.1 19 0)), (3, .ref (ad κ.1 26 0)), (4, .int (nI (5 * t)))] 23 []
    refine g_iload hc 4 rfl dL_law_23 (pc2 := 25) rfl ?_
    refine g_aload_n (i := 0) hc 0 rfl rfl dL_law_25 (pc2 := 26) rfl ?_
    refine g_slen hc hX dL_law_26 (pc2 := 27) rfl ?_
    refine g_iconst (v := (5 : Int32)) hc (by decide) dL_law_27 (pc2 := 28) rfl ?_
    refine g_isub hc dL_law_28 (pc2 := 29) rfl ?_
    refine g_icmp_gt hc 1677 (by decide) dL_law_29 (pc2 := 32) rfl (fun q => ?_) (fun q => ?_)
    · refine g_iconst (v := (1 : Int32)) hc (by decide) dL_law_1677 (pc2 := 1678) rfl ?_
      exact hend _ _ _ _ _ (by omega) (by omega)
    · have hi : 5 * t + 5 ≤ Ls := idx_of hL h1 (by omega) q
      have hB : 100 * t + 3000 < 2 ^ 27 := by omega
      have hk : 1005 + 4 * t + 4 ≤ 601024 := by omega
      have hn : 12304 + 24 * t + 24 ≤ 7293034 := by omega
      have kk : ∀ (τ2 : Nat → Int64) (σ2 : Mem), Inv σ2 (100 * t + 100) → G κ φ Q (NV κ τ2) (1005 + 4 * t + 4) (12304 + 24 * t + 24) σ2 (LL κ b (5 * t)) 1671 [] := by
        intro τ2 σ2 h
        show G κ φ Q (NV κ τ2) _ _ σ2 [(0, .ref b), (1, .ref (ad κ.1 0 0)), (2, .ref (ad κ.1 19 0)), (3, .ref (ad κ.1 26 0)), (4, .int (nI (5 * t)))] 1671 []
        refine g_iinc (v := nI (5 * t + 5)) (L1 := [(4, .int (nI (5 * t + 5))), (0, .ref b), (1, .ref (ad κ.1 0 0)), (2, .ref (ad κ.1 19 0)), (3, .ref (ad κ.1 26 0))]) hc 4 rfl (inc5 _) (by decide) rfl dL_law_1671 (pc2 := 1674) rfl ?_
        refine g_goto hc 23 (by decide) dL_law_1674 ?_
        refine g_sub [1, 2, 3, 4, 0] rfl ?_
        have h9 := ih (t + 1) σ2 τ2 (by omega) (by omega) (by rw [show 100 * (t + 1) = 100 * t + 100 by omega]; exact h)
        rw [show 5 * (t + 1) = 5 * t + 5 by omega, show 1005 + 4 * (t + 1) = 1005 + 4 * t + 4 by omega, show 12304 + 24 * (t + 1) = 12304 + 24 * t + 24 by omega] at h9
        exact h9
      refine g_aload_n (i := 0) hc 0 rfl rfl dL_law_32 (pc2 := 33) rfl ?_
      refine g_iload hc 4 rfl dL_law_33 (pc2 := 35) rfl ?_
      refine g_sld hc hX (ib_nI (by omega) (by omega)) dL_law_35 (pc2 := 36) rfl ?_
      refine g_bipush (v := (31 : Int32)) hc (by decide) dL_law_36 (pc2 := 38) rfl ?_
      refine g_iand hc dL_law_38 (pc2 := 39) rfl ?_
      obtain ⟨v, hv⟩ : ∃ v, v = xs (nI (5 * t)).toNatClampNeg &&& (31 : Int32) := ⟨_, rfl⟩
      refine g_nmi hv ?_
      by_cases e0 : v = 0
      · refine g_case hc 156 (0 : Int32) e0 (by decide) (by decide) rfl (by decide) dL_law_39 ?_
        exact law_append hc hX hL hi hσ hB hk hn kk
      by_cases e1 : v = 1
      · refine g_case hc 212 (1 : Int32) e1 (by decide) (by decide) rfl (by decide) dL_law_39 ?_
        exact law_clearText hc hX hL hi hσ hB hk hn kk
      by_cases e2 : v = 2
      · refine g_case hc 225 (2 : Int32) e2 (by decide) (by decide) rfl (by decide) dL_law_39 ?_
        exact law_errorPosition hc hX hL hi hσ hB hk hn kk
      by_cases e3 : v = 3
      · refine g_case hc 238 (3 : Int32) e3 (by decide) (by decide) rfl (by decide) dL_law_39 ?_
        exact law_load hc hX hL hi hσ hB hk hn kk
      by_cases e4 : v = 4
      · refine g_case hc 282 (4 : Int32) e4 (by decide) (by decide) rfl (by decide) dL_law_39 ?_
        exact law_about hc hX hL hi hσ hB hk hn kk
      by_cases e5 : v = 5
      · refine g_case hc 338 (5 : Int32) e5 (by decide) (by decide) rfl (by decide) dL_law_39 ?_
        exact law_master hc hX hL hi hσ hB hk hn kk
      by_cases e6 : v = 6
      · refine g_case hc 406 (6 : Int32) e6 (by decide) (by decide) rfl (by decide) dL_law_39 ?_
        exact law_owner hc hX hL hi hσ hB hk hn kk
      by_cases e7 : v = 7
      · refine g_case hc 462 (7 : Int32) e7 (by decide) (by decide) rfl (by decide) dL_law_39 ?_
        exact law_owes hc hX hL hi hσ hB hk hn kk
      by_cases e8 : v = 8
      · refine g_case hc 530 (8 : Int32) e8 (by decide) (by decide) rfl (by decide) dL_law_39 ?_
        exact law_burst hc hX hL hi hσ hB hk hn kk
      by_cases e9 : v = 9
      · refine g_case hc 610 (9 : Int32) e9 (by decide) (by decide) rfl (by decide) dL_law_39 ?_
        exact law_order hc hX hL hi hσ hB hk hn kk
      by_cases e10 : v = 10
      · refine g_case hc 666 (10 : Int32) e10 (by decide) (by decide) rfl (by decide) dL_law_39 ?_
        exact law_addMaster hc hX hL hi hσ hB hk hn kk
      by_cases e11 : v = 11
      · refine g_case hc 710 (11 : Int32) e11 (by decide) (by decide) rfl (by decide) dL_law_39 ?_
        exact law_give hc hX hL hi hσ hB hk hn kk
      by_cases e12 : v = 12
      · refine g_case hc 778 (12 : Int32) e12 (by decide) (by decide) rfl (by decide) dL_law_39 ?_
        exact law_setLatency hc hX hL hi hσ hB hk hn kk
      by_cases e13 : v = 13
      · refine g_case hc 846 (13 : Int32) e13 (by decide) (by decide) rfl (by decide) dL_law_39 ?_
        exact law_setCredit hc hX hL hi hσ hB hk hn kk
      by_cases e14 : v = 14
      · refine g_case hc 902 (14 : Int32) e14 (by decide) (by decide) rfl (by decide) dL_law_39 ?_
        by_cases h4 : xs (nI (5 * t) + 4).toNatClampNeg = 0
        · exact law_send_0 hc hX hL hi hσ hB hk hn h4 kk
        · exact law_send_1 hc hX hL hi hσ hB hk hn h4 kk
      by_cases e15 : v = 15
      · refine g_case hc 1010 (15 : Int32) e15 (by decide) (by decide) rfl (by decide) dL_law_39 ?_
        exact law_pass hc hX hL hi hσ hB hk hn kk
      by_cases e16 : v = 16
      · refine g_case hc 1066 (16 : Int32) e16 (by decide) (by decide) rfl (by decide) dL_law_39 ?_
        exact law_forgive hc hX hL hi hσ hB hk hn kk
      by_cases e17 : v = 17
      · refine g_case hc 1134 (17 : Int32) e17 (by decide) (by decide) rfl (by decide) dL_law_39 ?_
        exact law_undo hc hX hL hi hσ hB hk hn kk
      by_cases e18 : v = 18
      · refine g_case hc 1178 (18 : Int32) e18 (by decide) (by decide) rfl (by decide) dL_law_39 ?_
        exact law_turnIn hc hX hL hi hσ hB hk hn kk
      by_cases e19 : v = 19
      · refine g_case hc 1234 (19 : Int32) e19 (by decide) (by decide) rfl (by decide) dL_law_39 ?_
        exact law_doneIn hc hX hL hi hσ hB hk hn kk
      by_cases e20 : v = 20
      · refine g_case hc 1290 (20 : Int32) e20 (by decide) (by decide) rfl (by decide) dL_law_39 ?_
        exact law_bestCredit hc hX hL hi hσ hB hk hn kk
      by_cases e21 : v = 21
      · refine g_case hc 1303 (21 : Int32) e21 (by decide) (by decide) rfl (by decide) dL_law_39 ?_
        exact law_bestSlot hc hX hL hi hσ hB hk hn kk
      by_cases e22 : v = 22
      · refine g_case hc 1359 (22 : Int32) e22 (by decide) (by decide) rfl (by decide) dL_law_39 ?_
        exact law_runScript hc hX hL hi hσ hB hk hn kk
      by_cases e23 : v = 23
      · refine g_case hc 1459 (23 : Int32) e23 (by decide) (by decide) rfl (by decide) dL_law_39 ?_
        exact law_simulate hc hX hL hi hσ hB hk hn kk
      by_cases e24 : v = 24
      · refine g_case hc 1559 (24 : Int32) e24 (by decide) (by decide) rfl (by decide) dL_law_39 ?_
        exact law_save hc hX hL hi hσ hB hk hn kk
      by_cases e25 : v = 25
      · refine g_case hc 1615 (25 : Int32) e25 (by decide) (by decide) rfl (by decide) dL_law_39 ?_
        exact law_restore hc hX hL hi hσ hB hk hn kk
      refine g_tableOut hc 1671 ?_ (by decide) dL_law_39 (g_widen (by omega) (by omega) (kk τ σ ?_))
      · have n0 : v.toInt ≠ 0 := ne_i e0 (by decide)
        have n1 : v.toInt ≠ 1 := ne_i e1 (by decide)
        have n2 : v.toInt ≠ 2 := ne_i e2 (by decide)
        have n3 : v.toInt ≠ 3 := ne_i e3 (by decide)
        have n4 : v.toInt ≠ 4 := ne_i e4 (by decide)
        have n5 : v.toInt ≠ 5 := ne_i e5 (by decide)
        have n6 : v.toInt ≠ 6 := ne_i e6 (by decide)
        have n7 : v.toInt ≠ 7 := ne_i e7 (by decide)
        have n8 : v.toInt ≠ 8 := ne_i e8 (by decide)
        have n9 : v.toInt ≠ 9 := ne_i e9 (by decide)
        have n10 : v.toInt ≠ 10 := ne_i e10 (by decide)
        have n11 : v.toInt ≠ 11 := ne_i e11 (by decide)
        have n12 : v.toInt ≠ 12 := ne_i e12 (by decide)
        have n13 : v.toInt ≠ 13 := ne_i e13 (by decide)
        have n14 : v.toInt ≠ 14 := ne_i e14 (by decide)
        have n15 : v.toInt ≠ 15 := ne_i e15 (by decide)
        have n16 : v.toInt ≠ 16 := ne_i e16 (by decide)
        have n17 : v.toInt ≠ 17 := ne_i e17 (by decide)
        have n18 : v.toInt ≠ 18 := ne_i e18 (by decide)
        have n19 : v.toInt ≠ 19 := ne_i e19 (by decide)
        have n20 : v.toInt ≠ 20 := ne_i e20 (by decide)
        have n21 : v.toInt ≠ 21 := ne_i e21 (by decide)
        have n22 : v.toInt ≠ 22 := ne_i e22 (by decide)
        have n23 : v.toInt ≠ 23 := ne_i e23 (by decide)
        have n24 : v.toInt ≠ 24 := ne_i e24 (by decide)
        have n25 : v.toInt ≠ 25 := ne_i e25 (by decide)
        omega
      · exact inv_up hσ (by omega)
set_option maxHeartbeats 8000000 in
theorem law_main (hc : Cx κ φ RL cL_law 7 room_1) (hn : Nx φ) (hX : Xs κ φ b Ls xs) (hL : Ls ≤ 2560) (hend : ∀ (V : Wv) (k n : Nat) (σ : Mem) (L : List (Nat × Value)), k ≤ 601024 → n ≤ 7293034 → G κ φ Q V k n σ L 1678 [.int 1]) :
    G κ φ Q (Vc 0 (fun _ _ _ => none)) 0 0 d0 [(0, .ref b)] 0 [] := by
  have z0 : Zr 0 d0 (fun _ _ _ => none) := fun k o i _ => ⟨rfl, rfl⟩
  refine g_newO (K := 0) (o := 0) hc nw_L_8 (by decide) (by decide) z0 (by decide) (by decide) dL_law_0 (pc2 := 3) rfl ?_
  refine g_dup hc rfl dL_law_3 (pc2 := 4) rfl ?_
  refine g_cP (As := []) hc hn (i_X6 (z0.up (by decide))) ci_L_91 rfl rfl (by decide) (by decide) (Nat.le_of_ble_eq_true rfl) dL_law_4 (pc2 := 7) rfl fun V2 σ1 hP => ?_
  obtain ⟨g1, c0, rfl, z1, u1, hB, hkm⟩ := hP
  refine g_astore_n (i := 1) (L1 := [(1, .ref (ad κ.1 0 0)), (0, .ref b)]) hc rfl (by decide) rfl dL_law_7 (pc2 := 8) rfl ?_
  refine g_newO (K := 19) (o := 0) hc nw_L_92 (by decide) (by decide) z1 (by decide) (by decide) dL_law_8 (pc2 := 11) rfl ?_
  refine g_dup hc rfl dL_law_11 (pc2 := 12) rfl ?_
  refine g_cP (As := []) hc hn (i_X7 (z1.up (by decide))) ci_L_94 rfl rfl (by decide) (by decide) (Nat.le_of_ble_eq_true rfl) dL_law_12 (pc2 := 15) rfl fun V2 σ2 hP => ?_
  obtain ⟨g2, r, rfl, z2, u2, rfl, hr⟩ := hP
  refine g_astore_n (i := 2) (L1 := [(2, .ref (ad κ.1 19 0)), (1, .ref (ad κ.1 0 0)), (0, .ref b)]) hc rfl (by decide) rfl dL_law_15 (pc2 := 16) rfl ?_
  refine g_iconst (v := (1 : Int32)) hc (by decide) dL_law_16 (pc2 := 17) rfl ?_
  refine g_newA (atype := .long) hc 26 0 (by decide) rfl aw_long (by decide) (by decide) rfl (by decide) (by decide) (by decide) z2 (by decide) (by decide) dL_law_17 (pc2 := 19) rfl ?_
  refine g_astore_n (i := 3) (L1 := [(3, .ref (ad κ.1 26 0)), (2, .ref (ad κ.1 19 0)), (1, .ref (ad κ.1 0 0)), (0, .ref b)]) hc rfl (by decide) rfl dL_law_19 (pc2 := 20) rfl ?_
  refine g_iconst (v := (0 : Int32)) hc (by decide) dL_law_20 (pc2 := 21) rfl ?_
  refine g_istore (L1 := [(4, .int 0), (3, .ref (ad κ.1 26 0)), (2, .ref (ad κ.1 19 0)), (1, .ref (ad κ.1 0 0)), (0, .ref b)]) hc (by decide) rfl dL_law_21 (pc2 := 23) rfl ?_
  refine g_conv (V2 := NV κ (fun _ => 0)) (fun H h => toNV (u1.tr u2) h) ?_
  refine g_sub [4, 3, 2, 1, 0] rfl ?_
  refine g_widen (k2 := 1005) (n2 := 12304) (by decide) (by decide) ?_
  exact law_loop hc hX hL hend (Ls / 5 + 1) 0 _ _ (by omega) (by omega) (inv_start hkm hB hr)
end LAW
