def f2_makeNew_l99 (o : Nat) (k3 : Mem → Option Mem) : Nat → Int32 → Mem → Option Mem
  | 0, _, _ => none
  | n1 + 1, m1, s14 => (if (6 : Int32) ≤ m1 then k3 s14 else gd (ib m1 6) (bv (f5_makeNew (6 * o + m1.toNatClampNeg) s14) fun s15 => nm (m1 + (1 : Int32)) fun x1 => f2_makeNew_l99 o k3 n1 x1 s15))
def f2_makeNew_l79 (o : Nat) (k2 : Mem → Option Mem) : Nat → Int32 → Mem → Option Mem
  | 0, _, _ => none
  | n2 + 1, m2, s16 => (if (4 : Int32) ≤ m2 then k2 s16 else gd (ib m2 4) (nm (ms s16 5 o m2.toNatClampNeg (2 : Int32)) fun s17 => nm (m2 + (1 : Int32)) fun x2 => f2_makeNew_l79 o k2 n2 x2 s17))
def f2_makeNew_l51 (o : Nat) (k1 : Mem → Option Mem) : Nat → Int32 → Mem → Option Mem
  | 0, _, _ => none
  | n3 + 1, m3, s18 => (if (s18 31 o 0) ≤ m3 then k1 s18 else gd (nz (s18 30 o 0)) (gd (ib m3 16) (nm (ms s18 4 o m3.toNatClampNeg (m3 - m3 / (s18 30 o 0) * (s18 30 o 0))) fun s19 => nm (m3 + (1 : Int32)) fun x3 => f2_makeNew_l51 o k1 n3 x3 s19)))
def f2_makeNew (o : Nat) (a1 : Int32) (a2 : Int32) (s0 : Mem) : Option Mem :=
  bd (fJ_max a1 (2 : Int32) s0) fun r1 s1 => bd (fJ_min r1 (6 : Int32) s1) fun r2 s2 => nm (ms s2 30 o 0 r2) fun s3 => bd (fJ_max a2 (2 : Int32) s3) fun r3 s4 => bd (fJ_min r3 (16 : Int32) s4) fun r4 s5 => nm (ms s5 31 o 0 r4) fun s6 => nm (ms s6 32 o 0 (0 : Int32)) fun s7 => nm (ms s7 33 o 0 (0 : Int32)) fun s8 => nm (ms s8 34 o 0 (4 : Int32)) fun s9 => nm (ms s9 35 o 0 (-9 : Int32)) fun s10 => nm (fun (s11 : Mem) => nm (fun (s12 : Mem) => nm (fun (s13 : Mem) => some s13) fun k3 => f2_makeNew_l99 o k3 FU (0 : Int32) s12) fun k2 => f2_makeNew_l79 o k2 FU (0 : Int32) s11) fun k1 => f2_makeNew_l51 o k1 FU (0 : Int32) s10
def rm_2_makeNew : Room := { frames := 2, cells := 0, slots := 0, locals := 41 }
set_option maxHeartbeats 4000000 in
set_option maxRecDepth 100000 in
theorem k2_makeNew {κ : Kx} {τ : Nat → Int64} {o : Nat} {a1 : Int32} {a2 : Int32} {s0 sR : Mem} (h_o : o < 19) (hf : f2_makeNew o a1 a2 s0 = some sR) : CtV κ yX2_makeNew cX2_makeNew 4 none rm_2_makeNew (NV κ τ) (NV κ τ) [.ref (ad κ.1 3 o), .int a1, .int a2] s0 sR := by
  refine ct_V (by decide +kernel) (Nat.le_of_ble_eq_true rfl) (fun φ hc hr => ?_)
  have hc : Cx κ φ RX2 cX2_makeNew 4 rm_2_makeNew := hc
  show G κ φ (QV κ φ (NV κ τ) sR rm_2_makeNew.cells rm_2_makeNew.slots) (NV κ τ) 0 0 s0 [(0, .ref (ad κ.1 3 o)), (1, .int a1), (2, .int a2)] 0 []
  unfold f2_makeNew at hf
  refine g_aload_n (i := 0) hc 0 rfl rfl dX2_makeNew_0 (pc2 := 1) rfl ?_
  refine g_iload_n (i := 1) hc 1 rfl rfl dX2_makeNew_1 (pc2 := 2) rfl ?_
  refine g_iconst (v := (2 : Int32)) hc (by decide) dX2_makeNew_2 (pc2 := 3) rfl ?_
  obtain ⟨r1, s1, hp, hf⟩ := bd_some hf
  refine g_sI hc (kJ_max hp) co_X2_29 rfl rfl (by decide) (by decide) (Nat.le_of_ble_eq_true rfl) dX2_makeNew_3 (pc2 := 6) rfl ?_
  refine g_bipush (v := (6 : Int32)) hc (by decide) dX2_makeNew_6 (pc2 := 8) rfl ?_
  obtain ⟨r2, s2, hp, hf⟩ := bd_some hf
  refine g_sI hc (kJ_min hp) co_X2_35 rfl rfl (by decide) (by decide) (Nat.le_of_ble_eq_true rfl) dX2_makeNew_8 (pc2 := 11) rfl ?_
  obtain ⟨s3, hs3, hf⟩ := nm_ex hf
  refine g_puti hc (by decide) fo_X2_38 clO_3 poK_3_0 rfl (u3 (by omega)) rfl rfl dX2_makeNew_11 (pc2 := 14) rfl ?_
  refine g_nms hs3 ?_
  refine g_aload_n (i := 0) hc 0 rfl rfl dX2_makeNew_14 (pc2 := 15) rfl ?_
  refine g_iload_n (i := 2) hc 2 rfl rfl dX2_makeNew_15 (pc2 := 16) rfl ?_
  refine g_iconst (v := (2 : Int32)) hc (by decide) dX2_makeNew_16 (pc2 := 17) rfl ?_
  obtain ⟨r3, s4, hp, hf⟩ := bd_some hf
  refine g_sI hc (kJ_max hp) co_X2_29 rfl rfl (by decide) (by decide) (Nat.le_of_ble_eq_true rfl) dX2_makeNew_17 (pc2 := 20) rfl ?_
  refine g_bipush (v := (16 : Int32)) hc (by decide) dX2_makeNew_20 (pc2 := 22) rfl ?_
  obtain ⟨r4, s5, hp, hf⟩ := bd_some hf
  refine g_sI hc (kJ_min hp) co_X2_35 rfl rfl (by decide) (by decide) (Nat.le_of_ble_eq_true rfl) dX2_makeNew_22 (pc2 := 25) rfl ?_
  obtain ⟨s6, hs6, hf⟩ := nm_ex hf
  refine g_puti hc (by decide) fo_X2_42 clO_3 poK_3_1 rfl (u3 (by omega)) rfl rfl dX2_makeNew_25 (pc2 := 28) rfl ?_
  refine g_nms hs6 ?_
  refine g_aload_n (i := 0) hc 0 rfl rfl dX2_makeNew_28 (pc2 := 29) rfl ?_
  refine g_iconst (v := (0 : Int32)) hc (by decide) dX2_makeNew_29 (pc2 := 30) rfl ?_
  obtain ⟨s7, hs7, hf⟩ := nm_ex hf
  refine g_puti hc (by decide) fo_X2_45 clO_3 poK_3_2 rfl (u3 (by omega)) rfl rfl dX2_makeNew_30 (pc2 := 33) rfl ?_
  refine g_nms hs7 ?_
  refine g_aload_n (i := 0) hc 0 rfl rfl dX2_makeNew_33 (pc2 := 34) rfl ?_
  refine g_iconst (v := (0 : Int32)) hc (by decide) dX2_makeNew_34 (pc2 := 35) rfl ?_
  obtain ⟨s8, hs8, hf⟩ := nm_ex hf
  refine g_puti hc (by decide) fo_X2_48 clO_3 poK_3_3 rfl (u3 (by omega)) rfl rfl dX2_makeNew_35 (pc2 := 38) rfl ?_
  refine g_nms hs8 ?_
  refine g_aload_n (i := 0) hc 0 rfl rfl dX2_makeNew_38 (pc2 := 39) rfl ?_
  refine g_iconst (v := (4 : Int32)) hc (by decide) dX2_makeNew_39 (pc2 := 40) rfl ?_
  obtain ⟨s9, hs9, hf⟩ := nm_ex hf
  refine g_puti hc (by decide) fo_X2_51 clO_3 poK_3_4 rfl (u3 (by omega)) rfl rfl dX2_makeNew_40 (pc2 := 43) rfl ?_
  refine g_nms hs9 ?_
  refine g_aload_n (i := 0) hc 0 rfl rfl dX2_makeNew_43 (pc2 := 44) rfl ?_
  refine g_bipush (v := (-9 : Int32)) hc (by decide) dX2_makeNew_44 (pc2 := 46) rfl ?_
  obtain ⟨s10, hs10, hf⟩ := nm_ex hf
  refine g_puti hc (by decide) fo_X2_54 clO_3 poK_3_5 rfl (u3 (by omega)) rfl rfl dX2_makeNew_46 (pc2 := 49) rfl ?_
  refine g_nms hs10 ?_
  refine g_iconst (v := (0 : Int32)) hc (by decide) dX2_makeNew_49 (pc2 := 50) rfl ?_
  refine g_istore_n (i := 3) (L1 := [(3, .int (0 : Int32)), (0, .ref (ad κ.1 3 o)), (1, .int a1), (2, .int a2)]) hc rfl (by decide) rfl dX2_makeNew_50 (pc2 := 51) rfl ?_
  obtain ⟨k1, hk1, hf⟩ := nm_ex hf
  have Hk1 : ∀ (s11 : Mem), k1 s11 = some sR → G κ φ (QV κ φ (NV κ τ) sR rm_2_makeNew.cells rm_2_makeNew.slots) (NV κ τ) 0 0 s11 [(0, .ref (ad κ.1 3 o))] 77 [] := by
    intro s11 hf
    rw [hk1] at hf
    refine g_iconst (v := (0 : Int32)) hc (by decide) dX2_makeNew_77 (pc2 := 78) rfl ?_
    refine g_istore_n (i := 3) (L1 := [(3, .int (0 : Int32)), (0, .ref (ad κ.1 3 o))]) hc rfl (by decide) rfl dX2_makeNew_78 (pc2 := 79) rfl ?_
    obtain ⟨k2, hk2, hf⟩ := nm_ex hf
    have Hk2 : ∀ (s12 : Mem), k2 s12 = some sR → G κ φ (QV κ φ (NV κ τ) sR rm_2_makeNew.cells rm_2_makeNew.slots) (NV κ τ) 0 0 s12 [(0, .ref (ad κ.1 3 o))] 97 [] := by
      intro s12 hf
      rw [hk2] at hf
      refine g_iconst (v := (0 : Int32)) hc (by decide) dX2_makeNew_97 (pc2 := 98) rfl ?_
      refine g_istore_n (i := 3) (L1 := [(3, .int (0 : Int32)), (0, .ref (ad κ.1 3 o))]) hc rfl (by decide) rfl dX2_makeNew_98 (pc2 := 99) rfl ?_
      obtain ⟨k3, hk3, hf⟩ := nm_ex hf
      have Hk3 : ∀ (s13 : Mem), k3 s13 = some sR → G κ φ (QV κ φ (NV κ τ) sR rm_2_makeNew.cells rm_2_makeNew.slots) (NV κ τ) 0 0 s13 [] 120 [] := by
        intro s13 hf
        rw [hk3] at hf
        exact g_vret hc hf hr (by decide) (by decide) dX2_makeNew_120
      have LP_n1 : ∀ (n1 : Nat) (m1 : Int32) (s14 : Mem), f2_makeNew_l99 o k3 n1 m1 s14 = some sR → G κ φ (QV κ φ (NV κ τ) sR rm_2_makeNew.cells rm_2_makeNew.slots) (NV κ τ) 0 0 s14 [(0, .ref (ad κ.1 3 o)), (3, .int m1)] 99 [] := by
        intro n1
        induction n1 with
        | zero => intro m1 s14 hf; rw [f2_makeNew_l99] at hf; cases hf
        | succ n1 ih_n1 =>
          intro m1 s14 hf
          rw [f2_makeNew_l99] at hf
          refine g_iload_n (i := 3) hc 1 rfl rfl dX2_makeNew_99 (pc2 := 100) rfl ?_
          refine g_bipush (v := (6 : Int32)) hc (by decide) dX2_makeNew_100 (pc2 := 102) rfl ?_
          refine g_icmp_ge hc 120 (by decide) dX2_makeNew_102 (pc2 := 105) rfl (fun q => ?_) (fun q => ?_)
          · have hf := ite_t hf q
            refine g_sub [] rfl ?_
            exact Hk3 _ hf
          · have hf := ite_f hf q
            refine g_aload_n (i := 0) hc 0 rfl rfl dX2_makeNew_105 (pc2 := 106) rfl ?_
            refine g_getr (q := ad κ.1 6 o) hc fo_X2_20 (u3 (by omega)) rfl dX2_makeNew_106 (pc2 := 109) rfl ?_
            refine g_iload_n (i := 3) hc 1 rfl rfl dX2_makeNew_109 (pc2 := 110) rfl ?_
            obtain ⟨hg1, hf⟩ := gd_some hf
            have ihg1 := ib_lt hg1
            refine g_aldr (q := ad κ.1 7 (6 * o + m1.toNatClampNeg)) hc 6 o (by decide) (by decide) (u6 (by omega)) hg1 rfl dX2_makeNew_110 (pc2 := 111) rfl ?_
            obtain ⟨s15, hp, hf⟩ := bv_some hf
            refine g_vV hc (k5_makeNew (by omega) hp) co_X2_57 (u7 (by omega)) rfl rfl (by decide) (by decide) (Nat.le_of_ble_eq_true rfl) dX2_makeNew_111 (pc2 := 114) rfl ?_
            obtain ⟨x1, hx1, hf⟩ := nm_ex hf
            refine g_iinc (v := x1) (L1 := [(3, .int x1), (0, .ref (ad κ.1 3 o))]) hc 1 rfl (by rw [hx1]; rfl) (by decide) rfl dX2_makeNew_114 (pc2 := 117) rfl ?_
            refine g_goto hc 99 (by decide) dX2_makeNew_117 ?_
            refine g_sub [1, 0] rfl ?_
            exact ih_n1 _ _ hf
      refine g_sub [1, 0] rfl ?_
      exact LP_n1 _ _ _ hf
    have LP_n2 : ∀ (n2 : Nat) (m2 : Int32) (s16 : Mem), f2_makeNew_l79 o k2 n2 m2 s16 = some sR → G κ φ (QV κ φ (NV κ τ) sR rm_2_makeNew.cells rm_2_makeNew.slots) (NV κ τ) 0 0 s16 [(0, .ref (ad κ.1 3 o)), (3, .int m2)] 79 [] := by
      intro n2
      induction n2 with
      | zero => intro m2 s16 hf; rw [f2_makeNew_l79] at hf; cases hf
      | succ n2 ih_n2 =>
        intro m2 s16 hf
        rw [f2_makeNew_l79] at hf
        refine g_iload_n (i := 3) hc 1 rfl rfl dX2_makeNew_79 (pc2 := 80) rfl ?_
        refine g_iconst (v := (4 : Int32)) hc (by decide) dX2_makeNew_80 (pc2 := 81) rfl ?_
        refine g_icmp_ge hc 97 (by decide) dX2_makeNew_81 (pc2 := 84) rfl (fun q => ?_) (fun q => ?_)
        · have hf := ite_t hf q
          refine g_sub [0] rfl ?_
          exact Hk2 _ hf
        · have hf := ite_f hf q
          refine g_aload_n (i := 0) hc 0 rfl rfl dX2_makeNew_84 (pc2 := 85) rfl ?_
          refine g_getr (q := ad κ.1 5 o) hc fo_X2_15 (u3 (by omega)) rfl dX2_makeNew_85 (pc2 := 88) rfl ?_
          refine g_iload_n (i := 3) hc 1 rfl rfl dX2_makeNew_88 (pc2 := 89) rfl ?_
          refine g_iconst (v := (2 : Int32)) hc (by decide) dX2_makeNew_89 (pc2 := 90) rfl ?_
          obtain ⟨hg2, hf⟩ := gd_some hf
          obtain ⟨s17, hs17, hf⟩ := nm_ex hf
          refine g_asti hc 5 o rfl (u5 (by omega)) hg2 dX2_makeNew_90 (pc2 := 91) rfl ?_
          refine g_nms hs17 ?_
          obtain ⟨x2, hx2, hf⟩ := nm_ex hf
          refine g_iinc (v := x2) (L1 := [(3, .int x2), (0, .ref (ad κ.1 3 o))]) hc 1 rfl (by rw [hx2]; rfl) (by decide) rfl dX2_makeNew_91 (pc2 := 94) rfl ?_
          refine g_goto hc 79 (by decide) dX2_makeNew_94 ?_
          refine g_sub [1, 0] rfl ?_
          exact ih_n2 _ _ hf
    refine g_sub [1, 0] rfl ?_
    exact LP_n2 _ _ _ hf
  have LP_n3 : ∀ (n3 : Nat) (m3 : Int32) (s18 : Mem), f2_makeNew_l51 o k1 n3 m3 s18 = some sR → G κ φ (QV κ φ (NV κ τ) sR rm_2_makeNew.cells rm_2_makeNew.slots) (NV κ τ) 0 0 s18 [(0, .ref (ad κ.1 3 o)), (3, .int m3)] 51 [] := by
    intro n3
    induction n3 with
    | zero => intro m3 s18 hf; rw [f2_makeNew_l51] at hf; cases hf
    | succ n3 ih_n3 =>
      intro m3 s18 hf
      rw [f2_makeNew_l51] at hf
      refine g_iload_n (i := 3) hc 1 rfl rfl dX2_makeNew_51 (pc2 := 52) rfl ?_
      refine g_aload_n (i := 0) hc 0 rfl rfl dX2_makeNew_52 (pc2 := 53) rfl ?_
      refine g_geti hc fo_X2_42 (u3 (by omega)) dX2_makeNew_53 (pc2 := 56) rfl ?_
      refine g_icmp_ge hc 77 (by decide) dX2_makeNew_56 (pc2 := 59) rfl (fun q => ?_) (fun q => ?_)
      · have hf := ite_t hf q
        refine g_sub [0] rfl ?_
        exact Hk1 _ hf
      · have hf := ite_f hf q
        refine g_aload_n (i := 0) hc 0 rfl rfl dX2_makeNew_59 (pc2 := 60) rfl ?_
        refine g_getr (q := ad κ.1 4 o) hc fo_X2_9 (u3 (by omega)) rfl dX2_makeNew_60 (pc2 := 63) rfl ?_
        refine g_iload_n (i := 3) hc 1 rfl rfl dX2_makeNew_63 (pc2 := 64) rfl ?_
        refine g_iload_n (i := 3) hc 1 rfl rfl dX2_makeNew_64 (pc2 := 65) rfl ?_
        refine g_aload_n (i := 0) hc 0 rfl rfl dX2_makeNew_65 (pc2 := 66) rfl ?_
        refine g_geti hc fo_X2_38 (u3 (by omega)) dX2_makeNew_66 (pc2 := 69) rfl ?_
        obtain ⟨hg3, hf⟩ := gd_some hf
        refine g_irem hc (nz_of hg3) dX2_makeNew_69 (pc2 := 70) rfl ?_
        obtain ⟨hg4, hf⟩ := gd_some hf
        obtain ⟨s19, hs19, hf⟩ := nm_ex hf
        refine g_asti hc 4 o rfl (u4 (by omega)) hg4 dX2_makeNew_70 (pc2 := 71) rfl ?_
        refine g_nms hs19 ?_
        obtain ⟨x3, hx3, hf⟩ := nm_ex hf
        refine g_iinc (v := x3) (L1 := [(3, .int x3), (0, .ref (ad κ.1 3 o))]) hc 1 rfl (by rw [hx3]; rfl) (by decide) rfl dX2_makeNew_71 (pc2 := 74) rfl ?_
        refine g_goto hc 51 (by decide) dX2_makeNew_74 ?_
        refine g_sub [1, 0] rfl ?_
        exact ih_n3 _ _ hf
  refine g_sub [1, 0] rfl ?_
  exact LP_n3 _ _ _ hf
def f2_copyFrom_l101 (o : Nat) (a1 : Nat) (k3 : Mem → Option Mem) : Nat → Int32 → Mem → Option Mem
  | 0, _, _ => none
  | n1 + 1, m1, s10 => (if (6 : Int32) ≤ m1 then k3 s10 else gd (ib m1 6) (gd (ib m1 6) (bv (f5_copyFrom (6 * o + m1.toNatClampNeg) (6 * a1 + m1.toNatClampNeg) s10) fun s11 => nm (m1 + (1 : Int32)) fun x1 => f2_copyFrom_l101 o a1 k3 n1 x1 s11)))
def f2_copyFrom_l76 (o : Nat) (a1 : Nat) (k2 : Mem → Option Mem) : Nat → Int32 → Mem → Option Mem
  | 0, _, _ => none
  | n2 + 1, m2, s12 => (if (4 : Int32) ≤ m2 then k2 s12 else gd (ib m2 4) (gd (ib m2 4) (nm (ms s12 5 o m2.toNatClampNeg (s12 5 a1 m2.toNatClampNeg)) fun s13 => nm (m2 + (1 : Int32)) fun x2 => f2_copyFrom_l76 o a1 k2 n2 x2 s13)))
def f2_copyFrom_l50 (o : Nat) (a1 : Nat) (k1 : Mem → Option Mem) : Nat → Int32 → Mem → Option Mem
  | 0, _, _ => none
  | n3 + 1, m3, s14 => (if (16 : Int32) ≤ m3 then k1 s14 else gd (ib m3 16) (gd (ib m3 16) (nm (ms s14 4 o m3.toNatClampNeg (s14 4 a1 m3.toNatClampNeg)) fun s15 => nm (m3 + (1 : Int32)) fun x3 => f2_copyFrom_l50 o a1 k1 n3 x3 s15)))
def f2_copyFrom (o : Nat) (a1 : Nat) (s0 : Mem) : Option Mem :=
  nm (ms s0 30 o 0 (s0 30 a1 0)) fun s1 => nm (ms s1 31 o 0 (s1 31 a1 0)) fun s2 => nm (ms s2 32 o 0 (s2 32 a1 0)) fun s3 => nm (ms s3 33 o 0 (s3 33 a1 0)) fun s4 => nm (ms s4 34 o 0 (s4 34 a1 0)) fun s5 => nm (ms s5 35 o 0 (s5 35 a1 0)) fun s6 => nm (fun (s7 : Mem) => nm (fun (s8 : Mem) => nm (fun (s9 : Mem) => some s9) fun k3 => f2_copyFrom_l101 o a1 k3 FU (0 : Int32) s8) fun k2 => f2_copyFrom_l76 o a1 k2 FU (0 : Int32) s7) fun k1 => f2_copyFrom_l50 o a1 k1 FU (0 : Int32) s6
def rm_2_copyFrom : Room := { frames := 2, cells := 0, slots := 0, locals := 44 }
set_option maxHeartbeats 4000000 in
set_option maxRecDepth 100000 in
theorem k2_copyFrom {κ : Kx} {τ : Nat → Int64} {o : Nat} {a1 : Nat} {s0 sR : Mem} (h_o : o < 19) (h_a1 : a1 < 19) (hf : f2_copyFrom o a1 s0 = some sR) : CtV κ yX2_copyFrom cX2_copyFrom 3 none rm_2_copyFrom (NV κ τ) (NV κ τ) [.ref (ad κ.1 3 o), .ref (ad κ.1 3 a1)] s0 sR := by
  refine ct_V (by decide +kernel) (Nat.le_of_ble_eq_true rfl) (fun φ hc hr => ?_)
  have hc : Cx κ φ RX2 cX2_copyFrom 3 rm_2_copyFrom := hc
  show G κ φ (QV κ φ (NV κ τ) sR rm_2_copyFrom.cells rm_2_copyFrom.slots) (NV κ τ) 0 0 s0 [(0, .ref (ad κ.1 3 o)), (1, .ref (ad κ.1 3 a1))] 0 []
  unfold f2_copyFrom at hf
  refine g_aload_n (i := 0) hc 0 rfl rfl dX2_copyFrom_0 (pc2 := 1) rfl ?_
  refine g_aload_n (i := 1) hc 1 rfl rfl dX2_copyFrom_1 (pc2 := 2) rfl ?_
  refine g_geti hc fo_X2_38 (u3 (by omega)) dX2_copyFrom_2 (pc2 := 5) rfl ?_
  obtain ⟨s1, hs1, hf⟩ := nm_ex hf
  refine g_puti hc (by decide) fo_X2_38 clO_3 poK_3_0 rfl (u3 (by omega)) rfl rfl dX2_copyFrom_5 (pc2 := 8) rfl ?_
  refine g_nms hs1 ?_
  refine g_aload_n (i := 0) hc 0 rfl rfl dX2_copyFrom_8 (pc2 := 9) rfl ?_
  refine g_aload_n (i := 1) hc 1 rfl rfl dX2_copyFrom_9 (pc2 := 10) rfl ?_
  refine g_geti hc fo_X2_42 (u3 (by omega)) dX2_copyFrom_10 (pc2 := 13) rfl ?_
  obtain ⟨s2, hs2, hf⟩ := nm_ex hf
  refine g_puti hc (by decide) fo_X2_42 clO_3 poK_3_1 rfl (u3 (by omega)) rfl rfl dX2_copyFrom_13 (pc2 := 16) rfl ?_
  refine g_nms hs2 ?_
  refine g_aload_n (i := 0) hc 0 rfl rfl dX2_copyFrom_16 (pc2 := 17) rfl ?_
  refine g_aload_n (i := 1) hc 1 rfl rfl dX2_copyFrom_17 (pc2 := 18) rfl ?_
  refine g_geti hc fo_X2_45 (u3 (by omega)) dX2_copyFrom_18 (pc2 := 21) rfl ?_
  obtain ⟨s3, hs3, hf⟩ := nm_ex hf
  refine g_puti hc (by decide) fo_X2_45 clO_3 poK_3_2 rfl (u3 (by omega)) rfl rfl dX2_copyFrom_21 (pc2 := 24) rfl ?_
  refine g_nms hs3 ?_
  refine g_aload_n (i := 0) hc 0 rfl rfl dX2_copyFrom_24 (pc2 := 25) rfl ?_
  refine g_aload_n (i := 1) hc 1 rfl rfl dX2_copyFrom_25 (pc2 := 26) rfl ?_
  refine g_geti hc fo_X2_48 (u3 (by omega)) dX2_copyFrom_26 (pc2 := 29) rfl ?_
  obtain ⟨s4, hs4, hf⟩ := nm_ex hf
  refine g_puti hc (by decide) fo_X2_48 clO_3 poK_3_3 rfl (u3 (by omega)) rfl rfl dX2_copyFrom_29 (pc2 := 32) rfl ?_
  refine g_nms hs4 ?_
  refine g_aload_n (i := 0) hc 0 rfl rfl dX2_copyFrom_32 (pc2 := 33) rfl ?_
  refine g_aload_n (i := 1) hc 1 rfl rfl dX2_copyFrom_33 (pc2 := 34) rfl ?_
  refine g_geti hc fo_X2_51 (u3 (by omega)) dX2_copyFrom_34 (pc2 := 37) rfl ?_
  obtain ⟨s5, hs5, hf⟩ := nm_ex hf
  refine g_puti hc (by decide) fo_X2_51 clO_3 poK_3_4 rfl (u3 (by omega)) rfl rfl dX2_copyFrom_37 (pc2 := 40) rfl ?_
  refine g_nms hs5 ?_
  refine g_aload_n (i := 0) hc 0 rfl rfl dX2_copyFrom_40 (pc2 := 41) rfl ?_
  refine g_aload_n (i := 1) hc 1 rfl rfl dX2_copyFrom_41 (pc2 := 42) rfl ?_
  refine g_geti hc fo_X2_54 (u3 (by omega)) dX2_copyFrom_42 (pc2 := 45) rfl ?_
  obtain ⟨s6, hs6, hf⟩ := nm_ex hf
  refine g_puti hc (by decide) fo_X2_54 clO_3 poK_3_5 rfl (u3 (by omega)) rfl rfl dX2_copyFrom_45 (pc2 := 48) rfl ?_
  refine g_nms hs6 ?_
  refine g_iconst (v := (0 : Int32)) hc (by decide) dX2_copyFrom_48 (pc2 := 49) rfl ?_
  refine g_istore_n (i := 2) (L1 := [(2, .int (0 : Int32)), (0, .ref (ad κ.1 3 o)), (1, .ref (ad κ.1 3 a1))]) hc rfl (by decide) rfl dX2_copyFrom_49 (pc2 := 50) rfl ?_
  obtain ⟨k1, hk1, hf⟩ := nm_ex hf
  have Hk1 : ∀ (s7 : Mem), k1 s7 = some sR → G κ φ (QV κ φ (NV κ τ) sR rm_2_copyFrom.cells rm_2_copyFrom.slots) (NV κ τ) 0 0 s7 [(0, .ref (ad κ.1 3 o)), (1, .ref (ad κ.1 3 a1))] 74 [] := by
    intro s7 hf
    rw [hk1] at hf
    refine g_iconst (v := (0 : Int32)) hc (by decide) dX2_copyFrom_74 (pc2 := 75) rfl ?_
    refine g_istore_n (i := 2) (L1 := [(2, .int (0 : Int32)), (0, .ref (ad κ.1 3 o)), (1, .ref (ad κ.1 3 a1))]) hc rfl (by decide) rfl dX2_copyFrom_75 (pc2 := 76) rfl ?_
    obtain ⟨k2, hk2, hf⟩ := nm_ex hf
    have Hk2 : ∀ (s8 : Mem), k2 s8 = some sR → G κ φ (QV κ φ (NV κ τ) sR rm_2_copyFrom.cells rm_2_copyFrom.slots) (NV κ τ) 0 0 s8 [(0, .ref (ad κ.1 3 o)), (1, .ref (ad κ.1 3 a1))] 99 [] := by
      intro s8 hf
      rw [hk2] at hf
      refine g_iconst (v := (0 : Int32)) hc (by decide) dX2_copyFrom_99 (pc2 := 100) rfl ?_
      refine g_istore_n (i := 2) (L1 := [(2, .int (0 : Int32)), (0, .ref (ad κ.1 3 o)), (1, .ref (ad κ.1 3 a1))]) hc rfl (by decide) rfl dX2_copyFrom_100 (pc2 := 101) rfl ?_
      obtain ⟨k3, hk3, hf⟩ := nm_ex hf
      have Hk3 : ∀ (s9 : Mem), k3 s9 = some sR → G κ φ (QV κ φ (NV κ τ) sR rm_2_copyFrom.cells rm_2_copyFrom.slots) (NV κ τ) 0 0 s9 [] 128 [] := by
        intro s9 hf
        rw [hk3] at hf
        exact g_vret hc hf hr (by decide) (by decide) dX2_copyFrom_128
      have LP_n1 : ∀ (n1 : Nat) (m1 : Int32) (s10 : Mem), f2_copyFrom_l101 o a1 k3 n1 m1 s10 = some sR → G κ φ (QV κ φ (NV κ τ) sR rm_2_copyFrom.cells rm_2_copyFrom.slots) (NV κ τ) 0 0 s10 [(0, .ref (ad κ.1 3 o)), (1, .ref (ad κ.1 3 a1)), (2, .int m1)] 101 [] := by
        intro n1
        induction n1 with
        | zero => intro m1 s10 hf; rw [f2_copyFrom_l101] at hf; cases hf
        | succ n1 ih_n1 =>
          intro m1 s10 hf
          rw [f2_copyFrom_l101] at hf
          refine g_iload_n (i := 2) hc 2 rfl rfl dX2_copyFrom_101 (pc2 := 102) rfl ?_
          refine g_bipush (v := (6 : Int32)) hc (by decide) dX2_copyFrom_102 (pc2 := 104) rfl ?_
          refine g_icmp_ge hc 128 (by decide) dX2_copyFrom_104 (pc2 := 107) rfl (fun q => ?_) (fun q => ?_)
          · have hf := ite_t hf q
            refine g_sub [] rfl ?_
            exact Hk3 _ hf
          · have hf := ite_f hf q
            refine g_aload_n (i := 0) hc 0 rfl rfl dX2_copyFrom_107 (pc2 := 108) rfl ?_
            refine g_getr (q := ad κ.1 6 o) hc fo_X2_20 (u3 (by omega)) rfl dX2_copyFrom_108 (pc2 := 111) rfl ?_
            refine g_iload_n (i := 2) hc 2 rfl rfl dX2_copyFrom_111 (pc2 := 112) rfl ?_
            obtain ⟨hg1, hf⟩ := gd_some hf
            have ihg1 := ib_lt hg1
            refine g_aldr (q := ad κ.1 7 (6 * o + m1.toNatClampNeg)) hc 6 o (by decide) (by decide) (u6 (by omega)) hg1 rfl dX2_copyFrom_112 (pc2 := 113) rfl ?_
            refine g_aload_n (i := 1) hc 1 rfl rfl dX2_copyFrom_113 (pc2 := 114) rfl ?_
            refine g_getr (q := ad κ.1 6 a1) hc fo_X2_20 (u3 (by omega)) rfl dX2_copyFrom_114 (pc2 := 117) rfl ?_
            refine g_iload_n (i := 2) hc 2 rfl rfl dX2_copyFrom_117 (pc2 := 118) rfl ?_
            obtain ⟨hg2, hf⟩ := gd_some hf
            have ihg2 := ib_lt hg2
            refine g_aldr (q := ad κ.1 7 (6 * a1 + m1.toNatClampNeg)) hc 6 a1 (by decide) (by decide) (u6 (by omega)) hg2 rfl dX2_copyFrom_118 (pc2 := 119) rfl ?_
            obtain ⟨s11, hp, hf⟩ := bv_some hf
            refine g_vV hc (k5_copyFrom (by omega) (by omega) hp) co_X2_59 (u7 (by omega)) rfl rfl (by decide) (by decide) (Nat.le_of_ble_eq_true rfl) dX2_copyFrom_119 (pc2 := 122) rfl ?_
            obtain ⟨x1, hx1, hf⟩ := nm_ex hf
            refine g_iinc (v := x1) (L1 := [(2, .int x1), (0, .ref (ad κ.1 3 o)), (1, .ref (ad κ.1 3 a1))]) hc 2 rfl (by rw [hx1]; rfl) (by decide) rfl dX2_copyFrom_122 (pc2 := 125) rfl ?_
            refine g_goto hc 101 (by decide) dX2_copyFrom_125 ?_
            refine g_sub [1, 2, 0] rfl ?_
            exact ih_n1 _ _ hf
      refine g_sub [1, 2, 0] rfl ?_
      exact LP_n1 _ _ _ hf
    have LP_n2 : ∀ (n2 : Nat) (m2 : Int32) (s12 : Mem), f2_copyFrom_l76 o a1 k2 n2 m2 s12 = some sR → G κ φ (QV κ φ (NV κ τ) sR rm_2_copyFrom.cells rm_2_copyFrom.slots) (NV κ τ) 0 0 s12 [(0, .ref (ad κ.1 3 o)), (1, .ref (ad κ.1 3 a1)), (2, .int m2)] 76 [] := by
      intro n2
      induction n2 with
      | zero => intro m2 s12 hf; rw [f2_copyFrom_l76] at hf; cases hf
      | succ n2 ih_n2 =>
        intro m2 s12 hf
        rw [f2_copyFrom_l76] at hf
        refine g_iload_n (i := 2) hc 2 rfl rfl dX2_copyFrom_76 (pc2 := 77) rfl ?_
        refine g_iconst (v := (4 : Int32)) hc (by decide) dX2_copyFrom_77 (pc2 := 78) rfl ?_
        refine g_icmp_ge hc 99 (by decide) dX2_copyFrom_78 (pc2 := 81) rfl (fun q => ?_) (fun q => ?_)
        · have hf := ite_t hf q
          refine g_sub [0, 1] rfl ?_
          exact Hk2 _ hf
        · have hf := ite_f hf q
          refine g_aload_n (i := 0) hc 0 rfl rfl dX2_copyFrom_81 (pc2 := 82) rfl ?_
          refine g_getr (q := ad κ.1 5 o) hc fo_X2_15 (u3 (by omega)) rfl dX2_copyFrom_82 (pc2 := 85) rfl ?_
          refine g_iload_n (i := 2) hc 2 rfl rfl dX2_copyFrom_85 (pc2 := 86) rfl ?_
          refine g_aload_n (i := 1) hc 1 rfl rfl dX2_copyFrom_86 (pc2 := 87) rfl ?_
          refine g_getr (q := ad κ.1 5 a1) hc fo_X2_15 (u3 (by omega)) rfl dX2_copyFrom_87 (pc2 := 90) rfl ?_
          refine g_iload_n (i := 2) hc 2 rfl rfl dX2_copyFrom_90 (pc2 := 91) rfl ?_
          obtain ⟨hg3, hf⟩ := gd_some hf
          refine g_aldi hc 5 a1 rfl (u5 (by omega)) hg3 dX2_copyFrom_91 (pc2 := 92) rfl ?_
          obtain ⟨hg4, hf⟩ := gd_some hf
          obtain ⟨s13, hs13, hf⟩ := nm_ex hf
          refine g_asti hc 5 o rfl (u5 (by omega)) hg4 dX2_copyFrom_92 (pc2 := 93) rfl ?_
          refine g_nms hs13 ?_
          obtain ⟨x2, hx2, hf⟩ := nm_ex hf
          refine g_iinc (v := x2) (L1 := [(2, .int x2), (0, .ref (ad κ.1 3 o)), (1, .ref (ad κ.1 3 a1))]) hc 2 rfl (by rw [hx2]; rfl) (by decide) rfl dX2_copyFrom_93 (pc2 := 96) rfl ?_
          refine g_goto hc 76 (by decide) dX2_copyFrom_96 ?_
          refine g_sub [1, 2, 0] rfl ?_
          exact ih_n2 _ _ hf
    refine g_sub [1, 2, 0] rfl ?_
    exact LP_n2 _ _ _ hf
  have LP_n3 : ∀ (n3 : Nat) (m3 : Int32) (s14 : Mem), f2_copyFrom_l50 o a1 k1 n3 m3 s14 = some sR → G κ φ (QV κ φ (NV κ τ) sR rm_2_copyFrom.cells rm_2_copyFrom.slots) (NV κ τ) 0 0 s14 [(0, .ref (ad κ.1 3 o)), (1, .ref (ad κ.1 3 a1)), (2, .int m3)] 50 [] := by
    intro n3
    induction n3 with
    | zero => intro m3 s14 hf; rw [f2_copyFrom_l50] at hf; cases hf
    | succ n3 ih_n3 =>
      intro m3 s14 hf
      rw [f2_copyFrom_l50] at hf
      refine g_iload_n (i := 2) hc 2 rfl rfl dX2_copyFrom_50 (pc2 := 51) rfl ?_
      refine g_bipush (v := (16 : Int32)) hc (by decide) dX2_copyFrom_51 (pc2 := 53) rfl ?_
      refine g_icmp_ge hc 74 (by decide) dX2_copyFrom_53 (pc2 := 56) rfl (fun q => ?_) (fun q => ?_)
      · have hf := ite_t hf q
        refine g_sub [0, 1] rfl ?_
        exact Hk1 _ hf
      · have hf := ite_f hf q
        refine g_aload_n (i := 0) hc 0 rfl rfl dX2_copyFrom_56 (pc2 := 57) rfl ?_
        refine g_getr (q := ad κ.1 4 o) hc fo_X2_9 (u3 (by omega)) rfl dX2_copyFrom_57 (pc2 := 60) rfl ?_
        refine g_iload_n (i := 2) hc 2 rfl rfl dX2_copyFrom_60 (pc2 := 61) rfl ?_
        refine g_aload_n (i := 1) hc 1 rfl rfl dX2_copyFrom_61 (pc2 := 62) rfl ?_
        refine g_getr (q := ad κ.1 4 a1) hc fo_X2_9 (u3 (by omega)) rfl dX2_copyFrom_62 (pc2 := 65) rfl ?_
        refine g_iload_n (i := 2) hc 2 rfl rfl dX2_copyFrom_65 (pc2 := 66) rfl ?_
        obtain ⟨hg5, hf⟩ := gd_some hf
        refine g_aldi hc 4 a1 rfl (u4 (by omega)) hg5 dX2_copyFrom_66 (pc2 := 67) rfl ?_
        obtain ⟨hg6, hf⟩ := gd_some hf
        obtain ⟨s15, hs15, hf⟩ := nm_ex hf
        refine g_asti hc 4 o rfl (u4 (by omega)) hg6 dX2_copyFrom_67 (pc2 := 68) rfl ?_
        refine g_nms hs15 ?_
        obtain ⟨x3, hx3, hf⟩ := nm_ex hf
        refine g_iinc (v := x3) (L1 := [(2, .int x3), (0, .ref (ad κ.1 3 o)), (1, .ref (ad κ.1 3 a1))]) hc 2 rfl (by rw [hx3]; rfl) (by decide) rfl dX2_copyFrom_68 (pc2 := 71) rfl ?_
        refine g_goto hc 50 (by decide) dX2_copyFrom_71 ?_
        refine g_sub [1, 2, 0] rfl ?_
        exact ih_n3 _ _ hf
  refine g_sub [1, 2, 0] rfl ?_
  exact LP_n3 _ _ _ hf
def f2_hasMaster (o : Nat) (a1 : Int32) (s0 : Mem) : Option (Int32 × Mem) :=
  nm (fun (s1 : Mem) => some ((0 : Int32), s1)) fun j1 => (if a1 < (0 : Int32) then j1 s0 else (if (s0 30 o 0) ≤ a1 then j1 s0 else (if (6 : Int32) ≤ a1 then j1 s0 else some ((1 : Int32), s0))))
def rm_2_hasMaster : Room := { frames := 0, cells := 0, slots := 0, locals := 0 }
set_option maxHeartbeats 4000000 in
set_option maxRecDepth 100000 in
theorem k2_hasMaster {κ : Kx} {τ : Nat → Int64} {o : Nat} {a1 : Int32} {s0 sR : Mem} {rR : Int32} (h_o : o < 19) (hf : f2_hasMaster o a1 s0 = some (rR, sR)) : CtI κ yX2_hasMaster cX2_hasMaster 2 (some .boolean) rm_2_hasMaster (NV κ τ) (NV κ τ) [.ref (ad κ.1 3 o), .int a1] s0 sR rR := by
  refine ct_I (by decide +kernel) (Nat.le_of_ble_eq_true rfl) (fun φ hc hr => ?_)
  have hc : Cx κ φ RX2 cX2_hasMaster 2 rm_2_hasMaster := hc
  show G κ φ (QI κ φ (NV κ τ) sR rR rm_2_hasMaster.cells rm_2_hasMaster.slots) (NV κ τ) 0 0 s0 [(0, .ref (ad κ.1 3 o)), (1, .int a1)] 0 []
  unfold f2_hasMaster at hf
  refine g_iload_n (i := 1) hc 1 rfl rfl dX2_hasMaster_0 (pc2 := 1) rfl ?_
  obtain ⟨j1, hj1, hf⟩ := nm_ex hf
  have Hj1 : ∀ (s1 : Mem), j1 s1 = some (rR, sR) → G κ φ (QI κ φ (NV κ τ) sR rR rm_2_hasMaster.cells rm_2_hasMaster.slots) (NV κ τ) 0 0 s1 [] 22 [] := by
    intro s1 hf
    rw [hj1] at hf
    refine g_iconst (v := (0 : Int32)) hc (by decide) dX2_hasMaster_22 (pc2 := 23) rfl ?_
    exact g_iret hc hf hr rfl (by decide) (by decide) dX2_hasMaster_23
  refine g_if_lt hc 22 (by decide) dX2_hasMaster_1 (pc2 := 4) rfl (fun q => ?_) (fun q => ?_)
  · have hf := ite_t hf q
    refine g_sub [] rfl ?_
    exact Hj1 _ hf
  · have hf := ite_f hf q
    refine g_iload_n (i := 1) hc 1 rfl rfl dX2_hasMaster_4 (pc2 := 5) rfl ?_
    refine g_aload_n (i := 0) hc 0 rfl rfl dX2_hasMaster_5 (pc2 := 6) rfl ?_
    refine g_geti hc fo_X2_38 (u3 (by omega)) dX2_hasMaster_6 (pc2 := 9) rfl ?_
    refine g_icmp_ge hc 22 (by decide) dX2_hasMaster_9 (pc2 := 12) rfl (fun q => ?_) (fun q => ?_)
    · have hf := ite_t hf q
      refine g_sub [] rfl ?_
      exact Hj1 _ hf
    · have hf := ite_f hf q
      refine g_iload_n (i := 1) hc 1 rfl rfl dX2_hasMaster_12 (pc2 := 13) rfl ?_
      refine g_bipush (v := (6 : Int32)) hc (by decide) dX2_hasMaster_13 (pc2 := 15) rfl ?_
      refine g_icmp_ge hc 22 (by decide) dX2_hasMaster_15 (pc2 := 18) rfl (fun q => ?_) (fun q => ?_)
      · have hf := ite_t hf q
        refine g_sub [] rfl ?_
        exact Hj1 _ hf
      · have hf := ite_f hf q
        refine g_iconst (v := (1 : Int32)) hc (by decide) dX2_hasMaster_18 (pc2 := 19) rfl ?_
        refine g_goto hc 23 (by decide) dX2_hasMaster_19 ?_
        exact g_iret hc hf hr rfl (by decide) (by decide) dX2_hasMaster_23
def f2_hasSlot (o : Nat) (a1 : Int32) (s0 : Mem) : Option (Int32 × Mem) :=
  nm (fun (s1 : Mem) => some ((0 : Int32), s1)) fun j1 => (if a1 < (0 : Int32) then j1 s0 else (if (s0 31 o 0) ≤ a1 then j1 s0 else (if (16 : Int32) ≤ a1 then j1 s0 else some ((1 : Int32), s0))))
def rm_2_hasSlot : Room := { frames := 0, cells := 0, slots := 0, locals := 0 }
set_option maxHeartbeats 4000000 in
set_option maxRecDepth 100000 in
theorem k2_hasSlot {κ : Kx} {τ : Nat → Int64} {o : Nat} {a1 : Int32} {s0 sR : Mem} {rR : Int32} (h_o : o < 19) (hf : f2_hasSlot o a1 s0 = some (rR, sR)) : CtI κ yX2_hasSlot cX2_hasSlot 2 (some .boolean) rm_2_hasSlot (NV κ τ) (NV κ τ) [.ref (ad κ.1 3 o), .int a1] s0 sR rR := by
  refine ct_I (by decide +kernel) (Nat.le_of_ble_eq_true rfl) (fun φ hc hr => ?_)
  have hc : Cx κ φ RX2 cX2_hasSlot 2 rm_2_hasSlot := hc
  show G κ φ (QI κ φ (NV κ τ) sR rR rm_2_hasSlot.cells rm_2_hasSlot.slots) (NV κ τ) 0 0 s0 [(0, .ref (ad κ.1 3 o)), (1, .int a1)] 0 []
  unfold f2_hasSlot at hf
  refine g_iload_n (i := 1) hc 1 rfl rfl dX2_hasSlot_0 (pc2 := 1) rfl ?_
  obtain ⟨j1, hj1, hf⟩ := nm_ex hf
  have Hj1 : ∀ (s1 : Mem), j1 s1 = some (rR, sR) → G κ φ (QI κ φ (NV κ τ) sR rR rm_2_hasSlot.cells rm_2_hasSlot.slots) (NV κ τ) 0 0 s1 [] 22 [] := by
    intro s1 hf
    rw [hj1] at hf
    refine g_iconst (v := (0 : Int32)) hc (by decide) dX2_hasSlot_22 (pc2 := 23) rfl ?_
    exact g_iret hc hf hr rfl (by decide) (by decide) dX2_hasSlot_23
  refine g_if_lt hc 22 (by decide) dX2_hasSlot_1 (pc2 := 4) rfl (fun q => ?_) (fun q => ?_)
  · have hf := ite_t hf q
    refine g_sub [] rfl ?_
    exact Hj1 _ hf
  · have hf := ite_f hf q
    refine g_iload_n (i := 1) hc 1 rfl rfl dX2_hasSlot_4 (pc2 := 5) rfl ?_
    refine g_aload_n (i := 0) hc 0 rfl rfl dX2_hasSlot_5 (pc2 := 6) rfl ?_
    refine g_geti hc fo_X2_42 (u3 (by omega)) dX2_hasSlot_6 (pc2 := 9) rfl ?_
    refine g_icmp_ge hc 22 (by decide) dX2_hasSlot_9 (pc2 := 12) rfl (fun q => ?_) (fun q => ?_)
    · have hf := ite_t hf q
      refine g_sub [] rfl ?_
      exact Hj1 _ hf
    · have hf := ite_f hf q
      refine g_iload_n (i := 1) hc 1 rfl rfl dX2_hasSlot_12 (pc2 := 13) rfl ?_
      refine g_bipush (v := (16 : Int32)) hc (by decide) dX2_hasSlot_13 (pc2 := 15) rfl ?_
      refine g_icmp_ge hc 22 (by decide) dX2_hasSlot_15 (pc2 := 18) rfl (fun q => ?_) (fun q => ?_)
      · have hf := ite_t hf q
        refine g_sub [] rfl ?_
        exact Hj1 _ hf
      · have hf := ite_f hf q
        refine g_iconst (v := (1 : Int32)) hc (by decide) dX2_hasSlot_18 (pc2 := 19) rfl ?_
        refine g_goto hc 23 (by decide) dX2_hasSlot_19 ?_
        exact g_iret hc hf hr rfl (by decide) (by decide) dX2_hasSlot_23
def f2_join (o : Nat) (s0 : Mem) : Option (Int32 × Mem) :=
  (if (s0 30 o 0) < (6 : Int32) then gd (ib (s0 30 o 0) 6) (bv (f5_makeNew (6 * o + (s0 30 o 0).toNatClampNeg) s0) fun s1 => nm (ms s1 30 o 0 ((s1 30 o 0) + (1 : Int32))) fun s2 => some ((s2 30 o 0) - (1 : Int32), s2)) else some ((-9 : Int32), s0))
def rm_2_join : Room := { frames := 2, cells := 0, slots := 0, locals := 41 }
set_option maxHeartbeats 4000000 in
set_option maxRecDepth 100000 in
theorem k2_join {κ : Kx} {τ : Nat → Int64} {o : Nat} {s0 sR : Mem} {rR : Int32} (h_o : o < 19) (hf : f2_join o s0 = some (rR, sR)) : CtI κ yX2_join cX2_join 1 (some .int) rm_2_join (NV κ τ) (NV κ τ) [.ref (ad κ.1 3 o)] s0 sR rR := by
  refine ct_I (by decide +kernel) (Nat.le_of_ble_eq_true rfl) (fun φ hc hr => ?_)
  have hc : Cx κ φ RX2 cX2_join 1 rm_2_join := hc
  show G κ φ (QI κ φ (NV κ τ) sR rR rm_2_join.cells rm_2_join.slots) (NV κ τ) 0 0 s0 [(0, .ref (ad κ.1 3 o))] 0 []
  unfold f2_join at hf
  refine g_aload_n (i := 0) hc 0 rfl rfl dX2_join_0 (pc2 := 1) rfl ?_
  refine g_geti hc fo_X2_38 (u3 (by omega)) dX2_join_1 (pc2 := 4) rfl ?_
  refine g_bipush (v := (6 : Int32)) hc (by decide) dX2_join_4 (pc2 := 6) rfl ?_
  refine g_icmp_lt hc 12 (by decide) dX2_join_6 (pc2 := 9) rfl (fun q => ?_) (fun q => ?_)
  · have hf := ite_t hf q
    refine g_aload_n (i := 0) hc 0 rfl rfl dX2_join_12 (pc2 := 13) rfl ?_
    refine g_getr (q := ad κ.1 6 o) hc fo_X2_20 (u3 (by omega)) rfl dX2_join_13 (pc2 := 16) rfl ?_
    refine g_aload_n (i := 0) hc 0 rfl rfl dX2_join_16 (pc2 := 17) rfl ?_
    refine g_geti hc fo_X2_38 (u3 (by omega)) dX2_join_17 (pc2 := 20) rfl ?_
    obtain ⟨hg1, hf⟩ := gd_some hf
    have ihg1 := ib_lt hg1
    refine g_aldr (q := ad κ.1 7 (6 * o + (s0 30 o 0).toNatClampNeg)) hc 6 o (by decide) (by decide) (u6 (by omega)) hg1 rfl dX2_join_20 (pc2 := 21) rfl ?_
    obtain ⟨s1, hp, hf⟩ := bv_some hf
    refine g_vV hc (k5_makeNew (by omega) hp) co_X2_57 (u7 (by omega)) rfl rfl (by decide) (by decide) (Nat.le_of_ble_eq_true rfl) dX2_join_21 (pc2 := 24) rfl ?_
    refine g_aload_n (i := 0) hc 0 rfl rfl dX2_join_24 (pc2 := 25) rfl ?_
    refine g_dup hc rfl dX2_join_25 (pc2 := 26) rfl ?_
    refine g_geti hc fo_X2_38 (u3 (by omega)) dX2_join_26 (pc2 := 29) rfl ?_
    refine g_iconst (v := (1 : Int32)) hc (by decide) dX2_join_29 (pc2 := 30) rfl ?_
    refine g_iadd hc dX2_join_30 (pc2 := 31) rfl ?_
    obtain ⟨s2, hs2, hf⟩ := nm_ex hf
    refine g_puti hc (by decide) fo_X2_38 clO_3 poK_3_0 rfl (u3 (by omega)) rfl rfl dX2_join_31 (pc2 := 34) rfl ?_
    refine g_nms hs2 ?_
    refine g_aload_n (i := 0) hc 0 rfl rfl dX2_join_34 (pc2 := 35) rfl ?_
    refine g_geti hc fo_X2_38 (u3 (by omega)) dX2_join_35 (pc2 := 38) rfl ?_
    refine g_iconst (v := (1 : Int32)) hc (by decide) dX2_join_38 (pc2 := 39) rfl ?_
    refine g_isub hc dX2_join_39 (pc2 := 40) rfl ?_
    exact g_iret hc hf hr rfl (by decide) (by decide) dX2_join_40
  · have hf := ite_f hf q
    refine g_bipush (v := (-9 : Int32)) hc (by decide) dX2_join_9 (pc2 := 11) rfl ?_
    exact g_iret hc hf hr rfl (by decide) (by decide) dX2_join_11
def f2_slotsOf_l4 (o : Nat) (a1 : Int32) (k1 : Int32 → Mem → Option (Int32 × Mem)) : Nat → Int32 → Int32 → Mem → Option (Int32 × Mem)
  | 0, _, _, _ => none
  | n1 + 1, m1, m2, s2 => (if (s2 31 o 0) ≤ m2 then k1 m1 s2 else gd (ib m2 16) (nm (fun (y2 : Int32) (s3 : Mem) => nm (m2 + (1 : Int32)) fun x1 => f2_slotsOf_l4 o a1 k1 n1 y2 x1 s3) fun j1 => (if (s2 4 o m2.toNatClampNeg) = a1 then nm (m1 + (1 : Int32)) fun x2 => j1 x2 s2 else j1 m1 s2)))
def f2_slotsOf (o : Nat) (a1 : Int32) (s0 : Mem) : Option (Int32 × Mem) :=
  nm (fun (y1 : Int32) (s1 : Mem) => some (y1, s1)) fun k1 => f2_slotsOf_l4 o a1 k1 FU (0 : Int32) (0 : Int32) s0
def rm_2_slotsOf : Room := { frames := 0, cells := 0, slots := 0, locals := 0 }
set_option maxHeartbeats 4000000 in
set_option maxRecDepth 100000 in
theorem k2_slotsOf {κ : Kx} {τ : Nat → Int64} {o : Nat} {a1 : Int32} {s0 sR : Mem} {rR : Int32} (h_o : o < 19) (hf : f2_slotsOf o a1 s0 = some (rR, sR)) : CtI κ yX2_slotsOf cX2_slotsOf 4 (some .int) rm_2_slotsOf (NV κ τ) (NV κ τ) [.ref (ad κ.1 3 o), .int a1] s0 sR rR := by
  refine ct_I (by decide +kernel) (Nat.le_of_ble_eq_true rfl) (fun φ hc hr => ?_)
  have hc : Cx κ φ RX2 cX2_slotsOf 4 rm_2_slotsOf := hc
  show G κ φ (QI κ φ (NV κ τ) sR rR rm_2_slotsOf.cells rm_2_slotsOf.slots) (NV κ τ) 0 0 s0 [(0, .ref (ad κ.1 3 o)), (1, .int a1)] 0 []
  unfold f2_slotsOf at hf
  refine g_iconst (v := (0 : Int32)) hc (by decide) dX2_slotsOf_0 (pc2 := 1) rfl ?_
  refine g_istore_n (i := 2) (L1 := [(2, .int (0 : Int32)), (0, .ref (ad κ.1 3 o)), (1, .int a1)]) hc rfl (by decide) rfl dX2_slotsOf_1 (pc2 := 2) rfl ?_
  refine g_iconst (v := (0 : Int32)) hc (by decide) dX2_slotsOf_2 (pc2 := 3) rfl ?_
  refine g_istore_n (i := 3) (L1 := [(3, .int (0 : Int32)), (2, .int (0 : Int32)), (0, .ref (ad κ.1 3 o)), (1, .int a1)]) hc rfl (by decide) rfl dX2_slotsOf_3 (pc2 := 4) rfl ?_
  obtain ⟨k1, hk1, hf⟩ := nm_ex hf
  have Hk1 : ∀ (y1 : Int32) (s1 : Mem), k1 y1 s1 = some (rR, sR) → G κ φ (QI κ φ (NV κ τ) sR rR rm_2_slotsOf.cells rm_2_slotsOf.slots) (NV κ τ) 0 0 s1 [(2, .int y1)] 31 [] := by
    intro y1 s1 hf
    rw [hk1] at hf
    refine g_iload_n (i := 2) hc 0 rfl rfl dX2_slotsOf_31 (pc2 := 32) rfl ?_
    exact g_iret hc hf hr rfl (by decide) (by decide) dX2_slotsOf_32
  have LP_n1 : ∀ (n1 : Nat) (m1 : Int32) (m2 : Int32) (s2 : Mem), f2_slotsOf_l4 o a1 k1 n1 m1 m2 s2 = some (rR, sR) → G κ φ (QI κ φ (NV κ τ) sR rR rm_2_slotsOf.cells rm_2_slotsOf.slots) (NV κ τ) 0 0 s2 [(0, .ref (ad κ.1 3 o)), (1, .int a1), (2, .int m1), (3, .int m2)] 4 [] := by
    intro n1
    induction n1 with
    | zero => intro m1 m2 s2 hf; rw [f2_slotsOf_l4] at hf; cases hf
    | succ n1 ih_n1 =>
      intro m1 m2 s2 hf
      rw [f2_slotsOf_l4] at hf
      refine g_iload_n (i := 3) hc 3 rfl rfl dX2_slotsOf_4 (pc2 := 5) rfl ?_
      refine g_aload_n (i := 0) hc 0 rfl rfl dX2_slotsOf_5 (pc2 := 6) rfl ?_
      refine g_geti hc fo_X2_42 (u3 (by omega)) dX2_slotsOf_6 (pc2 := 9) rfl ?_
      refine g_icmp_ge hc 31 (by decide) dX2_slotsOf_9 (pc2 := 12) rfl (fun q => ?_) (fun q => ?_)
      · have hf := ite_t hf q
        refine g_sub [2] rfl ?_
        exact Hk1 _ _ hf
      · have hf := ite_f hf q
        refine g_aload_n (i := 0) hc 0 rfl rfl dX2_slotsOf_12 (pc2 := 13) rfl ?_
        refine g_getr (q := ad κ.1 4 o) hc fo_X2_9 (u3 (by omega)) rfl dX2_slotsOf_13 (pc2 := 16) rfl ?_
        refine g_iload_n (i := 3) hc 3 rfl rfl dX2_slotsOf_16 (pc2 := 17) rfl ?_
        obtain ⟨hg1, hf⟩ := gd_some hf
        refine g_aldi hc 4 o rfl (u4 (by omega)) hg1 dX2_slotsOf_17 (pc2 := 18) rfl ?_
        refine g_iload_n (i := 1) hc 1 rfl rfl dX2_slotsOf_18 (pc2 := 19) rfl ?_
        obtain ⟨j1, hj1, hf⟩ := nm_ex hf
        have Hj1 : ∀ (y2 : Int32) (s3 : Mem), j1 y2 s3 = some (rR, sR) → G κ φ (QI κ φ (NV κ τ) sR rR rm_2_slotsOf.cells rm_2_slotsOf.slots) (NV κ τ) 0 0 s3 [(0, .ref (ad κ.1 3 o)), (1, .int a1), (2, .int y2), (3, .int m2)] 25 [] := by
          intro y2 s3 hf
          rw [hj1] at hf
          obtain ⟨x1, hx1, hf⟩ := nm_ex hf
          refine g_iinc (v := x1) (L1 := [(3, .int x1), (0, .ref (ad κ.1 3 o)), (1, .int a1), (2, .int y2)]) hc 3 rfl (by rw [hx1]; rfl) (by decide) rfl dX2_slotsOf_25 (pc2 := 28) rfl ?_
          refine g_goto hc 4 (by decide) dX2_slotsOf_28 ?_
          refine g_sub [1, 2, 3, 0] rfl ?_
          exact ih_n1 _ _ _ hf
        refine g_icmp_ne hc 25 (by decide) dX2_slotsOf_19 (pc2 := 22) rfl (fun q => ?_) (fun q => ?_)
        · have hf := ite_f hf q
          exact Hj1 _ _ hf
        · have hf := ite_t hf q
          obtain ⟨x2, hx2, hf⟩ := nm_ex hf
          refine g_iinc (v := x2) (L1 := [(2, .int x2), (0, .ref (ad κ.1 3 o)), (1, .int a1), (3, .int m2)]) hc 2 rfl (by rw [hx2]; rfl) (by decide) rfl dX2_slotsOf_22 (pc2 := 25) rfl ?_
          refine g_sub [1, 2, 0, 3] rfl ?_
          exact Hj1 _ _ hf
  refine g_sub [2, 3, 1, 0] rfl ?_
  exact LP_n1 _ _ _ _ hf
def f2_owedTo_l12 (o : Nat) (a1 : Int32) (k1 : Int32 → Mem → Option (Int32 × Mem)) : Nat → Int32 → Int32 → Mem → Option (Int32 × Mem)
  | 0, _, _, _ => none
  | n1 + 1, m1, m2, s3 => (if (s3 30 o 0) ≤ m2 then k1 m1 s3 else gd (ib m2 6) (gd (ib a1 6) (nm (m1 + (s3 8 (6 * o + m2.toNatClampNeg) a1.toNatClampNeg)) fun x1 => nm (m2 + (1 : Int32)) fun x2 => f2_owedTo_l12 o a1 k1 n1 x1 x2 s3)))
def f2_owedTo (o : Nat) (a1 : Int32) (s0 : Mem) : Option (Int32 × Mem) :=
  bd (f2_hasMaster o a1 s0) fun r1 s1 => (if r1 = (0 : Int32) then some ((0 : Int32), s1) else nm (fun (y1 : Int32) (s2 : Mem) => some (y1, s2)) fun k1 => f2_owedTo_l12 o a1 k1 FU (0 : Int32) (0 : Int32) s1)
def rm_2_owedTo : Room := { frames := 1, cells := 0, slots := 0, locals := 21 }
set_option maxHeartbeats 4000000 in
set_option maxRecDepth 100000 in
theorem k2_owedTo {κ : Kx} {τ : Nat → Int64} {o : Nat} {a1 : Int32} {s0 sR : Mem} {rR : Int32} (h_o : o < 19) (hf : f2_owedTo o a1 s0 = some (rR, sR)) : CtI κ yX2_owedTo cX2_owedTo 4 (some .int) rm_2_owedTo (NV κ τ) (NV κ τ) [.ref (ad κ.1 3 o), .int a1] s0 sR rR := by
  refine ct_I (by decide +kernel) (Nat.le_of_ble_eq_true rfl) (fun φ hc hr => ?_)
  have hc : Cx κ φ RX2 cX2_owedTo 4 rm_2_owedTo := hc
  show G κ φ (QI κ φ (NV κ τ) sR rR rm_2_owedTo.cells rm_2_owedTo.slots) (NV κ τ) 0 0 s0 [(0, .ref (ad κ.1 3 o)), (1, .int a1)] 0 []
  unfold f2_owedTo at hf
  refine g_iconst (v := (0 : Int32)) hc (by decide) dX2_owedTo_0 (pc2 := 1) rfl ?_
  refine g_istore_n (i := 2) (L1 := [(2, .int (0 : Int32)), (0, .ref (ad κ.1 3 o)), (1, .int a1)]) hc rfl (by decide) rfl dX2_owedTo_1 (pc2 := 2) rfl ?_
  refine g_aload_n (i := 0) hc 1 rfl rfl dX2_owedTo_2 (pc2 := 3) rfl ?_
  refine g_iload_n (i := 1) hc 2 rfl rfl dX2_owedTo_3 (pc2 := 4) rfl ?_
  obtain ⟨r1, s1, hp, hf⟩ := bd_some hf
  refine g_vI hc (k2_hasMaster (by omega) hp) co_X2_63 (u3 (by omega)) rfl rfl (by decide) (by decide) (Nat.le_of_ble_eq_true rfl) dX2_owedTo_4 (pc2 := 7) rfl ?_
  refine g_if_eq hc 40 (by decide) dX2_owedTo_7 (pc2 := 10) rfl (fun q => ?_) (fun q => ?_)
  · have hf := ite_t hf q
    refine g_iload_n (i := 2) hc 0 rfl rfl dX2_owedTo_40 (pc2 := 41) rfl ?_
    exact g_iret hc hf hr rfl (by decide) (by decide) dX2_owedTo_41
  · have hf := ite_f hf q
    refine g_iconst (v := (0 : Int32)) hc (by decide) dX2_owedTo_10 (pc2 := 11) rfl ?_
    refine g_istore_n (i := 3) (L1 := [(3, .int (0 : Int32)), (2, .int (0 : Int32)), (0, .ref (ad κ.1 3 o)), (1, .int a1)]) hc rfl (by decide) rfl dX2_owedTo_11 (pc2 := 12) rfl ?_
    obtain ⟨k1, hk1, hf⟩ := nm_ex hf
    have Hk1 : ∀ (y1 : Int32) (s2 : Mem), k1 y1 s2 = some (rR, sR) → G κ φ (QI κ φ (NV κ τ) sR rR rm_2_owedTo.cells rm_2_owedTo.slots) (NV κ τ) 0 0 s2 [(2, .int y1)] 40 [] := by
      intro y1 s2 hf
      rw [hk1] at hf
      refine g_iload_n (i := 2) hc 0 rfl rfl dX2_owedTo_40 (pc2 := 41) rfl ?_
      exact g_iret hc hf hr rfl (by decide) (by decide) dX2_owedTo_41
    have LP_n1 : ∀ (n1 : Nat) (m1 : Int32) (m2 : Int32) (s3 : Mem), f2_owedTo_l12 o a1 k1 n1 m1 m2 s3 = some (rR, sR) → G κ φ (QI κ φ (NV κ τ) sR rR rm_2_owedTo.cells rm_2_owedTo.slots) (NV κ τ) 0 0 s3 [(0, .ref (ad κ.1 3 o)), (1, .int a1), (2, .int m1), (3, .int m2)] 12 [] := by
      intro n1
      induction n1 with
      | zero => intro m1 m2 s3 hf; rw [f2_owedTo_l12] at hf; cases hf
      | succ n1 ih_n1 =>
        intro m1 m2 s3 hf
        rw [f2_owedTo_l12] at hf
        refine g_iload_n (i := 3) hc 3 rfl rfl dX2_owedTo_12 (pc2 := 13) rfl ?_
        refine g_aload_n (i := 0) hc 0 rfl rfl dX2_owedTo_13 (pc2 := 14) rfl ?_
        refine g_geti hc fo_X2_38 (u3 (by omega)) dX2_owedTo_14 (pc2 := 17) rfl ?_
        refine g_icmp_ge hc 40 (by decide) dX2_owedTo_17 (pc2 := 20) rfl (fun q => ?_) (fun q => ?_)
        · have hf := ite_t hf q
          refine g_sub [2] rfl ?_
          exact Hk1 _ _ hf
        · have hf := ite_f hf q
          refine g_iload_n (i := 2) hc 2 rfl rfl dX2_owedTo_20 (pc2 := 21) rfl ?_
          refine g_aload_n (i := 0) hc 0 rfl rfl dX2_owedTo_21 (pc2 := 22) rfl ?_
          refine g_getr (q := ad κ.1 6 o) hc fo_X2_20 (u3 (by omega)) rfl dX2_owedTo_22 (pc2 := 25) rfl ?_
          refine g_iload_n (i := 3) hc 3 rfl rfl dX2_owedTo_25 (pc2 := 26) rfl ?_
          obtain ⟨hg1, hf⟩ := gd_some hf
          have ihg1 := ib_lt hg1
          refine g_aldr (q := ad κ.1 7 (6 * o + m2.toNatClampNeg)) hc 6 o (by decide) (by decide) (u6 (by omega)) hg1 rfl dX2_owedTo_26 (pc2 := 27) rfl ?_
          refine g_getr (q := ad κ.1 8 (6 * o + m2.toNatClampNeg)) hc fo_X2_67 (u7 (by omega)) rfl dX2_owedTo_27 (pc2 := 30) rfl ?_
          refine g_iload_n (i := 1) hc 1 rfl rfl dX2_owedTo_30 (pc2 := 31) rfl ?_
          obtain ⟨hg2, hf⟩ := gd_some hf
          refine g_aldi hc 8 (6 * o + m2.toNatClampNeg) rfl (u8 (by omega)) hg2 dX2_owedTo_31 (pc2 := 32) rfl ?_
          refine g_iadd hc dX2_owedTo_32 (pc2 := 33) rfl ?_
          obtain ⟨x1, hx1, hf⟩ := nm_ex hf
          refine g_nmi hx1 ?_
          refine g_istore_n (i := 2) (L1 := [(2, .int x1), (0, .ref (ad κ.1 3 o)), (1, .int a1), (3, .int m2)]) hc rfl (by decide) rfl dX2_owedTo_33 (pc2 := 34) rfl ?_
          obtain ⟨x2, hx2, hf⟩ := nm_ex hf
          refine g_iinc (v := x2) (L1 := [(3, .int x2), (2, .int x1), (0, .ref (ad κ.1 3 o)), (1, .int a1)]) hc 3 rfl (by rw [hx2]; rfl) (by decide) rfl dX2_owedTo_34 (pc2 := 37) rfl ?_
          refine g_goto hc 12 (by decide) dX2_owedTo_37 ?_
          refine g_sub [2, 3, 1, 0] rfl ?_
          exact ih_n1 _ _ _ hf
    refine g_sub [2, 3, 1, 0] rfl ?_
    exact LP_n1 _ _ _ _ hf
def f2_allDebts_l4 (o : Nat) (k1 : Int32 → Mem → Option (Int32 × Mem)) : Nat → Int32 → Int32 → Mem → Option (Int32 × Mem)
  | 0, _, _, _ => none
  | n1 + 1, m1, m2, s2 => (if (s2 30 o 0) ≤ m2 then k1 m1 s2 else gd (ib m2 6) (bd (f5_debts (6 * o + m2.toNatClampNeg) s2) fun r1 s3 => nm (m1 + r1) fun x1 => nm (m2 + (1 : Int32)) fun x2 => f2_allDebts_l4 o k1 n1 x1 x2 s3))
def f2_allDebts (o : Nat) (s0 : Mem) : Option (Int32 × Mem) :=
  nm (fun (y1 : Int32) (s1 : Mem) => some (y1, s1)) fun k1 => f2_allDebts_l4 o k1 FU (0 : Int32) (0 : Int32) s0
def rm_2_allDebts : Room := { frames := 1, cells := 0, slots := 0, locals := 22 }
set_option maxHeartbeats 4000000 in
set_option maxRecDepth 100000 in
theorem k2_allDebts {κ : Kx} {τ : Nat → Int64} {o : Nat} {s0 sR : Mem} {rR : Int32} (h_o : o < 19) (hf : f2_allDebts o s0 = some (rR, sR)) : CtI κ yX2_allDebts cX2_allDebts 3 (some .int) rm_2_allDebts (NV κ τ) (NV κ τ) [.ref (ad κ.1 3 o)] s0 sR rR := by
  refine ct_I (by decide +kernel) (Nat.le_of_ble_eq_true rfl) (fun φ hc hr => ?_)
  have hc : Cx κ φ RX2 cX2_allDebts 3 rm_2_allDebts := hc
  show G κ φ (QI κ φ (NV κ τ) sR rR rm_2_allDebts.cells rm_2_allDebts.slots) (NV κ τ) 0 0 s0 [(0, .ref (ad κ.1 3 o))] 0 []
  unfold f2_allDebts at hf
  refine g_iconst (v := (0 : Int32)) hc (by decide) dX2_allDebts_0 (pc2 := 1) rfl ?_
  refine g_istore_n (i := 1) (L1 := [(1, .int (0 : Int32)), (0, .ref (ad κ.1 3 o))]) hc rfl (by decide) rfl dX2_allDebts_1 (pc2 := 2) rfl ?_
  refine g_iconst (v := (0 : Int32)) hc (by decide) dX2_allDebts_2 (pc2 := 3) rfl ?_
  refine g_istore_n (i := 2) (L1 := [(2, .int (0 : Int32)), (1, .int (0 : Int32)), (0, .ref (ad κ.1 3 o))]) hc rfl (by decide) rfl dX2_allDebts_3 (pc2 := 4) rfl ?_
  obtain ⟨k1, hk1, hf⟩ := nm_ex hf
  have Hk1 : ∀ (y1 : Int32) (s1 : Mem), k1 y1 s1 = some (rR, sR) → G κ φ (QI κ φ (NV κ τ) sR rR rm_2_allDebts.cells rm_2_allDebts.slots) (NV κ τ) 0 0 s1 [(1, .int y1)] 30 [] := by
    intro y1 s1 hf
    rw [hk1] at hf
    refine g_iload_n (i := 1) hc 0 rfl rfl dX2_allDebts_30 (pc2 := 31) rfl ?_
    exact g_iret hc hf hr rfl (by decide) (by decide) dX2_allDebts_31
  have LP_n1 : ∀ (n1 : Nat) (m1 : Int32) (m2 : Int32) (s2 : Mem), f2_allDebts_l4 o k1 n1 m1 m2 s2 = some (rR, sR) → G κ φ (QI κ φ (NV κ τ) sR rR rm_2_allDebts.cells rm_2_allDebts.slots) (NV κ τ) 0 0 s2 [(0, .ref (ad κ.1 3 o)), (1, .int m1), (2, .int m2)] 4 [] := by
    intro n1
    induction n1 with
    | zero => intro m1 m2 s2 hf; rw [f2_allDebts_l4] at hf; cases hf
    | succ n1 ih_n1 =>
      intro m1 m2 s2 hf
      rw [f2_allDebts_l4] at hf
      refine g_iload_n (i := 2) hc 2 rfl rfl dX2_allDebts_4 (pc2 := 5) rfl ?_
      refine g_aload_n (i := 0) hc 0 rfl rfl dX2_allDebts_5 (pc2 := 6) rfl ?_
      refine g_geti hc fo_X2_38 (u3 (by omega)) dX2_allDebts_6 (pc2 := 9) rfl ?_
      refine g_icmp_ge hc 30 (by decide) dX2_allDebts_9 (pc2 := 12) rfl (fun q => ?_) (fun q => ?_)
      · have hf := ite_t hf q
        refine g_sub [1] rfl ?_
        exact Hk1 _ _ hf
      · have hf := ite_f hf q
        refine g_iload_n (i := 1) hc 1 rfl rfl dX2_allDebts_12 (pc2 := 13) rfl ?_
        refine g_aload_n (i := 0) hc 0 rfl rfl dX2_allDebts_13 (pc2 := 14) rfl ?_
        refine g_getr (q := ad κ.1 6 o) hc fo_X2_20 (u3 (by omega)) rfl dX2_allDebts_14 (pc2 := 17) rfl ?_
        refine g_iload_n (i := 2) hc 2 rfl rfl dX2_allDebts_17 (pc2 := 18) rfl ?_
        obtain ⟨hg1, hf⟩ := gd_some hf
        have ihg1 := ib_lt hg1
        refine g_aldr (q := ad κ.1 7 (6 * o + m2.toNatClampNeg)) hc 6 o (by decide) (by decide) (u6 (by omega)) hg1 rfl dX2_allDebts_18 (pc2 := 19) rfl ?_
        obtain ⟨r1, s3, hp, hf⟩ := bd_some hf
        refine g_vI hc (k5_debts (by omega) hp) co_X2_70 (u7 (by omega)) rfl rfl (by decide) (by decide) (Nat.le_of_ble_eq_true rfl) dX2_allDebts_19 (pc2 := 22) rfl ?_
        refine g_iadd hc dX2_allDebts_22 (pc2 := 23) rfl ?_
        obtain ⟨x1, hx1, hf⟩ := nm_ex hf
        refine g_nmi hx1 ?_
        refine g_istore_n (i := 1) (L1 := [(1, .int x1), (0, .ref (ad κ.1 3 o)), (2, .int m2)]) hc rfl (by decide) rfl dX2_allDebts_23 (pc2 := 24) rfl ?_
        obtain ⟨x2, hx2, hf⟩ := nm_ex hf
        refine g_iinc (v := x2) (L1 := [(2, .int x2), (1, .int x1), (0, .ref (ad κ.1 3 o))]) hc 2 rfl (by rw [hx2]; rfl) (by decide) rfl dX2_allDebts_24 (pc2 := 27) rfl ?_
        refine g_goto hc 4 (by decide) dX2_allDebts_27 ?_
        refine g_sub [2, 1, 0] rfl ?_
        exact ih_n1 _ _ _ hf
  refine g_sub [2, 1, 0] rfl ?_
  exact LP_n1 _ _ _ _ hf
def f2_waitingBursts_l4 (o : Nat) (k1 : Int32 → Mem → Option (Int32 × Mem)) : Nat → Int32 → Int32 → Mem → Option (Int32 × Mem)
  | 0, _, _, _ => none
  | n1 + 1, m1, m2, s2 => (if (s2 30 o 0) ≤ m2 then k1 m1 s2 else gd (ib m2 6) (nm (m1 + (s2 50 (6 * o + m2.toNatClampNeg) 0)) fun x1 => nm (m2 + (1 : Int32)) fun x2 => f2_waitingBursts_l4 o k1 n1 x1 x2 s2))
def f2_waitingBursts (o : Nat) (s0 : Mem) : Option (Int32 × Mem) :=
  nm (fun (y1 : Int32) (s1 : Mem) => some (y1, s1)) fun k1 => f2_waitingBursts_l4 o k1 FU (0 : Int32) (0 : Int32) s0
def rm_2_waitingBursts : Room := { frames := 0, cells := 0, slots := 0, locals := 0 }
set_option maxHeartbeats 4000000 in
set_option maxRecDepth 100000 in
theorem k2_waitingBursts {κ : Kx} {τ : Nat → Int64} {o : Nat} {s0 sR : Mem} {rR : Int32} (h_o : o < 19) (hf : f2_waitingBursts o s0 = some (rR, sR)) : CtI κ yX2_waitingBursts cX2_waitingBursts 3 (some .int) rm_2_waitingBursts (NV κ τ) (NV κ τ) [.ref (ad κ.1 3 o)] s0 sR rR := by
  refine ct_I (by decide +kernel) (Nat.le_of_ble_eq_true rfl) (fun φ hc hr => ?_)
  have hc : Cx κ φ RX2 cX2_waitingBursts 3 rm_2_waitingBursts := hc
  show G κ φ (QI κ φ (NV κ τ) sR rR rm_2_waitingBursts.cells rm_2_waitingBursts.slots) (NV κ τ) 0 0 s0 [(0, .ref (ad κ.1 3 o))] 0 []
  unfold f2_waitingBursts at hf
  refine g_iconst (v := (0 : Int32)) hc (by decide) dX2_waitingBursts_0 (pc2 := 1) rfl ?_
  refine g_istore_n (i := 1) (L1 := [(1, .int (0 : Int32)), (0, .ref (ad κ.1 3 o))]) hc rfl (by decide) rfl dX2_waitingBursts_1 (pc2 := 2) rfl ?_
  refine g_iconst (v := (0 : Int32)) hc (by decide) dX2_waitingBursts_2 (pc2 := 3) rfl ?_
  refine g_istore_n (i := 2) (L1 := [(2, .int (0 : Int32)), (1, .int (0 : Int32)), (0, .ref (ad κ.1 3 o))]) hc rfl (by decide) rfl dX2_waitingBursts_3 (pc2 := 4) rfl ?_
  obtain ⟨k1, hk1, hf⟩ := nm_ex hf
  have Hk1 : ∀ (y1 : Int32) (s1 : Mem), k1 y1 s1 = some (rR, sR) → G κ φ (QI κ φ (NV κ τ) sR rR rm_2_waitingBursts.cells rm_2_waitingBursts.slots) (NV κ τ) 0 0 s1 [(1, .int y1)] 33 [] := by
    intro y1 s1 hf
    rw [hk1] at hf
    refine g_iload_n (i := 1) hc 0 rfl rfl dX2_waitingBursts_33 (pc2 := 34) rfl ?_
    exact g_iret hc hf hr rfl (by decide) (by decide) dX2_waitingBursts_34
  have LP_n1 : ∀ (n1 : Nat) (m1 : Int32) (m2 : Int32) (s2 : Mem), f2_waitingBursts_l4 o k1 n1 m1 m2 s2 = some (rR, sR) → G κ φ (QI κ φ (NV κ τ) sR rR rm_2_waitingBursts.cells rm_2_waitingBursts.slots) (NV κ τ) 0 0 s2 [(0, .ref (ad κ.1 3 o)), (1, .int m1), (2, .int m2)] 4 [] := by
    intro n1
    induction n1 with
    | zero => intro m1 m2 s2 hf; rw [f2_waitingBursts_l4] at hf; cases hf
    | succ n1 ih_n1 =>
      intro m1 m2 s2 hf
      rw [f2_waitingBursts_l4] at hf
      refine g_iload_n (i := 2) hc 2 rfl rfl dX2_waitingBursts_4 (pc2 := 5) rfl ?_
      refine g_aload_n (i := 0) hc 0 rfl rfl dX2_waitingBursts_5 (pc2 := 6) rfl ?_
      refine g_geti hc fo_X2_38 (u3 (by omega)) dX2_waitingBursts_6 (pc2 := 9) rfl ?_
      refine g_icmp_ge hc 33 (by decide) dX2_waitingBursts_9 (pc2 := 12) rfl (fun q => ?_) (fun q => ?_)
      · have hf := ite_t hf q
        refine g_sub [1] rfl ?_
        exact Hk1 _ _ hf
      · have hf := ite_f hf q
        refine g_iload_n (i := 1) hc 1 rfl rfl dX2_waitingBursts_12 (pc2 := 13) rfl ?_
        refine g_aload_n (i := 0) hc 0 rfl rfl dX2_waitingBursts_13 (pc2 := 14) rfl ?_
        refine g_getr (q := ad κ.1 6 o) hc fo_X2_20 (u3 (by omega)) rfl dX2_waitingBursts_14 (pc2 := 17) rfl ?_
        refine g_iload_n (i := 2) hc 2 rfl rfl dX2_waitingBursts_17 (pc2 := 18) rfl ?_
        obtain ⟨hg1, hf⟩ := gd_some hf
        have ihg1 := ib_lt hg1
        refine g_aldr (q := ad κ.1 7 (6 * o + m2.toNatClampNeg)) hc 6 o (by decide) (by decide) (u6 (by omega)) hg1 rfl dX2_waitingBursts_18 (pc2 := 19) rfl ?_
        refine g_getr (q := ad κ.1 9 (6 * o + m2.toNatClampNeg)) hc fo_X2_74 (u7 (by omega)) rfl dX2_waitingBursts_19 (pc2 := 22) rfl ?_
        refine g_geti hc fo_X2_78 (u9 (by omega)) dX2_waitingBursts_22 (pc2 := 25) rfl ?_
        refine g_iadd hc dX2_waitingBursts_25 (pc2 := 26) rfl ?_
        obtain ⟨x1, hx1, hf⟩ := nm_ex hf
        refine g_nmi hx1 ?_
        refine g_istore_n (i := 1) (L1 := [(1, .int x1), (0, .ref (ad κ.1 3 o)), (2, .int m2)]) hc rfl (by decide) rfl dX2_waitingBursts_26 (pc2 := 27) rfl ?_
        obtain ⟨x2, hx2, hf⟩ := nm_ex hf
        refine g_iinc (v := x2) (L1 := [(2, .int x2), (1, .int x1), (0, .ref (ad κ.1 3 o))]) hc 2 rfl (by rw [hx2]; rfl) (by decide) rfl dX2_waitingBursts_27 (pc2 := 30) rfl ?_
        refine g_goto hc 4 (by decide) dX2_waitingBursts_30 ?_
        refine g_sub [2, 1, 0] rfl ?_
        exact ih_n1 _ _ _ hf
  refine g_sub [2, 1, 0] rfl ?_
  exact LP_n1 _ _ _ _ hf
def f2_openAnswers_l4 (o : Nat) (k1 : Int32 → Mem → Option (Int32 × Mem)) : Nat → Int32 → Int32 → Mem → Option (Int32 × Mem)
  | 0, _, _, _ => none
  | n1 + 1, m1, m2, s2 => (if (s2 30 o 0) ≤ m2 then k1 m1 s2 else gd (ib m2 6) (nm (m1 + (s2 51 (6 * o + m2.toNatClampNeg) 0)) fun x1 => nm (m2 + (1 : Int32)) fun x2 => f2_openAnswers_l4 o k1 n1 x1 x2 s2))
def f2_openAnswers (o : Nat) (s0 : Mem) : Option (Int32 × Mem) :=
  nm (fun (y1 : Int32) (s1 : Mem) => some (y1, s1)) fun k1 => f2_openAnswers_l4 o k1 FU (0 : Int32) (0 : Int32) s0
def rm_2_openAnswers : Room := { frames := 0, cells := 0, slots := 0, locals := 0 }
set_option maxHeartbeats 4000000 in
set_option maxRecDepth 100000 in
theorem k2_openAnswers {κ : Kx} {τ : Nat → Int64} {o : Nat} {s0 sR : Mem} {rR : Int32} (h_o : o < 19) (hf : f2_openAnswers o s0 = some (rR, sR)) : CtI κ yX2_openAnswers cX2_openAnswers 3 (some .int) rm_2_openAnswers (NV κ τ) (NV κ τ) [.ref (ad κ.1 3 o)] s0 sR rR := by
  refine ct_I (by decide +kernel) (Nat.le_of_ble_eq_true rfl) (fun φ hc hr => ?_)
  have hc : Cx κ φ RX2 cX2_openAnswers 3 rm_2_openAnswers := hc
  show G κ φ (QI κ φ (NV κ τ) sR rR rm_2_openAnswers.cells rm_2_openAnswers.slots) (NV κ τ) 0 0 s0 [(0, .ref (ad κ.1 3 o))] 0 []
  unfold f2_openAnswers at hf
  refine g_iconst (v := (0 : Int32)) hc (by decide) dX2_openAnswers_0 (pc2 := 1) rfl ?_
  refine g_istore_n (i := 1) (L1 := [(1, .int (0 : Int32)), (0, .ref (ad κ.1 3 o))]) hc rfl (by decide) rfl dX2_openAnswers_1 (pc2 := 2) rfl ?_
  refine g_iconst (v := (0 : Int32)) hc (by decide) dX2_openAnswers_2 (pc2 := 3) rfl ?_
  refine g_istore_n (i := 2) (L1 := [(2, .int (0 : Int32)), (1, .int (0 : Int32)), (0, .ref (ad κ.1 3 o))]) hc rfl (by decide) rfl dX2_openAnswers_3 (pc2 := 4) rfl ?_
  obtain ⟨k1, hk1, hf⟩ := nm_ex hf
  have Hk1 : ∀ (y1 : Int32) (s1 : Mem), k1 y1 s1 = some (rR, sR) → G κ φ (QI κ φ (NV κ τ) sR rR rm_2_openAnswers.cells rm_2_openAnswers.slots) (NV κ τ) 0 0 s1 [(1, .int y1)] 33 [] := by
    intro y1 s1 hf
    rw [hk1] at hf
    refine g_iload_n (i := 1) hc 0 rfl rfl dX2_openAnswers_33 (pc2 := 34) rfl ?_
    exact g_iret hc hf hr rfl (by decide) (by decide) dX2_openAnswers_34
  have LP_n1 : ∀ (n1 : Nat) (m1 : Int32) (m2 : Int32) (s2 : Mem), f2_openAnswers_l4 o k1 n1 m1 m2 s2 = some (rR, sR) → G κ φ (QI κ φ (NV κ τ) sR rR rm_2_openAnswers.cells rm_2_openAnswers.slots) (NV κ τ) 0 0 s2 [(0, .ref (ad κ.1 3 o)), (1, .int m1), (2, .int m2)] 4 [] := by
    intro n1
    induction n1 with
    | zero => intro m1 m2 s2 hf; rw [f2_openAnswers_l4] at hf; cases hf
    | succ n1 ih_n1 =>
      intro m1 m2 s2 hf
      rw [f2_openAnswers_l4] at hf
      refine g_iload_n (i := 2) hc 2 rfl rfl dX2_openAnswers_4 (pc2 := 5) rfl ?_
      refine g_aload_n (i := 0) hc 0 rfl rfl dX2_openAnswers_5 (pc2 := 6) rfl ?_
      refine g_geti hc fo_X2_38 (u3 (by omega)) dX2_openAnswers_6 (pc2 := 9) rfl ?_
      refine g_icmp_ge hc 33 (by decide) dX2_openAnswers_9 (pc2 := 12) rfl (fun q => ?_) (fun q => ?_)
      · have hf := ite_t hf q
        refine g_sub [1] rfl ?_
        exact Hk1 _ _ hf
      · have hf := ite_f hf q
        refine g_iload_n (i := 1) hc 1 rfl rfl dX2_openAnswers_12 (pc2 := 13) rfl ?_
        refine g_aload_n (i := 0) hc 0 rfl rfl dX2_openAnswers_13 (pc2 := 14) rfl ?_
        refine g_getr (q := ad κ.1 6 o) hc fo_X2_20 (u3 (by omega)) rfl dX2_openAnswers_14 (pc2 := 17) rfl ?_
        refine g_iload_n (i := 2) hc 2 rfl rfl dX2_openAnswers_17 (pc2 := 18) rfl ?_
        obtain ⟨hg1, hf⟩ := gd_some hf
        have ihg1 := ib_lt hg1
        refine g_aldr (q := ad κ.1 7 (6 * o + m2.toNatClampNeg)) hc 6 o (by decide) (by decide) (u6 (by omega)) hg1 rfl dX2_openAnswers_18 (pc2 := 19) rfl ?_
        refine g_getr (q := ad κ.1 13 (6 * o + m2.toNatClampNeg)) hc fo_X2_83 (u7 (by omega)) rfl dX2_openAnswers_19 (pc2 := 22) rfl ?_
        refine g_geti hc fo_X2_87 (u13 (by omega)) dX2_openAnswers_22 (pc2 := 25) rfl ?_
        refine g_iadd hc dX2_openAnswers_25 (pc2 := 26) rfl ?_
        obtain ⟨x1, hx1, hf⟩ := nm_ex hf
        refine g_nmi hx1 ?_
        refine g_istore_n (i := 1) (L1 := [(1, .int x1), (0, .ref (ad κ.1 3 o)), (2, .int m2)]) hc rfl (by decide) rfl dX2_openAnswers_26 (pc2 := 27) rfl ?_
        obtain ⟨x2, hx2, hf⟩ := nm_ex hf
        refine g_iinc (v := x2) (L1 := [(2, .int x2), (1, .int x1), (0, .ref (ad κ.1 3 o))]) hc 2 rfl (by rw [hx2]; rfl) (by decide) rfl dX2_openAnswers_27 (pc2 := 30) rfl ?_
        refine g_goto hc 4 (by decide) dX2_openAnswers_30 ?_
        refine g_sub [2, 1, 0] rfl ?_
        exact ih_n1 _ _ _ hf
  refine g_sub [2, 1, 0] rfl ?_
  exact LP_n1 _ _ _ _ hf
def f2_bankruptBits_l4 (o : Nat) (k1 : Int32 → Mem → Option (Int32 × Mem)) : Nat → Int32 → Int32 → Mem → Option (Int32 × Mem)
  | 0, _, _, _ => none
  | n1 + 1, m1, m2, s2 => (if (s2 30 o 0) ≤ m2 then k1 m1 s2 else gd (ib m2 6) (nm (fun (y2 : Int32) (s3 : Mem) => nm (m2 + (1 : Int32)) fun x1 => f2_bankruptBits_l4 o k1 n1 y2 x1 s3) fun j1 => (if (s2 40 (6 * o + m2.toNatClampNeg) 0) = (0 : Int32) then j1 m1 s2 else nm (m1 ||| ((1 : Int32) <<< (m2 &&& 31))) fun x2 => j1 x2 s2)))
def f2_bankruptBits (o : Nat) (s0 : Mem) : Option (Int32 × Mem) :=
  nm (fun (y1 : Int32) (s1 : Mem) => some (y1, s1)) fun k1 => f2_bankruptBits_l4 o k1 FU (0 : Int32) (0 : Int32) s0
def rm_2_bankruptBits : Room := { frames := 0, cells := 0, slots := 0, locals := 0 }
set_option maxHeartbeats 4000000 in
set_option maxRecDepth 100000 in
theorem k2_bankruptBits {κ : Kx} {τ : Nat → Int64} {o : Nat} {s0 sR : Mem} {rR : Int32} (h_o : o < 19) (hf : f2_bankruptBits o s0 = some (rR, sR)) : CtI κ yX2_bankruptBits cX2_bankruptBits 3 (some .int) rm_2_bankruptBits (NV κ τ) (NV κ τ) [.ref (ad κ.1 3 o)] s0 sR rR := by
  refine ct_I (by decide +kernel) (Nat.le_of_ble_eq_true rfl) (fun φ hc hr => ?_)
  have hc : Cx κ φ RX2 cX2_bankruptBits 3 rm_2_bankruptBits := hc
  show G κ φ (QI κ φ (NV κ τ) sR rR rm_2_bankruptBits.cells rm_2_bankruptBits.slots) (NV κ τ) 0 0 s0 [(0, .ref (ad κ.1 3 o))] 0 []
  unfold f2_bankruptBits at hf
  refine g_iconst (v := (0 : Int32)) hc (by decide) dX2_bankruptBits_0 (pc2 := 1) rfl ?_
  refine g_istore_n (i := 1) (L1 := [(1, .int (0 : Int32)), (0, .ref (ad κ.1 3 o))]) hc rfl (by decide) rfl dX2_bankruptBits_1 (pc2 := 2) rfl ?_
  refine g_iconst (v := (0 : Int32)) hc (by decide) dX2_bankruptBits_2 (pc2 := 3) rfl ?_
  refine g_istore_n (i := 2) (L1 := [(2, .int (0 : Int32)), (1, .int (0 : Int32)), (0, .ref (ad κ.1 3 o))]) hc rfl (by decide) rfl dX2_bankruptBits_3 (pc2 := 4) rfl ?_
  obtain ⟨k1, hk1, hf⟩ := nm_ex hf
  have Hk1 : ∀ (y1 : Int32) (s1 : Mem), k1 y1 s1 = some (rR, sR) → G κ φ (QI κ φ (NV κ τ) sR rR rm_2_bankruptBits.cells rm_2_bankruptBits.slots) (NV κ τ) 0 0 s1 [(1, .int y1)] 36 [] := by
    intro y1 s1 hf
    rw [hk1] at hf
    refine g_iload_n (i := 1) hc 0 rfl rfl dX2_bankruptBits_36 (pc2 := 37) rfl ?_
    exact g_iret hc hf hr rfl (by decide) (by decide) dX2_bankruptBits_37
  have LP_n1 : ∀ (n1 : Nat) (m1 : Int32) (m2 : Int32) (s2 : Mem), f2_bankruptBits_l4 o k1 n1 m1 m2 s2 = some (rR, sR) → G κ φ (QI κ φ (NV κ τ) sR rR rm_2_bankruptBits.cells rm_2_bankruptBits.slots) (NV κ τ) 0 0 s2 [(0, .ref (ad κ.1 3 o)), (1, .int m1), (2, .int m2)] 4 [] := by
    intro n1
    induction n1 with
    | zero => intro m1 m2 s2 hf; rw [f2_bankruptBits_l4] at hf; cases hf
    | succ n1 ih_n1 =>
      intro m1 m2 s2 hf
      rw [f2_bankruptBits_l4] at hf
      refine g_iload_n (i := 2) hc 2 rfl rfl dX2_bankruptBits_4 (pc2 := 5) rfl ?_
      refine g_aload_n (i := 0) hc 0 rfl rfl dX2_bankruptBits_5 (pc2 := 6) rfl ?_
      refine g_geti hc fo_X2_38 (u3 (by omega)) dX2_bankruptBits_6 (pc2 := 9) rfl ?_
      refine g_icmp_ge hc 36 (by decide) dX2_bankruptBits_9 (pc2 := 12) rfl (fun q => ?_) (fun q => ?_)
      · have hf := ite_t hf q
        refine g_sub [1] rfl ?_
        exact Hk1 _ _ hf
      · have hf := ite_f hf q
        refine g_aload_n (i := 0) hc 0 rfl rfl dX2_bankruptBits_12 (pc2 := 13) rfl ?_
        refine g_getr (q := ad κ.1 6 o) hc fo_X2_20 (u3 (by omega)) rfl dX2_bankruptBits_13 (pc2 := 16) rfl ?_
        refine g_iload_n (i := 2) hc 2 rfl rfl dX2_bankruptBits_16 (pc2 := 17) rfl ?_
        obtain ⟨hg1, hf⟩ := gd_some hf
        have ihg1 := ib_lt hg1
        refine g_aldr (q := ad κ.1 7 (6 * o + m2.toNatClampNeg)) hc 6 o (by decide) (by decide) (u6 (by omega)) hg1 rfl dX2_bankruptBits_17 (pc2 := 18) rfl ?_
        refine g_geti hc fo_X2_90 (u7 (by omega)) dX2_bankruptBits_18 (pc2 := 21) rfl ?_
        obtain ⟨j1, hj1, hf⟩ := nm_ex hf
        have Hj1 : ∀ (y2 : Int32) (s3 : Mem), j1 y2 s3 = some (rR, sR) → G κ φ (QI κ φ (NV κ τ) sR rR rm_2_bankruptBits.cells rm_2_bankruptBits.slots) (NV κ τ) 0 0 s3 [(0, .ref (ad κ.1 3 o)), (1, .int y2), (2, .int m2)] 30 [] := by
          intro y2 s3 hf
          rw [hj1] at hf
          obtain ⟨x1, hx1, hf⟩ := nm_ex hf
          refine g_iinc (v := x1) (L1 := [(2, .int x1), (0, .ref (ad κ.1 3 o)), (1, .int y2)]) hc 2 rfl (by rw [hx1]; rfl) (by decide) rfl dX2_bankruptBits_30 (pc2 := 33) rfl ?_
          refine g_goto hc 4 (by decide) dX2_bankruptBits_33 ?_
          refine g_sub [1, 2, 0] rfl ?_
          exact ih_n1 _ _ _ hf
        refine g_if_eq hc 30 (by decide) dX2_bankruptBits_21 (pc2 := 24) rfl (fun q => ?_) (fun q => ?_)
        · have hf := ite_t hf q
          exact Hj1 _ _ hf
        · have hf := ite_f hf q
          refine g_iload_n (i := 1) hc 1 rfl rfl dX2_bankruptBits_24 (pc2 := 25) rfl ?_
          refine g_iconst (v := (1 : Int32)) hc (by decide) dX2_bankruptBits_25 (pc2 := 26) rfl ?_
          refine g_iload_n (i := 2) hc 2 rfl rfl dX2_bankruptBits_26 (pc2 := 27) rfl ?_
          refine g_ishl hc dX2_bankruptBits_27 (pc2 := 28) rfl ?_
          refine g_ior hc dX2_bankruptBits_28 (pc2 := 29) rfl ?_
          obtain ⟨x2, hx2, hf⟩ := nm_ex hf
          refine g_nmi hx2 ?_
          refine g_istore_n (i := 1) (L1 := [(1, .int x2), (0, .ref (ad κ.1 3 o)), (2, .int m2)]) hc rfl (by decide) rfl dX2_bankruptBits_29 (pc2 := 30) rfl ?_
          refine g_sub [1, 0, 2] rfl ?_
          exact Hj1 _ _ hf
  refine g_sub [2, 1, 0] rfl ?_
  exact LP_n1 _ _ _ _ hf
def f2_mastersAhead_l26 (o : Nat) (a1 : Int32) (r2 : Int32) (k1 : Int32 → Mem → Option (Int32 × Mem)) : Nat → Int32 → Int32 → Mem → Option (Int32 × Mem)
  | 0, _, _, _ => none
  | n1 + 1, m1, m2, s4 => (if (s4 30 o 0) ≤ m2 then k1 m1 s4 else gd (ib m2 6) (bd (f5_debts (6 * o + m2.toNatClampNeg) s4) fun r3 s5 => nm (fun (y2 : Int32) (s6 : Mem) => nm (m2 + (1 : Int32)) fun x1 => f2_mastersAhead_l26 o a1 r2 k1 n1 y2 x1 s6) fun j1 => nm (fun (s7 : Mem) => nm (m1 + (1 : Int32)) fun x2 => j1 x2 s7) fun j2 => (if r2 < r3 then j2 s5 else (if r3 = r2 then (if a1 ≤ m2 then j1 m1 s5 else j2 s5) else j1 m1 s5))))
def f2_mastersAhead (o : Nat) (a1 : Int32) (s0 : Mem) : Option (Int32 × Mem) :=
  bd (f2_hasMaster o a1 s0) fun r1 s1 => (if r1 = (0 : Int32) then some ((-9 : Int32), s1) else gd (ib a1 6) (bd (f5_debts (6 * o + a1.toNatClampNeg) s1) fun r2 s2 => nm (fun (y1 : Int32) (s3 : Mem) => some (y1, s3)) fun k1 => f2_mastersAhead_l26 o a1 r2 k1 FU (0 : Int32) (0 : Int32) s2))
def rm_2_mastersAhead : Room := { frames := 1, cells := 0, slots := 0, locals := 22 }
set_option maxHeartbeats 4000000 in
set_option maxRecDepth 100000 in
theorem k2_mastersAhead {κ : Kx} {τ : Nat → Int64} {o : Nat} {a1 : Int32} {s0 sR : Mem} {rR : Int32} (h_o : o < 19) (hf : f2_mastersAhead o a1 s0 = some (rR, sR)) : CtI κ yX2_mastersAhead cX2_mastersAhead 6 (some .int) rm_2_mastersAhead (NV κ τ) (NV κ τ) [.ref (ad κ.1 3 o), .int a1] s0 sR rR := by
  refine ct_I (by decide +kernel) (Nat.le_of_ble_eq_true rfl) (fun φ hc hr => ?_)
  have hc : Cx κ φ RX2 cX2_mastersAhead 6 rm_2_mastersAhead := hc
  show G κ φ (QI κ φ (NV κ τ) sR rR rm_2_mastersAhead.cells rm_2_mastersAhead.slots) (NV κ τ) 0 0 s0 [(0, .ref (ad κ.1 3 o)), (1, .int a1)] 0 []
  unfold f2_mastersAhead at hf
  refine g_aload_n (i := 0) hc 0 rfl rfl dX2_mastersAhead_0 (pc2 := 1) rfl ?_
  refine g_iload_n (i := 1) hc 1 rfl rfl dX2_mastersAhead_1 (pc2 := 2) rfl ?_
  obtain ⟨r1, s1, hp, hf⟩ := bd_some hf
  refine g_vI hc (k2_hasMaster (by omega) hp) co_X2_63 (u3 (by omega)) rfl rfl (by decide) (by decide) (Nat.le_of_ble_eq_true rfl) dX2_mastersAhead_2 (pc2 := 5) rfl ?_
  refine g_if_ne hc 11 (by decide) dX2_mastersAhead_5 (pc2 := 8) rfl (fun q => ?_) (fun q => ?_)
  · have hf := ite_f hf q
    refine g_aload_n (i := 0) hc 0 rfl rfl dX2_mastersAhead_11 (pc2 := 12) rfl ?_
    refine g_getr (q := ad κ.1 6 o) hc fo_X2_20 (u3 (by omega)) rfl dX2_mastersAhead_12 (pc2 := 15) rfl ?_
    refine g_iload_n (i := 1) hc 1 rfl rfl dX2_mastersAhead_15 (pc2 := 16) rfl ?_
    obtain ⟨hg1, hf⟩ := gd_some hf
    have ihg1 := ib_lt hg1
    refine g_aldr (q := ad κ.1 7 (6 * o + a1.toNatClampNeg)) hc 6 o (by decide) (by decide) (u6 (by omega)) hg1 rfl dX2_mastersAhead_16 (pc2 := 17) rfl ?_
    obtain ⟨r2, s2, hp, hf⟩ := bd_some hf
    refine g_vI hc (k5_debts (by omega) hp) co_X2_70 (u7 (by omega)) rfl rfl (by decide) (by decide) (Nat.le_of_ble_eq_true rfl) dX2_mastersAhead_17 (pc2 := 20) rfl ?_
    refine g_istore_n (i := 2) (L1 := [(2, .int r2), (0, .ref (ad κ.1 3 o)), (1, .int a1)]) hc rfl (by decide) rfl dX2_mastersAhead_20 (pc2 := 21) rfl ?_
    refine g_iconst (v := (0 : Int32)) hc (by decide) dX2_mastersAhead_21 (pc2 := 22) rfl ?_
    refine g_istore_n (i := 3) (L1 := [(3, .int (0 : Int32)), (2, .int r2), (0, .ref (ad κ.1 3 o)), (1, .int a1)]) hc rfl (by decide) rfl dX2_mastersAhead_22 (pc2 := 23) rfl ?_
    refine g_iconst (v := (0 : Int32)) hc (by decide) dX2_mastersAhead_23 (pc2 := 24) rfl ?_
    refine g_istore (L1 := [(4, .int (0 : Int32)), (3, .int (0 : Int32)), (2, .int r2), (0, .ref (ad κ.1 3 o)), (1, .int a1)]) hc (by decide) rfl dX2_mastersAhead_24 (pc2 := 26) rfl ?_
    obtain ⟨k1, hk1, hf⟩ := nm_ex hf
    have Hk1 : ∀ (y1 : Int32) (s3 : Mem), k1 y1 s3 = some (rR, sR) → G κ φ (QI κ φ (NV κ τ) sR rR rm_2_mastersAhead.cells rm_2_mastersAhead.slots) (NV κ τ) 0 0 s3 [(3, .int y1)] 74 [] := by
      intro y1 s3 hf
      rw [hk1] at hf
      refine g_iload_n (i := 3) hc 0 rfl rfl dX2_mastersAhead_74 (pc2 := 75) rfl ?_
      exact g_iret hc hf hr rfl (by decide) (by decide) dX2_mastersAhead_75
    have LP_n1 : ∀ (n1 : Nat) (m1 : Int32) (m2 : Int32) (s4 : Mem), f2_mastersAhead_l26 o a1 r2 k1 n1 m1 m2 s4 = some (rR, sR) → G κ φ (QI κ φ (NV κ τ) sR rR rm_2_mastersAhead.cells rm_2_mastersAhead.slots) (NV κ τ) 0 0 s4 [(0, .ref (ad κ.1 3 o)), (1, .int a1), (2, .int r2), (3, .int m1), (4, .int m2)] 26 [] := by
      intro n1
      induction n1 with
      | zero => intro m1 m2 s4 hf; rw [f2_mastersAhead_l26] at hf; cases hf
      | succ n1 ih_n1 =>
        intro m1 m2 s4 hf
        rw [f2_mastersAhead_l26] at hf
        refine g_iload hc 4 rfl dX2_mastersAhead_26 (pc2 := 28) rfl ?_
        refine g_aload_n (i := 0) hc 0 rfl rfl dX2_mastersAhead_28 (pc2 := 29) rfl ?_
        refine g_geti hc fo_X2_38 (u3 (by omega)) dX2_mastersAhead_29 (pc2 := 32) rfl ?_
        refine g_icmp_ge hc 74 (by decide) dX2_mastersAhead_32 (pc2 := 35) rfl (fun q => ?_) (fun q => ?_)
        · have hf := ite_t hf q
          refine g_sub [3] rfl ?_
          exact Hk1 _ _ hf
        · have hf := ite_f hf q
          refine g_aload_n (i := 0) hc 0 rfl rfl dX2_mastersAhead_35 (pc2 := 36) rfl ?_
          refine g_getr (q := ad κ.1 6 o) hc fo_X2_20 (u3 (by omega)) rfl dX2_mastersAhead_36 (pc2 := 39) rfl ?_
          refine g_iload hc 4 rfl dX2_mastersAhead_39 (pc2 := 41) rfl ?_
          obtain ⟨hg2, hf⟩ := gd_some hf
          have ihg2 := ib_lt hg2
          refine g_aldr (q := ad κ.1 7 (6 * o + m2.toNatClampNeg)) hc 6 o (by decide) (by decide) (u6 (by omega)) hg2 rfl dX2_mastersAhead_41 (pc2 := 42) rfl ?_
          obtain ⟨r3, s5, hp, hf⟩ := bd_some hf
          refine g_vI hc (k5_debts (by omega) hp) co_X2_70 (u7 (by omega)) rfl rfl (by decide) (by decide) (Nat.le_of_ble_eq_true rfl) dX2_mastersAhead_42 (pc2 := 45) rfl ?_
          refine g_istore (L1 := [(5, .int r3), (0, .ref (ad κ.1 3 o)), (1, .int a1), (2, .int r2), (3, .int m1), (4, .int m2)]) hc (by decide) rfl dX2_mastersAhead_45 (pc2 := 47) rfl ?_
          refine g_iload hc 0 rfl dX2_mastersAhead_47 (pc2 := 49) rfl ?_
          refine g_iload_n (i := 2) hc 3 rfl rfl dX2_mastersAhead_49 (pc2 := 50) rfl ?_
          obtain ⟨j1, hj1, hf⟩ := nm_ex hf
          have Hj1 : ∀ (y2 : Int32) (s6 : Mem), j1 y2 s6 = some (rR, sR) → G κ φ (QI κ φ (NV κ τ) sR rR rm_2_mastersAhead.cells rm_2_mastersAhead.slots) (NV κ τ) 0 0 s6 [(0, .ref (ad κ.1 3 o)), (1, .int a1), (2, .int r2), (3, .int y2), (4, .int m2)] 68 [] := by
            intro y2 s6 hf
            rw [hj1] at hf
            obtain ⟨x1, hx1, hf⟩ := nm_ex hf
            refine g_iinc (v := x1) (L1 := [(4, .int x1), (0, .ref (ad κ.1 3 o)), (1, .int a1), (2, .int r2), (3, .int y2)]) hc 4 rfl (by rw [hx1]; rfl) (by decide) rfl dX2_mastersAhead_68 (pc2 := 71) rfl ?_
            refine g_goto hc 26 (by decide) dX2_mastersAhead_71 ?_
            refine g_sub [1, 2, 3, 4, 0] rfl ?_
            exact ih_n1 _ _ _ hf
          obtain ⟨j2, hj2, hf⟩ := nm_ex hf
          have Hj2 : ∀ (s7 : Mem), j2 s7 = some (rR, sR) → G κ φ (QI κ φ (NV κ τ) sR rR rm_2_mastersAhead.cells rm_2_mastersAhead.slots) (NV κ τ) 0 0 s7 [(0, .ref (ad κ.1 3 o)), (1, .int a1), (2, .int r2), (3, .int m1), (4, .int m2)] 65 [] := by
            intro s7 hf
            rw [hj2] at hf
            obtain ⟨x2, hx2, hf⟩ := nm_ex hf
            refine g_iinc (v := x2) (L1 := [(3, .int x2), (0, .ref (ad κ.1 3 o)), (1, .int a1), (2, .int r2), (4, .int m2)]) hc 3 rfl (by rw [hx2]; rfl) (by decide) rfl dX2_mastersAhead_65 (pc2 := 68) rfl ?_
            refine g_sub [1, 2, 3, 0, 4] rfl ?_
            exact Hj1 _ _ hf
          refine g_icmp_gt hc 65 (by decide) dX2_mastersAhead_50 (pc2 := 53) rfl (fun q => ?_) (fun q => ?_)
          · have hf := ite_t hf q
            refine g_sub [1, 2, 3, 4, 5] rfl ?_
            exact Hj2 _ hf
          · have hf := ite_f hf q
            refine g_iload hc 0 rfl dX2_mastersAhead_53 (pc2 := 55) rfl ?_
            refine g_iload_n (i := 2) hc 3 rfl rfl dX2_mastersAhead_55 (pc2 := 56) rfl ?_
            refine g_icmp_ne hc 68 (by decide) dX2_mastersAhead_56 (pc2 := 59) rfl (fun q => ?_) (fun q => ?_)
            · have hf := ite_f hf q
              refine g_sub [1, 2, 3, 4, 5] rfl ?_
              exact Hj1 _ _ hf
            · have hf := ite_t hf q
              refine g_iload hc 5 rfl dX2_mastersAhead_59 (pc2 := 61) rfl ?_
              refine g_iload_n (i := 1) hc 2 rfl rfl dX2_mastersAhead_61 (pc2 := 62) rfl ?_
              refine g_icmp_ge hc 68 (by decide) dX2_mastersAhead_62 (pc2 := 65) rfl (fun q => ?_) (fun q => ?_)
              · have hf := ite_t hf q
                refine g_sub [1, 2, 3, 4, 5] rfl ?_
                exact Hj1 _ _ hf
              · have hf := ite_f hf q
                refine g_sub [1, 2, 3, 4, 5] rfl ?_
                exact Hj2 _ hf
    refine g_sub [3, 4, 2, 1, 0] rfl ?_
    exact LP_n1 _ _ _ _ hf
  · have hf := ite_t hf q
    refine g_bipush (v := (-9 : Int32)) hc (by decide) dX2_mastersAhead_8 (pc2 := 10) rfl ?_
    exact g_iret hc hf hr rfl (by decide) (by decide) dX2_mastersAhead_10
def f2_ownerNow (o : Nat) (s0 : Mem) : Option (Int32 × Mem) :=
  nm (fun (y1 : Int32) (s1 : Mem) => (if (16 : Int32) ≤ y1 then some ((-9 : Int32), s1) else gd (ib y1 16) (some (s1 4 o y1.toNatClampNeg, s1)))) fun j1 => (if (s0 31 o 0) ≤ (0 : Int32) then j1 (0 : Int32) s0 else bd (fJ_floorMod (s0 32 o 0) (s0 31 o 0) s0) fun r1 s2 => j1 r1 s2)
def rm_2_ownerNow : Room := { frames := 1, cells := 0, slots := 0, locals := 22 }
set_option maxHeartbeats 4000000 in
set_option maxRecDepth 100000 in
theorem k2_ownerNow {κ : Kx} {τ : Nat → Int64} {o : Nat} {s0 sR : Mem} {rR : Int32} (h_o : o < 19) (hf : f2_ownerNow o s0 = some (rR, sR)) : CtI κ yX2_ownerNow cX2_ownerNow 2 (some .int) rm_2_ownerNow (NV κ τ) (NV κ τ) [.ref (ad κ.1 3 o)] s0 sR rR := by
  refine ct_I (by decide +kernel) (Nat.le_of_ble_eq_true rfl) (fun φ hc hr => ?_)
  have hc : Cx κ φ RX2 cX2_ownerNow 2 rm_2_ownerNow := hc
  show G κ φ (QI κ φ (NV κ τ) sR rR rm_2_ownerNow.cells rm_2_ownerNow.slots) (NV κ τ) 0 0 s0 [(0, .ref (ad κ.1 3 o))] 0 []
  unfold f2_ownerNow at hf
  refine g_aload_n (i := 0) hc 0 rfl rfl dX2_ownerNow_0 (pc2 := 1) rfl ?_
  refine g_geti hc fo_X2_42 (u3 (by omega)) dX2_ownerNow_1 (pc2 := 4) rfl ?_
  obtain ⟨j1, hj1, hf⟩ := nm_ex hf
  have Hj1 : ∀ (y1 : Int32) (s1 : Mem), j1 y1 s1 = some (rR, sR) → G κ φ (QI κ φ (NV κ τ) sR rR rm_2_ownerNow.cells rm_2_ownerNow.slots) (NV κ τ) 0 0 s1 [(0, .ref (ad κ.1 3 o))] 22 [.int y1] := by
    intro y1 s1 hf
    rw [hj1] at hf
    refine g_istore_n (i := 1) (L1 := [(1, .int y1), (0, .ref (ad κ.1 3 o))]) hc rfl (by decide) rfl dX2_ownerNow_22 (pc2 := 23) rfl ?_
    refine g_iload_n (i := 1) hc 0 rfl rfl dX2_ownerNow_23 (pc2 := 24) rfl ?_
    refine g_bipush (v := (16 : Int32)) hc (by decide) dX2_ownerNow_24 (pc2 := 26) rfl ?_
    refine g_icmp_ge hc 38 (by decide) dX2_ownerNow_26 (pc2 := 29) rfl (fun q => ?_) (fun q => ?_)
    · have hf := ite_t hf q
      refine g_bipush (v := (-9 : Int32)) hc (by decide) dX2_ownerNow_38 (pc2 := 40) rfl ?_
      exact g_iret hc hf hr rfl (by decide) (by decide) dX2_ownerNow_40
    · have hf := ite_f hf q
      refine g_aload_n (i := 0) hc 1 rfl rfl dX2_ownerNow_29 (pc2 := 30) rfl ?_
      refine g_getr (q := ad κ.1 4 o) hc fo_X2_9 (u3 (by omega)) rfl dX2_ownerNow_30 (pc2 := 33) rfl ?_
      refine g_iload_n (i := 1) hc 0 rfl rfl dX2_ownerNow_33 (pc2 := 34) rfl ?_
      obtain ⟨hg1, hf⟩ := gd_some hf
      refine g_aldi hc 4 o rfl (u4 (by omega)) hg1 dX2_ownerNow_34 (pc2 := 35) rfl ?_
      refine g_goto hc 40 (by decide) dX2_ownerNow_35 ?_
      exact g_iret hc hf hr rfl (by decide) (by decide) dX2_ownerNow_40
  refine g_if_le hc 21 (by decide) dX2_ownerNow_4 (pc2 := 7) rfl (fun q => ?_) (fun q => ?_)
  · have hf := ite_t hf q
    refine g_iconst (v := (0 : Int32)) hc (by decide) dX2_ownerNow_21 (pc2 := 22) rfl ?_
    exact Hj1 _ _ hf
  · have hf := ite_f hf q
    refine g_aload_n (i := 0) hc 0 rfl rfl dX2_ownerNow_7 (pc2 := 8) rfl ?_
    refine g_geti hc fo_X2_45 (u3 (by omega)) dX2_ownerNow_8 (pc2 := 11) rfl ?_
    refine g_aload_n (i := 0) hc 0 rfl rfl dX2_ownerNow_11 (pc2 := 12) rfl ?_
    refine g_geti hc fo_X2_42 (u3 (by omega)) dX2_ownerNow_12 (pc2 := 15) rfl ?_
    obtain ⟨r1, s2, hp, hf⟩ := bd_some hf
    refine g_sI hc (kJ_floorMod hp) co_X2_129 rfl rfl (by decide) (by decide) (Nat.le_of_ble_eq_true rfl) dX2_ownerNow_15 (pc2 := 18) rfl ?_
    refine g_goto hc 22 (by decide) dX2_ownerNow_18 ?_
    exact Hj1 _ _ hf
def f2_creditorOf_l9 (o : Nat) (a1 : Nat) (a2 : Int32) (k1 : Int32 → Mem → Option (Int32 × Mem)) : Nat → Int32 → Int32 → Int32 → Mem → Option (Int32 × Mem)
  | 0, _, _, _, _ => none
  | n1 + 1, m1, m2, m3, s2 => (if (s2 30 o 0) ≤ m3 then k1 m1 s2 else gd (ib m3 6) (nm (fun (y2 : Int32) (y3 : Int32) (s3 : Mem) => nm (m3 + (1 : Int32)) fun x1 => f2_creditorOf_l9 o a1 a2 k1 n1 y2 y3 x1 s3) fun j1 => (if (s2 8 a1 m3.toNatClampNeg) ≤ m2 then j1 m1 m2 s2 else nm (fun (s4 : Mem) => gd (ib m3 6) (nm (s4 8 a1 m3.toNatClampNeg) fun x2 => j1 m3 x2 s4)) fun j2 => (if a2 = (0 : Int32) then j2 s2 else gd (ib m3 6) ((if (s2 41 (6 * o + m3.toNatClampNeg) 0) = (0 : Int32) then j1 m1 m2 s2 else j2 s2))))))
def f2_creditorOf (o : Nat) (a1 : Nat) (a2 : Int32) (s0 : Mem) : Option (Int32 × Mem) :=
  nm (fun (y1 : Int32) (s1 : Mem) => some (y1, s1)) fun k1 => f2_creditorOf_l9 o a1 a2 k1 FU (-9 : Int32) (0 : Int32) (0 : Int32) s0
def rm_2_creditorOf : Room := { frames := 0, cells := 0, slots := 0, locals := 0 }
set_option maxHeartbeats 4000000 in
set_option maxRecDepth 100000 in
theorem k2_creditorOf {κ : Kx} {τ : Nat → Int64} {o : Nat} {a1 : Nat} {a2 : Int32} {s0 sR : Mem} {rR : Int32} (h_o : o < 19) (h_a1 : a1 < 114) (hf : f2_creditorOf o a1 a2 s0 = some (rR, sR)) : CtI κ yX2_creditorOf cX2_creditorOf 6 (some .int) rm_2_creditorOf (NV κ τ) (NV κ τ) [.ref (ad κ.1 3 o), .ref (ad κ.1 7 a1), .int a2] s0 sR rR := by
  refine ct_I (by decide +kernel) (Nat.le_of_ble_eq_true rfl) (fun φ hc hr => ?_)
  have hc : Cx κ φ RX2 cX2_creditorOf 6 rm_2_creditorOf := hc
  show G κ φ (QI κ φ (NV κ τ) sR rR rm_2_creditorOf.cells rm_2_creditorOf.slots) (NV κ τ) 0 0 s0 [(0, .ref (ad κ.1 3 o)), (1, .ref (ad κ.1 7 a1)), (2, .int a2)] 0 []
  unfold f2_creditorOf at hf
  refine g_bipush (v := (-9 : Int32)) hc (by decide) dX2_creditorOf_0 (pc2 := 2) rfl ?_
  refine g_istore_n (i := 3) (L1 := [(3, .int (-9 : Int32)), (0, .ref (ad κ.1 3 o)), (1, .ref (ad κ.1 7 a1)), (2, .int a2)]) hc rfl (by decide) rfl dX2_creditorOf_2 (pc2 := 3) rfl ?_
  refine g_iconst (v := (0 : Int32)) hc (by decide) dX2_creditorOf_3 (pc2 := 4) rfl ?_
  refine g_istore (L1 := [(4, .int (0 : Int32)), (3, .int (-9 : Int32)), (0, .ref (ad κ.1 3 o)), (1, .ref (ad κ.1 7 a1)), (2, .int a2)]) hc (by decide) rfl dX2_creditorOf_4 (pc2 := 6) rfl ?_
  refine g_iconst (v := (0 : Int32)) hc (by decide) dX2_creditorOf_6 (pc2 := 7) rfl ?_
  refine g_istore (L1 := [(5, .int (0 : Int32)), (4, .int (0 : Int32)), (3, .int (-9 : Int32)), (0, .ref (ad κ.1 3 o)), (1, .ref (ad κ.1 7 a1)), (2, .int a2)]) hc (by decide) rfl dX2_creditorOf_7 (pc2 := 9) rfl ?_
  obtain ⟨k1, hk1, hf⟩ := nm_ex hf
  have Hk1 : ∀ (y1 : Int32) (s1 : Mem), k1 y1 s1 = some (rR, sR) → G κ φ (QI κ φ (NV κ τ) sR rR rm_2_creditorOf.cells rm_2_creditorOf.slots) (NV κ τ) 0 0 s1 [(3, .int y1)] 65 [] := by
    intro y1 s1 hf
    rw [hk1] at hf
    refine g_iload_n (i := 3) hc 0 rfl rfl dX2_creditorOf_65 (pc2 := 66) rfl ?_
    exact g_iret hc hf hr rfl (by decide) (by decide) dX2_creditorOf_66
  have LP_n1 : ∀ (n1 : Nat) (m1 : Int32) (m2 : Int32) (m3 : Int32) (s2 : Mem), f2_creditorOf_l9 o a1 a2 k1 n1 m1 m2 m3 s2 = some (rR, sR) → G κ φ (QI κ φ (NV κ τ) sR rR rm_2_creditorOf.cells rm_2_creditorOf.slots) (NV κ τ) 0 0 s2 [(0, .ref (ad κ.1 3 o)), (1, .ref (ad κ.1 7 a1)), (2, .int a2), (3, .int m1), (4, .int m2), (5, .int m3)] 9 [] := by
    intro n1
    induction n1 with
    | zero => intro m1 m2 m3 s2 hf; rw [f2_creditorOf_l9] at hf; cases hf
    | succ n1 ih_n1 =>
      intro m1 m2 m3 s2 hf
      rw [f2_creditorOf_l9] at hf
      refine g_iload hc 5 rfl dX2_creditorOf_9 (pc2 := 11) rfl ?_
      refine g_aload_n (i := 0) hc 0 rfl rfl dX2_creditorOf_11 (pc2 := 12) rfl ?_
      refine g_geti hc fo_X2_38 (u3 (by omega)) dX2_creditorOf_12 (pc2 := 15) rfl ?_
      refine g_icmp_ge hc 65 (by decide) dX2_creditorOf_15 (pc2 := 18) rfl (fun q => ?_) (fun q => ?_)
      · have hf := ite_t hf q
        refine g_sub [3] rfl ?_
        exact Hk1 _ _ hf
      · have hf := ite_f hf q
        refine g_aload_n (i := 1) hc 1 rfl rfl dX2_creditorOf_18 (pc2 := 19) rfl ?_
        refine g_getr (q := ad κ.1 8 a1) hc fo_X2_67 (u7 (by omega)) rfl dX2_creditorOf_19 (pc2 := 22) rfl ?_
        refine g_iload hc 5 rfl dX2_creditorOf_22 (pc2 := 24) rfl ?_
        obtain ⟨hg1, hf⟩ := gd_some hf
        refine g_aldi hc 8 a1 rfl (u8 (by omega)) hg1 dX2_creditorOf_24 (pc2 := 25) rfl ?_
        refine g_iload hc 4 rfl dX2_creditorOf_25 (pc2 := 27) rfl ?_
        obtain ⟨j1, hj1, hf⟩ := nm_ex hf
        have Hj1 : ∀ (y2 : Int32) (y3 : Int32) (s3 : Mem), j1 y2 y3 s3 = some (rR, sR) → G κ φ (QI κ φ (NV κ τ) sR rR rm_2_creditorOf.cells rm_2_creditorOf.slots) (NV κ τ) 0 0 s3 [(0, .ref (ad κ.1 3 o)), (1, .ref (ad κ.1 7 a1)), (2, .int a2), (3, .int y2), (4, .int y3), (5, .int m3)] 59 [] := by
          intro y2 y3 s3 hf
          rw [hj1] at hf
          obtain ⟨x1, hx1, hf⟩ := nm_ex hf
          refine g_iinc (v := x1) (L1 := [(5, .int x1), (0, .ref (ad κ.1 3 o)), (1, .ref (ad κ.1 7 a1)), (2, .int a2), (3, .int y2), (4, .int y3)]) hc 5 rfl (by rw [hx1]; rfl) (by decide) rfl dX2_creditorOf_59 (pc2 := 62) rfl ?_
          refine g_goto hc 9 (by decide) dX2_creditorOf_62 ?_
          refine g_sub [1, 2, 3, 4, 5, 0] rfl ?_
          exact ih_n1 _ _ _ _ hf
        refine g_icmp_le hc 59 (by decide) dX2_creditorOf_27 (pc2 := 30) rfl (fun q => ?_) (fun q => ?_)
        · have hf := ite_t hf q
          exact Hj1 _ _ _ hf
        · have hf := ite_f hf q
          refine g_iload_n (i := 2) hc 2 rfl rfl dX2_creditorOf_30 (pc2 := 31) rfl ?_
          obtain ⟨j2, hj2, hf⟩ := nm_ex hf
          have Hj2 : ∀ (s4 : Mem), j2 s4 = some (rR, sR) → G κ φ (QI κ φ (NV κ τ) sR rR rm_2_creditorOf.cells rm_2_creditorOf.slots) (NV κ τ) 0 0 s4 [(0, .ref (ad κ.1 3 o)), (1, .ref (ad κ.1 7 a1)), (2, .int a2), (5, .int m3)] 47 [] := by
            intro s4 hf
            rw [hj2] at hf
            refine g_aload_n (i := 1) hc 1 rfl rfl dX2_creditorOf_47 (pc2 := 48) rfl ?_
            refine g_getr (q := ad κ.1 8 a1) hc fo_X2_67 (u7 (by omega)) rfl dX2_creditorOf_48 (pc2 := 51) rfl ?_
            refine g_iload hc 3 rfl dX2_creditorOf_51 (pc2 := 53) rfl ?_
            obtain ⟨hg2, hf⟩ := gd_some hf
            refine g_aldi hc 8 a1 rfl (u8 (by omega)) hg2 dX2_creditorOf_53 (pc2 := 54) rfl ?_
            obtain ⟨x2, hx2, hf⟩ := nm_ex hf
            refine g_nmi hx2 ?_
            refine g_istore (L1 := [(4, .int x2), (0, .ref (ad κ.1 3 o)), (1, .ref (ad κ.1 7 a1)), (2, .int a2), (5, .int m3)]) hc (by decide) rfl dX2_creditorOf_54 (pc2 := 56) rfl ?_
            refine g_iload hc 4 rfl dX2_creditorOf_56 (pc2 := 58) rfl ?_
            refine g_istore_n (i := 3) (L1 := [(3, .int m3), (4, .int x2), (0, .ref (ad κ.1 3 o)), (1, .ref (ad κ.1 7 a1)), (2, .int a2), (5, .int m3)]) hc rfl (by decide) rfl dX2_creditorOf_58 (pc2 := 59) rfl ?_
            refine g_sub [2, 3, 4, 0, 1, 5] rfl ?_
            exact Hj1 _ _ _ hf
          refine g_if_eq hc 47 (by decide) dX2_creditorOf_31 (pc2 := 34) rfl (fun q => ?_) (fun q => ?_)
          · have hf := ite_t hf q
            refine g_sub [0, 1, 2, 5] rfl ?_
            exact Hj2 _ hf
          · have hf := ite_f hf q
            refine g_aload_n (i := 0) hc 0 rfl rfl dX2_creditorOf_34 (pc2 := 35) rfl ?_
            refine g_getr (q := ad κ.1 6 o) hc fo_X2_20 (u3 (by omega)) rfl dX2_creditorOf_35 (pc2 := 38) rfl ?_
            refine g_iload hc 5 rfl dX2_creditorOf_38 (pc2 := 40) rfl ?_
            obtain ⟨hg3, hf⟩ := gd_some hf
            have ihg3 := ib_lt hg3
            refine g_aldr (q := ad κ.1 7 (6 * o + m3.toNatClampNeg)) hc 6 o (by decide) (by decide) (u6 (by omega)) hg3 rfl dX2_creditorOf_40 (pc2 := 41) rfl ?_
            refine g_geti hc fo_X2_139 (u7 (by omega)) dX2_creditorOf_41 (pc2 := 44) rfl ?_
            refine g_if_eq hc 59 (by decide) dX2_creditorOf_44 (pc2 := 47) rfl (fun q => ?_) (fun q => ?_)
            · have hf := ite_t hf q
              exact Hj1 _ _ _ hf
            · have hf := ite_f hf q
              refine g_sub [0, 1, 2, 5] rfl ?_
              exact Hj2 _ hf
  refine g_sub [3, 4, 5, 2, 1, 0] rfl ?_
  exact LP_n1 _ _ _ _ _ hf
def f2_firstBorrower_l7 (o : Nat) (k1 : Int32 → Mem → Option (Int32 × Mem)) : Nat → Int32 → Int32 → Int32 → Mem → Option (Int32 × Mem)
  | 0, _, _, _, _ => none
  | n1 + 1, m1, m2, m3, s2 => (if (s2 30 o 0) ≤ m3 then k1 m1 s2 else gd (ib m3 6) (nm (fun (y2 : Int32) (y3 : Int32) (s3 : Mem) => nm (m3 + (1 : Int32)) fun x1 => f2_firstBorrower_l7 o k1 n1 y2 y3 x1 s3) fun j1 => (if (s2 41 (6 * o + m3.toNatClampNeg) 0) = (0 : Int32) then j1 m1 m2 s2 else (if (s2 40 (6 * o + m3.toNatClampNeg) 0) = (0 : Int32) then (if (s2 42 (6 * o + m3.toNatClampNeg) 0) ≤ m2 then j1 m1 m2 s2 else bd (f5_debts (6 * o + m3.toNatClampNeg) s2) fun r1 s4 => (if (s4 34 o 0) ≤ r1 then j1 m1 m2 s4 else nm (s4 42 (6 * o + m3.toNatClampNeg) 0) fun x2 => j1 m3 x2 s4)) else j1 m1 m2 s2))))
def f2_firstBorrower (o : Nat) (s0 : Mem) : Option (Int32 × Mem) :=
  nm (fun (y1 : Int32) (s1 : Mem) => some (y1, s1)) fun k1 => f2_firstBorrower_l7 o k1 FU (-9 : Int32) (-1 : Int32) (0 : Int32) s0
def rm_2_firstBorrower : Room := { frames := 1, cells := 0, slots := 0, locals := 22 }
set_option maxHeartbeats 4000000 in
set_option maxRecDepth 100000 in
theorem k2_firstBorrower {κ : Kx} {τ : Nat → Int64} {o : Nat} {s0 sR : Mem} {rR : Int32} (h_o : o < 19) (hf : f2_firstBorrower o s0 = some (rR, sR)) : CtI κ yX2_firstBorrower cX2_firstBorrower 5 (some .int) rm_2_firstBorrower (NV κ τ) (NV κ τ) [.ref (ad κ.1 3 o)] s0 sR rR := by
  refine ct_I (by decide +kernel) (Nat.le_of_ble_eq_true rfl) (fun φ hc hr => ?_)
  have hc : Cx κ φ RX2 cX2_firstBorrower 5 rm_2_firstBorrower := hc
  show G κ φ (QI κ φ (NV κ τ) sR rR rm_2_firstBorrower.cells rm_2_firstBorrower.slots) (NV κ τ) 0 0 s0 [(0, .ref (ad κ.1 3 o))] 0 []
  unfold f2_firstBorrower at hf
  refine g_bipush (v := (-9 : Int32)) hc (by decide) dX2_firstBorrower_0 (pc2 := 2) rfl ?_
  refine g_istore_n (i := 1) (L1 := [(1, .int (-9 : Int32)), (0, .ref (ad κ.1 3 o))]) hc rfl (by decide) rfl dX2_firstBorrower_2 (pc2 := 3) rfl ?_
  refine g_iconst (v := (-1 : Int32)) hc (by decide) dX2_firstBorrower_3 (pc2 := 4) rfl ?_
  refine g_istore_n (i := 2) (L1 := [(2, .int (-1 : Int32)), (1, .int (-9 : Int32)), (0, .ref (ad κ.1 3 o))]) hc rfl (by decide) rfl dX2_firstBorrower_4 (pc2 := 5) rfl ?_
  refine g_iconst (v := (0 : Int32)) hc (by decide) dX2_firstBorrower_5 (pc2 := 6) rfl ?_
  refine g_istore_n (i := 3) (L1 := [(3, .int (0 : Int32)), (2, .int (-1 : Int32)), (1, .int (-9 : Int32)), (0, .ref (ad κ.1 3 o))]) hc rfl (by decide) rfl dX2_firstBorrower_6 (pc2 := 7) rfl ?_
  obtain ⟨k1, hk1, hf⟩ := nm_ex hf
  have Hk1 : ∀ (y1 : Int32) (s1 : Mem), k1 y1 s1 = some (rR, sR) → G κ φ (QI κ φ (NV κ τ) sR rR rm_2_firstBorrower.cells rm_2_firstBorrower.slots) (NV κ τ) 0 0 s1 [(1, .int y1)] 74 [] := by
    intro y1 s1 hf
    rw [hk1] at hf
    refine g_iload_n (i := 1) hc 0 rfl rfl dX2_firstBorrower_74 (pc2 := 75) rfl ?_
    exact g_iret hc hf hr rfl (by decide) (by decide) dX2_firstBorrower_75
  have LP_n1 : ∀ (n1 : Nat) (m1 : Int32) (m2 : Int32) (m3 : Int32) (s2 : Mem), f2_firstBorrower_l7 o k1 n1 m1 m2 m3 s2 = some (rR, sR) → G κ φ (QI κ φ (NV κ τ) sR rR rm_2_firstBorrower.cells rm_2_firstBorrower.slots) (NV κ τ) 0 0 s2 [(0, .ref (ad κ.1 3 o)), (1, .int m1), (2, .int m2), (3, .int m3)] 7 [] := by
    intro n1
    induction n1 with
    | zero => intro m1 m2 m3 s2 hf; rw [f2_firstBorrower_l7] at hf; cases hf
    | succ n1 ih_n1 =>
      intro m1 m2 m3 s2 hf
      rw [f2_firstBorrower_l7] at hf
      refine g_iload_n (i := 3) hc 3 rfl rfl dX2_firstBorrower_7 (pc2 := 8) rfl ?_
      refine g_aload_n (i := 0) hc 0 rfl rfl dX2_firstBorrower_8 (pc2 := 9) rfl ?_
      refine g_geti hc fo_X2_38 (u3 (by omega)) dX2_firstBorrower_9 (pc2 := 12) rfl ?_
      refine g_icmp_ge hc 74 (by decide) dX2_firstBorrower_12 (pc2 := 15) rfl (fun q => ?_) (fun q => ?_)
      · have hf := ite_t hf q
        refine g_sub [1] rfl ?_
        exact Hk1 _ _ hf
      · have hf := ite_f hf q
        refine g_aload_n (i := 0) hc 0 rfl rfl dX2_firstBorrower_15 (pc2 := 16) rfl ?_
        refine g_getr (q := ad κ.1 6 o) hc fo_X2_20 (u3 (by omega)) rfl dX2_firstBorrower_16 (pc2 := 19) rfl ?_
        refine g_iload_n (i := 3) hc 3 rfl rfl dX2_firstBorrower_19 (pc2 := 20) rfl ?_
        obtain ⟨hg1, hf⟩ := gd_some hf
        have ihg1 := ib_lt hg1
        refine g_aldr (q := ad κ.1 7 (6 * o + m3.toNatClampNeg)) hc 6 o (by decide) (by decide) (u6 (by omega)) hg1 rfl dX2_firstBorrower_20 (pc2 := 21) rfl ?_
        refine g_astore (L1 := [(4, .ref (ad κ.1 7 (6 * o + m3.toNatClampNeg))), (0, .ref (ad κ.1 3 o)), (1, .int m1), (2, .int m2), (3, .int m3)]) hc (by decide) rfl dX2_firstBorrower_21 (pc2 := 23) rfl ?_
        refine g_aload hc 0 rfl dX2_firstBorrower_23 (pc2 := 25) rfl ?_
        refine g_geti hc fo_X2_139 (u7 (by omega)) dX2_firstBorrower_25 (pc2 := 28) rfl ?_
        obtain ⟨j1, hj1, hf⟩ := nm_ex hf
        have Hj1 : ∀ (y2 : Int32) (y3 : Int32) (s3 : Mem), j1 y2 y3 s3 = some (rR, sR) → G κ φ (QI κ φ (NV κ τ) sR rR rm_2_firstBorrower.cells rm_2_firstBorrower.slots) (NV κ τ) 0 0 s3 [(0, .ref (ad κ.1 3 o)), (1, .int y2), (2, .int y3), (3, .int m3)] 68 [] := by
          intro y2 y3 s3 hf
          rw [hj1] at hf
          obtain ⟨x1, hx1, hf⟩ := nm_ex hf
          refine g_iinc (v := x1) (L1 := [(3, .int x1), (0, .ref (ad κ.1 3 o)), (1, .int y2), (2, .int y3)]) hc 3 rfl (by rw [hx1]; rfl) (by decide) rfl dX2_firstBorrower_68 (pc2 := 71) rfl ?_
          refine g_goto hc 7 (by decide) dX2_firstBorrower_71 ?_
          refine g_sub [1, 2, 3, 0] rfl ?_
          exact ih_n1 _ _ _ _ hf
        refine g_if_eq hc 68 (by decide) dX2_firstBorrower_28 (pc2 := 31) rfl (fun q => ?_) (fun q => ?_)
        · have hf := ite_t hf q
          refine g_sub [1, 2, 3, 4] rfl ?_
          exact Hj1 _ _ _ hf
        · have hf := ite_f hf q
          refine g_aload hc 0 rfl dX2_firstBorrower_31 (pc2 := 33) rfl ?_
          refine g_geti hc fo_X2_90 (u7 (by omega)) dX2_firstBorrower_33 (pc2 := 36) rfl ?_
          refine g_if_ne hc 68 (by decide) dX2_firstBorrower_36 (pc2 := 39) rfl (fun q => ?_) (fun q => ?_)
          · have hf := ite_f hf q
            refine g_sub [1, 2, 3, 4] rfl ?_
            exact Hj1 _ _ _ hf
          · have hf := ite_t hf q
            refine g_aload hc 0 rfl dX2_firstBorrower_39 (pc2 := 41) rfl ?_
            refine g_geti hc fo_X2_151 (u7 (by omega)) dX2_firstBorrower_41 (pc2 := 44) rfl ?_
            refine g_iload_n (i := 2) hc 3 rfl rfl dX2_firstBorrower_44 (pc2 := 45) rfl ?_
            refine g_icmp_le hc 68 (by decide) dX2_firstBorrower_45 (pc2 := 48) rfl (fun q => ?_) (fun q => ?_)
            · have hf := ite_t hf q
              refine g_sub [1, 2, 3, 4] rfl ?_
              exact Hj1 _ _ _ hf
            · have hf := ite_f hf q
              refine g_aload hc 0 rfl dX2_firstBorrower_48 (pc2 := 50) rfl ?_
              obtain ⟨r1, s4, hp, hf⟩ := bd_some hf
              refine g_vI hc (k5_debts (by omega) hp) co_X2_70 (u7 (by omega)) rfl rfl (by decide) (by decide) (Nat.le_of_ble_eq_true rfl) dX2_firstBorrower_50 (pc2 := 53) rfl ?_
              refine g_aload_n (i := 0) hc 1 rfl rfl dX2_firstBorrower_53 (pc2 := 54) rfl ?_
              refine g_geti hc fo_X2_51 (u3 (by omega)) dX2_firstBorrower_54 (pc2 := 57) rfl ?_
              refine g_icmp_ge hc 68 (by decide) dX2_firstBorrower_57 (pc2 := 60) rfl (fun q => ?_) (fun q => ?_)
              · have hf := ite_t hf q
                refine g_sub [1, 2, 3, 4] rfl ?_
                exact Hj1 _ _ _ hf
              · have hf := ite_f hf q
                refine g_aload hc 0 rfl dX2_firstBorrower_60 (pc2 := 62) rfl ?_
                refine g_geti hc fo_X2_151 (u7 (by omega)) dX2_firstBorrower_62 (pc2 := 65) rfl ?_
                obtain ⟨x2, hx2, hf⟩ := nm_ex hf
                refine g_nmi hx2 ?_
                refine g_istore_n (i := 2) (L1 := [(2, .int x2), (4, .ref (ad κ.1 7 (6 * o + m3.toNatClampNeg))), (0, .ref (ad κ.1 3 o)), (1, .int m1), (3, .int m3)]) hc rfl (by decide) rfl dX2_firstBorrower_65 (pc2 := 66) rfl ?_
                refine g_iload_n (i := 3) hc 4 rfl rfl dX2_firstBorrower_66 (pc2 := 67) rfl ?_
                refine g_istore_n (i := 1) (L1 := [(1, .int m3), (2, .int x2), (4, .ref (ad κ.1 7 (6 * o + m3.toNatClampNeg))), (0, .ref (ad κ.1 3 o)), (3, .int m3)]) hc rfl (by decide) rfl dX2_firstBorrower_67 (pc2 := 68) rfl ?_
                refine g_sub [3, 0, 1, 4] rfl ?_
                exact Hj1 _ _ _ hf
  refine g_sub [3, 2, 1, 0] rfl ?_
  exact LP_n1 _ _ _ _ _ hf
def f2_takeTurn (o : Nat) (a1 : Int32) (s0 : Mem) : Option (Int32 × Mem) :=
  bd (f2_hasMaster o a1 s0) fun r1 s1 => (if r1 = (0 : Int32) then some ((-9 : Int32), s1) else gd (ib a1 6) (bd (f2_creditorOf o (6 * o + a1.toNatClampNeg) (1 : Int32) s1) fun r2 s2 => bd (f2_hasMaster o r2 s2) fun r3 s3 => (if r3 = (0 : Int32) then (if (s3 41 (6 * o + a1.toNatClampNeg) 0) = (0 : Int32) then bd (f2_firstBorrower o s3) fun r4 s4 => bd (f2_hasMaster o r4 s4) fun r5 s5 => (if r5 = (0 : Int32) then some (r4, s5) else gd (ib r4 6) (gd (ib a1 6) (gd (ib a1 6) (nm (ms s5 8 (6 * o + r4.toNatClampNeg) a1.toNatClampNeg ((s5 8 (6 * o + r4.toNatClampNeg) a1.toNatClampNeg) + (1 : Int32))) fun s6 => gd (ib r4 6) (nm (ms s6 46 (6 * o + r4.toNatClampNeg) 0 ((s6 46 (6 * o + r4.toNatClampNeg) 0) + (1 : Int32))) fun s7 => some (r4, s7)))))) else nm (ms s3 44 (6 * o + a1.toNatClampNeg) 0 ((s3 44 (6 * o + a1.toNatClampNeg) 0) + (1 : Int32))) fun s8 => some (a1, s8)) else gd (ib r2 6) (gd (ib r2 6) (nm (ms s3 8 (6 * o + a1.toNatClampNeg) r2.toNatClampNeg ((s3 8 (6 * o + a1.toNatClampNeg) r2.toNatClampNeg) - (1 : Int32))) fun s9 => gd (ib r2 6) (nm (ms s9 45 (6 * o + r2.toNatClampNeg) 0 ((s9 45 (6 * o + r2.toNatClampNeg) 0) + (1 : Int32))) fun s10 => some (r2, s10)))))))
def rm_2_takeTurn : Room := { frames := 2, cells := 0, slots := 0, locals := 46 }
set_option maxHeartbeats 4000000 in
set_option maxRecDepth 100000 in
theorem k2_takeTurn {κ : Kx} {τ : Nat → Int64} {o : Nat} {a1 : Int32} {s0 sR : Mem} {rR : Int32} (h_o : o < 19) (hf : f2_takeTurn o a1 s0 = some (rR, sR)) : CtI κ yX2_takeTurn cX2_takeTurn 5 (some .int) rm_2_takeTurn (NV κ τ) (NV κ τ) [.ref (ad κ.1 3 o), .int a1] s0 sR rR := by
  refine ct_I (by decide +kernel) (Nat.le_of_ble_eq_true rfl) (fun φ hc hr => ?_)
  have hc : Cx κ φ RX2 cX2_takeTurn 5 rm_2_takeTurn := hc
  show G κ φ (QI κ φ (NV κ τ) sR rR rm_2_takeTurn.cells rm_2_takeTurn.slots) (NV κ τ) 0 0 s0 [(0, .ref (ad κ.1 3 o)), (1, .int a1)] 0 []
  unfold f2_takeTurn at hf
  refine g_aload_n (i := 0) hc 0 rfl rfl dX2_takeTurn_0 (pc2 := 1) rfl ?_
  refine g_iload_n (i := 1) hc 1 rfl rfl dX2_takeTurn_1 (pc2 := 2) rfl ?_
  obtain ⟨r1, s1, hp, hf⟩ := bd_some hf
  refine g_vI hc (k2_hasMaster (by omega) hp) co_X2_63 (u3 (by omega)) rfl rfl (by decide) (by decide) (Nat.le_of_ble_eq_true rfl) dX2_takeTurn_2 (pc2 := 5) rfl ?_
  refine g_if_ne hc 11 (by decide) dX2_takeTurn_5 (pc2 := 8) rfl (fun q => ?_) (fun q => ?_)
  · have hf := ite_f hf q
    refine g_aload_n (i := 0) hc 0 rfl rfl dX2_takeTurn_11 (pc2 := 12) rfl ?_
    refine g_getr (q := ad κ.1 6 o) hc fo_X2_20 (u3 (by omega)) rfl dX2_takeTurn_12 (pc2 := 15) rfl ?_
    refine g_iload_n (i := 1) hc 1 rfl rfl dX2_takeTurn_15 (pc2 := 16) rfl ?_
    obtain ⟨hg1, hf⟩ := gd_some hf
    have ihg1 := ib_lt hg1
    refine g_aldr (q := ad κ.1 7 (6 * o + a1.toNatClampNeg)) hc 6 o (by decide) (by decide) (u6 (by omega)) hg1 rfl dX2_takeTurn_16 (pc2 := 17) rfl ?_
    refine g_astore_n (i := 2) (L1 := [(2, .ref (ad κ.1 7 (6 * o + a1.toNatClampNeg))), (0, .ref (ad κ.1 3 o)), (1, .int a1)]) hc rfl (by decide) rfl dX2_takeTurn_17 (pc2 := 18) rfl ?_
    refine g_aload_n (i := 0) hc 1 rfl rfl dX2_takeTurn_18 (pc2 := 19) rfl ?_
    refine g_aload_n (i := 2) hc 0 rfl rfl dX2_takeTurn_19 (pc2 := 20) rfl ?_
    refine g_iconst (v := (1 : Int32)) hc (by decide) dX2_takeTurn_20 (pc2 := 21) rfl ?_
    obtain ⟨r2, s2, hp, hf⟩ := bd_some hf
    refine g_vI hc (k2_creditorOf (by omega) (by omega) hp) co_X2_132 (u3 (by omega)) rfl rfl (by decide) (by decide) (Nat.le_of_ble_eq_true rfl) dX2_takeTurn_21 (pc2 := 24) rfl ?_
    refine g_istore_n (i := 3) (L1 := [(3, .int r2), (2, .ref (ad κ.1 7 (6 * o + a1.toNatClampNeg))), (0, .ref (ad κ.1 3 o)), (1, .int a1)]) hc rfl (by decide) rfl dX2_takeTurn_24 (pc2 := 25) rfl ?_
    refine g_aload_n (i := 0) hc 2 rfl rfl dX2_takeTurn_25 (pc2 := 26) rfl ?_
    refine g_iload_n (i := 3) hc 0 rfl rfl dX2_takeTurn_26 (pc2 := 27) rfl ?_
    obtain ⟨r3, s3, hp, hf⟩ := bd_some hf
    refine g_vI hc (k2_hasMaster (by omega) hp) co_X2_63 (u3 (by omega)) rfl rfl (by decide) (by decide) (Nat.le_of_ble_eq_true rfl) dX2_takeTurn_27 (pc2 := 30) rfl ?_
    refine g_if_eq hc 60 (by decide) dX2_takeTurn_30 (pc2 := 33) rfl (fun q => ?_) (fun q => ?_)
    · have hf := ite_t hf q
      refine g_aload_n (i := 2) hc 1 rfl rfl dX2_takeTurn_60 (pc2 := 61) rfl ?_
      refine g_geti hc fo_X2_139 (u7 (by omega)) dX2_takeTurn_61 (pc2 := 64) rfl ?_
      refine g_if_eq hc 79 (by decide) dX2_takeTurn_64 (pc2 := 67) rfl (fun q => ?_) (fun q => ?_)
      · have hf := ite_t hf q
        refine g_aload_n (i := 0) hc 2 rfl rfl dX2_takeTurn_79 (pc2 := 80) rfl ?_
        obtain ⟨r4, s4, hp, hf⟩ := bd_some hf
        refine g_vI hc (k2_firstBorrower (by omega) hp) co_X2_145 (u3 (by omega)) rfl rfl (by decide) (by decide) (Nat.le_of_ble_eq_true rfl) dX2_takeTurn_80 (pc2 := 83) rfl ?_
        refine g_istore (L1 := [(4, .int r4), (3, .int r2), (2, .ref (ad κ.1 7 (6 * o + a1.toNatClampNeg))), (0, .ref (ad κ.1 3 o)), (1, .int a1)]) hc (by decide) rfl dX2_takeTurn_83 (pc2 := 85) rfl ?_
        refine g_aload_n (i := 0) hc 3 rfl rfl dX2_takeTurn_85 (pc2 := 86) rfl ?_
        refine g_iload hc 0 rfl dX2_takeTurn_86 (pc2 := 88) rfl ?_
        obtain ⟨r5, s5, hp, hf⟩ := bd_some hf
        refine g_vI hc (k2_hasMaster (by omega) hp) co_X2_63 (u3 (by omega)) rfl rfl (by decide) (by decide) (Nat.le_of_ble_eq_true rfl) dX2_takeTurn_88 (pc2 := 91) rfl ?_
        refine g_if_eq hc 126 (by decide) dX2_takeTurn_91 (pc2 := 94) rfl (fun q => ?_) (fun q => ?_)
        · have hf := ite_t hf q
          refine g_iload hc 0 rfl dX2_takeTurn_126 (pc2 := 128) rfl ?_
          exact g_iret hc hf hr rfl (by decide) (by decide) dX2_takeTurn_128
        · have hf := ite_f hf q
          refine g_aload_n (i := 0) hc 3 rfl rfl dX2_takeTurn_94 (pc2 := 95) rfl ?_
          refine g_getr (q := ad κ.1 6 o) hc fo_X2_20 (u3 (by omega)) rfl dX2_takeTurn_95 (pc2 := 98) rfl ?_
          refine g_iload hc 0 rfl dX2_takeTurn_98 (pc2 := 100) rfl ?_
          obtain ⟨hg2, hf⟩ := gd_some hf
          have ihg2 := ib_lt hg2
          refine g_aldr (q := ad κ.1 7 (6 * o + r4.toNatClampNeg)) hc 6 o (by decide) (by decide) (u6 (by omega)) hg2 rfl dX2_takeTurn_100 (pc2 := 101) rfl ?_
          refine g_getr (q := ad κ.1 8 (6 * o + r4.toNatClampNeg)) hc fo_X2_67 (u7 (by omega)) rfl dX2_takeTurn_101 (pc2 := 104) rfl ?_
          refine g_iload_n (i := 1) hc 4 rfl rfl dX2_takeTurn_104 (pc2 := 105) rfl ?_
          refine g_dup2 hc rfl rfl dX2_takeTurn_105 (pc2 := 106) rfl ?_
          obtain ⟨hg3, hf⟩ := gd_some hf
          refine g_aldi hc 8 (6 * o + r4.toNatClampNeg) rfl (u8 (by omega)) hg3 dX2_takeTurn_106 (pc2 := 107) rfl ?_
          refine g_iconst (v := (1 : Int32)) hc (by decide) dX2_takeTurn_107 (pc2 := 108) rfl ?_
          refine g_iadd hc dX2_takeTurn_108 (pc2 := 109) rfl ?_
          obtain ⟨hg4, hf⟩ := gd_some hf
          obtain ⟨s6, hs6, hf⟩ := nm_ex hf
          refine g_asti hc 8 (6 * o + r4.toNatClampNeg) rfl (u8 (by omega)) hg4 dX2_takeTurn_109 (pc2 := 110) rfl ?_
          refine g_nms hs6 ?_
          refine g_aload_n (i := 0) hc 3 rfl rfl dX2_takeTurn_110 (pc2 := 111) rfl ?_
          refine g_getr (q := ad κ.1 6 o) hc fo_X2_20 (u3 (by omega)) rfl dX2_takeTurn_111 (pc2 := 114) rfl ?_
          refine g_iload hc 0 rfl dX2_takeTurn_114 (pc2 := 116) rfl ?_
          obtain ⟨hg5, hf⟩ := gd_some hf
          have ihg5 := ib_lt hg5
          refine g_aldr (q := ad κ.1 7 (6 * o + r4.toNatClampNeg)) hc 6 o (by decide) (by decide) (u6 (by omega)) hg5 rfl dX2_takeTurn_116 (pc2 := 117) rfl ?_
          refine g_dup hc rfl dX2_takeTurn_117 (pc2 := 118) rfl ?_
          refine g_geti hc fo_X2_148 (u7 (by omega)) dX2_takeTurn_118 (pc2 := 121) rfl ?_
          refine g_iconst (v := (1 : Int32)) hc (by decide) dX2_takeTurn_121 (pc2 := 122) rfl ?_
          refine g_iadd hc dX2_takeTurn_122 (pc2 := 123) rfl ?_
          obtain ⟨s7, hs7, hf⟩ := nm_ex hf
          refine g_puti hc (by decide) fo_X2_148 clO_7 poK_7_9 rfl (u7 (by omega)) rfl rfl dX2_takeTurn_123 (pc2 := 126) rfl ?_
          refine g_nms hs7 ?_
          refine g_iload hc 0 rfl dX2_takeTurn_126 (pc2 := 128) rfl ?_
          exact g_iret hc hf hr rfl (by decide) (by decide) dX2_takeTurn_128
      · have hf := ite_f hf q
        refine g_aload_n (i := 2) hc 1 rfl rfl dX2_takeTurn_67 (pc2 := 68) rfl ?_
        refine g_dup hc rfl dX2_takeTurn_68 (pc2 := 69) rfl ?_
        refine g_geti hc fo_X2_142 (u7 (by omega)) dX2_takeTurn_69 (pc2 := 72) rfl ?_
        refine g_iconst (v := (1 : Int32)) hc (by decide) dX2_takeTurn_72 (pc2 := 73) rfl ?_
        refine g_iadd hc dX2_takeTurn_73 (pc2 := 74) rfl ?_
        obtain ⟨s8, hs8, hf⟩ := nm_ex hf
        refine g_puti hc (by decide) fo_X2_142 clO_7 poK_7_7 rfl (u7 (by omega)) rfl rfl dX2_takeTurn_74 (pc2 := 77) rfl ?_
        refine g_nms hs8 ?_
        refine g_iload_n (i := 1) hc 3 rfl rfl dX2_takeTurn_77 (pc2 := 78) rfl ?_
        exact g_iret hc hf hr rfl (by decide) (by decide) dX2_takeTurn_78
    · have hf := ite_f hf q
      refine g_aload_n (i := 2) hc 1 rfl rfl dX2_takeTurn_33 (pc2 := 34) rfl ?_
      refine g_getr (q := ad κ.1 8 (6 * o + a1.toNatClampNeg)) hc fo_X2_67 (u7 (by omega)) rfl dX2_takeTurn_34 (pc2 := 37) rfl ?_
      refine g_iload_n (i := 3) hc 0 rfl rfl dX2_takeTurn_37 (pc2 := 38) rfl ?_
      refine g_dup2 hc rfl rfl dX2_takeTurn_38 (pc2 := 39) rfl ?_
      obtain ⟨hg6, hf⟩ := gd_some hf
      refine g_aldi hc 8 (6 * o + a1.toNatClampNeg) rfl (u8 (by omega)) hg6 dX2_takeTurn_39 (pc2 := 40) rfl ?_
      refine g_iconst (v := (1 : Int32)) hc (by decide) dX2_takeTurn_40 (pc2 := 41) rfl ?_
      refine g_isub hc dX2_takeTurn_41 (pc2 := 42) rfl ?_
      obtain ⟨hg7, hf⟩ := gd_some hf
      obtain ⟨s9, hs9, hf⟩ := nm_ex hf
      refine g_asti hc 8 (6 * o + a1.toNatClampNeg) rfl (u8 (by omega)) hg7 dX2_takeTurn_42 (pc2 := 43) rfl ?_
      refine g_nms hs9 ?_
      refine g_aload_n (i := 0) hc 2 rfl rfl dX2_takeTurn_43 (pc2 := 44) rfl ?_
      refine g_getr (q := ad κ.1 6 o) hc fo_X2_20 (u3 (by omega)) rfl dX2_takeTurn_44 (pc2 := 47) rfl ?_
      refine g_iload_n (i := 3) hc 0 rfl rfl dX2_takeTurn_47 (pc2 := 48) rfl ?_
      obtain ⟨hg8, hf⟩ := gd_some hf
      have ihg8 := ib_lt hg8
      refine g_aldr (q := ad κ.1 7 (6 * o + r2.toNatClampNeg)) hc 6 o (by decide) (by decide) (u6 (by omega)) hg8 rfl dX2_takeTurn_48 (pc2 := 49) rfl ?_
      refine g_dup hc rfl dX2_takeTurn_49 (pc2 := 50) rfl ?_
      refine g_geti hc fo_X2_136 (u7 (by omega)) dX2_takeTurn_50 (pc2 := 53) rfl ?_
      refine g_iconst (v := (1 : Int32)) hc (by decide) dX2_takeTurn_53 (pc2 := 54) rfl ?_
      refine g_iadd hc dX2_takeTurn_54 (pc2 := 55) rfl ?_
      obtain ⟨s10, hs10, hf⟩ := nm_ex hf
      refine g_puti hc (by decide) fo_X2_136 clO_7 poK_7_8 rfl (u7 (by omega)) rfl rfl dX2_takeTurn_55 (pc2 := 58) rfl ?_
      refine g_nms hs10 ?_
      refine g_iload_n (i := 3) hc 0 rfl rfl dX2_takeTurn_58 (pc2 := 59) rfl ?_
      exact g_iret hc hf hr rfl (by decide) (by decide) dX2_takeTurn_59
  · have hf := ite_t hf q
    refine g_bipush (v := (-9 : Int32)) hc (by decide) dX2_takeTurn_8 (pc2 := 10) rfl ?_
    exact g_iret hc hf hr rfl (by decide) (by decide) dX2_takeTurn_10
def f2_latencyNow (o : Nat) (a1 : Int32) (s0 : Mem) : Option (Int32 × Mem) :=
  nm (fun (s1 : Mem) => some ((0 : Int32), s1)) fun j1 => (if a1 < (0 : Int32) then j1 s0 else (if (4 : Int32) ≤ a1 then j1 s0 else gd (ib a1 4) (some (s0 5 o a1.toNatClampNeg, s0))))
def rm_2_latencyNow : Room := { frames := 0, cells := 0, slots := 0, locals := 0 }
set_option maxHeartbeats 4000000 in
set_option maxRecDepth 100000 in
theorem k2_latencyNow {κ : Kx} {τ : Nat → Int64} {o : Nat} {a1 : Int32} {s0 sR : Mem} {rR : Int32} (h_o : o < 19) (hf : f2_latencyNow o a1 s0 = some (rR, sR)) : CtI κ yX2_latencyNow cX2_latencyNow 2 (some .int) rm_2_latencyNow (NV κ τ) (NV κ τ) [.ref (ad κ.1 3 o), .int a1] s0 sR rR := by
  refine ct_I (by decide +kernel) (Nat.le_of_ble_eq_true rfl) (fun φ hc hr => ?_)
  have hc : Cx κ φ RX2 cX2_latencyNow 2 rm_2_latencyNow := hc
  show G κ φ (QI κ φ (NV κ τ) sR rR rm_2_latencyNow.cells rm_2_latencyNow.slots) (NV κ τ) 0 0 s0 [(0, .ref (ad κ.1 3 o)), (1, .int a1)] 0 []
  unfold f2_latencyNow at hf
  refine g_iload_n (i := 1) hc 1 rfl rfl dX2_latencyNow_0 (pc2 := 1) rfl ?_
  obtain ⟨j1, hj1, hf⟩ := nm_ex hf
  have Hj1 : ∀ (s1 : Mem), j1 s1 = some (rR, sR) → G κ φ (QI κ φ (NV κ τ) sR rR rm_2_latencyNow.cells rm_2_latencyNow.slots) (NV κ τ) 0 0 s1 [] 18 [] := by
    intro s1 hf
    rw [hj1] at hf
    refine g_iconst (v := (0 : Int32)) hc (by decide) dX2_latencyNow_18 (pc2 := 19) rfl ?_
    exact g_iret hc hf hr rfl (by decide) (by decide) dX2_latencyNow_19
  refine g_if_lt hc 18 (by decide) dX2_latencyNow_1 (pc2 := 4) rfl (fun q => ?_) (fun q => ?_)
  · have hf := ite_t hf q
    refine g_sub [] rfl ?_
    exact Hj1 _ hf
  · have hf := ite_f hf q
    refine g_iload_n (i := 1) hc 1 rfl rfl dX2_latencyNow_4 (pc2 := 5) rfl ?_
    refine g_iconst (v := (4 : Int32)) hc (by decide) dX2_latencyNow_5 (pc2 := 6) rfl ?_
    refine g_icmp_ge hc 18 (by decide) dX2_latencyNow_6 (pc2 := 9) rfl (fun q => ?_) (fun q => ?_)
    · have hf := ite_t hf q
      refine g_sub [] rfl ?_
      exact Hj1 _ hf
    · have hf := ite_f hf q
      refine g_aload_n (i := 0) hc 0 rfl rfl dX2_latencyNow_9 (pc2 := 10) rfl ?_
      refine g_getr (q := ad κ.1 5 o) hc fo_X2_15 (u3 (by omega)) rfl dX2_latencyNow_10 (pc2 := 13) rfl ?_
      refine g_iload_n (i := 1) hc 1 rfl rfl dX2_latencyNow_13 (pc2 := 14) rfl ?_
      obtain ⟨hg1, hf⟩ := gd_some hf
      refine g_aldi hc 5 o rfl (u5 (by omega)) hg1 dX2_latencyNow_14 (pc2 := 15) rfl ?_
      refine g_goto hc 19 (by decide) dX2_latencyNow_15 ?_
      exact g_iret hc hf hr rfl (by decide) (by decide) dX2_latencyNow_19
def f2_sendWord (o : Nat) (a1 : Nat) (s0 : Mem) : Option Mem :=
  nm (ms s0 11 a1 (0 : Int32).toNatClampNeg ((s0 11 a1 ((0 : Int32)).toNatClampNeg) - (1 : Int32))) fun s1 => (if (s1 11 a1 ((0 : Int32)).toNatClampNeg) ≤ (0 : Int32) then nm (fun (s2 : Mem) => bv (f1_removeFirst a1 s2) fun s3 => some s3) fun j1 => (if (s1 12 a1 ((0 : Int32)).toNatClampNeg) = (0 : Int32) then j1 s1 else bd (f2_latencyNow o (s1 10 a1 ((0 : Int32)).toNatClampNeg) s1) fun r1 s4 => bv (f0_add a1 (((s1 32 o 0) + (1 : Int32)) + r1) s4) fun s5 => j1 s5) else some s1)
def rm_2_sendWord : Room := { frames := 1, cells := 0, slots := 0, locals := 21 }
set_option maxHeartbeats 4000000 in
set_option maxRecDepth 100000 in
theorem k2_sendWord {κ : Kx} {τ : Nat → Int64} {o : Nat} {a1 : Nat} {s0 sR : Mem} (h_o : o < 19) (h_a1 : a1 < 114) (hf : f2_sendWord o a1 s0 = some sR) : CtV κ yX2_sendWord cX2_sendWord 3 none rm_2_sendWord (NV κ τ) (NV κ τ) [.ref (ad κ.1 3 o), .ref (ad κ.1 7 a1)] s0 sR := by
  refine ct_V (by decide +kernel) (Nat.le_of_ble_eq_true rfl) (fun φ hc hr => ?_)
  have hc : Cx κ φ RX2 cX2_sendWord 3 rm_2_sendWord := hc
  show G κ φ (QV κ φ (NV κ τ) sR rm_2_sendWord.cells rm_2_sendWord.slots) (NV κ τ) 0 0 s0 [(0, .ref (ad κ.1 3 o)), (1, .ref (ad κ.1 7 a1))] 0 []
  unfold f2_sendWord at hf
  refine g_aload_n (i := 1) hc 1 rfl rfl dX2_sendWord_0 (pc2 := 1) rfl ?_
  refine g_getr (q := ad κ.1 9 a1) hc fo_X2_74 (u7 (by omega)) rfl dX2_sendWord_1 (pc2 := 4) rfl ?_
  refine g_astore_n (i := 2) (L1 := [(2, .ref (ad κ.1 9 a1)), (0, .ref (ad κ.1 3 o)), (1, .ref (ad κ.1 7 a1))]) hc rfl (by decide) rfl dX2_sendWord_4 (pc2 := 5) rfl ?_
  refine g_aload_n (i := 2) hc 0 rfl rfl dX2_sendWord_5 (pc2 := 6) rfl ?_
  refine g_getr (q := ad κ.1 11 a1) hc fo_X2_166 (u9 (by omega)) rfl dX2_sendWord_6 (pc2 := 9) rfl ?_
  refine g_iconst (v := (0 : Int32)) hc (by decide) dX2_sendWord_9 (pc2 := 10) rfl ?_
  refine g_dup2 hc rfl rfl dX2_sendWord_10 (pc2 := 11) rfl ?_
  refine g_aldi hc 11 a1 rfl (u11 (by omega)) (by decide) dX2_sendWord_11 (pc2 := 12) rfl ?_
  refine g_iconst (v := (1 : Int32)) hc (by decide) dX2_sendWord_12 (pc2 := 13) rfl ?_
  refine g_isub hc dX2_sendWord_13 (pc2 := 14) rfl ?_
  obtain ⟨s1, hs1, hf⟩ := nm_ex hf
  refine g_asti hc 11 a1 rfl (u11 (by omega)) (by decide) dX2_sendWord_14 (pc2 := 15) rfl ?_
  refine g_nms hs1 ?_
  refine g_aload_n (i := 2) hc 0 rfl rfl dX2_sendWord_15 (pc2 := 16) rfl ?_
  refine g_getr (q := ad κ.1 11 a1) hc fo_X2_166 (u9 (by omega)) rfl dX2_sendWord_16 (pc2 := 19) rfl ?_
  refine g_iconst (v := (0 : Int32)) hc (by decide) dX2_sendWord_19 (pc2 := 20) rfl ?_
  refine g_aldi hc 11 a1 rfl (u11 (by omega)) (by decide) dX2_sendWord_20 (pc2 := 21) rfl ?_
  refine g_if_le hc 25 (by decide) dX2_sendWord_21 (pc2 := 24) rfl (fun q => ?_) (fun q => ?_)
  · have hf := ite_t hf q
    refine g_aload_n (i := 2) hc 0 rfl rfl dX2_sendWord_25 (pc2 := 26) rfl ?_
    refine g_getr (q := ad κ.1 12 a1) hc fo_X2_169 (u9 (by omega)) rfl dX2_sendWord_26 (pc2 := 29) rfl ?_
    refine g_iconst (v := (0 : Int32)) hc (by decide) dX2_sendWord_29 (pc2 := 30) rfl ?_
    refine g_aldz hc 12 a1 rfl (u12 (by omega)) (by decide) dX2_sendWord_30 (pc2 := 31) rfl ?_
    obtain ⟨j1, hj1, hf⟩ := nm_ex hf
    have Hj1 : ∀ (s2 : Mem), j1 s2 = some sR → G κ φ (QV κ φ (NV κ τ) sR rm_2_sendWord.cells rm_2_sendWord.slots) (NV κ τ) 0 0 s2 [(2, .ref (ad κ.1 9 a1))] 58 [] := by
      intro s2 hf
      rw [hj1] at hf
      refine g_aload_n (i := 2) hc 0 rfl rfl dX2_sendWord_58 (pc2 := 59) rfl ?_
      obtain ⟨s3, hp, hf⟩ := bv_some hf
      refine g_vV hc (k1_removeFirst (by omega) hp) co_X2_182 (u9 (by omega)) rfl rfl (by decide) (by decide) (Nat.le_of_ble_eq_true rfl) dX2_sendWord_59 (pc2 := 62) rfl ?_
      exact g_vret hc hf hr (by decide) (by decide) dX2_sendWord_62
    refine g_if_eq hc 58 (by decide) dX2_sendWord_31 (pc2 := 34) rfl (fun q => ?_) (fun q => ?_)
    · have hf := ite_t hf q
      refine g_sub [0] rfl ?_
      exact Hj1 _ hf
    · have hf := ite_f hf q
      refine g_aload_n (i := 1) hc 2 rfl rfl dX2_sendWord_34 (pc2 := 35) rfl ?_
      refine g_getr (q := ad κ.1 13 a1) hc fo_X2_83 (u7 (by omega)) rfl dX2_sendWord_35 (pc2 := 38) rfl ?_
      refine g_aload_n (i := 0) hc 1 rfl rfl dX2_sendWord_38 (pc2 := 39) rfl ?_
      refine g_geti hc fo_X2_45 (u3 (by omega)) dX2_sendWord_39 (pc2 := 42) rfl ?_
      refine g_iconst (v := (1 : Int32)) hc (by decide) dX2_sendWord_42 (pc2 := 43) rfl ?_
      refine g_iadd hc dX2_sendWord_43 (pc2 := 44) rfl ?_
      refine g_aload_n (i := 0) hc 1 rfl rfl dX2_sendWord_44 (pc2 := 45) rfl ?_
      refine g_aload_n (i := 2) hc 0 rfl rfl dX2_sendWord_45 (pc2 := 46) rfl ?_
      refine g_getr (q := ad κ.1 10 a1) hc fo_X2_173 (u9 (by omega)) rfl dX2_sendWord_46 (pc2 := 49) rfl ?_
      refine g_iconst (v := (0 : Int32)) hc (by decide) dX2_sendWord_49 (pc2 := 50) rfl ?_
      refine g_aldi hc 10 a1 rfl (u10 (by omega)) (by decide) dX2_sendWord_50 (pc2 := 51) rfl ?_
      obtain ⟨r1, s4, hp, hf⟩ := bd_some hf
      refine g_vI hc (k2_latencyNow (by omega) hp) co_X2_176 (u3 (by omega)) rfl rfl (by decide) (by decide) (Nat.le_of_ble_eq_true rfl) dX2_sendWord_51 (pc2 := 54) rfl ?_
      refine g_iadd hc dX2_sendWord_54 (pc2 := 55) rfl ?_
      obtain ⟨s5, hp, hf⟩ := bv_some hf
      refine g_vV hc (k0_add (by omega) hp) co_X2_179 (u13 (by omega)) rfl rfl (by decide) (by decide) (Nat.le_of_ble_eq_true rfl) dX2_sendWord_55 (pc2 := 58) rfl ?_
      refine g_sub [0] rfl ?_
      exact Hj1 _ hf
  · have hf := ite_f hf q
    exact g_vret hc hf hr (by decide) (by decide) dX2_sendWord_24
def f2_work (o : Nat) (a1 : Nat) (s0 : Mem) : Option Mem :=
  bd (f0_firstReady a1 (s0 32 o 0) s0) fun r1 s1 => (if r1 = (-9 : Int32) then (if (s1 50 a1 0) ≤ (0 : Int32) then some s1 else bv (f2_sendWord o a1 s1) fun s2 => some s2) else bv (f0_remove a1 r1 s1) fun s3 => nm (ms s3 47 a1 0 ((s3 47 a1 0) + (1 : Int32))) fun s4 => some s4)
def rm_2_work : Room := { frames := 2, cells := 0, slots := 0, locals := 43 }
set_option maxHeartbeats 4000000 in
set_option maxRecDepth 100000 in
theorem k2_work {κ : Kx} {τ : Nat → Int64} {o : Nat} {a1 : Nat} {s0 sR : Mem} (h_o : o < 19) (h_a1 : a1 < 114) (hf : f2_work o a1 s0 = some sR) : CtV κ yX2_work cX2_work 3 none rm_2_work (NV κ τ) (NV κ τ) [.ref (ad κ.1 3 o), .ref (ad κ.1 7 a1)] s0 sR := by
  refine ct_V (by decide +kernel) (Nat.le_of_ble_eq_true rfl) (fun φ hc hr => ?_)
  have hc : Cx κ φ RX2 cX2_work 3 rm_2_work := hc
  show G κ φ (QV κ φ (NV κ τ) sR rm_2_work.cells rm_2_work.slots) (NV κ τ) 0 0 s0 [(0, .ref (ad κ.1 3 o)), (1, .ref (ad κ.1 7 a1))] 0 []
  unfold f2_work at hf
  refine g_aload_n (i := 1) hc 1 rfl rfl dX2_work_0 (pc2 := 1) rfl ?_
  refine g_getr (q := ad κ.1 13 a1) hc fo_X2_83 (u7 (by omega)) rfl dX2_work_1 (pc2 := 4) rfl ?_
  refine g_aload_n (i := 0) hc 0 rfl rfl dX2_work_4 (pc2 := 5) rfl ?_
  refine g_geti hc fo_X2_45 (u3 (by omega)) dX2_work_5 (pc2 := 8) rfl ?_
  obtain ⟨r1, s1, hp, hf⟩ := bd_some hf
  refine g_vI hc (k0_firstReady (by omega) hp) co_X2_154 (u13 (by omega)) rfl rfl (by decide) (by decide) (Nat.le_of_ble_eq_true rfl) dX2_work_8 (pc2 := 11) rfl ?_
  refine g_istore_n (i := 2) (L1 := [(2, .int r1), (0, .ref (ad κ.1 3 o)), (1, .ref (ad κ.1 7 a1))]) hc rfl (by decide) rfl dX2_work_11 (pc2 := 12) rfl ?_
  refine g_iload_n (i := 2) hc 0 rfl rfl dX2_work_12 (pc2 := 13) rfl ?_
  refine g_bipush (v := (-9 : Int32)) hc (by decide) dX2_work_13 (pc2 := 15) rfl ?_
  refine g_icmp_eq hc 39 (by decide) dX2_work_15 (pc2 := 18) rfl (fun q => ?_) (fun q => ?_)
  · have hf := ite_t hf q
    refine g_aload_n (i := 1) hc 2 rfl rfl dX2_work_39 (pc2 := 40) rfl ?_
    refine g_getr (q := ad κ.1 9 a1) hc fo_X2_74 (u7 (by omega)) rfl dX2_work_40 (pc2 := 43) rfl ?_
    refine g_geti hc fo_X2_78 (u9 (by omega)) dX2_work_43 (pc2 := 46) rfl ?_
    refine g_if_le hc 54 (by decide) dX2_work_46 (pc2 := 49) rfl (fun q => ?_) (fun q => ?_)
    · have hf := ite_t hf q
      exact g_vret hc hf hr (by decide) (by decide) dX2_work_54
    · have hf := ite_f hf q
      refine g_aload_n (i := 0) hc 1 rfl rfl dX2_work_49 (pc2 := 50) rfl ?_
      refine g_aload_n (i := 1) hc 2 rfl rfl dX2_work_50 (pc2 := 51) rfl ?_
      obtain ⟨s2, hp, hf⟩ := bv_some hf
      refine g_vV hc (k2_sendWord (by omega) (by omega) hp) co_X2_163 (u3 (by omega)) rfl rfl (by decide) (by decide) (Nat.le_of_ble_eq_true rfl) dX2_work_51 (pc2 := 54) rfl ?_
      exact g_vret hc hf hr (by decide) (by decide) dX2_work_54
  · have hf := ite_f hf q
    refine g_aload_n (i := 1) hc 2 rfl rfl dX2_work_18 (pc2 := 19) rfl ?_
    refine g_getr (q := ad κ.1 13 a1) hc fo_X2_83 (u7 (by omega)) rfl dX2_work_19 (pc2 := 22) rfl ?_
    refine g_iload_n (i := 2) hc 0 rfl rfl dX2_work_22 (pc2 := 23) rfl ?_
    obtain ⟨s3, hp, hf⟩ := bv_some hf
    refine g_vV hc (k0_remove (by omega) hp) co_X2_157 (u13 (by omega)) rfl rfl (by decide) (by decide) (Nat.le_of_ble_eq_true rfl) dX2_work_23 (pc2 := 26) rfl ?_
    refine g_aload_n (i := 1) hc 2 rfl rfl dX2_work_26 (pc2 := 27) rfl ?_
    refine g_dup hc rfl dX2_work_27 (pc2 := 28) rfl ?_
    refine g_geti hc fo_X2_160 (u7 (by omega)) dX2_work_28 (pc2 := 31) rfl ?_
    refine g_iconst (v := (1 : Int32)) hc (by decide) dX2_work_31 (pc2 := 32) rfl ?_
    refine g_iadd hc dX2_work_32 (pc2 := 33) rfl ?_
    obtain ⟨s4, hs4, hf⟩ := nm_ex hf
    refine g_puti hc (by decide) fo_X2_160 clO_7 poK_7_10 rfl (u7 (by omega)) rfl rfl dX2_work_33 (pc2 := 36) rfl ?_
    refine g_nms hs4 ?_
    refine g_goto hc 54 (by decide) dX2_work_36 ?_
    exact g_vret hc hf hr (by decide) (by decide) dX2_work_54
def f2_cannotPay (o : Nat) (a1 : Int32) (s0 : Mem) : Option (Int32 × Mem) :=
  bd (f2_hasMaster o a1 s0) fun r1 s1 => (if r1 = (0 : Int32) then some ((0 : Int32), s1) else gd (ib a1 6) ((if (s1 40 (6 * o + a1.toNatClampNeg) 0) = (0 : Int32) then gd (ib a1 6) (bd (f5_debts (6 * o + a1.toNatClampNeg) s1) fun r2 s2 => nm (fun (s3 : Mem) => some ((0 : Int32), s3)) fun j1 => (if r2 ≤ (0 : Int32) then j1 s2 else bd (f2_slotsOf o a1 s2) fun r3 s4 => (if r2 ≤ ((4 : Int32) * r3) then j1 s4 else some ((1 : Int32), s4)))) else some ((0 : Int32), s1))))
def rm_2_cannotPay : Room := { frames := 1, cells := 0, slots := 0, locals := 23 }
set_option maxHeartbeats 4000000 in
set_option maxRecDepth 100000 in
theorem k2_cannotPay {κ : Kx} {τ : Nat → Int64} {o : Nat} {a1 : Int32} {s0 sR : Mem} {rR : Int32} (h_o : o < 19) (hf : f2_cannotPay o a1 s0 = some (rR, sR)) : CtI κ yX2_cannotPay cX2_cannotPay 3 (some .boolean) rm_2_cannotPay (NV κ τ) (NV κ τ) [.ref (ad κ.1 3 o), .int a1] s0 sR rR := by
  refine ct_I (by decide +kernel) (Nat.le_of_ble_eq_true rfl) (fun φ hc hr => ?_)
  have hc : Cx κ φ RX2 cX2_cannotPay 3 rm_2_cannotPay := hc
  show G κ φ (QI κ φ (NV κ τ) sR rR rm_2_cannotPay.cells rm_2_cannotPay.slots) (NV κ τ) 0 0 s0 [(0, .ref (ad κ.1 3 o)), (1, .int a1)] 0 []
  unfold f2_cannotPay at hf
  refine g_aload_n (i := 0) hc 0 rfl rfl dX2_cannotPay_0 (pc2 := 1) rfl ?_
  refine g_iload_n (i := 1) hc 1 rfl rfl dX2_cannotPay_1 (pc2 := 2) rfl ?_
  obtain ⟨r1, s1, hp, hf⟩ := bd_some hf
  refine g_vI hc (k2_hasMaster (by omega) hp) co_X2_63 (u3 (by omega)) rfl rfl (by decide) (by decide) (Nat.le_of_ble_eq_true rfl) dX2_cannotPay_2 (pc2 := 5) rfl ?_
  refine g_if_eq hc 20 (by decide) dX2_cannotPay_5 (pc2 := 8) rfl (fun q => ?_) (fun q => ?_)
  · have hf := ite_t hf q
    refine g_iconst (v := (0 : Int32)) hc (by decide) dX2_cannotPay_20 (pc2 := 21) rfl ?_
    exact g_iret hc hf hr rfl (by decide) (by decide) dX2_cannotPay_21
  · have hf := ite_f hf q
    refine g_aload_n (i := 0) hc 0 rfl rfl dX2_cannotPay_8 (pc2 := 9) rfl ?_
    refine g_getr (q := ad κ.1 6 o) hc fo_X2_20 (u3 (by omega)) rfl dX2_cannotPay_9 (pc2 := 12) rfl ?_
    refine g_iload_n (i := 1) hc 1 rfl rfl dX2_cannotPay_12 (pc2 := 13) rfl ?_
    obtain ⟨hg1, hf⟩ := gd_some hf
    have ihg1 := ib_lt hg1
    refine g_aldr (q := ad κ.1 7 (6 * o + a1.toNatClampNeg)) hc 6 o (by decide) (by decide) (u6 (by omega)) hg1 rfl dX2_cannotPay_13 (pc2 := 14) rfl ?_
    refine g_geti hc fo_X2_90 (u7 (by omega)) dX2_cannotPay_14 (pc2 := 17) rfl ?_
    refine g_if_eq hc 22 (by decide) dX2_cannotPay_17 (pc2 := 20) rfl (fun q => ?_) (fun q => ?_)
    · have hf := ite_t hf q
      refine g_aload_n (i := 0) hc 0 rfl rfl dX2_cannotPay_22 (pc2 := 23) rfl ?_
      refine g_getr (q := ad κ.1 6 o) hc fo_X2_20 (u3 (by omega)) rfl dX2_cannotPay_23 (pc2 := 26) rfl ?_
      refine g_iload_n (i := 1) hc 1 rfl rfl dX2_cannotPay_26 (pc2 := 27) rfl ?_
      obtain ⟨hg2, hf⟩ := gd_some hf
      have ihg2 := ib_lt hg2
      refine g_aldr (q := ad κ.1 7 (6 * o + a1.toNatClampNeg)) hc 6 o (by decide) (by decide) (u6 (by omega)) hg2 rfl dX2_cannotPay_27 (pc2 := 28) rfl ?_
      obtain ⟨r2, s2, hp, hf⟩ := bd_some hf
      refine g_vI hc (k5_debts (by omega) hp) co_X2_70 (u7 (by omega)) rfl rfl (by decide) (by decide) (Nat.le_of_ble_eq_true rfl) dX2_cannotPay_28 (pc2 := 31) rfl ?_
      refine g_istore_n (i := 2) (L1 := [(2, .int r2), (0, .ref (ad κ.1 3 o)), (1, .int a1)]) hc rfl (by decide) rfl dX2_cannotPay_31 (pc2 := 32) rfl ?_
      refine g_iload_n (i := 2) hc 0 rfl rfl dX2_cannotPay_32 (pc2 := 33) rfl ?_
      obtain ⟨j1, hj1, hf⟩ := nm_ex hf
      have Hj1 : ∀ (s3 : Mem), j1 s3 = some (rR, sR) → G κ φ (QI κ φ (NV κ τ) sR rR rm_2_cannotPay.cells rm_2_cannotPay.slots) (NV κ τ) 0 0 s3 [] 51 [] := by
        intro s3 hf
        rw [hj1] at hf
        refine g_iconst (v := (0 : Int32)) hc (by decide) dX2_cannotPay_51 (pc2 := 52) rfl ?_
        exact g_iret hc hf hr rfl (by decide) (by decide) dX2_cannotPay_52
      refine g_if_le hc 51 (by decide) dX2_cannotPay_33 (pc2 := 36) rfl (fun q => ?_) (fun q => ?_)
      · have hf := ite_t hf q
        refine g_sub [] rfl ?_
        exact Hj1 _ hf
      · have hf := ite_f hf q
        refine g_iload_n (i := 2) hc 0 rfl rfl dX2_cannotPay_36 (pc2 := 37) rfl ?_
        refine g_iconst (v := (4 : Int32)) hc (by decide) dX2_cannotPay_37 (pc2 := 38) rfl ?_
        refine g_aload_n (i := 0) hc 1 rfl rfl dX2_cannotPay_38 (pc2 := 39) rfl ?_
        refine g_iload_n (i := 1) hc 2 rfl rfl dX2_cannotPay_39 (pc2 := 40) rfl ?_
        obtain ⟨r3, s4, hp, hf⟩ := bd_some hf
        refine g_vI hc (k2_slotsOf (by omega) hp) co_X2_185 (u3 (by omega)) rfl rfl (by decide) (by decide) (Nat.le_of_ble_eq_true rfl) dX2_cannotPay_40 (pc2 := 43) rfl ?_
        refine g_imul hc dX2_cannotPay_43 (pc2 := 44) rfl ?_
        refine g_icmp_le hc 51 (by decide) dX2_cannotPay_44 (pc2 := 47) rfl (fun q => ?_) (fun q => ?_)
        · have hf := ite_t hf q
          refine g_sub [] rfl ?_
          exact Hj1 _ hf
        · have hf := ite_f hf q
          refine g_iconst (v := (1 : Int32)) hc (by decide) dX2_cannotPay_47 (pc2 := 48) rfl ?_
          refine g_goto hc 52 (by decide) dX2_cannotPay_48 ?_
          exact g_iret hc hf hr rfl (by decide) (by decide) dX2_cannotPay_52
    · have hf := ite_f hf q
      refine g_iconst (v := (0 : Int32)) hc (by decide) dX2_cannotPay_20 (pc2 := 21) rfl ?_
      exact g_iret hc hf hr rfl (by decide) (by decide) dX2_cannotPay_21
def f2_ruin_l64 (o : Nat) (a1 : Int32) (k2 : Mem → Option Mem) : Nat → Int32 → Mem → Option Mem
  | 0, _, _ => none
  | n1 + 1, m1, s6 => (if (s6 30 o 0) ≤ m1 then k2 s6 else gd (ib m1 6) (gd (ib a1 6) (nm (ms s6 8 (6 * o + m1.toNatClampNeg) a1.toNatClampNeg (0 : Int32)) fun s7 => nm (m1 + (1 : Int32)) fun x1 => f2_ruin_l64 o a1 k2 n1 x1 s7)))
def f2_ruin_l23 (o : Nat) (a1 : Int32) (r2 : Int32) (k1 : Mem → Option Mem) : Nat → Int32 → Mem → Option Mem
  | 0, _, _ => none
  | n2 + 1, m2, s8 => (if (s8 31 o 0) ≤ m2 then k1 s8 else bd (f2_hasMaster o r2 s8) fun r3 s9 => (if r3 = (0 : Int32) then k1 s9 else gd (ib m2 16) (nm (fun (s10 : Mem) => nm (m2 + (1 : Int32)) fun x2 => f2_ruin_l23 o a1 r2 k1 n2 x2 s10) fun j1 => (if (s9 4 o m2.toNatClampNeg) = a1 then gd (ib m2 16) (nm (ms s9 4 o m2.toNatClampNeg r2) fun s11 => j1 s11) else j1 s9))))
def f2_ruin (o : Nat) (a1 : Int32) (s0 : Mem) : Option Mem :=
  bd (f2_hasMaster o a1 s0) fun r1 s1 => (if r1 = (0 : Int32) then some s1 else gd (ib a1 6) (bd (f2_creditorOf o (6 * o + a1.toNatClampNeg) (0 : Int32) s1) fun r2 s2 => nm (fun (s3 : Mem) => nm (fun (s4 : Mem) => gd (ib a1 6) (bv (f5_goBankrupt (6 * o + a1.toNatClampNeg) s4) fun s5 => some s5)) fun k2 => f2_ruin_l64 o a1 k2 FU (0 : Int32) s3) fun k1 => f2_ruin_l23 o a1 r2 k1 FU (0 : Int32) s2))
def rm_2_ruin : Room := { frames := 2, cells := 0, slots := 0, locals := 41 }
set_option maxHeartbeats 4000000 in
set_option maxRecDepth 100000 in
theorem k2_ruin {κ : Kx} {τ : Nat → Int64} {o : Nat} {a1 : Int32} {s0 sR : Mem} (h_o : o < 19) (hf : f2_ruin o a1 s0 = some sR) : CtV κ yX2_ruin cX2_ruin 4 none rm_2_ruin (NV κ τ) (NV κ τ) [.ref (ad κ.1 3 o), .int a1] s0 sR := by
  refine ct_V (by decide +kernel) (Nat.le_of_ble_eq_true rfl) (fun φ hc hr => ?_)
  have hc : Cx κ φ RX2 cX2_ruin 4 rm_2_ruin := hc
  show G κ φ (QV κ φ (NV κ τ) sR rm_2_ruin.cells rm_2_ruin.slots) (NV κ τ) 0 0 s0 [(0, .ref (ad κ.1 3 o)), (1, .int a1)] 0 []
  unfold f2_ruin at hf
  refine g_aload_n (i := 0) hc 0 rfl rfl dX2_ruin_0 (pc2 := 1) rfl ?_
  refine g_iload_n (i := 1) hc 1 rfl rfl dX2_ruin_1 (pc2 := 2) rfl ?_
  obtain ⟨r1, s1, hp, hf⟩ := bd_some hf
  refine g_vI hc (k2_hasMaster (by omega) hp) co_X2_63 (u3 (by omega)) rfl rfl (by decide) (by decide) (Nat.le_of_ble_eq_true rfl) dX2_ruin_2 (pc2 := 5) rfl ?_
  refine g_if_ne hc 9 (by decide) dX2_ruin_5 (pc2 := 8) rfl (fun q => ?_) (fun q => ?_)
  · have hf := ite_f hf q
    refine g_aload_n (i := 0) hc 0 rfl rfl dX2_ruin_9 (pc2 := 10) rfl ?_
    refine g_aload_n (i := 0) hc 0 rfl rfl dX2_ruin_10 (pc2 := 11) rfl ?_
    refine g_getr (q := ad κ.1 6 o) hc fo_X2_20 (u3 (by omega)) rfl dX2_ruin_11 (pc2 := 14) rfl ?_
    refine g_iload_n (i := 1) hc 1 rfl rfl dX2_ruin_14 (pc2 := 15) rfl ?_
    obtain ⟨hg1, hf⟩ := gd_some hf
    have ihg1 := ib_lt hg1
    refine g_aldr (q := ad κ.1 7 (6 * o + a1.toNatClampNeg)) hc 6 o (by decide) (by decide) (u6 (by omega)) hg1 rfl dX2_ruin_15 (pc2 := 16) rfl ?_
    refine g_iconst (v := (0 : Int32)) hc (by decide) dX2_ruin_16 (pc2 := 17) rfl ?_
    obtain ⟨r2, s2, hp, hf⟩ := bd_some hf
    refine g_vI hc (k2_creditorOf (by omega) (by omega) hp) co_X2_132 (u3 (by omega)) rfl rfl (by decide) (by decide) (Nat.le_of_ble_eq_true rfl) dX2_ruin_17 (pc2 := 20) rfl ?_
    refine g_istore_n (i := 2) (L1 := [(2, .int r2), (0, .ref (ad κ.1 3 o)), (1, .int a1)]) hc rfl (by decide) rfl dX2_ruin_20 (pc2 := 21) rfl ?_
    refine g_iconst (v := (0 : Int32)) hc (by decide) dX2_ruin_21 (pc2 := 22) rfl ?_
    refine g_istore_n (i := 3) (L1 := [(3, .int (0 : Int32)), (2, .int r2), (0, .ref (ad κ.1 3 o)), (1, .int a1)]) hc rfl (by decide) rfl dX2_ruin_22 (pc2 := 23) rfl ?_
    obtain ⟨k1, hk1, hf⟩ := nm_ex hf
    have Hk1 : ∀ (s3 : Mem), k1 s3 = some sR → G κ φ (QV κ φ (NV κ τ) sR rm_2_ruin.cells rm_2_ruin.slots) (NV κ τ) 0 0 s3 [(0, .ref (ad κ.1 3 o)), (1, .int a1)] 62 [] := by
      intro s3 hf
      rw [hk1] at hf
      refine g_iconst (v := (0 : Int32)) hc (by decide) dX2_ruin_62 (pc2 := 63) rfl ?_
      refine g_istore_n (i := 3) (L1 := [(3, .int (0 : Int32)), (0, .ref (ad κ.1 3 o)), (1, .int a1)]) hc rfl (by decide) rfl dX2_ruin_63 (pc2 := 64) rfl ?_
      obtain ⟨k2, hk2, hf⟩ := nm_ex hf
      have Hk2 : ∀ (s4 : Mem), k2 s4 = some sR → G κ φ (QV κ φ (NV κ τ) sR rm_2_ruin.cells rm_2_ruin.slots) (NV κ τ) 0 0 s4 [(0, .ref (ad κ.1 3 o)), (1, .int a1)] 90 [] := by
        intro s4 hf
        rw [hk2] at hf
        refine g_aload_n (i := 0) hc 0 rfl rfl dX2_ruin_90 (pc2 := 91) rfl ?_
        refine g_getr (q := ad κ.1 6 o) hc fo_X2_20 (u3 (by omega)) rfl dX2_ruin_91 (pc2 := 94) rfl ?_
        refine g_iload_n (i := 1) hc 1 rfl rfl dX2_ruin_94 (pc2 := 95) rfl ?_
        obtain ⟨hg2, hf⟩ := gd_some hf
        have ihg2 := ib_lt hg2
        refine g_aldr (q := ad κ.1 7 (6 * o + a1.toNatClampNeg)) hc 6 o (by decide) (by decide) (u6 (by omega)) hg2 rfl dX2_ruin_95 (pc2 := 96) rfl ?_
        obtain ⟨s5, hp, hf⟩ := bv_some hf
        refine g_vV hc (k5_goBankrupt (by omega) hp) co_X2_188 (u7 (by omega)) rfl rfl (by decide) (by decide) (Nat.le_of_ble_eq_true rfl) dX2_ruin_96 (pc2 := 99) rfl ?_
        exact g_vret hc hf hr (by decide) (by decide) dX2_ruin_99
      have LP_n1 : ∀ (n1 : Nat) (m1 : Int32) (s6 : Mem), f2_ruin_l64 o a1 k2 n1 m1 s6 = some sR → G κ φ (QV κ φ (NV κ τ) sR rm_2_ruin.cells rm_2_ruin.slots) (NV κ τ) 0 0 s6 [(0, .ref (ad κ.1 3 o)), (1, .int a1), (3, .int m1)] 64 [] := by
        intro n1
        induction n1 with
        | zero => intro m1 s6 hf; rw [f2_ruin_l64] at hf; cases hf
        | succ n1 ih_n1 =>
          intro m1 s6 hf
          rw [f2_ruin_l64] at hf
          refine g_iload_n (i := 3) hc 2 rfl rfl dX2_ruin_64 (pc2 := 65) rfl ?_
          refine g_aload_n (i := 0) hc 0 rfl rfl dX2_ruin_65 (pc2 := 66) rfl ?_
          refine g_geti hc fo_X2_38 (u3 (by omega)) dX2_ruin_66 (pc2 := 69) rfl ?_
          refine g_icmp_ge hc 90 (by decide) dX2_ruin_69 (pc2 := 72) rfl (fun q => ?_) (fun q => ?_)
          · have hf := ite_t hf q
            refine g_sub [0, 1] rfl ?_
            exact Hk2 _ hf
          · have hf := ite_f hf q
            refine g_aload_n (i := 0) hc 0 rfl rfl dX2_ruin_72 (pc2 := 73) rfl ?_
            refine g_getr (q := ad κ.1 6 o) hc fo_X2_20 (u3 (by omega)) rfl dX2_ruin_73 (pc2 := 76) rfl ?_
            refine g_iload_n (i := 3) hc 2 rfl rfl dX2_ruin_76 (pc2 := 77) rfl ?_
            obtain ⟨hg3, hf⟩ := gd_some hf
            have ihg3 := ib_lt hg3
            refine g_aldr (q := ad κ.1 7 (6 * o + m1.toNatClampNeg)) hc 6 o (by decide) (by decide) (u6 (by omega)) hg3 rfl dX2_ruin_77 (pc2 := 78) rfl ?_
            refine g_getr (q := ad κ.1 8 (6 * o + m1.toNatClampNeg)) hc fo_X2_67 (u7 (by omega)) rfl dX2_ruin_78 (pc2 := 81) rfl ?_
            refine g_iload_n (i := 1) hc 1 rfl rfl dX2_ruin_81 (pc2 := 82) rfl ?_
            refine g_iconst (v := (0 : Int32)) hc (by decide) dX2_ruin_82 (pc2 := 83) rfl ?_
            obtain ⟨hg4, hf⟩ := gd_some hf
            obtain ⟨s7, hs7, hf⟩ := nm_ex hf
            refine g_asti hc 8 (6 * o + m1.toNatClampNeg) rfl (u8 (by omega)) hg4 dX2_ruin_83 (pc2 := 84) rfl ?_
            refine g_nms hs7 ?_
            obtain ⟨x1, hx1, hf⟩ := nm_ex hf
            refine g_iinc (v := x1) (L1 := [(3, .int x1), (0, .ref (ad κ.1 3 o)), (1, .int a1)]) hc 2 rfl (by rw [hx1]; rfl) (by decide) rfl dX2_ruin_84 (pc2 := 87) rfl ?_
            refine g_goto hc 64 (by decide) dX2_ruin_87 ?_
            refine g_sub [1, 2, 0] rfl ?_
            exact ih_n1 _ _ hf
      refine g_sub [1, 2, 0] rfl ?_
      exact LP_n1 _ _ _ hf
    have LP_n2 : ∀ (n2 : Nat) (m2 : Int32) (s8 : Mem), f2_ruin_l23 o a1 r2 k1 n2 m2 s8 = some sR → G κ φ (QV κ φ (NV κ τ) sR rm_2_ruin.cells rm_2_ruin.slots) (NV κ τ) 0 0 s8 [(0, .ref (ad κ.1 3 o)), (1, .int a1), (2, .int r2), (3, .int m2)] 23 [] := by
      intro n2
      induction n2 with
      | zero => intro m2 s8 hf; rw [f2_ruin_l23] at hf; cases hf
      | succ n2 ih_n2 =>
        intro m2 s8 hf
        rw [f2_ruin_l23] at hf
        refine g_iload_n (i := 3) hc 3 rfl rfl dX2_ruin_23 (pc2 := 24) rfl ?_
        refine g_aload_n (i := 0) hc 0 rfl rfl dX2_ruin_24 (pc2 := 25) rfl ?_
        refine g_geti hc fo_X2_42 (u3 (by omega)) dX2_ruin_25 (pc2 := 28) rfl ?_
        refine g_icmp_ge hc 62 (by decide) dX2_ruin_28 (pc2 := 31) rfl (fun q => ?_) (fun q => ?_)
        · have hf := ite_t hf q
          refine g_sub [0, 1] rfl ?_
          exact Hk1 _ hf
        · have hf := ite_f hf q
          refine g_aload_n (i := 0) hc 0 rfl rfl dX2_ruin_31 (pc2 := 32) rfl ?_
          refine g_iload_n (i := 2) hc 2 rfl rfl dX2_ruin_32 (pc2 := 33) rfl ?_
          obtain ⟨r3, s9, hp, hf⟩ := bd_some hf
          refine g_vI hc (k2_hasMaster (by omega) hp) co_X2_63 (u3 (by omega)) rfl rfl (by decide) (by decide) (Nat.le_of_ble_eq_true rfl) dX2_ruin_33 (pc2 := 36) rfl ?_
          refine g_if_eq hc 62 (by decide) dX2_ruin_36 (pc2 := 39) rfl (fun q => ?_) (fun q => ?_)
          · have hf := ite_t hf q
            refine g_sub [0, 1] rfl ?_
            exact Hk1 _ hf
          · have hf := ite_f hf q
            refine g_aload_n (i := 0) hc 0 rfl rfl dX2_ruin_39 (pc2 := 40) rfl ?_
            refine g_getr (q := ad κ.1 4 o) hc fo_X2_9 (u3 (by omega)) rfl dX2_ruin_40 (pc2 := 43) rfl ?_
            refine g_iload_n (i := 3) hc 3 rfl rfl dX2_ruin_43 (pc2 := 44) rfl ?_
            obtain ⟨hg5, hf⟩ := gd_some hf
            refine g_aldi hc 4 o rfl (u4 (by omega)) hg5 dX2_ruin_44 (pc2 := 45) rfl ?_
            refine g_iload_n (i := 1) hc 1 rfl rfl dX2_ruin_45 (pc2 := 46) rfl ?_
            obtain ⟨j1, hj1, hf⟩ := nm_ex hf
            have Hj1 : ∀ (s10 : Mem), j1 s10 = some sR → G κ φ (QV κ φ (NV κ τ) sR rm_2_ruin.cells rm_2_ruin.slots) (NV κ τ) 0 0 s10 [(0, .ref (ad κ.1 3 o)), (1, .int a1), (2, .int r2), (3, .int m2)] 56 [] := by
              intro s10 hf
              rw [hj1] at hf
              obtain ⟨x2, hx2, hf⟩ := nm_ex hf
              refine g_iinc (v := x2) (L1 := [(3, .int x2), (0, .ref (ad κ.1 3 o)), (1, .int a1), (2, .int r2)]) hc 3 rfl (by rw [hx2]; rfl) (by decide) rfl dX2_ruin_56 (pc2 := 59) rfl ?_
              refine g_goto hc 23 (by decide) dX2_ruin_59 ?_
              refine g_sub [1, 2, 3, 0] rfl ?_
              exact ih_n2 _ _ hf
            refine g_icmp_ne hc 56 (by decide) dX2_ruin_46 (pc2 := 49) rfl (fun q => ?_) (fun q => ?_)
            · have hf := ite_f hf q
              exact Hj1 _ hf
            · have hf := ite_t hf q
              refine g_aload_n (i := 0) hc 0 rfl rfl dX2_ruin_49 (pc2 := 50) rfl ?_
              refine g_getr (q := ad κ.1 4 o) hc fo_X2_9 (u3 (by omega)) rfl dX2_ruin_50 (pc2 := 53) rfl ?_
              refine g_iload_n (i := 3) hc 3 rfl rfl dX2_ruin_53 (pc2 := 54) rfl ?_
              refine g_iload_n (i := 2) hc 2 rfl rfl dX2_ruin_54 (pc2 := 55) rfl ?_
              obtain ⟨hg6, hf⟩ := gd_some hf
              obtain ⟨s11, hs11, hf⟩ := nm_ex hf
              refine g_asti hc 4 o rfl (u4 (by omega)) hg6 dX2_ruin_55 (pc2 := 56) rfl ?_
              refine g_nms hs11 ?_
              exact Hj1 _ hf
    refine g_sub [2, 3, 1, 0] rfl ?_
    exact LP_n2 _ _ _ hf
  · have hf := ite_t hf q
    exact g_vret hc hf hr (by decide) (by decide) dX2_ruin_8
def f2_step_l118 (o : Nat) (k3 : Mem → Option Mem) : Nat → Int32 → Mem → Option Mem
  | 0, _, _ => none
  | n1 + 1, m1, s10 => (if (s10 30 o 0) ≤ m1 then k3 s10 else bd (f2_cannotPay o m1 s10) fun r4 s11 => nm (fun (s12 : Mem) => nm (m1 + (1 : Int32)) fun x1 => f2_step_l118 o k3 n1 x1 s12) fun j2 => (if r4 = (0 : Int32) then j2 s11 else bv (f2_ruin o m1 s11) fun s13 => j2 s13))
def f2_step_l80 (o : Nat) (k2 : Mem → Option Mem) : Nat → Int32 → Mem → Option Mem
  | 0, _, _ => none
  | n2 + 1, m2, s14 => (if (s14 30 o 0) ≤ m2 then k2 s14 else gd (ib m2 6) (nm (fun (y1 : Int32) (s15 : Mem) => bv (f5_countWait (6 * o + m2.toNatClampNeg) y1 s15) fun s16 => nm (m2 + (1 : Int32)) fun x2 => f2_step_l80 o k2 n2 x2 s16) fun j3 => (if m2 = (s14 35 o 0) then j3 (1 : Int32) s14 else j3 (0 : Int32) s14)))
def f2_step_l2 (o : Nat) (k1 : Mem → Option Mem) : Nat → Int32 → Mem → Option Mem
  | 0, _, _ => none
  | n3 + 1, m3, s19 => (if (s19 30 o 0) ≤ m3 then k1 s19 else gd (ib m3 6) (bv (f5_lookForWork (6 * o + m3.toNatClampNeg) (s19 32 o 0) s19) fun s20 => nm (m3 + (1 : Int32)) fun x3 => f2_step_l2 o k1 n3 x3 s20))
def f2_step (o : Nat) (s0 : Mem) : Option Mem :=
  nm (fun (s1 : Mem) => bd (f2_ownerNow o s1) fun r1 s2 => bd (f2_takeTurn o r1 s2) fun r2 s3 => nm (ms s3 35 o 0 r2) fun s4 => bd (f2_hasMaster o (s4 35 o 0) s4) fun r3 s5 => nm (fun (s6 : Mem) => nm (fun (s7 : Mem) => nm (fun (s8 : Mem) => nm (ms s8 32 o 0 ((s8 32 o 0) + (1 : Int32))) fun s9 => some s9) fun k3 => f2_step_l118 o k3 FU (0 : Int32) s7) fun k2 => f2_step_l80 o k2 FU (0 : Int32) s6) fun j1 => (if r3 = (0 : Int32) then nm (ms s5 33 o 0 ((s5 33 o 0) + (1 : Int32))) fun s17 => j1 s17 else gd (ib (s5 35 o 0) 6) (bv (f2_work o (6 * o + (s5 35 o 0).toNatClampNeg) s5) fun s18 => j1 s18))) fun k1 => f2_step_l2 o k1 FU (0 : Int32) s0
def rm_2_step : Room := { frames := 3, cells := 0, slots := 0, locals := 70 }
set_option maxHeartbeats 4000000 in
set_option maxRecDepth 100000 in
theorem k2_step {κ : Kx} {τ : Nat → Int64} {o : Nat} {s0 sR : Mem} (h_o : o < 19) (hf : f2_step o s0 = some sR) : CtV κ yX2_step cX2_step 2 none rm_2_step (NV κ τ) (NV κ τ) [.ref (ad κ.1 3 o)] s0 sR := by
  refine ct_V (by decide +kernel) (Nat.le_of_ble_eq_true rfl) (fun φ hc hr => ?_)
  have hc : Cx κ φ RX2 cX2_step 2 rm_2_step := hc
  show G κ φ (QV κ φ (NV κ τ) sR rm_2_step.cells rm_2_step.slots) (NV κ τ) 0 0 s0 [(0, .ref (ad κ.1 3 o))] 0 []
  unfold f2_step at hf
  refine g_iconst (v := (0 : Int32)) hc (by decide) dX2_step_0 (pc2 := 1) rfl ?_
  refine g_istore_n (i := 1) (L1 := [(1, .int (0 : Int32)), (0, .ref (ad κ.1 3 o))]) hc rfl (by decide) rfl dX2_step_1 (pc2 := 2) rfl ?_
  obtain ⟨k1, hk1, hf⟩ := nm_ex hf
  have Hk1 : ∀ (s1 : Mem), k1 s1 = some sR → G κ φ (QV κ φ (NV κ τ) sR rm_2_step.cells rm_2_step.slots) (NV κ τ) 0 0 s1 [(0, .ref (ad κ.1 3 o))] 29 [] := by
    intro s1 hf
    rw [hk1] at hf
    refine g_aload_n (i := 0) hc 0 rfl rfl dX2_step_29 (pc2 := 30) rfl ?_
    refine g_aload_n (i := 0) hc 0 rfl rfl dX2_step_30 (pc2 := 31) rfl ?_
    refine g_aload_n (i := 0) hc 0 rfl rfl dX2_step_31 (pc2 := 32) rfl ?_
    obtain ⟨r1, s2, hp, hf⟩ := bd_some hf
    refine g_vI hc (k2_ownerNow (by omega) hp) co_X2_98 (u3 (by omega)) rfl rfl (by decide) (by decide) (Nat.le_of_ble_eq_true rfl) dX2_step_32 (pc2 := 35) rfl ?_
    obtain ⟨r2, s3, hp, hf⟩ := bd_some hf
    refine g_vI hc (k2_takeTurn (by omega) hp) co_X2_101 (u3 (by omega)) rfl rfl (by decide) (by decide) (Nat.le_of_ble_eq_true rfl) dX2_step_35 (pc2 := 38) rfl ?_
    obtain ⟨s4, hs4, hf⟩ := nm_ex hf
    refine g_puti hc (by decide) fo_X2_54 clO_3 poK_3_5 rfl (u3 (by omega)) rfl rfl dX2_step_38 (pc2 := 41) rfl ?_
    refine g_nms hs4 ?_
    refine g_aload_n (i := 0) hc 0 rfl rfl dX2_step_41 (pc2 := 42) rfl ?_
    refine g_aload_n (i := 0) hc 0 rfl rfl dX2_step_42 (pc2 := 43) rfl ?_
    refine g_geti hc fo_X2_54 (u3 (by omega)) dX2_step_43 (pc2 := 46) rfl ?_
    obtain ⟨r3, s5, hp, hf⟩ := bd_some hf
    refine g_vI hc (k2_hasMaster (by omega) hp) co_X2_63 (u3 (by omega)) rfl rfl (by decide) (by decide) (Nat.le_of_ble_eq_true rfl) dX2_step_46 (pc2 := 49) rfl ?_
    obtain ⟨j1, hj1, hf⟩ := nm_ex hf
    have Hj1 : ∀ (s6 : Mem), j1 s6 = some sR → G κ φ (QV κ φ (NV κ τ) sR rm_2_step.cells rm_2_step.slots) (NV κ τ) 0 0 s6 [(0, .ref (ad κ.1 3 o))] 78 [] := by
      intro s6 hf
      rw [hj1] at hf
      refine g_iconst (v := (0 : Int32)) hc (by decide) dX2_step_78 (pc2 := 79) rfl ?_
      refine g_istore_n (i := 1) (L1 := [(1, .int (0 : Int32)), (0, .ref (ad κ.1 3 o))]) hc rfl (by decide) rfl dX2_step_79 (pc2 := 80) rfl ?_
      obtain ⟨k2, hk2, hf⟩ := nm_ex hf
      have Hk2 : ∀ (s7 : Mem), k2 s7 = some sR → G κ φ (QV κ φ (NV κ τ) sR rm_2_step.cells rm_2_step.slots) (NV κ τ) 0 0 s7 [(0, .ref (ad κ.1 3 o))] 116 [] := by
        intro s7 hf
        rw [hk2] at hf
        refine g_iconst (v := (0 : Int32)) hc (by decide) dX2_step_116 (pc2 := 117) rfl ?_
        refine g_istore_n (i := 1) (L1 := [(1, .int (0 : Int32)), (0, .ref (ad κ.1 3 o))]) hc rfl (by decide) rfl dX2_step_117 (pc2 := 118) rfl ?_
        obtain ⟨k3, hk3, hf⟩ := nm_ex hf
        have Hk3 : ∀ (s8 : Mem), k3 s8 = some sR → G κ φ (QV κ φ (NV κ τ) sR rm_2_step.cells rm_2_step.slots) (NV κ τ) 0 0 s8 [(0, .ref (ad κ.1 3 o))] 145 [] := by
          intro s8 hf
          rw [hk3] at hf
          refine g_aload_n (i := 0) hc 0 rfl rfl dX2_step_145 (pc2 := 146) rfl ?_
          refine g_dup hc rfl dX2_step_146 (pc2 := 147) rfl ?_
          refine g_geti hc fo_X2_45 (u3 (by omega)) dX2_step_147 (pc2 := 150) rfl ?_
          refine g_iconst (v := (1 : Int32)) hc (by decide) dX2_step_150 (pc2 := 151) rfl ?_
          refine g_iadd hc dX2_step_151 (pc2 := 152) rfl ?_
          obtain ⟨s9, hs9, hf⟩ := nm_ex hf
          refine g_puti hc (by decide) fo_X2_45 clO_3 poK_3_2 rfl (u3 (by omega)) rfl rfl dX2_step_152 (pc2 := 155) rfl ?_
          refine g_nms hs9 ?_
          exact g_vret hc hf hr (by decide) (by decide) dX2_step_155
        have LP_n1 : ∀ (n1 : Nat) (m1 : Int32) (s10 : Mem), f2_step_l118 o k3 n1 m1 s10 = some sR → G κ φ (QV κ φ (NV κ τ) sR rm_2_step.cells rm_2_step.slots) (NV κ τ) 0 0 s10 [(0, .ref (ad κ.1 3 o)), (1, .int m1)] 118 [] := by
          intro n1
          induction n1 with
          | zero => intro m1 s10 hf; rw [f2_step_l118] at hf; cases hf
          | succ n1 ih_n1 =>
            intro m1 s10 hf
            rw [f2_step_l118] at hf
            refine g_iload_n (i := 1) hc 1 rfl rfl dX2_step_118 (pc2 := 119) rfl ?_
            refine g_aload_n (i := 0) hc 0 rfl rfl dX2_step_119 (pc2 := 120) rfl ?_
            refine g_geti hc fo_X2_38 (u3 (by omega)) dX2_step_120 (pc2 := 123) rfl ?_
            refine g_icmp_ge hc 145 (by decide) dX2_step_123 (pc2 := 126) rfl (fun q => ?_) (fun q => ?_)
            · have hf := ite_t hf q
              refine g_sub [0] rfl ?_
              exact Hk3 _ hf
            · have hf := ite_f hf q
              refine g_aload_n (i := 0) hc 0 rfl rfl dX2_step_126 (pc2 := 127) rfl ?_
              refine g_iload_n (i := 1) hc 1 rfl rfl dX2_step_127 (pc2 := 128) rfl ?_
              obtain ⟨r4, s11, hp, hf⟩ := bd_some hf
              refine g_vI hc (k2_cannotPay (by omega) hp) co_X2_112 (u3 (by omega)) rfl rfl (by decide) (by decide) (Nat.le_of_ble_eq_true rfl) dX2_step_128 (pc2 := 131) rfl ?_
              obtain ⟨j2, hj2, hf⟩ := nm_ex hf
              have Hj2 : ∀ (s12 : Mem), j2 s12 = some sR → G κ φ (QV κ φ (NV κ τ) sR rm_2_step.cells rm_2_step.slots) (NV κ τ) 0 0 s12 [(0, .ref (ad κ.1 3 o)), (1, .int m1)] 139 [] := by
                intro s12 hf
                rw [hj2] at hf
                obtain ⟨x1, hx1, hf⟩ := nm_ex hf
                refine g_iinc (v := x1) (L1 := [(1, .int x1), (0, .ref (ad κ.1 3 o))]) hc 1 rfl (by rw [hx1]; rfl) (by decide) rfl dX2_step_139 (pc2 := 142) rfl ?_
                refine g_goto hc 118 (by decide) dX2_step_142 ?_
                refine g_sub [1, 0] rfl ?_
                exact ih_n1 _ _ hf
              refine g_if_eq hc 139 (by decide) dX2_step_131 (pc2 := 134) rfl (fun q => ?_) (fun q => ?_)
              · have hf := ite_t hf q
                exact Hj2 _ hf
              · have hf := ite_f hf q
                refine g_aload_n (i := 0) hc 0 rfl rfl dX2_step_134 (pc2 := 135) rfl ?_
                refine g_iload_n (i := 1) hc 1 rfl rfl dX2_step_135 (pc2 := 136) rfl ?_
                obtain ⟨s13, hp, hf⟩ := bv_some hf
                refine g_vV hc (k2_ruin (by omega) hp) co_X2_115 (u3 (by omega)) rfl rfl (by decide) (by decide) (Nat.le_of_ble_eq_true rfl) dX2_step_136 (pc2 := 139) rfl ?_
                exact Hj2 _ hf
        refine g_sub [1, 0] rfl ?_
        exact LP_n1 _ _ _ hf
      have LP_n2 : ∀ (n2 : Nat) (m2 : Int32) (s14 : Mem), f2_step_l80 o k2 n2 m2 s14 = some sR → G κ φ (QV κ φ (NV κ τ) sR rm_2_step.cells rm_2_step.slots) (NV κ τ) 0 0 s14 [(0, .ref (ad κ.1 3 o)), (1, .int m2)] 80 [] := by
        intro n2
        induction n2 with
        | zero => intro m2 s14 hf; rw [f2_step_l80] at hf; cases hf
        | succ n2 ih_n2 =>
          intro m2 s14 hf
          rw [f2_step_l80] at hf
          refine g_iload_n (i := 1) hc 1 rfl rfl dX2_step_80 (pc2 := 81) rfl ?_
          refine g_aload_n (i := 0) hc 0 rfl rfl dX2_step_81 (pc2 := 82) rfl ?_
          refine g_geti hc fo_X2_38 (u3 (by omega)) dX2_step_82 (pc2 := 85) rfl ?_
          refine g_icmp_ge hc 116 (by decide) dX2_step_85 (pc2 := 88) rfl (fun q => ?_) (fun q => ?_)
          · have hf := ite_t hf q
            refine g_sub [0] rfl ?_
            exact Hk2 _ hf
          · have hf := ite_f hf q
            refine g_aload_n (i := 0) hc 0 rfl rfl dX2_step_88 (pc2 := 89) rfl ?_
            refine g_getr (q := ad κ.1 6 o) hc fo_X2_20 (u3 (by omega)) rfl dX2_step_89 (pc2 := 92) rfl ?_
            refine g_iload_n (i := 1) hc 1 rfl rfl dX2_step_92 (pc2 := 93) rfl ?_
            obtain ⟨hg1, hf⟩ := gd_some hf
            have ihg1 := ib_lt hg1
            refine g_aldr (q := ad κ.1 7 (6 * o + m2.toNatClampNeg)) hc 6 o (by decide) (by decide) (u6 (by omega)) hg1 rfl dX2_step_93 (pc2 := 94) rfl ?_
            refine g_iload_n (i := 1) hc 1 rfl rfl dX2_step_94 (pc2 := 95) rfl ?_
            refine g_aload_n (i := 0) hc 0 rfl rfl dX2_step_95 (pc2 := 96) rfl ?_
            refine g_geti hc fo_X2_54 (u3 (by omega)) dX2_step_96 (pc2 := 99) rfl ?_
            obtain ⟨j3, hj3, hf⟩ := nm_ex hf
            have Hj3 : ∀ (y1 : Int32) (s15 : Mem), j3 y1 s15 = some sR → G κ φ (QV κ φ (NV κ τ) sR rm_2_step.cells rm_2_step.slots) (NV κ τ) 0 0 s15 [(0, .ref (ad κ.1 3 o)), (1, .int m2)] 107 [.int y1, .ref (ad κ.1 7 (6 * o + m2.toNatClampNeg))] := by
              intro y1 s15 hf
              rw [hj3] at hf
              obtain ⟨s16, hp, hf⟩ := bv_some hf
              refine g_vV hc (k5_countWait (by omega) hp) co_X2_108 (u7 (by omega)) rfl rfl (by decide) (by decide) (Nat.le_of_ble_eq_true rfl) dX2_step_107 (pc2 := 110) rfl ?_
              obtain ⟨x2, hx2, hf⟩ := nm_ex hf
              refine g_iinc (v := x2) (L1 := [(1, .int x2), (0, .ref (ad κ.1 3 o))]) hc 1 rfl (by rw [hx2]; rfl) (by decide) rfl dX2_step_110 (pc2 := 113) rfl ?_
              refine g_goto hc 80 (by decide) dX2_step_113 ?_
              refine g_sub [1, 0] rfl ?_
              exact ih_n2 _ _ hf
            refine g_icmp_ne hc 106 (by decide) dX2_step_99 (pc2 := 102) rfl (fun q => ?_) (fun q => ?_)
            · have hf := ite_f hf q
              refine g_iconst (v := (0 : Int32)) hc (by decide) dX2_step_106 (pc2 := 107) rfl ?_
              exact Hj3 _ _ hf
            · have hf := ite_t hf q
              refine g_iconst (v := (1 : Int32)) hc (by decide) dX2_step_102 (pc2 := 103) rfl ?_
              refine g_goto hc 107 (by decide) dX2_step_103 ?_
              exact Hj3 _ _ hf
      refine g_sub [1, 0] rfl ?_
      exact LP_n2 _ _ _ hf
    refine g_if_eq hc 68 (by decide) dX2_step_49 (pc2 := 52) rfl (fun q => ?_) (fun q => ?_)
    · have hf := ite_t hf q
      refine g_aload_n (i := 0) hc 0 rfl rfl dX2_step_68 (pc2 := 69) rfl ?_
      refine g_dup hc rfl dX2_step_69 (pc2 := 70) rfl ?_
      refine g_geti hc fo_X2_48 (u3 (by omega)) dX2_step_70 (pc2 := 73) rfl ?_
      refine g_iconst (v := (1 : Int32)) hc (by decide) dX2_step_73 (pc2 := 74) rfl ?_
      refine g_iadd hc dX2_step_74 (pc2 := 75) rfl ?_
      obtain ⟨s17, hs17, hf⟩ := nm_ex hf
      refine g_puti hc (by decide) fo_X2_48 clO_3 poK_3_3 rfl (u3 (by omega)) rfl rfl dX2_step_75 (pc2 := 78) rfl ?_
      refine g_nms hs17 ?_
      exact Hj1 _ hf
    · have hf := ite_f hf q
      refine g_aload_n (i := 0) hc 0 rfl rfl dX2_step_52 (pc2 := 53) rfl ?_
      refine g_aload_n (i := 0) hc 0 rfl rfl dX2_step_53 (pc2 := 54) rfl ?_
      refine g_getr (q := ad κ.1 6 o) hc fo_X2_20 (u3 (by omega)) rfl dX2_step_54 (pc2 := 57) rfl ?_
      refine g_aload_n (i := 0) hc 0 rfl rfl dX2_step_57 (pc2 := 58) rfl ?_
      refine g_geti hc fo_X2_54 (u3 (by omega)) dX2_step_58 (pc2 := 61) rfl ?_
      obtain ⟨hg2, hf⟩ := gd_some hf
      have ihg2 := ib_lt hg2
      refine g_aldr (q := ad κ.1 7 (6 * o + (s5 35 o 0).toNatClampNeg)) hc 6 o (by decide) (by decide) (u6 (by omega)) hg2 rfl dX2_step_61 (pc2 := 62) rfl ?_
      obtain ⟨s18, hp, hf⟩ := bv_some hf
      refine g_vV hc (k2_work (by omega) (by omega) hp) co_X2_105 (u3 (by omega)) rfl rfl (by decide) (by decide) (Nat.le_of_ble_eq_true rfl) dX2_step_62 (pc2 := 65) rfl ?_
      refine g_goto hc 78 (by decide) dX2_step_65 ?_
      exact Hj1 _ hf
  have LP_n3 : ∀ (n3 : Nat) (m3 : Int32) (s19 : Mem), f2_step_l2 o k1 n3 m3 s19 = some sR → G κ φ (QV κ φ (NV κ τ) sR rm_2_step.cells rm_2_step.slots) (NV κ τ) 0 0 s19 [(0, .ref (ad κ.1 3 o)), (1, .int m3)] 2 [] := by
    intro n3
    induction n3 with
    | zero => intro m3 s19 hf; rw [f2_step_l2] at hf; cases hf
    | succ n3 ih_n3 =>
      intro m3 s19 hf
      rw [f2_step_l2] at hf
      refine g_iload_n (i := 1) hc 1 rfl rfl dX2_step_2 (pc2 := 3) rfl ?_
      refine g_aload_n (i := 0) hc 0 rfl rfl dX2_step_3 (pc2 := 4) rfl ?_
      refine g_geti hc fo_X2_38 (u3 (by omega)) dX2_step_4 (pc2 := 7) rfl ?_
      refine g_icmp_ge hc 29 (by decide) dX2_step_7 (pc2 := 10) rfl (fun q => ?_) (fun q => ?_)
      · have hf := ite_t hf q
        refine g_sub [0] rfl ?_
        exact Hk1 _ hf
      · have hf := ite_f hf q
        refine g_aload_n (i := 0) hc 0 rfl rfl dX2_step_10 (pc2 := 11) rfl ?_
        refine g_getr (q := ad κ.1 6 o) hc fo_X2_20 (u3 (by omega)) rfl dX2_step_11 (pc2 := 14) rfl ?_
        refine g_iload_n (i := 1) hc 1 rfl rfl dX2_step_14 (pc2 := 15) rfl ?_
        obtain ⟨hg3, hf⟩ := gd_some hf
        have ihg3 := ib_lt hg3
        refine g_aldr (q := ad κ.1 7 (6 * o + m3.toNatClampNeg)) hc 6 o (by decide) (by decide) (u6 (by omega)) hg3 rfl dX2_step_15 (pc2 := 16) rfl ?_
        refine g_aload_n (i := 0) hc 0 rfl rfl dX2_step_16 (pc2 := 17) rfl ?_
        refine g_geti hc fo_X2_45 (u3 (by omega)) dX2_step_17 (pc2 := 20) rfl ?_
        obtain ⟨s20, hp, hf⟩ := bv_some hf
        refine g_vV hc (k5_lookForWork (by omega) hp) co_X2_94 (u7 (by omega)) rfl rfl (by decide) (by decide) (Nat.le_of_ble_eq_true rfl) dX2_step_20 (pc2 := 23) rfl ?_
        obtain ⟨x3, hx3, hf⟩ := nm_ex hf
        refine g_iinc (v := x3) (L1 := [(1, .int x3), (0, .ref (ad κ.1 3 o))]) hc 1 rfl (by rw [hx3]; rfl) (by decide) rfl dX2_step_23 (pc2 := 26) rfl ?_
        refine g_goto hc 2 (by decide) dX2_step_26 ?_
        refine g_sub [1, 0] rfl ?_
        exact ih_n3 _ _ hf
  refine g_sub [1, 0] rfl ?_
  exact LP_n3 _ _ _ hf
def f2_stepTimes_l2 (o : Nat) (a1 : Int32) (k1 : Mem → Option Mem) : Nat → Int32 → Mem → Option Mem
  | 0, _, _ => none
  | n1 + 1, m1, s2 => (if a1 ≤ m1 then k1 s2 else bv (f2_step o s2) fun s3 => nm (m1 + (1 : Int32)) fun x1 => f2_stepTimes_l2 o a1 k1 n1 x1 s3)
def f2_stepTimes (o : Nat) (a1 : Int32) (s0 : Mem) : Option Mem :=
  nm (fun (s1 : Mem) => some s1) fun k1 => f2_stepTimes_l2 o a1 k1 FU (0 : Int32) s0
def rm_2_stepTimes : Room := { frames := 4, cells := 0, slots := 0, locals := 91 }
set_option maxHeartbeats 4000000 in
set_option maxRecDepth 100000 in
theorem k2_stepTimes {κ : Kx} {τ : Nat → Int64} {o : Nat} {a1 : Int32} {s0 sR : Mem} (h_o : o < 19) (hf : f2_stepTimes o a1 s0 = some sR) : CtV κ yX2_stepTimes cX2_stepTimes 3 none rm_2_stepTimes (NV κ τ) (NV κ τ) [.ref (ad κ.1 3 o), .int a1] s0 sR := by
  refine ct_V (by decide +kernel) (Nat.le_of_ble_eq_true rfl) (fun φ hc hr => ?_)
  have hc : Cx κ φ RX2 cX2_stepTimes 3 rm_2_stepTimes := hc
  show G κ φ (QV κ φ (NV κ τ) sR rm_2_stepTimes.cells rm_2_stepTimes.slots) (NV κ τ) 0 0 s0 [(0, .ref (ad κ.1 3 o)), (1, .int a1)] 0 []
  unfold f2_stepTimes at hf
  refine g_iconst (v := (0 : Int32)) hc (by decide) dX2_stepTimes_0 (pc2 := 1) rfl ?_
  refine g_istore_n (i := 2) (L1 := [(2, .int (0 : Int32)), (0, .ref (ad κ.1 3 o)), (1, .int a1)]) hc rfl (by decide) rfl dX2_stepTimes_1 (pc2 := 2) rfl ?_
  obtain ⟨k1, hk1, hf⟩ := nm_ex hf
  have Hk1 : ∀ (s1 : Mem), k1 s1 = some sR → G κ φ (QV κ φ (NV κ τ) sR rm_2_stepTimes.cells rm_2_stepTimes.slots) (NV κ τ) 0 0 s1 [] 17 [] := by
    intro s1 hf
    rw [hk1] at hf
    exact g_vret hc hf hr (by decide) (by decide) dX2_stepTimes_17
  have LP_n1 : ∀ (n1 : Nat) (m1 : Int32) (s2 : Mem), f2_stepTimes_l2 o a1 k1 n1 m1 s2 = some sR → G κ φ (QV κ φ (NV κ τ) sR rm_2_stepTimes.cells rm_2_stepTimes.slots) (NV κ τ) 0 0 s2 [(0, .ref (ad κ.1 3 o)), (1, .int a1), (2, .int m1)] 2 [] := by
    intro n1
    induction n1 with
    | zero => intro m1 s2 hf; rw [f2_stepTimes_l2] at hf; cases hf
    | succ n1 ih_n1 =>
      intro m1 s2 hf
      rw [f2_stepTimes_l2] at hf
      refine g_iload_n (i := 2) hc 2 rfl rfl dX2_stepTimes_2 (pc2 := 3) rfl ?_
      refine g_iload_n (i := 1) hc 1 rfl rfl dX2_stepTimes_3 (pc2 := 4) rfl ?_
      refine g_icmp_ge hc 17 (by decide) dX2_stepTimes_4 (pc2 := 7) rfl (fun q => ?_) (fun q => ?_)
      · have hf := ite_t hf q
        refine g_sub [] rfl ?_
        exact Hk1 _ hf
      · have hf := ite_f hf q
        refine g_aload_n (i := 0) hc 0 rfl rfl dX2_stepTimes_7 (pc2 := 8) rfl ?_
        obtain ⟨s3, hp, hf⟩ := bv_some hf
        refine g_vV hc (k2_step (by omega) hp) co_X2_118 (u3 (by omega)) rfl rfl (by decide) (by decide) (Nat.le_of_ble_eq_true rfl) dX2_stepTimes_8 (pc2 := 11) rfl ?_
        obtain ⟨x1, hx1, hf⟩ := nm_ex hf
        refine g_iinc (v := x1) (L1 := [(2, .int x1), (0, .ref (ad κ.1 3 o)), (1, .int a1)]) hc 2 rfl (by rw [hx1]; rfl) (by decide) rfl dX2_stepTimes_11 (pc2 := 14) rfl ?_
        refine g_goto hc 2 (by decide) dX2_stepTimes_14 ?_
        refine g_sub [1, 2, 0] rfl ?_
        exact ih_n1 _ _ hf
  refine g_sub [1, 2, 0] rfl ?_
  exact LP_n1 _ _ _ hf
def f2_areDone_l2 (o : Nat) (a2 : Int32) (k1 : Mem → Option (Int32 × Mem)) : Nat → Int32 → Mem → Option (Int32 × Mem)
  | 0, _, _ => none
  | n1 + 1, m1, s2 => (if a2 < m1 then k1 s2 else bd (f2_hasMaster o m1 s2) fun r1 s3 => nm (fun (s4 : Mem) => nm (m1 + (1 : Int32)) fun x1 => f2_areDone_l2 o a2 k1 n1 x1 s4) fun j1 => (if r1 = (0 : Int32) then j1 s3 else gd (ib m1 6) (bd (f5_isDone (6 * o + m1.toNatClampNeg) s3) fun r2 s5 => (if r2 = (0 : Int32) then some ((0 : Int32), s5) else j1 s5))))
def f2_areDone (o : Nat) (a1 : Int32) (a2 : Int32) (s0 : Mem) : Option (Int32 × Mem) :=
  nm (fun (s1 : Mem) => some ((1 : Int32), s1)) fun k1 => f2_areDone_l2 o a2 k1 FU a1 s0
def rm_2_areDone : Room := { frames := 1, cells := 0, slots := 0, locals := 21 }
set_option maxHeartbeats 4000000 in
set_option maxRecDepth 100000 in
theorem k2_areDone {κ : Kx} {τ : Nat → Int64} {o : Nat} {a1 : Int32} {a2 : Int32} {s0 sR : Mem} {rR : Int32} (h_o : o < 19) (hf : f2_areDone o a1 a2 s0 = some (rR, sR)) : CtI κ yX2_areDone cX2_areDone 4 (some .boolean) rm_2_areDone (NV κ τ) (NV κ τ) [.ref (ad κ.1 3 o), .int a1, .int a2] s0 sR rR := by
  refine ct_I (by decide +kernel) (Nat.le_of_ble_eq_true rfl) (fun φ hc hr => ?_)
  have hc : Cx κ φ RX2 cX2_areDone 4 rm_2_areDone := hc
  show G κ φ (QI κ φ (NV κ τ) sR rR rm_2_areDone.cells rm_2_areDone.slots) (NV κ τ) 0 0 s0 [(0, .ref (ad κ.1 3 o)), (1, .int a1), (2, .int a2)] 0 []
  unfold f2_areDone at hf
  refine g_iload_n (i := 1) hc 1 rfl rfl dX2_areDone_0 (pc2 := 1) rfl ?_
  refine g_istore_n (i := 3) (L1 := [(3, .int a1), (0, .ref (ad κ.1 3 o)), (1, .int a1), (2, .int a2)]) hc rfl (by decide) rfl dX2_areDone_1 (pc2 := 2) rfl ?_
  obtain ⟨k1, hk1, hf⟩ := nm_ex hf
  have Hk1 : ∀ (s1 : Mem), k1 s1 = some (rR, sR) → G κ φ (QI κ φ (NV κ τ) sR rR rm_2_areDone.cells rm_2_areDone.slots) (NV κ τ) 0 0 s1 [] 35 [] := by
    intro s1 hf
    rw [hk1] at hf
    refine g_iconst (v := (1 : Int32)) hc (by decide) dX2_areDone_35 (pc2 := 36) rfl ?_
    exact g_iret hc hf hr rfl (by decide) (by decide) dX2_areDone_36
  have LP_n1 : ∀ (n1 : Nat) (m1 : Int32) (s2 : Mem), f2_areDone_l2 o a2 k1 n1 m1 s2 = some (rR, sR) → G κ φ (QI κ φ (NV κ τ) sR rR rm_2_areDone.cells rm_2_areDone.slots) (NV κ τ) 0 0 s2 [(0, .ref (ad κ.1 3 o)), (2, .int a2), (3, .int m1)] 2 [] := by
    intro n1
    induction n1 with
    | zero => intro m1 s2 hf; rw [f2_areDone_l2] at hf; cases hf
    | succ n1 ih_n1 =>
      intro m1 s2 hf
      rw [f2_areDone_l2] at hf
      refine g_iload_n (i := 3) hc 2 rfl rfl dX2_areDone_2 (pc2 := 3) rfl ?_
      refine g_iload_n (i := 2) hc 1 rfl rfl dX2_areDone_3 (pc2 := 4) rfl ?_
      refine g_icmp_gt hc 35 (by decide) dX2_areDone_4 (pc2 := 7) rfl (fun q => ?_) (fun q => ?_)
      · have hf := ite_t hf q
        refine g_sub [] rfl ?_
        exact Hk1 _ hf
      · have hf := ite_f hf q
        refine g_aload_n (i := 0) hc 0 rfl rfl dX2_areDone_7 (pc2 := 8) rfl ?_
        refine g_iload_n (i := 3) hc 2 rfl rfl dX2_areDone_8 (pc2 := 9) rfl ?_
        obtain ⟨r1, s3, hp, hf⟩ := bd_some hf
        refine g_vI hc (k2_hasMaster (by omega) hp) co_X2_63 (u3 (by omega)) rfl rfl (by decide) (by decide) (Nat.le_of_ble_eq_true rfl) dX2_areDone_9 (pc2 := 12) rfl ?_
        obtain ⟨j1, hj1, hf⟩ := nm_ex hf
        have Hj1 : ∀ (s4 : Mem), j1 s4 = some (rR, sR) → G κ φ (QI κ φ (NV κ τ) sR rR rm_2_areDone.cells rm_2_areDone.slots) (NV κ τ) 0 0 s4 [(0, .ref (ad κ.1 3 o)), (2, .int a2), (3, .int m1)] 29 [] := by
          intro s4 hf
          rw [hj1] at hf
          obtain ⟨x1, hx1, hf⟩ := nm_ex hf
          refine g_iinc (v := x1) (L1 := [(3, .int x1), (0, .ref (ad κ.1 3 o)), (2, .int a2)]) hc 2 rfl (by rw [hx1]; rfl) (by decide) rfl dX2_areDone_29 (pc2 := 32) rfl ?_
          refine g_goto hc 2 (by decide) dX2_areDone_32 ?_
          refine g_sub [1, 2, 0] rfl ?_
          exact ih_n1 _ _ hf
        refine g_if_eq hc 29 (by decide) dX2_areDone_12 (pc2 := 15) rfl (fun q => ?_) (fun q => ?_)
        · have hf := ite_t hf q
          exact Hj1 _ hf
        · have hf := ite_f hf q
          refine g_aload_n (i := 0) hc 0 rfl rfl dX2_areDone_15 (pc2 := 16) rfl ?_
          refine g_getr (q := ad κ.1 6 o) hc fo_X2_20 (u3 (by omega)) rfl dX2_areDone_16 (pc2 := 19) rfl ?_
          refine g_iload_n (i := 3) hc 2 rfl rfl dX2_areDone_19 (pc2 := 20) rfl ?_
          obtain ⟨hg1, hf⟩ := gd_some hf
          have ihg1 := ib_lt hg1
          refine g_aldr (q := ad κ.1 7 (6 * o + m1.toNatClampNeg)) hc 6 o (by decide) (by decide) (u6 (by omega)) hg1 rfl dX2_areDone_20 (pc2 := 21) rfl ?_
          obtain ⟨r2, s5, hp, hf⟩ := bd_some hf
          refine g_vI hc (k5_isDone (by omega) hp) co_X2_125 (u7 (by omega)) rfl rfl (by decide) (by decide) (Nat.le_of_ble_eq_true rfl) dX2_areDone_21 (pc2 := 24) rfl ?_
          refine g_if_ne hc 29 (by decide) dX2_areDone_24 (pc2 := 27) rfl (fun q => ?_) (fun q => ?_)
          · have hf := ite_f hf q
            exact Hj1 _ hf
          · have hf := ite_t hf q
            refine g_iconst (v := (0 : Int32)) hc (by decide) dX2_areDone_27 (pc2 := 28) rfl ?_
            exact g_iret hc hf hr rfl (by decide) (by decide) dX2_areDone_28
  refine g_sub [1, 3, 0] rfl ?_
  exact LP_n1 _ _ _ hf
def f2_stepsTillDone_l17 (o : Nat) (a1 : Int32) (a2 : Int32) (a3 : Int32) (x1 : Int32) (k1 : Mem → Option (Int32 × Mem)) : Nat → Int32 → Int32 → Mem → Option (Int32 × Mem)
  | 0, _, _, _ => none
  | n1 + 1, m1, m2, s2 => (if a3 < m2 then k1 s2 else (if x1 ≤ m1 then k1 s2 else bd (f2_areDone o a1 a2 s2) fun r1 s3 => (if r1 = (0 : Int32) then bv (f2_step o s3) fun s4 => nm (fun (y1 : Int32) (s5 : Mem) => nm (m2 + (1 : Int32)) fun x2 => f2_stepsTillDone_l17 o a1 a2 a3 x1 k1 n1 y1 x2 s5) fun j1 => (if (s4 35 o 0) = (-9 : Int32) then j1 (m1 + (1 : Int32)) s4 else j1 (0 : Int32) s4) else some (m2, s3))))
def f2_stepsTillDone (o : Nat) (a1 : Int32) (a2 : Int32) (a3 : Int32) (s0 : Mem) : Option (Int32 × Mem) :=
  nm (((s0 31 o 0) + (9 : Int32)) + (2 : Int32)) fun x1 => nm (fun (s1 : Mem) => some (a3 + (1 : Int32), s1)) fun k1 => f2_stepsTillDone_l17 o a1 a2 a3 x1 k1 FU (0 : Int32) (0 : Int32) s0
def rm_2_stepsTillDone : Room := { frames := 4, cells := 0, slots := 0, locals := 91 }
set_option maxHeartbeats 4000000 in
set_option maxRecDepth 100000 in
theorem k2_stepsTillDone {κ : Kx} {τ : Nat → Int64} {o : Nat} {a1 : Int32} {a2 : Int32} {a3 : Int32} {s0 sR : Mem} {rR : Int32} (h_o : o < 19) (hf : f2_stepsTillDone o a1 a2 a3 s0 = some (rR, sR)) : CtI κ yX2_stepsTillDone cX2_stepsTillDone 7 (some .int) rm_2_stepsTillDone (NV κ τ) (NV κ τ) [.ref (ad κ.1 3 o), .int a1, .int a2, .int a3] s0 sR rR := by
  refine ct_I (by decide +kernel) (Nat.le_of_ble_eq_true rfl) (fun φ hc hr => ?_)
  have hc : Cx κ φ RX2 cX2_stepsTillDone 7 rm_2_stepsTillDone := hc
  show G κ φ (QI κ φ (NV κ τ) sR rR rm_2_stepsTillDone.cells rm_2_stepsTillDone.slots) (NV κ τ) 0 0 s0 [(0, .ref (ad κ.1 3 o)), (1, .int a1), (2, .int a2), (3, .int a3)] 0 []
  unfold f2_stepsTillDone at hf
  refine g_aload_n (i := 0) hc 0 rfl rfl dX2_stepsTillDone_0 (pc2 := 1) rfl ?_
  refine g_geti hc fo_X2_42 (u3 (by omega)) dX2_stepsTillDone_1 (pc2 := 4) rfl ?_
  refine g_bipush (v := (9 : Int32)) hc (by decide) dX2_stepsTillDone_4 (pc2 := 6) rfl ?_
  refine g_iadd hc dX2_stepsTillDone_6 (pc2 := 7) rfl ?_
  refine g_iconst (v := (2 : Int32)) hc (by decide) dX2_stepsTillDone_7 (pc2 := 8) rfl ?_
  refine g_iadd hc dX2_stepsTillDone_8 (pc2 := 9) rfl ?_
  obtain ⟨x1, hx1, hf⟩ := nm_ex hf
  refine g_nmi hx1 ?_
  refine g_istore (L1 := [(4, .int x1), (0, .ref (ad κ.1 3 o)), (1, .int a1), (2, .int a2), (3, .int a3)]) hc (by decide) rfl dX2_stepsTillDone_9 (pc2 := 11) rfl ?_
  refine g_iconst (v := (0 : Int32)) hc (by decide) dX2_stepsTillDone_11 (pc2 := 12) rfl ?_
  refine g_istore (L1 := [(5, .int (0 : Int32)), (4, .int x1), (0, .ref (ad κ.1 3 o)), (1, .int a1), (2, .int a2), (3, .int a3)]) hc (by decide) rfl dX2_stepsTillDone_12 (pc2 := 14) rfl ?_
  refine g_iconst (v := (0 : Int32)) hc (by decide) dX2_stepsTillDone_14 (pc2 := 15) rfl ?_
  refine g_istore (L1 := [(6, .int (0 : Int32)), (5, .int (0 : Int32)), (4, .int x1), (0, .ref (ad κ.1 3 o)), (1, .int a1), (2, .int a2), (3, .int a3)]) hc (by decide) rfl dX2_stepsTillDone_15 (pc2 := 17) rfl ?_
  obtain ⟨k1, hk1, hf⟩ := nm_ex hf
  have Hk1 : ∀ (s1 : Mem), k1 s1 = some (rR, sR) → G κ φ (QI κ φ (NV κ τ) sR rR rm_2_stepsTillDone.cells rm_2_stepsTillDone.slots) (NV κ τ) 0 0 s1 [(3, .int a3)] 71 [] := by
    intro s1 hf
    rw [hk1] at hf
    refine g_iload_n (i := 3) hc 0 rfl rfl dX2_stepsTillDone_71 (pc2 := 72) rfl ?_
    refine g_iconst (v := (1 : Int32)) hc (by decide) dX2_stepsTillDone_72 (pc2 := 73) rfl ?_
    refine g_iadd hc dX2_stepsTillDone_73 (pc2 := 74) rfl ?_
    exact g_iret hc hf hr rfl (by decide) (by decide) dX2_stepsTillDone_74
  have LP_n1 : ∀ (n1 : Nat) (m1 : Int32) (m2 : Int32) (s2 : Mem), f2_stepsTillDone_l17 o a1 a2 a3 x1 k1 n1 m1 m2 s2 = some (rR, sR) → G κ φ (QI κ φ (NV κ τ) sR rR rm_2_stepsTillDone.cells rm_2_stepsTillDone.slots) (NV κ τ) 0 0 s2 [(0, .ref (ad κ.1 3 o)), (1, .int a1), (2, .int a2), (3, .int a3), (4, .int x1), (5, .int m1), (6, .int m2)] 17 [] := by
    intro n1
    induction n1 with
    | zero => intro m1 m2 s2 hf; rw [f2_stepsTillDone_l17] at hf; cases hf
    | succ n1 ih_n1 =>
      intro m1 m2 s2 hf
      rw [f2_stepsTillDone_l17] at hf
      refine g_iload hc 6 rfl dX2_stepsTillDone_17 (pc2 := 19) rfl ?_
      refine g_iload_n (i := 3) hc 3 rfl rfl dX2_stepsTillDone_19 (pc2 := 20) rfl ?_
      refine g_icmp_gt hc 71 (by decide) dX2_stepsTillDone_20 (pc2 := 23) rfl (fun q => ?_) (fun q => ?_)
      · have hf := ite_t hf q
        refine g_sub [3] rfl ?_
        exact Hk1 _ hf
      · have hf := ite_f hf q
        refine g_iload hc 5 rfl dX2_stepsTillDone_23 (pc2 := 25) rfl ?_
        refine g_iload hc 4 rfl dX2_stepsTillDone_25 (pc2 := 27) rfl ?_
        refine g_icmp_ge hc 71 (by decide) dX2_stepsTillDone_27 (pc2 := 30) rfl (fun q => ?_) (fun q => ?_)
        · have hf := ite_t hf q
          refine g_sub [3] rfl ?_
          exact Hk1 _ hf
        · have hf := ite_f hf q
          refine g_aload_n (i := 0) hc 0 rfl rfl dX2_stepsTillDone_30 (pc2 := 31) rfl ?_
          refine g_iload_n (i := 1) hc 1 rfl rfl dX2_stepsTillDone_31 (pc2 := 32) rfl ?_
          refine g_iload_n (i := 2) hc 2 rfl rfl dX2_stepsTillDone_32 (pc2 := 33) rfl ?_
          obtain ⟨r1, s3, hp, hf⟩ := bd_some hf
          refine g_vI hc (k2_areDone (by omega) hp) co_X2_121 (u3 (by omega)) rfl rfl (by decide) (by decide) (Nat.le_of_ble_eq_true rfl) dX2_stepsTillDone_33 (pc2 := 36) rfl ?_
          refine g_if_eq hc 42 (by decide) dX2_stepsTillDone_36 (pc2 := 39) rfl (fun q => ?_) (fun q => ?_)
          · have hf := ite_t hf q
            refine g_aload_n (i := 0) hc 0 rfl rfl dX2_stepsTillDone_42 (pc2 := 43) rfl ?_
            obtain ⟨s4, hp, hf⟩ := bv_some hf
            refine g_vV hc (k2_step (by omega) hp) co_X2_118 (u3 (by omega)) rfl rfl (by decide) (by decide) (Nat.le_of_ble_eq_true rfl) dX2_stepsTillDone_43 (pc2 := 46) rfl ?_
            refine g_aload_n (i := 0) hc 0 rfl rfl dX2_stepsTillDone_46 (pc2 := 47) rfl ?_
            refine g_geti hc fo_X2_54 (u3 (by omega)) dX2_stepsTillDone_47 (pc2 := 50) rfl ?_
            refine g_bipush (v := (-9 : Int32)) hc (by decide) dX2_stepsTillDone_50 (pc2 := 52) rfl ?_
            obtain ⟨j1, hj1, hf⟩ := nm_ex hf
            have Hj1 : ∀ (y1 : Int32) (s5 : Mem), j1 y1 s5 = some (rR, sR) → G κ φ (QI κ φ (NV κ τ) sR rR rm_2_stepsTillDone.cells rm_2_stepsTillDone.slots) (NV κ τ) 0 0 s5 [(0, .ref (ad κ.1 3 o)), (1, .int a1), (2, .int a2), (3, .int a3), (4, .int x1), (6, .int m2)] 63 [.int y1] := by
              intro y1 s5 hf
              rw [hj1] at hf
              refine g_istore (L1 := [(5, .int y1), (0, .ref (ad κ.1 3 o)), (1, .int a1), (2, .int a2), (3, .int a3), (4, .int x1), (6, .int m2)]) hc (by decide) rfl dX2_stepsTillDone_63 (pc2 := 65) rfl ?_
              obtain ⟨x2, hx2, hf⟩ := nm_ex hf
              refine g_iinc (v := x2) (L1 := [(6, .int x2), (5, .int y1), (0, .ref (ad κ.1 3 o)), (1, .int a1), (2, .int a2), (3, .int a3), (4, .int x1)]) hc 6 rfl (by rw [hx2]; rfl) (by decide) rfl dX2_stepsTillDone_65 (pc2 := 68) rfl ?_
              refine g_goto hc 17 (by decide) dX2_stepsTillDone_68 ?_
              refine g_sub [2, 3, 4, 5, 6, 1, 0] rfl ?_
              exact ih_n1 _ _ _ hf
            refine g_icmp_ne hc 62 (by decide) dX2_stepsTillDone_52 (pc2 := 55) rfl (fun q => ?_) (fun q => ?_)
            · have hf := ite_f hf q
              refine g_iconst (v := (0 : Int32)) hc (by decide) dX2_stepsTillDone_62 (pc2 := 63) rfl ?_
              refine g_sub [0, 1, 2, 3, 4, 6] rfl ?_
              exact Hj1 _ _ hf
            · have hf := ite_t hf q
              refine g_iload hc 5 rfl dX2_stepsTillDone_55 (pc2 := 57) rfl ?_
              refine g_iconst (v := (1 : Int32)) hc (by decide) dX2_stepsTillDone_57 (pc2 := 58) rfl ?_
              refine g_iadd hc dX2_stepsTillDone_58 (pc2 := 59) rfl ?_
              refine g_goto hc 63 (by decide) dX2_stepsTillDone_59 ?_
              refine g_sub [0, 1, 2, 3, 4, 6] rfl ?_
              exact Hj1 _ _ hf
          · have hf := ite_f hf q
            refine g_iload hc 6 rfl dX2_stepsTillDone_39 (pc2 := 41) rfl ?_
            exact g_iret hc hf hr rfl (by decide) (by decide) dX2_stepsTillDone_41
  refine g_sub [3, 4, 5, 6, 2, 1, 0] rfl ?_
  exact LP_n1 _ _ _ _ hf
