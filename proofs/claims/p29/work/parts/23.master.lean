def f5_forgetDebts_l2 (o : Nat) (k1 : Mem → Option Mem) : Nat → Int32 → Mem → Option Mem
  | 0, _, _ => none
  | n1 + 1, m1, s2 => (if (6 : Int32) ≤ m1 then k1 s2 else gd (ib m1 6) (nm (ms s2 8 o m1.toNatClampNeg (0 : Int32)) fun s3 => nm (m1 + (1 : Int32)) fun x1 => f5_forgetDebts_l2 o k1 n1 x1 s3))
def f5_forgetDebts (o : Nat) (s0 : Mem) : Option Mem :=
  nm (fun (s1 : Mem) => some s1) fun k1 => f5_forgetDebts_l2 o k1 FU (0 : Int32) s0
def rm_5_forgetDebts : Room := { frames := 0, cells := 0, slots := 0, locals := 0 }
set_option maxHeartbeats 4000000 in
set_option maxRecDepth 100000 in
theorem k5_forgetDebts {κ : Kx} {τ : Nat → Int64} {o : Nat} {s0 sR : Mem} (h_o : o < 114) (hf : f5_forgetDebts o s0 = some sR) : CtV κ yX5_forgetDebts cX5_forgetDebts 2 none rm_5_forgetDebts (NV κ τ) (NV κ τ) [.ref (ad κ.1 7 o)] s0 sR := by
  refine ct_V (by decide +kernel) (Nat.le_of_ble_eq_true rfl) (fun φ hc hr => ?_)
  have hc : Cx κ φ RX5 cX5_forgetDebts 2 rm_5_forgetDebts := hc
  show G κ φ (QV κ φ (NV κ τ) sR rm_5_forgetDebts.cells rm_5_forgetDebts.slots) (NV κ τ) 0 0 s0 [(0, .ref (ad κ.1 7 o))] 0 []
  unfold f5_forgetDebts at hf
  refine g_iconst (v := (0 : Int32)) hc (by decide) dX5_forgetDebts_0 (pc2 := 1) rfl ?_
  refine g_istore_n (i := 1) (L1 := [(1, .int (0 : Int32)), (0, .ref (ad κ.1 7 o))]) hc rfl (by decide) rfl dX5_forgetDebts_1 (pc2 := 2) rfl ?_
  obtain ⟨k1, hk1, hf⟩ := nm_ex hf
  have Hk1 : ∀ (s1 : Mem), k1 s1 = some sR → G κ φ (QV κ φ (NV κ τ) sR rm_5_forgetDebts.cells rm_5_forgetDebts.slots) (NV κ τ) 0 0 s1 [] 21 [] := by
    intro s1 hf
    rw [hk1] at hf
    exact g_vret hc hf hr (by decide) (by decide) dX5_forgetDebts_21
  have LP_n1 : ∀ (n1 : Nat) (m1 : Int32) (s2 : Mem), f5_forgetDebts_l2 o k1 n1 m1 s2 = some sR → G κ φ (QV κ φ (NV κ τ) sR rm_5_forgetDebts.cells rm_5_forgetDebts.slots) (NV κ τ) 0 0 s2 [(0, .ref (ad κ.1 7 o)), (1, .int m1)] 2 [] := by
    intro n1
    induction n1 with
    | zero => intro m1 s2 hf; rw [f5_forgetDebts_l2] at hf; cases hf
    | succ n1 ih_n1 =>
      intro m1 s2 hf
      rw [f5_forgetDebts_l2] at hf
      refine g_iload_n (i := 1) hc 1 rfl rfl dX5_forgetDebts_2 (pc2 := 3) rfl ?_
      refine g_bipush (v := (6 : Int32)) hc (by decide) dX5_forgetDebts_3 (pc2 := 5) rfl ?_
      refine g_icmp_ge hc 21 (by decide) dX5_forgetDebts_5 (pc2 := 8) rfl (fun q => ?_) (fun q => ?_)
      · have hf := ite_t hf q
        refine g_sub [] rfl ?_
        exact Hk1 _ hf
      · have hf := ite_f hf q
        refine g_aload_n (i := 0) hc 0 rfl rfl dX5_forgetDebts_8 (pc2 := 9) rfl ?_
        refine g_getr (q := ad κ.1 8 o) hc fo_X5_9 (u7 (by omega)) rfl dX5_forgetDebts_9 (pc2 := 12) rfl ?_
        refine g_iload_n (i := 1) hc 1 rfl rfl dX5_forgetDebts_12 (pc2 := 13) rfl ?_
        refine g_iconst (v := (0 : Int32)) hc (by decide) dX5_forgetDebts_13 (pc2 := 14) rfl ?_
        obtain ⟨hg1, hf⟩ := gd_some hf
        obtain ⟨s3, hs3, hf⟩ := nm_ex hf
        refine g_asti hc 8 o rfl (u8 (by omega)) hg1 dX5_forgetDebts_14 (pc2 := 15) rfl ?_
        refine g_nms hs3 ?_
        obtain ⟨x1, hx1, hf⟩ := nm_ex hf
        refine g_iinc (v := x1) (L1 := [(1, .int x1), (0, .ref (ad κ.1 7 o))]) hc 1 rfl (by rw [hx1]; rfl) (by decide) rfl dX5_forgetDebts_15 (pc2 := 18) rfl ?_
        refine g_goto hc 2 (by decide) dX5_forgetDebts_18 ?_
        refine g_sub [1, 0] rfl ?_
        exact ih_n1 _ _ hf
  refine g_sub [1, 0] rfl ?_
  exact LP_n1 _ _ _ hf
def f5_makeNew (o : Nat) (s0 : Mem) : Option Mem :=
  bv (f5_forgetDebts o s0) fun s1 => nm (ms s1 50 o 0 (0 : Int32)) fun s2 => nm (ms s2 51 o 0 (0 : Int32)) fun s3 => nm (ms s3 40 o 0 (0 : Int32)) fun s4 => nm (ms s4 42 o 0 (0 : Int32)) fun s5 => nm (ms s5 43 o 0 (0 : Int32)) fun s6 => nm (ms s6 44 o 0 (0 : Int32)) fun s7 => nm (ms s7 45 o 0 (0 : Int32)) fun s8 => nm (ms s8 46 o 0 (0 : Int32)) fun s9 => nm (ms s9 47 o 0 (0 : Int32)) fun s10 => some s10
def rm_5_makeNew : Room := { frames := 1, cells := 0, slots := 0, locals := 21 }
set_option maxHeartbeats 4000000 in
set_option maxRecDepth 100000 in
theorem k5_makeNew {κ : Kx} {τ : Nat → Int64} {o : Nat} {s0 sR : Mem} (h_o : o < 114) (hf : f5_makeNew o s0 = some sR) : CtV κ yX5_makeNew cX5_makeNew 1 none rm_5_makeNew (NV κ τ) (NV κ τ) [.ref (ad κ.1 7 o)] s0 sR := by
  refine ct_V (by decide +kernel) (Nat.le_of_ble_eq_true rfl) (fun φ hc hr => ?_)
  have hc : Cx κ φ RX5 cX5_makeNew 1 rm_5_makeNew := hc
  show G κ φ (QV κ φ (NV κ τ) sR rm_5_makeNew.cells rm_5_makeNew.slots) (NV κ τ) 0 0 s0 [(0, .ref (ad κ.1 7 o))] 0 []
  unfold f5_makeNew at hf
  refine g_aload_n (i := 0) hc 0 rfl rfl dX5_makeNew_0 (pc2 := 1) rfl ?_
  obtain ⟨s1, hp, hf⟩ := bv_some hf
  refine g_vV hc (k5_forgetDebts (by omega) hp) co_X5_29 (u7 (by omega)) rfl rfl (by decide) (by decide) (Nat.le_of_ble_eq_true rfl) dX5_makeNew_1 (pc2 := 4) rfl ?_
  refine g_aload_n (i := 0) hc 0 rfl rfl dX5_makeNew_4 (pc2 := 5) rfl ?_
  refine g_getr (q := ad κ.1 9 o) hc fo_X5_18 (u7 (by omega)) rfl dX5_makeNew_5 (pc2 := 8) rfl ?_
  refine g_iconst (v := (0 : Int32)) hc (by decide) dX5_makeNew_8 (pc2 := 9) rfl ?_
  obtain ⟨s2, hs2, hf⟩ := nm_ex hf
  refine g_puti hc (by decide) fo_X5_32 clO_9 poK_9_0 rfl (u9 (by omega)) rfl rfl dX5_makeNew_9 (pc2 := 12) rfl ?_
  refine g_nms hs2 ?_
  refine g_aload_n (i := 0) hc 0 rfl rfl dX5_makeNew_12 (pc2 := 13) rfl ?_
  refine g_getr (q := ad κ.1 13 o) hc fo_X5_25 (u7 (by omega)) rfl dX5_makeNew_13 (pc2 := 16) rfl ?_
  refine g_iconst (v := (0 : Int32)) hc (by decide) dX5_makeNew_16 (pc2 := 17) rfl ?_
  obtain ⟨s3, hs3, hf⟩ := nm_ex hf
  refine g_puti hc (by decide) fo_X5_36 clO_13 poK_13_0 rfl (u13 (by omega)) rfl rfl dX5_makeNew_17 (pc2 := 20) rfl ?_
  refine g_nms hs3 ?_
  refine g_aload_n (i := 0) hc 0 rfl rfl dX5_makeNew_20 (pc2 := 21) rfl ?_
  refine g_iconst (v := (0 : Int32)) hc (by decide) dX5_makeNew_21 (pc2 := 22) rfl ?_
  obtain ⟨s4, hs4, hf⟩ := nm_ex hf
  refine g_puti hc (by decide) fo_X5_37 clO_7 poK_7_3 rfl (u7 (by omega)) rfl rfl dX5_makeNew_22 (pc2 := 25) rfl ?_
  refine g_nms hs4 ?_
  refine g_aload_n (i := 0) hc 0 rfl rfl dX5_makeNew_25 (pc2 := 26) rfl ?_
  refine g_iconst (v := (0 : Int32)) hc (by decide) dX5_makeNew_26 (pc2 := 27) rfl ?_
  obtain ⟨s5, hs5, hf⟩ := nm_ex hf
  refine g_puti hc (by decide) fo_X5_41 clO_7 poK_7_5 rfl (u7 (by omega)) rfl rfl dX5_makeNew_27 (pc2 := 30) rfl ?_
  refine g_nms hs5 ?_
  refine g_aload_n (i := 0) hc 0 rfl rfl dX5_makeNew_30 (pc2 := 31) rfl ?_
  refine g_iconst (v := (0 : Int32)) hc (by decide) dX5_makeNew_31 (pc2 := 32) rfl ?_
  obtain ⟨s6, hs6, hf⟩ := nm_ex hf
  refine g_puti hc (by decide) fo_X5_44 clO_7 poK_7_6 rfl (u7 (by omega)) rfl rfl dX5_makeNew_32 (pc2 := 35) rfl ?_
  refine g_nms hs6 ?_
  refine g_aload_n (i := 0) hc 0 rfl rfl dX5_makeNew_35 (pc2 := 36) rfl ?_
  refine g_iconst (v := (0 : Int32)) hc (by decide) dX5_makeNew_36 (pc2 := 37) rfl ?_
  obtain ⟨s7, hs7, hf⟩ := nm_ex hf
  refine g_puti hc (by decide) fo_X5_47 clO_7 poK_7_7 rfl (u7 (by omega)) rfl rfl dX5_makeNew_37 (pc2 := 40) rfl ?_
  refine g_nms hs7 ?_
  refine g_aload_n (i := 0) hc 0 rfl rfl dX5_makeNew_40 (pc2 := 41) rfl ?_
  refine g_iconst (v := (0 : Int32)) hc (by decide) dX5_makeNew_41 (pc2 := 42) rfl ?_
  obtain ⟨s8, hs8, hf⟩ := nm_ex hf
  refine g_puti hc (by decide) fo_X5_50 clO_7 poK_7_8 rfl (u7 (by omega)) rfl rfl dX5_makeNew_42 (pc2 := 45) rfl ?_
  refine g_nms hs8 ?_
  refine g_aload_n (i := 0) hc 0 rfl rfl dX5_makeNew_45 (pc2 := 46) rfl ?_
  refine g_iconst (v := (0 : Int32)) hc (by decide) dX5_makeNew_46 (pc2 := 47) rfl ?_
  obtain ⟨s9, hs9, hf⟩ := nm_ex hf
  refine g_puti hc (by decide) fo_X5_53 clO_7 poK_7_9 rfl (u7 (by omega)) rfl rfl dX5_makeNew_47 (pc2 := 50) rfl ?_
  refine g_nms hs9 ?_
  refine g_aload_n (i := 0) hc 0 rfl rfl dX5_makeNew_50 (pc2 := 51) rfl ?_
  refine g_iconst (v := (0 : Int32)) hc (by decide) dX5_makeNew_51 (pc2 := 52) rfl ?_
  obtain ⟨s10, hs10, hf⟩ := nm_ex hf
  refine g_puti hc (by decide) fo_X5_56 clO_7 poK_7_10 rfl (u7 (by omega)) rfl rfl dX5_makeNew_52 (pc2 := 55) rfl ?_
  refine g_nms hs10 ?_
  exact g_vret hc hf hr (by decide) (by decide) dX5_makeNew_55
def f5_copyFrom_l2 (o : Nat) (a1 : Nat) (k1 : Mem → Option Mem) : Nat → Int32 → Mem → Option Mem
  | 0, _, _ => none
  | n1 + 1, m1, s11 => (if (6 : Int32) ≤ m1 then k1 s11 else gd (ib m1 6) (gd (ib m1 6) (nm (ms s11 8 o m1.toNatClampNeg (s11 8 a1 m1.toNatClampNeg)) fun s12 => nm (m1 + (1 : Int32)) fun x1 => f5_copyFrom_l2 o a1 k1 n1 x1 s12)))
def f5_copyFrom (o : Nat) (a1 : Nat) (s0 : Mem) : Option Mem :=
  nm (fun (s1 : Mem) => bv (f1_copyFrom o a1 s1) fun s2 => bv (f0_copyFrom o a1 s2) fun s3 => gd (zok (s3 40 a1 0)) (nm (ms s3 40 o 0 (s3 40 a1 0)) fun s4 => nm (ms s4 42 o 0 (s4 42 a1 0)) fun s5 => nm (ms s5 43 o 0 (s5 43 a1 0)) fun s6 => nm (ms s6 44 o 0 (s6 44 a1 0)) fun s7 => nm (ms s7 45 o 0 (s7 45 a1 0)) fun s8 => nm (ms s8 46 o 0 (s8 46 a1 0)) fun s9 => nm (ms s9 47 o 0 (s9 47 a1 0)) fun s10 => some s10)) fun k1 => f5_copyFrom_l2 o a1 k1 FU (0 : Int32) s0
def rm_5_copyFrom : Room := { frames := 1, cells := 0, slots := 0, locals := 22 }
set_option maxHeartbeats 4000000 in
set_option maxRecDepth 100000 in
theorem k5_copyFrom {κ : Kx} {τ : Nat → Int64} {o : Nat} {a1 : Nat} {s0 sR : Mem} (h_o : o < 114) (h_a1 : a1 < 114) (hf : f5_copyFrom o a1 s0 = some sR) : CtV κ yX5_copyFrom cX5_copyFrom 3 none rm_5_copyFrom (NV κ τ) (NV κ τ) [.ref (ad κ.1 7 o), .ref (ad κ.1 7 a1)] s0 sR := by
  refine ct_V (by decide +kernel) (Nat.le_of_ble_eq_true rfl) (fun φ hc hr => ?_)
  have hc : Cx κ φ RX5 cX5_copyFrom 3 rm_5_copyFrom := hc
  show G κ φ (QV κ φ (NV κ τ) sR rm_5_copyFrom.cells rm_5_copyFrom.slots) (NV κ τ) 0 0 s0 [(0, .ref (ad κ.1 7 o)), (1, .ref (ad κ.1 7 a1))] 0 []
  unfold f5_copyFrom at hf
  refine g_iconst (v := (0 : Int32)) hc (by decide) dX5_copyFrom_0 (pc2 := 1) rfl ?_
  refine g_istore_n (i := 2) (L1 := [(2, .int (0 : Int32)), (0, .ref (ad κ.1 7 o)), (1, .ref (ad κ.1 7 a1))]) hc rfl (by decide) rfl dX5_copyFrom_1 (pc2 := 2) rfl ?_
  obtain ⟨k1, hk1, hf⟩ := nm_ex hf
  have Hk1 : ∀ (s1 : Mem), k1 s1 = some sR → G κ φ (QV κ φ (NV κ τ) sR rm_5_copyFrom.cells rm_5_copyFrom.slots) (NV κ τ) 0 0 s1 [(0, .ref (ad κ.1 7 o)), (1, .ref (ad κ.1 7 a1))] 26 [] := by
    intro s1 hf
    rw [hk1] at hf
    refine g_aload_n (i := 0) hc 0 rfl rfl dX5_copyFrom_26 (pc2 := 27) rfl ?_
    refine g_getr (q := ad κ.1 9 o) hc fo_X5_18 (u7 (by omega)) rfl dX5_copyFrom_27 (pc2 := 30) rfl ?_
    refine g_aload_n (i := 1) hc 1 rfl rfl dX5_copyFrom_30 (pc2 := 31) rfl ?_
    refine g_getr (q := ad κ.1 9 a1) hc fo_X5_18 (u7 (by omega)) rfl dX5_copyFrom_31 (pc2 := 34) rfl ?_
    obtain ⟨s2, hp, hf⟩ := bv_some hf
    refine g_vV hc (k1_copyFrom (by omega) (by omega) hp) co_X5_59 (u9 (by omega)) rfl rfl (by decide) (by decide) (Nat.le_of_ble_eq_true rfl) dX5_copyFrom_34 (pc2 := 37) rfl ?_
    refine g_aload_n (i := 0) hc 0 rfl rfl dX5_copyFrom_37 (pc2 := 38) rfl ?_
    refine g_getr (q := ad κ.1 13 o) hc fo_X5_25 (u7 (by omega)) rfl dX5_copyFrom_38 (pc2 := 41) rfl ?_
    refine g_aload_n (i := 1) hc 1 rfl rfl dX5_copyFrom_41 (pc2 := 42) rfl ?_
    refine g_getr (q := ad κ.1 13 a1) hc fo_X5_25 (u7 (by omega)) rfl dX5_copyFrom_42 (pc2 := 45) rfl ?_
    obtain ⟨s3, hp, hf⟩ := bv_some hf
    refine g_vV hc (k0_copyFrom (by omega) (by omega) hp) co_X5_63 (u13 (by omega)) rfl rfl (by decide) (by decide) (Nat.le_of_ble_eq_true rfl) dX5_copyFrom_45 (pc2 := 48) rfl ?_
    refine g_aload_n (i := 0) hc 0 rfl rfl dX5_copyFrom_48 (pc2 := 49) rfl ?_
    refine g_aload_n (i := 1) hc 1 rfl rfl dX5_copyFrom_49 (pc2 := 50) rfl ?_
    refine g_geti hc fo_X5_37 (u7 (by omega)) dX5_copyFrom_50 (pc2 := 53) rfl ?_
    obtain ⟨hg1, hf⟩ := gd_some hf
    obtain ⟨s4, hs4, hf⟩ := nm_ex hf
    refine g_puti hc (by decide) fo_X5_37 clO_7 poK_7_3 rfl (u7 (by omega)) (zok_n hg1) (zok_f hg1) dX5_copyFrom_53 (pc2 := 56) rfl ?_
    refine g_nms hs4 ?_
    refine g_aload_n (i := 0) hc 0 rfl rfl dX5_copyFrom_56 (pc2 := 57) rfl ?_
    refine g_aload_n (i := 1) hc 1 rfl rfl dX5_copyFrom_57 (pc2 := 58) rfl ?_
    refine g_geti hc fo_X5_41 (u7 (by omega)) dX5_copyFrom_58 (pc2 := 61) rfl ?_
    obtain ⟨s5, hs5, hf⟩ := nm_ex hf
    refine g_puti hc (by decide) fo_X5_41 clO_7 poK_7_5 rfl (u7 (by omega)) rfl rfl dX5_copyFrom_61 (pc2 := 64) rfl ?_
    refine g_nms hs5 ?_
    refine g_aload_n (i := 0) hc 0 rfl rfl dX5_copyFrom_64 (pc2 := 65) rfl ?_
    refine g_aload_n (i := 1) hc 1 rfl rfl dX5_copyFrom_65 (pc2 := 66) rfl ?_
    refine g_geti hc fo_X5_44 (u7 (by omega)) dX5_copyFrom_66 (pc2 := 69) rfl ?_
    obtain ⟨s6, hs6, hf⟩ := nm_ex hf
    refine g_puti hc (by decide) fo_X5_44 clO_7 poK_7_6 rfl (u7 (by omega)) rfl rfl dX5_copyFrom_69 (pc2 := 72) rfl ?_
    refine g_nms hs6 ?_
    refine g_aload_n (i := 0) hc 0 rfl rfl dX5_copyFrom_72 (pc2 := 73) rfl ?_
    refine g_aload_n (i := 1) hc 1 rfl rfl dX5_copyFrom_73 (pc2 := 74) rfl ?_
    refine g_geti hc fo_X5_47 (u7 (by omega)) dX5_copyFrom_74 (pc2 := 77) rfl ?_
    obtain ⟨s7, hs7, hf⟩ := nm_ex hf
    refine g_puti hc (by decide) fo_X5_47 clO_7 poK_7_7 rfl (u7 (by omega)) rfl rfl dX5_copyFrom_77 (pc2 := 80) rfl ?_
    refine g_nms hs7 ?_
    refine g_aload_n (i := 0) hc 0 rfl rfl dX5_copyFrom_80 (pc2 := 81) rfl ?_
    refine g_aload_n (i := 1) hc 1 rfl rfl dX5_copyFrom_81 (pc2 := 82) rfl ?_
    refine g_geti hc fo_X5_50 (u7 (by omega)) dX5_copyFrom_82 (pc2 := 85) rfl ?_
    obtain ⟨s8, hs8, hf⟩ := nm_ex hf
    refine g_puti hc (by decide) fo_X5_50 clO_7 poK_7_8 rfl (u7 (by omega)) rfl rfl dX5_copyFrom_85 (pc2 := 88) rfl ?_
    refine g_nms hs8 ?_
    refine g_aload_n (i := 0) hc 0 rfl rfl dX5_copyFrom_88 (pc2 := 89) rfl ?_
    refine g_aload_n (i := 1) hc 1 rfl rfl dX5_copyFrom_89 (pc2 := 90) rfl ?_
    refine g_geti hc fo_X5_53 (u7 (by omega)) dX5_copyFrom_90 (pc2 := 93) rfl ?_
    obtain ⟨s9, hs9, hf⟩ := nm_ex hf
    refine g_puti hc (by decide) fo_X5_53 clO_7 poK_7_9 rfl (u7 (by omega)) rfl rfl dX5_copyFrom_93 (pc2 := 96) rfl ?_
    refine g_nms hs9 ?_
    refine g_aload_n (i := 0) hc 0 rfl rfl dX5_copyFrom_96 (pc2 := 97) rfl ?_
    refine g_aload_n (i := 1) hc 1 rfl rfl dX5_copyFrom_97 (pc2 := 98) rfl ?_
    refine g_geti hc fo_X5_56 (u7 (by omega)) dX5_copyFrom_98 (pc2 := 101) rfl ?_
    obtain ⟨s10, hs10, hf⟩ := nm_ex hf
    refine g_puti hc (by decide) fo_X5_56 clO_7 poK_7_10 rfl (u7 (by omega)) rfl rfl dX5_copyFrom_101 (pc2 := 104) rfl ?_
    refine g_nms hs10 ?_
    exact g_vret hc hf hr (by decide) (by decide) dX5_copyFrom_104
  have LP_n1 : ∀ (n1 : Nat) (m1 : Int32) (s11 : Mem), f5_copyFrom_l2 o a1 k1 n1 m1 s11 = some sR → G κ φ (QV κ φ (NV κ τ) sR rm_5_copyFrom.cells rm_5_copyFrom.slots) (NV κ τ) 0 0 s11 [(0, .ref (ad κ.1 7 o)), (1, .ref (ad κ.1 7 a1)), (2, .int m1)] 2 [] := by
    intro n1
    induction n1 with
    | zero => intro m1 s11 hf; rw [f5_copyFrom_l2] at hf; cases hf
    | succ n1 ih_n1 =>
      intro m1 s11 hf
      rw [f5_copyFrom_l2] at hf
      refine g_iload_n (i := 2) hc 2 rfl rfl dX5_copyFrom_2 (pc2 := 3) rfl ?_
      refine g_bipush (v := (6 : Int32)) hc (by decide) dX5_copyFrom_3 (pc2 := 5) rfl ?_
      refine g_icmp_ge hc 26 (by decide) dX5_copyFrom_5 (pc2 := 8) rfl (fun q => ?_) (fun q => ?_)
      · have hf := ite_t hf q
        refine g_sub [0, 1] rfl ?_
        exact Hk1 _ hf
      · have hf := ite_f hf q
        refine g_aload_n (i := 0) hc 0 rfl rfl dX5_copyFrom_8 (pc2 := 9) rfl ?_
        refine g_getr (q := ad κ.1 8 o) hc fo_X5_9 (u7 (by omega)) rfl dX5_copyFrom_9 (pc2 := 12) rfl ?_
        refine g_iload_n (i := 2) hc 2 rfl rfl dX5_copyFrom_12 (pc2 := 13) rfl ?_
        refine g_aload_n (i := 1) hc 1 rfl rfl dX5_copyFrom_13 (pc2 := 14) rfl ?_
        refine g_getr (q := ad κ.1 8 a1) hc fo_X5_9 (u7 (by omega)) rfl dX5_copyFrom_14 (pc2 := 17) rfl ?_
        refine g_iload_n (i := 2) hc 2 rfl rfl dX5_copyFrom_17 (pc2 := 18) rfl ?_
        obtain ⟨hg2, hf⟩ := gd_some hf
        refine g_aldi hc 8 a1 rfl (u8 (by omega)) hg2 dX5_copyFrom_18 (pc2 := 19) rfl ?_
        obtain ⟨hg3, hf⟩ := gd_some hf
        obtain ⟨s12, hs12, hf⟩ := nm_ex hf
        refine g_asti hc 8 o rfl (u8 (by omega)) hg3 dX5_copyFrom_19 (pc2 := 20) rfl ?_
        refine g_nms hs12 ?_
        obtain ⟨x1, hx1, hf⟩ := nm_ex hf
        refine g_iinc (v := x1) (L1 := [(2, .int x1), (0, .ref (ad κ.1 7 o)), (1, .ref (ad κ.1 7 a1))]) hc 2 rfl (by rw [hx1]; rfl) (by decide) rfl dX5_copyFrom_20 (pc2 := 23) rfl ?_
        refine g_goto hc 2 (by decide) dX5_copyFrom_23 ?_
        refine g_sub [1, 2, 0] rfl ?_
        exact ih_n1 _ _ hf
  refine g_sub [1, 2, 0] rfl ?_
  exact LP_n1 _ _ _ hf
def f5_debts_l4 (o : Nat) (k1 : Int32 → Mem → Option (Int32 × Mem)) : Nat → Int32 → Int32 → Mem → Option (Int32 × Mem)
  | 0, _, _, _ => none
  | n1 + 1, m1, m2, s2 => (if (6 : Int32) ≤ m2 then k1 m1 s2 else gd (ib m2 6) (nm (m1 + (s2 8 o m2.toNatClampNeg)) fun x1 => nm (m2 + (1 : Int32)) fun x2 => f5_debts_l4 o k1 n1 x1 x2 s2))
def f5_debts (o : Nat) (s0 : Mem) : Option (Int32 × Mem) :=
  nm (fun (y1 : Int32) (s1 : Mem) => some (y1, s1)) fun k1 => f5_debts_l4 o k1 FU (0 : Int32) (0 : Int32) s0
def rm_5_debts : Room := { frames := 0, cells := 0, slots := 0, locals := 0 }
set_option maxHeartbeats 4000000 in
set_option maxRecDepth 100000 in
theorem k5_debts {κ : Kx} {τ : Nat → Int64} {o : Nat} {s0 sR : Mem} {rR : Int32} (h_o : o < 114) (hf : f5_debts o s0 = some (rR, sR)) : CtI κ yX5_debts cX5_debts 3 (some .int) rm_5_debts (NV κ τ) (NV κ τ) [.ref (ad κ.1 7 o)] s0 sR rR := by
  refine ct_I (by decide +kernel) (Nat.le_of_ble_eq_true rfl) (fun φ hc hr => ?_)
  have hc : Cx κ φ RX5 cX5_debts 3 rm_5_debts := hc
  show G κ φ (QI κ φ (NV κ τ) sR rR rm_5_debts.cells rm_5_debts.slots) (NV κ τ) 0 0 s0 [(0, .ref (ad κ.1 7 o))] 0 []
  unfold f5_debts at hf
  refine g_iconst (v := (0 : Int32)) hc (by decide) dX5_debts_0 (pc2 := 1) rfl ?_
  refine g_istore_n (i := 1) (L1 := [(1, .int (0 : Int32)), (0, .ref (ad κ.1 7 o))]) hc rfl (by decide) rfl dX5_debts_1 (pc2 := 2) rfl ?_
  refine g_iconst (v := (0 : Int32)) hc (by decide) dX5_debts_2 (pc2 := 3) rfl ?_
  refine g_istore_n (i := 2) (L1 := [(2, .int (0 : Int32)), (1, .int (0 : Int32)), (0, .ref (ad κ.1 7 o))]) hc rfl (by decide) rfl dX5_debts_3 (pc2 := 4) rfl ?_
  obtain ⟨k1, hk1, hf⟩ := nm_ex hf
  have Hk1 : ∀ (y1 : Int32) (s1 : Mem), k1 y1 s1 = some (rR, sR) → G κ φ (QI κ φ (NV κ τ) sR rR rm_5_debts.cells rm_5_debts.slots) (NV κ τ) 0 0 s1 [(1, .int y1)] 25 [] := by
    intro y1 s1 hf
    rw [hk1] at hf
    refine g_iload_n (i := 1) hc 0 rfl rfl dX5_debts_25 (pc2 := 26) rfl ?_
    exact g_iret hc hf hr rfl (by decide) (by decide) dX5_debts_26
  have LP_n1 : ∀ (n1 : Nat) (m1 : Int32) (m2 : Int32) (s2 : Mem), f5_debts_l4 o k1 n1 m1 m2 s2 = some (rR, sR) → G κ φ (QI κ φ (NV κ τ) sR rR rm_5_debts.cells rm_5_debts.slots) (NV κ τ) 0 0 s2 [(0, .ref (ad κ.1 7 o)), (1, .int m1), (2, .int m2)] 4 [] := by
    intro n1
    induction n1 with
    | zero => intro m1 m2 s2 hf; rw [f5_debts_l4] at hf; cases hf
    | succ n1 ih_n1 =>
      intro m1 m2 s2 hf
      rw [f5_debts_l4] at hf
      refine g_iload_n (i := 2) hc 2 rfl rfl dX5_debts_4 (pc2 := 5) rfl ?_
      refine g_bipush (v := (6 : Int32)) hc (by decide) dX5_debts_5 (pc2 := 7) rfl ?_
      refine g_icmp_ge hc 25 (by decide) dX5_debts_7 (pc2 := 10) rfl (fun q => ?_) (fun q => ?_)
      · have hf := ite_t hf q
        refine g_sub [1] rfl ?_
        exact Hk1 _ _ hf
      · have hf := ite_f hf q
        refine g_iload_n (i := 1) hc 1 rfl rfl dX5_debts_10 (pc2 := 11) rfl ?_
        refine g_aload_n (i := 0) hc 0 rfl rfl dX5_debts_11 (pc2 := 12) rfl ?_
        refine g_getr (q := ad κ.1 8 o) hc fo_X5_9 (u7 (by omega)) rfl dX5_debts_12 (pc2 := 15) rfl ?_
        refine g_iload_n (i := 2) hc 2 rfl rfl dX5_debts_15 (pc2 := 16) rfl ?_
        obtain ⟨hg1, hf⟩ := gd_some hf
        refine g_aldi hc 8 o rfl (u8 (by omega)) hg1 dX5_debts_16 (pc2 := 17) rfl ?_
        refine g_iadd hc dX5_debts_17 (pc2 := 18) rfl ?_
        obtain ⟨x1, hx1, hf⟩ := nm_ex hf
        refine g_nmi hx1 ?_
        refine g_istore_n (i := 1) (L1 := [(1, .int x1), (0, .ref (ad κ.1 7 o)), (2, .int m2)]) hc rfl (by decide) rfl dX5_debts_18 (pc2 := 19) rfl ?_
        obtain ⟨x2, hx2, hf⟩ := nm_ex hf
        refine g_iinc (v := x2) (L1 := [(2, .int x2), (1, .int x1), (0, .ref (ad κ.1 7 o))]) hc 2 rfl (by rw [hx2]; rfl) (by decide) rfl dX5_debts_19 (pc2 := 22) rfl ?_
        refine g_goto hc 4 (by decide) dX5_debts_22 ?_
        refine g_sub [2, 1, 0] rfl ?_
        exact ih_n1 _ _ _ hf
  refine g_sub [2, 1, 0] rfl ?_
  exact LP_n1 _ _ _ _ hf
def f5_takesBursts (o : Nat) (s0 : Mem) : Option (Int32 × Mem) :=
  nm (fun (s1 : Mem) => some ((0 : Int32), s1)) fun j1 => (if (s0 40 o 0) = (0 : Int32) then bd (f1_isFull o s0) fun r1 s2 => (if r1 = (0 : Int32) then some ((1 : Int32), s2) else j1 s2) else j1 s0)
def rm_5_takesBursts : Room := { frames := 1, cells := 0, slots := 0, locals := 20 }
set_option maxHeartbeats 4000000 in
set_option maxRecDepth 100000 in
theorem k5_takesBursts {κ : Kx} {τ : Nat → Int64} {o : Nat} {s0 sR : Mem} {rR : Int32} (h_o : o < 114) (hf : f5_takesBursts o s0 = some (rR, sR)) : CtI κ yX5_takesBursts cX5_takesBursts 1 (some .boolean) rm_5_takesBursts (NV κ τ) (NV κ τ) [.ref (ad κ.1 7 o)] s0 sR rR := by
  refine ct_I (by decide +kernel) (Nat.le_of_ble_eq_true rfl) (fun φ hc hr => ?_)
  have hc : Cx κ φ RX5 cX5_takesBursts 1 rm_5_takesBursts := hc
  show G κ φ (QI κ φ (NV κ τ) sR rR rm_5_takesBursts.cells rm_5_takesBursts.slots) (NV κ τ) 0 0 s0 [(0, .ref (ad κ.1 7 o))] 0 []
  unfold f5_takesBursts at hf
  refine g_aload_n (i := 0) hc 0 rfl rfl dX5_takesBursts_0 (pc2 := 1) rfl ?_
  refine g_geti hc fo_X5_37 (u7 (by omega)) dX5_takesBursts_1 (pc2 := 4) rfl ?_
  obtain ⟨j1, hj1, hf⟩ := nm_ex hf
  have Hj1 : ∀ (s1 : Mem), j1 s1 = some (rR, sR) → G κ φ (QI κ φ (NV κ τ) sR rR rm_5_takesBursts.cells rm_5_takesBursts.slots) (NV κ τ) 0 0 s1 [] 21 [] := by
    intro s1 hf
    rw [hj1] at hf
    refine g_iconst (v := (0 : Int32)) hc (by decide) dX5_takesBursts_21 (pc2 := 22) rfl ?_
    exact g_iret hc hf hr rfl (by decide) (by decide) dX5_takesBursts_22
  refine g_if_ne hc 21 (by decide) dX5_takesBursts_4 (pc2 := 7) rfl (fun q => ?_) (fun q => ?_)
  · have hf := ite_f hf q
    refine g_sub [] rfl ?_
    exact Hj1 _ hf
  · have hf := ite_t hf q
    refine g_aload_n (i := 0) hc 0 rfl rfl dX5_takesBursts_7 (pc2 := 8) rfl ?_
    refine g_getr (q := ad κ.1 9 o) hc fo_X5_18 (u7 (by omega)) rfl dX5_takesBursts_8 (pc2 := 11) rfl ?_
    obtain ⟨r1, s2, hp, hf⟩ := bd_some hf
    refine g_vI hc (k1_isFull (by omega) hp) co_X5_66 (u9 (by omega)) rfl rfl (by decide) (by decide) (Nat.le_of_ble_eq_true rfl) dX5_takesBursts_11 (pc2 := 14) rfl ?_
    refine g_if_ne hc 21 (by decide) dX5_takesBursts_14 (pc2 := 17) rfl (fun q => ?_) (fun q => ?_)
    · have hf := ite_f hf q
      refine g_sub [] rfl ?_
      exact Hj1 _ hf
    · have hf := ite_t hf q
      refine g_iconst (v := (1 : Int32)) hc (by decide) dX5_takesBursts_17 (pc2 := 18) rfl ?_
      refine g_goto hc 22 (by decide) dX5_takesBursts_18 ?_
      exact g_iret hc hf hr rfl (by decide) (by decide) dX5_takesBursts_22
def f5_isDone (o : Nat) (s0 : Mem) : Option (Int32 × Mem) :=
  nm (fun (s1 : Mem) => some ((0 : Int32), s1)) fun j1 => (if (s0 50 o 0) = (0 : Int32) then (if (s0 51 o 0) = (0 : Int32) then some ((1 : Int32), s0) else j1 s0) else j1 s0)
def rm_5_isDone : Room := { frames := 0, cells := 0, slots := 0, locals := 0 }
set_option maxHeartbeats 4000000 in
set_option maxRecDepth 100000 in
theorem k5_isDone {κ : Kx} {τ : Nat → Int64} {o : Nat} {s0 sR : Mem} {rR : Int32} (h_o : o < 114) (hf : f5_isDone o s0 = some (rR, sR)) : CtI κ yX5_isDone cX5_isDone 1 (some .boolean) rm_5_isDone (NV κ τ) (NV κ τ) [.ref (ad κ.1 7 o)] s0 sR rR := by
  refine ct_I (by decide +kernel) (Nat.le_of_ble_eq_true rfl) (fun φ hc hr => ?_)
  have hc : Cx κ φ RX5 cX5_isDone 1 rm_5_isDone := hc
  show G κ φ (QI κ φ (NV κ τ) sR rR rm_5_isDone.cells rm_5_isDone.slots) (NV κ τ) 0 0 s0 [(0, .ref (ad κ.1 7 o))] 0 []
  unfold f5_isDone at hf
  refine g_aload_n (i := 0) hc 0 rfl rfl dX5_isDone_0 (pc2 := 1) rfl ?_
  refine g_getr (q := ad κ.1 9 o) hc fo_X5_18 (u7 (by omega)) rfl dX5_isDone_1 (pc2 := 4) rfl ?_
  refine g_geti hc fo_X5_32 (u9 (by omega)) dX5_isDone_4 (pc2 := 7) rfl ?_
  obtain ⟨j1, hj1, hf⟩ := nm_ex hf
  have Hj1 : ∀ (s1 : Mem), j1 s1 = some (rR, sR) → G κ φ (QI κ φ (NV κ τ) sR rR rm_5_isDone.cells rm_5_isDone.slots) (NV κ τ) 0 0 s1 [] 24 [] := by
    intro s1 hf
    rw [hj1] at hf
    refine g_iconst (v := (0 : Int32)) hc (by decide) dX5_isDone_24 (pc2 := 25) rfl ?_
    exact g_iret hc hf hr rfl (by decide) (by decide) dX5_isDone_25
  refine g_if_ne hc 24 (by decide) dX5_isDone_7 (pc2 := 10) rfl (fun q => ?_) (fun q => ?_)
  · have hf := ite_f hf q
    refine g_sub [] rfl ?_
    exact Hj1 _ hf
  · have hf := ite_t hf q
    refine g_aload_n (i := 0) hc 0 rfl rfl dX5_isDone_10 (pc2 := 11) rfl ?_
    refine g_getr (q := ad κ.1 13 o) hc fo_X5_25 (u7 (by omega)) rfl dX5_isDone_11 (pc2 := 14) rfl ?_
    refine g_geti hc fo_X5_36 (u13 (by omega)) dX5_isDone_14 (pc2 := 17) rfl ?_
    refine g_if_ne hc 24 (by decide) dX5_isDone_17 (pc2 := 20) rfl (fun q => ?_) (fun q => ?_)
    · have hf := ite_f hf q
      refine g_sub [] rfl ?_
      exact Hj1 _ hf
    · have hf := ite_t hf q
      refine g_iconst (v := (1 : Int32)) hc (by decide) dX5_isDone_20 (pc2 := 21) rfl ?_
      refine g_goto hc 25 (by decide) dX5_isDone_21 ?_
      exact g_iret hc hf hr rfl (by decide) (by decide) dX5_isDone_25
def f5_lookForWork (o : Nat) (a1 : Int32) (s0 : Mem) : Option Mem :=
  nm (fun (y1 : Int32) (s1 : Mem) => gd (zok y1) (nm (ms s1 41 o 0 y1) fun s2 => some s2)) fun j1 => nm (fun (s3 : Mem) => j1 (1 : Int32) s3) fun j2 => (if (0 : Int32) < (s0 50 o 0) then j2 s0 else bd (f0_firstReady o a1 s0) fun r1 s4 => (if r1 = (-9 : Int32) then j1 (0 : Int32) s4 else j2 s4))
def rm_5_lookForWork : Room := { frames := 1, cells := 0, slots := 0, locals := 22 }
set_option maxHeartbeats 4000000 in
set_option maxRecDepth 100000 in
theorem k5_lookForWork {κ : Kx} {τ : Nat → Int64} {o : Nat} {a1 : Int32} {s0 sR : Mem} (h_o : o < 114) (hf : f5_lookForWork o a1 s0 = some sR) : CtV κ yX5_lookForWork cX5_lookForWork 2 none rm_5_lookForWork (NV κ τ) (NV κ τ) [.ref (ad κ.1 7 o), .int a1] s0 sR := by
  refine ct_V (by decide +kernel) (Nat.le_of_ble_eq_true rfl) (fun φ hc hr => ?_)
  have hc : Cx κ φ RX5 cX5_lookForWork 2 rm_5_lookForWork := hc
  show G κ φ (QV κ φ (NV κ τ) sR rm_5_lookForWork.cells rm_5_lookForWork.slots) (NV κ τ) 0 0 s0 [(0, .ref (ad κ.1 7 o)), (1, .int a1)] 0 []
  unfold f5_lookForWork at hf
  refine g_aload_n (i := 0) hc 0 rfl rfl dX5_lookForWork_0 (pc2 := 1) rfl ?_
  refine g_aload_n (i := 0) hc 0 rfl rfl dX5_lookForWork_1 (pc2 := 2) rfl ?_
  refine g_getr (q := ad κ.1 9 o) hc fo_X5_18 (u7 (by omega)) rfl dX5_lookForWork_2 (pc2 := 5) rfl ?_
  refine g_geti hc fo_X5_32 (u9 (by omega)) dX5_lookForWork_5 (pc2 := 8) rfl ?_
  obtain ⟨j1, hj1, hf⟩ := nm_ex hf
  have Hj1 : ∀ (y1 : Int32) (s1 : Mem), j1 y1 s1 = some sR → G κ φ (QV κ φ (NV κ τ) sR rm_5_lookForWork.cells rm_5_lookForWork.slots) (NV κ τ) 0 0 s1 [] 29 [.int y1, .ref (ad κ.1 7 o)] := by
    intro y1 s1 hf
    rw [hj1] at hf
    obtain ⟨hg1, hf⟩ := gd_some hf
    obtain ⟨s2, hs2, hf⟩ := nm_ex hf
    refine g_puti hc (by decide) fo_X5_74 clO_7 poK_7_4 rfl (u7 (by omega)) (zok_n hg1) (zok_f hg1) dX5_lookForWork_29 (pc2 := 32) rfl ?_
    refine g_nms hs2 ?_
    exact g_vret hc hf hr (by decide) (by decide) dX5_lookForWork_32
  obtain ⟨j2, hj2, hf⟩ := nm_ex hf
  have Hj2 : ∀ (s3 : Mem), j2 s3 = some sR → G κ φ (QV κ φ (NV κ τ) sR rm_5_lookForWork.cells rm_5_lookForWork.slots) (NV κ τ) 0 0 s3 [] 24 [.ref (ad κ.1 7 o)] := by
    intro s3 hf
    rw [hj2] at hf
    refine g_iconst (v := (1 : Int32)) hc (by decide) dX5_lookForWork_24 (pc2 := 25) rfl ?_
    refine g_goto hc 29 (by decide) dX5_lookForWork_25 ?_
    exact Hj1 _ _ hf
  refine g_if_gt hc 24 (by decide) dX5_lookForWork_8 (pc2 := 11) rfl (fun q => ?_) (fun q => ?_)
  · have hf := ite_t hf q
    refine g_sub [] rfl ?_
    exact Hj2 _ hf
  · have hf := ite_f hf q
    refine g_aload_n (i := 0) hc 0 rfl rfl dX5_lookForWork_11 (pc2 := 12) rfl ?_
    refine g_getr (q := ad κ.1 13 o) hc fo_X5_25 (u7 (by omega)) rfl dX5_lookForWork_12 (pc2 := 15) rfl ?_
    refine g_iload_n (i := 1) hc 1 rfl rfl dX5_lookForWork_15 (pc2 := 16) rfl ?_
    obtain ⟨r1, s4, hp, hf⟩ := bd_some hf
    refine g_vI hc (k0_firstReady (by omega) hp) co_X5_70 (u13 (by omega)) rfl rfl (by decide) (by decide) (Nat.le_of_ble_eq_true rfl) dX5_lookForWork_16 (pc2 := 19) rfl ?_
    refine g_bipush (v := (-9 : Int32)) hc (by decide) dX5_lookForWork_19 (pc2 := 21) rfl ?_
    refine g_icmp_eq hc 28 (by decide) dX5_lookForWork_21 (pc2 := 24) rfl (fun q => ?_) (fun q => ?_)
    · have hf := ite_t hf q
      refine g_iconst (v := (0 : Int32)) hc (by decide) dX5_lookForWork_28 (pc2 := 29) rfl ?_
      refine g_sub [] rfl ?_
      exact Hj1 _ _ hf
    · have hf := ite_f hf q
      refine g_sub [] rfl ?_
      exact Hj2 _ hf
def f5_countWait (o : Nat) (a1 : Int32) (s0 : Mem) : Option Mem :=
  nm (fun (y1 : Int32) (s1 : Mem) => nm (ms s1 42 o 0 y1) fun s2 => bd (fJ_max (s2 43 o 0) (s2 42 o 0) s2) fun r1 s3 => nm (ms s3 43 o 0 r1) fun s4 => some s4) fun j1 => nm (fun (s5 : Mem) => j1 (0 : Int32) s5) fun j2 => (if (s0 41 o 0) = (0 : Int32) then j2 s0 else (if a1 = (0 : Int32) then j1 ((s0 42 o 0) + (1 : Int32)) s0 else j2 s0))
def rm_5_countWait : Room := { frames := 1, cells := 0, slots := 0, locals := 21 }
set_option maxHeartbeats 4000000 in
set_option maxRecDepth 100000 in
theorem k5_countWait {κ : Kx} {τ : Nat → Int64} {o : Nat} {a1 : Int32} {s0 sR : Mem} (h_o : o < 114) (hf : f5_countWait o a1 s0 = some sR) : CtV κ yX5_countWait cX5_countWait 2 none rm_5_countWait (NV κ τ) (NV κ τ) [.ref (ad κ.1 7 o), .int a1] s0 sR := by
  refine ct_V (by decide +kernel) (Nat.le_of_ble_eq_true rfl) (fun φ hc hr => ?_)
  have hc : Cx κ φ RX5 cX5_countWait 2 rm_5_countWait := hc
  show G κ φ (QV κ φ (NV κ τ) sR rm_5_countWait.cells rm_5_countWait.slots) (NV κ τ) 0 0 s0 [(0, .ref (ad κ.1 7 o)), (1, .int a1)] 0 []
  unfold f5_countWait at hf
  refine g_aload_n (i := 0) hc 0 rfl rfl dX5_countWait_0 (pc2 := 1) rfl ?_
  refine g_aload_n (i := 0) hc 0 rfl rfl dX5_countWait_1 (pc2 := 2) rfl ?_
  refine g_geti hc fo_X5_74 (u7 (by omega)) dX5_countWait_2 (pc2 := 5) rfl ?_
  obtain ⟨j1, hj1, hf⟩ := nm_ex hf
  have Hj1 : ∀ (y1 : Int32) (s1 : Mem), j1 y1 s1 = some sR → G κ φ (QV κ φ (NV κ τ) sR rm_5_countWait.cells rm_5_countWait.slots) (NV κ τ) 0 0 s1 [(0, .ref (ad κ.1 7 o))] 22 [.int y1, .ref (ad κ.1 7 o)] := by
    intro y1 s1 hf
    rw [hj1] at hf
    obtain ⟨s2, hs2, hf⟩ := nm_ex hf
    refine g_puti hc (by decide) fo_X5_41 clO_7 poK_7_5 rfl (u7 (by omega)) rfl rfl dX5_countWait_22 (pc2 := 25) rfl ?_
    refine g_nms hs2 ?_
    refine g_aload_n (i := 0) hc 0 rfl rfl dX5_countWait_25 (pc2 := 26) rfl ?_
    refine g_aload_n (i := 0) hc 0 rfl rfl dX5_countWait_26 (pc2 := 27) rfl ?_
    refine g_geti hc fo_X5_44 (u7 (by omega)) dX5_countWait_27 (pc2 := 30) rfl ?_
    refine g_aload_n (i := 0) hc 0 rfl rfl dX5_countWait_30 (pc2 := 31) rfl ?_
    refine g_geti hc fo_X5_41 (u7 (by omega)) dX5_countWait_31 (pc2 := 34) rfl ?_
    obtain ⟨r1, s3, hp, hf⟩ := bd_some hf
    refine g_sI hc (kJ_max hp) co_X5_77 rfl rfl (by decide) (by decide) (Nat.le_of_ble_eq_true rfl) dX5_countWait_34 (pc2 := 37) rfl ?_
    obtain ⟨s4, hs4, hf⟩ := nm_ex hf
    refine g_puti hc (by decide) fo_X5_44 clO_7 poK_7_6 rfl (u7 (by omega)) rfl rfl dX5_countWait_37 (pc2 := 40) rfl ?_
    refine g_nms hs4 ?_
    exact g_vret hc hf hr (by decide) (by decide) dX5_countWait_40
  obtain ⟨j2, hj2, hf⟩ := nm_ex hf
  have Hj2 : ∀ (s5 : Mem), j2 s5 = some sR → G κ φ (QV κ φ (NV κ τ) sR rm_5_countWait.cells rm_5_countWait.slots) (NV κ τ) 0 0 s5 [(0, .ref (ad κ.1 7 o))] 21 [.ref (ad κ.1 7 o)] := by
    intro s5 hf
    rw [hj2] at hf
    refine g_iconst (v := (0 : Int32)) hc (by decide) dX5_countWait_21 (pc2 := 22) rfl ?_
    exact Hj1 _ _ hf
  refine g_if_eq hc 21 (by decide) dX5_countWait_5 (pc2 := 8) rfl (fun q => ?_) (fun q => ?_)
  · have hf := ite_t hf q
    refine g_sub [0] rfl ?_
    exact Hj2 _ hf
  · have hf := ite_f hf q
    refine g_iload_n (i := 1) hc 1 rfl rfl dX5_countWait_8 (pc2 := 9) rfl ?_
    refine g_if_ne hc 21 (by decide) dX5_countWait_9 (pc2 := 12) rfl (fun q => ?_) (fun q => ?_)
    · have hf := ite_f hf q
      refine g_sub [0] rfl ?_
      exact Hj2 _ hf
    · have hf := ite_t hf q
      refine g_aload_n (i := 0) hc 0 rfl rfl dX5_countWait_12 (pc2 := 13) rfl ?_
      refine g_geti hc fo_X5_41 (u7 (by omega)) dX5_countWait_13 (pc2 := 16) rfl ?_
      refine g_iconst (v := (1 : Int32)) hc (by decide) dX5_countWait_16 (pc2 := 17) rfl ?_
      refine g_iadd hc dX5_countWait_17 (pc2 := 18) rfl ?_
      refine g_goto hc 22 (by decide) dX5_countWait_18 ?_
      refine g_sub [0] rfl ?_
      exact Hj1 _ _ hf
def f5_goBankrupt (o : Nat) (s0 : Mem) : Option Mem :=
  nm (ms s0 40 o 0 (1 : Int32)) fun s1 => bv (f5_forgetDebts o s1) fun s2 => nm (ms s2 50 o 0 (0 : Int32)) fun s3 => nm (ms s3 51 o 0 (0 : Int32)) fun s4 => some s4
def rm_5_goBankrupt : Room := { frames := 1, cells := 0, slots := 0, locals := 21 }
set_option maxHeartbeats 4000000 in
set_option maxRecDepth 100000 in
theorem k5_goBankrupt {κ : Kx} {τ : Nat → Int64} {o : Nat} {s0 sR : Mem} (h_o : o < 114) (hf : f5_goBankrupt o s0 = some sR) : CtV κ yX5_goBankrupt cX5_goBankrupt 1 none rm_5_goBankrupt (NV κ τ) (NV κ τ) [.ref (ad κ.1 7 o)] s0 sR := by
  refine ct_V (by decide +kernel) (Nat.le_of_ble_eq_true rfl) (fun φ hc hr => ?_)
  have hc : Cx κ φ RX5 cX5_goBankrupt 1 rm_5_goBankrupt := hc
  show G κ φ (QV κ φ (NV κ τ) sR rm_5_goBankrupt.cells rm_5_goBankrupt.slots) (NV κ τ) 0 0 s0 [(0, .ref (ad κ.1 7 o))] 0 []
  unfold f5_goBankrupt at hf
  refine g_aload_n (i := 0) hc 0 rfl rfl dX5_goBankrupt_0 (pc2 := 1) rfl ?_
  refine g_iconst (v := (1 : Int32)) hc (by decide) dX5_goBankrupt_1 (pc2 := 2) rfl ?_
  obtain ⟨s1, hs1, hf⟩ := nm_ex hf
  refine g_puti hc (by decide) fo_X5_37 clO_7 poK_7_3 rfl (u7 (by omega)) rfl rfl dX5_goBankrupt_2 (pc2 := 5) rfl ?_
  refine g_nms hs1 ?_
  refine g_aload_n (i := 0) hc 0 rfl rfl dX5_goBankrupt_5 (pc2 := 6) rfl ?_
  obtain ⟨s2, hp, hf⟩ := bv_some hf
  refine g_vV hc (k5_forgetDebts (by omega) hp) co_X5_29 (u7 (by omega)) rfl rfl (by decide) (by decide) (Nat.le_of_ble_eq_true rfl) dX5_goBankrupt_6 (pc2 := 9) rfl ?_
  refine g_aload_n (i := 0) hc 0 rfl rfl dX5_goBankrupt_9 (pc2 := 10) rfl ?_
  refine g_getr (q := ad κ.1 9 o) hc fo_X5_18 (u7 (by omega)) rfl dX5_goBankrupt_10 (pc2 := 13) rfl ?_
  refine g_iconst (v := (0 : Int32)) hc (by decide) dX5_goBankrupt_13 (pc2 := 14) rfl ?_
  obtain ⟨s3, hs3, hf⟩ := nm_ex hf
  refine g_puti hc (by decide) fo_X5_32 clO_9 poK_9_0 rfl (u9 (by omega)) rfl rfl dX5_goBankrupt_14 (pc2 := 17) rfl ?_
  refine g_nms hs3 ?_
  refine g_aload_n (i := 0) hc 0 rfl rfl dX5_goBankrupt_17 (pc2 := 18) rfl ?_
  refine g_getr (q := ad κ.1 13 o) hc fo_X5_25 (u7 (by omega)) rfl dX5_goBankrupt_18 (pc2 := 21) rfl ?_
  refine g_iconst (v := (0 : Int32)) hc (by decide) dX5_goBankrupt_21 (pc2 := 22) rfl ?_
  obtain ⟨s4, hs4, hf⟩ := nm_ex hf
  refine g_puti hc (by decide) fo_X5_36 clO_13 poK_13_0 rfl (u13 (by omega)) rfl rfl dX5_goBankrupt_22 (pc2 := 25) rfl ?_
  refine g_nms hs4 ?_
  exact g_vret hc hf hr (by decide) (by decide) dX5_goBankrupt_25
