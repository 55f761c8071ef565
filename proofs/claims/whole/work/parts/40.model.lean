def f7_thrown  (s0 : Mem) : Option (Int32 × Mem) :=
  some (s0 62 0 0, s0)
def rm_7_thrown : Room := { frames := 0, cells := 0, slots := 0, locals := 0 }
set_option maxHeartbeats 4000000 in
set_option maxRecDepth 100000 in
theorem k7_thrown {κ : Kx} {τ : Nat → Int64}  {s0 sR : Mem} {rR : Int32}  (hf : f7_thrown s0 = some (rR, sR)) : CtI κ yX7_thrown cX7_thrown 1 (some .int) rm_7_thrown (NV κ τ) (NV κ τ) [.ref (ad κ.1 19 0)] s0 sR rR := by
  refine ct_I (by decide +kernel) (Nat.le_of_ble_eq_true rfl) (fun φ hc hr => ?_)
  have hc : Cx κ φ RX7 cX7_thrown 1 rm_7_thrown := hc
  show G κ φ (QI κ φ (NV κ τ) sR rR rm_7_thrown.cells rm_7_thrown.slots) (NV κ τ) 0 0 s0 [(0, .ref (ad κ.1 19 0))] 0 []
  unfold f7_thrown at hf
  refine g_aload_n (i := 0) hc 0 rfl rfl dX7_thrown_0 (pc2 := 1) rfl ?_
  refine g_geti hc fo_X7_39 (u19 (by decide)) dX7_thrown_1 (pc2 := 4) rfl ?_
  exact g_iret hc hf hr rfl (by decide) (by decide) dX7_thrown_4
def f7_in (a1 : Int64) (a2 : Int64) (a3 : Int64) (s0 : Mem) : Option (Int32 × Mem) :=
  nm (fun (s1 : Mem) => some ((0 : Int32), s1)) fun j1 => (if (lg_cmp a1 a2) < (0 : Int32) then j1 s0 else (if (0 : Int32) < (lg_cmp a1 a3) then j1 s0 else some ((1 : Int32), s0)))
def rm_7_in : Room := { frames := 0, cells := 0, slots := 0, locals := 0 }
set_option maxHeartbeats 4000000 in
set_option maxRecDepth 100000 in
theorem k7_in {κ : Kx} {τ : Nat → Int64} {a1 : Int64} {a2 : Int64} {a3 : Int64} {s0 sR : Mem} {rR : Int32}  (hf : f7_in a1 a2 a3 s0 = some (rR, sR)) : CtI κ yX7_in cX7_in 6 (some .boolean) rm_7_in (NV κ τ) (NV κ τ) [.long a1, .long a2, .long a3] s0 sR rR := by
  refine ct_I (by decide +kernel) (Nat.le_of_ble_eq_true rfl) (fun φ hc hr => ?_)
  have hc : Cx κ φ RX7 cX7_in 6 rm_7_in := hc
  show G κ φ (QI κ φ (NV κ τ) sR rR rm_7_in.cells rm_7_in.slots) (NV κ τ) 0 0 s0 [(0, .long a1), (2, .long a2), (4, .long a3)] 0 []
  unfold f7_in at hf
  refine g_lload_n (i := 0) hc 0 rfl rfl dX7_in_0 (pc2 := 1) rfl ?_
  refine g_lload_n (i := 2) hc 1 rfl rfl dX7_in_1 (pc2 := 2) rfl ?_
  refine g_lcmp hc dX7_in_2 (pc2 := 3) rfl ?_
  obtain ⟨j1, hj1, hf⟩ := nm_ex hf
  have Hj1 : ∀ (s1 : Mem), j1 s1 = some (rR, sR) → G κ φ (QI κ φ (NV κ τ) sR rR rm_7_in.cells rm_7_in.slots) (NV κ τ) 0 0 s1 [] 17 [] := by
    intro s1 hf
    rw [hj1] at hf
    refine g_iconst (v := (0 : Int32)) hc (by decide) dX7_in_17 (pc2 := 18) rfl ?_
    exact g_iret hc hf hr rfl (by decide) (by decide) dX7_in_18
  refine g_if_lt hc 17 (by decide) dX7_in_3 (pc2 := 6) rfl (fun q => ?_) (fun q => ?_)
  · have hf := ite_t hf q
    refine g_sub [] rfl ?_
    exact Hj1 _ hf
  · have hf := ite_f hf q
    refine g_lload_n (i := 0) hc 0 rfl rfl dX7_in_6 (pc2 := 7) rfl ?_
    refine g_lload hc 2 rfl dX7_in_7 (pc2 := 9) rfl ?_
    refine g_lcmp hc dX7_in_9 (pc2 := 10) rfl ?_
    refine g_if_gt hc 17 (by decide) dX7_in_10 (pc2 := 13) rfl (fun q => ?_) (fun q => ?_)
    · have hf := ite_t hf q
      refine g_sub [] rfl ?_
      exact Hj1 _ hf
    · have hf := ite_f hf q
      refine g_iconst (v := (1 : Int32)) hc (by decide) dX7_in_13 (pc2 := 14) rfl ?_
      refine g_goto hc 18 (by decide) dX7_in_14 ?_
      exact g_iret hc hf hr rfl (by decide) (by decide) dX7_in_18
def f7_fails (a1 : Int32) (s0 : Mem) : Option (Int32 × Mem) :=
  nm (ms s0 62 0 0 a1) fun s1 => some ((0 : Int32), s1)
def rm_7_fails : Room := { frames := 0, cells := 0, slots := 0, locals := 0 }
set_option maxHeartbeats 4000000 in
set_option maxRecDepth 100000 in
theorem k7_fails {κ : Kx} {τ : Nat → Int64} {a1 : Int32} {s0 sR : Mem} {rR : Int32}  (hf : f7_fails a1 s0 = some (rR, sR)) : CtI κ yX7_fails cX7_fails 2 (some .int) rm_7_fails (NV κ τ) (NV κ τ) [.ref (ad κ.1 19 0), .int a1] s0 sR rR := by
  refine ct_I (by decide +kernel) (Nat.le_of_ble_eq_true rfl) (fun φ hc hr => ?_)
  have hc : Cx κ φ RX7 cX7_fails 2 rm_7_fails := hc
  show G κ φ (QI κ φ (NV κ τ) sR rR rm_7_fails.cells rm_7_fails.slots) (NV κ τ) 0 0 s0 [(0, .ref (ad κ.1 19 0)), (1, .int a1)] 0 []
  unfold f7_fails at hf
  refine g_aload_n (i := 0) hc 0 rfl rfl dX7_fails_0 (pc2 := 1) rfl ?_
  refine g_iload_n (i := 1) hc 1 rfl rfl dX7_fails_1 (pc2 := 2) rfl ?_
  obtain ⟨s1, hs1, hf⟩ := nm_ex hf
  refine g_puti hc (by decide) fo_X7_39 clO_19 poK_19_9 rfl (u19 (by decide)) rfl rfl dX7_fails_2 (pc2 := 5) rfl ?_
  refine g_nms hs1 ?_
  refine g_iconst (v := (0 : Int32)) hc (by decide) dX7_fails_5 (pc2 := 6) rfl ?_
  exact g_iret hc hf hr rfl (by decide) (by decide) dX7_fails_6
def f7_anew_l76 (a1 : Int32) (a2 : Int32) (k3 : Mem → Option Mem) : Nat → Int32 → Mem → Option Mem
  | 0, _, _ => none
  | n1 + 1, m1, s8 => (if a2 ≤ m1 then k3 s8 else gd (nz a1) (gd (ib ((11 : Int32) + m1) 291) (nm (ms s8 20 0 ((11 : Int32) + m1).toNatClampNeg (m1 - m1 / a1 * a1)) fun s9 => nm (m1 + (1 : Int32)) fun x1 => f7_anew_l76 a1 a2 k3 n1 x1 s9)))
def f7_anew_l53  (k2 : Mem → Option Mem) : Nat → Int32 → Mem → Option Mem
  | 0, _, _ => none
  | n2 + 1, m2, s10 => (if (4 : Int32) ≤ m2 then k2 s10 else gd (ib ((7 : Int32) + m2) 291) (nm (ms s10 20 0 ((7 : Int32) + m2).toNatClampNeg (2 : Int32)) fun s11 => nm (m2 + (1 : Int32)) fun x2 => f7_anew_l53 k2 n2 x2 s11))
def f7_anew_l2  (k1 : Mem → Option Mem) : Nat → Int32 → Mem → Option Mem
  | 0, _, _ => none
  | n3 + 1, m3, s12 => (if (291 : Int32) ≤ m3 then k1 s12 else gd (ib m3 291) (nm (ms s12 20 0 m3.toNatClampNeg (0 : Int32)) fun s13 => nm (m3 + (1 : Int32)) fun x3 => f7_anew_l2 k1 n3 x3 s13))
def f7_anew (a1 : Int32) (a2 : Int32) (s0 : Mem) : Option Mem :=
  nm (fun (s1 : Mem) => nm (ms s1 20 0 (0 : Int32).toNatClampNeg a1) fun s2 => nm (ms s2 20 0 (1 : Int32).toNatClampNeg a2) fun s3 => nm (ms s3 20 0 (4 : Int32).toNatClampNeg (4 : Int32)) fun s4 => nm (ms s4 20 0 (5 : Int32).toNatClampNeg (-9 : Int32)) fun s5 => nm (fun (s6 : Mem) => nm (fun (s7 : Mem) => some s7) fun k3 => f7_anew_l76 a1 a2 k3 FU (0 : Int32) s6) fun k2 => f7_anew_l53 k2 FU (0 : Int32) s5) fun k1 => f7_anew_l2 k1 FU (0 : Int32) s0
def rm_7_anew : Room := { frames := 0, cells := 0, slots := 0, locals := 0 }
set_option maxHeartbeats 4000000 in
set_option maxRecDepth 100000 in
theorem k7_anew {κ : Kx} {τ : Nat → Int64} {a1 : Int32} {a2 : Int32} {s0 sR : Mem}  (hf : f7_anew a1 a2 s0 = some sR) : CtV κ yX7_anew cX7_anew 4 none rm_7_anew (NV κ τ) (NV κ τ) [.ref (ad κ.1 19 0), .int a1, .int a2] s0 sR := by
  refine ct_V (by decide +kernel) (Nat.le_of_ble_eq_true rfl) (fun φ hc hr => ?_)
  have hc : Cx κ φ RX7 cX7_anew 4 rm_7_anew := hc
  show G κ φ (QV κ φ (NV κ τ) sR rm_7_anew.cells rm_7_anew.slots) (NV κ τ) 0 0 s0 [(0, .ref (ad κ.1 19 0)), (1, .int a1), (2, .int a2)] 0 []
  unfold f7_anew at hf
  refine g_iconst (v := (0 : Int32)) hc (by decide) dX7_anew_0 (pc2 := 1) rfl ?_
  refine g_istore_n (i := 3) (L1 := [(3, .int (0 : Int32)), (0, .ref (ad κ.1 19 0)), (1, .int a1), (2, .int a2)]) hc rfl (by decide) rfl dX7_anew_1 (pc2 := 2) rfl ?_
  obtain ⟨k1, hk1, hf⟩ := nm_ex hf
  have Hk1 : ∀ (s1 : Mem), k1 s1 = some sR → G κ φ (QV κ φ (NV κ τ) sR rm_7_anew.cells rm_7_anew.slots) (NV κ τ) 0 0 s1 [(0, .ref (ad κ.1 19 0)), (1, .int a1), (2, .int a2)] 22 [] := by
    intro s1 hf
    rw [hk1] at hf
    refine g_aload_n (i := 0) hc 0 rfl rfl dX7_anew_22 (pc2 := 23) rfl ?_
    refine g_getr (q := ad κ.1 20 0) hc fo_X7_7 (u19 (by decide)) rfl dX7_anew_23 (pc2 := 26) rfl ?_
    refine g_iconst (v := (0 : Int32)) hc (by decide) dX7_anew_26 (pc2 := 27) rfl ?_
    refine g_iload_n (i := 1) hc 1 rfl rfl dX7_anew_27 (pc2 := 28) rfl ?_
    obtain ⟨s2, hs2, hf⟩ := nm_ex hf
    refine g_asti hc 20 0 rfl (u20 (by decide)) (by decide) dX7_anew_28 (pc2 := 29) rfl ?_
    refine g_nms hs2 ?_
    refine g_aload_n (i := 0) hc 0 rfl rfl dX7_anew_29 (pc2 := 30) rfl ?_
    refine g_getr (q := ad κ.1 20 0) hc fo_X7_7 (u19 (by decide)) rfl dX7_anew_30 (pc2 := 33) rfl ?_
    refine g_iconst (v := (1 : Int32)) hc (by decide) dX7_anew_33 (pc2 := 34) rfl ?_
    refine g_iload_n (i := 2) hc 2 rfl rfl dX7_anew_34 (pc2 := 35) rfl ?_
    obtain ⟨s3, hs3, hf⟩ := nm_ex hf
    refine g_asti hc 20 0 rfl (u20 (by decide)) (by decide) dX7_anew_35 (pc2 := 36) rfl ?_
    refine g_nms hs3 ?_
    refine g_aload_n (i := 0) hc 0 rfl rfl dX7_anew_36 (pc2 := 37) rfl ?_
    refine g_getr (q := ad κ.1 20 0) hc fo_X7_7 (u19 (by decide)) rfl dX7_anew_37 (pc2 := 40) rfl ?_
    refine g_iconst (v := (4 : Int32)) hc (by decide) dX7_anew_40 (pc2 := 41) rfl ?_
    refine g_iconst (v := (4 : Int32)) hc (by decide) dX7_anew_41 (pc2 := 42) rfl ?_
    obtain ⟨s4, hs4, hf⟩ := nm_ex hf
    refine g_asti hc 20 0 rfl (u20 (by decide)) (by decide) dX7_anew_42 (pc2 := 43) rfl ?_
    refine g_nms hs4 ?_
    refine g_aload_n (i := 0) hc 0 rfl rfl dX7_anew_43 (pc2 := 44) rfl ?_
    refine g_getr (q := ad κ.1 20 0) hc fo_X7_7 (u19 (by decide)) rfl dX7_anew_44 (pc2 := 47) rfl ?_
    refine g_iconst (v := (5 : Int32)) hc (by decide) dX7_anew_47 (pc2 := 48) rfl ?_
    refine g_bipush (v := (-9 : Int32)) hc (by decide) dX7_anew_48 (pc2 := 50) rfl ?_
    obtain ⟨s5, hs5, hf⟩ := nm_ex hf
    refine g_asti hc 20 0 rfl (u20 (by decide)) (by decide) dX7_anew_50 (pc2 := 51) rfl ?_
    refine g_nms hs5 ?_
    refine g_iconst (v := (0 : Int32)) hc (by decide) dX7_anew_51 (pc2 := 52) rfl ?_
    refine g_istore_n (i := 3) (L1 := [(3, .int (0 : Int32)), (0, .ref (ad κ.1 19 0)), (1, .int a1), (2, .int a2)]) hc rfl (by decide) rfl dX7_anew_52 (pc2 := 53) rfl ?_
    obtain ⟨k2, hk2, hf⟩ := nm_ex hf
    have Hk2 : ∀ (s6 : Mem), k2 s6 = some sR → G κ φ (QV κ φ (NV κ τ) sR rm_7_anew.cells rm_7_anew.slots) (NV κ τ) 0 0 s6 [(0, .ref (ad κ.1 19 0)), (1, .int a1), (2, .int a2)] 74 [] := by
      intro s6 hf
      rw [hk2] at hf
      refine g_iconst (v := (0 : Int32)) hc (by decide) dX7_anew_74 (pc2 := 75) rfl ?_
      refine g_istore_n (i := 3) (L1 := [(3, .int (0 : Int32)), (0, .ref (ad κ.1 19 0)), (1, .int a1), (2, .int a2)]) hc rfl (by decide) rfl dX7_anew_75 (pc2 := 76) rfl ?_
      obtain ⟨k3, hk3, hf⟩ := nm_ex hf
      have Hk3 : ∀ (s7 : Mem), k3 s7 = some sR → G κ φ (QV κ φ (NV κ τ) sR rm_7_anew.cells rm_7_anew.slots) (NV κ τ) 0 0 s7 [] 99 [] := by
        intro s7 hf
        rw [hk3] at hf
        exact g_vret hc hf hr (by decide) (by decide) dX7_anew_99
      have LP_n1 : ∀ (n1 : Nat) (m1 : Int32) (s8 : Mem), f7_anew_l76 a1 a2 k3 n1 m1 s8 = some sR → G κ φ (QV κ φ (NV κ τ) sR rm_7_anew.cells rm_7_anew.slots) (NV κ τ) 0 0 s8 [(0, .ref (ad κ.1 19 0)), (1, .int a1), (2, .int a2), (3, .int m1)] 76 [] := by
        intro n1
        induction n1 with
        | zero => intro m1 s8 hf; rw [f7_anew_l76] at hf; cases hf
        | succ n1 ih_n1 =>
          intro m1 s8 hf
          rw [f7_anew_l76] at hf
          refine g_iload_n (i := 3) hc 3 rfl rfl dX7_anew_76 (pc2 := 77) rfl ?_
          refine g_iload_n (i := 2) hc 2 rfl rfl dX7_anew_77 (pc2 := 78) rfl ?_
          refine g_icmp_ge hc 99 (by decide) dX7_anew_78 (pc2 := 81) rfl (fun q => ?_) (fun q => ?_)
          · have hf := ite_t hf q
            refine g_sub [] rfl ?_
            exact Hk3 _ hf
          · have hf := ite_f hf q
            refine g_aload_n (i := 0) hc 0 rfl rfl dX7_anew_81 (pc2 := 82) rfl ?_
            refine g_getr (q := ad κ.1 20 0) hc fo_X7_7 (u19 (by decide)) rfl dX7_anew_82 (pc2 := 85) rfl ?_
            refine g_bipush (v := (11 : Int32)) hc (by decide) dX7_anew_85 (pc2 := 87) rfl ?_
            refine g_iload_n (i := 3) hc 3 rfl rfl dX7_anew_87 (pc2 := 88) rfl ?_
            refine g_iadd hc dX7_anew_88 (pc2 := 89) rfl ?_
            refine g_iload_n (i := 3) hc 3 rfl rfl dX7_anew_89 (pc2 := 90) rfl ?_
            refine g_iload_n (i := 1) hc 1 rfl rfl dX7_anew_90 (pc2 := 91) rfl ?_
            obtain ⟨hg1, hf⟩ := gd_some hf
            refine g_irem hc (nz_of hg1) dX7_anew_91 (pc2 := 92) rfl ?_
            obtain ⟨hg2, hf⟩ := gd_some hf
            obtain ⟨s9, hs9, hf⟩ := nm_ex hf
            refine g_asti hc 20 0 rfl (u20 (by decide)) hg2 dX7_anew_92 (pc2 := 93) rfl ?_
            refine g_nms hs9 ?_
            obtain ⟨x1, hx1, hf⟩ := nm_ex hf
            refine g_iinc (v := x1) (L1 := [(3, .int x1), (0, .ref (ad κ.1 19 0)), (1, .int a1), (2, .int a2)]) hc 3 rfl (by rw [hx1]; rfl) (by decide) rfl dX7_anew_93 (pc2 := 96) rfl ?_
            refine g_goto hc 76 (by decide) dX7_anew_96 ?_
            refine g_sub [1, 2, 3, 0] rfl ?_
            exact ih_n1 _ _ hf
      refine g_sub [1, 2, 3, 0] rfl ?_
      exact LP_n1 _ _ _ hf
    have LP_n2 : ∀ (n2 : Nat) (m2 : Int32) (s10 : Mem), f7_anew_l53 k2 n2 m2 s10 = some sR → G κ φ (QV κ φ (NV κ τ) sR rm_7_anew.cells rm_7_anew.slots) (NV κ τ) 0 0 s10 [(0, .ref (ad κ.1 19 0)), (1, .int a1), (2, .int a2), (3, .int m2)] 53 [] := by
      intro n2
      induction n2 with
      | zero => intro m2 s10 hf; rw [f7_anew_l53] at hf; cases hf
      | succ n2 ih_n2 =>
        intro m2 s10 hf
        rw [f7_anew_l53] at hf
        refine g_iload_n (i := 3) hc 3 rfl rfl dX7_anew_53 (pc2 := 54) rfl ?_
        refine g_iconst (v := (4 : Int32)) hc (by decide) dX7_anew_54 (pc2 := 55) rfl ?_
        refine g_icmp_ge hc 74 (by decide) dX7_anew_55 (pc2 := 58) rfl (fun q => ?_) (fun q => ?_)
        · have hf := ite_t hf q
          refine g_sub [0, 1, 2] rfl ?_
          exact Hk2 _ hf
        · have hf := ite_f hf q
          refine g_aload_n (i := 0) hc 0 rfl rfl dX7_anew_58 (pc2 := 59) rfl ?_
          refine g_getr (q := ad κ.1 20 0) hc fo_X7_7 (u19 (by decide)) rfl dX7_anew_59 (pc2 := 62) rfl ?_
          refine g_bipush (v := (7 : Int32)) hc (by decide) dX7_anew_62 (pc2 := 64) rfl ?_
          refine g_iload_n (i := 3) hc 3 rfl rfl dX7_anew_64 (pc2 := 65) rfl ?_
          refine g_iadd hc dX7_anew_65 (pc2 := 66) rfl ?_
          refine g_iconst (v := (2 : Int32)) hc (by decide) dX7_anew_66 (pc2 := 67) rfl ?_
          obtain ⟨hg3, hf⟩ := gd_some hf
          obtain ⟨s11, hs11, hf⟩ := nm_ex hf
          refine g_asti hc 20 0 rfl (u20 (by decide)) hg3 dX7_anew_67 (pc2 := 68) rfl ?_
          refine g_nms hs11 ?_
          obtain ⟨x2, hx2, hf⟩ := nm_ex hf
          refine g_iinc (v := x2) (L1 := [(3, .int x2), (0, .ref (ad κ.1 19 0)), (1, .int a1), (2, .int a2)]) hc 3 rfl (by rw [hx2]; rfl) (by decide) rfl dX7_anew_68 (pc2 := 71) rfl ?_
          refine g_goto hc 53 (by decide) dX7_anew_71 ?_
          refine g_sub [1, 2, 3, 0] rfl ?_
          exact ih_n2 _ _ hf
    refine g_sub [1, 2, 3, 0] rfl ?_
    exact LP_n2 _ _ _ hf
  have LP_n3 : ∀ (n3 : Nat) (m3 : Int32) (s12 : Mem), f7_anew_l2 k1 n3 m3 s12 = some sR → G κ φ (QV κ φ (NV κ τ) sR rm_7_anew.cells rm_7_anew.slots) (NV κ τ) 0 0 s12 [(0, .ref (ad κ.1 19 0)), (1, .int a1), (2, .int a2), (3, .int m3)] 2 [] := by
    intro n3
    induction n3 with
    | zero => intro m3 s12 hf; rw [f7_anew_l2] at hf; cases hf
    | succ n3 ih_n3 =>
      intro m3 s12 hf
      rw [f7_anew_l2] at hf
      refine g_iload_n (i := 3) hc 3 rfl rfl dX7_anew_2 (pc2 := 3) rfl ?_
      refine g_sipush (v := (291 : Int32)) hc (by decide) dX7_anew_3 (pc2 := 6) rfl ?_
      refine g_icmp_ge hc 22 (by decide) dX7_anew_6 (pc2 := 9) rfl (fun q => ?_) (fun q => ?_)
      · have hf := ite_t hf q
        refine g_sub [0, 1, 2] rfl ?_
        exact Hk1 _ hf
      · have hf := ite_f hf q
        refine g_aload_n (i := 0) hc 0 rfl rfl dX7_anew_9 (pc2 := 10) rfl ?_
        refine g_getr (q := ad κ.1 20 0) hc fo_X7_7 (u19 (by decide)) rfl dX7_anew_10 (pc2 := 13) rfl ?_
        refine g_iload_n (i := 3) hc 3 rfl rfl dX7_anew_13 (pc2 := 14) rfl ?_
        refine g_iconst (v := (0 : Int32)) hc (by decide) dX7_anew_14 (pc2 := 15) rfl ?_
        obtain ⟨hg4, hf⟩ := gd_some hf
        obtain ⟨s13, hs13, hf⟩ := nm_ex hf
        refine g_asti hc 20 0 rfl (u20 (by decide)) hg4 dX7_anew_15 (pc2 := 16) rfl ?_
        refine g_nms hs13 ?_
        obtain ⟨x3, hx3, hf⟩ := nm_ex hf
        refine g_iinc (v := x3) (L1 := [(3, .int x3), (0, .ref (ad κ.1 19 0)), (1, .int a1), (2, .int a2)]) hc 3 rfl (by rw [hx3]; rfl) (by decide) rfl dX7_anew_16 (pc2 := 19) rfl ?_
        refine g_goto hc 2 (by decide) dX7_anew_19 ?_
        refine g_sub [1, 2, 3, 0] rfl ?_
        exact ih_n3 _ _ hf
  refine g_sub [1, 2, 3, 0] rfl ?_
  exact LP_n3 _ _ _ hf
def f7_copy_l2 (a1 : Nat) (a2 : Nat) (k1 : Mem → Option Mem) : Nat → Int32 → Mem → Option Mem
  | 0, _, _ => none
  | n1 + 1, m1, s2 => (if (291 : Int32) ≤ m1 then k1 s2 else gd (ib m1 291) (gd (ib m1 291) (nm (ms s2 20 a2 m1.toNatClampNeg (s2 20 a1 m1.toNatClampNeg)) fun s3 => nm (m1 + (1 : Int32)) fun x1 => f7_copy_l2 a1 a2 k1 n1 x1 s3)))
def f7_copy (a1 : Nat) (a2 : Nat) (s0 : Mem) : Option Mem :=
  nm (fun (s1 : Mem) => some s1) fun k1 => f7_copy_l2 a1 a2 k1 FU (0 : Int32) s0
def rm_7_copy : Room := { frames := 0, cells := 0, slots := 0, locals := 0 }
set_option maxHeartbeats 4000000 in
set_option maxRecDepth 100000 in
theorem k7_copy {κ : Kx} {τ : Nat → Int64} {a1 : Nat} {a2 : Nat} {s0 sR : Mem} (h_a1 : a1 < 3) (h_a2 : a2 < 3) (hf : f7_copy a1 a2 s0 = some sR) : CtV κ yX7_copy cX7_copy 3 none rm_7_copy (NV κ τ) (NV κ τ) [.ref (ad κ.1 20 a1), .ref (ad κ.1 20 a2)] s0 sR := by
  refine ct_V (by decide +kernel) (Nat.le_of_ble_eq_true rfl) (fun φ hc hr => ?_)
  have hc : Cx κ φ RX7 cX7_copy 3 rm_7_copy := hc
  show G κ φ (QV κ φ (NV κ τ) sR rm_7_copy.cells rm_7_copy.slots) (NV κ τ) 0 0 s0 [(0, .ref (ad κ.1 20 a1)), (1, .ref (ad κ.1 20 a2))] 0 []
  unfold f7_copy at hf
  refine g_iconst (v := (0 : Int32)) hc (by decide) dX7_copy_0 (pc2 := 1) rfl ?_
  refine g_istore_n (i := 2) (L1 := [(2, .int (0 : Int32)), (0, .ref (ad κ.1 20 a1)), (1, .ref (ad κ.1 20 a2))]) hc rfl (by decide) rfl dX7_copy_1 (pc2 := 2) rfl ?_
  obtain ⟨k1, hk1, hf⟩ := nm_ex hf
  have Hk1 : ∀ (s1 : Mem), k1 s1 = some sR → G κ φ (QV κ φ (NV κ τ) sR rm_7_copy.cells rm_7_copy.slots) (NV κ τ) 0 0 s1 [] 21 [] := by
    intro s1 hf
    rw [hk1] at hf
    exact g_vret hc hf hr (by decide) (by decide) dX7_copy_21
  have LP_n1 : ∀ (n1 : Nat) (m1 : Int32) (s2 : Mem), f7_copy_l2 a1 a2 k1 n1 m1 s2 = some sR → G κ φ (QV κ φ (NV κ τ) sR rm_7_copy.cells rm_7_copy.slots) (NV κ τ) 0 0 s2 [(0, .ref (ad κ.1 20 a1)), (1, .ref (ad κ.1 20 a2)), (2, .int m1)] 2 [] := by
    intro n1
    induction n1 with
    | zero => intro m1 s2 hf; rw [f7_copy_l2] at hf; cases hf
    | succ n1 ih_n1 =>
      intro m1 s2 hf
      rw [f7_copy_l2] at hf
      refine g_iload_n (i := 2) hc 2 rfl rfl dX7_copy_2 (pc2 := 3) rfl ?_
      refine g_sipush (v := (291 : Int32)) hc (by decide) dX7_copy_3 (pc2 := 6) rfl ?_
      refine g_icmp_ge hc 21 (by decide) dX7_copy_6 (pc2 := 9) rfl (fun q => ?_) (fun q => ?_)
      · have hf := ite_t hf q
        refine g_sub [] rfl ?_
        exact Hk1 _ hf
      · have hf := ite_f hf q
        refine g_aload_n (i := 1) hc 1 rfl rfl dX7_copy_9 (pc2 := 10) rfl ?_
        refine g_iload_n (i := 2) hc 2 rfl rfl dX7_copy_10 (pc2 := 11) rfl ?_
        refine g_aload_n (i := 0) hc 0 rfl rfl dX7_copy_11 (pc2 := 12) rfl ?_
        refine g_iload_n (i := 2) hc 2 rfl rfl dX7_copy_12 (pc2 := 13) rfl ?_
        obtain ⟨hg1, hf⟩ := gd_some hf
        refine g_aldi hc 20 a1 rfl (u20 (by omega)) hg1 dX7_copy_13 (pc2 := 14) rfl ?_
        obtain ⟨hg2, hf⟩ := gd_some hf
        obtain ⟨s3, hs3, hf⟩ := nm_ex hf
        refine g_asti hc 20 a2 rfl (u20 (by omega)) hg2 dX7_copy_14 (pc2 := 15) rfl ?_
        refine g_nms hs3 ?_
        obtain ⟨x1, hx1, hf⟩ := nm_ex hf
        refine g_iinc (v := x1) (L1 := [(2, .int x1), (0, .ref (ad κ.1 20 a1)), (1, .ref (ad κ.1 20 a2))]) hc 2 rfl (by rw [hx1]; rfl) (by decide) rfl dX7_copy_15 (pc2 := 18) rfl ?_
        refine g_goto hc 2 (by decide) dX7_copy_18 ?_
        refine g_sub [1, 2, 0] rfl ?_
        exact ih_n1 _ _ hf
  refine g_sub [1, 2, 0] rfl ?_
  exact LP_n1 _ _ _ hf
def f7_remember_l52  (k1 : Mem → Option Mem) : Nat → Int32 → Mem → Option Mem
  | 0, _, _ => none
  | n1 + 1, m1, s4 => (if (291 : Int32) ≤ m1 then k1 s4 else gd (ib m1 291) (gd (ib (((291 : Int32) * (s4 60 0 0)) + m1) 4074) (nm (ms s4 21 0 (((291 : Int32) * (s4 60 0 0)) + m1).toNatClampNeg (s4 20 0 m1.toNatClampNeg)) fun s5 => nm (m1 + (1 : Int32)) fun x1 => f7_remember_l52 k1 n1 x1 s5)))
def f7_remember_l11  (k2 : Mem → Option Mem) : Nat → Int32 → Mem → Option Mem
  | 0, _, _ => none
  | n2 + 1, m2, s8 => (if (3783 : Int32) ≤ m2 then k2 s8 else gd (ib (m2 + (291 : Int32)) 4074) (gd (ib m2 4074) (nm (ms s8 21 0 m2.toNatClampNeg (s8 21 0 (m2 + (291 : Int32)).toNatClampNeg)) fun s9 => nm (m2 + (1 : Int32)) fun x2 => f7_remember_l11 k2 n2 x2 s9)))
def f7_remember  (s0 : Mem) : Option Mem :=
  nm (fun (s1 : Mem) => nm (fun (s2 : Mem) => nm (ms s2 60 0 0 ((s2 60 0 0) + (1 : Int32))) fun s3 => some s3) fun k1 => f7_remember_l52 k1 FU (0 : Int32) s1) fun j1 => (if (s0 60 0 0) = (14 : Int32) then nm (fun (s6 : Mem) => nm (ms s6 60 0 0 ((s6 60 0 0) - (1 : Int32))) fun s7 => j1 s7) fun k2 => f7_remember_l11 k2 FU (0 : Int32) s0 else j1 s0)
def rm_7_remember : Room := { frames := 0, cells := 0, slots := 0, locals := 0 }
set_option maxHeartbeats 4000000 in
set_option maxRecDepth 100000 in
theorem k7_remember {κ : Kx} {τ : Nat → Int64}  {s0 sR : Mem}  (hf : f7_remember s0 = some sR) : CtV κ yX7_remember cX7_remember 2 none rm_7_remember (NV κ τ) (NV κ τ) [.ref (ad κ.1 19 0)] s0 sR := by
  refine ct_V (by decide +kernel) (Nat.le_of_ble_eq_true rfl) (fun φ hc hr => ?_)
  have hc : Cx κ φ RX7 cX7_remember 2 rm_7_remember := hc
  show G κ φ (QV κ φ (NV κ τ) sR rm_7_remember.cells rm_7_remember.slots) (NV κ τ) 0 0 s0 [(0, .ref (ad κ.1 19 0))] 0 []
  unfold f7_remember at hf
  refine g_aload_n (i := 0) hc 0 rfl rfl dX7_remember_0 (pc2 := 1) rfl ?_
  refine g_geti hc fo_X7_43 (u19 (by decide)) dX7_remember_1 (pc2 := 4) rfl ?_
  refine g_bipush (v := (14 : Int32)) hc (by decide) dX7_remember_4 (pc2 := 6) rfl ?_
  obtain ⟨j1, hj1, hf⟩ := nm_ex hf
  have Hj1 : ∀ (s1 : Mem), j1 s1 = some sR → G κ φ (QV κ φ (NV κ τ) sR rm_7_remember.cells rm_7_remember.slots) (NV κ τ) 0 0 s1 [(0, .ref (ad κ.1 19 0))] 50 [] := by
    intro s1 hf
    rw [hj1] at hf
    refine g_iconst (v := (0 : Int32)) hc (by decide) dX7_remember_50 (pc2 := 51) rfl ?_
    refine g_istore_n (i := 1) (L1 := [(1, .int (0 : Int32)), (0, .ref (ad κ.1 19 0))]) hc rfl (by decide) rfl dX7_remember_51 (pc2 := 52) rfl ?_
    obtain ⟨k1, hk1, hf⟩ := nm_ex hf
    have Hk1 : ∀ (s2 : Mem), k1 s2 = some sR → G κ φ (QV κ φ (NV κ τ) sR rm_7_remember.cells rm_7_remember.slots) (NV κ τ) 0 0 s2 [(0, .ref (ad κ.1 19 0))] 86 [] := by
      intro s2 hf
      rw [hk1] at hf
      refine g_aload_n (i := 0) hc 0 rfl rfl dX7_remember_86 (pc2 := 87) rfl ?_
      refine g_dup hc rfl dX7_remember_87 (pc2 := 88) rfl ?_
      refine g_geti hc fo_X7_43 (u19 (by decide)) dX7_remember_88 (pc2 := 91) rfl ?_
      refine g_iconst (v := (1 : Int32)) hc (by decide) dX7_remember_91 (pc2 := 92) rfl ?_
      refine g_iadd hc dX7_remember_92 (pc2 := 93) rfl ?_
      obtain ⟨s3, hs3, hf⟩ := nm_ex hf
      refine g_puti hc (by decide) fo_X7_43 clO_19 poK_19_4 rfl (u19 (by decide)) rfl rfl dX7_remember_93 (pc2 := 96) rfl ?_
      refine g_nms hs3 ?_
      exact g_vret hc hf hr (by decide) (by decide) dX7_remember_96
    have LP_n1 : ∀ (n1 : Nat) (m1 : Int32) (s4 : Mem), f7_remember_l52 k1 n1 m1 s4 = some sR → G κ φ (QV κ φ (NV κ τ) sR rm_7_remember.cells rm_7_remember.slots) (NV κ τ) 0 0 s4 [(0, .ref (ad κ.1 19 0)), (1, .int m1)] 52 [] := by
      intro n1
      induction n1 with
      | zero => intro m1 s4 hf; rw [f7_remember_l52] at hf; cases hf
      | succ n1 ih_n1 =>
        intro m1 s4 hf
        rw [f7_remember_l52] at hf
        refine g_iload_n (i := 1) hc 1 rfl rfl dX7_remember_52 (pc2 := 53) rfl ?_
        refine g_sipush (v := (291 : Int32)) hc (by decide) dX7_remember_53 (pc2 := 56) rfl ?_
        refine g_icmp_ge hc 86 (by decide) dX7_remember_56 (pc2 := 59) rfl (fun q => ?_) (fun q => ?_)
        · have hf := ite_t hf q
          refine g_sub [0] rfl ?_
          exact Hk1 _ hf
        · have hf := ite_f hf q
          refine g_aload_n (i := 0) hc 0 rfl rfl dX7_remember_59 (pc2 := 60) rfl ?_
          refine g_getr (q := ad κ.1 21 0) hc fo_X7_19 (u19 (by decide)) rfl dX7_remember_60 (pc2 := 63) rfl ?_
          refine g_sipush (v := (291 : Int32)) hc (by decide) dX7_remember_63 (pc2 := 66) rfl ?_
          refine g_aload_n (i := 0) hc 0 rfl rfl dX7_remember_66 (pc2 := 67) rfl ?_
          refine g_geti hc fo_X7_43 (u19 (by decide)) dX7_remember_67 (pc2 := 70) rfl ?_
          refine g_imul hc dX7_remember_70 (pc2 := 71) rfl ?_
          refine g_iload_n (i := 1) hc 1 rfl rfl dX7_remember_71 (pc2 := 72) rfl ?_
          refine g_iadd hc dX7_remember_72 (pc2 := 73) rfl ?_
          refine g_aload_n (i := 0) hc 0 rfl rfl dX7_remember_73 (pc2 := 74) rfl ?_
          refine g_getr (q := ad κ.1 20 0) hc fo_X7_7 (u19 (by decide)) rfl dX7_remember_74 (pc2 := 77) rfl ?_
          refine g_iload_n (i := 1) hc 1 rfl rfl dX7_remember_77 (pc2 := 78) rfl ?_
          obtain ⟨hg1, hf⟩ := gd_some hf
          refine g_aldi hc 20 0 rfl (u20 (by decide)) hg1 dX7_remember_78 (pc2 := 79) rfl ?_
          obtain ⟨hg2, hf⟩ := gd_some hf
          obtain ⟨s5, hs5, hf⟩ := nm_ex hf
          refine g_asti hc 21 0 rfl (u21 (by decide)) hg2 dX7_remember_79 (pc2 := 80) rfl ?_
          refine g_nms hs5 ?_
          obtain ⟨x1, hx1, hf⟩ := nm_ex hf
          refine g_iinc (v := x1) (L1 := [(1, .int x1), (0, .ref (ad κ.1 19 0))]) hc 1 rfl (by rw [hx1]; rfl) (by decide) rfl dX7_remember_80 (pc2 := 83) rfl ?_
          refine g_goto hc 52 (by decide) dX7_remember_83 ?_
          refine g_sub [1, 0] rfl ?_
          exact ih_n1 _ _ hf
    refine g_sub [1, 0] rfl ?_
    exact LP_n1 _ _ _ hf
  refine g_icmp_ne hc 50 (by decide) dX7_remember_6 (pc2 := 9) rfl (fun q => ?_) (fun q => ?_)
  · have hf := ite_f hf q
    exact Hj1 _ hf
  · have hf := ite_t hf q
    refine g_iconst (v := (0 : Int32)) hc (by decide) dX7_remember_9 (pc2 := 10) rfl ?_
    refine g_istore_n (i := 1) (L1 := [(1, .int (0 : Int32)), (0, .ref (ad κ.1 19 0))]) hc rfl (by decide) rfl dX7_remember_10 (pc2 := 11) rfl ?_
    obtain ⟨k2, hk2, hf⟩ := nm_ex hf
    have Hk2 : ∀ (s6 : Mem), k2 s6 = some sR → G κ φ (QV κ φ (NV κ τ) sR rm_7_remember.cells rm_7_remember.slots) (NV κ τ) 0 0 s6 [(0, .ref (ad κ.1 19 0))] 40 [] := by
      intro s6 hf
      rw [hk2] at hf
      refine g_aload_n (i := 0) hc 0 rfl rfl dX7_remember_40 (pc2 := 41) rfl ?_
      refine g_dup hc rfl dX7_remember_41 (pc2 := 42) rfl ?_
      refine g_geti hc fo_X7_43 (u19 (by decide)) dX7_remember_42 (pc2 := 45) rfl ?_
      refine g_iconst (v := (1 : Int32)) hc (by decide) dX7_remember_45 (pc2 := 46) rfl ?_
      refine g_isub hc dX7_remember_46 (pc2 := 47) rfl ?_
      obtain ⟨s7, hs7, hf⟩ := nm_ex hf
      refine g_puti hc (by decide) fo_X7_43 clO_19 poK_19_4 rfl (u19 (by decide)) rfl rfl dX7_remember_47 (pc2 := 50) rfl ?_
      refine g_nms hs7 ?_
      exact Hj1 _ hf
    have LP_n2 : ∀ (n2 : Nat) (m2 : Int32) (s8 : Mem), f7_remember_l11 k2 n2 m2 s8 = some sR → G κ φ (QV κ φ (NV κ τ) sR rm_7_remember.cells rm_7_remember.slots) (NV κ τ) 0 0 s8 [(0, .ref (ad κ.1 19 0)), (1, .int m2)] 11 [] := by
      intro n2
      induction n2 with
      | zero => intro m2 s8 hf; rw [f7_remember_l11] at hf; cases hf
      | succ n2 ih_n2 =>
        intro m2 s8 hf
        rw [f7_remember_l11] at hf
        refine g_iload_n (i := 1) hc 1 rfl rfl dX7_remember_11 (pc2 := 12) rfl ?_
        refine g_sipush (v := (3783 : Int32)) hc (by decide) dX7_remember_12 (pc2 := 15) rfl ?_
        refine g_icmp_ge hc 40 (by decide) dX7_remember_15 (pc2 := 18) rfl (fun q => ?_) (fun q => ?_)
        · have hf := ite_t hf q
          refine g_sub [0] rfl ?_
          exact Hk2 _ hf
        · have hf := ite_f hf q
          refine g_aload_n (i := 0) hc 0 rfl rfl dX7_remember_18 (pc2 := 19) rfl ?_
          refine g_getr (q := ad κ.1 21 0) hc fo_X7_19 (u19 (by decide)) rfl dX7_remember_19 (pc2 := 22) rfl ?_
          refine g_iload_n (i := 1) hc 1 rfl rfl dX7_remember_22 (pc2 := 23) rfl ?_
          refine g_aload_n (i := 0) hc 0 rfl rfl dX7_remember_23 (pc2 := 24) rfl ?_
          refine g_getr (q := ad κ.1 21 0) hc fo_X7_19 (u19 (by decide)) rfl dX7_remember_24 (pc2 := 27) rfl ?_
          refine g_iload_n (i := 1) hc 1 rfl rfl dX7_remember_27 (pc2 := 28) rfl ?_
          refine g_sipush (v := (291 : Int32)) hc (by decide) dX7_remember_28 (pc2 := 31) rfl ?_
          refine g_iadd hc dX7_remember_31 (pc2 := 32) rfl ?_
          obtain ⟨hg3, hf⟩ := gd_some hf
          refine g_aldi hc 21 0 rfl (u21 (by decide)) hg3 dX7_remember_32 (pc2 := 33) rfl ?_
          obtain ⟨hg4, hf⟩ := gd_some hf
          obtain ⟨s9, hs9, hf⟩ := nm_ex hf
          refine g_asti hc 21 0 rfl (u21 (by decide)) hg4 dX7_remember_33 (pc2 := 34) rfl ?_
          refine g_nms hs9 ?_
          obtain ⟨x2, hx2, hf⟩ := nm_ex hf
          refine g_iinc (v := x2) (L1 := [(1, .int x2), (0, .ref (ad κ.1 19 0))]) hc 1 rfl (by rw [hx2]; rfl) (by decide) rfl dX7_remember_34 (pc2 := 37) rfl ?_
          refine g_goto hc 11 (by decide) dX7_remember_37 ?_
          refine g_sub [1, 0] rfl ?_
          exact ih_n2 _ _ hf
    refine g_sub [1, 0] rfl ?_
    exact LP_n2 _ _ _ hf
def f7_isMaster (a1 : Int32) (s0 : Mem) : Option (Int32 × Mem) :=
  bd (f7_in (a1.toInt64) (0 : Int64) (((s0 20 0 ((0 : Int32)).toNatClampNeg) - (1 : Int32)).toInt64) s0) fun r1 s1 => gd (zok r1) (some (r1, s1))
def rm_7_isMaster : Room := { frames := 1, cells := 0, slots := 0, locals := 25 }
set_option maxHeartbeats 4000000 in
set_option maxRecDepth 100000 in
theorem k7_isMaster {κ : Kx} {τ : Nat → Int64} {a1 : Int32} {s0 sR : Mem} {rR : Int32}  (hf : f7_isMaster a1 s0 = some (rR, sR)) : CtI κ yX7_isMaster cX7_isMaster 2 (some .boolean) rm_7_isMaster (NV κ τ) (NV κ τ) [.ref (ad κ.1 19 0), .int a1] s0 sR rR := by
  refine ct_I (by decide +kernel) (Nat.le_of_ble_eq_true rfl) (fun φ hc hr => ?_)
  have hc : Cx κ φ RX7 cX7_isMaster 2 rm_7_isMaster := hc
  show G κ φ (QI κ φ (NV κ τ) sR rR rm_7_isMaster.cells rm_7_isMaster.slots) (NV κ τ) 0 0 s0 [(0, .ref (ad κ.1 19 0)), (1, .int a1)] 0 []
  unfold f7_isMaster at hf
  refine g_iload_n (i := 1) hc 1 rfl rfl dX7_isMaster_0 (pc2 := 1) rfl ?_
  refine g_i2l hc dX7_isMaster_1 (pc2 := 2) rfl ?_
  refine g_lconst (v := (0 : Int64)) hc (by decide) dX7_isMaster_2 (pc2 := 3) rfl ?_
  refine g_aload_n (i := 0) hc 0 rfl rfl dX7_isMaster_3 (pc2 := 4) rfl ?_
  refine g_getr (q := ad κ.1 20 0) hc fo_X7_7 (u19 (by decide)) rfl dX7_isMaster_4 (pc2 := 7) rfl ?_
  refine g_iconst (v := (0 : Int32)) hc (by decide) dX7_isMaster_7 (pc2 := 8) rfl ?_
  refine g_aldi hc 20 0 rfl (u20 (by decide)) (by decide) dX7_isMaster_8 (pc2 := 9) rfl ?_
  refine g_iconst (v := (1 : Int32)) hc (by decide) dX7_isMaster_9 (pc2 := 10) rfl ?_
  refine g_isub hc dX7_isMaster_10 (pc2 := 11) rfl ?_
  refine g_i2l hc dX7_isMaster_11 (pc2 := 12) rfl ?_
  obtain ⟨r1, s1, hp, hf⟩ := bd_some hf
  refine g_sI hc (k7_in hp) co_X7_46 rfl rfl (by decide) (by decide) (Nat.le_of_ble_eq_true rfl) dX7_isMaster_12 (pc2 := 15) rfl ?_
  obtain ⟨hg1, hf⟩ := gd_some hf
  exact g_iret hc hf hr (zok_n hg1) (by decide) (by decide) dX7_isMaster_15
def f7_isSlot (a1 : Int32) (s0 : Mem) : Option (Int32 × Mem) :=
  bd (f7_in (a1.toInt64) (0 : Int64) (((s0 20 0 ((1 : Int32)).toNatClampNeg) - (1 : Int32)).toInt64) s0) fun r1 s1 => gd (zok r1) (some (r1, s1))
def rm_7_isSlot : Room := { frames := 1, cells := 0, slots := 0, locals := 25 }
set_option maxHeartbeats 4000000 in
set_option maxRecDepth 100000 in
theorem k7_isSlot {κ : Kx} {τ : Nat → Int64} {a1 : Int32} {s0 sR : Mem} {rR : Int32}  (hf : f7_isSlot a1 s0 = some (rR, sR)) : CtI κ yX7_isSlot cX7_isSlot 2 (some .boolean) rm_7_isSlot (NV κ τ) (NV κ τ) [.ref (ad κ.1 19 0), .int a1] s0 sR rR := by
  refine ct_I (by decide +kernel) (Nat.le_of_ble_eq_true rfl) (fun φ hc hr => ?_)
  have hc : Cx κ φ RX7 cX7_isSlot 2 rm_7_isSlot := hc
  show G κ φ (QI κ φ (NV κ τ) sR rR rm_7_isSlot.cells rm_7_isSlot.slots) (NV κ τ) 0 0 s0 [(0, .ref (ad κ.1 19 0)), (1, .int a1)] 0 []
  unfold f7_isSlot at hf
  refine g_iload_n (i := 1) hc 1 rfl rfl dX7_isSlot_0 (pc2 := 1) rfl ?_
  refine g_i2l hc dX7_isSlot_1 (pc2 := 2) rfl ?_
  refine g_lconst (v := (0 : Int64)) hc (by decide) dX7_isSlot_2 (pc2 := 3) rfl ?_
  refine g_aload_n (i := 0) hc 0 rfl rfl dX7_isSlot_3 (pc2 := 4) rfl ?_
  refine g_getr (q := ad κ.1 20 0) hc fo_X7_7 (u19 (by decide)) rfl dX7_isSlot_4 (pc2 := 7) rfl ?_
  refine g_iconst (v := (1 : Int32)) hc (by decide) dX7_isSlot_7 (pc2 := 8) rfl ?_
  refine g_aldi hc 20 0 rfl (u20 (by decide)) (by decide) dX7_isSlot_8 (pc2 := 9) rfl ?_
  refine g_iconst (v := (1 : Int32)) hc (by decide) dX7_isSlot_9 (pc2 := 10) rfl ?_
  refine g_isub hc dX7_isSlot_10 (pc2 := 11) rfl ?_
  refine g_i2l hc dX7_isSlot_11 (pc2 := 12) rfl ?_
  obtain ⟨r1, s1, hp, hf⟩ := bd_some hf
  refine g_sI hc (k7_in hp) co_X7_46 rfl rfl (by decide) (by decide) (Nat.le_of_ble_eq_true rfl) dX7_isSlot_12 (pc2 := 15) rfl ?_
  obtain ⟨hg1, hf⟩ := gd_some hf
  exact g_iret hc hf hr (zok_n hg1) (by decide) (by decide) dX7_isSlot_15
def f7_isSlave (a1 : Int32) (s0 : Mem) : Option (Int32 × Mem) :=
  bd (f7_in (a1.toInt64) (0 : Int64) (3 : Int64) s0) fun r1 s1 => gd (zok r1) (some (r1, s1))
def rm_7_isSlave : Room := { frames := 1, cells := 0, slots := 0, locals := 25 }
set_option maxHeartbeats 4000000 in
set_option maxRecDepth 100000 in
theorem k7_isSlave {κ : Kx} {τ : Nat → Int64} {a1 : Int32} {s0 sR : Mem} {rR : Int32}  (hf : f7_isSlave a1 s0 = some (rR, sR)) : CtI κ yX7_isSlave cX7_isSlave 1 (some .boolean) rm_7_isSlave (NV κ τ) (NV κ τ) [.int a1] s0 sR rR := by
  refine ct_I (by decide +kernel) (Nat.le_of_ble_eq_true rfl) (fun φ hc hr => ?_)
  have hc : Cx κ φ RX7 cX7_isSlave 1 rm_7_isSlave := hc
  show G κ φ (QI κ φ (NV κ τ) sR rR rm_7_isSlave.cells rm_7_isSlave.slots) (NV κ τ) 0 0 s0 [(0, .int a1)] 0 []
  unfold f7_isSlave at hf
  refine g_iload_n (i := 0) hc 0 rfl rfl dX7_isSlave_0 (pc2 := 1) rfl ?_
  refine g_i2l hc dX7_isSlave_1 (pc2 := 2) rfl ?_
  refine g_lconst (v := (0 : Int64)) hc (by decide) dX7_isSlave_2 (pc2 := 3) rfl ?_
  refine g_ldc2 (v := (3 : Int64)) hc (gwm 1106 (by decide +kernel) (by decide +kernel)) dX7_isSlave_3 (pc2 := 6) rfl ?_
  obtain ⟨r1, s1, hp, hf⟩ := bd_some hf
  refine g_sI hc (k7_in hp) co_X7_46 rfl rfl (by decide) (by decide) (Nat.le_of_ble_eq_true rfl) dX7_isSlave_6 (pc2 := 9) rfl ?_
  obtain ⟨hg1, hf⟩ := gd_some hf
  exact g_iret hc hf hr (zok_n hg1) (by decide) (by decide) dX7_isSlave_9
def f7_isBankrupt (a1 : Int32) (s0 : Mem) : Option (Int32 × Mem) :=
  (if (((s0 20 0 ((6 : Int32)).toNatClampNeg) >>> (a1 &&& 31)) &&& (1 : Int32)) = (1 : Int32) then some ((1 : Int32), s0) else some ((0 : Int32), s0))
def rm_7_isBankrupt : Room := { frames := 0, cells := 0, slots := 0, locals := 0 }
set_option maxHeartbeats 4000000 in
set_option maxRecDepth 100000 in
theorem k7_isBankrupt {κ : Kx} {τ : Nat → Int64} {a1 : Int32} {s0 sR : Mem} {rR : Int32}  (hf : f7_isBankrupt a1 s0 = some (rR, sR)) : CtI κ yX7_isBankrupt cX7_isBankrupt 2 (some .boolean) rm_7_isBankrupt (NV κ τ) (NV κ τ) [.ref (ad κ.1 19 0), .int a1] s0 sR rR := by
  refine ct_I (by decide +kernel) (Nat.le_of_ble_eq_true rfl) (fun φ hc hr => ?_)
  have hc : Cx κ φ RX7 cX7_isBankrupt 2 rm_7_isBankrupt := hc
  show G κ φ (QI κ φ (NV κ τ) sR rR rm_7_isBankrupt.cells rm_7_isBankrupt.slots) (NV κ τ) 0 0 s0 [(0, .ref (ad κ.1 19 0)), (1, .int a1)] 0 []
  unfold f7_isBankrupt at hf
  refine g_aload_n (i := 0) hc 0 rfl rfl dX7_isBankrupt_0 (pc2 := 1) rfl ?_
  refine g_getr (q := ad κ.1 20 0) hc fo_X7_7 (u19 (by decide)) rfl dX7_isBankrupt_1 (pc2 := 4) rfl ?_
  refine g_bipush (v := (6 : Int32)) hc (by decide) dX7_isBankrupt_4 (pc2 := 6) rfl ?_
  refine g_aldi hc 20 0 rfl (u20 (by decide)) (by decide) dX7_isBankrupt_6 (pc2 := 7) rfl ?_
  refine g_iload_n (i := 1) hc 1 rfl rfl dX7_isBankrupt_7 (pc2 := 8) rfl ?_
  refine g_ishr hc dX7_isBankrupt_8 (pc2 := 9) rfl ?_
  refine g_iconst (v := (1 : Int32)) hc (by decide) dX7_isBankrupt_9 (pc2 := 10) rfl ?_
  refine g_iand hc dX7_isBankrupt_10 (pc2 := 11) rfl ?_
  refine g_iconst (v := (1 : Int32)) hc (by decide) dX7_isBankrupt_11 (pc2 := 12) rfl ?_
  refine g_icmp_ne hc 19 (by decide) dX7_isBankrupt_12 (pc2 := 15) rfl (fun q => ?_) (fun q => ?_)
  · have hf := ite_f hf q
    refine g_iconst (v := (0 : Int32)) hc (by decide) dX7_isBankrupt_19 (pc2 := 20) rfl ?_
    exact g_iret hc hf hr rfl (by decide) (by decide) dX7_isBankrupt_20
  · have hf := ite_t hf q
    refine g_iconst (v := (1 : Int32)) hc (by decide) dX7_isBankrupt_15 (pc2 := 16) rfl ?_
    refine g_goto hc 20 (by decide) dX7_isBankrupt_16 ?_
    exact g_iret hc hf hr rfl (by decide) (by decide) dX7_isBankrupt_20
def f7_at (a1 : Int32) (a2 : Int32) (s0 : Mem) : Option (Int32 × Mem) :=
  some (((63 : Int32) + ((38 : Int32) * a1)) + a2, s0)
def rm_7_at : Room := { frames := 0, cells := 0, slots := 0, locals := 0 }
set_option maxHeartbeats 4000000 in
set_option maxRecDepth 100000 in
theorem k7_at {κ : Kx} {τ : Nat → Int64} {a1 : Int32} {a2 : Int32} {s0 sR : Mem} {rR : Int32}  (hf : f7_at a1 a2 s0 = some (rR, sR)) : CtI κ yX7_at cX7_at 2 (some .int) rm_7_at (NV κ τ) (NV κ τ) [.int a1, .int a2] s0 sR rR := by
  refine ct_I (by decide +kernel) (Nat.le_of_ble_eq_true rfl) (fun φ hc hr => ?_)
  have hc : Cx κ φ RX7 cX7_at 2 rm_7_at := hc
  show G κ φ (QI κ φ (NV κ τ) sR rR rm_7_at.cells rm_7_at.slots) (NV κ τ) 0 0 s0 [(0, .int a1), (1, .int a2)] 0 []
  unfold f7_at at hf
  refine g_bipush (v := (63 : Int32)) hc (by decide) dX7_at_0 (pc2 := 2) rfl ?_
  refine g_bipush (v := (38 : Int32)) hc (by decide) dX7_at_2 (pc2 := 4) rfl ?_
  refine g_iload_n (i := 0) hc 0 rfl rfl dX7_at_4 (pc2 := 5) rfl ?_
  refine g_imul hc dX7_at_5 (pc2 := 6) rfl ?_
  refine g_iadd hc dX7_at_6 (pc2 := 7) rfl ?_
  refine g_iload_n (i := 1) hc 1 rfl rfl dX7_at_7 (pc2 := 8) rfl ?_
  refine g_iadd hc dX7_at_8 (pc2 := 9) rfl ?_
  exact g_iret hc hf hr rfl (by decide) (by decide) dX7_at_9
def f7_of (a1 : Int32) (a2 : Int32) (s0 : Mem) : Option (Int32 × Mem) :=
  bd (f7_at a1 a2 s0) fun r1 s1 => gd (ib r1 291) (some (s1 20 0 r1.toNatClampNeg, s1))
def rm_7_of : Room := { frames := 1, cells := 0, slots := 0, locals := 21 }
set_option maxHeartbeats 4000000 in
set_option maxRecDepth 100000 in
theorem k7_of {κ : Kx} {τ : Nat → Int64} {a1 : Int32} {a2 : Int32} {s0 sR : Mem} {rR : Int32}  (hf : f7_of a1 a2 s0 = some (rR, sR)) : CtI κ yX7_of cX7_of 3 (some .int) rm_7_of (NV κ τ) (NV κ τ) [.ref (ad κ.1 19 0), .int a1, .int a2] s0 sR rR := by
  refine ct_I (by decide +kernel) (Nat.le_of_ble_eq_true rfl) (fun φ hc hr => ?_)
  have hc : Cx κ φ RX7 cX7_of 3 rm_7_of := hc
  show G κ φ (QI κ φ (NV κ τ) sR rR rm_7_of.cells rm_7_of.slots) (NV κ τ) 0 0 s0 [(0, .ref (ad κ.1 19 0)), (1, .int a1), (2, .int a2)] 0 []
  unfold f7_of at hf
  refine g_aload_n (i := 0) hc 0 rfl rfl dX7_of_0 (pc2 := 1) rfl ?_
  refine g_getr (q := ad κ.1 20 0) hc fo_X7_7 (u19 (by decide)) rfl dX7_of_1 (pc2 := 4) rfl ?_
  refine g_iload_n (i := 1) hc 1 rfl rfl dX7_of_4 (pc2 := 5) rfl ?_
  refine g_iload_n (i := 2) hc 2 rfl rfl dX7_of_5 (pc2 := 6) rfl ?_
  obtain ⟨r1, s1, hp, hf⟩ := bd_some hf
  refine g_sI hc (k7_at hp) co_X7_52 rfl rfl (by decide) (by decide) (Nat.le_of_ble_eq_true rfl) dX7_of_6 (pc2 := 9) rfl ?_
  obtain ⟨hg1, hf⟩ := gd_some hf
  refine g_aldi hc 20 0 rfl (u20 (by decide)) hg1 dX7_of_9 (pc2 := 10) rfl ?_
  exact g_iret hc hf hr rfl (by decide) (by decide) dX7_of_10
def f7_owed (a1 : Int32) (a2 : Int32) (s0 : Mem) : Option (Int32 × Mem) :=
  gd (ib (((27 : Int32) + ((6 : Int32) * a1)) + a2) 291) (some (s0 20 0 (((27 : Int32) + ((6 : Int32) * a1)) + a2).toNatClampNeg, s0))
def rm_7_owed : Room := { frames := 0, cells := 0, slots := 0, locals := 0 }
set_option maxHeartbeats 4000000 in
set_option maxRecDepth 100000 in
theorem k7_owed {κ : Kx} {τ : Nat → Int64} {a1 : Int32} {a2 : Int32} {s0 sR : Mem} {rR : Int32}  (hf : f7_owed a1 a2 s0 = some (rR, sR)) : CtI κ yX7_owed cX7_owed 3 (some .int) rm_7_owed (NV κ τ) (NV κ τ) [.ref (ad κ.1 19 0), .int a1, .int a2] s0 sR rR := by
  refine ct_I (by decide +kernel) (Nat.le_of_ble_eq_true rfl) (fun φ hc hr => ?_)
  have hc : Cx κ φ RX7 cX7_owed 3 rm_7_owed := hc
  show G κ φ (QI κ φ (NV κ τ) sR rR rm_7_owed.cells rm_7_owed.slots) (NV κ τ) 0 0 s0 [(0, .ref (ad κ.1 19 0)), (1, .int a1), (2, .int a2)] 0 []
  unfold f7_owed at hf
  refine g_aload_n (i := 0) hc 0 rfl rfl dX7_owed_0 (pc2 := 1) rfl ?_
  refine g_getr (q := ad κ.1 20 0) hc fo_X7_7 (u19 (by decide)) rfl dX7_owed_1 (pc2 := 4) rfl ?_
  refine g_bipush (v := (27 : Int32)) hc (by decide) dX7_owed_4 (pc2 := 6) rfl ?_
  refine g_bipush (v := (6 : Int32)) hc (by decide) dX7_owed_6 (pc2 := 8) rfl ?_
  refine g_iload_n (i := 1) hc 1 rfl rfl dX7_owed_8 (pc2 := 9) rfl ?_
  refine g_imul hc dX7_owed_9 (pc2 := 10) rfl ?_
  refine g_iadd hc dX7_owed_10 (pc2 := 11) rfl ?_
  refine g_iload_n (i := 2) hc 2 rfl rfl dX7_owed_11 (pc2 := 12) rfl ?_
  refine g_iadd hc dX7_owed_12 (pc2 := 13) rfl ?_
  obtain ⟨hg1, hf⟩ := gd_some hf
  refine g_aldi hc 20 0 rfl (u20 (by decide)) hg1 dX7_owed_13 (pc2 := 14) rfl ?_
  exact g_iret hc hf hr rfl (by decide) (by decide) dX7_owed_14
def f7_debts_l4 (a1 : Int32) (k1 : Int32 → Mem → Option (Int32 × Mem)) : Nat → Int32 → Int32 → Mem → Option (Int32 × Mem)
  | 0, _, _, _ => none
  | n1 + 1, m1, m2, s2 => (if (6 : Int32) ≤ m2 then k1 m1 s2 else bd (f7_owed a1 m2 s2) fun r1 s3 => nm (m1 + r1) fun x1 => nm (m2 + (1 : Int32)) fun x2 => f7_debts_l4 a1 k1 n1 x1 x2 s3)
def f7_debts (a1 : Int32) (s0 : Mem) : Option (Int32 × Mem) :=
  nm (fun (y1 : Int32) (s1 : Mem) => some (y1, s1)) fun k1 => f7_debts_l4 a1 k1 FU (0 : Int32) (0 : Int32) s0
def rm_7_debts : Room := { frames := 1, cells := 0, slots := 0, locals := 22 }
set_option maxHeartbeats 4000000 in
set_option maxRecDepth 100000 in
theorem k7_debts {κ : Kx} {τ : Nat → Int64} {a1 : Int32} {s0 sR : Mem} {rR : Int32}  (hf : f7_debts a1 s0 = some (rR, sR)) : CtI κ yX7_debts cX7_debts 4 (some .int) rm_7_debts (NV κ τ) (NV κ τ) [.ref (ad κ.1 19 0), .int a1] s0 sR rR := by
  refine ct_I (by decide +kernel) (Nat.le_of_ble_eq_true rfl) (fun φ hc hr => ?_)
  have hc : Cx κ φ RX7 cX7_debts 4 rm_7_debts := hc
  show G κ φ (QI κ φ (NV κ τ) sR rR rm_7_debts.cells rm_7_debts.slots) (NV κ τ) 0 0 s0 [(0, .ref (ad κ.1 19 0)), (1, .int a1)] 0 []
  unfold f7_debts at hf
  refine g_iconst (v := (0 : Int32)) hc (by decide) dX7_debts_0 (pc2 := 1) rfl ?_
  refine g_istore_n (i := 2) (L1 := [(2, .int (0 : Int32)), (0, .ref (ad κ.1 19 0)), (1, .int a1)]) hc rfl (by decide) rfl dX7_debts_1 (pc2 := 2) rfl ?_
  refine g_iconst (v := (0 : Int32)) hc (by decide) dX7_debts_2 (pc2 := 3) rfl ?_
  refine g_istore_n (i := 3) (L1 := [(3, .int (0 : Int32)), (2, .int (0 : Int32)), (0, .ref (ad κ.1 19 0)), (1, .int a1)]) hc rfl (by decide) rfl dX7_debts_3 (pc2 := 4) rfl ?_
  obtain ⟨k1, hk1, hf⟩ := nm_ex hf
  have Hk1 : ∀ (y1 : Int32) (s1 : Mem), k1 y1 s1 = some (rR, sR) → G κ φ (QI κ φ (NV κ τ) sR rR rm_7_debts.cells rm_7_debts.slots) (NV κ τ) 0 0 s1 [(2, .int y1)] 25 [] := by
    intro y1 s1 hf
    rw [hk1] at hf
    refine g_iload_n (i := 2) hc 0 rfl rfl dX7_debts_25 (pc2 := 26) rfl ?_
    exact g_iret hc hf hr rfl (by decide) (by decide) dX7_debts_26
  have LP_n1 : ∀ (n1 : Nat) (m1 : Int32) (m2 : Int32) (s2 : Mem), f7_debts_l4 a1 k1 n1 m1 m2 s2 = some (rR, sR) → G κ φ (QI κ φ (NV κ τ) sR rR rm_7_debts.cells rm_7_debts.slots) (NV κ τ) 0 0 s2 [(0, .ref (ad κ.1 19 0)), (1, .int a1), (2, .int m1), (3, .int m2)] 4 [] := by
    intro n1
    induction n1 with
    | zero => intro m1 m2 s2 hf; rw [f7_debts_l4] at hf; cases hf
    | succ n1 ih_n1 =>
      intro m1 m2 s2 hf
      rw [f7_debts_l4] at hf
      refine g_iload_n (i := 3) hc 3 rfl rfl dX7_debts_4 (pc2 := 5) rfl ?_
      refine g_bipush (v := (6 : Int32)) hc (by decide) dX7_debts_5 (pc2 := 7) rfl ?_
      refine g_icmp_ge hc 25 (by decide) dX7_debts_7 (pc2 := 10) rfl (fun q => ?_) (fun q => ?_)
      · have hf := ite_t hf q
        refine g_sub [2] rfl ?_
        exact Hk1 _ _ hf
      · have hf := ite_f hf q
        refine g_iload_n (i := 2) hc 2 rfl rfl dX7_debts_10 (pc2 := 11) rfl ?_
        refine g_aload_n (i := 0) hc 0 rfl rfl dX7_debts_11 (pc2 := 12) rfl ?_
        refine g_iload_n (i := 1) hc 1 rfl rfl dX7_debts_12 (pc2 := 13) rfl ?_
        refine g_iload_n (i := 3) hc 3 rfl rfl dX7_debts_13 (pc2 := 14) rfl ?_
        obtain ⟨r1, s3, hp, hf⟩ := bd_some hf
        refine g_vI hc (k7_owed hp) co_X7_56 (u19 (by decide)) rfl rfl (by decide) (by decide) (Nat.le_of_ble_eq_true rfl) dX7_debts_14 (pc2 := 17) rfl ?_
        refine g_iadd hc dX7_debts_17 (pc2 := 18) rfl ?_
        obtain ⟨x1, hx1, hf⟩ := nm_ex hf
        refine g_nmi hx1 ?_
        refine g_istore_n (i := 2) (L1 := [(2, .int x1), (0, .ref (ad κ.1 19 0)), (1, .int a1), (3, .int m2)]) hc rfl (by decide) rfl dX7_debts_18 (pc2 := 19) rfl ?_
        obtain ⟨x2, hx2, hf⟩ := nm_ex hf
        refine g_iinc (v := x2) (L1 := [(3, .int x2), (2, .int x1), (0, .ref (ad κ.1 19 0)), (1, .int a1)]) hc 3 rfl (by rw [hx2]; rfl) (by decide) rfl dX7_debts_19 (pc2 := 22) rfl ?_
        refine g_goto hc 4 (by decide) dX7_debts_22 ?_
        refine g_sub [2, 3, 1, 0] rfl ?_
        exact ih_n1 _ _ _ hf
  refine g_sub [2, 3, 1, 0] rfl ?_
  exact LP_n1 _ _ _ _ hf
def f7_slotsOf_l4 (a1 : Int32) (k1 : Int32 → Mem → Option (Int32 × Mem)) : Nat → Int32 → Int32 → Mem → Option (Int32 × Mem)
  | 0, _, _, _ => none
  | n1 + 1, m1, m2, s2 => (if (s2 20 0 ((1 : Int32)).toNatClampNeg) ≤ m2 then k1 m1 s2 else gd (ib ((11 : Int32) + m2) 291) (nm (fun (y2 : Int32) (s3 : Mem) => nm (m1 + y2) fun x1 => nm (m2 + (1 : Int32)) fun x2 => f7_slotsOf_l4 a1 k1 n1 x1 x2 s3) fun j1 => (if (s2 20 0 ((11 : Int32) + m2).toNatClampNeg) = a1 then j1 (1 : Int32) s2 else j1 (0 : Int32) s2)))
def f7_slotsOf (a1 : Int32) (s0 : Mem) : Option (Int32 × Mem) :=
  nm (fun (y1 : Int32) (s1 : Mem) => some (y1, s1)) fun k1 => f7_slotsOf_l4 a1 k1 FU (0 : Int32) (0 : Int32) s0
def rm_7_slotsOf : Room := { frames := 0, cells := 0, slots := 0, locals := 0 }
set_option maxHeartbeats 4000000 in
set_option maxRecDepth 100000 in
theorem k7_slotsOf {κ : Kx} {τ : Nat → Int64} {a1 : Int32} {s0 sR : Mem} {rR : Int32}  (hf : f7_slotsOf a1 s0 = some (rR, sR)) : CtI κ yX7_slotsOf cX7_slotsOf 4 (some .int) rm_7_slotsOf (NV κ τ) (NV κ τ) [.ref (ad κ.1 19 0), .int a1] s0 sR rR := by
  refine ct_I (by decide +kernel) (Nat.le_of_ble_eq_true rfl) (fun φ hc hr => ?_)
  have hc : Cx κ φ RX7 cX7_slotsOf 4 rm_7_slotsOf := hc
  show G κ φ (QI κ φ (NV κ τ) sR rR rm_7_slotsOf.cells rm_7_slotsOf.slots) (NV κ τ) 0 0 s0 [(0, .ref (ad κ.1 19 0)), (1, .int a1)] 0 []
  unfold f7_slotsOf at hf
  refine g_iconst (v := (0 : Int32)) hc (by decide) dX7_slotsOf_0 (pc2 := 1) rfl ?_
  refine g_istore_n (i := 2) (L1 := [(2, .int (0 : Int32)), (0, .ref (ad κ.1 19 0)), (1, .int a1)]) hc rfl (by decide) rfl dX7_slotsOf_1 (pc2 := 2) rfl ?_
  refine g_iconst (v := (0 : Int32)) hc (by decide) dX7_slotsOf_2 (pc2 := 3) rfl ?_
  refine g_istore_n (i := 3) (L1 := [(3, .int (0 : Int32)), (2, .int (0 : Int32)), (0, .ref (ad κ.1 19 0)), (1, .int a1)]) hc rfl (by decide) rfl dX7_slotsOf_3 (pc2 := 4) rfl ?_
  obtain ⟨k1, hk1, hf⟩ := nm_ex hf
  have Hk1 : ∀ (y1 : Int32) (s1 : Mem), k1 y1 s1 = some (rR, sR) → G κ φ (QI κ φ (NV κ τ) sR rR rm_7_slotsOf.cells rm_7_slotsOf.slots) (NV κ τ) 0 0 s1 [(2, .int y1)] 41 [] := by
    intro y1 s1 hf
    rw [hk1] at hf
    refine g_iload_n (i := 2) hc 0 rfl rfl dX7_slotsOf_41 (pc2 := 42) rfl ?_
    exact g_iret hc hf hr rfl (by decide) (by decide) dX7_slotsOf_42
  have LP_n1 : ∀ (n1 : Nat) (m1 : Int32) (m2 : Int32) (s2 : Mem), f7_slotsOf_l4 a1 k1 n1 m1 m2 s2 = some (rR, sR) → G κ φ (QI κ φ (NV κ τ) sR rR rm_7_slotsOf.cells rm_7_slotsOf.slots) (NV κ τ) 0 0 s2 [(0, .ref (ad κ.1 19 0)), (1, .int a1), (2, .int m1), (3, .int m2)] 4 [] := by
    intro n1
    induction n1 with
    | zero => intro m1 m2 s2 hf; rw [f7_slotsOf_l4] at hf; cases hf
    | succ n1 ih_n1 =>
      intro m1 m2 s2 hf
      rw [f7_slotsOf_l4] at hf
      refine g_iload_n (i := 3) hc 3 rfl rfl dX7_slotsOf_4 (pc2 := 5) rfl ?_
      refine g_aload_n (i := 0) hc 0 rfl rfl dX7_slotsOf_5 (pc2 := 6) rfl ?_
      refine g_getr (q := ad κ.1 20 0) hc fo_X7_7 (u19 (by decide)) rfl dX7_slotsOf_6 (pc2 := 9) rfl ?_
      refine g_iconst (v := (1 : Int32)) hc (by decide) dX7_slotsOf_9 (pc2 := 10) rfl ?_
      refine g_aldi hc 20 0 rfl (u20 (by decide)) (by decide) dX7_slotsOf_10 (pc2 := 11) rfl ?_
      refine g_icmp_ge hc 41 (by decide) dX7_slotsOf_11 (pc2 := 14) rfl (fun q => ?_) (fun q => ?_)
      · have hf := ite_t hf q
        refine g_sub [2] rfl ?_
        exact Hk1 _ _ hf
      · have hf := ite_f hf q
        refine g_iload_n (i := 2) hc 2 rfl rfl dX7_slotsOf_14 (pc2 := 15) rfl ?_
        refine g_aload_n (i := 0) hc 0 rfl rfl dX7_slotsOf_15 (pc2 := 16) rfl ?_
        refine g_getr (q := ad κ.1 20 0) hc fo_X7_7 (u19 (by decide)) rfl dX7_slotsOf_16 (pc2 := 19) rfl ?_
        refine g_bipush (v := (11 : Int32)) hc (by decide) dX7_slotsOf_19 (pc2 := 21) rfl ?_
        refine g_iload_n (i := 3) hc 3 rfl rfl dX7_slotsOf_21 (pc2 := 22) rfl ?_
        refine g_iadd hc dX7_slotsOf_22 (pc2 := 23) rfl ?_
        obtain ⟨hg1, hf⟩ := gd_some hf
        refine g_aldi hc 20 0 rfl (u20 (by decide)) hg1 dX7_slotsOf_23 (pc2 := 24) rfl ?_
        refine g_iload_n (i := 1) hc 1 rfl rfl dX7_slotsOf_24 (pc2 := 25) rfl ?_
        obtain ⟨j1, hj1, hf⟩ := nm_ex hf
        have Hj1 : ∀ (y2 : Int32) (s3 : Mem), j1 y2 s3 = some (rR, sR) → G κ φ (QI κ φ (NV κ τ) sR rR rm_7_slotsOf.cells rm_7_slotsOf.slots) (NV κ τ) 0 0 s3 [(0, .ref (ad κ.1 19 0)), (1, .int a1), (3, .int m2)] 33 [.int y2, .int m1] := by
          intro y2 s3 hf
          rw [hj1] at hf
          refine g_iadd hc dX7_slotsOf_33 (pc2 := 34) rfl ?_
          obtain ⟨x1, hx1, hf⟩ := nm_ex hf
          refine g_nmi hx1 ?_
          refine g_istore_n (i := 2) (L1 := [(2, .int x1), (0, .ref (ad κ.1 19 0)), (1, .int a1), (3, .int m2)]) hc rfl (by decide) rfl dX7_slotsOf_34 (pc2 := 35) rfl ?_
          obtain ⟨x2, hx2, hf⟩ := nm_ex hf
          refine g_iinc (v := x2) (L1 := [(3, .int x2), (2, .int x1), (0, .ref (ad κ.1 19 0)), (1, .int a1)]) hc 3 rfl (by rw [hx2]; rfl) (by decide) rfl dX7_slotsOf_35 (pc2 := 38) rfl ?_
          refine g_goto hc 4 (by decide) dX7_slotsOf_38 ?_
          refine g_sub [2, 3, 1, 0] rfl ?_
          exact ih_n1 _ _ _ hf
        refine g_icmp_ne hc 32 (by decide) dX7_slotsOf_25 (pc2 := 28) rfl (fun q => ?_) (fun q => ?_)
        · have hf := ite_f hf q
          refine g_iconst (v := (0 : Int32)) hc (by decide) dX7_slotsOf_32 (pc2 := 33) rfl ?_
          refine g_sub [0, 1, 3] rfl ?_
          exact Hj1 _ _ hf
        · have hf := ite_t hf q
          refine g_iconst (v := (1 : Int32)) hc (by decide) dX7_slotsOf_28 (pc2 := 29) rfl ?_
          refine g_goto hc 33 (by decide) dX7_slotsOf_29 ?_
          refine g_sub [0, 1, 3] rfl ?_
          exact Hj1 _ _ hf
  refine g_sub [2, 3, 1, 0] rfl ?_
  exact LP_n1 _ _ _ _ hf
def f7_ready_l12 (a1 : Int32) (k1 : Int32 → Mem → Option (Int32 × Mem)) : Nat → Int32 → Int32 → Mem → Option (Int32 × Mem)
  | 0, _, _, _ => none
  | n1 + 1, m1, m2, s3 => (if m2 < (0 : Int32) then k1 m1 s3 else bd (f7_of a1 ((26 : Int32) + m2) s3) fun r2 s4 => nm (fun (y2 : Int32) (s5 : Mem) => nm (m2 + (-1 : Int32)) fun x2 => f7_ready_l12 a1 k1 n1 y2 x2 s5) fun j1 => (if (s4 20 0 ((2 : Int32)).toNatClampNeg) < r2 then j1 m1 s4 else j1 m2 s4))
def f7_ready (a1 : Int32) (s0 : Mem) : Option (Int32 × Mem) :=
  bd (f7_of a1 (7 : Int32) s0) fun r1 s1 => nm (r1 - (1 : Int32)) fun x1 => nm (fun (y1 : Int32) (s2 : Mem) => some (y1, s2)) fun k1 => f7_ready_l12 a1 k1 FU (-1 : Int32) x1 s1
def rm_7_ready : Room := { frames := 2, cells := 0, slots := 0, locals := 43 }
set_option maxHeartbeats 4000000 in
set_option maxRecDepth 100000 in
theorem k7_ready {κ : Kx} {τ : Nat → Int64} {a1 : Int32} {s0 sR : Mem} {rR : Int32}  (hf : f7_ready a1 s0 = some (rR, sR)) : CtI κ yX7_ready cX7_ready 4 (some .int) rm_7_ready (NV κ τ) (NV κ τ) [.ref (ad κ.1 19 0), .int a1] s0 sR rR := by
  refine ct_I (by decide +kernel) (Nat.le_of_ble_eq_true rfl) (fun φ hc hr => ?_)
  have hc : Cx κ φ RX7 cX7_ready 4 rm_7_ready := hc
  show G κ φ (QI κ φ (NV κ τ) sR rR rm_7_ready.cells rm_7_ready.slots) (NV κ τ) 0 0 s0 [(0, .ref (ad κ.1 19 0)), (1, .int a1)] 0 []
  unfold f7_ready at hf
  refine g_iconst (v := (-1 : Int32)) hc (by decide) dX7_ready_0 (pc2 := 1) rfl ?_
  refine g_istore_n (i := 2) (L1 := [(2, .int (-1 : Int32)), (0, .ref (ad κ.1 19 0)), (1, .int a1)]) hc rfl (by decide) rfl dX7_ready_1 (pc2 := 2) rfl ?_
  refine g_aload_n (i := 0) hc 1 rfl rfl dX7_ready_2 (pc2 := 3) rfl ?_
  refine g_iload_n (i := 1) hc 2 rfl rfl dX7_ready_3 (pc2 := 4) rfl ?_
  refine g_bipush (v := (7 : Int32)) hc (by decide) dX7_ready_4 (pc2 := 6) rfl ?_
  obtain ⟨r1, s1, hp, hf⟩ := bd_some hf
  refine g_vI hc (k7_of hp) co_X7_59 (u19 (by decide)) rfl rfl (by decide) (by decide) (Nat.le_of_ble_eq_true rfl) dX7_ready_6 (pc2 := 9) rfl ?_
  refine g_iconst (v := (1 : Int32)) hc (by decide) dX7_ready_9 (pc2 := 10) rfl ?_
  refine g_isub hc dX7_ready_10 (pc2 := 11) rfl ?_
  obtain ⟨x1, hx1, hf⟩ := nm_ex hf
  refine g_nmi hx1 ?_
  refine g_istore_n (i := 3) (L1 := [(3, .int x1), (2, .int (-1 : Int32)), (0, .ref (ad κ.1 19 0)), (1, .int a1)]) hc rfl (by decide) rfl dX7_ready_11 (pc2 := 12) rfl ?_
  obtain ⟨k1, hk1, hf⟩ := nm_ex hf
  have Hk1 : ∀ (y1 : Int32) (s2 : Mem), k1 y1 s2 = some (rR, sR) → G κ φ (QI κ φ (NV κ τ) sR rR rm_7_ready.cells rm_7_ready.slots) (NV κ τ) 0 0 s2 [(2, .int y1)] 46 [] := by
    intro y1 s2 hf
    rw [hk1] at hf
    refine g_iload_n (i := 2) hc 0 rfl rfl dX7_ready_46 (pc2 := 47) rfl ?_
    exact g_iret hc hf hr rfl (by decide) (by decide) dX7_ready_47
  have LP_n1 : ∀ (n1 : Nat) (m1 : Int32) (m2 : Int32) (s3 : Mem), f7_ready_l12 a1 k1 n1 m1 m2 s3 = some (rR, sR) → G κ φ (QI κ φ (NV κ τ) sR rR rm_7_ready.cells rm_7_ready.slots) (NV κ τ) 0 0 s3 [(0, .ref (ad κ.1 19 0)), (1, .int a1), (2, .int m1), (3, .int m2)] 12 [] := by
    intro n1
    induction n1 with
    | zero => intro m1 m2 s3 hf; rw [f7_ready_l12] at hf; cases hf
    | succ n1 ih_n1 =>
      intro m1 m2 s3 hf
      rw [f7_ready_l12] at hf
      refine g_iload_n (i := 3) hc 3 rfl rfl dX7_ready_12 (pc2 := 13) rfl ?_
      refine g_if_lt hc 46 (by decide) dX7_ready_13 (pc2 := 16) rfl (fun q => ?_) (fun q => ?_)
      · have hf := ite_t hf q
        refine g_sub [2] rfl ?_
        exact Hk1 _ _ hf
      · have hf := ite_f hf q
        refine g_aload_n (i := 0) hc 0 rfl rfl dX7_ready_16 (pc2 := 17) rfl ?_
        refine g_iload_n (i := 1) hc 1 rfl rfl dX7_ready_17 (pc2 := 18) rfl ?_
        refine g_bipush (v := (26 : Int32)) hc (by decide) dX7_ready_18 (pc2 := 20) rfl ?_
        refine g_iload_n (i := 3) hc 3 rfl rfl dX7_ready_20 (pc2 := 21) rfl ?_
        refine g_iadd hc dX7_ready_21 (pc2 := 22) rfl ?_
        obtain ⟨r2, s4, hp, hf⟩ := bd_some hf
        refine g_vI hc (k7_of hp) co_X7_59 (u19 (by decide)) rfl rfl (by decide) (by decide) (Nat.le_of_ble_eq_true rfl) dX7_ready_22 (pc2 := 25) rfl ?_
        refine g_aload_n (i := 0) hc 0 rfl rfl dX7_ready_25 (pc2 := 26) rfl ?_
        refine g_getr (q := ad κ.1 20 0) hc fo_X7_7 (u19 (by decide)) rfl dX7_ready_26 (pc2 := 29) rfl ?_
        refine g_iconst (v := (2 : Int32)) hc (by decide) dX7_ready_29 (pc2 := 30) rfl ?_
        refine g_aldi hc 20 0 rfl (u20 (by decide)) (by decide) dX7_ready_30 (pc2 := 31) rfl ?_
        obtain ⟨j1, hj1, hf⟩ := nm_ex hf
        have Hj1 : ∀ (y2 : Int32) (s5 : Mem), j1 y2 s5 = some (rR, sR) → G κ φ (QI κ φ (NV κ τ) sR rR rm_7_ready.cells rm_7_ready.slots) (NV κ τ) 0 0 s5 [(0, .ref (ad κ.1 19 0)), (1, .int a1), (3, .int m2)] 39 [.int y2] := by
          intro y2 s5 hf
          rw [hj1] at hf
          refine g_istore_n (i := 2) (L1 := [(2, .int y2), (0, .ref (ad κ.1 19 0)), (1, .int a1), (3, .int m2)]) hc rfl (by decide) rfl dX7_ready_39 (pc2 := 40) rfl ?_
          obtain ⟨x2, hx2, hf⟩ := nm_ex hf
          refine g_iinc (v := x2) (L1 := [(3, .int x2), (2, .int y2), (0, .ref (ad κ.1 19 0)), (1, .int a1)]) hc 3 rfl (by rw [hx2]; rfl) (by decide) rfl dX7_ready_40 (pc2 := 43) rfl ?_
          refine g_goto hc 12 (by decide) dX7_ready_43 ?_
          refine g_sub [2, 3, 1, 0] rfl ?_
          exact ih_n1 _ _ _ hf
        refine g_icmp_gt hc 38 (by decide) dX7_ready_31 (pc2 := 34) rfl (fun q => ?_) (fun q => ?_)
        · have hf := ite_t hf q
          refine g_iload_n (i := 2) hc 2 rfl rfl dX7_ready_38 (pc2 := 39) rfl ?_
          refine g_sub [0, 1, 3] rfl ?_
          exact Hj1 _ _ hf
        · have hf := ite_f hf q
          refine g_iload_n (i := 3) hc 3 rfl rfl dX7_ready_34 (pc2 := 35) rfl ?_
          refine g_goto hc 39 (by decide) dX7_ready_35 ?_
          refine g_sub [0, 1, 3] rfl ?_
          exact Hj1 _ _ hf
  refine g_sub [2, 3, 1, 0] rfl ?_
  exact LP_n1 _ _ _ _ hf
def f7_hasToDo (a1 : Int32) (s0 : Mem) : Option (Int32 × Mem) :=
  bd (f7_of a1 (0 : Int32) s0) fun r1 s1 => nm (fun (s2 : Mem) => some ((1 : Int32), s2)) fun j1 => (if (0 : Int32) < r1 then j1 s1 else bd (f7_ready a1 s1) fun r2 s3 => (if r2 < (0 : Int32) then some ((0 : Int32), s3) else j1 s3))
def rm_7_hasToDo : Room := { frames := 3, cells := 0, slots := 0, locals := 66 }
set_option maxHeartbeats 4000000 in
set_option maxRecDepth 100000 in
theorem k7_hasToDo {κ : Kx} {τ : Nat → Int64} {a1 : Int32} {s0 sR : Mem} {rR : Int32}  (hf : f7_hasToDo a1 s0 = some (rR, sR)) : CtI κ yX7_hasToDo cX7_hasToDo 2 (some .boolean) rm_7_hasToDo (NV κ τ) (NV κ τ) [.ref (ad κ.1 19 0), .int a1] s0 sR rR := by
  refine ct_I (by decide +kernel) (Nat.le_of_ble_eq_true rfl) (fun φ hc hr => ?_)
  have hc : Cx κ φ RX7 cX7_hasToDo 2 rm_7_hasToDo := hc
  show G κ φ (QI κ φ (NV κ τ) sR rR rm_7_hasToDo.cells rm_7_hasToDo.slots) (NV κ τ) 0 0 s0 [(0, .ref (ad κ.1 19 0)), (1, .int a1)] 0 []
  unfold f7_hasToDo at hf
  refine g_aload_n (i := 0) hc 0 rfl rfl dX7_hasToDo_0 (pc2 := 1) rfl ?_
  refine g_iload_n (i := 1) hc 1 rfl rfl dX7_hasToDo_1 (pc2 := 2) rfl ?_
  refine g_iconst (v := (0 : Int32)) hc (by decide) dX7_hasToDo_2 (pc2 := 3) rfl ?_
  obtain ⟨r1, s1, hp, hf⟩ := bd_some hf
  refine g_vI hc (k7_of hp) co_X7_59 (u19 (by decide)) rfl rfl (by decide) (by decide) (Nat.le_of_ble_eq_true rfl) dX7_hasToDo_3 (pc2 := 6) rfl ?_
  obtain ⟨j1, hj1, hf⟩ := nm_ex hf
  have Hj1 : ∀ (s2 : Mem), j1 s2 = some (rR, sR) → G κ φ (QI κ φ (NV κ τ) sR rR rm_7_hasToDo.cells rm_7_hasToDo.slots) (NV κ τ) 0 0 s2 [] 17 [] := by
    intro s2 hf
    rw [hj1] at hf
    refine g_iconst (v := (1 : Int32)) hc (by decide) dX7_hasToDo_17 (pc2 := 18) rfl ?_
    refine g_goto hc 22 (by decide) dX7_hasToDo_18 ?_
    exact g_iret hc hf hr rfl (by decide) (by decide) dX7_hasToDo_22
  refine g_if_gt hc 17 (by decide) dX7_hasToDo_6 (pc2 := 9) rfl (fun q => ?_) (fun q => ?_)
  · have hf := ite_t hf q
    refine g_sub [] rfl ?_
    exact Hj1 _ hf
  · have hf := ite_f hf q
    refine g_aload_n (i := 0) hc 0 rfl rfl dX7_hasToDo_9 (pc2 := 10) rfl ?_
    refine g_iload_n (i := 1) hc 1 rfl rfl dX7_hasToDo_10 (pc2 := 11) rfl ?_
    obtain ⟨r2, s3, hp, hf⟩ := bd_some hf
    refine g_vI hc (k7_ready hp) co_X7_62 (u19 (by decide)) rfl rfl (by decide) (by decide) (Nat.le_of_ble_eq_true rfl) dX7_hasToDo_11 (pc2 := 14) rfl ?_
    refine g_if_lt hc 21 (by decide) dX7_hasToDo_14 (pc2 := 17) rfl (fun q => ?_) (fun q => ?_)
    · have hf := ite_t hf q
      refine g_iconst (v := (0 : Int32)) hc (by decide) dX7_hasToDo_21 (pc2 := 22) rfl ?_
      exact g_iret hc hf hr rfl (by decide) (by decide) dX7_hasToDo_22
    · have hf := ite_f hf q
      refine g_sub [] rfl ?_
      exact Hj1 _ hf
def f7_creditorOf_l5 (a1 : Int32) (a2 : Int32) (k1 : Int32 → Mem → Option (Int32 × Mem)) : Nat → Int32 → Int32 → Mem → Option (Int32 × Mem)
  | 0, _, _, _ => none
  | n1 + 1, m1, m2, s2 => (if (s2 20 0 ((0 : Int32)).toNatClampNeg) ≤ m2 then k1 m1 s2 else bd (f7_owed a1 m2 s2) fun r1 s3 => nm (fun (y2 : Int32) (s4 : Mem) => nm (fun (y3 : Int32) (s5 : Mem) => nm (m2 + (1 : Int32)) fun x1 => f7_creditorOf_l5 a1 a2 k1 n1 y3 x1 s5) fun j2 => nm (fun (s6 : Mem) => j2 m1 s6) fun j3 => (if y2 = (0 : Int32) then j3 s4 else nm (fun (s7 : Mem) => j2 m2 s7) fun j4 => (if m1 < (0 : Int32) then j4 s4 else bd (f7_owed a1 m2 s4) fun r2 s8 => bd (f7_owed a1 m1 s8) fun r3 s9 => (if r2 ≤ r3 then j3 s9 else j4 s9)))) fun j1 => nm (fun (s10 : Mem) => j1 (0 : Int32) s10) fun j5 => (if r1 ≤ (0 : Int32) then j5 s3 else (if ((a2 >>> (m2 &&& 31)) &&& (1 : Int32)) = (1 : Int32) then j1 (1 : Int32) s3 else j5 s3)))
def f7_creditorOf (a1 : Int32) (a2 : Int32) (s0 : Mem) : Option (Int32 × Mem) :=
  nm (fun (y1 : Int32) (s1 : Mem) => some (y1, s1)) fun k1 => f7_creditorOf_l5 a1 a2 k1 FU (-1 : Int32) (0 : Int32) s0
def rm_7_creditorOf : Room := { frames := 1, cells := 0, slots := 0, locals := 22 }
set_option maxHeartbeats 4000000 in
set_option maxRecDepth 100000 in
theorem k7_creditorOf {κ : Kx} {τ : Nat → Int64} {a1 : Int32} {a2 : Int32} {s0 sR : Mem} {rR : Int32}  (hf : f7_creditorOf a1 a2 s0 = some (rR, sR)) : CtI κ yX7_creditorOf cX7_creditorOf 6 (some .int) rm_7_creditorOf (NV κ τ) (NV κ τ) [.ref (ad κ.1 19 0), .int a1, .int a2] s0 sR rR := by
  refine ct_I (by decide +kernel) (Nat.le_of_ble_eq_true rfl) (fun φ hc hr => ?_)
  have hc : Cx κ φ RX7 cX7_creditorOf 6 rm_7_creditorOf := hc
  show G κ φ (QI κ φ (NV κ τ) sR rR rm_7_creditorOf.cells rm_7_creditorOf.slots) (NV κ τ) 0 0 s0 [(0, .ref (ad κ.1 19 0)), (1, .int a1), (2, .int a2)] 0 []
  unfold f7_creditorOf at hf
  refine g_iconst (v := (-1 : Int32)) hc (by decide) dX7_creditorOf_0 (pc2 := 1) rfl ?_
  refine g_istore_n (i := 3) (L1 := [(3, .int (-1 : Int32)), (0, .ref (ad κ.1 19 0)), (1, .int a1), (2, .int a2)]) hc rfl (by decide) rfl dX7_creditorOf_1 (pc2 := 2) rfl ?_
  refine g_iconst (v := (0 : Int32)) hc (by decide) dX7_creditorOf_2 (pc2 := 3) rfl ?_
  refine g_istore (L1 := [(4, .int (0 : Int32)), (3, .int (-1 : Int32)), (0, .ref (ad κ.1 19 0)), (1, .int a1), (2, .int a2)]) hc (by decide) rfl dX7_creditorOf_3 (pc2 := 5) rfl ?_
  obtain ⟨k1, hk1, hf⟩ := nm_ex hf
  have Hk1 : ∀ (y1 : Int32) (s1 : Mem), k1 y1 s1 = some (rR, sR) → G κ φ (QI κ φ (NV κ τ) sR rR rm_7_creditorOf.cells rm_7_creditorOf.slots) (NV κ τ) 0 0 s1 [(3, .int y1)] 81 [] := by
    intro y1 s1 hf
    rw [hk1] at hf
    refine g_iload_n (i := 3) hc 0 rfl rfl dX7_creditorOf_81 (pc2 := 82) rfl ?_
    exact g_iret hc hf hr rfl (by decide) (by decide) dX7_creditorOf_82
  have LP_n1 : ∀ (n1 : Nat) (m1 : Int32) (m2 : Int32) (s2 : Mem), f7_creditorOf_l5 a1 a2 k1 n1 m1 m2 s2 = some (rR, sR) → G κ φ (QI κ φ (NV κ τ) sR rR rm_7_creditorOf.cells rm_7_creditorOf.slots) (NV κ τ) 0 0 s2 [(0, .ref (ad κ.1 19 0)), (1, .int a1), (2, .int a2), (3, .int m1), (4, .int m2)] 5 [] := by
    intro n1
    induction n1 with
    | zero => intro m1 m2 s2 hf; rw [f7_creditorOf_l5] at hf; cases hf
    | succ n1 ih_n1 =>
      intro m1 m2 s2 hf
      rw [f7_creditorOf_l5] at hf
      refine g_iload hc 4 rfl dX7_creditorOf_5 (pc2 := 7) rfl ?_
      refine g_aload_n (i := 0) hc 0 rfl rfl dX7_creditorOf_7 (pc2 := 8) rfl ?_
      refine g_getr (q := ad κ.1 20 0) hc fo_X7_7 (u19 (by decide)) rfl dX7_creditorOf_8 (pc2 := 11) rfl ?_
      refine g_iconst (v := (0 : Int32)) hc (by decide) dX7_creditorOf_11 (pc2 := 12) rfl ?_
      refine g_aldi hc 20 0 rfl (u20 (by decide)) (by decide) dX7_creditorOf_12 (pc2 := 13) rfl ?_
      refine g_icmp_ge hc 81 (by decide) dX7_creditorOf_13 (pc2 := 16) rfl (fun q => ?_) (fun q => ?_)
      · have hf := ite_t hf q
        refine g_sub [3] rfl ?_
        exact Hk1 _ _ hf
      · have hf := ite_f hf q
        refine g_aload_n (i := 0) hc 0 rfl rfl dX7_creditorOf_16 (pc2 := 17) rfl ?_
        refine g_iload_n (i := 1) hc 1 rfl rfl dX7_creditorOf_17 (pc2 := 18) rfl ?_
        refine g_iload hc 4 rfl dX7_creditorOf_18 (pc2 := 20) rfl ?_
        obtain ⟨r1, s3, hp, hf⟩ := bd_some hf
        refine g_vI hc (k7_owed hp) co_X7_56 (u19 (by decide)) rfl rfl (by decide) (by decide) (Nat.le_of_ble_eq_true rfl) dX7_creditorOf_20 (pc2 := 23) rfl ?_
        obtain ⟨j1, hj1, hf⟩ := nm_ex hf
        have Hj1 : ∀ (y2 : Int32) (s4 : Mem), j1 y2 s4 = some (rR, sR) → G κ φ (QI κ φ (NV κ τ) sR rR rm_7_creditorOf.cells rm_7_creditorOf.slots) (NV κ τ) 0 0 s4 [(0, .ref (ad κ.1 19 0)), (1, .int a1), (2, .int a2), (3, .int m1), (4, .int m2)] 41 [.int y2] := by
          intro y2 s4 hf
          rw [hj1] at hf
          refine g_istore (L1 := [(5, .int y2), (0, .ref (ad κ.1 19 0)), (1, .int a1), (2, .int a2), (3, .int m1), (4, .int m2)]) hc (by decide) rfl dX7_creditorOf_41 (pc2 := 43) rfl ?_
          refine g_iload hc 0 rfl dX7_creditorOf_43 (pc2 := 45) rfl ?_
          obtain ⟨j2, hj2, hf⟩ := nm_ex hf
          have Hj2 : ∀ (y3 : Int32) (s5 : Mem), j2 y3 s5 = some (rR, sR) → G κ φ (QI κ φ (NV κ τ) sR rR rm_7_creditorOf.cells rm_7_creditorOf.slots) (NV κ τ) 0 0 s5 [(0, .ref (ad κ.1 19 0)), (1, .int a1), (2, .int a2), (4, .int m2)] 74 [.int y3] := by
            intro y3 s5 hf
            rw [hj2] at hf
            refine g_istore_n (i := 3) (L1 := [(3, .int y3), (0, .ref (ad κ.1 19 0)), (1, .int a1), (2, .int a2), (4, .int m2)]) hc rfl (by decide) rfl dX7_creditorOf_74 (pc2 := 75) rfl ?_
            obtain ⟨x1, hx1, hf⟩ := nm_ex hf
            refine g_iinc (v := x1) (L1 := [(4, .int x1), (3, .int y3), (0, .ref (ad κ.1 19 0)), (1, .int a1), (2, .int a2)]) hc 4 rfl (by rw [hx1]; rfl) (by decide) rfl dX7_creditorOf_75 (pc2 := 78) rfl ?_
            refine g_goto hc 5 (by decide) dX7_creditorOf_78 ?_
            refine g_sub [2, 3, 4, 1, 0] rfl ?_
            exact ih_n1 _ _ _ hf
          obtain ⟨j3, hj3, hf⟩ := nm_ex hf
          have Hj3 : ∀ (s6 : Mem), j3 s6 = some (rR, sR) → G κ φ (QI κ φ (NV κ τ) sR rR rm_7_creditorOf.cells rm_7_creditorOf.slots) (NV κ τ) 0 0 s6 [(0, .ref (ad κ.1 19 0)), (1, .int a1), (2, .int a2), (3, .int m1), (4, .int m2)] 73 [] := by
            intro s6 hf
            rw [hj3] at hf
            refine g_iload_n (i := 3) hc 3 rfl rfl dX7_creditorOf_73 (pc2 := 74) rfl ?_
            refine g_sub [0, 1, 2, 4] rfl ?_
            exact Hj2 _ _ hf
          refine g_if_eq hc 73 (by decide) dX7_creditorOf_45 (pc2 := 48) rfl (fun q => ?_) (fun q => ?_)
          · have hf := ite_t hf q
            refine g_sub [1, 2, 3, 4, 5] rfl ?_
            exact Hj3 _ hf
          · have hf := ite_f hf q
            refine g_iload_n (i := 3) hc 4 rfl rfl dX7_creditorOf_48 (pc2 := 49) rfl ?_
            obtain ⟨j4, hj4, hf⟩ := nm_ex hf
            have Hj4 : ∀ (s7 : Mem), j4 s7 = some (rR, sR) → G κ φ (QI κ φ (NV κ τ) sR rR rm_7_creditorOf.cells rm_7_creditorOf.slots) (NV κ τ) 0 0 s7 [(0, .ref (ad κ.1 19 0)), (1, .int a1), (2, .int a2), (4, .int m2)] 68 [] := by
              intro s7 hf
              rw [hj4] at hf
              refine g_iload hc 3 rfl dX7_creditorOf_68 (pc2 := 70) rfl ?_
              refine g_goto hc 74 (by decide) dX7_creditorOf_70 ?_
              exact Hj2 _ _ hf
            refine g_if_lt hc 68 (by decide) dX7_creditorOf_49 (pc2 := 52) rfl (fun q => ?_) (fun q => ?_)
            · have hf := ite_t hf q
              refine g_sub [1, 2, 3, 5] rfl ?_
              exact Hj4 _ hf
            · have hf := ite_f hf q
              refine g_aload_n (i := 0) hc 1 rfl rfl dX7_creditorOf_52 (pc2 := 53) rfl ?_
              refine g_iload_n (i := 1) hc 2 rfl rfl dX7_creditorOf_53 (pc2 := 54) rfl ?_
              refine g_iload hc 5 rfl dX7_creditorOf_54 (pc2 := 56) rfl ?_
              obtain ⟨r2, s8, hp, hf⟩ := bd_some hf
              refine g_vI hc (k7_owed hp) co_X7_56 (u19 (by decide)) rfl rfl (by decide) (by decide) (Nat.le_of_ble_eq_true rfl) dX7_creditorOf_56 (pc2 := 59) rfl ?_
              refine g_aload_n (i := 0) hc 1 rfl rfl dX7_creditorOf_59 (pc2 := 60) rfl ?_
              refine g_iload_n (i := 1) hc 2 rfl rfl dX7_creditorOf_60 (pc2 := 61) rfl ?_
              refine g_iload_n (i := 3) hc 4 rfl rfl dX7_creditorOf_61 (pc2 := 62) rfl ?_
              obtain ⟨r3, s9, hp, hf⟩ := bd_some hf
              refine g_vI hc (k7_owed hp) co_X7_56 (u19 (by decide)) rfl rfl (by decide) (by decide) (Nat.le_of_ble_eq_true rfl) dX7_creditorOf_62 (pc2 := 65) rfl ?_
              refine g_icmp_le hc 73 (by decide) dX7_creditorOf_65 (pc2 := 68) rfl (fun q => ?_) (fun q => ?_)
              · have hf := ite_t hf q
                refine g_sub [1, 2, 3, 4, 5] rfl ?_
                exact Hj3 _ hf
              · have hf := ite_f hf q
                refine g_sub [1, 2, 3, 5] rfl ?_
                exact Hj4 _ hf
        obtain ⟨j5, hj5, hf⟩ := nm_ex hf
        have Hj5 : ∀ (s10 : Mem), j5 s10 = some (rR, sR) → G κ φ (QI κ φ (NV κ τ) sR rR rm_7_creditorOf.cells rm_7_creditorOf.slots) (NV κ τ) 0 0 s10 [(0, .ref (ad κ.1 19 0)), (1, .int a1), (2, .int a2), (3, .int m1), (4, .int m2)] 40 [] := by
          intro s10 hf
          rw [hj5] at hf
          refine g_iconst (v := (0 : Int32)) hc (by decide) dX7_creditorOf_40 (pc2 := 41) rfl ?_
          exact Hj1 _ _ hf
        refine g_if_le hc 40 (by decide) dX7_creditorOf_23 (pc2 := 26) rfl (fun q => ?_) (fun q => ?_)
        · have hf := ite_t hf q
          exact Hj5 _ hf
        · have hf := ite_f hf q
          refine g_iload_n (i := 2) hc 2 rfl rfl dX7_creditorOf_26 (pc2 := 27) rfl ?_
          refine g_iload hc 4 rfl dX7_creditorOf_27 (pc2 := 29) rfl ?_
          refine g_ishr hc dX7_creditorOf_29 (pc2 := 30) rfl ?_
          refine g_iconst (v := (1 : Int32)) hc (by decide) dX7_creditorOf_30 (pc2 := 31) rfl ?_
          refine g_iand hc dX7_creditorOf_31 (pc2 := 32) rfl ?_
          refine g_iconst (v := (1 : Int32)) hc (by decide) dX7_creditorOf_32 (pc2 := 33) rfl ?_
          refine g_icmp_ne hc 40 (by decide) dX7_creditorOf_33 (pc2 := 36) rfl (fun q => ?_) (fun q => ?_)
          · have hf := ite_f hf q
            exact Hj5 _ hf
          · have hf := ite_t hf q
            refine g_iconst (v := (1 : Int32)) hc (by decide) dX7_creditorOf_36 (pc2 := 37) rfl ?_
            refine g_goto hc 41 (by decide) dX7_creditorOf_37 ?_
            exact Hj1 _ _ hf
  refine g_sub [2, 3, 4, 1, 0] rfl ?_
  exact LP_n1 _ _ _ _ hf
def f7_longestWaiting_l4 (a1 : Int32) (k1 : Int32 → Mem → Option (Int32 × Mem)) : Nat → Int32 → Int32 → Mem → Option (Int32 × Mem)
  | 0, _, _, _ => none
  | n1 + 1, m1, m2, s2 => (if (s2 20 0 ((0 : Int32)).toNatClampNeg) ≤ m2 then k1 m1 s2 else nm (fun (y2 : Int32) (s3 : Mem) => nm (fun (y3 : Int32) (s4 : Mem) => nm (m2 + (1 : Int32)) fun x1 => f7_longestWaiting_l4 a1 k1 n1 y3 x1 s4) fun j2 => nm (fun (s5 : Mem) => j2 m1 s5) fun j3 => (if y2 = (0 : Int32) then j3 s3 else nm (fun (s6 : Mem) => j2 m2 s6) fun j4 => (if m1 < (0 : Int32) then j4 s3 else bd (f7_of m2 (1 : Int32) s3) fun r1 s7 => bd (f7_of m1 (1 : Int32) s7) fun r2 s8 => (if r1 ≤ r2 then j3 s8 else j4 s8)))) fun j1 => nm (fun (s9 : Mem) => j1 (0 : Int32) s9) fun j5 => (if ((a1 >>> (m2 &&& 31)) &&& (1 : Int32)) = (1 : Int32) then bd (f7_isBankrupt m2 s2) fun r3 s10 => (if r3 = (0 : Int32) then bd (f7_debts m2 s10) fun r4 s11 => (if (s11 20 0 ((4 : Int32)).toNatClampNeg) ≤ r4 then j5 s11 else j1 (1 : Int32) s11) else j5 s10) else j5 s2))
def f7_longestWaiting (a1 : Int32) (s0 : Mem) : Option (Int32 × Mem) :=
  nm (fun (y1 : Int32) (s1 : Mem) => some (y1, s1)) fun k1 => f7_longestWaiting_l4 a1 k1 FU (-1 : Int32) (0 : Int32) s0
def rm_7_longestWaiting : Room := { frames := 2, cells := 0, slots := 0, locals := 45 }
set_option maxHeartbeats 4000000 in
set_option maxRecDepth 100000 in
theorem k7_longestWaiting {κ : Kx} {τ : Nat → Int64} {a1 : Int32} {s0 sR : Mem} {rR : Int32}  (hf : f7_longestWaiting a1 s0 = some (rR, sR)) : CtI κ yX7_longestWaiting cX7_longestWaiting 5 (some .int) rm_7_longestWaiting (NV κ τ) (NV κ τ) [.ref (ad κ.1 19 0), .int a1] s0 sR rR := by
  refine ct_I (by decide +kernel) (Nat.le_of_ble_eq_true rfl) (fun φ hc hr => ?_)
  have hc : Cx κ φ RX7 cX7_longestWaiting 5 rm_7_longestWaiting := hc
  show G κ φ (QI κ φ (NV κ τ) sR rR rm_7_longestWaiting.cells rm_7_longestWaiting.slots) (NV κ τ) 0 0 s0 [(0, .ref (ad κ.1 19 0)), (1, .int a1)] 0 []
  unfold f7_longestWaiting at hf
  refine g_iconst (v := (-1 : Int32)) hc (by decide) dX7_longestWaiting_0 (pc2 := 1) rfl ?_
  refine g_istore_n (i := 2) (L1 := [(2, .int (-1 : Int32)), (0, .ref (ad κ.1 19 0)), (1, .int a1)]) hc rfl (by decide) rfl dX7_longestWaiting_1 (pc2 := 2) rfl ?_
  refine g_iconst (v := (0 : Int32)) hc (by decide) dX7_longestWaiting_2 (pc2 := 3) rfl ?_
  refine g_istore_n (i := 3) (L1 := [(3, .int (0 : Int32)), (2, .int (-1 : Int32)), (0, .ref (ad κ.1 19 0)), (1, .int a1)]) hc rfl (by decide) rfl dX7_longestWaiting_3 (pc2 := 4) rfl ?_
  obtain ⟨k1, hk1, hf⟩ := nm_ex hf
  have Hk1 : ∀ (y1 : Int32) (s1 : Mem), k1 y1 s1 = some (rR, sR) → G κ φ (QI κ φ (NV κ τ) sR rR rm_7_longestWaiting.cells rm_7_longestWaiting.slots) (NV κ τ) 0 0 s1 [(2, .int y1)] 88 [] := by
    intro y1 s1 hf
    rw [hk1] at hf
    refine g_iload_n (i := 2) hc 0 rfl rfl dX7_longestWaiting_88 (pc2 := 89) rfl ?_
    exact g_iret hc hf hr rfl (by decide) (by decide) dX7_longestWaiting_89
  have LP_n1 : ∀ (n1 : Nat) (m1 : Int32) (m2 : Int32) (s2 : Mem), f7_longestWaiting_l4 a1 k1 n1 m1 m2 s2 = some (rR, sR) → G κ φ (QI κ φ (NV κ τ) sR rR rm_7_longestWaiting.cells rm_7_longestWaiting.slots) (NV κ τ) 0 0 s2 [(0, .ref (ad κ.1 19 0)), (1, .int a1), (2, .int m1), (3, .int m2)] 4 [] := by
    intro n1
    induction n1 with
    | zero => intro m1 m2 s2 hf; rw [f7_longestWaiting_l4] at hf; cases hf
    | succ n1 ih_n1 =>
      intro m1 m2 s2 hf
      rw [f7_longestWaiting_l4] at hf
      refine g_iload_n (i := 3) hc 3 rfl rfl dX7_longestWaiting_4 (pc2 := 5) rfl ?_
      refine g_aload_n (i := 0) hc 0 rfl rfl dX7_longestWaiting_5 (pc2 := 6) rfl ?_
      refine g_getr (q := ad κ.1 20 0) hc fo_X7_7 (u19 (by decide)) rfl dX7_longestWaiting_6 (pc2 := 9) rfl ?_
      refine g_iconst (v := (0 : Int32)) hc (by decide) dX7_longestWaiting_9 (pc2 := 10) rfl ?_
      refine g_aldi hc 20 0 rfl (u20 (by decide)) (by decide) dX7_longestWaiting_10 (pc2 := 11) rfl ?_
      refine g_icmp_ge hc 88 (by decide) dX7_longestWaiting_11 (pc2 := 14) rfl (fun q => ?_) (fun q => ?_)
      · have hf := ite_t hf q
        refine g_sub [2] rfl ?_
        exact Hk1 _ _ hf
      · have hf := ite_f hf q
        refine g_iload_n (i := 1) hc 1 rfl rfl dX7_longestWaiting_14 (pc2 := 15) rfl ?_
        refine g_iload_n (i := 3) hc 3 rfl rfl dX7_longestWaiting_15 (pc2 := 16) rfl ?_
        refine g_ishr hc dX7_longestWaiting_16 (pc2 := 17) rfl ?_
        refine g_iconst (v := (1 : Int32)) hc (by decide) dX7_longestWaiting_17 (pc2 := 18) rfl ?_
        refine g_iand hc dX7_longestWaiting_18 (pc2 := 19) rfl ?_
        refine g_iconst (v := (1 : Int32)) hc (by decide) dX7_longestWaiting_19 (pc2 := 20) rfl ?_
        obtain ⟨j1, hj1, hf⟩ := nm_ex hf
        have Hj1 : ∀ (y2 : Int32) (s3 : Mem), j1 y2 s3 = some (rR, sR) → G κ φ (QI κ φ (NV κ τ) sR rR rm_7_longestWaiting.cells rm_7_longestWaiting.slots) (NV κ τ) 0 0 s3 [(0, .ref (ad κ.1 19 0)), (1, .int a1), (2, .int m1), (3, .int m2)] 50 [.int y2] := by
          intro y2 s3 hf
          rw [hj1] at hf
          refine g_istore (L1 := [(4, .int y2), (0, .ref (ad κ.1 19 0)), (1, .int a1), (2, .int m1), (3, .int m2)]) hc (by decide) rfl dX7_longestWaiting_50 (pc2 := 52) rfl ?_
          refine g_iload hc 0 rfl dX7_longestWaiting_52 (pc2 := 54) rfl ?_
          obtain ⟨j2, hj2, hf⟩ := nm_ex hf
          have Hj2 : ∀ (y3 : Int32) (s4 : Mem), j2 y3 s4 = some (rR, sR) → G κ φ (QI κ φ (NV κ τ) sR rR rm_7_longestWaiting.cells rm_7_longestWaiting.slots) (NV κ τ) 0 0 s4 [(0, .ref (ad κ.1 19 0)), (1, .int a1), (3, .int m2)] 81 [.int y3] := by
            intro y3 s4 hf
            rw [hj2] at hf
            refine g_istore_n (i := 2) (L1 := [(2, .int y3), (0, .ref (ad κ.1 19 0)), (1, .int a1), (3, .int m2)]) hc rfl (by decide) rfl dX7_longestWaiting_81 (pc2 := 82) rfl ?_
            obtain ⟨x1, hx1, hf⟩ := nm_ex hf
            refine g_iinc (v := x1) (L1 := [(3, .int x1), (2, .int y3), (0, .ref (ad κ.1 19 0)), (1, .int a1)]) hc 3 rfl (by rw [hx1]; rfl) (by decide) rfl dX7_longestWaiting_82 (pc2 := 85) rfl ?_
            refine g_goto hc 4 (by decide) dX7_longestWaiting_85 ?_
            refine g_sub [2, 3, 1, 0] rfl ?_
            exact ih_n1 _ _ _ hf
          obtain ⟨j3, hj3, hf⟩ := nm_ex hf
          have Hj3 : ∀ (s5 : Mem), j3 s5 = some (rR, sR) → G κ φ (QI κ φ (NV κ τ) sR rR rm_7_longestWaiting.cells rm_7_longestWaiting.slots) (NV κ τ) 0 0 s5 [(0, .ref (ad κ.1 19 0)), (1, .int a1), (2, .int m1), (3, .int m2)] 80 [] := by
            intro s5 hf
            rw [hj3] at hf
            refine g_iload_n (i := 2) hc 2 rfl rfl dX7_longestWaiting_80 (pc2 := 81) rfl ?_
            refine g_sub [0, 1, 3] rfl ?_
            exact Hj2 _ _ hf
          refine g_if_eq hc 80 (by decide) dX7_longestWaiting_54 (pc2 := 57) rfl (fun q => ?_) (fun q => ?_)
          · have hf := ite_t hf q
            refine g_sub [1, 2, 3, 4] rfl ?_
            exact Hj3 _ hf
          · have hf := ite_f hf q
            refine g_iload_n (i := 2) hc 3 rfl rfl dX7_longestWaiting_57 (pc2 := 58) rfl ?_
            obtain ⟨j4, hj4, hf⟩ := nm_ex hf
            have Hj4 : ∀ (s6 : Mem), j4 s6 = some (rR, sR) → G κ φ (QI κ φ (NV κ τ) sR rR rm_7_longestWaiting.cells rm_7_longestWaiting.slots) (NV κ τ) 0 0 s6 [(0, .ref (ad κ.1 19 0)), (1, .int a1), (3, .int m2)] 76 [] := by
              intro s6 hf
              rw [hj4] at hf
              refine g_iload_n (i := 3) hc 2 rfl rfl dX7_longestWaiting_76 (pc2 := 77) rfl ?_
              refine g_goto hc 81 (by decide) dX7_longestWaiting_77 ?_
              exact Hj2 _ _ hf
            refine g_if_lt hc 76 (by decide) dX7_longestWaiting_58 (pc2 := 61) rfl (fun q => ?_) (fun q => ?_)
            · have hf := ite_t hf q
              refine g_sub [1, 2, 4] rfl ?_
              exact Hj4 _ hf
            · have hf := ite_f hf q
              refine g_aload_n (i := 0) hc 1 rfl rfl dX7_longestWaiting_61 (pc2 := 62) rfl ?_
              refine g_iload_n (i := 3) hc 4 rfl rfl dX7_longestWaiting_62 (pc2 := 63) rfl ?_
              refine g_iconst (v := (1 : Int32)) hc (by decide) dX7_longestWaiting_63 (pc2 := 64) rfl ?_
              obtain ⟨r1, s7, hp, hf⟩ := bd_some hf
              refine g_vI hc (k7_of hp) co_X7_59 (u19 (by decide)) rfl rfl (by decide) (by decide) (Nat.le_of_ble_eq_true rfl) dX7_longestWaiting_64 (pc2 := 67) rfl ?_
              refine g_aload_n (i := 0) hc 1 rfl rfl dX7_longestWaiting_67 (pc2 := 68) rfl ?_
              refine g_iload_n (i := 2) hc 3 rfl rfl dX7_longestWaiting_68 (pc2 := 69) rfl ?_
              refine g_iconst (v := (1 : Int32)) hc (by decide) dX7_longestWaiting_69 (pc2 := 70) rfl ?_
              obtain ⟨r2, s8, hp, hf⟩ := bd_some hf
              refine g_vI hc (k7_of hp) co_X7_59 (u19 (by decide)) rfl rfl (by decide) (by decide) (Nat.le_of_ble_eq_true rfl) dX7_longestWaiting_70 (pc2 := 73) rfl ?_
              refine g_icmp_le hc 80 (by decide) dX7_longestWaiting_73 (pc2 := 76) rfl (fun q => ?_) (fun q => ?_)
              · have hf := ite_t hf q
                refine g_sub [1, 2, 3, 4] rfl ?_
                exact Hj3 _ hf
              · have hf := ite_f hf q
                refine g_sub [1, 2, 4] rfl ?_
                exact Hj4 _ hf
        obtain ⟨j5, hj5, hf⟩ := nm_ex hf
        have Hj5 : ∀ (s9 : Mem), j5 s9 = some (rR, sR) → G κ φ (QI κ φ (NV κ τ) sR rR rm_7_longestWaiting.cells rm_7_longestWaiting.slots) (NV κ τ) 0 0 s9 [(0, .ref (ad κ.1 19 0)), (1, .int a1), (2, .int m1), (3, .int m2)] 49 [] := by
          intro s9 hf
          rw [hj5] at hf
          refine g_iconst (v := (0 : Int32)) hc (by decide) dX7_longestWaiting_49 (pc2 := 50) rfl ?_
          exact Hj1 _ _ hf
        refine g_icmp_ne hc 49 (by decide) dX7_longestWaiting_20 (pc2 := 23) rfl (fun q => ?_) (fun q => ?_)
        · have hf := ite_f hf q
          exact Hj5 _ hf
        · have hf := ite_t hf q
          refine g_aload_n (i := 0) hc 0 rfl rfl dX7_longestWaiting_23 (pc2 := 24) rfl ?_
          refine g_iload_n (i := 3) hc 3 rfl rfl dX7_longestWaiting_24 (pc2 := 25) rfl ?_
          obtain ⟨r3, s10, hp, hf⟩ := bd_some hf
          refine g_vI hc (k7_isBankrupt hp) co_X7_66 (u19 (by decide)) rfl rfl (by decide) (by decide) (Nat.le_of_ble_eq_true rfl) dX7_longestWaiting_25 (pc2 := 28) rfl ?_
          refine g_if_ne hc 49 (by decide) dX7_longestWaiting_28 (pc2 := 31) rfl (fun q => ?_) (fun q => ?_)
          · have hf := ite_f hf q
            exact Hj5 _ hf
          · have hf := ite_t hf q
            refine g_aload_n (i := 0) hc 0 rfl rfl dX7_longestWaiting_31 (pc2 := 32) rfl ?_
            refine g_iload_n (i := 3) hc 3 rfl rfl dX7_longestWaiting_32 (pc2 := 33) rfl ?_
            obtain ⟨r4, s11, hp, hf⟩ := bd_some hf
            refine g_vI hc (k7_debts hp) co_X7_70 (u19 (by decide)) rfl rfl (by decide) (by decide) (Nat.le_of_ble_eq_true rfl) dX7_longestWaiting_33 (pc2 := 36) rfl ?_
            refine g_aload_n (i := 0) hc 0 rfl rfl dX7_longestWaiting_36 (pc2 := 37) rfl ?_
            refine g_getr (q := ad κ.1 20 0) hc fo_X7_7 (u19 (by decide)) rfl dX7_longestWaiting_37 (pc2 := 40) rfl ?_
            refine g_iconst (v := (4 : Int32)) hc (by decide) dX7_longestWaiting_40 (pc2 := 41) rfl ?_
            refine g_aldi hc 20 0 rfl (u20 (by decide)) (by decide) dX7_longestWaiting_41 (pc2 := 42) rfl ?_
            refine g_icmp_ge hc 49 (by decide) dX7_longestWaiting_42 (pc2 := 45) rfl (fun q => ?_) (fun q => ?_)
            · have hf := ite_t hf q
              exact Hj5 _ hf
            · have hf := ite_f hf q
              refine g_iconst (v := (1 : Int32)) hc (by decide) dX7_longestWaiting_45 (pc2 := 46) rfl ?_
              refine g_goto hc 50 (by decide) dX7_longestWaiting_46 ?_
              exact Hj1 _ _ hf
  refine g_sub [2, 3, 1, 0] rfl ?_
  exact LP_n1 _ _ _ _ hf
def f7_turn (a1 : Int32) (s0 : Mem) : Option (Int32 × Mem) :=
  gd (nz (s0 20 0 ((1 : Int32)).toNatClampNeg)) (gd (ib ((11 : Int32) + ((s0 20 0 ((2 : Int32)).toNatClampNeg) - (s0 20 0 ((2 : Int32)).toNatClampNeg) / (s0 20 0 ((1 : Int32)).toNatClampNeg) * (s0 20 0 ((1 : Int32)).toNatClampNeg))) 291) (nm (s0 20 0 ((11 : Int32) + ((s0 20 0 ((2 : Int32)).toNatClampNeg) - (s0 20 0 ((2 : Int32)).toNatClampNeg) / (s0 20 0 ((1 : Int32)).toNatClampNeg) * (s0 20 0 ((1 : Int32)).toNatClampNeg))).toNatClampNeg) fun x1 => bd (f7_creditorOf x1 a1 s0) fun r1 s1 => (if r1 < (0 : Int32) then (if ((a1 >>> (x1 &&& 31)) &&& (1 : Int32)) = (1 : Int32) then bd (f7_at x1 (3 : Int32) s1) fun r4 s6 => gd (ib r4 291) (gd (ib r4 291) (nm (ms s6 20 0 r4.toNatClampNeg ((s6 20 0 r4.toNatClampNeg) + (1 : Int32))) fun s7 => some (x1, s7))) else bd (f7_longestWaiting a1 s1) fun r2 s2 => (if r2 < (0 : Int32) then some (r2, s2) else gd (ib (((27 : Int32) + ((6 : Int32) * r2)) + x1) 291) (gd (ib (((27 : Int32) + ((6 : Int32) * r2)) + x1) 291) (nm (ms s2 20 0 (((27 : Int32) + ((6 : Int32) * r2)) + x1).toNatClampNeg ((s2 20 0 (((27 : Int32) + ((6 : Int32) * r2)) + x1).toNatClampNeg) + (1 : Int32))) fun s3 => bd (f7_at r2 (5 : Int32) s3) fun r3 s4 => gd (ib r3 291) (gd (ib r3 291) (nm (ms s4 20 0 r3.toNatClampNeg ((s4 20 0 r3.toNatClampNeg) + (1 : Int32))) fun s5 => some (r2, s5))))))) else gd (ib (((27 : Int32) + ((6 : Int32) * x1)) + r1) 291) (gd (ib (((27 : Int32) + ((6 : Int32) * x1)) + r1) 291) (nm (ms s1 20 0 (((27 : Int32) + ((6 : Int32) * x1)) + r1).toNatClampNeg ((s1 20 0 (((27 : Int32) + ((6 : Int32) * x1)) + r1).toNatClampNeg) - (1 : Int32))) fun s8 => bd (f7_at r1 (4 : Int32) s8) fun r5 s9 => gd (ib r5 291) (gd (ib r5 291) (nm (ms s9 20 0 r5.toNatClampNeg ((s9 20 0 r5.toNatClampNeg) + (1 : Int32))) fun s10 => some (r1, s10))))))))
def rm_7_turn : Room := { frames := 3, cells := 0, slots := 0, locals := 69 }
set_option maxHeartbeats 4000000 in
set_option maxRecDepth 100000 in
theorem k7_turn {κ : Kx} {τ : Nat → Int64} {a1 : Int32} {s0 sR : Mem} {rR : Int32}  (hf : f7_turn a1 s0 = some (rR, sR)) : CtI κ yX7_turn cX7_turn 5 (some .int) rm_7_turn (NV κ τ) (NV κ τ) [.ref (ad κ.1 19 0), .int a1] s0 sR rR := by
  refine ct_I (by decide +kernel) (Nat.le_of_ble_eq_true rfl) (fun φ hc hr => ?_)
  have hc : Cx κ φ RX7 cX7_turn 5 rm_7_turn := hc
  show G κ φ (QI κ φ (NV κ τ) sR rR rm_7_turn.cells rm_7_turn.slots) (NV κ τ) 0 0 s0 [(0, .ref (ad κ.1 19 0)), (1, .int a1)] 0 []
  unfold f7_turn at hf
  refine g_aload_n (i := 0) hc 0 rfl rfl dX7_turn_0 (pc2 := 1) rfl ?_
  refine g_getr (q := ad κ.1 20 0) hc fo_X7_7 (u19 (by decide)) rfl dX7_turn_1 (pc2 := 4) rfl ?_
  refine g_bipush (v := (11 : Int32)) hc (by decide) dX7_turn_4 (pc2 := 6) rfl ?_
  refine g_aload_n (i := 0) hc 0 rfl rfl dX7_turn_6 (pc2 := 7) rfl ?_
  refine g_getr (q := ad κ.1 20 0) hc fo_X7_7 (u19 (by decide)) rfl dX7_turn_7 (pc2 := 10) rfl ?_
  refine g_iconst (v := (2 : Int32)) hc (by decide) dX7_turn_10 (pc2 := 11) rfl ?_
  refine g_aldi hc 20 0 rfl (u20 (by decide)) (by decide) dX7_turn_11 (pc2 := 12) rfl ?_
  refine g_aload_n (i := 0) hc 0 rfl rfl dX7_turn_12 (pc2 := 13) rfl ?_
  refine g_getr (q := ad κ.1 20 0) hc fo_X7_7 (u19 (by decide)) rfl dX7_turn_13 (pc2 := 16) rfl ?_
  refine g_iconst (v := (1 : Int32)) hc (by decide) dX7_turn_16 (pc2 := 17) rfl ?_
  refine g_aldi hc 20 0 rfl (u20 (by decide)) (by decide) dX7_turn_17 (pc2 := 18) rfl ?_
  obtain ⟨hg1, hf⟩ := gd_some hf
  refine g_irem hc (nz_of hg1) dX7_turn_18 (pc2 := 19) rfl ?_
  refine g_iadd hc dX7_turn_19 (pc2 := 20) rfl ?_
  obtain ⟨hg2, hf⟩ := gd_some hf
  refine g_aldi hc 20 0 rfl (u20 (by decide)) hg2 dX7_turn_20 (pc2 := 21) rfl ?_
  obtain ⟨x1, hx1, hf⟩ := nm_ex hf
  refine g_nmi hx1 ?_
  refine g_istore_n (i := 2) (L1 := [(2, .int x1), (0, .ref (ad κ.1 19 0)), (1, .int a1)]) hc rfl (by decide) rfl dX7_turn_21 (pc2 := 22) rfl ?_
  refine g_aload_n (i := 0) hc 1 rfl rfl dX7_turn_22 (pc2 := 23) rfl ?_
  refine g_iload_n (i := 2) hc 0 rfl rfl dX7_turn_23 (pc2 := 24) rfl ?_
  refine g_iload_n (i := 1) hc 2 rfl rfl dX7_turn_24 (pc2 := 25) rfl ?_
  obtain ⟨r1, s1, hp, hf⟩ := bd_some hf
  refine g_vI hc (k7_creditorOf hp) co_X7_73 (u19 (by decide)) rfl rfl (by decide) (by decide) (Nat.le_of_ble_eq_true rfl) dX7_turn_25 (pc2 := 28) rfl ?_
  refine g_istore_n (i := 3) (L1 := [(3, .int r1), (2, .int x1), (0, .ref (ad κ.1 19 0)), (1, .int a1)]) hc rfl (by decide) rfl dX7_turn_28 (pc2 := 29) rfl ?_
  refine g_iload_n (i := 3) hc 0 rfl rfl dX7_turn_29 (pc2 := 30) rfl ?_
  refine g_if_lt hc 67 (by decide) dX7_turn_30 (pc2 := 33) rfl (fun q => ?_) (fun q => ?_)
  · have hf := ite_t hf q
    refine g_iload_n (i := 1) hc 3 rfl rfl dX7_turn_67 (pc2 := 68) rfl ?_
    refine g_iload_n (i := 2) hc 1 rfl rfl dX7_turn_68 (pc2 := 69) rfl ?_
    refine g_ishr hc dX7_turn_69 (pc2 := 70) rfl ?_
    refine g_iconst (v := (1 : Int32)) hc (by decide) dX7_turn_70 (pc2 := 71) rfl ?_
    refine g_iand hc dX7_turn_71 (pc2 := 72) rfl ?_
    refine g_iconst (v := (1 : Int32)) hc (by decide) dX7_turn_72 (pc2 := 73) rfl ?_
    refine g_icmp_ne hc 92 (by decide) dX7_turn_73 (pc2 := 76) rfl (fun q => ?_) (fun q => ?_)
    · have hf := ite_f hf q
      refine g_aload_n (i := 0) hc 2 rfl rfl dX7_turn_92 (pc2 := 93) rfl ?_
      refine g_iload_n (i := 1) hc 3 rfl rfl dX7_turn_93 (pc2 := 94) rfl ?_
      obtain ⟨r2, s2, hp, hf⟩ := bd_some hf
      refine g_vI hc (k7_longestWaiting hp) co_X7_76 (u19 (by decide)) rfl rfl (by decide) (by decide) (Nat.le_of_ble_eq_true rfl) dX7_turn_94 (pc2 := 97) rfl ?_
      refine g_istore (L1 := [(4, .int r2), (3, .int r1), (2, .int x1), (0, .ref (ad κ.1 19 0)), (1, .int a1)]) hc (by decide) rfl dX7_turn_97 (pc2 := 99) rfl ?_
      refine g_iload hc 0 rfl dX7_turn_99 (pc2 := 101) rfl ?_
      refine g_if_lt hc 138 (by decide) dX7_turn_101 (pc2 := 104) rfl (fun q => ?_) (fun q => ?_)
      · have hf := ite_t hf q
        refine g_iload hc 0 rfl dX7_turn_138 (pc2 := 140) rfl ?_
        exact g_iret hc hf hr rfl (by decide) (by decide) dX7_turn_140
      · have hf := ite_f hf q
        refine g_aload_n (i := 0) hc 3 rfl rfl dX7_turn_104 (pc2 := 105) rfl ?_
        refine g_getr (q := ad κ.1 20 0) hc fo_X7_7 (u19 (by decide)) rfl dX7_turn_105 (pc2 := 108) rfl ?_
        refine g_bipush (v := (27 : Int32)) hc (by decide) dX7_turn_108 (pc2 := 110) rfl ?_
        refine g_bipush (v := (6 : Int32)) hc (by decide) dX7_turn_110 (pc2 := 112) rfl ?_
        refine g_iload hc 0 rfl dX7_turn_112 (pc2 := 114) rfl ?_
        refine g_imul hc dX7_turn_114 (pc2 := 115) rfl ?_
        refine g_iadd hc dX7_turn_115 (pc2 := 116) rfl ?_
        refine g_iload_n (i := 2) hc 2 rfl rfl dX7_turn_116 (pc2 := 117) rfl ?_
        refine g_iadd hc dX7_turn_117 (pc2 := 118) rfl ?_
        refine g_dup2 hc rfl rfl dX7_turn_118 (pc2 := 119) rfl ?_
        obtain ⟨hg3, hf⟩ := gd_some hf
        refine g_aldi hc 20 0 rfl (u20 (by decide)) hg3 dX7_turn_119 (pc2 := 120) rfl ?_
        refine g_iconst (v := (1 : Int32)) hc (by decide) dX7_turn_120 (pc2 := 121) rfl ?_
        refine g_iadd hc dX7_turn_121 (pc2 := 122) rfl ?_
        obtain ⟨hg4, hf⟩ := gd_some hf
        obtain ⟨s3, hs3, hf⟩ := nm_ex hf
        refine g_asti hc 20 0 rfl (u20 (by decide)) hg4 dX7_turn_122 (pc2 := 123) rfl ?_
        refine g_nms hs3 ?_
        refine g_aload_n (i := 0) hc 3 rfl rfl dX7_turn_123 (pc2 := 124) rfl ?_
        refine g_getr (q := ad κ.1 20 0) hc fo_X7_7 (u19 (by decide)) rfl dX7_turn_124 (pc2 := 127) rfl ?_
        refine g_iload hc 0 rfl dX7_turn_127 (pc2 := 129) rfl ?_
        refine g_iconst (v := (5 : Int32)) hc (by decide) dX7_turn_129 (pc2 := 130) rfl ?_
        obtain ⟨r3, s4, hp, hf⟩ := bd_some hf
        refine g_sI hc (k7_at hp) co_X7_52 rfl rfl (by decide) (by decide) (Nat.le_of_ble_eq_true rfl) dX7_turn_130 (pc2 := 133) rfl ?_
        refine g_dup2 hc rfl rfl dX7_turn_133 (pc2 := 134) rfl ?_
        obtain ⟨hg5, hf⟩ := gd_some hf
        refine g_aldi hc 20 0 rfl (u20 (by decide)) hg5 dX7_turn_134 (pc2 := 135) rfl ?_
        refine g_iconst (v := (1 : Int32)) hc (by decide) dX7_turn_135 (pc2 := 136) rfl ?_
        refine g_iadd hc dX7_turn_136 (pc2 := 137) rfl ?_
        obtain ⟨hg6, hf⟩ := gd_some hf
        obtain ⟨s5, hs5, hf⟩ := nm_ex hf
        refine g_asti hc 20 0 rfl (u20 (by decide)) hg6 dX7_turn_137 (pc2 := 138) rfl ?_
        refine g_nms hs5 ?_
        refine g_iload hc 0 rfl dX7_turn_138 (pc2 := 140) rfl ?_
        exact g_iret hc hf hr rfl (by decide) (by decide) dX7_turn_140
    · have hf := ite_t hf q
      refine g_aload_n (i := 0) hc 2 rfl rfl dX7_turn_76 (pc2 := 77) rfl ?_
      refine g_getr (q := ad κ.1 20 0) hc fo_X7_7 (u19 (by decide)) rfl dX7_turn_77 (pc2 := 80) rfl ?_
      refine g_iload_n (i := 2) hc 1 rfl rfl dX7_turn_80 (pc2 := 81) rfl ?_
      refine g_iconst (v := (3 : Int32)) hc (by decide) dX7_turn_81 (pc2 := 82) rfl ?_
      obtain ⟨r4, s6, hp, hf⟩ := bd_some hf
      refine g_sI hc (k7_at hp) co_X7_52 rfl rfl (by decide) (by decide) (Nat.le_of_ble_eq_true rfl) dX7_turn_82 (pc2 := 85) rfl ?_
      refine g_dup2 hc rfl rfl dX7_turn_85 (pc2 := 86) rfl ?_
      obtain ⟨hg7, hf⟩ := gd_some hf
      refine g_aldi hc 20 0 rfl (u20 (by decide)) hg7 dX7_turn_86 (pc2 := 87) rfl ?_
      refine g_iconst (v := (1 : Int32)) hc (by decide) dX7_turn_87 (pc2 := 88) rfl ?_
      refine g_iadd hc dX7_turn_88 (pc2 := 89) rfl ?_
      obtain ⟨hg8, hf⟩ := gd_some hf
      obtain ⟨s7, hs7, hf⟩ := nm_ex hf
      refine g_asti hc 20 0 rfl (u20 (by decide)) hg8 dX7_turn_89 (pc2 := 90) rfl ?_
      refine g_nms hs7 ?_
      refine g_iload_n (i := 2) hc 1 rfl rfl dX7_turn_90 (pc2 := 91) rfl ?_
      exact g_iret hc hf hr rfl (by decide) (by decide) dX7_turn_91
  · have hf := ite_f hf q
    refine g_aload_n (i := 0) hc 2 rfl rfl dX7_turn_33 (pc2 := 34) rfl ?_
    refine g_getr (q := ad κ.1 20 0) hc fo_X7_7 (u19 (by decide)) rfl dX7_turn_34 (pc2 := 37) rfl ?_
    refine g_bipush (v := (27 : Int32)) hc (by decide) dX7_turn_37 (pc2 := 39) rfl ?_
    refine g_bipush (v := (6 : Int32)) hc (by decide) dX7_turn_39 (pc2 := 41) rfl ?_
    refine g_iload_n (i := 2) hc 1 rfl rfl dX7_turn_41 (pc2 := 42) rfl ?_
    refine g_imul hc dX7_turn_42 (pc2 := 43) rfl ?_
    refine g_iadd hc dX7_turn_43 (pc2 := 44) rfl ?_
    refine g_iload_n (i := 3) hc 0 rfl rfl dX7_turn_44 (pc2 := 45) rfl ?_
    refine g_iadd hc dX7_turn_45 (pc2 := 46) rfl ?_
    refine g_dup2 hc rfl rfl dX7_turn_46 (pc2 := 47) rfl ?_
    obtain ⟨hg9, hf⟩ := gd_some hf
    refine g_aldi hc 20 0 rfl (u20 (by decide)) hg9 dX7_turn_47 (pc2 := 48) rfl ?_
    refine g_iconst (v := (1 : Int32)) hc (by decide) dX7_turn_48 (pc2 := 49) rfl ?_
    refine g_isub hc dX7_turn_49 (pc2 := 50) rfl ?_
    obtain ⟨hg10, hf⟩ := gd_some hf
    obtain ⟨s8, hs8, hf⟩ := nm_ex hf
    refine g_asti hc 20 0 rfl (u20 (by decide)) hg10 dX7_turn_50 (pc2 := 51) rfl ?_
    refine g_nms hs8 ?_
    refine g_aload_n (i := 0) hc 2 rfl rfl dX7_turn_51 (pc2 := 52) rfl ?_
    refine g_getr (q := ad κ.1 20 0) hc fo_X7_7 (u19 (by decide)) rfl dX7_turn_52 (pc2 := 55) rfl ?_
    refine g_iload_n (i := 3) hc 0 rfl rfl dX7_turn_55 (pc2 := 56) rfl ?_
    refine g_iconst (v := (4 : Int32)) hc (by decide) dX7_turn_56 (pc2 := 57) rfl ?_
    obtain ⟨r5, s9, hp, hf⟩ := bd_some hf
    refine g_sI hc (k7_at hp) co_X7_52 rfl rfl (by decide) (by decide) (Nat.le_of_ble_eq_true rfl) dX7_turn_57 (pc2 := 60) rfl ?_
    refine g_dup2 hc rfl rfl dX7_turn_60 (pc2 := 61) rfl ?_
    obtain ⟨hg11, hf⟩ := gd_some hf
    refine g_aldi hc 20 0 rfl (u20 (by decide)) hg11 dX7_turn_61 (pc2 := 62) rfl ?_
    refine g_iconst (v := (1 : Int32)) hc (by decide) dX7_turn_62 (pc2 := 63) rfl ?_
    refine g_iadd hc dX7_turn_63 (pc2 := 64) rfl ?_
    obtain ⟨hg12, hf⟩ := gd_some hf
    obtain ⟨s10, hs10, hf⟩ := nm_ex hf
    refine g_asti hc 20 0 rfl (u20 (by decide)) hg12 dX7_turn_64 (pc2 := 65) rfl ?_
    refine g_nms hs10 ?_
    refine g_iload_n (i := 3) hc 0 rfl rfl dX7_turn_65 (pc2 := 66) rfl ?_
    exact g_iret hc hf hr rfl (by decide) (by decide) dX7_turn_66
def f7_uses_l183 (a1 : Int32) (k1 : Mem → Option Mem) : Nat → Int32 → Mem → Option Mem
  | 0, _, _ => none
  | n1 + 1, m1, s10 => (if (15 : Int32) ≤ m1 then k1 s10 else bd (f7_at a1 ((8 : Int32) + m1) s10) fun r6 s11 => bd (f7_of a1 (((8 : Int32) + m1) + (3 : Int32)) s11) fun r7 s12 => gd (ib r6 291) (nm (ms s12 20 0 r6.toNatClampNeg r7) fun s13 => nm (m1 + (1 : Int32)) fun x1 => f7_uses_l183 a1 k1 n1 x1 s13))
def f7_uses_l12 (a1 : Int32) (k2 : Mem → Option Mem) : Nat → Int32 → Mem → Option Mem
  | 0, _, _ => none
  | n2 + 1, m2, s25 => bd (f7_of a1 (7 : Int32) s25) fun r14 s26 => (if (r14 - (1 : Int32)) ≤ m2 then k2 s26 else bd (f7_at a1 ((26 : Int32) + m2) s26) fun r15 s27 => bd (f7_of a1 (((26 : Int32) + m2) + (1 : Int32)) s27) fun r16 s28 => gd (ib r15 291) (nm (ms s28 20 0 r15.toNatClampNeg r16) fun s29 => nm (m2 + (1 : Int32)) fun x2 => f7_uses_l12 a1 k2 n2 x2 s29))
def f7_uses (a1 : Int32) (s0 : Mem) : Option Mem :=
  bd (f7_ready a1 s0) fun r1 s1 => (if r1 < (0 : Int32) then bd (f7_at a1 (9 : Int32) s1) fun r2 s2 => gd (ib r2 291) (gd (ib r2 291) (nm (ms s2 20 0 r2.toNatClampNeg ((s2 20 0 r2.toNatClampNeg) - (1 : Int32))) fun s3 => bd (f7_of a1 (9 : Int32) s3) fun r3 s4 => (if r3 ≤ (0 : Int32) then bd (f7_of a1 (10 : Int32) s4) fun r4 s5 => nm (fun (s6 : Mem) => nm (fun (s7 : Mem) => bd (f7_at a1 (0 : Int32) s7) fun r5 s8 => gd (ib r5 291) (gd (ib r5 291) (nm (ms s8 20 0 r5.toNatClampNeg ((s8 20 0 r5.toNatClampNeg) - (1 : Int32))) fun s9 => some s9))) fun k1 => f7_uses_l183 a1 k1 FU (0 : Int32) s6) fun j1 => (if r4 = (1 : Int32) then bd (f7_of a1 (7 : Int32) s5) fun r8 s14 => bd (f7_at a1 ((26 : Int32) + r8) s14) fun r9 s15 => bd (f7_of a1 (8 : Int32) s15) fun r10 s16 => gd (ib ((7 : Int32) + r10) 291) (gd (ib r9 291) (nm (ms s16 20 0 r9.toNatClampNeg (((s15 20 0 ((2 : Int32)).toNatClampNeg) + (1 : Int32)) + (s16 20 0 ((7 : Int32) + r10).toNatClampNeg))) fun s17 => bd (f7_at a1 (7 : Int32) s17) fun r11 s18 => gd (ib r11 291) (gd (ib r11 291) (nm (ms s18 20 0 r11.toNatClampNeg ((s18 20 0 r11.toNatClampNeg) + (1 : Int32))) fun s19 => j1 s19)))) else j1 s5) else some s4))) else nm (fun (s20 : Mem) => bd (f7_at a1 (7 : Int32) s20) fun r12 s21 => gd (ib r12 291) (gd (ib r12 291) (nm (ms s21 20 0 r12.toNatClampNeg ((s21 20 0 r12.toNatClampNeg) - (1 : Int32))) fun s22 => bd (f7_at a1 (6 : Int32) s22) fun r13 s23 => gd (ib r13 291) (gd (ib r13 291) (nm (ms s23 20 0 r13.toNatClampNeg ((s23 20 0 r13.toNatClampNeg) + (1 : Int32))) fun s24 => some s24))))) fun k2 => f7_uses_l12 a1 k2 FU r1 s1)
def rm_7_uses : Room := { frames := 3, cells := 0, slots := 0, locals := 66 }
set_option maxHeartbeats 4000000 in
set_option maxRecDepth 100000 in
theorem k7_uses {κ : Kx} {τ : Nat → Int64} {a1 : Int32} {s0 sR : Mem}  (hf : f7_uses a1 s0 = some sR) : CtV κ yX7_uses cX7_uses 4 none rm_7_uses (NV κ τ) (NV κ τ) [.ref (ad κ.1 19 0), .int a1] s0 sR := by
  refine ct_V (by decide +kernel) (Nat.le_of_ble_eq_true rfl) (fun φ hc hr => ?_)
  have hc : Cx κ φ RX7 cX7_uses 4 rm_7_uses := hc
  show G κ φ (QV κ φ (NV κ τ) sR rm_7_uses.cells rm_7_uses.slots) (NV κ τ) 0 0 s0 [(0, .ref (ad κ.1 19 0)), (1, .int a1)] 0 []
  unfold f7_uses at hf
  refine g_aload_n (i := 0) hc 0 rfl rfl dX7_uses_0 (pc2 := 1) rfl ?_
  refine g_iload_n (i := 1) hc 1 rfl rfl dX7_uses_1 (pc2 := 2) rfl ?_
  obtain ⟨r1, s1, hp, hf⟩ := bd_some hf
  refine g_vI hc (k7_ready hp) co_X7_62 (u19 (by decide)) rfl rfl (by decide) (by decide) (Nat.le_of_ble_eq_true rfl) dX7_uses_2 (pc2 := 5) rfl ?_
  refine g_istore_n (i := 2) (L1 := [(2, .int r1), (0, .ref (ad κ.1 19 0)), (1, .int a1)]) hc rfl (by decide) rfl dX7_uses_5 (pc2 := 6) rfl ?_
  refine g_iload_n (i := 2) hc 0 rfl rfl dX7_uses_6 (pc2 := 7) rfl ?_
  refine g_if_lt hc 86 (by decide) dX7_uses_7 (pc2 := 10) rfl (fun q => ?_) (fun q => ?_)
  · have hf := ite_t hf q
    refine g_aload_n (i := 0) hc 1 rfl rfl dX7_uses_86 (pc2 := 87) rfl ?_
    refine g_getr (q := ad κ.1 20 0) hc fo_X7_7 (u19 (by decide)) rfl dX7_uses_87 (pc2 := 90) rfl ?_
    refine g_iload_n (i := 1) hc 2 rfl rfl dX7_uses_90 (pc2 := 91) rfl ?_
    refine g_bipush (v := (9 : Int32)) hc (by decide) dX7_uses_91 (pc2 := 93) rfl ?_
    obtain ⟨r2, s2, hp, hf⟩ := bd_some hf
    refine g_sI hc (k7_at hp) co_X7_52 rfl rfl (by decide) (by decide) (Nat.le_of_ble_eq_true rfl) dX7_uses_93 (pc2 := 96) rfl ?_
    refine g_dup2 hc rfl rfl dX7_uses_96 (pc2 := 97) rfl ?_
    obtain ⟨hg1, hf⟩ := gd_some hf
    refine g_aldi hc 20 0 rfl (u20 (by decide)) hg1 dX7_uses_97 (pc2 := 98) rfl ?_
    refine g_iconst (v := (1 : Int32)) hc (by decide) dX7_uses_98 (pc2 := 99) rfl ?_
    refine g_isub hc dX7_uses_99 (pc2 := 100) rfl ?_
    obtain ⟨hg2, hf⟩ := gd_some hf
    obtain ⟨s3, hs3, hf⟩ := nm_ex hf
    refine g_asti hc 20 0 rfl (u20 (by decide)) hg2 dX7_uses_100 (pc2 := 101) rfl ?_
    refine g_nms hs3 ?_
    refine g_aload_n (i := 0) hc 1 rfl rfl dX7_uses_101 (pc2 := 102) rfl ?_
    refine g_iload_n (i := 1) hc 2 rfl rfl dX7_uses_102 (pc2 := 103) rfl ?_
    refine g_bipush (v := (9 : Int32)) hc (by decide) dX7_uses_103 (pc2 := 105) rfl ?_
    obtain ⟨r3, s4, hp, hf⟩ := bd_some hf
    refine g_vI hc (k7_of hp) co_X7_59 (u19 (by decide)) rfl rfl (by decide) (by decide) (Nat.le_of_ble_eq_true rfl) dX7_uses_105 (pc2 := 108) rfl ?_
    refine g_if_le hc 112 (by decide) dX7_uses_108 (pc2 := 111) rfl (fun q => ?_) (fun q => ?_)
    · have hf := ite_t hf q
      refine g_aload_n (i := 0) hc 1 rfl rfl dX7_uses_112 (pc2 := 113) rfl ?_
      refine g_iload_n (i := 1) hc 2 rfl rfl dX7_uses_113 (pc2 := 114) rfl ?_
      refine g_bipush (v := (10 : Int32)) hc (by decide) dX7_uses_114 (pc2 := 116) rfl ?_
      obtain ⟨r4, s5, hp, hf⟩ := bd_some hf
      refine g_vI hc (k7_of hp) co_X7_59 (u19 (by decide)) rfl rfl (by decide) (by decide) (Nat.le_of_ble_eq_true rfl) dX7_uses_116 (pc2 := 119) rfl ?_
      refine g_iconst (v := (1 : Int32)) hc (by decide) dX7_uses_119 (pc2 := 120) rfl ?_
      obtain ⟨j1, hj1, hf⟩ := nm_ex hf
      have Hj1 : ∀ (s6 : Mem), j1 s6 = some sR → G κ φ (QV κ φ (NV κ τ) sR rm_7_uses.cells rm_7_uses.slots) (NV κ τ) 0 0 s6 [(0, .ref (ad κ.1 19 0)), (1, .int a1)] 181 [] := by
        intro s6 hf
        rw [hj1] at hf
        refine g_iconst (v := (0 : Int32)) hc (by decide) dX7_uses_181 (pc2 := 182) rfl ?_
        refine g_istore_n (i := 3) (L1 := [(3, .int (0 : Int32)), (0, .ref (ad κ.1 19 0)), (1, .int a1)]) hc rfl (by decide) rfl dX7_uses_182 (pc2 := 183) rfl ?_
        obtain ⟨k1, hk1, hf⟩ := nm_ex hf
        have Hk1 : ∀ (s7 : Mem), k1 s7 = some sR → G κ φ (QV κ φ (NV κ τ) sR rm_7_uses.cells rm_7_uses.slots) (NV κ τ) 0 0 s7 [(0, .ref (ad κ.1 19 0)), (1, .int a1)] 219 [] := by
          intro s7 hf
          rw [hk1] at hf
          refine g_aload_n (i := 0) hc 0 rfl rfl dX7_uses_219 (pc2 := 220) rfl ?_
          refine g_getr (q := ad κ.1 20 0) hc fo_X7_7 (u19 (by decide)) rfl dX7_uses_220 (pc2 := 223) rfl ?_
          refine g_iload_n (i := 1) hc 1 rfl rfl dX7_uses_223 (pc2 := 224) rfl ?_
          refine g_iconst (v := (0 : Int32)) hc (by decide) dX7_uses_224 (pc2 := 225) rfl ?_
          obtain ⟨r5, s8, hp, hf⟩ := bd_some hf
          refine g_sI hc (k7_at hp) co_X7_52 rfl rfl (by decide) (by decide) (Nat.le_of_ble_eq_true rfl) dX7_uses_225 (pc2 := 228) rfl ?_
          refine g_dup2 hc rfl rfl dX7_uses_228 (pc2 := 229) rfl ?_
          obtain ⟨hg3, hf⟩ := gd_some hf
          refine g_aldi hc 20 0 rfl (u20 (by decide)) hg3 dX7_uses_229 (pc2 := 230) rfl ?_
          refine g_iconst (v := (1 : Int32)) hc (by decide) dX7_uses_230 (pc2 := 231) rfl ?_
          refine g_isub hc dX7_uses_231 (pc2 := 232) rfl ?_
          obtain ⟨hg4, hf⟩ := gd_some hf
          obtain ⟨s9, hs9, hf⟩ := nm_ex hf
          refine g_asti hc 20 0 rfl (u20 (by decide)) hg4 dX7_uses_232 (pc2 := 233) rfl ?_
          refine g_nms hs9 ?_
          exact g_vret hc hf hr (by decide) (by decide) dX7_uses_233
        have LP_n1 : ∀ (n1 : Nat) (m1 : Int32) (s10 : Mem), f7_uses_l183 a1 k1 n1 m1 s10 = some sR → G κ φ (QV κ φ (NV κ τ) sR rm_7_uses.cells rm_7_uses.slots) (NV κ τ) 0 0 s10 [(0, .ref (ad κ.1 19 0)), (1, .int a1), (3, .int m1)] 183 [] := by
          intro n1
          induction n1 with
          | zero => intro m1 s10 hf; rw [f7_uses_l183] at hf; cases hf
          | succ n1 ih_n1 =>
            intro m1 s10 hf
            rw [f7_uses_l183] at hf
            refine g_iload_n (i := 3) hc 2 rfl rfl dX7_uses_183 (pc2 := 184) rfl ?_
            refine g_bipush (v := (15 : Int32)) hc (by decide) dX7_uses_184 (pc2 := 186) rfl ?_
            refine g_icmp_ge hc 219 (by decide) dX7_uses_186 (pc2 := 189) rfl (fun q => ?_) (fun q => ?_)
            · have hf := ite_t hf q
              refine g_sub [0, 1] rfl ?_
              exact Hk1 _ hf
            · have hf := ite_f hf q
              refine g_aload_n (i := 0) hc 0 rfl rfl dX7_uses_189 (pc2 := 190) rfl ?_
              refine g_getr (q := ad κ.1 20 0) hc fo_X7_7 (u19 (by decide)) rfl dX7_uses_190 (pc2 := 193) rfl ?_
              refine g_iload_n (i := 1) hc 1 rfl rfl dX7_uses_193 (pc2 := 194) rfl ?_
              refine g_bipush (v := (8 : Int32)) hc (by decide) dX7_uses_194 (pc2 := 196) rfl ?_
              refine g_iload_n (i := 3) hc 2 rfl rfl dX7_uses_196 (pc2 := 197) rfl ?_
              refine g_iadd hc dX7_uses_197 (pc2 := 198) rfl ?_
              obtain ⟨r6, s11, hp, hf⟩ := bd_some hf
              refine g_sI hc (k7_at hp) co_X7_52 rfl rfl (by decide) (by decide) (Nat.le_of_ble_eq_true rfl) dX7_uses_198 (pc2 := 201) rfl ?_
              refine g_aload_n (i := 0) hc 0 rfl rfl dX7_uses_201 (pc2 := 202) rfl ?_
              refine g_iload_n (i := 1) hc 1 rfl rfl dX7_uses_202 (pc2 := 203) rfl ?_
              refine g_bipush (v := (8 : Int32)) hc (by decide) dX7_uses_203 (pc2 := 205) rfl ?_
              refine g_iload_n (i := 3) hc 2 rfl rfl dX7_uses_205 (pc2 := 206) rfl ?_
              refine g_iadd hc dX7_uses_206 (pc2 := 207) rfl ?_
              refine g_iconst (v := (3 : Int32)) hc (by decide) dX7_uses_207 (pc2 := 208) rfl ?_
              refine g_iadd hc dX7_uses_208 (pc2 := 209) rfl ?_
              obtain ⟨r7, s12, hp, hf⟩ := bd_some hf
              refine g_vI hc (k7_of hp) co_X7_59 (u19 (by decide)) rfl rfl (by decide) (by decide) (Nat.le_of_ble_eq_true rfl) dX7_uses_209 (pc2 := 212) rfl ?_
              obtain ⟨hg5, hf⟩ := gd_some hf
              obtain ⟨s13, hs13, hf⟩ := nm_ex hf
              refine g_asti hc 20 0 rfl (u20 (by decide)) hg5 dX7_uses_212 (pc2 := 213) rfl ?_
              refine g_nms hs13 ?_
              obtain ⟨x1, hx1, hf⟩ := nm_ex hf
              refine g_iinc (v := x1) (L1 := [(3, .int x1), (0, .ref (ad κ.1 19 0)), (1, .int a1)]) hc 2 rfl (by rw [hx1]; rfl) (by decide) rfl dX7_uses_213 (pc2 := 216) rfl ?_
              refine g_goto hc 183 (by decide) dX7_uses_216 ?_
              refine g_sub [1, 2, 0] rfl ?_
              exact ih_n1 _ _ hf
        refine g_sub [1, 2, 0] rfl ?_
        exact LP_n1 _ _ _ hf
      refine g_icmp_ne hc 181 (by decide) dX7_uses_120 (pc2 := 123) rfl (fun q => ?_) (fun q => ?_)
      · have hf := ite_f hf q
        refine g_sub [1, 2] rfl ?_
        exact Hj1 _ hf
      · have hf := ite_t hf q
        refine g_aload_n (i := 0) hc 1 rfl rfl dX7_uses_123 (pc2 := 124) rfl ?_
        refine g_getr (q := ad κ.1 20 0) hc fo_X7_7 (u19 (by decide)) rfl dX7_uses_124 (pc2 := 127) rfl ?_
        refine g_iload_n (i := 1) hc 2 rfl rfl dX7_uses_127 (pc2 := 128) rfl ?_
        refine g_bipush (v := (26 : Int32)) hc (by decide) dX7_uses_128 (pc2 := 130) rfl ?_
        refine g_aload_n (i := 0) hc 1 rfl rfl dX7_uses_130 (pc2 := 131) rfl ?_
        refine g_iload_n (i := 1) hc 2 rfl rfl dX7_uses_131 (pc2 := 132) rfl ?_
        refine g_bipush (v := (7 : Int32)) hc (by decide) dX7_uses_132 (pc2 := 134) rfl ?_
        obtain ⟨r8, s14, hp, hf⟩ := bd_some hf
        refine g_vI hc (k7_of hp) co_X7_59 (u19 (by decide)) rfl rfl (by decide) (by decide) (Nat.le_of_ble_eq_true rfl) dX7_uses_134 (pc2 := 137) rfl ?_
        refine g_iadd hc dX7_uses_137 (pc2 := 138) rfl ?_
        obtain ⟨r9, s15, hp, hf⟩ := bd_some hf
        refine g_sI hc (k7_at hp) co_X7_52 rfl rfl (by decide) (by decide) (Nat.le_of_ble_eq_true rfl) dX7_uses_138 (pc2 := 141) rfl ?_
        refine g_aload_n (i := 0) hc 1 rfl rfl dX7_uses_141 (pc2 := 142) rfl ?_
        refine g_getr (q := ad κ.1 20 0) hc fo_X7_7 (u19 (by decide)) rfl dX7_uses_142 (pc2 := 145) rfl ?_
        refine g_iconst (v := (2 : Int32)) hc (by decide) dX7_uses_145 (pc2 := 146) rfl ?_
        refine g_aldi hc 20 0 rfl (u20 (by decide)) (by decide) dX7_uses_146 (pc2 := 147) rfl ?_
        refine g_iconst (v := (1 : Int32)) hc (by decide) dX7_uses_147 (pc2 := 148) rfl ?_
        refine g_iadd hc dX7_uses_148 (pc2 := 149) rfl ?_
        refine g_aload_n (i := 0) hc 1 rfl rfl dX7_uses_149 (pc2 := 150) rfl ?_
        refine g_getr (q := ad κ.1 20 0) hc fo_X7_7 (u19 (by decide)) rfl dX7_uses_150 (pc2 := 153) rfl ?_
        refine g_bipush (v := (7 : Int32)) hc (by decide) dX7_uses_153 (pc2 := 155) rfl ?_
        refine g_aload_n (i := 0) hc 1 rfl rfl dX7_uses_155 (pc2 := 156) rfl ?_
        refine g_iload_n (i := 1) hc 2 rfl rfl dX7_uses_156 (pc2 := 157) rfl ?_
        refine g_bipush (v := (8 : Int32)) hc (by decide) dX7_uses_157 (pc2 := 159) rfl ?_
        obtain ⟨r10, s16, hp, hf⟩ := bd_some hf
        refine g_vI hc (k7_of hp) co_X7_59 (u19 (by decide)) rfl rfl (by decide) (by decide) (Nat.le_of_ble_eq_true rfl) dX7_uses_159 (pc2 := 162) rfl ?_
        refine g_iadd hc dX7_uses_162 (pc2 := 163) rfl ?_
        obtain ⟨hg6, hf⟩ := gd_some hf
        refine g_aldi hc 20 0 rfl (u20 (by decide)) hg6 dX7_uses_163 (pc2 := 164) rfl ?_
        refine g_iadd hc dX7_uses_164 (pc2 := 165) rfl ?_
        obtain ⟨hg7, hf⟩ := gd_some hf
        obtain ⟨s17, hs17, hf⟩ := nm_ex hf
        refine g_asti hc 20 0 rfl (u20 (by decide)) hg7 dX7_uses_165 (pc2 := 166) rfl ?_
        refine g_nms hs17 ?_
        refine g_aload_n (i := 0) hc 1 rfl rfl dX7_uses_166 (pc2 := 167) rfl ?_
        refine g_getr (q := ad κ.1 20 0) hc fo_X7_7 (u19 (by decide)) rfl dX7_uses_167 (pc2 := 170) rfl ?_
        refine g_iload_n (i := 1) hc 2 rfl rfl dX7_uses_170 (pc2 := 171) rfl ?_
        refine g_bipush (v := (7 : Int32)) hc (by decide) dX7_uses_171 (pc2 := 173) rfl ?_
        obtain ⟨r11, s18, hp, hf⟩ := bd_some hf
        refine g_sI hc (k7_at hp) co_X7_52 rfl rfl (by decide) (by decide) (Nat.le_of_ble_eq_true rfl) dX7_uses_173 (pc2 := 176) rfl ?_
        refine g_dup2 hc rfl rfl dX7_uses_176 (pc2 := 177) rfl ?_
        obtain ⟨hg8, hf⟩ := gd_some hf
        refine g_aldi hc 20 0 rfl (u20 (by decide)) hg8 dX7_uses_177 (pc2 := 178) rfl ?_
        refine g_iconst (v := (1 : Int32)) hc (by decide) dX7_uses_178 (pc2 := 179) rfl ?_
        refine g_iadd hc dX7_uses_179 (pc2 := 180) rfl ?_
        obtain ⟨hg9, hf⟩ := gd_some hf
        obtain ⟨s19, hs19, hf⟩ := nm_ex hf
        refine g_asti hc 20 0 rfl (u20 (by decide)) hg9 dX7_uses_180 (pc2 := 181) rfl ?_
        refine g_nms hs19 ?_
        refine g_sub [1, 2] rfl ?_
        exact Hj1 _ hf
    · have hf := ite_f hf q
      exact g_vret hc hf hr (by decide) (by decide) dX7_uses_111
  · have hf := ite_f hf q
    refine g_iload_n (i := 2) hc 0 rfl rfl dX7_uses_10 (pc2 := 11) rfl ?_
    refine g_istore_n (i := 3) (L1 := [(3, .int r1), (2, .int r1), (0, .ref (ad κ.1 19 0)), (1, .int a1)]) hc rfl (by decide) rfl dX7_uses_11 (pc2 := 12) rfl ?_
    obtain ⟨k2, hk2, hf⟩ := nm_ex hf
    have Hk2 : ∀ (s20 : Mem), k2 s20 = some sR → G κ φ (QV κ φ (NV κ τ) sR rm_7_uses.cells rm_7_uses.slots) (NV κ τ) 0 0 s20 [(0, .ref (ad κ.1 19 0)), (1, .int a1)] 55 [] := by
      intro s20 hf
      rw [hk2] at hf
      refine g_aload_n (i := 0) hc 0 rfl rfl dX7_uses_55 (pc2 := 56) rfl ?_
      refine g_getr (q := ad κ.1 20 0) hc fo_X7_7 (u19 (by decide)) rfl dX7_uses_56 (pc2 := 59) rfl ?_
      refine g_iload_n (i := 1) hc 1 rfl rfl dX7_uses_59 (pc2 := 60) rfl ?_
      refine g_bipush (v := (7 : Int32)) hc (by decide) dX7_uses_60 (pc2 := 62) rfl ?_
      obtain ⟨r12, s21, hp, hf⟩ := bd_some hf
      refine g_sI hc (k7_at hp) co_X7_52 rfl rfl (by decide) (by decide) (Nat.le_of_ble_eq_true rfl) dX7_uses_62 (pc2 := 65) rfl ?_
      refine g_dup2 hc rfl rfl dX7_uses_65 (pc2 := 66) rfl ?_
      obtain ⟨hg10, hf⟩ := gd_some hf
      refine g_aldi hc 20 0 rfl (u20 (by decide)) hg10 dX7_uses_66 (pc2 := 67) rfl ?_
      refine g_iconst (v := (1 : Int32)) hc (by decide) dX7_uses_67 (pc2 := 68) rfl ?_
      refine g_isub hc dX7_uses_68 (pc2 := 69) rfl ?_
      obtain ⟨hg11, hf⟩ := gd_some hf
      obtain ⟨s22, hs22, hf⟩ := nm_ex hf
      refine g_asti hc 20 0 rfl (u20 (by decide)) hg11 dX7_uses_69 (pc2 := 70) rfl ?_
      refine g_nms hs22 ?_
      refine g_aload_n (i := 0) hc 0 rfl rfl dX7_uses_70 (pc2 := 71) rfl ?_
      refine g_getr (q := ad κ.1 20 0) hc fo_X7_7 (u19 (by decide)) rfl dX7_uses_71 (pc2 := 74) rfl ?_
      refine g_iload_n (i := 1) hc 1 rfl rfl dX7_uses_74 (pc2 := 75) rfl ?_
      refine g_bipush (v := (6 : Int32)) hc (by decide) dX7_uses_75 (pc2 := 77) rfl ?_
      obtain ⟨r13, s23, hp, hf⟩ := bd_some hf
      refine g_sI hc (k7_at hp) co_X7_52 rfl rfl (by decide) (by decide) (Nat.le_of_ble_eq_true rfl) dX7_uses_77 (pc2 := 80) rfl ?_
      refine g_dup2 hc rfl rfl dX7_uses_80 (pc2 := 81) rfl ?_
      obtain ⟨hg12, hf⟩ := gd_some hf
      refine g_aldi hc 20 0 rfl (u20 (by decide)) hg12 dX7_uses_81 (pc2 := 82) rfl ?_
      refine g_iconst (v := (1 : Int32)) hc (by decide) dX7_uses_82 (pc2 := 83) rfl ?_
      refine g_iadd hc dX7_uses_83 (pc2 := 84) rfl ?_
      obtain ⟨hg13, hf⟩ := gd_some hf
      obtain ⟨s24, hs24, hf⟩ := nm_ex hf
      refine g_asti hc 20 0 rfl (u20 (by decide)) hg13 dX7_uses_84 (pc2 := 85) rfl ?_
      refine g_nms hs24 ?_
      exact g_vret hc hf hr (by decide) (by decide) dX7_uses_85
    have LP_n2 : ∀ (n2 : Nat) (m2 : Int32) (s25 : Mem), f7_uses_l12 a1 k2 n2 m2 s25 = some sR → G κ φ (QV κ φ (NV κ τ) sR rm_7_uses.cells rm_7_uses.slots) (NV κ τ) 0 0 s25 [(0, .ref (ad κ.1 19 0)), (1, .int a1), (3, .int m2)] 12 [] := by
      intro n2
      induction n2 with
      | zero => intro m2 s25 hf; rw [f7_uses_l12] at hf; cases hf
      | succ n2 ih_n2 =>
        intro m2 s25 hf
        rw [f7_uses_l12] at hf
        refine g_iload_n (i := 3) hc 2 rfl rfl dX7_uses_12 (pc2 := 13) rfl ?_
        refine g_aload_n (i := 0) hc 0 rfl rfl dX7_uses_13 (pc2 := 14) rfl ?_
        refine g_iload_n (i := 1) hc 1 rfl rfl dX7_uses_14 (pc2 := 15) rfl ?_
        refine g_bipush (v := (7 : Int32)) hc (by decide) dX7_uses_15 (pc2 := 17) rfl ?_
        obtain ⟨r14, s26, hp, hf⟩ := bd_some hf
        refine g_vI hc (k7_of hp) co_X7_59 (u19 (by decide)) rfl rfl (by decide) (by decide) (Nat.le_of_ble_eq_true rfl) dX7_uses_17 (pc2 := 20) rfl ?_
        refine g_iconst (v := (1 : Int32)) hc (by decide) dX7_uses_20 (pc2 := 21) rfl ?_
        refine g_isub hc dX7_uses_21 (pc2 := 22) rfl ?_
        refine g_icmp_ge hc 55 (by decide) dX7_uses_22 (pc2 := 25) rfl (fun q => ?_) (fun q => ?_)
        · have hf := ite_t hf q
          refine g_sub [0, 1] rfl ?_
          exact Hk2 _ hf
        · have hf := ite_f hf q
          refine g_aload_n (i := 0) hc 0 rfl rfl dX7_uses_25 (pc2 := 26) rfl ?_
          refine g_getr (q := ad κ.1 20 0) hc fo_X7_7 (u19 (by decide)) rfl dX7_uses_26 (pc2 := 29) rfl ?_
          refine g_iload_n (i := 1) hc 1 rfl rfl dX7_uses_29 (pc2 := 30) rfl ?_
          refine g_bipush (v := (26 : Int32)) hc (by decide) dX7_uses_30 (pc2 := 32) rfl ?_
          refine g_iload_n (i := 3) hc 2 rfl rfl dX7_uses_32 (pc2 := 33) rfl ?_
          refine g_iadd hc dX7_uses_33 (pc2 := 34) rfl ?_
          obtain ⟨r15, s27, hp, hf⟩ := bd_some hf
          refine g_sI hc (k7_at hp) co_X7_52 rfl rfl (by decide) (by decide) (Nat.le_of_ble_eq_true rfl) dX7_uses_34 (pc2 := 37) rfl ?_
          refine g_aload_n (i := 0) hc 0 rfl rfl dX7_uses_37 (pc2 := 38) rfl ?_
          refine g_iload_n (i := 1) hc 1 rfl rfl dX7_uses_38 (pc2 := 39) rfl ?_
          refine g_bipush (v := (26 : Int32)) hc (by decide) dX7_uses_39 (pc2 := 41) rfl ?_
          refine g_iload_n (i := 3) hc 2 rfl rfl dX7_uses_41 (pc2 := 42) rfl ?_
          refine g_iadd hc dX7_uses_42 (pc2 := 43) rfl ?_
          refine g_iconst (v := (1 : Int32)) hc (by decide) dX7_uses_43 (pc2 := 44) rfl ?_
          refine g_iadd hc dX7_uses_44 (pc2 := 45) rfl ?_
          obtain ⟨r16, s28, hp, hf⟩ := bd_some hf
          refine g_vI hc (k7_of hp) co_X7_59 (u19 (by decide)) rfl rfl (by decide) (by decide) (Nat.le_of_ble_eq_true rfl) dX7_uses_45 (pc2 := 48) rfl ?_
          obtain ⟨hg14, hf⟩ := gd_some hf
          obtain ⟨s29, hs29, hf⟩ := nm_ex hf
          refine g_asti hc 20 0 rfl (u20 (by decide)) hg14 dX7_uses_48 (pc2 := 49) rfl ?_
          refine g_nms hs29 ?_
          obtain ⟨x2, hx2, hf⟩ := nm_ex hf
          refine g_iinc (v := x2) (L1 := [(3, .int x2), (0, .ref (ad κ.1 19 0)), (1, .int a1)]) hc 2 rfl (by rw [hx2]; rfl) (by decide) rfl dX7_uses_49 (pc2 := 52) rfl ?_
          refine g_goto hc 12 (by decide) dX7_uses_52 ?_
          refine g_sub [1, 2, 0] rfl ?_
          exact ih_n2 _ _ hf
    refine g_sub [2, 3, 0] rfl ?_
    exact LP_n2 _ _ _ hf
def f7_breaks_l96 (a1 : Int32) (k3 : Mem → Option Mem) : Nat → Int32 → Mem → Option Mem
  | 0, _, _ => none
  | n1 + 1, m1, s9 => (if (6 : Int32) ≤ m1 then k3 s9 else gd (ib (((27 : Int32) + ((6 : Int32) * a1)) + m1) 291) (nm (ms s9 20 0 (((27 : Int32) + ((6 : Int32) * a1)) + m1).toNatClampNeg (0 : Int32)) fun s10 => gd (ib (((27 : Int32) + ((6 : Int32) * m1)) + a1) 291) (nm (ms s10 20 0 (((27 : Int32) + ((6 : Int32) * m1)) + a1).toNatClampNeg (0 : Int32)) fun s11 => nm (m1 + (1 : Int32)) fun x1 => f7_breaks_l96 a1 k3 n1 x1 s11)))
def f7_breaks_l43 (a1 : Int32) (y1 : Int32) (k2 : Mem → Option Mem) : Nat → Int32 → Mem → Option Mem
  | 0, _, _ => none
  | n2 + 1, m2, s12 => (if (s12 20 0 ((1 : Int32)).toNatClampNeg) ≤ m2 then k2 s12 else gd (ib ((11 : Int32) + m2) 291) (nm (fun (y2 : Int32) (s13 : Mem) => gd (ib ((11 : Int32) + m2) 291) (nm (ms s13 20 0 ((11 : Int32) + m2).toNatClampNeg y2) fun s14 => nm (m2 + (1 : Int32)) fun x2 => f7_breaks_l43 a1 y1 k2 n2 x2 s14)) fun j1 => (if (s12 20 0 ((11 : Int32) + m2).toNatClampNeg) = a1 then j1 y1 s12 else gd (ib ((11 : Int32) + m2) 291) (j1 (s12 20 0 ((11 : Int32) + m2).toNatClampNeg) s12))))
def f7_breaks_l4 (a1 : Int32) (k1 : Int32 → Mem → Option Mem) : Nat → Int32 → Int32 → Mem → Option Mem
  | 0, _, _, _ => none
  | n3 + 1, m3, m4, s15 => (if (s15 20 0 ((0 : Int32)).toNatClampNeg) ≤ m4 then k1 m3 s15 else bd (f7_owed a1 m4 s15) fun r3 s16 => bd (f7_owed a1 m3 s16) fun r4 s17 => nm (fun (y3 : Int32) (s18 : Mem) => nm (m4 + (1 : Int32)) fun x3 => f7_breaks_l4 a1 k1 n3 y3 x3 s18) fun j2 => (if r3 ≤ r4 then j2 m3 s17 else j2 m4 s17))
def f7_breaks (a1 : Int32) (s0 : Mem) : Option Mem :=
  nm (fun (y1 : Int32) (s1 : Mem) => nm (fun (s2 : Mem) => nm (fun (s3 : Mem) => bd (f7_at a1 (0 : Int32) s3) fun r1 s4 => gd (ib r1 291) (nm (ms s4 20 0 r1.toNatClampNeg (0 : Int32)) fun s5 => bd (f7_at a1 (7 : Int32) s5) fun r2 s6 => gd (ib r2 291) (nm (ms s6 20 0 r2.toNatClampNeg (0 : Int32)) fun s7 => nm (ms s7 20 0 (6 : Int32).toNatClampNeg ((s7 20 0 ((6 : Int32)).toNatClampNeg) ||| ((1 : Int32) <<< (a1 &&& 31)))) fun s8 => some s8))) fun k3 => f7_breaks_l96 a1 k3 FU (0 : Int32) s2) fun k2 => f7_breaks_l43 a1 y1 k2 FU (0 : Int32) s1) fun k1 => f7_breaks_l4 a1 k1 FU (0 : Int32) (1 : Int32) s0
def rm_7_breaks : Room := { frames := 1, cells := 0, slots := 0, locals := 22 }
set_option maxHeartbeats 4000000 in
set_option maxRecDepth 100000 in
theorem k7_breaks {κ : Kx} {τ : Nat → Int64} {a1 : Int32} {s0 sR : Mem}  (hf : f7_breaks a1 s0 = some sR) : CtV κ yX7_breaks cX7_breaks 4 none rm_7_breaks (NV κ τ) (NV κ τ) [.ref (ad κ.1 19 0), .int a1] s0 sR := by
  refine ct_V (by decide +kernel) (Nat.le_of_ble_eq_true rfl) (fun φ hc hr => ?_)
  have hc : Cx κ φ RX7 cX7_breaks 4 rm_7_breaks := hc
  show G κ φ (QV κ φ (NV κ τ) sR rm_7_breaks.cells rm_7_breaks.slots) (NV κ τ) 0 0 s0 [(0, .ref (ad κ.1 19 0)), (1, .int a1)] 0 []
  unfold f7_breaks at hf
  refine g_iconst (v := (0 : Int32)) hc (by decide) dX7_breaks_0 (pc2 := 1) rfl ?_
  refine g_istore_n (i := 2) (L1 := [(2, .int (0 : Int32)), (0, .ref (ad κ.1 19 0)), (1, .int a1)]) hc rfl (by decide) rfl dX7_breaks_1 (pc2 := 2) rfl ?_
  refine g_iconst (v := (1 : Int32)) hc (by decide) dX7_breaks_2 (pc2 := 3) rfl ?_
  refine g_istore_n (i := 3) (L1 := [(3, .int (1 : Int32)), (2, .int (0 : Int32)), (0, .ref (ad κ.1 19 0)), (1, .int a1)]) hc rfl (by decide) rfl dX7_breaks_3 (pc2 := 4) rfl ?_
  obtain ⟨k1, hk1, hf⟩ := nm_ex hf
  have Hk1 : ∀ (y1 : Int32) (s1 : Mem), k1 y1 s1 = some sR → G κ φ (QV κ φ (NV κ τ) sR rm_7_breaks.cells rm_7_breaks.slots) (NV κ τ) 0 0 s1 [(0, .ref (ad κ.1 19 0)), (1, .int a1), (2, .int y1)] 41 [] := by
    intro y1 s1 hf
    rw [hk1] at hf
    refine g_iconst (v := (0 : Int32)) hc (by decide) dX7_breaks_41 (pc2 := 42) rfl ?_
    refine g_istore_n (i := 3) (L1 := [(3, .int (0 : Int32)), (0, .ref (ad κ.1 19 0)), (1, .int a1), (2, .int y1)]) hc rfl (by decide) rfl dX7_breaks_42 (pc2 := 43) rfl ?_
    obtain ⟨k2, hk2, hf⟩ := nm_ex hf
    have Hk2 : ∀ (s2 : Mem), k2 s2 = some sR → G κ φ (QV κ φ (NV κ τ) sR rm_7_breaks.cells rm_7_breaks.slots) (NV κ τ) 0 0 s2 [(0, .ref (ad κ.1 19 0)), (1, .int a1)] 94 [] := by
      intro s2 hf
      rw [hk2] at hf
      refine g_iconst (v := (0 : Int32)) hc (by decide) dX7_breaks_94 (pc2 := 95) rfl ?_
      refine g_istore_n (i := 3) (L1 := [(3, .int (0 : Int32)), (0, .ref (ad κ.1 19 0)), (1, .int a1)]) hc rfl (by decide) rfl dX7_breaks_95 (pc2 := 96) rfl ?_
      obtain ⟨k3, hk3, hf⟩ := nm_ex hf
      have Hk3 : ∀ (s3 : Mem), k3 s3 = some sR → G κ φ (QV κ φ (NV κ τ) sR rm_7_breaks.cells rm_7_breaks.slots) (NV κ τ) 0 0 s3 [(0, .ref (ad κ.1 19 0)), (1, .int a1)] 138 [] := by
        intro s3 hf
        rw [hk3] at hf
        refine g_aload_n (i := 0) hc 0 rfl rfl dX7_breaks_138 (pc2 := 139) rfl ?_
        refine g_getr (q := ad κ.1 20 0) hc fo_X7_7 (u19 (by decide)) rfl dX7_breaks_139 (pc2 := 142) rfl ?_
        refine g_iload_n (i := 1) hc 1 rfl rfl dX7_breaks_142 (pc2 := 143) rfl ?_
        refine g_iconst (v := (0 : Int32)) hc (by decide) dX7_breaks_143 (pc2 := 144) rfl ?_
        obtain ⟨r1, s4, hp, hf⟩ := bd_some hf
        refine g_sI hc (k7_at hp) co_X7_52 rfl rfl (by decide) (by decide) (Nat.le_of_ble_eq_true rfl) dX7_breaks_144 (pc2 := 147) rfl ?_
        refine g_iconst (v := (0 : Int32)) hc (by decide) dX7_breaks_147 (pc2 := 148) rfl ?_
        obtain ⟨hg1, hf⟩ := gd_some hf
        obtain ⟨s5, hs5, hf⟩ := nm_ex hf
        refine g_asti hc 20 0 rfl (u20 (by decide)) hg1 dX7_breaks_148 (pc2 := 149) rfl ?_
        refine g_nms hs5 ?_
        refine g_aload_n (i := 0) hc 0 rfl rfl dX7_breaks_149 (pc2 := 150) rfl ?_
        refine g_getr (q := ad κ.1 20 0) hc fo_X7_7 (u19 (by decide)) rfl dX7_breaks_150 (pc2 := 153) rfl ?_
        refine g_iload_n (i := 1) hc 1 rfl rfl dX7_breaks_153 (pc2 := 154) rfl ?_
        refine g_bipush (v := (7 : Int32)) hc (by decide) dX7_breaks_154 (pc2 := 156) rfl ?_
        obtain ⟨r2, s6, hp, hf⟩ := bd_some hf
        refine g_sI hc (k7_at hp) co_X7_52 rfl rfl (by decide) (by decide) (Nat.le_of_ble_eq_true rfl) dX7_breaks_156 (pc2 := 159) rfl ?_
        refine g_iconst (v := (0 : Int32)) hc (by decide) dX7_breaks_159 (pc2 := 160) rfl ?_
        obtain ⟨hg2, hf⟩ := gd_some hf
        obtain ⟨s7, hs7, hf⟩ := nm_ex hf
        refine g_asti hc 20 0 rfl (u20 (by decide)) hg2 dX7_breaks_160 (pc2 := 161) rfl ?_
        refine g_nms hs7 ?_
        refine g_aload_n (i := 0) hc 0 rfl rfl dX7_breaks_161 (pc2 := 162) rfl ?_
        refine g_getr (q := ad κ.1 20 0) hc fo_X7_7 (u19 (by decide)) rfl dX7_breaks_162 (pc2 := 165) rfl ?_
        refine g_bipush (v := (6 : Int32)) hc (by decide) dX7_breaks_165 (pc2 := 167) rfl ?_
        refine g_dup2 hc rfl rfl dX7_breaks_167 (pc2 := 168) rfl ?_
        refine g_aldi hc 20 0 rfl (u20 (by decide)) (by decide) dX7_breaks_168 (pc2 := 169) rfl ?_
        refine g_iconst (v := (1 : Int32)) hc (by decide) dX7_breaks_169 (pc2 := 170) rfl ?_
        refine g_iload_n (i := 1) hc 1 rfl rfl dX7_breaks_170 (pc2 := 171) rfl ?_
        refine g_ishl hc dX7_breaks_171 (pc2 := 172) rfl ?_
        refine g_ior hc dX7_breaks_172 (pc2 := 173) rfl ?_
        obtain ⟨s8, hs8, hf⟩ := nm_ex hf
        refine g_asti hc 20 0 rfl (u20 (by decide)) (by decide) dX7_breaks_173 (pc2 := 174) rfl ?_
        refine g_nms hs8 ?_
        exact g_vret hc hf hr (by decide) (by decide) dX7_breaks_174
      have LP_n1 : ∀ (n1 : Nat) (m1 : Int32) (s9 : Mem), f7_breaks_l96 a1 k3 n1 m1 s9 = some sR → G κ φ (QV κ φ (NV κ τ) sR rm_7_breaks.cells rm_7_breaks.slots) (NV κ τ) 0 0 s9 [(0, .ref (ad κ.1 19 0)), (1, .int a1), (3, .int m1)] 96 [] := by
        intro n1
        induction n1 with
        | zero => intro m1 s9 hf; rw [f7_breaks_l96] at hf; cases hf
        | succ n1 ih_n1 =>
          intro m1 s9 hf
          rw [f7_breaks_l96] at hf
          refine g_iload_n (i := 3) hc 2 rfl rfl dX7_breaks_96 (pc2 := 97) rfl ?_
          refine g_bipush (v := (6 : Int32)) hc (by decide) dX7_breaks_97 (pc2 := 99) rfl ?_
          refine g_icmp_ge hc 138 (by decide) dX7_breaks_99 (pc2 := 102) rfl (fun q => ?_) (fun q => ?_)
          · have hf := ite_t hf q
            refine g_sub [0, 1] rfl ?_
            exact Hk3 _ hf
          · have hf := ite_f hf q
            refine g_aload_n (i := 0) hc 0 rfl rfl dX7_breaks_102 (pc2 := 103) rfl ?_
            refine g_getr (q := ad κ.1 20 0) hc fo_X7_7 (u19 (by decide)) rfl dX7_breaks_103 (pc2 := 106) rfl ?_
            refine g_bipush (v := (27 : Int32)) hc (by decide) dX7_breaks_106 (pc2 := 108) rfl ?_
            refine g_bipush (v := (6 : Int32)) hc (by decide) dX7_breaks_108 (pc2 := 110) rfl ?_
            refine g_iload_n (i := 1) hc 1 rfl rfl dX7_breaks_110 (pc2 := 111) rfl ?_
            refine g_imul hc dX7_breaks_111 (pc2 := 112) rfl ?_
            refine g_iadd hc dX7_breaks_112 (pc2 := 113) rfl ?_
            refine g_iload_n (i := 3) hc 2 rfl rfl dX7_breaks_113 (pc2 := 114) rfl ?_
            refine g_iadd hc dX7_breaks_114 (pc2 := 115) rfl ?_
            refine g_iconst (v := (0 : Int32)) hc (by decide) dX7_breaks_115 (pc2 := 116) rfl ?_
            obtain ⟨hg3, hf⟩ := gd_some hf
            obtain ⟨s10, hs10, hf⟩ := nm_ex hf
            refine g_asti hc 20 0 rfl (u20 (by decide)) hg3 dX7_breaks_116 (pc2 := 117) rfl ?_
            refine g_nms hs10 ?_
            refine g_aload_n (i := 0) hc 0 rfl rfl dX7_breaks_117 (pc2 := 118) rfl ?_
            refine g_getr (q := ad κ.1 20 0) hc fo_X7_7 (u19 (by decide)) rfl dX7_breaks_118 (pc2 := 121) rfl ?_
            refine g_bipush (v := (27 : Int32)) hc (by decide) dX7_breaks_121 (pc2 := 123) rfl ?_
            refine g_bipush (v := (6 : Int32)) hc (by decide) dX7_breaks_123 (pc2 := 125) rfl ?_
            refine g_iload_n (i := 3) hc 2 rfl rfl dX7_breaks_125 (pc2 := 126) rfl ?_
            refine g_imul hc dX7_breaks_126 (pc2 := 127) rfl ?_
            refine g_iadd hc dX7_breaks_127 (pc2 := 128) rfl ?_
            refine g_iload_n (i := 1) hc 1 rfl rfl dX7_breaks_128 (pc2 := 129) rfl ?_
            refine g_iadd hc dX7_breaks_129 (pc2 := 130) rfl ?_
            refine g_iconst (v := (0 : Int32)) hc (by decide) dX7_breaks_130 (pc2 := 131) rfl ?_
            obtain ⟨hg4, hf⟩ := gd_some hf
            obtain ⟨s11, hs11, hf⟩ := nm_ex hf
            refine g_asti hc 20 0 rfl (u20 (by decide)) hg4 dX7_breaks_131 (pc2 := 132) rfl ?_
            refine g_nms hs11 ?_
            obtain ⟨x1, hx1, hf⟩ := nm_ex hf
            refine g_iinc (v := x1) (L1 := [(3, .int x1), (0, .ref (ad κ.1 19 0)), (1, .int a1)]) hc 2 rfl (by rw [hx1]; rfl) (by decide) rfl dX7_breaks_132 (pc2 := 135) rfl ?_
            refine g_goto hc 96 (by decide) dX7_breaks_135 ?_
            refine g_sub [1, 2, 0] rfl ?_
            exact ih_n1 _ _ hf
      refine g_sub [1, 2, 0] rfl ?_
      exact LP_n1 _ _ _ hf
    have LP_n2 : ∀ (n2 : Nat) (m2 : Int32) (s12 : Mem), f7_breaks_l43 a1 y1 k2 n2 m2 s12 = some sR → G κ φ (QV κ φ (NV κ τ) sR rm_7_breaks.cells rm_7_breaks.slots) (NV κ τ) 0 0 s12 [(0, .ref (ad κ.1 19 0)), (1, .int a1), (2, .int y1), (3, .int m2)] 43 [] := by
      intro n2
      induction n2 with
      | zero => intro m2 s12 hf; rw [f7_breaks_l43] at hf; cases hf
      | succ n2 ih_n2 =>
        intro m2 s12 hf
        rw [f7_breaks_l43] at hf
        refine g_iload_n (i := 3) hc 3 rfl rfl dX7_breaks_43 (pc2 := 44) rfl ?_
        refine g_aload_n (i := 0) hc 0 rfl rfl dX7_breaks_44 (pc2 := 45) rfl ?_
        refine g_getr (q := ad κ.1 20 0) hc fo_X7_7 (u19 (by decide)) rfl dX7_breaks_45 (pc2 := 48) rfl ?_
        refine g_iconst (v := (1 : Int32)) hc (by decide) dX7_breaks_48 (pc2 := 49) rfl ?_
        refine g_aldi hc 20 0 rfl (u20 (by decide)) (by decide) dX7_breaks_49 (pc2 := 50) rfl ?_
        refine g_icmp_ge hc 94 (by decide) dX7_breaks_50 (pc2 := 53) rfl (fun q => ?_) (fun q => ?_)
        · have hf := ite_t hf q
          refine g_sub [0, 1] rfl ?_
          exact Hk2 _ hf
        · have hf := ite_f hf q
          refine g_aload_n (i := 0) hc 0 rfl rfl dX7_breaks_53 (pc2 := 54) rfl ?_
          refine g_getr (q := ad κ.1 20 0) hc fo_X7_7 (u19 (by decide)) rfl dX7_breaks_54 (pc2 := 57) rfl ?_
          refine g_bipush (v := (11 : Int32)) hc (by decide) dX7_breaks_57 (pc2 := 59) rfl ?_
          refine g_iload_n (i := 3) hc 3 rfl rfl dX7_breaks_59 (pc2 := 60) rfl ?_
          refine g_iadd hc dX7_breaks_60 (pc2 := 61) rfl ?_
          refine g_aload_n (i := 0) hc 0 rfl rfl dX7_breaks_61 (pc2 := 62) rfl ?_
          refine g_getr (q := ad κ.1 20 0) hc fo_X7_7 (u19 (by decide)) rfl dX7_breaks_62 (pc2 := 65) rfl ?_
          refine g_bipush (v := (11 : Int32)) hc (by decide) dX7_breaks_65 (pc2 := 67) rfl ?_
          refine g_iload_n (i := 3) hc 3 rfl rfl dX7_breaks_67 (pc2 := 68) rfl ?_
          refine g_iadd hc dX7_breaks_68 (pc2 := 69) rfl ?_
          obtain ⟨hg5, hf⟩ := gd_some hf
          refine g_aldi hc 20 0 rfl (u20 (by decide)) hg5 dX7_breaks_69 (pc2 := 70) rfl ?_
          refine g_iload_n (i := 1) hc 1 rfl rfl dX7_breaks_70 (pc2 := 71) rfl ?_
          obtain ⟨j1, hj1, hf⟩ := nm_ex hf
          have Hj1 : ∀ (y2 : Int32) (s13 : Mem), j1 y2 s13 = some sR → G κ φ (QV κ φ (NV κ τ) sR rm_7_breaks.cells rm_7_breaks.slots) (NV κ τ) 0 0 s13 [(0, .ref (ad κ.1 19 0)), (1, .int a1), (2, .int y1), (3, .int m2)] 87 [.int y2, .int ((11 : Int32) + m2), .ref (ad κ.1 20 0)] := by
            intro y2 s13 hf
            rw [hj1] at hf
            obtain ⟨hg6, hf⟩ := gd_some hf
            obtain ⟨s14, hs14, hf⟩ := nm_ex hf
            refine g_asti hc 20 0 rfl (u20 (by decide)) hg6 dX7_breaks_87 (pc2 := 88) rfl ?_
            refine g_nms hs14 ?_
            obtain ⟨x2, hx2, hf⟩ := nm_ex hf
            refine g_iinc (v := x2) (L1 := [(3, .int x2), (0, .ref (ad κ.1 19 0)), (1, .int a1), (2, .int y1)]) hc 3 rfl (by rw [hx2]; rfl) (by decide) rfl dX7_breaks_88 (pc2 := 91) rfl ?_
            refine g_goto hc 43 (by decide) dX7_breaks_91 ?_
            refine g_sub [1, 2, 3, 0] rfl ?_
            exact ih_n2 _ _ hf
          refine g_icmp_ne hc 78 (by decide) dX7_breaks_71 (pc2 := 74) rfl (fun q => ?_) (fun q => ?_)
          · have hf := ite_f hf q
            refine g_aload_n (i := 0) hc 0 rfl rfl dX7_breaks_78 (pc2 := 79) rfl ?_
            refine g_getr (q := ad κ.1 20 0) hc fo_X7_7 (u19 (by decide)) rfl dX7_breaks_79 (pc2 := 82) rfl ?_
            refine g_bipush (v := (11 : Int32)) hc (by decide) dX7_breaks_82 (pc2 := 84) rfl ?_
            refine g_iload_n (i := 3) hc 3 rfl rfl dX7_breaks_84 (pc2 := 85) rfl ?_
            refine g_iadd hc dX7_breaks_85 (pc2 := 86) rfl ?_
            obtain ⟨hg7, hf⟩ := gd_some hf
            refine g_aldi hc 20 0 rfl (u20 (by decide)) hg7 dX7_breaks_86 (pc2 := 87) rfl ?_
            exact Hj1 _ _ hf
          · have hf := ite_t hf q
            refine g_iload_n (i := 2) hc 2 rfl rfl dX7_breaks_74 (pc2 := 75) rfl ?_
            refine g_goto hc 87 (by decide) dX7_breaks_75 ?_
            exact Hj1 _ _ hf
    refine g_sub [1, 2, 3, 0] rfl ?_
    exact LP_n2 _ _ _ hf
  have LP_n3 : ∀ (n3 : Nat) (m3 : Int32) (m4 : Int32) (s15 : Mem), f7_breaks_l4 a1 k1 n3 m3 m4 s15 = some sR → G κ φ (QV κ φ (NV κ τ) sR rm_7_breaks.cells rm_7_breaks.slots) (NV κ τ) 0 0 s15 [(0, .ref (ad κ.1 19 0)), (1, .int a1), (2, .int m3), (3, .int m4)] 4 [] := by
    intro n3
    induction n3 with
    | zero => intro m3 m4 s15 hf; rw [f7_breaks_l4] at hf; cases hf
    | succ n3 ih_n3 =>
      intro m3 m4 s15 hf
      rw [f7_breaks_l4] at hf
      refine g_iload_n (i := 3) hc 3 rfl rfl dX7_breaks_4 (pc2 := 5) rfl ?_
      refine g_aload_n (i := 0) hc 0 rfl rfl dX7_breaks_5 (pc2 := 6) rfl ?_
      refine g_getr (q := ad κ.1 20 0) hc fo_X7_7 (u19 (by decide)) rfl dX7_breaks_6 (pc2 := 9) rfl ?_
      refine g_iconst (v := (0 : Int32)) hc (by decide) dX7_breaks_9 (pc2 := 10) rfl ?_
      refine g_aldi hc 20 0 rfl (u20 (by decide)) (by decide) dX7_breaks_10 (pc2 := 11) rfl ?_
      refine g_icmp_ge hc 41 (by decide) dX7_breaks_11 (pc2 := 14) rfl (fun q => ?_) (fun q => ?_)
      · have hf := ite_t hf q
        refine g_sub [0, 1, 2] rfl ?_
        exact Hk1 _ _ hf
      · have hf := ite_f hf q
        refine g_aload_n (i := 0) hc 0 rfl rfl dX7_breaks_14 (pc2 := 15) rfl ?_
        refine g_iload_n (i := 1) hc 1 rfl rfl dX7_breaks_15 (pc2 := 16) rfl ?_
        refine g_iload_n (i := 3) hc 3 rfl rfl dX7_breaks_16 (pc2 := 17) rfl ?_
        obtain ⟨r3, s16, hp, hf⟩ := bd_some hf
        refine g_vI hc (k7_owed hp) co_X7_56 (u19 (by decide)) rfl rfl (by decide) (by decide) (Nat.le_of_ble_eq_true rfl) dX7_breaks_17 (pc2 := 20) rfl ?_
        refine g_aload_n (i := 0) hc 0 rfl rfl dX7_breaks_20 (pc2 := 21) rfl ?_
        refine g_iload_n (i := 1) hc 1 rfl rfl dX7_breaks_21 (pc2 := 22) rfl ?_
        refine g_iload_n (i := 2) hc 2 rfl rfl dX7_breaks_22 (pc2 := 23) rfl ?_
        obtain ⟨r4, s17, hp, hf⟩ := bd_some hf
        refine g_vI hc (k7_owed hp) co_X7_56 (u19 (by decide)) rfl rfl (by decide) (by decide) (Nat.le_of_ble_eq_true rfl) dX7_breaks_23 (pc2 := 26) rfl ?_
        obtain ⟨j2, hj2, hf⟩ := nm_ex hf
        have Hj2 : ∀ (y3 : Int32) (s18 : Mem), j2 y3 s18 = some sR → G κ φ (QV κ φ (NV κ τ) sR rm_7_breaks.cells rm_7_breaks.slots) (NV κ τ) 0 0 s18 [(0, .ref (ad κ.1 19 0)), (1, .int a1), (3, .int m4)] 34 [.int y3] := by
          intro y3 s18 hf
          rw [hj2] at hf
          refine g_istore_n (i := 2) (L1 := [(2, .int y3), (0, .ref (ad κ.1 19 0)), (1, .int a1), (3, .int m4)]) hc rfl (by decide) rfl dX7_breaks_34 (pc2 := 35) rfl ?_
          obtain ⟨x3, hx3, hf⟩ := nm_ex hf
          refine g_iinc (v := x3) (L1 := [(3, .int x3), (2, .int y3), (0, .ref (ad κ.1 19 0)), (1, .int a1)]) hc 3 rfl (by rw [hx3]; rfl) (by decide) rfl dX7_breaks_35 (pc2 := 38) rfl ?_
          refine g_goto hc 4 (by decide) dX7_breaks_38 ?_
          refine g_sub [2, 3, 1, 0] rfl ?_
          exact ih_n3 _ _ _ hf
        refine g_icmp_le hc 33 (by decide) dX7_breaks_26 (pc2 := 29) rfl (fun q => ?_) (fun q => ?_)
        · have hf := ite_t hf q
          refine g_iload_n (i := 2) hc 2 rfl rfl dX7_breaks_33 (pc2 := 34) rfl ?_
          refine g_sub [0, 1, 3] rfl ?_
          exact Hj2 _ _ hf
        · have hf := ite_f hf q
          refine g_iload_n (i := 3) hc 3 rfl rfl dX7_breaks_29 (pc2 := 30) rfl ?_
          refine g_goto hc 34 (by decide) dX7_breaks_30 ?_
          refine g_sub [0, 1, 3] rfl ?_
          exact Hj2 _ _ hf
  refine g_sub [2, 3, 1, 0] rfl ?_
  exact LP_n3 _ _ _ _ hf
def f7_tick_l149  (k3 : Mem → Option (Int32 × Mem)) : Nat → Int32 → Mem → Option (Int32 × Mem)
  | 0, _, _ => none
  | n1 + 1, m1, s11 => (if (s11 20 0 ((0 : Int32)).toNatClampNeg) ≤ m1 then k3 s11 else bd (f7_isBankrupt m1 s11) fun r2 s12 => nm (fun (s13 : Mem) => nm (m1 + (1 : Int32)) fun x1 => f7_tick_l149 k3 n1 x1 s13) fun j4 => (if r2 = (0 : Int32) then bd (f7_debts m1 s12) fun r3 s14 => bd (f7_slotsOf m1 s14) fun r4 s15 => (if r3 ≤ ((4 : Int32) * r4) then j4 s15 else bv (f7_breaks m1 s15) fun s16 => j4 s16) else j4 s12))
def f7_tick_l55 (y1 : Int32) (r1 : Int32) (k2 : Mem → Option (Int32 × Mem)) : Nat → Int32 → Mem → Option (Int32 × Mem)
  | 0, _, _ => none
  | n2 + 1, m2, s17 => (if (s17 20 0 ((0 : Int32)).toNatClampNeg) ≤ m2 then k2 s17 else bd (f7_at m2 (1 : Int32) s17) fun r5 s18 => nm (fun (y4 : Int32) (s19 : Mem) => gd (ib r5 291) (nm (ms s19 20 0 r5.toNatClampNeg y4) fun s20 => bd (f7_at m2 (2 : Int32) s20) fun r6 s21 => bd (f7_of m2 (1 : Int32) s21) fun r7 s22 => bd (f7_of m2 (2 : Int32) s22) fun r8 s23 => nm (fun (y5 : Int32) (s24 : Mem) => gd (ib r6 291) (nm (ms s24 20 0 r6.toNatClampNeg y5) fun s25 => nm (m2 + (1 : Int32)) fun x2 => f7_tick_l55 y1 r1 k2 n2 x2 s25)) fun j6 => (if r7 ≤ r8 then bd (f7_of m2 (2 : Int32) s23) fun r9 s26 => j6 r9 s26 else bd (f7_of m2 (1 : Int32) s23) fun r10 s27 => j6 r10 s27))) fun j5 => nm (fun (s28 : Mem) => j5 (0 : Int32) s28) fun j7 => (if ((y1 >>> (m2 &&& 31)) &&& (1 : Int32)) = (1 : Int32) then (if m2 = r1 then j7 s18 else bd (f7_of m2 (1 : Int32) s18) fun r11 s29 => j5 (r11 + (1 : Int32)) s29) else j7 s18))
def f7_tick_l4  (k1 : Int32 → Mem → Option (Int32 × Mem)) : Nat → Int32 → Int32 → Mem → Option (Int32 × Mem)
  | 0, _, _, _ => none
  | n3 + 1, m3, m4, s31 => (if (s31 20 0 ((0 : Int32)).toNatClampNeg) ≤ m4 then k1 m3 s31 else bd (f7_hasToDo m4 s31) fun r12 s32 => nm (fun (y6 : Int32) (s33 : Mem) => nm (m3 ||| y6) fun x3 => nm (m4 + (1 : Int32)) fun x4 => f7_tick_l4 k1 n3 x3 x4 s33) fun j8 => (if r12 = (0 : Int32) then j8 (0 : Int32) s32 else j8 ((1 : Int32) <<< (m4 &&& 31)) s32))
def f7_tick  (s0 : Mem) : Option (Int32 × Mem) :=
  nm (fun (y1 : Int32) (s1 : Mem) => bd (f7_turn y1 s1) fun r1 s2 => nm (fun (s3 : Mem) => nm (fun (s4 : Mem) => nm (fun (s5 : Mem) => nm (fun (y2 : Int32) (s6 : Mem) => nm (ms s6 20 0 (3 : Int32).toNatClampNeg ((s5 20 0 ((3 : Int32)).toNatClampNeg) + y2)) fun s7 => nm (fun (y3 : Int32) (s8 : Mem) => nm (ms s8 20 0 (5 : Int32).toNatClampNeg y3) fun s9 => nm (ms s9 20 0 (2 : Int32).toNatClampNeg ((s9 20 0 ((2 : Int32)).toNatClampNeg) + (1 : Int32))) fun s10 => some (r1, s10)) fun j3 => (if (0 : Int32) ≤ r1 then j3 r1 s7 else j3 (-9 : Int32) s7)) fun j2 => (if (0 : Int32) ≤ r1 then j2 (0 : Int32) s5 else j2 (1 : Int32) s5)) fun k3 => f7_tick_l149 k3 FU (0 : Int32) s4) fun k2 => f7_tick_l55 y1 r1 k2 FU (0 : Int32) s3) fun j1 => (if r1 < (0 : Int32) then j1 s2 else bv (f7_uses r1 s2) fun s30 => j1 s30)) fun k1 => f7_tick_l4 k1 FU (0 : Int32) (0 : Int32) s0
def rm_7_tick : Room := { frames := 4, cells := 0, slots := 0, locals := 93 }
set_option maxHeartbeats 4000000 in
set_option maxRecDepth 100000 in
theorem k7_tick {κ : Kx} {τ : Nat → Int64}  {s0 sR : Mem} {rR : Int32}  (hf : f7_tick s0 = some (rR, sR)) : CtI κ yX7_tick cX7_tick 4 (some .int) rm_7_tick (NV κ τ) (NV κ τ) [.ref (ad κ.1 19 0)] s0 sR rR := by
  refine ct_I (by decide +kernel) (Nat.le_of_ble_eq_true rfl) (fun φ hc hr => ?_)
  have hc : Cx κ φ RX7 cX7_tick 4 rm_7_tick := hc
  show G κ φ (QI κ φ (NV κ τ) sR rR rm_7_tick.cells rm_7_tick.slots) (NV κ τ) 0 0 s0 [(0, .ref (ad κ.1 19 0))] 0 []
  unfold f7_tick at hf
  refine g_iconst (v := (0 : Int32)) hc (by decide) dX7_tick_0 (pc2 := 1) rfl ?_
  refine g_istore_n (i := 1) (L1 := [(1, .int (0 : Int32)), (0, .ref (ad κ.1 19 0))]) hc rfl (by decide) rfl dX7_tick_1 (pc2 := 2) rfl ?_
  refine g_iconst (v := (0 : Int32)) hc (by decide) dX7_tick_2 (pc2 := 3) rfl ?_
  refine g_istore_n (i := 2) (L1 := [(2, .int (0 : Int32)), (1, .int (0 : Int32)), (0, .ref (ad κ.1 19 0))]) hc rfl (by decide) rfl dX7_tick_3 (pc2 := 4) rfl ?_
  obtain ⟨k1, hk1, hf⟩ := nm_ex hf
  have Hk1 : ∀ (y1 : Int32) (s1 : Mem), k1 y1 s1 = some (rR, sR) → G κ φ (QI κ φ (NV κ τ) sR rR rm_7_tick.cells rm_7_tick.slots) (NV κ τ) 0 0 s1 [(0, .ref (ad κ.1 19 0)), (1, .int y1)] 38 [] := by
    intro y1 s1 hf
    rw [hk1] at hf
    refine g_aload_n (i := 0) hc 0 rfl rfl dX7_tick_38 (pc2 := 39) rfl ?_
    refine g_iload_n (i := 1) hc 1 rfl rfl dX7_tick_39 (pc2 := 40) rfl ?_
    obtain ⟨r1, s2, hp, hf⟩ := bd_some hf
    refine g_vI hc (k7_turn hp) co_X7_82 (u19 (by decide)) rfl rfl (by decide) (by decide) (Nat.le_of_ble_eq_true rfl) dX7_tick_40 (pc2 := 43) rfl ?_
    refine g_istore_n (i := 2) (L1 := [(2, .int r1), (0, .ref (ad κ.1 19 0)), (1, .int y1)]) hc rfl (by decide) rfl dX7_tick_43 (pc2 := 44) rfl ?_
    refine g_iload_n (i := 2) hc 0 rfl rfl dX7_tick_44 (pc2 := 45) rfl ?_
    obtain ⟨j1, hj1, hf⟩ := nm_ex hf
    have Hj1 : ∀ (s3 : Mem), j1 s3 = some (rR, sR) → G κ φ (QI κ φ (NV κ τ) sR rR rm_7_tick.cells rm_7_tick.slots) (NV κ τ) 0 0 s3 [(0, .ref (ad κ.1 19 0)), (1, .int y1), (2, .int r1)] 53 [] := by
      intro s3 hf
      rw [hj1] at hf
      refine g_iconst (v := (0 : Int32)) hc (by decide) dX7_tick_53 (pc2 := 54) rfl ?_
      refine g_istore_n (i := 3) (L1 := [(3, .int (0 : Int32)), (0, .ref (ad κ.1 19 0)), (1, .int y1), (2, .int r1)]) hc rfl (by decide) rfl dX7_tick_54 (pc2 := 55) rfl ?_
      obtain ⟨k2, hk2, hf⟩ := nm_ex hf
      have Hk2 : ∀ (s4 : Mem), k2 s4 = some (rR, sR) → G κ φ (QI κ φ (NV κ τ) sR rR rm_7_tick.cells rm_7_tick.slots) (NV κ τ) 0 0 s4 [(0, .ref (ad κ.1 19 0)), (2, .int r1)] 147 [] := by
        intro s4 hf
        rw [hk2] at hf
        refine g_iconst (v := (0 : Int32)) hc (by decide) dX7_tick_147 (pc2 := 148) rfl ?_
        refine g_istore_n (i := 3) (L1 := [(3, .int (0 : Int32)), (0, .ref (ad κ.1 19 0)), (2, .int r1)]) hc rfl (by decide) rfl dX7_tick_148 (pc2 := 149) rfl ?_
        obtain ⟨k3, hk3, hf⟩ := nm_ex hf
        have Hk3 : ∀ (s5 : Mem), k3 s5 = some (rR, sR) → G κ φ (QI κ φ (NV κ τ) sR rR rm_7_tick.cells rm_7_tick.slots) (NV κ τ) 0 0 s5 [(0, .ref (ad κ.1 19 0)), (2, .int r1)] 193 [] := by
          intro s5 hf
          rw [hk3] at hf
          refine g_aload_n (i := 0) hc 0 rfl rfl dX7_tick_193 (pc2 := 194) rfl ?_
          refine g_getr (q := ad κ.1 20 0) hc fo_X7_7 (u19 (by decide)) rfl dX7_tick_194 (pc2 := 197) rfl ?_
          refine g_iconst (v := (3 : Int32)) hc (by decide) dX7_tick_197 (pc2 := 198) rfl ?_
          refine g_dup2 hc rfl rfl dX7_tick_198 (pc2 := 199) rfl ?_
          refine g_aldi hc 20 0 rfl (u20 (by decide)) (by decide) dX7_tick_199 (pc2 := 200) rfl ?_
          refine g_iload_n (i := 2) hc 1 rfl rfl dX7_tick_200 (pc2 := 201) rfl ?_
          obtain ⟨j2, hj2, hf⟩ := nm_ex hf
          have Hj2 : ∀ (y2 : Int32) (s6 : Mem), j2 y2 s6 = some (rR, sR) → G κ φ (QI κ φ (NV κ τ) sR rR rm_7_tick.cells rm_7_tick.slots) (NV κ τ) 0 0 s6 [(0, .ref (ad κ.1 19 0)), (2, .int r1)] 209 [.int y2, .int (s5 20 0 ((3 : Int32)).toNatClampNeg), .int (3 : Int32), .ref (ad κ.1 20 0)] := by
            intro y2 s6 hf
            rw [hj2] at hf
            refine g_iadd hc dX7_tick_209 (pc2 := 210) rfl ?_
            obtain ⟨s7, hs7, hf⟩ := nm_ex hf
            refine g_asti hc 20 0 rfl (u20 (by decide)) (by decide) dX7_tick_210 (pc2 := 211) rfl ?_
            refine g_nms hs7 ?_
            refine g_aload_n (i := 0) hc 0 rfl rfl dX7_tick_211 (pc2 := 212) rfl ?_
            refine g_getr (q := ad κ.1 20 0) hc fo_X7_7 (u19 (by decide)) rfl dX7_tick_212 (pc2 := 215) rfl ?_
            refine g_iconst (v := (5 : Int32)) hc (by decide) dX7_tick_215 (pc2 := 216) rfl ?_
            refine g_iload_n (i := 2) hc 1 rfl rfl dX7_tick_216 (pc2 := 217) rfl ?_
            obtain ⟨j3, hj3, hf⟩ := nm_ex hf
            have Hj3 : ∀ (y3 : Int32) (s8 : Mem), j3 y3 s8 = some (rR, sR) → G κ φ (QI κ φ (NV κ τ) sR rR rm_7_tick.cells rm_7_tick.slots) (NV κ τ) 0 0 s8 [(0, .ref (ad κ.1 19 0)), (2, .int r1)] 226 [.int y3, .int (5 : Int32), .ref (ad κ.1 20 0)] := by
              intro y3 s8 hf
              rw [hj3] at hf
              obtain ⟨s9, hs9, hf⟩ := nm_ex hf
              refine g_asti hc 20 0 rfl (u20 (by decide)) (by decide) dX7_tick_226 (pc2 := 227) rfl ?_
              refine g_nms hs9 ?_
              refine g_aload_n (i := 0) hc 0 rfl rfl dX7_tick_227 (pc2 := 228) rfl ?_
              refine g_getr (q := ad κ.1 20 0) hc fo_X7_7 (u19 (by decide)) rfl dX7_tick_228 (pc2 := 231) rfl ?_
              refine g_iconst (v := (2 : Int32)) hc (by decide) dX7_tick_231 (pc2 := 232) rfl ?_
              refine g_dup2 hc rfl rfl dX7_tick_232 (pc2 := 233) rfl ?_
              refine g_aldi hc 20 0 rfl (u20 (by decide)) (by decide) dX7_tick_233 (pc2 := 234) rfl ?_
              refine g_iconst (v := (1 : Int32)) hc (by decide) dX7_tick_234 (pc2 := 235) rfl ?_
              refine g_iadd hc dX7_tick_235 (pc2 := 236) rfl ?_
              obtain ⟨s10, hs10, hf⟩ := nm_ex hf
              refine g_asti hc 20 0 rfl (u20 (by decide)) (by decide) dX7_tick_236 (pc2 := 237) rfl ?_
              refine g_nms hs10 ?_
              refine g_iload_n (i := 2) hc 1 rfl rfl dX7_tick_237 (pc2 := 238) rfl ?_
              exact g_iret hc hf hr rfl (by decide) (by decide) dX7_tick_238
            refine g_if_ge hc 225 (by decide) dX7_tick_217 (pc2 := 220) rfl (fun q => ?_) (fun q => ?_)
            · have hf := ite_t hf q
              refine g_iload_n (i := 2) hc 1 rfl rfl dX7_tick_225 (pc2 := 226) rfl ?_
              exact Hj3 _ _ hf
            · have hf := ite_f hf q
              refine g_bipush (v := (-9 : Int32)) hc (by decide) dX7_tick_220 (pc2 := 222) rfl ?_
              refine g_goto hc 226 (by decide) dX7_tick_222 ?_
              exact Hj3 _ _ hf
          refine g_if_ge hc 208 (by decide) dX7_tick_201 (pc2 := 204) rfl (fun q => ?_) (fun q => ?_)
          · have hf := ite_t hf q
            refine g_iconst (v := (0 : Int32)) hc (by decide) dX7_tick_208 (pc2 := 209) rfl ?_
            exact Hj2 _ _ hf
          · have hf := ite_f hf q
            refine g_iconst (v := (1 : Int32)) hc (by decide) dX7_tick_204 (pc2 := 205) rfl ?_
            refine g_goto hc 209 (by decide) dX7_tick_205 ?_
            exact Hj2 _ _ hf
        have LP_n1 : ∀ (n1 : Nat) (m1 : Int32) (s11 : Mem), f7_tick_l149 k3 n1 m1 s11 = some (rR, sR) → G κ φ (QI κ φ (NV κ τ) sR rR rm_7_tick.cells rm_7_tick.slots) (NV κ τ) 0 0 s11 [(0, .ref (ad κ.1 19 0)), (2, .int r1), (3, .int m1)] 149 [] := by
          intro n1
          induction n1 with
          | zero => intro m1 s11 hf; rw [f7_tick_l149] at hf; cases hf
          | succ n1 ih_n1 =>
            intro m1 s11 hf
            rw [f7_tick_l149] at hf
            refine g_iload_n (i := 3) hc 2 rfl rfl dX7_tick_149 (pc2 := 150) rfl ?_
            refine g_aload_n (i := 0) hc 0 rfl rfl dX7_tick_150 (pc2 := 151) rfl ?_
            refine g_getr (q := ad κ.1 20 0) hc fo_X7_7 (u19 (by decide)) rfl dX7_tick_151 (pc2 := 154) rfl ?_
            refine g_iconst (v := (0 : Int32)) hc (by decide) dX7_tick_154 (pc2 := 155) rfl ?_
            refine g_aldi hc 20 0 rfl (u20 (by decide)) (by decide) dX7_tick_155 (pc2 := 156) rfl ?_
            refine g_icmp_ge hc 193 (by decide) dX7_tick_156 (pc2 := 159) rfl (fun q => ?_) (fun q => ?_)
            · have hf := ite_t hf q
              refine g_sub [0, 1] rfl ?_
              exact Hk3 _ hf
            · have hf := ite_f hf q
              refine g_aload_n (i := 0) hc 0 rfl rfl dX7_tick_159 (pc2 := 160) rfl ?_
              refine g_iload_n (i := 3) hc 2 rfl rfl dX7_tick_160 (pc2 := 161) rfl ?_
              obtain ⟨r2, s12, hp, hf⟩ := bd_some hf
              refine g_vI hc (k7_isBankrupt hp) co_X7_66 (u19 (by decide)) rfl rfl (by decide) (by decide) (Nat.le_of_ble_eq_true rfl) dX7_tick_161 (pc2 := 164) rfl ?_
              obtain ⟨j4, hj4, hf⟩ := nm_ex hf
              have Hj4 : ∀ (s13 : Mem), j4 s13 = some (rR, sR) → G κ φ (QI κ φ (NV κ τ) sR rR rm_7_tick.cells rm_7_tick.slots) (NV κ τ) 0 0 s13 [(0, .ref (ad κ.1 19 0)), (2, .int r1), (3, .int m1)] 187 [] := by
                intro s13 hf
                rw [hj4] at hf
                obtain ⟨x1, hx1, hf⟩ := nm_ex hf
                refine g_iinc (v := x1) (L1 := [(3, .int x1), (0, .ref (ad κ.1 19 0)), (2, .int r1)]) hc 2 rfl (by rw [hx1]; rfl) (by decide) rfl dX7_tick_187 (pc2 := 190) rfl ?_
                refine g_goto hc 149 (by decide) dX7_tick_190 ?_
                refine g_sub [1, 2, 0] rfl ?_
                exact ih_n1 _ _ hf
              refine g_if_ne hc 187 (by decide) dX7_tick_164 (pc2 := 167) rfl (fun q => ?_) (fun q => ?_)
              · have hf := ite_f hf q
                exact Hj4 _ hf
              · have hf := ite_t hf q
                refine g_aload_n (i := 0) hc 0 rfl rfl dX7_tick_167 (pc2 := 168) rfl ?_
                refine g_iload_n (i := 3) hc 2 rfl rfl dX7_tick_168 (pc2 := 169) rfl ?_
                obtain ⟨r3, s14, hp, hf⟩ := bd_some hf
                refine g_vI hc (k7_debts hp) co_X7_70 (u19 (by decide)) rfl rfl (by decide) (by decide) (Nat.le_of_ble_eq_true rfl) dX7_tick_169 (pc2 := 172) rfl ?_
                refine g_iconst (v := (4 : Int32)) hc (by decide) dX7_tick_172 (pc2 := 173) rfl ?_
                refine g_aload_n (i := 0) hc 0 rfl rfl dX7_tick_173 (pc2 := 174) rfl ?_
                refine g_iload_n (i := 3) hc 2 rfl rfl dX7_tick_174 (pc2 := 175) rfl ?_
                obtain ⟨r4, s15, hp, hf⟩ := bd_some hf
                refine g_vI hc (k7_slotsOf hp) co_X7_89 (u19 (by decide)) rfl rfl (by decide) (by decide) (Nat.le_of_ble_eq_true rfl) dX7_tick_175 (pc2 := 178) rfl ?_
                refine g_imul hc dX7_tick_178 (pc2 := 179) rfl ?_
                refine g_icmp_le hc 187 (by decide) dX7_tick_179 (pc2 := 182) rfl (fun q => ?_) (fun q => ?_)
                · have hf := ite_t hf q
                  exact Hj4 _ hf
                · have hf := ite_f hf q
                  refine g_aload_n (i := 0) hc 0 rfl rfl dX7_tick_182 (pc2 := 183) rfl ?_
                  refine g_iload_n (i := 3) hc 2 rfl rfl dX7_tick_183 (pc2 := 184) rfl ?_
                  obtain ⟨s16, hp, hf⟩ := bv_some hf
                  refine g_vV hc (k7_breaks hp) co_X7_92 (u19 (by decide)) rfl rfl (by decide) (by decide) (Nat.le_of_ble_eq_true rfl) dX7_tick_184 (pc2 := 187) rfl ?_
                  exact Hj4 _ hf
        refine g_sub [1, 2, 0] rfl ?_
        exact LP_n1 _ _ _ hf
      have LP_n2 : ∀ (n2 : Nat) (m2 : Int32) (s17 : Mem), f7_tick_l55 y1 r1 k2 n2 m2 s17 = some (rR, sR) → G κ φ (QI κ φ (NV κ τ) sR rR rm_7_tick.cells rm_7_tick.slots) (NV κ τ) 0 0 s17 [(0, .ref (ad κ.1 19 0)), (1, .int y1), (2, .int r1), (3, .int m2)] 55 [] := by
        intro n2
        induction n2 with
        | zero => intro m2 s17 hf; rw [f7_tick_l55] at hf; cases hf
        | succ n2 ih_n2 =>
          intro m2 s17 hf
          rw [f7_tick_l55] at hf
          refine g_iload_n (i := 3) hc 3 rfl rfl dX7_tick_55 (pc2 := 56) rfl ?_
          refine g_aload_n (i := 0) hc 0 rfl rfl dX7_tick_56 (pc2 := 57) rfl ?_
          refine g_getr (q := ad κ.1 20 0) hc fo_X7_7 (u19 (by decide)) rfl dX7_tick_57 (pc2 := 60) rfl ?_
          refine g_iconst (v := (0 : Int32)) hc (by decide) dX7_tick_60 (pc2 := 61) rfl ?_
          refine g_aldi hc 20 0 rfl (u20 (by decide)) (by decide) dX7_tick_61 (pc2 := 62) rfl ?_
          refine g_icmp_ge hc 147 (by decide) dX7_tick_62 (pc2 := 65) rfl (fun q => ?_) (fun q => ?_)
          · have hf := ite_t hf q
            refine g_sub [0, 2] rfl ?_
            exact Hk2 _ hf
          · have hf := ite_f hf q
            refine g_aload_n (i := 0) hc 0 rfl rfl dX7_tick_65 (pc2 := 66) rfl ?_
            refine g_getr (q := ad κ.1 20 0) hc fo_X7_7 (u19 (by decide)) rfl dX7_tick_66 (pc2 := 69) rfl ?_
            refine g_iload_n (i := 3) hc 3 rfl rfl dX7_tick_69 (pc2 := 70) rfl ?_
            refine g_iconst (v := (1 : Int32)) hc (by decide) dX7_tick_70 (pc2 := 71) rfl ?_
            obtain ⟨r5, s18, hp, hf⟩ := bd_some hf
            refine g_sI hc (k7_at hp) co_X7_52 rfl rfl (by decide) (by decide) (Nat.le_of_ble_eq_true rfl) dX7_tick_71 (pc2 := 74) rfl ?_
            refine g_iload_n (i := 1) hc 1 rfl rfl dX7_tick_74 (pc2 := 75) rfl ?_
            refine g_iload_n (i := 3) hc 3 rfl rfl dX7_tick_75 (pc2 := 76) rfl ?_
            refine g_ishr hc dX7_tick_76 (pc2 := 77) rfl ?_
            refine g_iconst (v := (1 : Int32)) hc (by decide) dX7_tick_77 (pc2 := 78) rfl ?_
            refine g_iand hc dX7_tick_78 (pc2 := 79) rfl ?_
            refine g_iconst (v := (1 : Int32)) hc (by decide) dX7_tick_79 (pc2 := 80) rfl ?_
            obtain ⟨j5, hj5, hf⟩ := nm_ex hf
            have Hj5 : ∀ (y4 : Int32) (s19 : Mem), j5 y4 s19 = some (rR, sR) → G κ φ (QI κ φ (NV κ τ) sR rR rm_7_tick.cells rm_7_tick.slots) (NV κ τ) 0 0 s19 [(0, .ref (ad κ.1 19 0)), (1, .int y1), (2, .int r1), (3, .int m2)] 100 [.int y4, .int r5, .ref (ad κ.1 20 0)] := by
              intro y4 s19 hf
              rw [hj5] at hf
              obtain ⟨hg1, hf⟩ := gd_some hf
              obtain ⟨s20, hs20, hf⟩ := nm_ex hf
              refine g_asti hc 20 0 rfl (u20 (by decide)) hg1 dX7_tick_100 (pc2 := 101) rfl ?_
              refine g_nms hs20 ?_
              refine g_aload_n (i := 0) hc 0 rfl rfl dX7_tick_101 (pc2 := 102) rfl ?_
              refine g_getr (q := ad κ.1 20 0) hc fo_X7_7 (u19 (by decide)) rfl dX7_tick_102 (pc2 := 105) rfl ?_
              refine g_iload_n (i := 3) hc 3 rfl rfl dX7_tick_105 (pc2 := 106) rfl ?_
              refine g_iconst (v := (2 : Int32)) hc (by decide) dX7_tick_106 (pc2 := 107) rfl ?_
              obtain ⟨r6, s21, hp, hf⟩ := bd_some hf
              refine g_sI hc (k7_at hp) co_X7_52 rfl rfl (by decide) (by decide) (Nat.le_of_ble_eq_true rfl) dX7_tick_107 (pc2 := 110) rfl ?_
              refine g_aload_n (i := 0) hc 0 rfl rfl dX7_tick_110 (pc2 := 111) rfl ?_
              refine g_iload_n (i := 3) hc 3 rfl rfl dX7_tick_111 (pc2 := 112) rfl ?_
              refine g_iconst (v := (1 : Int32)) hc (by decide) dX7_tick_112 (pc2 := 113) rfl ?_
              obtain ⟨r7, s22, hp, hf⟩ := bd_some hf
              refine g_vI hc (k7_of hp) co_X7_59 (u19 (by decide)) rfl rfl (by decide) (by decide) (Nat.le_of_ble_eq_true rfl) dX7_tick_113 (pc2 := 116) rfl ?_
              refine g_aload_n (i := 0) hc 0 rfl rfl dX7_tick_116 (pc2 := 117) rfl ?_
              refine g_iload_n (i := 3) hc 3 rfl rfl dX7_tick_117 (pc2 := 118) rfl ?_
              refine g_iconst (v := (2 : Int32)) hc (by decide) dX7_tick_118 (pc2 := 119) rfl ?_
              obtain ⟨r8, s23, hp, hf⟩ := bd_some hf
              refine g_vI hc (k7_of hp) co_X7_59 (u19 (by decide)) rfl rfl (by decide) (by decide) (Nat.le_of_ble_eq_true rfl) dX7_tick_119 (pc2 := 122) rfl ?_
              obtain ⟨j6, hj6, hf⟩ := nm_ex hf
              have Hj6 : ∀ (y5 : Int32) (s24 : Mem), j6 y5 s24 = some (rR, sR) → G κ φ (QI κ φ (NV κ τ) sR rR rm_7_tick.cells rm_7_tick.slots) (NV κ τ) 0 0 s24 [(0, .ref (ad κ.1 19 0)), (1, .int y1), (2, .int r1), (3, .int m2)] 140 [.int y5, .int r6, .ref (ad κ.1 20 0)] := by
                intro y5 s24 hf
                rw [hj6] at hf
                obtain ⟨hg2, hf⟩ := gd_some hf
                obtain ⟨s25, hs25, hf⟩ := nm_ex hf
                refine g_asti hc 20 0 rfl (u20 (by decide)) hg2 dX7_tick_140 (pc2 := 141) rfl ?_
                refine g_nms hs25 ?_
                obtain ⟨x2, hx2, hf⟩ := nm_ex hf
                refine g_iinc (v := x2) (L1 := [(3, .int x2), (0, .ref (ad κ.1 19 0)), (1, .int y1), (2, .int r1)]) hc 3 rfl (by rw [hx2]; rfl) (by decide) rfl dX7_tick_141 (pc2 := 144) rfl ?_
                refine g_goto hc 55 (by decide) dX7_tick_144 ?_
                refine g_sub [1, 2, 3, 0] rfl ?_
                exact ih_n2 _ _ hf
              refine g_icmp_le hc 134 (by decide) dX7_tick_122 (pc2 := 125) rfl (fun q => ?_) (fun q => ?_)
              · have hf := ite_t hf q
                refine g_aload_n (i := 0) hc 0 rfl rfl dX7_tick_134 (pc2 := 135) rfl ?_
                refine g_iload_n (i := 3) hc 3 rfl rfl dX7_tick_135 (pc2 := 136) rfl ?_
                refine g_iconst (v := (2 : Int32)) hc (by decide) dX7_tick_136 (pc2 := 137) rfl ?_
                obtain ⟨r9, s26, hp, hf⟩ := bd_some hf
                refine g_vI hc (k7_of hp) co_X7_59 (u19 (by decide)) rfl rfl (by decide) (by decide) (Nat.le_of_ble_eq_true rfl) dX7_tick_137 (pc2 := 140) rfl ?_
                exact Hj6 _ _ hf
              · have hf := ite_f hf q
                refine g_aload_n (i := 0) hc 0 rfl rfl dX7_tick_125 (pc2 := 126) rfl ?_
                refine g_iload_n (i := 3) hc 3 rfl rfl dX7_tick_126 (pc2 := 127) rfl ?_
                refine g_iconst (v := (1 : Int32)) hc (by decide) dX7_tick_127 (pc2 := 128) rfl ?_
                obtain ⟨r10, s27, hp, hf⟩ := bd_some hf
                refine g_vI hc (k7_of hp) co_X7_59 (u19 (by decide)) rfl rfl (by decide) (by decide) (Nat.le_of_ble_eq_true rfl) dX7_tick_128 (pc2 := 131) rfl ?_
                refine g_goto hc 140 (by decide) dX7_tick_131 ?_
                exact Hj6 _ _ hf
            obtain ⟨j7, hj7, hf⟩ := nm_ex hf
            have Hj7 : ∀ (s28 : Mem), j7 s28 = some (rR, sR) → G κ φ (QI κ φ (NV κ τ) sR rR rm_7_tick.cells rm_7_tick.slots) (NV κ τ) 0 0 s28 [(0, .ref (ad κ.1 19 0)), (1, .int y1), (2, .int r1), (3, .int m2)] 99 [.int r5, .ref (ad κ.1 20 0)] := by
              intro s28 hf
              rw [hj7] at hf
              refine g_iconst (v := (0 : Int32)) hc (by decide) dX7_tick_99 (pc2 := 100) rfl ?_
              exact Hj5 _ _ hf
            refine g_icmp_ne hc 99 (by decide) dX7_tick_80 (pc2 := 83) rfl (fun q => ?_) (fun q => ?_)
            · have hf := ite_f hf q
              exact Hj7 _ hf
            · have hf := ite_t hf q
              refine g_iload_n (i := 3) hc 3 rfl rfl dX7_tick_83 (pc2 := 84) rfl ?_
              refine g_iload_n (i := 2) hc 2 rfl rfl dX7_tick_84 (pc2 := 85) rfl ?_
              refine g_icmp_eq hc 99 (by decide) dX7_tick_85 (pc2 := 88) rfl (fun q => ?_) (fun q => ?_)
              · have hf := ite_t hf q
                exact Hj7 _ hf
              · have hf := ite_f hf q
                refine g_aload_n (i := 0) hc 0 rfl rfl dX7_tick_88 (pc2 := 89) rfl ?_
                refine g_iload_n (i := 3) hc 3 rfl rfl dX7_tick_89 (pc2 := 90) rfl ?_
                refine g_iconst (v := (1 : Int32)) hc (by decide) dX7_tick_90 (pc2 := 91) rfl ?_
                obtain ⟨r11, s29, hp, hf⟩ := bd_some hf
                refine g_vI hc (k7_of hp) co_X7_59 (u19 (by decide)) rfl rfl (by decide) (by decide) (Nat.le_of_ble_eq_true rfl) dX7_tick_91 (pc2 := 94) rfl ?_
                refine g_iconst (v := (1 : Int32)) hc (by decide) dX7_tick_94 (pc2 := 95) rfl ?_
                refine g_iadd hc dX7_tick_95 (pc2 := 96) rfl ?_
                refine g_goto hc 100 (by decide) dX7_tick_96 ?_
                exact Hj5 _ _ hf
      refine g_sub [1, 2, 3, 0] rfl ?_
      exact LP_n2 _ _ _ hf
    refine g_if_lt hc 53 (by decide) dX7_tick_45 (pc2 := 48) rfl (fun q => ?_) (fun q => ?_)
    · have hf := ite_t hf q
      refine g_sub [1, 2, 0] rfl ?_
      exact Hj1 _ hf
    · have hf := ite_f hf q
      refine g_aload_n (i := 0) hc 1 rfl rfl dX7_tick_48 (pc2 := 49) rfl ?_
      refine g_iload_n (i := 2) hc 0 rfl rfl dX7_tick_49 (pc2 := 50) rfl ?_
      obtain ⟨s30, hp, hf⟩ := bv_some hf
      refine g_vV hc (k7_uses hp) co_X7_85 (u19 (by decide)) rfl rfl (by decide) (by decide) (Nat.le_of_ble_eq_true rfl) dX7_tick_50 (pc2 := 53) rfl ?_
      refine g_sub [1, 2, 0] rfl ?_
      exact Hj1 _ hf
  have LP_n3 : ∀ (n3 : Nat) (m3 : Int32) (m4 : Int32) (s31 : Mem), f7_tick_l4 k1 n3 m3 m4 s31 = some (rR, sR) → G κ φ (QI κ φ (NV κ τ) sR rR rm_7_tick.cells rm_7_tick.slots) (NV κ τ) 0 0 s31 [(0, .ref (ad κ.1 19 0)), (1, .int m3), (2, .int m4)] 4 [] := by
    intro n3
    induction n3 with
    | zero => intro m3 m4 s31 hf; rw [f7_tick_l4] at hf; cases hf
    | succ n3 ih_n3 =>
      intro m3 m4 s31 hf
      rw [f7_tick_l4] at hf
      refine g_iload_n (i := 2) hc 2 rfl rfl dX7_tick_4 (pc2 := 5) rfl ?_
      refine g_aload_n (i := 0) hc 0 rfl rfl dX7_tick_5 (pc2 := 6) rfl ?_
      refine g_getr (q := ad κ.1 20 0) hc fo_X7_7 (u19 (by decide)) rfl dX7_tick_6 (pc2 := 9) rfl ?_
      refine g_iconst (v := (0 : Int32)) hc (by decide) dX7_tick_9 (pc2 := 10) rfl ?_
      refine g_aldi hc 20 0 rfl (u20 (by decide)) (by decide) dX7_tick_10 (pc2 := 11) rfl ?_
      refine g_icmp_ge hc 38 (by decide) dX7_tick_11 (pc2 := 14) rfl (fun q => ?_) (fun q => ?_)
      · have hf := ite_t hf q
        refine g_sub [0, 1] rfl ?_
        exact Hk1 _ _ hf
      · have hf := ite_f hf q
        refine g_iload_n (i := 1) hc 1 rfl rfl dX7_tick_14 (pc2 := 15) rfl ?_
        refine g_aload_n (i := 0) hc 0 rfl rfl dX7_tick_15 (pc2 := 16) rfl ?_
        refine g_iload_n (i := 2) hc 2 rfl rfl dX7_tick_16 (pc2 := 17) rfl ?_
        obtain ⟨r12, s32, hp, hf⟩ := bd_some hf
        refine g_vI hc (k7_hasToDo hp) co_X7_79 (u19 (by decide)) rfl rfl (by decide) (by decide) (Nat.le_of_ble_eq_true rfl) dX7_tick_17 (pc2 := 20) rfl ?_
        obtain ⟨j8, hj8, hf⟩ := nm_ex hf
        have Hj8 : ∀ (y6 : Int32) (s33 : Mem), j8 y6 s33 = some (rR, sR) → G κ φ (QI κ φ (NV κ τ) sR rR rm_7_tick.cells rm_7_tick.slots) (NV κ τ) 0 0 s33 [(0, .ref (ad κ.1 19 0)), (2, .int m4)] 30 [.int y6, .int m3] := by
          intro y6 s33 hf
          rw [hj8] at hf
          refine g_ior hc dX7_tick_30 (pc2 := 31) rfl ?_
          obtain ⟨x3, hx3, hf⟩ := nm_ex hf
          refine g_nmi hx3 ?_
          refine g_istore_n (i := 1) (L1 := [(1, .int x3), (0, .ref (ad κ.1 19 0)), (2, .int m4)]) hc rfl (by decide) rfl dX7_tick_31 (pc2 := 32) rfl ?_
          obtain ⟨x4, hx4, hf⟩ := nm_ex hf
          refine g_iinc (v := x4) (L1 := [(2, .int x4), (1, .int x3), (0, .ref (ad κ.1 19 0))]) hc 2 rfl (by rw [hx4]; rfl) (by decide) rfl dX7_tick_32 (pc2 := 35) rfl ?_
          refine g_goto hc 4 (by decide) dX7_tick_35 ?_
          refine g_sub [2, 1, 0] rfl ?_
          exact ih_n3 _ _ _ hf
        refine g_if_eq hc 29 (by decide) dX7_tick_20 (pc2 := 23) rfl (fun q => ?_) (fun q => ?_)
        · have hf := ite_t hf q
          refine g_iconst (v := (0 : Int32)) hc (by decide) dX7_tick_29 (pc2 := 30) rfl ?_
          refine g_sub [0, 2] rfl ?_
          exact Hj8 _ _ hf
        · have hf := ite_f hf q
          refine g_iconst (v := (1 : Int32)) hc (by decide) dX7_tick_23 (pc2 := 24) rfl ?_
          refine g_iload_n (i := 2) hc 2 rfl rfl dX7_tick_24 (pc2 := 25) rfl ?_
          refine g_ishl hc dX7_tick_25 (pc2 := 26) rfl ?_
          refine g_goto hc 30 (by decide) dX7_tick_26 ?_
          refine g_sub [0, 2] rfl ?_
          exact Hj8 _ _ hf
  refine g_sub [2, 1, 0] rfl ?_
  exact LP_n3 _ _ _ _ hf
def f7_passes_l4 (a1 : Int32) (k1 : Int32 → Mem → Option (Int32 × Mem)) : Nat → Int32 → Int32 → Mem → Option (Int32 × Mem)
  | 0, _, _, _ => none
  | n1 + 1, m1, m2, s2 => (if a1 ≤ m2 then k1 m1 s2 else bd (f7_tick s2) fun r1 s3 => nm (fun (y2 : Int32) (s4 : Mem) => nm (m1 + y2) fun x1 => nm (m2 + (1 : Int32)) fun x2 => f7_passes_l4 a1 k1 n1 x1 x2 s4) fun j1 => (if r1 < (0 : Int32) then j1 (0 : Int32) s3 else j1 (1 : Int32) s3))
def f7_passes (a1 : Int32) (s0 : Mem) : Option (Int32 × Mem) :=
  nm (fun (y1 : Int32) (s1 : Mem) => some (y1, s1)) fun k1 => f7_passes_l4 a1 k1 FU (0 : Int32) (0 : Int32) s0
def rm_7_passes : Room := { frames := 5, cells := 0, slots := 0, locals := 116 }
set_option maxHeartbeats 4000000 in
set_option maxRecDepth 100000 in
theorem k7_passes {κ : Kx} {τ : Nat → Int64} {a1 : Int32} {s0 sR : Mem} {rR : Int32}  (hf : f7_passes a1 s0 = some (rR, sR)) : CtI κ yX7_passes cX7_passes 4 (some .int) rm_7_passes (NV κ τ) (NV κ τ) [.ref (ad κ.1 19 0), .int a1] s0 sR rR := by
  refine ct_I (by decide +kernel) (Nat.le_of_ble_eq_true rfl) (fun φ hc hr => ?_)
  have hc : Cx κ φ RX7 cX7_passes 4 rm_7_passes := hc
  show G κ φ (QI κ φ (NV κ τ) sR rR rm_7_passes.cells rm_7_passes.slots) (NV κ τ) 0 0 s0 [(0, .ref (ad κ.1 19 0)), (1, .int a1)] 0 []
  unfold f7_passes at hf
  refine g_iconst (v := (0 : Int32)) hc (by decide) dX7_passes_0 (pc2 := 1) rfl ?_
  refine g_istore_n (i := 2) (L1 := [(2, .int (0 : Int32)), (0, .ref (ad κ.1 19 0)), (1, .int a1)]) hc rfl (by decide) rfl dX7_passes_1 (pc2 := 2) rfl ?_
  refine g_iconst (v := (0 : Int32)) hc (by decide) dX7_passes_2 (pc2 := 3) rfl ?_
  refine g_istore_n (i := 3) (L1 := [(3, .int (0 : Int32)), (2, .int (0 : Int32)), (0, .ref (ad κ.1 19 0)), (1, .int a1)]) hc rfl (by decide) rfl dX7_passes_3 (pc2 := 4) rfl ?_
  obtain ⟨k1, hk1, hf⟩ := nm_ex hf
  have Hk1 : ∀ (y1 : Int32) (s1 : Mem), k1 y1 s1 = some (rR, sR) → G κ φ (QI κ φ (NV κ τ) sR rR rm_7_passes.cells rm_7_passes.slots) (NV κ τ) 0 0 s1 [(2, .int y1)] 30 [] := by
    intro y1 s1 hf
    rw [hk1] at hf
    refine g_iload_n (i := 2) hc 0 rfl rfl dX7_passes_30 (pc2 := 31) rfl ?_
    exact g_iret hc hf hr rfl (by decide) (by decide) dX7_passes_31
  have LP_n1 : ∀ (n1 : Nat) (m1 : Int32) (m2 : Int32) (s2 : Mem), f7_passes_l4 a1 k1 n1 m1 m2 s2 = some (rR, sR) → G κ φ (QI κ φ (NV κ τ) sR rR rm_7_passes.cells rm_7_passes.slots) (NV κ τ) 0 0 s2 [(0, .ref (ad κ.1 19 0)), (1, .int a1), (2, .int m1), (3, .int m2)] 4 [] := by
    intro n1
    induction n1 with
    | zero => intro m1 m2 s2 hf; rw [f7_passes_l4] at hf; cases hf
    | succ n1 ih_n1 =>
      intro m1 m2 s2 hf
      rw [f7_passes_l4] at hf
      refine g_iload_n (i := 3) hc 3 rfl rfl dX7_passes_4 (pc2 := 5) rfl ?_
      refine g_iload_n (i := 1) hc 1 rfl rfl dX7_passes_5 (pc2 := 6) rfl ?_
      refine g_icmp_ge hc 30 (by decide) dX7_passes_6 (pc2 := 9) rfl (fun q => ?_) (fun q => ?_)
      · have hf := ite_t hf q
        refine g_sub [2] rfl ?_
        exact Hk1 _ _ hf
      · have hf := ite_f hf q
        refine g_iload_n (i := 2) hc 2 rfl rfl dX7_passes_9 (pc2 := 10) rfl ?_
        refine g_aload_n (i := 0) hc 0 rfl rfl dX7_passes_10 (pc2 := 11) rfl ?_
        obtain ⟨r1, s3, hp, hf⟩ := bd_some hf
        refine g_vI hc (k7_tick hp) co_X7_95 (u19 (by decide)) rfl rfl (by decide) (by decide) (Nat.le_of_ble_eq_true rfl) dX7_passes_11 (pc2 := 14) rfl ?_
        obtain ⟨j1, hj1, hf⟩ := nm_ex hf
        have Hj1 : ∀ (y2 : Int32) (s4 : Mem), j1 y2 s4 = some (rR, sR) → G κ φ (QI κ φ (NV κ τ) sR rR rm_7_passes.cells rm_7_passes.slots) (NV κ τ) 0 0 s4 [(0, .ref (ad κ.1 19 0)), (1, .int a1), (3, .int m2)] 22 [.int y2, .int m1] := by
          intro y2 s4 hf
          rw [hj1] at hf
          refine g_iadd hc dX7_passes_22 (pc2 := 23) rfl ?_
          obtain ⟨x1, hx1, hf⟩ := nm_ex hf
          refine g_nmi hx1 ?_
          refine g_istore_n (i := 2) (L1 := [(2, .int x1), (0, .ref (ad κ.1 19 0)), (1, .int a1), (3, .int m2)]) hc rfl (by decide) rfl dX7_passes_23 (pc2 := 24) rfl ?_
          obtain ⟨x2, hx2, hf⟩ := nm_ex hf
          refine g_iinc (v := x2) (L1 := [(3, .int x2), (2, .int x1), (0, .ref (ad κ.1 19 0)), (1, .int a1)]) hc 3 rfl (by rw [hx2]; rfl) (by decide) rfl dX7_passes_24 (pc2 := 27) rfl ?_
          refine g_goto hc 4 (by decide) dX7_passes_27 ?_
          refine g_sub [2, 3, 1, 0] rfl ?_
          exact ih_n1 _ _ _ hf
        refine g_if_lt hc 21 (by decide) dX7_passes_14 (pc2 := 17) rfl (fun q => ?_) (fun q => ?_)
        · have hf := ite_t hf q
          refine g_iconst (v := (0 : Int32)) hc (by decide) dX7_passes_21 (pc2 := 22) rfl ?_
          refine g_sub [0, 1, 3] rfl ?_
          exact Hj1 _ _ hf
        · have hf := ite_f hf q
          refine g_iconst (v := (1 : Int32)) hc (by decide) dX7_passes_17 (pc2 := 18) rfl ?_
          refine g_goto hc 22 (by decide) dX7_passes_18 ?_
          refine g_sub [0, 1, 3] rfl ?_
          exact Hj1 _ _ hf
  refine g_sub [2, 3, 1, 0] rfl ?_
  exact LP_n1 _ _ _ _ hf
def f7_canSend (a1 : Int32) (s0 : Mem) : Option (Int32 × Mem) :=
  bd (f7_isBankrupt a1 s0) fun r1 s1 => nm (fun (s2 : Mem) => some ((0 : Int32), s2)) fun j1 => (if r1 = (0 : Int32) then bd (f7_of a1 (0 : Int32) s1) fun r2 s3 => (if (6 : Int32) ≤ r2 then j1 s3 else some ((1 : Int32), s3)) else j1 s1)
def rm_7_canSend : Room := { frames := 2, cells := 0, slots := 0, locals := 43 }
set_option maxHeartbeats 4000000 in
set_option maxRecDepth 100000 in
theorem k7_canSend {κ : Kx} {τ : Nat → Int64} {a1 : Int32} {s0 sR : Mem} {rR : Int32}  (hf : f7_canSend a1 s0 = some (rR, sR)) : CtI κ yX7_canSend cX7_canSend 2 (some .boolean) rm_7_canSend (NV κ τ) (NV κ τ) [.ref (ad κ.1 19 0), .int a1] s0 sR rR := by
  refine ct_I (by decide +kernel) (Nat.le_of_ble_eq_true rfl) (fun φ hc hr => ?_)
  have hc : Cx κ φ RX7 cX7_canSend 2 rm_7_canSend := hc
  show G κ φ (QI κ φ (NV κ τ) sR rR rm_7_canSend.cells rm_7_canSend.slots) (NV κ τ) 0 0 s0 [(0, .ref (ad κ.1 19 0)), (1, .int a1)] 0 []
  unfold f7_canSend at hf
  refine g_aload_n (i := 0) hc 0 rfl rfl dX7_canSend_0 (pc2 := 1) rfl ?_
  refine g_iload_n (i := 1) hc 1 rfl rfl dX7_canSend_1 (pc2 := 2) rfl ?_
  obtain ⟨r1, s1, hp, hf⟩ := bd_some hf
  refine g_vI hc (k7_isBankrupt hp) co_X7_66 (u19 (by decide)) rfl rfl (by decide) (by decide) (Nat.le_of_ble_eq_true rfl) dX7_canSend_2 (pc2 := 5) rfl ?_
  obtain ⟨j1, hj1, hf⟩ := nm_ex hf
  have Hj1 : ∀ (s2 : Mem), j1 s2 = some (rR, sR) → G κ φ (QI κ φ (NV κ τ) sR rR rm_7_canSend.cells rm_7_canSend.slots) (NV κ τ) 0 0 s2 [] 23 [] := by
    intro s2 hf
    rw [hj1] at hf
    refine g_iconst (v := (0 : Int32)) hc (by decide) dX7_canSend_23 (pc2 := 24) rfl ?_
    exact g_iret hc hf hr rfl (by decide) (by decide) dX7_canSend_24
  refine g_if_ne hc 23 (by decide) dX7_canSend_5 (pc2 := 8) rfl (fun q => ?_) (fun q => ?_)
  · have hf := ite_f hf q
    refine g_sub [] rfl ?_
    exact Hj1 _ hf
  · have hf := ite_t hf q
    refine g_aload_n (i := 0) hc 0 rfl rfl dX7_canSend_8 (pc2 := 9) rfl ?_
    refine g_iload_n (i := 1) hc 1 rfl rfl dX7_canSend_9 (pc2 := 10) rfl ?_
    refine g_iconst (v := (0 : Int32)) hc (by decide) dX7_canSend_10 (pc2 := 11) rfl ?_
    obtain ⟨r2, s3, hp, hf⟩ := bd_some hf
    refine g_vI hc (k7_of hp) co_X7_59 (u19 (by decide)) rfl rfl (by decide) (by decide) (Nat.le_of_ble_eq_true rfl) dX7_canSend_11 (pc2 := 14) rfl ?_
    refine g_bipush (v := (6 : Int32)) hc (by decide) dX7_canSend_14 (pc2 := 16) rfl ?_
    refine g_icmp_ge hc 23 (by decide) dX7_canSend_16 (pc2 := 19) rfl (fun q => ?_) (fun q => ?_)
    · have hf := ite_t hf q
      refine g_sub [] rfl ?_
      exact Hj1 _ hf
    · have hf := ite_f hf q
      refine g_iconst (v := (1 : Int32)) hc (by decide) dX7_canSend_19 (pc2 := 20) rfl ?_
      refine g_goto hc 24 (by decide) dX7_canSend_20 ?_
      exact g_iret hc hf hr rfl (by decide) (by decide) dX7_canSend_24
def f7_sends (a1 : Int32) (a2 : Int32) (a3 : Int32) (a4 : Int32) (s0 : Mem) : Option (Int32 × Mem) :=
  bd (f7_of a1 (0 : Int32) s0) fun r1 s1 => bd (f7_at a1 ((8 : Int32) + ((3 : Int32) * r1)) s1) fun r2 s2 => gd (ib r2 291) (nm (ms s2 20 0 r2.toNatClampNeg a2) fun s3 => gd (ib (r2 + (1 : Int32)) 291) (nm (ms s3 20 0 (r2 + (1 : Int32)).toNatClampNeg a3) fun s4 => gd (ib (r2 + (2 : Int32)) 291) (nm (ms s4 20 0 (r2 + (2 : Int32)).toNatClampNeg a4) fun s5 => bd (f7_at a1 (0 : Int32) s5) fun r3 s6 => gd (ib r3 291) (gd (ib r3 291) (nm (ms s6 20 0 r3.toNatClampNeg ((s6 20 0 r3.toNatClampNeg) + (1 : Int32))) fun s7 => bd (f7_of a1 (0 : Int32) s7) fun r4 s8 => some (r4, s8))))))
def rm_7_sends : Room := { frames := 2, cells := 0, slots := 0, locals := 43 }
set_option maxHeartbeats 4000000 in
set_option maxRecDepth 100000 in
theorem k7_sends {κ : Kx} {τ : Nat → Int64} {a1 : Int32} {a2 : Int32} {a3 : Int32} {a4 : Int32} {s0 sR : Mem} {rR : Int32}  (hf : f7_sends a1 a2 a3 a4 s0 = some (rR, sR)) : CtI κ yX7_sends cX7_sends 6 (some .int) rm_7_sends (NV κ τ) (NV κ τ) [.ref (ad κ.1 19 0), .int a1, .int a2, .int a3, .int a4] s0 sR rR := by
  refine ct_I (by decide +kernel) (Nat.le_of_ble_eq_true rfl) (fun φ hc hr => ?_)
  have hc : Cx κ φ RX7 cX7_sends 6 rm_7_sends := hc
  show G κ φ (QI κ φ (NV κ τ) sR rR rm_7_sends.cells rm_7_sends.slots) (NV κ τ) 0 0 s0 [(0, .ref (ad κ.1 19 0)), (1, .int a1), (2, .int a2), (3, .int a3), (4, .int a4)] 0 []
  unfold f7_sends at hf
  refine g_iload_n (i := 1) hc 1 rfl rfl dX7_sends_0 (pc2 := 1) rfl ?_
  refine g_bipush (v := (8 : Int32)) hc (by decide) dX7_sends_1 (pc2 := 3) rfl ?_
  refine g_iconst (v := (3 : Int32)) hc (by decide) dX7_sends_3 (pc2 := 4) rfl ?_
  refine g_aload_n (i := 0) hc 0 rfl rfl dX7_sends_4 (pc2 := 5) rfl ?_
  refine g_iload_n (i := 1) hc 1 rfl rfl dX7_sends_5 (pc2 := 6) rfl ?_
  refine g_iconst (v := (0 : Int32)) hc (by decide) dX7_sends_6 (pc2 := 7) rfl ?_
  obtain ⟨r1, s1, hp, hf⟩ := bd_some hf
  refine g_vI hc (k7_of hp) co_X7_59 (u19 (by decide)) rfl rfl (by decide) (by decide) (Nat.le_of_ble_eq_true rfl) dX7_sends_7 (pc2 := 10) rfl ?_
  refine g_imul hc dX7_sends_10 (pc2 := 11) rfl ?_
  refine g_iadd hc dX7_sends_11 (pc2 := 12) rfl ?_
  obtain ⟨r2, s2, hp, hf⟩ := bd_some hf
  refine g_sI hc (k7_at hp) co_X7_52 rfl rfl (by decide) (by decide) (Nat.le_of_ble_eq_true rfl) dX7_sends_12 (pc2 := 15) rfl ?_
  refine g_istore (L1 := [(5, .int r2), (0, .ref (ad κ.1 19 0)), (1, .int a1), (2, .int a2), (3, .int a3), (4, .int a4)]) hc (by decide) rfl dX7_sends_15 (pc2 := 17) rfl ?_
  refine g_aload_n (i := 0) hc 1 rfl rfl dX7_sends_17 (pc2 := 18) rfl ?_
  refine g_getr (q := ad κ.1 20 0) hc fo_X7_7 (u19 (by decide)) rfl dX7_sends_18 (pc2 := 21) rfl ?_
  refine g_iload hc 0 rfl dX7_sends_21 (pc2 := 23) rfl ?_
  refine g_iload_n (i := 2) hc 3 rfl rfl dX7_sends_23 (pc2 := 24) rfl ?_
  obtain ⟨hg1, hf⟩ := gd_some hf
  obtain ⟨s3, hs3, hf⟩ := nm_ex hf
  refine g_asti hc 20 0 rfl (u20 (by decide)) hg1 dX7_sends_24 (pc2 := 25) rfl ?_
  refine g_nms hs3 ?_
  refine g_aload_n (i := 0) hc 1 rfl rfl dX7_sends_25 (pc2 := 26) rfl ?_
  refine g_getr (q := ad κ.1 20 0) hc fo_X7_7 (u19 (by decide)) rfl dX7_sends_26 (pc2 := 29) rfl ?_
  refine g_iload hc 0 rfl dX7_sends_29 (pc2 := 31) rfl ?_
  refine g_iconst (v := (1 : Int32)) hc (by decide) dX7_sends_31 (pc2 := 32) rfl ?_
  refine g_iadd hc dX7_sends_32 (pc2 := 33) rfl ?_
  refine g_iload_n (i := 3) hc 4 rfl rfl dX7_sends_33 (pc2 := 34) rfl ?_
  obtain ⟨hg2, hf⟩ := gd_some hf
  obtain ⟨s4, hs4, hf⟩ := nm_ex hf
  refine g_asti hc 20 0 rfl (u20 (by decide)) hg2 dX7_sends_34 (pc2 := 35) rfl ?_
  refine g_nms hs4 ?_
  refine g_aload_n (i := 0) hc 1 rfl rfl dX7_sends_35 (pc2 := 36) rfl ?_
  refine g_getr (q := ad κ.1 20 0) hc fo_X7_7 (u19 (by decide)) rfl dX7_sends_36 (pc2 := 39) rfl ?_
  refine g_iload hc 0 rfl dX7_sends_39 (pc2 := 41) rfl ?_
  refine g_iconst (v := (2 : Int32)) hc (by decide) dX7_sends_41 (pc2 := 42) rfl ?_
  refine g_iadd hc dX7_sends_42 (pc2 := 43) rfl ?_
  refine g_iload hc 5 rfl dX7_sends_43 (pc2 := 45) rfl ?_
  obtain ⟨hg3, hf⟩ := gd_some hf
  obtain ⟨s5, hs5, hf⟩ := nm_ex hf
  refine g_asti hc 20 0 rfl (u20 (by decide)) hg3 dX7_sends_45 (pc2 := 46) rfl ?_
  refine g_nms hs5 ?_
  refine g_aload_n (i := 0) hc 1 rfl rfl dX7_sends_46 (pc2 := 47) rfl ?_
  refine g_getr (q := ad κ.1 20 0) hc fo_X7_7 (u19 (by decide)) rfl dX7_sends_47 (pc2 := 50) rfl ?_
  refine g_iload_n (i := 1) hc 2 rfl rfl dX7_sends_50 (pc2 := 51) rfl ?_
  refine g_iconst (v := (0 : Int32)) hc (by decide) dX7_sends_51 (pc2 := 52) rfl ?_
  obtain ⟨r3, s6, hp, hf⟩ := bd_some hf
  refine g_sI hc (k7_at hp) co_X7_52 rfl rfl (by decide) (by decide) (Nat.le_of_ble_eq_true rfl) dX7_sends_52 (pc2 := 55) rfl ?_
  refine g_dup2 hc rfl rfl dX7_sends_55 (pc2 := 56) rfl ?_
  obtain ⟨hg4, hf⟩ := gd_some hf
  refine g_aldi hc 20 0 rfl (u20 (by decide)) hg4 dX7_sends_56 (pc2 := 57) rfl ?_
  refine g_iconst (v := (1 : Int32)) hc (by decide) dX7_sends_57 (pc2 := 58) rfl ?_
  refine g_iadd hc dX7_sends_58 (pc2 := 59) rfl ?_
  obtain ⟨hg5, hf⟩ := gd_some hf
  obtain ⟨s7, hs7, hf⟩ := nm_ex hf
  refine g_asti hc 20 0 rfl (u20 (by decide)) hg5 dX7_sends_59 (pc2 := 60) rfl ?_
  refine g_nms hs7 ?_
  refine g_aload_n (i := 0) hc 1 rfl rfl dX7_sends_60 (pc2 := 61) rfl ?_
  refine g_iload_n (i := 1) hc 2 rfl rfl dX7_sends_61 (pc2 := 62) rfl ?_
  refine g_iconst (v := (0 : Int32)) hc (by decide) dX7_sends_62 (pc2 := 63) rfl ?_
  obtain ⟨r4, s8, hp, hf⟩ := bd_some hf
  refine g_vI hc (k7_of hp) co_X7_59 (u19 (by decide)) rfl rfl (by decide) (by decide) (Nat.le_of_ble_eq_true rfl) dX7_sends_63 (pc2 := 66) rfl ?_
  exact g_iret hc hf hr rfl (by decide) (by decide) dX7_sends_66
def f7_append (a1 : Int32) (s0 : Mem) : Option (Int32 × Mem) :=
  nm (ms s0 62 0 0 (0 : Int32)) fun s1 => bd (f7_in (a1.toInt64) (0 : Int64) (255 : Int64) s1) fun r1 s2 => (if r1 = (0 : Int32) then bd (f7_fails (1 : Int32) s2) fun r3 s6 => some (r3, s6) else (if (s2 61 0 0) = (120 : Int32) then bd (f7_fails (2 : Int32) s2) fun r2 s5 => some (r2, s5) else gd (ib (s2 61 0 0) 120) (nm (ms s2 24 0 (s2 61 0 0).toNatClampNeg a1) fun s3 => nm (ms s3 61 0 0 ((s3 61 0 0) + (1 : Int32))) fun s4 => some (s4 61 0 0, s4))))
def rm_7_append : Room := { frames := 1, cells := 0, slots := 0, locals := 25 }
set_option maxHeartbeats 4000000 in
set_option maxRecDepth 100000 in
theorem k7_append {κ : Kx} {τ : Nat → Int64} {a1 : Int32} {s0 sR : Mem} {rR : Int32}  (hf : f7_append a1 s0 = some (rR, sR)) : CtI κ yX7_append cX7_append 2 (some .int) rm_7_append (NV κ τ) (NV κ τ) [.ref (ad κ.1 19 0), .int a1] s0 sR rR := by
  refine ct_I (by decide +kernel) (Nat.le_of_ble_eq_true rfl) (fun φ hc hr => ?_)
  have hc : Cx κ φ RX7 cX7_append 2 rm_7_append := hc
  show G κ φ (QI κ φ (NV κ τ) sR rR rm_7_append.cells rm_7_append.slots) (NV κ τ) 0 0 s0 [(0, .ref (ad κ.1 19 0)), (1, .int a1)] 0 []
  unfold f7_append at hf
  refine g_aload_n (i := 0) hc 0 rfl rfl dX7_append_0 (pc2 := 1) rfl ?_
  refine g_iconst (v := (0 : Int32)) hc (by decide) dX7_append_1 (pc2 := 2) rfl ?_
  obtain ⟨s1, hs1, hf⟩ := nm_ex hf
  refine g_puti hc (by decide) fo_X7_39 clO_19 poK_19_9 rfl (u19 (by decide)) rfl rfl dX7_append_2 (pc2 := 5) rfl ?_
  refine g_nms hs1 ?_
  refine g_iload_n (i := 1) hc 1 rfl rfl dX7_append_5 (pc2 := 6) rfl ?_
  refine g_i2l hc dX7_append_6 (pc2 := 7) rfl ?_
  refine g_lconst (v := (0 : Int64)) hc (by decide) dX7_append_7 (pc2 := 8) rfl ?_
  refine g_ldc2 (v := (255 : Int64)) hc (gwm 973 (by decide +kernel) (by decide +kernel)) dX7_append_8 (pc2 := 11) rfl ?_
  obtain ⟨r1, s2, hp, hf⟩ := bd_some hf
  refine g_sI hc (k7_in hp) co_X7_46 rfl rfl (by decide) (by decide) (Nat.le_of_ble_eq_true rfl) dX7_append_11 (pc2 := 14) rfl ?_
  refine g_if_ne hc 23 (by decide) dX7_append_14 (pc2 := 17) rfl (fun q => ?_) (fun q => ?_)
  · have hf := ite_f hf q
    refine g_aload_n (i := 0) hc 0 rfl rfl dX7_append_23 (pc2 := 24) rfl ?_
    refine g_geti hc fo_X7_104 (u19 (by decide)) dX7_append_24 (pc2 := 27) rfl ?_
    refine g_bipush (v := (120 : Int32)) hc (by decide) dX7_append_27 (pc2 := 29) rfl ?_
    refine g_icmp_ne hc 38 (by decide) dX7_append_29 (pc2 := 32) rfl (fun q => ?_) (fun q => ?_)
    · have hf := ite_f hf q
      refine g_aload_n (i := 0) hc 0 rfl rfl dX7_append_38 (pc2 := 39) rfl ?_
      refine g_getr (q := ad κ.1 24 0) hc fo_X7_29 (u19 (by decide)) rfl dX7_append_39 (pc2 := 42) rfl ?_
      refine g_aload_n (i := 0) hc 0 rfl rfl dX7_append_42 (pc2 := 43) rfl ?_
      refine g_geti hc fo_X7_104 (u19 (by decide)) dX7_append_43 (pc2 := 46) rfl ?_
      refine g_iload_n (i := 1) hc 1 rfl rfl dX7_append_46 (pc2 := 47) rfl ?_
      obtain ⟨hg1, hf⟩ := gd_some hf
      obtain ⟨s3, hs3, hf⟩ := nm_ex hf
      refine g_asti hc 24 0 rfl (u24 (by decide)) hg1 dX7_append_47 (pc2 := 48) rfl ?_
      refine g_nms hs3 ?_
      refine g_aload_n (i := 0) hc 0 rfl rfl dX7_append_48 (pc2 := 49) rfl ?_
      refine g_dup hc rfl dX7_append_49 (pc2 := 50) rfl ?_
      refine g_geti hc fo_X7_104 (u19 (by decide)) dX7_append_50 (pc2 := 53) rfl ?_
      refine g_iconst (v := (1 : Int32)) hc (by decide) dX7_append_53 (pc2 := 54) rfl ?_
      refine g_iadd hc dX7_append_54 (pc2 := 55) rfl ?_
      obtain ⟨s4, hs4, hf⟩ := nm_ex hf
      refine g_puti hc (by decide) fo_X7_104 clO_19 poK_19_8 rfl (u19 (by decide)) rfl rfl dX7_append_55 (pc2 := 58) rfl ?_
      refine g_nms hs4 ?_
      refine g_aload_n (i := 0) hc 0 rfl rfl dX7_append_58 (pc2 := 59) rfl ?_
      refine g_geti hc fo_X7_104 (u19 (by decide)) dX7_append_59 (pc2 := 62) rfl ?_
      exact g_iret hc hf hr rfl (by decide) (by decide) dX7_append_62
    · have hf := ite_t hf q
      refine g_aload_n (i := 0) hc 0 rfl rfl dX7_append_32 (pc2 := 33) rfl ?_
      refine g_iconst (v := (2 : Int32)) hc (by decide) dX7_append_33 (pc2 := 34) rfl ?_
      obtain ⟨r2, s5, hp, hf⟩ := bd_some hf
      refine g_vI hc (k7_fails hp) co_X7_101 (u19 (by decide)) rfl rfl (by decide) (by decide) (Nat.le_of_ble_eq_true rfl) dX7_append_34 (pc2 := 37) rfl ?_
      exact g_iret hc hf hr rfl (by decide) (by decide) dX7_append_37
  · have hf := ite_t hf q
    refine g_aload_n (i := 0) hc 0 rfl rfl dX7_append_17 (pc2 := 18) rfl ?_
    refine g_iconst (v := (1 : Int32)) hc (by decide) dX7_append_18 (pc2 := 19) rfl ?_
    obtain ⟨r3, s6, hp, hf⟩ := bd_some hf
    refine g_vI hc (k7_fails hp) co_X7_101 (u19 (by decide)) rfl rfl (by decide) (by decide) (Nat.le_of_ble_eq_true rfl) dX7_append_19 (pc2 := 22) rfl ?_
    exact g_iret hc hf hr rfl (by decide) (by decide) dX7_append_22
def f7_clearText  (s0 : Mem) : Option (Int32 × Mem) :=
  nm (ms s0 62 0 0 (0 : Int32)) fun s1 => nm (s1 61 0 0) fun x1 => nm (ms s1 61 0 0 (0 : Int32)) fun s2 => some (x1, s2)
def rm_7_clearText : Room := { frames := 0, cells := 0, slots := 0, locals := 0 }
set_option maxHeartbeats 4000000 in
set_option maxRecDepth 100000 in
theorem k7_clearText {κ : Kx} {τ : Nat → Int64}  {s0 sR : Mem} {rR : Int32}  (hf : f7_clearText s0 = some (rR, sR)) : CtI κ yX7_clearText cX7_clearText 2 (some .int) rm_7_clearText (NV κ τ) (NV κ τ) [.ref (ad κ.1 19 0)] s0 sR rR := by
  refine ct_I (by decide +kernel) (Nat.le_of_ble_eq_true rfl) (fun φ hc hr => ?_)
  have hc : Cx κ φ RX7 cX7_clearText 2 rm_7_clearText := hc
  show G κ φ (QI κ φ (NV κ τ) sR rR rm_7_clearText.cells rm_7_clearText.slots) (NV κ τ) 0 0 s0 [(0, .ref (ad κ.1 19 0))] 0 []
  unfold f7_clearText at hf
  refine g_aload_n (i := 0) hc 0 rfl rfl dX7_clearText_0 (pc2 := 1) rfl ?_
  refine g_iconst (v := (0 : Int32)) hc (by decide) dX7_clearText_1 (pc2 := 2) rfl ?_
  obtain ⟨s1, hs1, hf⟩ := nm_ex hf
  refine g_puti hc (by decide) fo_X7_39 clO_19 poK_19_9 rfl (u19 (by decide)) rfl rfl dX7_clearText_2 (pc2 := 5) rfl ?_
  refine g_nms hs1 ?_
  refine g_aload_n (i := 0) hc 0 rfl rfl dX7_clearText_5 (pc2 := 6) rfl ?_
  refine g_geti hc fo_X7_104 (u19 (by decide)) dX7_clearText_6 (pc2 := 9) rfl ?_
  obtain ⟨x1, hx1, hf⟩ := nm_ex hf
  refine g_nmi hx1 ?_
  refine g_istore_n (i := 1) (L1 := [(1, .int x1), (0, .ref (ad κ.1 19 0))]) hc rfl (by decide) rfl dX7_clearText_9 (pc2 := 10) rfl ?_
  refine g_aload_n (i := 0) hc 1 rfl rfl dX7_clearText_10 (pc2 := 11) rfl ?_
  refine g_iconst (v := (0 : Int32)) hc (by decide) dX7_clearText_11 (pc2 := 12) rfl ?_
  obtain ⟨s2, hs2, hf⟩ := nm_ex hf
  refine g_puti hc (by decide) fo_X7_104 clO_19 poK_19_8 rfl (u19 (by decide)) rfl rfl dX7_clearText_12 (pc2 := 15) rfl ?_
  refine g_nms hs2 ?_
  refine g_iload_n (i := 1) hc 0 rfl rfl dX7_clearText_15 (pc2 := 16) rfl ?_
  exact g_iret hc hf hr rfl (by decide) (by decide) dX7_clearText_16
def f7_sign (a1 : Int32) (s0 : Mem) : Option (Int32 × Mem) :=
  nm (fun (y1 : Int32) (s1 : Mem) => nm (fun (y2 : Int32) (s2 : Mem) => nm (ms s2 63 0 0 ((s1 63 0 0) + y2)) fun s3 => gd (zok y1) (some (y1, s3))) fun j2 => (if y1 = (0 : Int32) then j2 (0 : Int32) s1 else j2 (1 : Int32) s1)) fun j1 => nm (fun (s4 : Mem) => j1 (0 : Int32) s4) fun j3 => (if (s0 61 0 0) ≤ (s0 63 0 0) then j3 s0 else gd (ib (s0 63 0 0) 120) ((if (s0 24 0 (s0 63 0 0).toNatClampNeg) = a1 then j1 (1 : Int32) s0 else j3 s0)))
def rm_7_sign : Room := { frames := 0, cells := 0, slots := 0, locals := 0 }
set_option maxHeartbeats 4000000 in
set_option maxRecDepth 100000 in
theorem k7_sign {κ : Kx} {τ : Nat → Int64} {a1 : Int32} {s0 sR : Mem} {rR : Int32}  (hf : f7_sign a1 s0 = some (rR, sR)) : CtI κ yX7_sign cX7_sign 3 (some .boolean) rm_7_sign (NV κ τ) (NV κ τ) [.ref (ad κ.1 19 0), .int a1] s0 sR rR := by
  refine ct_I (by decide +kernel) (Nat.le_of_ble_eq_true rfl) (fun φ hc hr => ?_)
  have hc : Cx κ φ RX7 cX7_sign 3 rm_7_sign := hc
  show G κ φ (QI κ φ (NV κ τ) sR rR rm_7_sign.cells rm_7_sign.slots) (NV κ τ) 0 0 s0 [(0, .ref (ad κ.1 19 0)), (1, .int a1)] 0 []
  unfold f7_sign at hf
  refine g_aload_n (i := 0) hc 0 rfl rfl dX7_sign_0 (pc2 := 1) rfl ?_
  refine g_geti hc fo_X7_107 (u19 (by decide)) dX7_sign_1 (pc2 := 4) rfl ?_
  refine g_aload_n (i := 0) hc 0 rfl rfl dX7_sign_4 (pc2 := 5) rfl ?_
  refine g_geti hc fo_X7_104 (u19 (by decide)) dX7_sign_5 (pc2 := 8) rfl ?_
  obtain ⟨j1, hj1, hf⟩ := nm_ex hf
  have Hj1 : ∀ (y1 : Int32) (s1 : Mem), j1 y1 s1 = some (rR, sR) → G κ φ (QI κ φ (NV κ τ) sR rR rm_7_sign.cells rm_7_sign.slots) (NV κ τ) 0 0 s1 [(0, .ref (ad κ.1 19 0))] 29 [.int y1] := by
    intro y1 s1 hf
    rw [hj1] at hf
    refine g_istore_n (i := 2) (L1 := [(2, .int y1), (0, .ref (ad κ.1 19 0))]) hc rfl (by decide) rfl dX7_sign_29 (pc2 := 30) rfl ?_
    refine g_aload_n (i := 0) hc 1 rfl rfl dX7_sign_30 (pc2 := 31) rfl ?_
    refine g_dup hc rfl dX7_sign_31 (pc2 := 32) rfl ?_
    refine g_geti hc fo_X7_107 (u19 (by decide)) dX7_sign_32 (pc2 := 35) rfl ?_
    refine g_iload_n (i := 2) hc 0 rfl rfl dX7_sign_35 (pc2 := 36) rfl ?_
    obtain ⟨j2, hj2, hf⟩ := nm_ex hf
    have Hj2 : ∀ (y2 : Int32) (s2 : Mem), j2 y2 s2 = some (rR, sR) → G κ φ (QI κ φ (NV κ τ) sR rR rm_7_sign.cells rm_7_sign.slots) (NV κ τ) 0 0 s2 [(2, .int y1)] 44 [.int y2, .int (s1 63 0 0), .ref (ad κ.1 19 0)] := by
      intro y2 s2 hf
      rw [hj2] at hf
      refine g_iadd hc dX7_sign_44 (pc2 := 45) rfl ?_
      obtain ⟨s3, hs3, hf⟩ := nm_ex hf
      refine g_puti hc (by decide) fo_X7_107 clO_19 poK_19_10 rfl (u19 (by decide)) rfl rfl dX7_sign_45 (pc2 := 48) rfl ?_
      refine g_nms hs3 ?_
      refine g_iload_n (i := 2) hc 0 rfl rfl dX7_sign_48 (pc2 := 49) rfl ?_
      obtain ⟨hg1, hf⟩ := gd_some hf
      exact g_iret hc hf hr (zok_n hg1) (by decide) (by decide) dX7_sign_49
    refine g_if_eq hc 43 (by decide) dX7_sign_36 (pc2 := 39) rfl (fun q => ?_) (fun q => ?_)
    · have hf := ite_t hf q
      refine g_iconst (v := (0 : Int32)) hc (by decide) dX7_sign_43 (pc2 := 44) rfl ?_
      refine g_sub [0] rfl ?_
      exact Hj2 _ _ hf
    · have hf := ite_f hf q
      refine g_iconst (v := (1 : Int32)) hc (by decide) dX7_sign_39 (pc2 := 40) rfl ?_
      refine g_goto hc 44 (by decide) dX7_sign_40 ?_
      refine g_sub [0] rfl ?_
      exact Hj2 _ _ hf
  obtain ⟨j3, hj3, hf⟩ := nm_ex hf
  have Hj3 : ∀ (s4 : Mem), j3 s4 = some (rR, sR) → G κ φ (QI κ φ (NV κ τ) sR rR rm_7_sign.cells rm_7_sign.slots) (NV κ τ) 0 0 s4 [(0, .ref (ad κ.1 19 0))] 28 [] := by
    intro s4 hf
    rw [hj3] at hf
    refine g_iconst (v := (0 : Int32)) hc (by decide) dX7_sign_28 (pc2 := 29) rfl ?_
    exact Hj1 _ _ hf
  refine g_icmp_ge hc 28 (by decide) dX7_sign_8 (pc2 := 11) rfl (fun q => ?_) (fun q => ?_)
  · have hf := ite_t hf q
    refine g_sub [0] rfl ?_
    exact Hj3 _ hf
  · have hf := ite_f hf q
    refine g_aload_n (i := 0) hc 0 rfl rfl dX7_sign_11 (pc2 := 12) rfl ?_
    refine g_getr (q := ad κ.1 24 0) hc fo_X7_29 (u19 (by decide)) rfl dX7_sign_12 (pc2 := 15) rfl ?_
    refine g_aload_n (i := 0) hc 0 rfl rfl dX7_sign_15 (pc2 := 16) rfl ?_
    refine g_geti hc fo_X7_107 (u19 (by decide)) dX7_sign_16 (pc2 := 19) rfl ?_
    obtain ⟨hg2, hf⟩ := gd_some hf
    refine g_aldi hc 24 0 rfl (u24 (by decide)) hg2 dX7_sign_19 (pc2 := 20) rfl ?_
    refine g_iload_n (i := 1) hc 1 rfl rfl dX7_sign_20 (pc2 := 21) rfl ?_
    refine g_icmp_ne hc 28 (by decide) dX7_sign_21 (pc2 := 24) rfl (fun q => ?_) (fun q => ?_)
    · have hf := ite_f hf q
      refine g_sub [0] rfl ?_
      exact Hj3 _ hf
    · have hf := ite_t hf q
      refine g_iconst (v := (1 : Int32)) hc (by decide) dX7_sign_24 (pc2 := 25) rfl ?_
      refine g_goto hc 29 (by decide) dX7_sign_25 ?_
      refine g_sub [0] rfl ?_
      exact Hj1 _ _ hf
def f7_digitTo (a1 : Int32) (a2 : Int32) (s0 : Mem) : Option (Int32 × Mem) :=
  nm (fun (y1 : Int32) (s1 : Mem) => nm (ms s1 64 0 0 y1) fun s2 => bd (f7_in ((s2 64 0 0).toInt64) (a1.toInt64) (a2.toInt64) s2) fun r1 s3 => nm (fun (y2 : Int32) (s4 : Mem) => nm (ms s4 63 0 0 ((s3 63 0 0) + y2)) fun s5 => gd (zok r1) (some (r1, s5))) fun j2 => (if r1 = (0 : Int32) then j2 (0 : Int32) s3 else j2 (1 : Int32) s3)) fun j1 => (if (s0 61 0 0) ≤ (s0 63 0 0) then j1 (-1 : Int32) s0 else gd (ib (s0 63 0 0) 120) (j1 ((s0 24 0 (s0 63 0 0).toNatClampNeg) - (48 : Int32)) s0))
def rm_7_digitTo : Room := { frames := 1, cells := 0, slots := 0, locals := 25 }
set_option maxHeartbeats 4000000 in
set_option maxRecDepth 100000 in
theorem k7_digitTo {κ : Kx} {τ : Nat → Int64} {a1 : Int32} {a2 : Int32} {s0 sR : Mem} {rR : Int32}  (hf : f7_digitTo a1 a2 s0 = some (rR, sR)) : CtI κ yX7_digitTo cX7_digitTo 4 (some .boolean) rm_7_digitTo (NV κ τ) (NV κ τ) [.ref (ad κ.1 19 0), .int a1, .int a2] s0 sR rR := by
  refine ct_I (by decide +kernel) (Nat.le_of_ble_eq_true rfl) (fun φ hc hr => ?_)
  have hc : Cx κ φ RX7 cX7_digitTo 4 rm_7_digitTo := hc
  show G κ φ (QI κ φ (NV κ τ) sR rR rm_7_digitTo.cells rm_7_digitTo.slots) (NV κ τ) 0 0 s0 [(0, .ref (ad κ.1 19 0)), (1, .int a1), (2, .int a2)] 0 []
  unfold f7_digitTo at hf
  refine g_aload_n (i := 0) hc 0 rfl rfl dX7_digitTo_0 (pc2 := 1) rfl ?_
  refine g_aload_n (i := 0) hc 0 rfl rfl dX7_digitTo_1 (pc2 := 2) rfl ?_
  refine g_geti hc fo_X7_107 (u19 (by decide)) dX7_digitTo_2 (pc2 := 5) rfl ?_
  refine g_aload_n (i := 0) hc 0 rfl rfl dX7_digitTo_5 (pc2 := 6) rfl ?_
  refine g_geti hc fo_X7_104 (u19 (by decide)) dX7_digitTo_6 (pc2 := 9) rfl ?_
  obtain ⟨j1, hj1, hf⟩ := nm_ex hf
  have Hj1 : ∀ (y1 : Int32) (s1 : Mem), j1 y1 s1 = some (rR, sR) → G κ φ (QI κ φ (NV κ τ) sR rR rm_7_digitTo.cells rm_7_digitTo.slots) (NV κ τ) 0 0 s1 [(0, .ref (ad κ.1 19 0)), (1, .int a1), (2, .int a2)] 28 [.int y1, .ref (ad κ.1 19 0)] := by
    intro y1 s1 hf
    rw [hj1] at hf
    obtain ⟨s2, hs2, hf⟩ := nm_ex hf
    refine g_puti hc (by decide) fo_X7_110 clO_19 poK_19_11 rfl (u19 (by decide)) rfl rfl dX7_digitTo_28 (pc2 := 31) rfl ?_
    refine g_nms hs2 ?_
    refine g_aload_n (i := 0) hc 0 rfl rfl dX7_digitTo_31 (pc2 := 32) rfl ?_
    refine g_geti hc fo_X7_110 (u19 (by decide)) dX7_digitTo_32 (pc2 := 35) rfl ?_
    refine g_i2l hc dX7_digitTo_35 (pc2 := 36) rfl ?_
    refine g_iload_n (i := 1) hc 1 rfl rfl dX7_digitTo_36 (pc2 := 37) rfl ?_
    refine g_i2l hc dX7_digitTo_37 (pc2 := 38) rfl ?_
    refine g_iload_n (i := 2) hc 2 rfl rfl dX7_digitTo_38 (pc2 := 39) rfl ?_
    refine g_i2l hc dX7_digitTo_39 (pc2 := 40) rfl ?_
    obtain ⟨r1, s3, hp, hf⟩ := bd_some hf
    refine g_sI hc (k7_in hp) co_X7_46 rfl rfl (by decide) (by decide) (Nat.le_of_ble_eq_true rfl) dX7_digitTo_40 (pc2 := 43) rfl ?_
    refine g_istore_n (i := 3) (L1 := [(3, .int r1), (0, .ref (ad κ.1 19 0)), (1, .int a1), (2, .int a2)]) hc rfl (by decide) rfl dX7_digitTo_43 (pc2 := 44) rfl ?_
    refine g_aload_n (i := 0) hc 1 rfl rfl dX7_digitTo_44 (pc2 := 45) rfl ?_
    refine g_dup hc rfl dX7_digitTo_45 (pc2 := 46) rfl ?_
    refine g_geti hc fo_X7_107 (u19 (by decide)) dX7_digitTo_46 (pc2 := 49) rfl ?_
    refine g_iload_n (i := 3) hc 0 rfl rfl dX7_digitTo_49 (pc2 := 50) rfl ?_
    obtain ⟨j2, hj2, hf⟩ := nm_ex hf
    have Hj2 : ∀ (y2 : Int32) (s4 : Mem), j2 y2 s4 = some (rR, sR) → G κ φ (QI κ φ (NV κ τ) sR rR rm_7_digitTo.cells rm_7_digitTo.slots) (NV κ τ) 0 0 s4 [(3, .int r1)] 58 [.int y2, .int (s3 63 0 0), .ref (ad κ.1 19 0)] := by
      intro y2 s4 hf
      rw [hj2] at hf
      refine g_iadd hc dX7_digitTo_58 (pc2 := 59) rfl ?_
      obtain ⟨s5, hs5, hf⟩ := nm_ex hf
      refine g_puti hc (by decide) fo_X7_107 clO_19 poK_19_10 rfl (u19 (by decide)) rfl rfl dX7_digitTo_59 (pc2 := 62) rfl ?_
      refine g_nms hs5 ?_
      refine g_iload_n (i := 3) hc 0 rfl rfl dX7_digitTo_62 (pc2 := 63) rfl ?_
      obtain ⟨hg1, hf⟩ := gd_some hf
      exact g_iret hc hf hr (zok_n hg1) (by decide) (by decide) dX7_digitTo_63
    refine g_if_eq hc 57 (by decide) dX7_digitTo_50 (pc2 := 53) rfl (fun q => ?_) (fun q => ?_)
    · have hf := ite_t hf q
      refine g_iconst (v := (0 : Int32)) hc (by decide) dX7_digitTo_57 (pc2 := 58) rfl ?_
      refine g_sub [0] rfl ?_
      exact Hj2 _ _ hf
    · have hf := ite_f hf q
      refine g_iconst (v := (1 : Int32)) hc (by decide) dX7_digitTo_53 (pc2 := 54) rfl ?_
      refine g_goto hc 58 (by decide) dX7_digitTo_54 ?_
      refine g_sub [0] rfl ?_
      exact Hj2 _ _ hf
  refine g_icmp_ge hc 27 (by decide) dX7_digitTo_9 (pc2 := 12) rfl (fun q => ?_) (fun q => ?_)
  · have hf := ite_t hf q
    refine g_iconst (v := (-1 : Int32)) hc (by decide) dX7_digitTo_27 (pc2 := 28) rfl ?_
    exact Hj1 _ _ hf
  · have hf := ite_f hf q
    refine g_aload_n (i := 0) hc 0 rfl rfl dX7_digitTo_12 (pc2 := 13) rfl ?_
    refine g_getr (q := ad κ.1 24 0) hc fo_X7_29 (u19 (by decide)) rfl dX7_digitTo_13 (pc2 := 16) rfl ?_
    refine g_aload_n (i := 0) hc 0 rfl rfl dX7_digitTo_16 (pc2 := 17) rfl ?_
    refine g_geti hc fo_X7_107 (u19 (by decide)) dX7_digitTo_17 (pc2 := 20) rfl ?_
    obtain ⟨hg2, hf⟩ := gd_some hf
    refine g_aldi hc 24 0 rfl (u24 (by decide)) hg2 dX7_digitTo_20 (pc2 := 21) rfl ?_
    refine g_bipush (v := (48 : Int32)) hc (by decide) dX7_digitTo_21 (pc2 := 23) rfl ?_
    refine g_isub hc dX7_digitTo_23 (pc2 := 24) rfl ?_
    refine g_goto hc 28 (by decide) dX7_digitTo_24 ?_
    exact Hj1 _ _ hf
def f7_twoTo (a1 : Int32) (a2 : Int32) (s0 : Mem) : Option (Int32 × Mem) :=
  bd (f7_digitTo (0 : Int32) (a2 / (10 : Int32)) s0) fun r1 s1 => (if r1 = (0 : Int32) then some ((0 : Int32), s1) else nm (s1 64 0 0) fun x1 => nm (fun (y1 : Int32) (s2 : Mem) => nm (fun (y2 : Int32) (s3 : Mem) => bd (f7_digitTo y1 y2 s3) fun r2 s4 => nm (ms s4 64 0 0 ((s4 64 0 0) + ((10 : Int32) * x1))) fun s5 => gd (zok r2) (some (r2, s5))) fun j2 => (if x1 = (a2 / (10 : Int32)) then j2 (a2 - a2 / (10 : Int32) * (10 : Int32)) s2 else j2 (9 : Int32) s2)) fun j1 => (if x1 = (0 : Int32) then j1 a1 s1 else j1 (0 : Int32) s1))
def rm_7_twoTo : Room := { frames := 2, cells := 0, slots := 0, locals := 48 }
set_option maxHeartbeats 4000000 in
set_option maxRecDepth 100000 in
theorem k7_twoTo {κ : Kx} {τ : Nat → Int64} {a1 : Int32} {a2 : Int32} {s0 sR : Mem} {rR : Int32}  (hf : f7_twoTo a1 a2 s0 = some (rR, sR)) : CtI κ yX7_twoTo cX7_twoTo 5 (some .boolean) rm_7_twoTo (NV κ τ) (NV κ τ) [.ref (ad κ.1 19 0), .int a1, .int a2] s0 sR rR := by
  refine ct_I (by decide +kernel) (Nat.le_of_ble_eq_true rfl) (fun φ hc hr => ?_)
  have hc : Cx κ φ RX7 cX7_twoTo 5 rm_7_twoTo := hc
  show G κ φ (QI κ φ (NV κ τ) sR rR rm_7_twoTo.cells rm_7_twoTo.slots) (NV κ τ) 0 0 s0 [(0, .ref (ad κ.1 19 0)), (1, .int a1), (2, .int a2)] 0 []
  unfold f7_twoTo at hf
  refine g_aload_n (i := 0) hc 0 rfl rfl dX7_twoTo_0 (pc2 := 1) rfl ?_
  refine g_iconst (v := (0 : Int32)) hc (by decide) dX7_twoTo_1 (pc2 := 2) rfl ?_
  refine g_iload_n (i := 2) hc 2 rfl rfl dX7_twoTo_2 (pc2 := 3) rfl ?_
  refine g_bipush (v := (10 : Int32)) hc (by decide) dX7_twoTo_3 (pc2 := 5) rfl ?_
  refine g_idiv hc (by decide) dX7_twoTo_5 (pc2 := 6) rfl ?_
  obtain ⟨r1, s1, hp, hf⟩ := bd_some hf
  refine g_vI hc (k7_digitTo hp) co_X7_113 (u19 (by decide)) rfl rfl (by decide) (by decide) (Nat.le_of_ble_eq_true rfl) dX7_twoTo_6 (pc2 := 9) rfl ?_
  refine g_if_ne hc 14 (by decide) dX7_twoTo_9 (pc2 := 12) rfl (fun q => ?_) (fun q => ?_)
  · have hf := ite_f hf q
    refine g_aload_n (i := 0) hc 0 rfl rfl dX7_twoTo_14 (pc2 := 15) rfl ?_
    refine g_geti hc fo_X7_110 (u19 (by decide)) dX7_twoTo_15 (pc2 := 18) rfl ?_
    obtain ⟨x1, hx1, hf⟩ := nm_ex hf
    refine g_nmi hx1 ?_
    refine g_istore_n (i := 3) (L1 := [(3, .int x1), (0, .ref (ad κ.1 19 0)), (1, .int a1), (2, .int a2)]) hc rfl (by decide) rfl dX7_twoTo_18 (pc2 := 19) rfl ?_
    refine g_aload_n (i := 0) hc 1 rfl rfl dX7_twoTo_19 (pc2 := 20) rfl ?_
    refine g_iload_n (i := 3) hc 0 rfl rfl dX7_twoTo_20 (pc2 := 21) rfl ?_
    obtain ⟨j1, hj1, hf⟩ := nm_ex hf
    have Hj1 : ∀ (y1 : Int32) (s2 : Mem), j1 y1 s2 = some (rR, sR) → G κ φ (QI κ φ (NV κ τ) sR rR rm_7_twoTo.cells rm_7_twoTo.slots) (NV κ τ) 0 0 s2 [(0, .ref (ad κ.1 19 0)), (2, .int a2), (3, .int x1)] 29 [.int y1, .ref (ad κ.1 19 0)] := by
      intro y1 s2 hf
      rw [hj1] at hf
      refine g_iload_n (i := 3) hc 2 rfl rfl dX7_twoTo_29 (pc2 := 30) rfl ?_
      refine g_iload_n (i := 2) hc 1 rfl rfl dX7_twoTo_30 (pc2 := 31) rfl ?_
      refine g_bipush (v := (10 : Int32)) hc (by decide) dX7_twoTo_31 (pc2 := 33) rfl ?_
      refine g_idiv hc (by decide) dX7_twoTo_33 (pc2 := 34) rfl ?_
      obtain ⟨j2, hj2, hf⟩ := nm_ex hf
      have Hj2 : ∀ (y2 : Int32) (s3 : Mem), j2 y2 s3 = some (rR, sR) → G κ φ (QI κ φ (NV κ τ) sR rR rm_7_twoTo.cells rm_7_twoTo.slots) (NV κ τ) 0 0 s3 [(0, .ref (ad κ.1 19 0)), (3, .int x1)] 46 [.int y2, .int y1, .ref (ad κ.1 19 0)] := by
        intro y2 s3 hf
        rw [hj2] at hf
        obtain ⟨r2, s4, hp, hf⟩ := bd_some hf
        refine g_vI hc (k7_digitTo hp) co_X7_113 (u19 (by decide)) rfl rfl (by decide) (by decide) (Nat.le_of_ble_eq_true rfl) dX7_twoTo_46 (pc2 := 49) rfl ?_
        refine g_istore (L1 := [(4, .int r2), (0, .ref (ad κ.1 19 0)), (3, .int x1)]) hc (by decide) rfl dX7_twoTo_49 (pc2 := 51) rfl ?_
        refine g_aload_n (i := 0) hc 1 rfl rfl dX7_twoTo_51 (pc2 := 52) rfl ?_
        refine g_dup hc rfl dX7_twoTo_52 (pc2 := 53) rfl ?_
        refine g_geti hc fo_X7_110 (u19 (by decide)) dX7_twoTo_53 (pc2 := 56) rfl ?_
        refine g_bipush (v := (10 : Int32)) hc (by decide) dX7_twoTo_56 (pc2 := 58) rfl ?_
        refine g_iload_n (i := 3) hc 2 rfl rfl dX7_twoTo_58 (pc2 := 59) rfl ?_
        refine g_imul hc dX7_twoTo_59 (pc2 := 60) rfl ?_
        refine g_iadd hc dX7_twoTo_60 (pc2 := 61) rfl ?_
        obtain ⟨s5, hs5, hf⟩ := nm_ex hf
        refine g_puti hc (by decide) fo_X7_110 clO_19 poK_19_11 rfl (u19 (by decide)) rfl rfl dX7_twoTo_61 (pc2 := 64) rfl ?_
        refine g_nms hs5 ?_
        refine g_iload hc 0 rfl dX7_twoTo_64 (pc2 := 66) rfl ?_
        obtain ⟨hg1, hf⟩ := gd_some hf
        exact g_iret hc hf hr (zok_n hg1) (by decide) (by decide) dX7_twoTo_66
      refine g_icmp_ne hc 44 (by decide) dX7_twoTo_34 (pc2 := 37) rfl (fun q => ?_) (fun q => ?_)
      · have hf := ite_f hf q
        refine g_bipush (v := (9 : Int32)) hc (by decide) dX7_twoTo_44 (pc2 := 46) rfl ?_
        refine g_sub [0, 2] rfl ?_
        exact Hj2 _ _ hf
      · have hf := ite_t hf q
        refine g_iload_n (i := 2) hc 1 rfl rfl dX7_twoTo_37 (pc2 := 38) rfl ?_
        refine g_bipush (v := (10 : Int32)) hc (by decide) dX7_twoTo_38 (pc2 := 40) rfl ?_
        refine g_irem hc (by decide) dX7_twoTo_40 (pc2 := 41) rfl ?_
        refine g_goto hc 46 (by decide) dX7_twoTo_41 ?_
        refine g_sub [0, 2] rfl ?_
        exact Hj2 _ _ hf
    refine g_if_ne hc 28 (by decide) dX7_twoTo_21 (pc2 := 24) rfl (fun q => ?_) (fun q => ?_)
    · have hf := ite_f hf q
      refine g_iconst (v := (0 : Int32)) hc (by decide) dX7_twoTo_28 (pc2 := 29) rfl ?_
      refine g_sub [1, 3, 0] rfl ?_
      exact Hj1 _ _ hf
    · have hf := ite_t hf q
      refine g_iload_n (i := 1) hc 2 rfl rfl dX7_twoTo_24 (pc2 := 25) rfl ?_
      refine g_goto hc 29 (by decide) dX7_twoTo_25 ?_
      refine g_sub [1, 3, 0] rfl ?_
      exact Hj1 _ _ hf
  · have hf := ite_t hf q
    refine g_iconst (v := (0 : Int32)) hc (by decide) dX7_twoTo_12 (pc2 := 13) rfl ?_
    exact g_iret hc hf hr rfl (by decide) (by decide) dX7_twoTo_13
def f7_burstPart (a1 : Int32) (s0 : Mem) : Option (Int32 × Mem) :=
  nm (fun (y1 : Int32) (s1 : Mem) => bd (f7_in (y1.toInt64) (0 : Int64) (((s1 65 0 0) - (1 : Int32)).toInt64) s1) fun r1 s2 => (if r1 = (0 : Int32) then some ((0 : Int32), s2) else gd (ib y1 6) ((if (s2 25 0 y1.toNatClampNeg) = (6 : Int32) then some ((0 : Int32), s2) else nm (ms s2 63 0 0 ((s2 63 0 0) + (1 : Int32))) fun s3 => gd (ib y1 6) (gd (ib y1 6) (nm (ms s3 25 0 y1.toNatClampNeg ((s3 25 0 y1.toNatClampNeg) + (1 : Int32))) fun s4 => bd (f7_digitTo (0 : Int32) (3 : Int32) s4) fun r2 s5 => nm (s5 64 0 0) fun x1 => nm (fun (y2 : Int32) (s6 : Mem) => nm (s6 64 0 0) fun x2 => nm (fun (y3 : Int32) (s7 : Mem) => nm (fun (y4 : Int32) (s8 : Mem) => (if y4 = (0 : Int32) then gd (zok y4) (some (y4, s8)) else (if a1 = (0 : Int32) then gd (zok y4) (some (y4, s8)) else nm (fun (y5 : Int32) (s9 : Mem) => bd (f7_sends y1 x1 x2 y5 s9) fun r3 s10 => gd (zok y4) (some (y4, s10))) fun j5 => (if y3 = (0 : Int32) then j5 (0 : Int32) s8 else j5 (1 : Int32) s8)))) fun j4 => nm (fun (s11 : Mem) => j4 (0 : Int32) s11) fun j6 => (if y2 = (0 : Int32) then j6 s7 else nm (fun (s12 : Mem) => j4 (1 : Int32) s12) fun j7 => (if y3 = (0 : Int32) then bd (f7_sign (45 : Int32) s7) fun r4 s13 => (if r4 = (0 : Int32) then j6 s13 else j7 s13) else j7 s7))) fun j3 => nm (fun (s14 : Mem) => j3 (0 : Int32) s14) fun j8 => (if y2 = (0 : Int32) then j8 s6 else bd (f7_sign (43 : Int32) s6) fun r5 s15 => (if r5 = (0 : Int32) then j8 s15 else j3 (1 : Int32) s15))) fun j2 => nm (fun (s16 : Mem) => j2 (0 : Int32) s16) fun j9 => (if r2 = (0 : Int32) then j9 s5 else bd (f7_digitTo (1 : Int32) (8 : Int32) s5) fun r6 s17 => (if r6 = (0 : Int32) then j9 s17 else j2 (1 : Int32) s17)))))))) fun j1 => (if (s0 61 0 0) ≤ (s0 63 0 0) then j1 (-1 : Int32) s0 else gd (ib (s0 63 0 0) 120) (j1 ((s0 24 0 (s0 63 0 0).toNatClampNeg) - (48 : Int32)) s0))
def rm_7_burstPart : Room := { frames := 3, cells := 0, slots := 0, locals := 68 }
set_option maxHeartbeats 4000000 in
set_option maxRecDepth 100000 in
theorem k7_burstPart {κ : Kx} {τ : Nat → Int64} {a1 : Int32} {s0 sR : Mem} {rR : Int32}  (hf : f7_burstPart a1 s0 = some (rR, sR)) : CtI κ yX7_burstPart cX7_burstPart 7 (some .boolean) rm_7_burstPart (NV κ τ) (NV κ τ) [.ref (ad κ.1 19 0), .int a1] s0 sR rR := by
  refine ct_I (by decide +kernel) (Nat.le_of_ble_eq_true rfl) (fun φ hc hr => ?_)
  have hc : Cx κ φ RX7 cX7_burstPart 7 rm_7_burstPart := hc
  show G κ φ (QI κ φ (NV κ τ) sR rR rm_7_burstPart.cells rm_7_burstPart.slots) (NV κ τ) 0 0 s0 [(0, .ref (ad κ.1 19 0)), (1, .int a1)] 0 []
  unfold f7_burstPart at hf
  refine g_aload_n (i := 0) hc 0 rfl rfl dX7_burstPart_0 (pc2 := 1) rfl ?_
  refine g_geti hc fo_X7_107 (u19 (by decide)) dX7_burstPart_1 (pc2 := 4) rfl ?_
  refine g_aload_n (i := 0) hc 0 rfl rfl dX7_burstPart_4 (pc2 := 5) rfl ?_
  refine g_geti hc fo_X7_104 (u19 (by decide)) dX7_burstPart_5 (pc2 := 8) rfl ?_
  obtain ⟨j1, hj1, hf⟩ := nm_ex hf
  have Hj1 : ∀ (y1 : Int32) (s1 : Mem), j1 y1 s1 = some (rR, sR) → G κ φ (QI κ φ (NV κ τ) sR rR rm_7_burstPart.cells rm_7_burstPart.slots) (NV κ τ) 0 0 s1 [(0, .ref (ad κ.1 19 0)), (1, .int a1)] 27 [.int y1] := by
    intro y1 s1 hf
    rw [hj1] at hf
    refine g_istore_n (i := 2) (L1 := [(2, .int y1), (0, .ref (ad κ.1 19 0)), (1, .int a1)]) hc rfl (by decide) rfl dX7_burstPart_27 (pc2 := 28) rfl ?_
    refine g_iload_n (i := 2) hc 0 rfl rfl dX7_burstPart_28 (pc2 := 29) rfl ?_
    refine g_i2l hc dX7_burstPart_29 (pc2 := 30) rfl ?_
    refine g_lconst (v := (0 : Int64)) hc (by decide) dX7_burstPart_30 (pc2 := 31) rfl ?_
    refine g_aload_n (i := 0) hc 1 rfl rfl dX7_burstPart_31 (pc2 := 32) rfl ?_
    refine g_geti hc fo_X7_117 (u19 (by decide)) dX7_burstPart_32 (pc2 := 35) rfl ?_
    refine g_iconst (v := (1 : Int32)) hc (by decide) dX7_burstPart_35 (pc2 := 36) rfl ?_
    refine g_isub hc dX7_burstPart_36 (pc2 := 37) rfl ?_
    refine g_i2l hc dX7_burstPart_37 (pc2 := 38) rfl ?_
    obtain ⟨r1, s2, hp, hf⟩ := bd_some hf
    refine g_sI hc (k7_in hp) co_X7_46 rfl rfl (by decide) (by decide) (Nat.le_of_ble_eq_true rfl) dX7_burstPart_38 (pc2 := 41) rfl ?_
    refine g_if_eq hc 55 (by decide) dX7_burstPart_41 (pc2 := 44) rfl (fun q => ?_) (fun q => ?_)
    · have hf := ite_t hf q
      refine g_iconst (v := (0 : Int32)) hc (by decide) dX7_burstPart_55 (pc2 := 56) rfl ?_
      exact g_iret hc hf hr rfl (by decide) (by decide) dX7_burstPart_56
    · have hf := ite_f hf q
      refine g_aload_n (i := 0) hc 1 rfl rfl dX7_burstPart_44 (pc2 := 45) rfl ?_
      refine g_getr (q := ad κ.1 25 0) hc fo_X7_32 (u19 (by decide)) rfl dX7_burstPart_45 (pc2 := 48) rfl ?_
      refine g_iload_n (i := 2) hc 0 rfl rfl dX7_burstPart_48 (pc2 := 49) rfl ?_
      obtain ⟨hg1, hf⟩ := gd_some hf
      refine g_aldi hc 25 0 rfl (u25 (by decide)) hg1 dX7_burstPart_49 (pc2 := 50) rfl ?_
      refine g_bipush (v := (6 : Int32)) hc (by decide) dX7_burstPart_50 (pc2 := 52) rfl ?_
      refine g_icmp_ne hc 57 (by decide) dX7_burstPart_52 (pc2 := 55) rfl (fun q => ?_) (fun q => ?_)
      · have hf := ite_f hf q
        refine g_aload_n (i := 0) hc 1 rfl rfl dX7_burstPart_57 (pc2 := 58) rfl ?_
        refine g_dup hc rfl dX7_burstPart_58 (pc2 := 59) rfl ?_
        refine g_geti hc fo_X7_107 (u19 (by decide)) dX7_burstPart_59 (pc2 := 62) rfl ?_
        refine g_iconst (v := (1 : Int32)) hc (by decide) dX7_burstPart_62 (pc2 := 63) rfl ?_
        refine g_iadd hc dX7_burstPart_63 (pc2 := 64) rfl ?_
        obtain ⟨s3, hs3, hf⟩ := nm_ex hf
        refine g_puti hc (by decide) fo_X7_107 clO_19 poK_19_10 rfl (u19 (by decide)) rfl rfl dX7_burstPart_64 (pc2 := 67) rfl ?_
        refine g_nms hs3 ?_
        refine g_aload_n (i := 0) hc 1 rfl rfl dX7_burstPart_67 (pc2 := 68) rfl ?_
        refine g_getr (q := ad κ.1 25 0) hc fo_X7_32 (u19 (by decide)) rfl dX7_burstPart_68 (pc2 := 71) rfl ?_
        refine g_iload_n (i := 2) hc 0 rfl rfl dX7_burstPart_71 (pc2 := 72) rfl ?_
        refine g_dup2 hc rfl rfl dX7_burstPart_72 (pc2 := 73) rfl ?_
        obtain ⟨hg2, hf⟩ := gd_some hf
        refine g_aldi hc 25 0 rfl (u25 (by decide)) hg2 dX7_burstPart_73 (pc2 := 74) rfl ?_
        refine g_iconst (v := (1 : Int32)) hc (by decide) dX7_burstPart_74 (pc2 := 75) rfl ?_
        refine g_iadd hc dX7_burstPart_75 (pc2 := 76) rfl ?_
        obtain ⟨hg3, hf⟩ := gd_some hf
        obtain ⟨s4, hs4, hf⟩ := nm_ex hf
        refine g_asti hc 25 0 rfl (u25 (by decide)) hg3 dX7_burstPart_76 (pc2 := 77) rfl ?_
        refine g_nms hs4 ?_
        refine g_aload_n (i := 0) hc 1 rfl rfl dX7_burstPart_77 (pc2 := 78) rfl ?_
        refine g_iconst (v := (0 : Int32)) hc (by decide) dX7_burstPart_78 (pc2 := 79) rfl ?_
        refine g_iconst (v := (3 : Int32)) hc (by decide) dX7_burstPart_79 (pc2 := 80) rfl ?_
        obtain ⟨r2, s5, hp, hf⟩ := bd_some hf
        refine g_vI hc (k7_digitTo hp) co_X7_113 (u19 (by decide)) rfl rfl (by decide) (by decide) (Nat.le_of_ble_eq_true rfl) dX7_burstPart_80 (pc2 := 83) rfl ?_
        refine g_istore_n (i := 3) (L1 := [(3, .int r2), (2, .int y1), (0, .ref (ad κ.1 19 0)), (1, .int a1)]) hc rfl (by decide) rfl dX7_burstPart_83 (pc2 := 84) rfl ?_
        refine g_aload_n (i := 0) hc 2 rfl rfl dX7_burstPart_84 (pc2 := 85) rfl ?_
        refine g_geti hc fo_X7_110 (u19 (by decide)) dX7_burstPart_85 (pc2 := 88) rfl ?_
        obtain ⟨x1, hx1, hf⟩ := nm_ex hf
        refine g_nmi hx1 ?_
        refine g_istore (L1 := [(4, .int x1), (3, .int r2), (2, .int y1), (0, .ref (ad κ.1 19 0)), (1, .int a1)]) hc (by decide) rfl dX7_burstPart_88 (pc2 := 90) rfl ?_
        refine g_iload_n (i := 3) hc 1 rfl rfl dX7_burstPart_90 (pc2 := 91) rfl ?_
        obtain ⟨j2, hj2, hf⟩ := nm_ex hf
        have Hj2 : ∀ (y2 : Int32) (s6 : Mem), j2 y2 s6 = some (rR, sR) → G κ φ (QI κ φ (NV κ τ) sR rR rm_7_burstPart.cells rm_7_burstPart.slots) (NV κ τ) 0 0 s6 [(0, .ref (ad κ.1 19 0)), (1, .int a1), (2, .int y1), (4, .int x1)] 109 [.int y2] := by
          intro y2 s6 hf
          rw [hj2] at hf
          refine g_istore_n (i := 3) (L1 := [(3, .int y2), (0, .ref (ad κ.1 19 0)), (1, .int a1), (2, .int y1), (4, .int x1)]) hc rfl (by decide) rfl dX7_burstPart_109 (pc2 := 110) rfl ?_
          refine g_aload_n (i := 0) hc 1 rfl rfl dX7_burstPart_110 (pc2 := 111) rfl ?_
          refine g_geti hc fo_X7_110 (u19 (by decide)) dX7_burstPart_111 (pc2 := 114) rfl ?_
          obtain ⟨x2, hx2, hf⟩ := nm_ex hf
          refine g_nmi hx2 ?_
          refine g_istore (L1 := [(5, .int x2), (3, .int y2), (0, .ref (ad κ.1 19 0)), (1, .int a1), (2, .int y1), (4, .int x1)]) hc (by decide) rfl dX7_burstPart_114 (pc2 := 116) rfl ?_
          refine g_iload_n (i := 3) hc 1 rfl rfl dX7_burstPart_116 (pc2 := 117) rfl ?_
          obtain ⟨j3, hj3, hf⟩ := nm_ex hf
          have Hj3 : ∀ (y3 : Int32) (s7 : Mem), j3 y3 s7 = some (rR, sR) → G κ φ (QI κ φ (NV κ τ) sR rR rm_7_burstPart.cells rm_7_burstPart.slots) (NV κ τ) 0 0 s7 [(0, .ref (ad κ.1 19 0)), (1, .int a1), (2, .int y1), (3, .int y2), (4, .int x1), (5, .int x2)] 134 [.int y3] := by
            intro y3 s7 hf
            rw [hj3] at hf
            refine g_istore (L1 := [(6, .int y3), (0, .ref (ad κ.1 19 0)), (1, .int a1), (2, .int y1), (3, .int y2), (4, .int x1), (5, .int x2)]) hc (by decide) rfl dX7_burstPart_134 (pc2 := 136) rfl ?_
            refine g_iload_n (i := 3) hc 4 rfl rfl dX7_burstPart_136 (pc2 := 137) rfl ?_
            obtain ⟨j4, hj4, hf⟩ := nm_ex hf
            have Hj4 : ∀ (y4 : Int32) (s8 : Mem), j4 y4 s8 = some (rR, sR) → G κ φ (QI κ φ (NV κ τ) sR rR rm_7_burstPart.cells rm_7_burstPart.slots) (NV κ τ) 0 0 s8 [(0, .ref (ad κ.1 19 0)), (1, .int a1), (2, .int y1), (4, .int x1), (5, .int x2), (6, .int y3)] 159 [.int y4] := by
              intro y4 s8 hf
              rw [hj4] at hf
              refine g_istore_n (i := 3) (L1 := [(3, .int y4), (0, .ref (ad κ.1 19 0)), (1, .int a1), (2, .int y1), (4, .int x1), (5, .int x2), (6, .int y3)]) hc rfl (by decide) rfl dX7_burstPart_159 (pc2 := 160) rfl ?_
              refine g_iload_n (i := 3) hc 0 rfl rfl dX7_burstPart_160 (pc2 := 161) rfl ?_
              refine g_if_eq hc 188 (by decide) dX7_burstPart_161 (pc2 := 164) rfl (fun q => ?_) (fun q => ?_)
              · have hf := ite_t hf q
                refine g_iload_n (i := 3) hc 0 rfl rfl dX7_burstPart_188 (pc2 := 189) rfl ?_
                obtain ⟨hg4, hf⟩ := gd_some hf
                exact g_iret hc hf hr (zok_n hg4) (by decide) (by decide) dX7_burstPart_189
              · have hf := ite_f hf q
                refine g_iload_n (i := 1) hc 2 rfl rfl dX7_burstPart_164 (pc2 := 165) rfl ?_
                refine g_if_eq hc 188 (by decide) dX7_burstPart_165 (pc2 := 168) rfl (fun q => ?_) (fun q => ?_)
                · have hf := ite_t hf q
                  refine g_iload_n (i := 3) hc 0 rfl rfl dX7_burstPart_188 (pc2 := 189) rfl ?_
                  obtain ⟨hg5, hf⟩ := gd_some hf
                  exact g_iret hc hf hr (zok_n hg5) (by decide) (by decide) dX7_burstPart_189
                · have hf := ite_f hf q
                  refine g_aload_n (i := 0) hc 1 rfl rfl dX7_burstPart_168 (pc2 := 169) rfl ?_
                  refine g_iload_n (i := 2) hc 3 rfl rfl dX7_burstPart_169 (pc2 := 170) rfl ?_
                  refine g_iload hc 4 rfl dX7_burstPart_170 (pc2 := 172) rfl ?_
                  refine g_iload hc 5 rfl dX7_burstPart_172 (pc2 := 174) rfl ?_
                  refine g_iload hc 6 rfl dX7_burstPart_174 (pc2 := 176) rfl ?_
                  obtain ⟨j5, hj5, hf⟩ := nm_ex hf
                  have Hj5 : ∀ (y5 : Int32) (s9 : Mem), j5 y5 s9 = some (rR, sR) → G κ φ (QI κ φ (NV κ τ) sR rR rm_7_burstPart.cells rm_7_burstPart.slots) (NV κ τ) 0 0 s9 [(3, .int y4)] 184 [.int y5, .int x2, .int x1, .int y1, .ref (ad κ.1 19 0)] := by
                    intro y5 s9 hf
                    rw [hj5] at hf
                    obtain ⟨r3, s10, hp, hf⟩ := bd_some hf
                    refine g_vI hc (k7_sends hp) co_X7_123 (u19 (by decide)) rfl rfl (by decide) (by decide) (Nat.le_of_ble_eq_true rfl) dX7_burstPart_184 (pc2 := 187) rfl ?_
                    refine g_pop hc rfl dX7_burstPart_187 (pc2 := 188) rfl ?_
                    refine g_iload_n (i := 3) hc 0 rfl rfl dX7_burstPart_188 (pc2 := 189) rfl ?_
                    obtain ⟨hg6, hf⟩ := gd_some hf
                    exact g_iret hc hf hr (zok_n hg6) (by decide) (by decide) dX7_burstPart_189
                  refine g_if_eq hc 183 (by decide) dX7_burstPart_176 (pc2 := 179) rfl (fun q => ?_) (fun q => ?_)
                  · have hf := ite_t hf q
                    refine g_iconst (v := (0 : Int32)) hc (by decide) dX7_burstPart_183 (pc2 := 184) rfl ?_
                    refine g_sub [0] rfl ?_
                    exact Hj5 _ _ hf
                  · have hf := ite_f hf q
                    refine g_iconst (v := (1 : Int32)) hc (by decide) dX7_burstPart_179 (pc2 := 180) rfl ?_
                    refine g_goto hc 184 (by decide) dX7_burstPart_180 ?_
                    refine g_sub [0] rfl ?_
                    exact Hj5 _ _ hf
            obtain ⟨j6, hj6, hf⟩ := nm_ex hf
            have Hj6 : ∀ (s11 : Mem), j6 s11 = some (rR, sR) → G κ φ (QI κ φ (NV κ τ) sR rR rm_7_burstPart.cells rm_7_burstPart.slots) (NV κ τ) 0 0 s11 [(0, .ref (ad κ.1 19 0)), (1, .int a1), (2, .int y1), (4, .int x1), (5, .int x2), (6, .int y3)] 158 [] := by
              intro s11 hf
              rw [hj6] at hf
              refine g_iconst (v := (0 : Int32)) hc (by decide) dX7_burstPart_158 (pc2 := 159) rfl ?_
              exact Hj4 _ _ hf
            refine g_if_eq hc 158 (by decide) dX7_burstPart_137 (pc2 := 140) rfl (fun q => ?_) (fun q => ?_)
            · have hf := ite_t hf q
              refine g_sub [1, 2, 3, 5, 6, 0] rfl ?_
              exact Hj6 _ hf
            · have hf := ite_f hf q
              refine g_iload hc 0 rfl dX7_burstPart_140 (pc2 := 142) rfl ?_
              obtain ⟨j7, hj7, hf⟩ := nm_ex hf
              have Hj7 : ∀ (s12 : Mem), j7 s12 = some (rR, sR) → G κ φ (QI κ φ (NV κ τ) sR rR rm_7_burstPart.cells rm_7_burstPart.slots) (NV κ τ) 0 0 s12 [(0, .ref (ad κ.1 19 0)), (1, .int a1), (2, .int y1), (4, .int x1), (5, .int x2), (6, .int y3)] 154 [] := by
                intro s12 hf
                rw [hj7] at hf
                refine g_iconst (v := (1 : Int32)) hc (by decide) dX7_burstPart_154 (pc2 := 155) rfl ?_
                refine g_goto hc 159 (by decide) dX7_burstPart_155 ?_
                exact Hj4 _ _ hf
              refine g_if_ne hc 154 (by decide) dX7_burstPart_142 (pc2 := 145) rfl (fun q => ?_) (fun q => ?_)
              · have hf := ite_f hf q
                refine g_sub [1, 2, 3, 5, 6, 0] rfl ?_
                exact Hj7 _ hf
              · have hf := ite_t hf q
                refine g_aload_n (i := 0) hc 1 rfl rfl dX7_burstPart_145 (pc2 := 146) rfl ?_
                refine g_bipush (v := (45 : Int32)) hc (by decide) dX7_burstPart_146 (pc2 := 148) rfl ?_
                obtain ⟨r4, s13, hp, hf⟩ := bd_some hf
                refine g_vI hc (k7_sign hp) co_X7_120 (u19 (by decide)) rfl rfl (by decide) (by decide) (Nat.le_of_ble_eq_true rfl) dX7_burstPart_148 (pc2 := 151) rfl ?_
                refine g_if_eq hc 158 (by decide) dX7_burstPart_151 (pc2 := 154) rfl (fun q => ?_) (fun q => ?_)
                · have hf := ite_t hf q
                  refine g_sub [1, 2, 3, 5, 6, 0] rfl ?_
                  exact Hj6 _ hf
                · have hf := ite_f hf q
                  refine g_sub [1, 2, 3, 5, 6, 0] rfl ?_
                  exact Hj7 _ hf
          obtain ⟨j8, hj8, hf⟩ := nm_ex hf
          have Hj8 : ∀ (s14 : Mem), j8 s14 = some (rR, sR) → G κ φ (QI κ φ (NV κ τ) sR rR rm_7_burstPart.cells rm_7_burstPart.slots) (NV κ τ) 0 0 s14 [(0, .ref (ad κ.1 19 0)), (1, .int a1), (2, .int y1), (3, .int y2), (4, .int x1), (5, .int x2)] 133 [] := by
            intro s14 hf
            rw [hj8] at hf
            refine g_iconst (v := (0 : Int32)) hc (by decide) dX7_burstPart_133 (pc2 := 134) rfl ?_
            exact Hj3 _ _ hf
          refine g_if_eq hc 133 (by decide) dX7_burstPart_117 (pc2 := 120) rfl (fun q => ?_) (fun q => ?_)
          · have hf := ite_t hf q
            refine g_sub [2, 3, 4, 1, 5, 0] rfl ?_
            exact Hj8 _ hf
          · have hf := ite_f hf q
            refine g_aload_n (i := 0) hc 2 rfl rfl dX7_burstPart_120 (pc2 := 121) rfl ?_
            refine g_bipush (v := (43 : Int32)) hc (by decide) dX7_burstPart_121 (pc2 := 123) rfl ?_
            obtain ⟨r5, s15, hp, hf⟩ := bd_some hf
            refine g_vI hc (k7_sign hp) co_X7_120 (u19 (by decide)) rfl rfl (by decide) (by decide) (Nat.le_of_ble_eq_true rfl) dX7_burstPart_123 (pc2 := 126) rfl ?_
            refine g_if_eq hc 133 (by decide) dX7_burstPart_126 (pc2 := 129) rfl (fun q => ?_) (fun q => ?_)
            · have hf := ite_t hf q
              refine g_sub [2, 3, 4, 1, 5, 0] rfl ?_
              exact Hj8 _ hf
            · have hf := ite_f hf q
              refine g_iconst (v := (1 : Int32)) hc (by decide) dX7_burstPart_129 (pc2 := 130) rfl ?_
              refine g_goto hc 134 (by decide) dX7_burstPart_130 ?_
              refine g_sub [2, 3, 4, 1, 5, 0] rfl ?_
              exact Hj3 _ _ hf
        obtain ⟨j9, hj9, hf⟩ := nm_ex hf
        have Hj9 : ∀ (s16 : Mem), j9 s16 = some (rR, sR) → G κ φ (QI κ φ (NV κ τ) sR rR rm_7_burstPart.cells rm_7_burstPart.slots) (NV κ τ) 0 0 s16 [(0, .ref (ad κ.1 19 0)), (1, .int a1), (2, .int y1), (4, .int x1)] 108 [] := by
          intro s16 hf
          rw [hj9] at hf
          refine g_iconst (v := (0 : Int32)) hc (by decide) dX7_burstPart_108 (pc2 := 109) rfl ?_
          exact Hj2 _ _ hf
        refine g_if_eq hc 108 (by decide) dX7_burstPart_91 (pc2 := 94) rfl (fun q => ?_) (fun q => ?_)
        · have hf := ite_t hf q
          refine g_sub [3, 4, 2, 0] rfl ?_
          exact Hj9 _ hf
        · have hf := ite_f hf q
          refine g_aload_n (i := 0) hc 3 rfl rfl dX7_burstPart_94 (pc2 := 95) rfl ?_
          refine g_iconst (v := (1 : Int32)) hc (by decide) dX7_burstPart_95 (pc2 := 96) rfl ?_
          refine g_bipush (v := (8 : Int32)) hc (by decide) dX7_burstPart_96 (pc2 := 98) rfl ?_
          obtain ⟨r6, s17, hp, hf⟩ := bd_some hf
          refine g_vI hc (k7_digitTo hp) co_X7_113 (u19 (by decide)) rfl rfl (by decide) (by decide) (Nat.le_of_ble_eq_true rfl) dX7_burstPart_98 (pc2 := 101) rfl ?_
          refine g_if_eq hc 108 (by decide) dX7_burstPart_101 (pc2 := 104) rfl (fun q => ?_) (fun q => ?_)
          · have hf := ite_t hf q
            refine g_sub [3, 4, 2, 0] rfl ?_
            exact Hj9 _ hf
          · have hf := ite_f hf q
            refine g_iconst (v := (1 : Int32)) hc (by decide) dX7_burstPart_104 (pc2 := 105) rfl ?_
            refine g_goto hc 109 (by decide) dX7_burstPart_105 ?_
            refine g_sub [3, 4, 2, 0] rfl ?_
            exact Hj2 _ _ hf
      · have hf := ite_t hf q
        refine g_iconst (v := (0 : Int32)) hc (by decide) dX7_burstPart_55 (pc2 := 56) rfl ?_
        exact g_iret hc hf hr rfl (by decide) (by decide) dX7_burstPart_56
  refine g_icmp_ge hc 26 (by decide) dX7_burstPart_8 (pc2 := 11) rfl (fun q => ?_) (fun q => ?_)
  · have hf := ite_t hf q
    refine g_iconst (v := (-1 : Int32)) hc (by decide) dX7_burstPart_26 (pc2 := 27) rfl ?_
    exact Hj1 _ _ hf
  · have hf := ite_f hf q
    refine g_aload_n (i := 0) hc 0 rfl rfl dX7_burstPart_11 (pc2 := 12) rfl ?_
    refine g_getr (q := ad κ.1 24 0) hc fo_X7_29 (u19 (by decide)) rfl dX7_burstPart_12 (pc2 := 15) rfl ?_
    refine g_aload_n (i := 0) hc 0 rfl rfl dX7_burstPart_15 (pc2 := 16) rfl ?_
    refine g_geti hc fo_X7_107 (u19 (by decide)) dX7_burstPart_16 (pc2 := 19) rfl ?_
    obtain ⟨hg7, hf⟩ := gd_some hf
    refine g_aldi hc 24 0 rfl (u24 (by decide)) hg7 dX7_burstPart_19 (pc2 := 20) rfl ?_
    refine g_bipush (v := (48 : Int32)) hc (by decide) dX7_burstPart_20 (pc2 := 22) rfl ?_
    refine g_isub hc dX7_burstPart_22 (pc2 := 23) rfl ?_
    refine g_goto hc 27 (by decide) dX7_burstPart_23 ?_
    exact Hj1 _ _ hf
def f7_part (a1 : Int32) (s0 : Mem) : Option (Int32 × Mem) :=
  bd (f7_sign (111 : Int32) s0) fun r1 s1 => (if r1 = (0 : Int32) then bd (f7_sign (108 : Int32) s1) fun r2 s2 => (if r2 = (0 : Int32) then bd (f7_sign (99 : Int32) s2) fun r3 s3 => (if r3 = (0 : Int32) then bd (f7_sign (98 : Int32) s3) fun r4 s4 => nm (fun (s5 : Mem) => some ((0 : Int32), s5)) fun j1 => (if r4 = (0 : Int32) then j1 s4 else bd (f7_burstPart a1 s4) fun r5 s6 => (if r5 = (0 : Int32) then j1 s6 else some ((1 : Int32), s6))) else bd (f7_digitTo (0 : Int32) (9 : Int32) s3) fun r6 s7 => nm (fun (y1 : Int32) (s8 : Mem) => nm (ms s8 20 0 (4 : Int32).toNatClampNeg y1) fun s9 => gd (zok r6) (some (r6, s9))) fun j2 => nm (fun (s10 : Mem) => j2 (s10 20 0 ((4 : Int32)).toNatClampNeg) s10) fun j3 => (if r6 = (0 : Int32) then j3 s7 else (if a1 = (0 : Int32) then j3 s7 else j2 (s7 64 0 0) s7))) else bd (f7_digitTo (0 : Int32) (3 : Int32) s2) fun r7 s11 => nm (s11 64 0 0) fun x1 => nm (fun (y2 : Int32) (s12 : Mem) => nm (fun (y3 : Int32) (s13 : Mem) => nm (fun (y4 : Int32) (s14 : Mem) => gd (ib ((7 : Int32) + y3) 291) (nm (ms s14 20 0 ((7 : Int32) + y3).toNatClampNeg y4) fun s15 => gd (zok y2) (some (y2, s15)))) fun j6 => nm (fun (s16 : Mem) => j6 (s16 20 0 ((7 : Int32)).toNatClampNeg) s16) fun j7 => (if y2 = (0 : Int32) then j7 s13 else (if a1 = (0 : Int32) then j7 s13 else j6 (s13 64 0 0) s13))) fun j5 => nm (fun (s17 : Mem) => j5 (0 : Int32) s17) fun j8 => (if y2 = (0 : Int32) then j8 s12 else (if a1 = (0 : Int32) then j8 s12 else j5 x1 s12))) fun j4 => nm (fun (s18 : Mem) => j4 (0 : Int32) s18) fun j9 => (if r7 = (0 : Int32) then j9 s11 else bd (f7_digitTo (0 : Int32) (9 : Int32) s11) fun r8 s19 => (if r8 = (0 : Int32) then j9 s19 else j4 (1 : Int32) s19))) else bd (f7_twoTo (0 : Int32) ((s1 66 0 0) - (1 : Int32)) s1) fun r9 s20 => nm (s20 64 0 0) fun x2 => nm (fun (y5 : Int32) (s21 : Mem) => nm (fun (y6 : Int32) (s22 : Mem) => nm (fun (y7 : Int32) (s23 : Mem) => gd (ib ((11 : Int32) + y6) 291) (nm (ms s23 20 0 ((11 : Int32) + y6).toNatClampNeg y7) fun s24 => gd (zok y5) (some (y5, s24)))) fun j12 => nm (fun (s25 : Mem) => j12 (s25 20 0 ((11 : Int32)).toNatClampNeg) s25) fun j13 => (if y5 = (0 : Int32) then j13 s22 else (if a1 = (0 : Int32) then j13 s22 else j12 (s22 64 0 0) s22))) fun j11 => nm (fun (s26 : Mem) => j11 (0 : Int32) s26) fun j14 => (if y5 = (0 : Int32) then j14 s21 else (if a1 = (0 : Int32) then j14 s21 else j11 x2 s21))) fun j10 => nm (fun (s27 : Mem) => j10 (0 : Int32) s27) fun j15 => (if r9 = (0 : Int32) then j15 s20 else bd (f7_digitTo (0 : Int32) ((s20 65 0 0) - (1 : Int32)) s20) fun r10 s28 => (if r10 = (0 : Int32) then j15 s28 else j10 (1 : Int32) s28)))
def rm_7_part : Room := { frames := 4, cells := 0, slots := 0, locals := 94 }
set_option maxHeartbeats 4000000 in
set_option maxRecDepth 100000 in
theorem k7_part {κ : Kx} {τ : Nat → Int64} {a1 : Int32} {s0 sR : Mem} {rR : Int32}  (hf : f7_part a1 s0 = some (rR, sR)) : CtI κ yX7_part cX7_part 4 (some .boolean) rm_7_part (NV κ τ) (NV κ τ) [.ref (ad κ.1 19 0), .int a1] s0 sR rR := by
  refine ct_I (by decide +kernel) (Nat.le_of_ble_eq_true rfl) (fun φ hc hr => ?_)
  have hc : Cx κ φ RX7 cX7_part 4 rm_7_part := hc
  show G κ φ (QI κ φ (NV κ τ) sR rR rm_7_part.cells rm_7_part.slots) (NV κ τ) 0 0 s0 [(0, .ref (ad κ.1 19 0)), (1, .int a1)] 0 []
  unfold f7_part at hf
  refine g_aload_n (i := 0) hc 0 rfl rfl dX7_part_0 (pc2 := 1) rfl ?_
  refine g_bipush (v := (111 : Int32)) hc (by decide) dX7_part_1 (pc2 := 3) rfl ?_
  obtain ⟨r1, s1, hp, hf⟩ := bd_some hf
  refine g_vI hc (k7_sign hp) co_X7_120 (u19 (by decide)) rfl rfl (by decide) (by decide) (Nat.le_of_ble_eq_true rfl) dX7_part_3 (pc2 := 6) rfl ?_
  refine g_if_eq hc 95 (by decide) dX7_part_6 (pc2 := 9) rfl (fun q => ?_) (fun q => ?_)
  · have hf := ite_t hf q
    refine g_aload_n (i := 0) hc 0 rfl rfl dX7_part_95 (pc2 := 96) rfl ?_
    refine g_bipush (v := (108 : Int32)) hc (by decide) dX7_part_96 (pc2 := 98) rfl ?_
    obtain ⟨r2, s2, hp, hf⟩ := bd_some hf
    refine g_vI hc (k7_sign hp) co_X7_120 (u19 (by decide)) rfl rfl (by decide) (by decide) (Nat.le_of_ble_eq_true rfl) dX7_part_98 (pc2 := 101) rfl ?_
    refine g_if_eq hc 181 (by decide) dX7_part_101 (pc2 := 104) rfl (fun q => ?_) (fun q => ?_)
    · have hf := ite_t hf q
      refine g_aload_n (i := 0) hc 0 rfl rfl dX7_part_181 (pc2 := 182) rfl ?_
      refine g_bipush (v := (99 : Int32)) hc (by decide) dX7_part_182 (pc2 := 184) rfl ?_
      obtain ⟨r3, s3, hp, hf⟩ := bd_some hf
      refine g_vI hc (k7_sign hp) co_X7_120 (u19 (by decide)) rfl rfl (by decide) (by decide) (Nat.le_of_ble_eq_true rfl) dX7_part_184 (pc2 := 187) rfl ?_
      refine g_if_eq hc 227 (by decide) dX7_part_187 (pc2 := 190) rfl (fun q => ?_) (fun q => ?_)
      · have hf := ite_t hf q
        refine g_aload_n (i := 0) hc 0 rfl rfl dX7_part_227 (pc2 := 228) rfl ?_
        refine g_bipush (v := (98 : Int32)) hc (by decide) dX7_part_228 (pc2 := 230) rfl ?_
        obtain ⟨r4, s4, hp, hf⟩ := bd_some hf
        refine g_vI hc (k7_sign hp) co_X7_120 (u19 (by decide)) rfl rfl (by decide) (by decide) (Nat.le_of_ble_eq_true rfl) dX7_part_230 (pc2 := 233) rfl ?_
        obtain ⟨j1, hj1, hf⟩ := nm_ex hf
        have Hj1 : ∀ (s5 : Mem), j1 s5 = some (rR, sR) → G κ φ (QI κ φ (NV κ τ) sR rR rm_7_part.cells rm_7_part.slots) (NV κ τ) 0 0 s5 [] 248 [] := by
          intro s5 hf
          rw [hj1] at hf
          refine g_iconst (v := (0 : Int32)) hc (by decide) dX7_part_248 (pc2 := 249) rfl ?_
          exact g_iret hc hf hr rfl (by decide) (by decide) dX7_part_249
        refine g_if_eq hc 248 (by decide) dX7_part_233 (pc2 := 236) rfl (fun q => ?_) (fun q => ?_)
        · have hf := ite_t hf q
          refine g_sub [] rfl ?_
          exact Hj1 _ hf
        · have hf := ite_f hf q
          refine g_aload_n (i := 0) hc 0 rfl rfl dX7_part_236 (pc2 := 237) rfl ?_
          refine g_iload_n (i := 1) hc 1 rfl rfl dX7_part_237 (pc2 := 238) rfl ?_
          obtain ⟨r5, s6, hp, hf⟩ := bd_some hf
          refine g_vI hc (k7_burstPart hp) co_X7_133 (u19 (by decide)) rfl rfl (by decide) (by decide) (Nat.le_of_ble_eq_true rfl) dX7_part_238 (pc2 := 241) rfl ?_
          refine g_if_eq hc 248 (by decide) dX7_part_241 (pc2 := 244) rfl (fun q => ?_) (fun q => ?_)
          · have hf := ite_t hf q
            refine g_sub [] rfl ?_
            exact Hj1 _ hf
          · have hf := ite_f hf q
            refine g_iconst (v := (1 : Int32)) hc (by decide) dX7_part_244 (pc2 := 245) rfl ?_
            refine g_goto hc 249 (by decide) dX7_part_245 ?_
            exact g_iret hc hf hr rfl (by decide) (by decide) dX7_part_249
      · have hf := ite_f hf q
        refine g_aload_n (i := 0) hc 0 rfl rfl dX7_part_190 (pc2 := 191) rfl ?_
        refine g_iconst (v := (0 : Int32)) hc (by decide) dX7_part_191 (pc2 := 192) rfl ?_
        refine g_bipush (v := (9 : Int32)) hc (by decide) dX7_part_192 (pc2 := 194) rfl ?_
        obtain ⟨r6, s7, hp, hf⟩ := bd_some hf
        refine g_vI hc (k7_digitTo hp) co_X7_113 (u19 (by decide)) rfl rfl (by decide) (by decide) (Nat.le_of_ble_eq_true rfl) dX7_part_194 (pc2 := 197) rfl ?_
        refine g_istore_n (i := 2) (L1 := [(2, .int r6), (0, .ref (ad κ.1 19 0)), (1, .int a1)]) hc rfl (by decide) rfl dX7_part_197 (pc2 := 198) rfl ?_
        refine g_aload_n (i := 0) hc 1 rfl rfl dX7_part_198 (pc2 := 199) rfl ?_
        refine g_getr (q := ad κ.1 20 0) hc fo_X7_7 (u19 (by decide)) rfl dX7_part_199 (pc2 := 202) rfl ?_
        refine g_iconst (v := (4 : Int32)) hc (by decide) dX7_part_202 (pc2 := 203) rfl ?_
        refine g_iload_n (i := 2) hc 0 rfl rfl dX7_part_203 (pc2 := 204) rfl ?_
        obtain ⟨j2, hj2, hf⟩ := nm_ex hf
        have Hj2 : ∀ (y1 : Int32) (s8 : Mem), j2 y1 s8 = some (rR, sR) → G κ φ (QI κ φ (NV κ τ) sR rR rm_7_part.cells rm_7_part.slots) (NV κ τ) 0 0 s8 [(2, .int r6)] 224 [.int y1, .int (4 : Int32), .ref (ad κ.1 20 0)] := by
          intro y1 s8 hf
          rw [hj2] at hf
          obtain ⟨s9, hs9, hf⟩ := nm_ex hf
          refine g_asti hc 20 0 rfl (u20 (by decide)) (by decide) dX7_part_224 (pc2 := 225) rfl ?_
          refine g_nms hs9 ?_
          refine g_iload_n (i := 2) hc 0 rfl rfl dX7_part_225 (pc2 := 226) rfl ?_
          obtain ⟨hg1, hf⟩ := gd_some hf
          exact g_iret hc hf hr (zok_n hg1) (by decide) (by decide) dX7_part_226
        obtain ⟨j3, hj3, hf⟩ := nm_ex hf
        have Hj3 : ∀ (s10 : Mem), j3 s10 = some (rR, sR) → G κ φ (QI κ φ (NV κ τ) sR rR rm_7_part.cells rm_7_part.slots) (NV κ τ) 0 0 s10 [(0, .ref (ad κ.1 19 0)), (2, .int r6)] 218 [.int (4 : Int32), .ref (ad κ.1 20 0)] := by
          intro s10 hf
          rw [hj3] at hf
          refine g_aload_n (i := 0) hc 0 rfl rfl dX7_part_218 (pc2 := 219) rfl ?_
          refine g_getr (q := ad κ.1 20 0) hc fo_X7_7 (u19 (by decide)) rfl dX7_part_219 (pc2 := 222) rfl ?_
          refine g_iconst (v := (4 : Int32)) hc (by decide) dX7_part_222 (pc2 := 223) rfl ?_
          refine g_aldi hc 20 0 rfl (u20 (by decide)) (by decide) dX7_part_223 (pc2 := 224) rfl ?_
          refine g_sub [1] rfl ?_
          exact Hj2 _ _ hf
        refine g_if_eq hc 218 (by decide) dX7_part_204 (pc2 := 207) rfl (fun q => ?_) (fun q => ?_)
        · have hf := ite_t hf q
          refine g_sub [1, 0] rfl ?_
          exact Hj3 _ hf
        · have hf := ite_f hf q
          refine g_iload_n (i := 1) hc 2 rfl rfl dX7_part_207 (pc2 := 208) rfl ?_
          refine g_if_eq hc 218 (by decide) dX7_part_208 (pc2 := 211) rfl (fun q => ?_) (fun q => ?_)
          · have hf := ite_t hf q
            refine g_sub [1, 0] rfl ?_
            exact Hj3 _ hf
          · have hf := ite_f hf q
            refine g_aload_n (i := 0) hc 1 rfl rfl dX7_part_211 (pc2 := 212) rfl ?_
            refine g_geti hc fo_X7_110 (u19 (by decide)) dX7_part_212 (pc2 := 215) rfl ?_
            refine g_goto hc 224 (by decide) dX7_part_215 ?_
            refine g_sub [0] rfl ?_
            exact Hj2 _ _ hf
    · have hf := ite_f hf q
      refine g_aload_n (i := 0) hc 0 rfl rfl dX7_part_104 (pc2 := 105) rfl ?_
      refine g_iconst (v := (0 : Int32)) hc (by decide) dX7_part_105 (pc2 := 106) rfl ?_
      refine g_iconst (v := (3 : Int32)) hc (by decide) dX7_part_106 (pc2 := 107) rfl ?_
      obtain ⟨r7, s11, hp, hf⟩ := bd_some hf
      refine g_vI hc (k7_digitTo hp) co_X7_113 (u19 (by decide)) rfl rfl (by decide) (by decide) (Nat.le_of_ble_eq_true rfl) dX7_part_107 (pc2 := 110) rfl ?_
      refine g_istore_n (i := 2) (L1 := [(2, .int r7), (0, .ref (ad κ.1 19 0)), (1, .int a1)]) hc rfl (by decide) rfl dX7_part_110 (pc2 := 111) rfl ?_
      refine g_aload_n (i := 0) hc 1 rfl rfl dX7_part_111 (pc2 := 112) rfl ?_
      refine g_geti hc fo_X7_110 (u19 (by decide)) dX7_part_112 (pc2 := 115) rfl ?_
      obtain ⟨x1, hx1, hf⟩ := nm_ex hf
      refine g_nmi hx1 ?_
      refine g_istore_n (i := 3) (L1 := [(3, .int x1), (2, .int r7), (0, .ref (ad κ.1 19 0)), (1, .int a1)]) hc rfl (by decide) rfl dX7_part_115 (pc2 := 116) rfl ?_
      refine g_iload_n (i := 2) hc 1 rfl rfl dX7_part_116 (pc2 := 117) rfl ?_
      obtain ⟨j4, hj4, hf⟩ := nm_ex hf
      have Hj4 : ∀ (y2 : Int32) (s12 : Mem), j4 y2 s12 = some (rR, sR) → G κ φ (QI κ φ (NV κ τ) sR rR rm_7_part.cells rm_7_part.slots) (NV κ τ) 0 0 s12 [(0, .ref (ad κ.1 19 0)), (1, .int a1), (3, .int x1)] 135 [.int y2] := by
        intro y2 s12 hf
        rw [hj4] at hf
        refine g_istore_n (i := 2) (L1 := [(2, .int y2), (0, .ref (ad κ.1 19 0)), (1, .int a1), (3, .int x1)]) hc rfl (by decide) rfl dX7_part_135 (pc2 := 136) rfl ?_
        refine g_aload_n (i := 0) hc 1 rfl rfl dX7_part_136 (pc2 := 137) rfl ?_
        refine g_getr (q := ad κ.1 20 0) hc fo_X7_7 (u19 (by decide)) rfl dX7_part_137 (pc2 := 140) rfl ?_
        refine g_bipush (v := (7 : Int32)) hc (by decide) dX7_part_140 (pc2 := 142) rfl ?_
        refine g_iload_n (i := 2) hc 0 rfl rfl dX7_part_142 (pc2 := 143) rfl ?_
        obtain ⟨j5, hj5, hf⟩ := nm_ex hf
        have Hj5 : ∀ (y3 : Int32) (s13 : Mem), j5 y3 s13 = some (rR, sR) → G κ φ (QI κ φ (NV κ τ) sR rR rm_7_part.cells rm_7_part.slots) (NV κ τ) 0 0 s13 [(0, .ref (ad κ.1 19 0)), (1, .int a1), (2, .int y2)] 155 [.int y3, .int (7 : Int32), .ref (ad κ.1 20 0)] := by
          intro y3 s13 hf
          rw [hj5] at hf
          refine g_iadd hc dX7_part_155 (pc2 := 156) rfl ?_
          refine g_iload_n (i := 2) hc 2 rfl rfl dX7_part_156 (pc2 := 157) rfl ?_
          obtain ⟨j6, hj6, hf⟩ := nm_ex hf
          have Hj6 : ∀ (y4 : Int32) (s14 : Mem), j6 y4 s14 = some (rR, sR) → G κ φ (QI κ φ (NV κ τ) sR rR rm_7_part.cells rm_7_part.slots) (NV κ τ) 0 0 s14 [(2, .int y2)] 178 [.int y4, .int ((7 : Int32) + y3), .ref (ad κ.1 20 0)] := by
            intro y4 s14 hf
            rw [hj6] at hf
            obtain ⟨hg2, hf⟩ := gd_some hf
            obtain ⟨s15, hs15, hf⟩ := nm_ex hf
            refine g_asti hc 20 0 rfl (u20 (by decide)) hg2 dX7_part_178 (pc2 := 179) rfl ?_
            refine g_nms hs15 ?_
            refine g_iload_n (i := 2) hc 0 rfl rfl dX7_part_179 (pc2 := 180) rfl ?_
            obtain ⟨hg3, hf⟩ := gd_some hf
            exact g_iret hc hf hr (zok_n hg3) (by decide) (by decide) dX7_part_180
          obtain ⟨j7, hj7, hf⟩ := nm_ex hf
          have Hj7 : ∀ (s16 : Mem), j7 s16 = some (rR, sR) → G κ φ (QI κ φ (NV κ τ) sR rR rm_7_part.cells rm_7_part.slots) (NV κ τ) 0 0 s16 [(0, .ref (ad κ.1 19 0)), (2, .int y2)] 171 [.int ((7 : Int32) + y3), .ref (ad κ.1 20 0)] := by
            intro s16 hf
            rw [hj7] at hf
            refine g_aload_n (i := 0) hc 0 rfl rfl dX7_part_171 (pc2 := 172) rfl ?_
            refine g_getr (q := ad κ.1 20 0) hc fo_X7_7 (u19 (by decide)) rfl dX7_part_172 (pc2 := 175) rfl ?_
            refine g_bipush (v := (7 : Int32)) hc (by decide) dX7_part_175 (pc2 := 177) rfl ?_
            refine g_aldi hc 20 0 rfl (u20 (by decide)) (by decide) dX7_part_177 (pc2 := 178) rfl ?_
            refine g_sub [1] rfl ?_
            exact Hj6 _ _ hf
          refine g_if_eq hc 171 (by decide) dX7_part_157 (pc2 := 160) rfl (fun q => ?_) (fun q => ?_)
          · have hf := ite_t hf q
            refine g_sub [0, 2] rfl ?_
            exact Hj7 _ hf
          · have hf := ite_f hf q
            refine g_iload_n (i := 1) hc 1 rfl rfl dX7_part_160 (pc2 := 161) rfl ?_
            refine g_if_eq hc 171 (by decide) dX7_part_161 (pc2 := 164) rfl (fun q => ?_) (fun q => ?_)
            · have hf := ite_t hf q
              refine g_sub [0, 2] rfl ?_
              exact Hj7 _ hf
            · have hf := ite_f hf q
              refine g_aload_n (i := 0) hc 0 rfl rfl dX7_part_164 (pc2 := 165) rfl ?_
              refine g_geti hc fo_X7_110 (u19 (by decide)) dX7_part_165 (pc2 := 168) rfl ?_
              refine g_goto hc 178 (by decide) dX7_part_168 ?_
              refine g_sub [2] rfl ?_
              exact Hj6 _ _ hf
        obtain ⟨j8, hj8, hf⟩ := nm_ex hf
        have Hj8 : ∀ (s17 : Mem), j8 s17 = some (rR, sR) → G κ φ (QI κ φ (NV κ τ) sR rR rm_7_part.cells rm_7_part.slots) (NV κ τ) 0 0 s17 [(0, .ref (ad κ.1 19 0)), (1, .int a1), (2, .int y2)] 154 [.int (7 : Int32), .ref (ad κ.1 20 0)] := by
          intro s17 hf
          rw [hj8] at hf
          refine g_iconst (v := (0 : Int32)) hc (by decide) dX7_part_154 (pc2 := 155) rfl ?_
          exact Hj5 _ _ hf
        refine g_if_eq hc 154 (by decide) dX7_part_143 (pc2 := 146) rfl (fun q => ?_) (fun q => ?_)
        · have hf := ite_t hf q
          refine g_sub [1, 2, 0] rfl ?_
          exact Hj8 _ hf
        · have hf := ite_f hf q
          refine g_iload_n (i := 1) hc 2 rfl rfl dX7_part_146 (pc2 := 147) rfl ?_
          refine g_if_eq hc 154 (by decide) dX7_part_147 (pc2 := 150) rfl (fun q => ?_) (fun q => ?_)
          · have hf := ite_t hf q
            refine g_sub [1, 2, 0] rfl ?_
            exact Hj8 _ hf
          · have hf := ite_f hf q
            refine g_iload_n (i := 3) hc 3 rfl rfl dX7_part_150 (pc2 := 151) rfl ?_
            refine g_goto hc 155 (by decide) dX7_part_151 ?_
            refine g_sub [1, 2, 0] rfl ?_
            exact Hj5 _ _ hf
      obtain ⟨j9, hj9, hf⟩ := nm_ex hf
      have Hj9 : ∀ (s18 : Mem), j9 s18 = some (rR, sR) → G κ φ (QI κ φ (NV κ τ) sR rR rm_7_part.cells rm_7_part.slots) (NV κ τ) 0 0 s18 [(0, .ref (ad κ.1 19 0)), (1, .int a1), (3, .int x1)] 134 [] := by
        intro s18 hf
        rw [hj9] at hf
        refine g_iconst (v := (0 : Int32)) hc (by decide) dX7_part_134 (pc2 := 135) rfl ?_
        exact Hj4 _ _ hf
      refine g_if_eq hc 134 (by decide) dX7_part_117 (pc2 := 120) rfl (fun q => ?_) (fun q => ?_)
      · have hf := ite_t hf q
        refine g_sub [2, 3, 0] rfl ?_
        exact Hj9 _ hf
      · have hf := ite_f hf q
        refine g_aload_n (i := 0) hc 2 rfl rfl dX7_part_120 (pc2 := 121) rfl ?_
        refine g_iconst (v := (0 : Int32)) hc (by decide) dX7_part_121 (pc2 := 122) rfl ?_
        refine g_bipush (v := (9 : Int32)) hc (by decide) dX7_part_122 (pc2 := 124) rfl ?_
        obtain ⟨r8, s19, hp, hf⟩ := bd_some hf
        refine g_vI hc (k7_digitTo hp) co_X7_113 (u19 (by decide)) rfl rfl (by decide) (by decide) (Nat.le_of_ble_eq_true rfl) dX7_part_124 (pc2 := 127) rfl ?_
        refine g_if_eq hc 134 (by decide) dX7_part_127 (pc2 := 130) rfl (fun q => ?_) (fun q => ?_)
        · have hf := ite_t hf q
          refine g_sub [2, 3, 0] rfl ?_
          exact Hj9 _ hf
        · have hf := ite_f hf q
          refine g_iconst (v := (1 : Int32)) hc (by decide) dX7_part_130 (pc2 := 131) rfl ?_
          refine g_goto hc 135 (by decide) dX7_part_131 ?_
          refine g_sub [2, 3, 0] rfl ?_
          exact Hj4 _ _ hf
  · have hf := ite_f hf q
    refine g_aload_n (i := 0) hc 0 rfl rfl dX7_part_9 (pc2 := 10) rfl ?_
    refine g_iconst (v := (0 : Int32)) hc (by decide) dX7_part_10 (pc2 := 11) rfl ?_
    refine g_aload_n (i := 0) hc 0 rfl rfl dX7_part_11 (pc2 := 12) rfl ?_
    refine g_geti hc fo_X7_127 (u19 (by decide)) dX7_part_12 (pc2 := 15) rfl ?_
    refine g_iconst (v := (1 : Int32)) hc (by decide) dX7_part_15 (pc2 := 16) rfl ?_
    refine g_isub hc dX7_part_16 (pc2 := 17) rfl ?_
    obtain ⟨r9, s20, hp, hf⟩ := bd_some hf
    refine g_vI hc (k7_twoTo hp) co_X7_130 (u19 (by decide)) rfl rfl (by decide) (by decide) (Nat.le_of_ble_eq_true rfl) dX7_part_17 (pc2 := 20) rfl ?_
    refine g_istore_n (i := 2) (L1 := [(2, .int r9), (0, .ref (ad κ.1 19 0)), (1, .int a1)]) hc rfl (by decide) rfl dX7_part_20 (pc2 := 21) rfl ?_
    refine g_aload_n (i := 0) hc 1 rfl rfl dX7_part_21 (pc2 := 22) rfl ?_
    refine g_geti hc fo_X7_110 (u19 (by decide)) dX7_part_22 (pc2 := 25) rfl ?_
    obtain ⟨x2, hx2, hf⟩ := nm_ex hf
    refine g_nmi hx2 ?_
    refine g_istore_n (i := 3) (L1 := [(3, .int x2), (2, .int r9), (0, .ref (ad κ.1 19 0)), (1, .int a1)]) hc rfl (by decide) rfl dX7_part_25 (pc2 := 26) rfl ?_
    refine g_iload_n (i := 2) hc 1 rfl rfl dX7_part_26 (pc2 := 27) rfl ?_
    obtain ⟨j10, hj10, hf⟩ := nm_ex hf
    have Hj10 : ∀ (y5 : Int32) (s21 : Mem), j10 y5 s21 = some (rR, sR) → G κ φ (QI κ φ (NV κ τ) sR rR rm_7_part.cells rm_7_part.slots) (NV κ τ) 0 0 s21 [(0, .ref (ad κ.1 19 0)), (1, .int a1), (3, .int x2)] 49 [.int y5] := by
      intro y5 s21 hf
      rw [hj10] at hf
      refine g_istore_n (i := 2) (L1 := [(2, .int y5), (0, .ref (ad κ.1 19 0)), (1, .int a1), (3, .int x2)]) hc rfl (by decide) rfl dX7_part_49 (pc2 := 50) rfl ?_
      refine g_aload_n (i := 0) hc 1 rfl rfl dX7_part_50 (pc2 := 51) rfl ?_
      refine g_getr (q := ad κ.1 20 0) hc fo_X7_7 (u19 (by decide)) rfl dX7_part_51 (pc2 := 54) rfl ?_
      refine g_bipush (v := (11 : Int32)) hc (by decide) dX7_part_54 (pc2 := 56) rfl ?_
      refine g_iload_n (i := 2) hc 0 rfl rfl dX7_part_56 (pc2 := 57) rfl ?_
      obtain ⟨j11, hj11, hf⟩ := nm_ex hf
      have Hj11 : ∀ (y6 : Int32) (s22 : Mem), j11 y6 s22 = some (rR, sR) → G κ φ (QI κ φ (NV κ τ) sR rR rm_7_part.cells rm_7_part.slots) (NV κ τ) 0 0 s22 [(0, .ref (ad κ.1 19 0)), (1, .int a1), (2, .int y5)] 69 [.int y6, .int (11 : Int32), .ref (ad κ.1 20 0)] := by
        intro y6 s22 hf
        rw [hj11] at hf
        refine g_iadd hc dX7_part_69 (pc2 := 70) rfl ?_
        refine g_iload_n (i := 2) hc 2 rfl rfl dX7_part_70 (pc2 := 71) rfl ?_
        obtain ⟨j12, hj12, hf⟩ := nm_ex hf
        have Hj12 : ∀ (y7 : Int32) (s23 : Mem), j12 y7 s23 = some (rR, sR) → G κ φ (QI κ φ (NV κ τ) sR rR rm_7_part.cells rm_7_part.slots) (NV κ τ) 0 0 s23 [(2, .int y5)] 92 [.int y7, .int ((11 : Int32) + y6), .ref (ad κ.1 20 0)] := by
          intro y7 s23 hf
          rw [hj12] at hf
          obtain ⟨hg4, hf⟩ := gd_some hf
          obtain ⟨s24, hs24, hf⟩ := nm_ex hf
          refine g_asti hc 20 0 rfl (u20 (by decide)) hg4 dX7_part_92 (pc2 := 93) rfl ?_
          refine g_nms hs24 ?_
          refine g_iload_n (i := 2) hc 0 rfl rfl dX7_part_93 (pc2 := 94) rfl ?_
          obtain ⟨hg5, hf⟩ := gd_some hf
          exact g_iret hc hf hr (zok_n hg5) (by decide) (by decide) dX7_part_94
        obtain ⟨j13, hj13, hf⟩ := nm_ex hf
        have Hj13 : ∀ (s25 : Mem), j13 s25 = some (rR, sR) → G κ φ (QI κ φ (NV κ τ) sR rR rm_7_part.cells rm_7_part.slots) (NV κ τ) 0 0 s25 [(0, .ref (ad κ.1 19 0)), (2, .int y5)] 85 [.int ((11 : Int32) + y6), .ref (ad κ.1 20 0)] := by
          intro s25 hf
          rw [hj13] at hf
          refine g_aload_n (i := 0) hc 0 rfl rfl dX7_part_85 (pc2 := 86) rfl ?_
          refine g_getr (q := ad κ.1 20 0) hc fo_X7_7 (u19 (by decide)) rfl dX7_part_86 (pc2 := 89) rfl ?_
          refine g_bipush (v := (11 : Int32)) hc (by decide) dX7_part_89 (pc2 := 91) rfl ?_
          refine g_aldi hc 20 0 rfl (u20 (by decide)) (by decide) dX7_part_91 (pc2 := 92) rfl ?_
          refine g_sub [1] rfl ?_
          exact Hj12 _ _ hf
        refine g_if_eq hc 85 (by decide) dX7_part_71 (pc2 := 74) rfl (fun q => ?_) (fun q => ?_)
        · have hf := ite_t hf q
          refine g_sub [0, 2] rfl ?_
          exact Hj13 _ hf
        · have hf := ite_f hf q
          refine g_iload_n (i := 1) hc 1 rfl rfl dX7_part_74 (pc2 := 75) rfl ?_
          refine g_if_eq hc 85 (by decide) dX7_part_75 (pc2 := 78) rfl (fun q => ?_) (fun q => ?_)
          · have hf := ite_t hf q
            refine g_sub [0, 2] rfl ?_
            exact Hj13 _ hf
          · have hf := ite_f hf q
            refine g_aload_n (i := 0) hc 0 rfl rfl dX7_part_78 (pc2 := 79) rfl ?_
            refine g_geti hc fo_X7_110 (u19 (by decide)) dX7_part_79 (pc2 := 82) rfl ?_
            refine g_goto hc 92 (by decide) dX7_part_82 ?_
            refine g_sub [2] rfl ?_
            exact Hj12 _ _ hf
      obtain ⟨j14, hj14, hf⟩ := nm_ex hf
      have Hj14 : ∀ (s26 : Mem), j14 s26 = some (rR, sR) → G κ φ (QI κ φ (NV κ τ) sR rR rm_7_part.cells rm_7_part.slots) (NV κ τ) 0 0 s26 [(0, .ref (ad κ.1 19 0)), (1, .int a1), (2, .int y5)] 68 [.int (11 : Int32), .ref (ad κ.1 20 0)] := by
        intro s26 hf
        rw [hj14] at hf
        refine g_iconst (v := (0 : Int32)) hc (by decide) dX7_part_68 (pc2 := 69) rfl ?_
        exact Hj11 _ _ hf
      refine g_if_eq hc 68 (by decide) dX7_part_57 (pc2 := 60) rfl (fun q => ?_) (fun q => ?_)
      · have hf := ite_t hf q
        refine g_sub [1, 2, 0] rfl ?_
        exact Hj14 _ hf
      · have hf := ite_f hf q
        refine g_iload_n (i := 1) hc 2 rfl rfl dX7_part_60 (pc2 := 61) rfl ?_
        refine g_if_eq hc 68 (by decide) dX7_part_61 (pc2 := 64) rfl (fun q => ?_) (fun q => ?_)
        · have hf := ite_t hf q
          refine g_sub [1, 2, 0] rfl ?_
          exact Hj14 _ hf
        · have hf := ite_f hf q
          refine g_iload_n (i := 3) hc 3 rfl rfl dX7_part_64 (pc2 := 65) rfl ?_
          refine g_goto hc 69 (by decide) dX7_part_65 ?_
          refine g_sub [1, 2, 0] rfl ?_
          exact Hj11 _ _ hf
    obtain ⟨j15, hj15, hf⟩ := nm_ex hf
    have Hj15 : ∀ (s27 : Mem), j15 s27 = some (rR, sR) → G κ φ (QI κ φ (NV κ τ) sR rR rm_7_part.cells rm_7_part.slots) (NV κ τ) 0 0 s27 [(0, .ref (ad κ.1 19 0)), (1, .int a1), (3, .int x2)] 48 [] := by
      intro s27 hf
      rw [hj15] at hf
      refine g_iconst (v := (0 : Int32)) hc (by decide) dX7_part_48 (pc2 := 49) rfl ?_
      exact Hj10 _ _ hf
    refine g_if_eq hc 48 (by decide) dX7_part_27 (pc2 := 30) rfl (fun q => ?_) (fun q => ?_)
    · have hf := ite_t hf q
      refine g_sub [2, 3, 0] rfl ?_
      exact Hj15 _ hf
    · have hf := ite_f hf q
      refine g_aload_n (i := 0) hc 2 rfl rfl dX7_part_30 (pc2 := 31) rfl ?_
      refine g_iconst (v := (0 : Int32)) hc (by decide) dX7_part_31 (pc2 := 32) rfl ?_
      refine g_aload_n (i := 0) hc 2 rfl rfl dX7_part_32 (pc2 := 33) rfl ?_
      refine g_geti hc fo_X7_117 (u19 (by decide)) dX7_part_33 (pc2 := 36) rfl ?_
      refine g_iconst (v := (1 : Int32)) hc (by decide) dX7_part_36 (pc2 := 37) rfl ?_
      refine g_isub hc dX7_part_37 (pc2 := 38) rfl ?_
      obtain ⟨r10, s28, hp, hf⟩ := bd_some hf
      refine g_vI hc (k7_digitTo hp) co_X7_113 (u19 (by decide)) rfl rfl (by decide) (by decide) (Nat.le_of_ble_eq_true rfl) dX7_part_38 (pc2 := 41) rfl ?_
      refine g_if_eq hc 48 (by decide) dX7_part_41 (pc2 := 44) rfl (fun q => ?_) (fun q => ?_)
      · have hf := ite_t hf q
        refine g_sub [2, 3, 0] rfl ?_
        exact Hj15 _ hf
      · have hf := ite_f hf q
        refine g_iconst (v := (1 : Int32)) hc (by decide) dX7_part_44 (pc2 := 45) rfl ?_
        refine g_goto hc 49 (by decide) dX7_part_45 ?_
        refine g_sub [2, 3, 0] rfl ?_
        exact Hj10 _ _ hf
def f7_reads_l107 (a1 : Int32) (k2 : Int32 → Mem → Option (Int32 × Mem)) : Nat → Int32 → Mem → Option (Int32 × Mem)
  | 0, _, _ => none
  | n1 + 1, m1, s10 => (if m1 = (0 : Int32) then k2 m1 s10 else (if (s10 61 0 0) ≤ (s10 63 0 0) then k2 m1 s10 else bd (f7_part a1 s10) fun r2 s11 => f7_reads_l107 a1 k2 n1 r2 s11))
def f7_reads_l7  (k1 : Mem → Option (Int32 × Mem)) : Nat → Int32 → Mem → Option (Int32 × Mem)
  | 0, _, _ => none
  | n2 + 1, m2, s17 => (if (6 : Int32) ≤ m2 then k1 s17 else gd (ib m2 6) (nm (ms s17 25 0 m2.toNatClampNeg (0 : Int32)) fun s18 => nm (m2 + (1 : Int32)) fun x1 => f7_reads_l7 k1 n2 x1 s18))
def f7_reads (a1 : Int32) (s0 : Mem) : Option (Int32 × Mem) :=
  nm (ms s0 63 0 0 (0 : Int32)) fun s1 => nm (fun (s2 : Mem) => bd (f7_sign (85 : Int32) s2) fun r1 s3 => nm (fun (y1 : Int32) (s4 : Mem) => nm (ms s4 65 0 0 (s4 64 0 0)) fun s5 => nm (fun (y2 : Int32) (s6 : Mem) => nm (ms s6 66 0 0 (s6 64 0 0)) fun s7 => nm (fun (s8 : Mem) => nm (fun (y3 : Int32) (s9 : Mem) => gd (zok y3) (some (y3, s9))) fun k2 => f7_reads_l107 a1 k2 FU y2 s8) fun j3 => (if y2 = (0 : Int32) then j3 s7 else (if a1 = (0 : Int32) then j3 s7 else bv (f7_anew (s7 65 0 0) (s7 66 0 0) s7) fun s12 => j3 s12))) fun j2 => nm (fun (s13 : Mem) => j2 (0 : Int32) s13) fun j4 => (if y1 = (0 : Int32) then j4 s5 else bd (f7_twoTo (2 : Int32) (16 : Int32) s5) fun r3 s14 => (if r3 = (0 : Int32) then j4 s14 else j2 (1 : Int32) s14))) fun j1 => nm (fun (s15 : Mem) => j1 (0 : Int32) s15) fun j5 => (if r1 = (0 : Int32) then j5 s3 else bd (f7_digitTo (2 : Int32) (6 : Int32) s3) fun r4 s16 => (if r4 = (0 : Int32) then j5 s16 else j1 (1 : Int32) s16))) fun k1 => f7_reads_l7 k1 FU (0 : Int32) s1
def rm_7_reads : Room := { frames := 5, cells := 0, slots := 0, locals := 117 }
set_option maxHeartbeats 4000000 in
set_option maxRecDepth 100000 in
theorem k7_reads {κ : Kx} {τ : Nat → Int64} {a1 : Int32} {s0 sR : Mem} {rR : Int32}  (hf : f7_reads a1 s0 = some (rR, sR)) : CtI κ yX7_reads cX7_reads 3 (some .boolean) rm_7_reads (NV κ τ) (NV κ τ) [.ref (ad κ.1 19 0), .int a1] s0 sR rR := by
  refine ct_I (by decide +kernel) (Nat.le_of_ble_eq_true rfl) (fun φ hc hr => ?_)
  have hc : Cx κ φ RX7 cX7_reads 3 rm_7_reads := hc
  show G κ φ (QI κ φ (NV κ τ) sR rR rm_7_reads.cells rm_7_reads.slots) (NV κ τ) 0 0 s0 [(0, .ref (ad κ.1 19 0)), (1, .int a1)] 0 []
  unfold f7_reads at hf
  refine g_aload_n (i := 0) hc 0 rfl rfl dX7_reads_0 (pc2 := 1) rfl ?_
  refine g_iconst (v := (0 : Int32)) hc (by decide) dX7_reads_1 (pc2 := 2) rfl ?_
  obtain ⟨s1, hs1, hf⟩ := nm_ex hf
  refine g_puti hc (by decide) fo_X7_107 clO_19 poK_19_10 rfl (u19 (by decide)) rfl rfl dX7_reads_2 (pc2 := 5) rfl ?_
  refine g_nms hs1 ?_
  refine g_iconst (v := (0 : Int32)) hc (by decide) dX7_reads_5 (pc2 := 6) rfl ?_
  refine g_istore_n (i := 2) (L1 := [(2, .int (0 : Int32)), (0, .ref (ad κ.1 19 0)), (1, .int a1)]) hc rfl (by decide) rfl dX7_reads_6 (pc2 := 7) rfl ?_
  obtain ⟨k1, hk1, hf⟩ := nm_ex hf
  have Hk1 : ∀ (s2 : Mem), k1 s2 = some (rR, sR) → G κ φ (QI κ φ (NV κ τ) sR rR rm_7_reads.cells rm_7_reads.slots) (NV κ τ) 0 0 s2 [(0, .ref (ad κ.1 19 0)), (1, .int a1)] 26 [] := by
    intro s2 hf
    rw [hk1] at hf
    refine g_aload_n (i := 0) hc 0 rfl rfl dX7_reads_26 (pc2 := 27) rfl ?_
    refine g_bipush (v := (85 : Int32)) hc (by decide) dX7_reads_27 (pc2 := 29) rfl ?_
    obtain ⟨r1, s3, hp, hf⟩ := bd_some hf
    refine g_vI hc (k7_sign hp) co_X7_120 (u19 (by decide)) rfl rfl (by decide) (by decide) (Nat.le_of_ble_eq_true rfl) dX7_reads_29 (pc2 := 32) rfl ?_
    obtain ⟨j1, hj1, hf⟩ := nm_ex hf
    have Hj1 : ∀ (y1 : Int32) (s4 : Mem), j1 y1 s4 = some (rR, sR) → G κ φ (QI κ φ (NV κ τ) sR rR rm_7_reads.cells rm_7_reads.slots) (NV κ τ) 0 0 s4 [(0, .ref (ad κ.1 19 0)), (1, .int a1)] 50 [.int y1] := by
      intro y1 s4 hf
      rw [hj1] at hf
      refine g_istore_n (i := 2) (L1 := [(2, .int y1), (0, .ref (ad κ.1 19 0)), (1, .int a1)]) hc rfl (by decide) rfl dX7_reads_50 (pc2 := 51) rfl ?_
      refine g_aload_n (i := 0) hc 1 rfl rfl dX7_reads_51 (pc2 := 52) rfl ?_
      refine g_aload_n (i := 0) hc 1 rfl rfl dX7_reads_52 (pc2 := 53) rfl ?_
      refine g_geti hc fo_X7_110 (u19 (by decide)) dX7_reads_53 (pc2 := 56) rfl ?_
      obtain ⟨s5, hs5, hf⟩ := nm_ex hf
      refine g_puti hc (by decide) fo_X7_117 clO_19 poK_19_12 rfl (u19 (by decide)) rfl rfl dX7_reads_56 (pc2 := 59) rfl ?_
      refine g_nms hs5 ?_
      refine g_iload_n (i := 2) hc 0 rfl rfl dX7_reads_59 (pc2 := 60) rfl ?_
      obtain ⟨j2, hj2, hf⟩ := nm_ex hf
      have Hj2 : ∀ (y2 : Int32) (s6 : Mem), j2 y2 s6 = some (rR, sR) → G κ φ (QI κ φ (NV κ τ) sR rR rm_7_reads.cells rm_7_reads.slots) (NV κ τ) 0 0 s6 [(0, .ref (ad κ.1 19 0)), (1, .int a1)] 78 [.int y2] := by
        intro y2 s6 hf
        rw [hj2] at hf
        refine g_istore_n (i := 2) (L1 := [(2, .int y2), (0, .ref (ad κ.1 19 0)), (1, .int a1)]) hc rfl (by decide) rfl dX7_reads_78 (pc2 := 79) rfl ?_
        refine g_aload_n (i := 0) hc 1 rfl rfl dX7_reads_79 (pc2 := 80) rfl ?_
        refine g_aload_n (i := 0) hc 1 rfl rfl dX7_reads_80 (pc2 := 81) rfl ?_
        refine g_geti hc fo_X7_110 (u19 (by decide)) dX7_reads_81 (pc2 := 84) rfl ?_
        obtain ⟨s7, hs7, hf⟩ := nm_ex hf
        refine g_puti hc (by decide) fo_X7_127 clO_19 poK_19_13 rfl (u19 (by decide)) rfl rfl dX7_reads_84 (pc2 := 87) rfl ?_
        refine g_nms hs7 ?_
        refine g_iload_n (i := 2) hc 0 rfl rfl dX7_reads_87 (pc2 := 88) rfl ?_
        obtain ⟨j3, hj3, hf⟩ := nm_ex hf
        have Hj3 : ∀ (s8 : Mem), j3 s8 = some (rR, sR) → G κ φ (QI κ φ (NV κ τ) sR rR rm_7_reads.cells rm_7_reads.slots) (NV κ τ) 0 0 s8 [(0, .ref (ad κ.1 19 0)), (1, .int a1), (2, .int y2)] 107 [] := by
          intro s8 hf
          rw [hj3] at hf
          obtain ⟨k2, hk2, hf⟩ := nm_ex hf
          have Hk2 : ∀ (y3 : Int32) (s9 : Mem), k2 y3 s9 = some (rR, sR) → G κ φ (QI κ φ (NV κ τ) sR rR rm_7_reads.cells rm_7_reads.slots) (NV κ τ) 0 0 s9 [(2, .int y3)] 131 [] := by
            intro y3 s9 hf
            rw [hk2] at hf
            refine g_iload_n (i := 2) hc 0 rfl rfl dX7_reads_131 (pc2 := 132) rfl ?_
            obtain ⟨hg1, hf⟩ := gd_some hf
            exact g_iret hc hf hr (zok_n hg1) (by decide) (by decide) dX7_reads_132
          have LP_n1 : ∀ (n1 : Nat) (m1 : Int32) (s10 : Mem), f7_reads_l107 a1 k2 n1 m1 s10 = some (rR, sR) → G κ φ (QI κ φ (NV κ τ) sR rR rm_7_reads.cells rm_7_reads.slots) (NV κ τ) 0 0 s10 [(0, .ref (ad κ.1 19 0)), (1, .int a1), (2, .int m1)] 107 [] := by
            intro n1
            induction n1 with
            | zero => intro m1 s10 hf; rw [f7_reads_l107] at hf; cases hf
            | succ n1 ih_n1 =>
              intro m1 s10 hf
              rw [f7_reads_l107] at hf
              refine g_iload_n (i := 2) hc 2 rfl rfl dX7_reads_107 (pc2 := 108) rfl ?_
              refine g_if_eq hc 131 (by decide) dX7_reads_108 (pc2 := 111) rfl (fun q => ?_) (fun q => ?_)
              · have hf := ite_t hf q
                refine g_sub [2] rfl ?_
                exact Hk2 _ _ hf
              · have hf := ite_f hf q
                refine g_aload_n (i := 0) hc 0 rfl rfl dX7_reads_111 (pc2 := 112) rfl ?_
                refine g_geti hc fo_X7_107 (u19 (by decide)) dX7_reads_112 (pc2 := 115) rfl ?_
                refine g_aload_n (i := 0) hc 0 rfl rfl dX7_reads_115 (pc2 := 116) rfl ?_
                refine g_geti hc fo_X7_104 (u19 (by decide)) dX7_reads_116 (pc2 := 119) rfl ?_
                refine g_icmp_ge hc 131 (by decide) dX7_reads_119 (pc2 := 122) rfl (fun q => ?_) (fun q => ?_)
                · have hf := ite_t hf q
                  refine g_sub [2] rfl ?_
                  exact Hk2 _ _ hf
                · have hf := ite_f hf q
                  refine g_aload_n (i := 0) hc 0 rfl rfl dX7_reads_122 (pc2 := 123) rfl ?_
                  refine g_iload_n (i := 1) hc 1 rfl rfl dX7_reads_123 (pc2 := 124) rfl ?_
                  obtain ⟨r2, s11, hp, hf⟩ := bd_some hf
                  refine g_vI hc (k7_part hp) co_X7_137 (u19 (by decide)) rfl rfl (by decide) (by decide) (Nat.le_of_ble_eq_true rfl) dX7_reads_124 (pc2 := 127) rfl ?_
                  refine g_istore_n (i := 2) (L1 := [(2, .int r2), (0, .ref (ad κ.1 19 0)), (1, .int a1)]) hc rfl (by decide) rfl dX7_reads_127 (pc2 := 128) rfl ?_
                  refine g_goto hc 107 (by decide) dX7_reads_128 ?_
                  refine g_sub [1, 2, 0] rfl ?_
                  exact ih_n1 _ _ hf
          exact LP_n1 _ _ _ hf
        refine g_if_eq hc 107 (by decide) dX7_reads_88 (pc2 := 91) rfl (fun q => ?_) (fun q => ?_)
        · have hf := ite_t hf q
          refine g_sub [1, 2, 0] rfl ?_
          exact Hj3 _ hf
        · have hf := ite_f hf q
          refine g_iload_n (i := 1) hc 2 rfl rfl dX7_reads_91 (pc2 := 92) rfl ?_
          refine g_if_eq hc 107 (by decide) dX7_reads_92 (pc2 := 95) rfl (fun q => ?_) (fun q => ?_)
          · have hf := ite_t hf q
            refine g_sub [1, 2, 0] rfl ?_
            exact Hj3 _ hf
          · have hf := ite_f hf q
            refine g_aload_n (i := 0) hc 1 rfl rfl dX7_reads_95 (pc2 := 96) rfl ?_
            refine g_aload_n (i := 0) hc 1 rfl rfl dX7_reads_96 (pc2 := 97) rfl ?_
            refine g_geti hc fo_X7_117 (u19 (by decide)) dX7_reads_97 (pc2 := 100) rfl ?_
            refine g_aload_n (i := 0) hc 1 rfl rfl dX7_reads_100 (pc2 := 101) rfl ?_
            refine g_geti hc fo_X7_127 (u19 (by decide)) dX7_reads_101 (pc2 := 104) rfl ?_
            obtain ⟨s12, hp, hf⟩ := bv_some hf
            refine g_vV hc (k7_anew hp) co_X7_35 (u19 (by decide)) rfl rfl (by decide) (by decide) (Nat.le_of_ble_eq_true rfl) dX7_reads_104 (pc2 := 107) rfl ?_
            refine g_sub [1, 2, 0] rfl ?_
            exact Hj3 _ hf
      obtain ⟨j4, hj4, hf⟩ := nm_ex hf
      have Hj4 : ∀ (s13 : Mem), j4 s13 = some (rR, sR) → G κ φ (QI κ φ (NV κ τ) sR rR rm_7_reads.cells rm_7_reads.slots) (NV κ τ) 0 0 s13 [(0, .ref (ad κ.1 19 0)), (1, .int a1)] 77 [] := by
        intro s13 hf
        rw [hj4] at hf
        refine g_iconst (v := (0 : Int32)) hc (by decide) dX7_reads_77 (pc2 := 78) rfl ?_
        exact Hj2 _ _ hf
      refine g_if_eq hc 77 (by decide) dX7_reads_60 (pc2 := 63) rfl (fun q => ?_) (fun q => ?_)
      · have hf := ite_t hf q
        refine g_sub [1, 2] rfl ?_
        exact Hj4 _ hf
      · have hf := ite_f hf q
        refine g_aload_n (i := 0) hc 1 rfl rfl dX7_reads_63 (pc2 := 64) rfl ?_
        refine g_iconst (v := (2 : Int32)) hc (by decide) dX7_reads_64 (pc2 := 65) rfl ?_
        refine g_bipush (v := (16 : Int32)) hc (by decide) dX7_reads_65 (pc2 := 67) rfl ?_
        obtain ⟨r3, s14, hp, hf⟩ := bd_some hf
        refine g_vI hc (k7_twoTo hp) co_X7_130 (u19 (by decide)) rfl rfl (by decide) (by decide) (Nat.le_of_ble_eq_true rfl) dX7_reads_67 (pc2 := 70) rfl ?_
        refine g_if_eq hc 77 (by decide) dX7_reads_70 (pc2 := 73) rfl (fun q => ?_) (fun q => ?_)
        · have hf := ite_t hf q
          refine g_sub [1, 2] rfl ?_
          exact Hj4 _ hf
        · have hf := ite_f hf q
          refine g_iconst (v := (1 : Int32)) hc (by decide) dX7_reads_73 (pc2 := 74) rfl ?_
          refine g_goto hc 78 (by decide) dX7_reads_74 ?_
          refine g_sub [1, 2] rfl ?_
          exact Hj2 _ _ hf
    obtain ⟨j5, hj5, hf⟩ := nm_ex hf
    have Hj5 : ∀ (s15 : Mem), j5 s15 = some (rR, sR) → G κ φ (QI κ φ (NV κ τ) sR rR rm_7_reads.cells rm_7_reads.slots) (NV κ τ) 0 0 s15 [(0, .ref (ad κ.1 19 0)), (1, .int a1)] 49 [] := by
      intro s15 hf
      rw [hj5] at hf
      refine g_iconst (v := (0 : Int32)) hc (by decide) dX7_reads_49 (pc2 := 50) rfl ?_
      exact Hj1 _ _ hf
    refine g_if_eq hc 49 (by decide) dX7_reads_32 (pc2 := 35) rfl (fun q => ?_) (fun q => ?_)
    · have hf := ite_t hf q
      exact Hj5 _ hf
    · have hf := ite_f hf q
      refine g_aload_n (i := 0) hc 0 rfl rfl dX7_reads_35 (pc2 := 36) rfl ?_
      refine g_iconst (v := (2 : Int32)) hc (by decide) dX7_reads_36 (pc2 := 37) rfl ?_
      refine g_bipush (v := (6 : Int32)) hc (by decide) dX7_reads_37 (pc2 := 39) rfl ?_
      obtain ⟨r4, s16, hp, hf⟩ := bd_some hf
      refine g_vI hc (k7_digitTo hp) co_X7_113 (u19 (by decide)) rfl rfl (by decide) (by decide) (Nat.le_of_ble_eq_true rfl) dX7_reads_39 (pc2 := 42) rfl ?_
      refine g_if_eq hc 49 (by decide) dX7_reads_42 (pc2 := 45) rfl (fun q => ?_) (fun q => ?_)
      · have hf := ite_t hf q
        exact Hj5 _ hf
      · have hf := ite_f hf q
        refine g_iconst (v := (1 : Int32)) hc (by decide) dX7_reads_45 (pc2 := 46) rfl ?_
        refine g_goto hc 50 (by decide) dX7_reads_46 ?_
        exact Hj1 _ _ hf
  have LP_n2 : ∀ (n2 : Nat) (m2 : Int32) (s17 : Mem), f7_reads_l7 k1 n2 m2 s17 = some (rR, sR) → G κ φ (QI κ φ (NV κ τ) sR rR rm_7_reads.cells rm_7_reads.slots) (NV κ τ) 0 0 s17 [(0, .ref (ad κ.1 19 0)), (1, .int a1), (2, .int m2)] 7 [] := by
    intro n2
    induction n2 with
    | zero => intro m2 s17 hf; rw [f7_reads_l7] at hf; cases hf
    | succ n2 ih_n2 =>
      intro m2 s17 hf
      rw [f7_reads_l7] at hf
      refine g_iload_n (i := 2) hc 2 rfl rfl dX7_reads_7 (pc2 := 8) rfl ?_
      refine g_bipush (v := (6 : Int32)) hc (by decide) dX7_reads_8 (pc2 := 10) rfl ?_
      refine g_icmp_ge hc 26 (by decide) dX7_reads_10 (pc2 := 13) rfl (fun q => ?_) (fun q => ?_)
      · have hf := ite_t hf q
        refine g_sub [0, 1] rfl ?_
        exact Hk1 _ hf
      · have hf := ite_f hf q
        refine g_aload_n (i := 0) hc 0 rfl rfl dX7_reads_13 (pc2 := 14) rfl ?_
        refine g_getr (q := ad κ.1 25 0) hc fo_X7_32 (u19 (by decide)) rfl dX7_reads_14 (pc2 := 17) rfl ?_
        refine g_iload_n (i := 2) hc 2 rfl rfl dX7_reads_17 (pc2 := 18) rfl ?_
        refine g_iconst (v := (0 : Int32)) hc (by decide) dX7_reads_18 (pc2 := 19) rfl ?_
        obtain ⟨hg2, hf⟩ := gd_some hf
        obtain ⟨s18, hs18, hf⟩ := nm_ex hf
        refine g_asti hc 25 0 rfl (u25 (by decide)) hg2 dX7_reads_19 (pc2 := 20) rfl ?_
        refine g_nms hs18 ?_
        obtain ⟨x1, hx1, hf⟩ := nm_ex hf
        refine g_iinc (v := x1) (L1 := [(2, .int x1), (0, .ref (ad κ.1 19 0)), (1, .int a1)]) hc 2 rfl (by rw [hx1]; rfl) (by decide) rfl dX7_reads_20 (pc2 := 23) rfl ?_
        refine g_goto hc 7 (by decide) dX7_reads_23 ?_
        refine g_sub [1, 2, 0] rfl ?_
        exact ih_n2 _ _ hf
  refine g_sub [1, 2, 0] rfl ?_
  exact LP_n2 _ _ _ hf
def f7_errorPosition  (s0 : Mem) : Option (Int32 × Mem) :=
  nm (ms s0 62 0 0 (0 : Int32)) fun s1 => bd (f7_reads (0 : Int32) s1) fun r1 s2 => (if r1 = (0 : Int32) then some (s2 63 0 0, s2) else some ((-9 : Int32), s2))
def rm_7_errorPosition : Room := { frames := 6, cells := 0, slots := 0, locals := 139 }
set_option maxHeartbeats 4000000 in
set_option maxRecDepth 100000 in
theorem k7_errorPosition {κ : Kx} {τ : Nat → Int64}  {s0 sR : Mem} {rR : Int32}  (hf : f7_errorPosition s0 = some (rR, sR)) : CtI κ yX7_errorPosition cX7_errorPosition 1 (some .int) rm_7_errorPosition (NV κ τ) (NV κ τ) [.ref (ad κ.1 19 0)] s0 sR rR := by
  refine ct_I (by decide +kernel) (Nat.le_of_ble_eq_true rfl) (fun φ hc hr => ?_)
  have hc : Cx κ φ RX7 cX7_errorPosition 1 rm_7_errorPosition := hc
  show G κ φ (QI κ φ (NV κ τ) sR rR rm_7_errorPosition.cells rm_7_errorPosition.slots) (NV κ τ) 0 0 s0 [(0, .ref (ad κ.1 19 0))] 0 []
  unfold f7_errorPosition at hf
  refine g_aload_n (i := 0) hc 0 rfl rfl dX7_errorPosition_0 (pc2 := 1) rfl ?_
  refine g_iconst (v := (0 : Int32)) hc (by decide) dX7_errorPosition_1 (pc2 := 2) rfl ?_
  obtain ⟨s1, hs1, hf⟩ := nm_ex hf
  refine g_puti hc (by decide) fo_X7_39 clO_19 poK_19_9 rfl (u19 (by decide)) rfl rfl dX7_errorPosition_2 (pc2 := 5) rfl ?_
  refine g_nms hs1 ?_
  refine g_aload_n (i := 0) hc 0 rfl rfl dX7_errorPosition_5 (pc2 := 6) rfl ?_
  refine g_iconst (v := (0 : Int32)) hc (by decide) dX7_errorPosition_6 (pc2 := 7) rfl ?_
  obtain ⟨r1, s2, hp, hf⟩ := bd_some hf
  refine g_vI hc (k7_reads hp) co_X7_140 (u19 (by decide)) rfl rfl (by decide) (by decide) (Nat.le_of_ble_eq_true rfl) dX7_errorPosition_7 (pc2 := 10) rfl ?_
  refine g_if_eq hc 18 (by decide) dX7_errorPosition_10 (pc2 := 13) rfl (fun q => ?_) (fun q => ?_)
  · have hf := ite_t hf q
    refine g_aload_n (i := 0) hc 0 rfl rfl dX7_errorPosition_18 (pc2 := 19) rfl ?_
    refine g_geti hc fo_X7_107 (u19 (by decide)) dX7_errorPosition_19 (pc2 := 22) rfl ?_
    exact g_iret hc hf hr rfl (by decide) (by decide) dX7_errorPosition_22
  · have hf := ite_f hf q
    refine g_bipush (v := (-9 : Int32)) hc (by decide) dX7_errorPosition_13 (pc2 := 15) rfl ?_
    refine g_goto hc 22 (by decide) dX7_errorPosition_15 ?_
    exact g_iret hc hf hr rfl (by decide) (by decide) dX7_errorPosition_22
def f7_allOf_l4 (a1 : Int32) (k1 : Int32 → Mem → Option (Int32 × Mem)) : Nat → Int32 → Int32 → Mem → Option (Int32 × Mem)
  | 0, _, _, _ => none
  | n1 + 1, m1, m2, s2 => (if (s2 20 0 ((0 : Int32)).toNatClampNeg) ≤ m2 then k1 m1 s2 else bd (f7_of m2 a1 s2) fun r1 s3 => nm (m1 + r1) fun x1 => nm (m2 + (1 : Int32)) fun x2 => f7_allOf_l4 a1 k1 n1 x1 x2 s3)
def f7_allOf (a1 : Int32) (s0 : Mem) : Option (Int32 × Mem) :=
  nm (fun (y1 : Int32) (s1 : Mem) => some (y1, s1)) fun k1 => f7_allOf_l4 a1 k1 FU (0 : Int32) (0 : Int32) s0
def rm_7_allOf : Room := { frames := 2, cells := 0, slots := 0, locals := 43 }
set_option maxHeartbeats 4000000 in
set_option maxRecDepth 100000 in
theorem k7_allOf {κ : Kx} {τ : Nat → Int64} {a1 : Int32} {s0 sR : Mem} {rR : Int32}  (hf : f7_allOf a1 s0 = some (rR, sR)) : CtI κ yX7_allOf cX7_allOf 4 (some .int) rm_7_allOf (NV κ τ) (NV κ τ) [.ref (ad κ.1 19 0), .int a1] s0 sR rR := by
  refine ct_I (by decide +kernel) (Nat.le_of_ble_eq_true rfl) (fun φ hc hr => ?_)
  have hc : Cx κ φ RX7 cX7_allOf 4 rm_7_allOf := hc
  show G κ φ (QI κ φ (NV κ τ) sR rR rm_7_allOf.cells rm_7_allOf.slots) (NV κ τ) 0 0 s0 [(0, .ref (ad κ.1 19 0)), (1, .int a1)] 0 []
  unfold f7_allOf at hf
  refine g_iconst (v := (0 : Int32)) hc (by decide) dX7_allOf_0 (pc2 := 1) rfl ?_
  refine g_istore_n (i := 2) (L1 := [(2, .int (0 : Int32)), (0, .ref (ad κ.1 19 0)), (1, .int a1)]) hc rfl (by decide) rfl dX7_allOf_1 (pc2 := 2) rfl ?_
  refine g_iconst (v := (0 : Int32)) hc (by decide) dX7_allOf_2 (pc2 := 3) rfl ?_
  refine g_istore_n (i := 3) (L1 := [(3, .int (0 : Int32)), (2, .int (0 : Int32)), (0, .ref (ad κ.1 19 0)), (1, .int a1)]) hc rfl (by decide) rfl dX7_allOf_3 (pc2 := 4) rfl ?_
  obtain ⟨k1, hk1, hf⟩ := nm_ex hf
  have Hk1 : ∀ (y1 : Int32) (s1 : Mem), k1 y1 s1 = some (rR, sR) → G κ φ (QI κ φ (NV κ τ) sR rR rm_7_allOf.cells rm_7_allOf.slots) (NV κ τ) 0 0 s1 [(2, .int y1)] 29 [] := by
    intro y1 s1 hf
    rw [hk1] at hf
    refine g_iload_n (i := 2) hc 0 rfl rfl dX7_allOf_29 (pc2 := 30) rfl ?_
    exact g_iret hc hf hr rfl (by decide) (by decide) dX7_allOf_30
  have LP_n1 : ∀ (n1 : Nat) (m1 : Int32) (m2 : Int32) (s2 : Mem), f7_allOf_l4 a1 k1 n1 m1 m2 s2 = some (rR, sR) → G κ φ (QI κ φ (NV κ τ) sR rR rm_7_allOf.cells rm_7_allOf.slots) (NV κ τ) 0 0 s2 [(0, .ref (ad κ.1 19 0)), (1, .int a1), (2, .int m1), (3, .int m2)] 4 [] := by
    intro n1
    induction n1 with
    | zero => intro m1 m2 s2 hf; rw [f7_allOf_l4] at hf; cases hf
    | succ n1 ih_n1 =>
      intro m1 m2 s2 hf
      rw [f7_allOf_l4] at hf
      refine g_iload_n (i := 3) hc 3 rfl rfl dX7_allOf_4 (pc2 := 5) rfl ?_
      refine g_aload_n (i := 0) hc 0 rfl rfl dX7_allOf_5 (pc2 := 6) rfl ?_
      refine g_getr (q := ad κ.1 20 0) hc fo_X7_7 (u19 (by decide)) rfl dX7_allOf_6 (pc2 := 9) rfl ?_
      refine g_iconst (v := (0 : Int32)) hc (by decide) dX7_allOf_9 (pc2 := 10) rfl ?_
      refine g_aldi hc 20 0 rfl (u20 (by decide)) (by decide) dX7_allOf_10 (pc2 := 11) rfl ?_
      refine g_icmp_ge hc 29 (by decide) dX7_allOf_11 (pc2 := 14) rfl (fun q => ?_) (fun q => ?_)
      · have hf := ite_t hf q
        refine g_sub [2] rfl ?_
        exact Hk1 _ _ hf
      · have hf := ite_f hf q
        refine g_iload_n (i := 2) hc 2 rfl rfl dX7_allOf_14 (pc2 := 15) rfl ?_
        refine g_aload_n (i := 0) hc 0 rfl rfl dX7_allOf_15 (pc2 := 16) rfl ?_
        refine g_iload_n (i := 3) hc 3 rfl rfl dX7_allOf_16 (pc2 := 17) rfl ?_
        refine g_iload_n (i := 1) hc 1 rfl rfl dX7_allOf_17 (pc2 := 18) rfl ?_
        obtain ⟨r1, s3, hp, hf⟩ := bd_some hf
        refine g_vI hc (k7_of hp) co_X7_59 (u19 (by decide)) rfl rfl (by decide) (by decide) (Nat.le_of_ble_eq_true rfl) dX7_allOf_18 (pc2 := 21) rfl ?_
        refine g_iadd hc dX7_allOf_21 (pc2 := 22) rfl ?_
        obtain ⟨x1, hx1, hf⟩ := nm_ex hf
        refine g_nmi hx1 ?_
        refine g_istore_n (i := 2) (L1 := [(2, .int x1), (0, .ref (ad κ.1 19 0)), (1, .int a1), (3, .int m2)]) hc rfl (by decide) rfl dX7_allOf_22 (pc2 := 23) rfl ?_
        obtain ⟨x2, hx2, hf⟩ := nm_ex hf
        refine g_iinc (v := x2) (L1 := [(3, .int x2), (2, .int x1), (0, .ref (ad κ.1 19 0)), (1, .int a1)]) hc 3 rfl (by rw [hx2]; rfl) (by decide) rfl dX7_allOf_23 (pc2 := 26) rfl ?_
        refine g_goto hc 4 (by decide) dX7_allOf_26 ?_
        refine g_sub [2, 3, 1, 0] rfl ?_
        exact ih_n1 _ _ _ hf
  refine g_sub [2, 3, 1, 0] rfl ?_
  exact LP_n1 _ _ _ _ hf
def f7_load  (s0 : Mem) : Option (Int32 × Mem) :=
  nm (ms s0 62 0 0 (0 : Int32)) fun s1 => bd (f7_reads (0 : Int32) s1) fun r1 s2 => (if r1 = (0 : Int32) then bd (f7_fails (1 : Int32) s2) fun r4 s8 => some (r4, s8) else bd (f7_reads (1 : Int32) s2) fun r2 s3 => nm (ms s3 60 0 0 (0 : Int32)) fun s4 => nm (ms s4 23 0 (0 : Int32).toNatClampNeg (zb (0 : Int32))) fun s5 => nm (ms s5 23 0 (1 : Int32).toNatClampNeg (zb (0 : Int32))) fun s6 => bd (f7_allOf (0 : Int32) s6) fun r3 s7 => some (r3, s7))
def rm_7_load : Room := { frames := 6, cells := 0, slots := 0, locals := 139 }
set_option maxHeartbeats 4000000 in
set_option maxRecDepth 100000 in
theorem k7_load {κ : Kx} {τ : Nat → Int64}  {s0 sR : Mem} {rR : Int32}  (hf : f7_load s0 = some (rR, sR)) : CtI κ yX7_load cX7_load 1 (some .int) rm_7_load (NV κ τ) (NV κ τ) [.ref (ad κ.1 19 0)] s0 sR rR := by
  refine ct_I (by decide +kernel) (Nat.le_of_ble_eq_true rfl) (fun φ hc hr => ?_)
  have hc : Cx κ φ RX7 cX7_load 1 rm_7_load := hc
  show G κ φ (QI κ φ (NV κ τ) sR rR rm_7_load.cells rm_7_load.slots) (NV κ τ) 0 0 s0 [(0, .ref (ad κ.1 19 0))] 0 []
  unfold f7_load at hf
  refine g_aload_n (i := 0) hc 0 rfl rfl dX7_load_0 (pc2 := 1) rfl ?_
  refine g_iconst (v := (0 : Int32)) hc (by decide) dX7_load_1 (pc2 := 2) rfl ?_
  obtain ⟨s1, hs1, hf⟩ := nm_ex hf
  refine g_puti hc (by decide) fo_X7_39 clO_19 poK_19_9 rfl (u19 (by decide)) rfl rfl dX7_load_2 (pc2 := 5) rfl ?_
  refine g_nms hs1 ?_
  refine g_aload_n (i := 0) hc 0 rfl rfl dX7_load_5 (pc2 := 6) rfl ?_
  refine g_iconst (v := (0 : Int32)) hc (by decide) dX7_load_6 (pc2 := 7) rfl ?_
  obtain ⟨r1, s2, hp, hf⟩ := bd_some hf
  refine g_vI hc (k7_reads hp) co_X7_140 (u19 (by decide)) rfl rfl (by decide) (by decide) (Nat.le_of_ble_eq_true rfl) dX7_load_7 (pc2 := 10) rfl ?_
  refine g_if_ne hc 19 (by decide) dX7_load_10 (pc2 := 13) rfl (fun q => ?_) (fun q => ?_)
  · have hf := ite_f hf q
    refine g_aload_n (i := 0) hc 0 rfl rfl dX7_load_19 (pc2 := 20) rfl ?_
    refine g_iconst (v := (1 : Int32)) hc (by decide) dX7_load_20 (pc2 := 21) rfl ?_
    obtain ⟨r2, s3, hp, hf⟩ := bd_some hf
    refine g_vI hc (k7_reads hp) co_X7_140 (u19 (by decide)) rfl rfl (by decide) (by decide) (Nat.le_of_ble_eq_true rfl) dX7_load_21 (pc2 := 24) rfl ?_
    refine g_pop hc rfl dX7_load_24 (pc2 := 25) rfl ?_
    refine g_aload_n (i := 0) hc 0 rfl rfl dX7_load_25 (pc2 := 26) rfl ?_
    refine g_iconst (v := (0 : Int32)) hc (by decide) dX7_load_26 (pc2 := 27) rfl ?_
    obtain ⟨s4, hs4, hf⟩ := nm_ex hf
    refine g_puti hc (by decide) fo_X7_43 clO_19 poK_19_4 rfl (u19 (by decide)) rfl rfl dX7_load_27 (pc2 := 30) rfl ?_
    refine g_nms hs4 ?_
    refine g_aload_n (i := 0) hc 0 rfl rfl dX7_load_30 (pc2 := 31) rfl ?_
    refine g_getr (q := ad κ.1 23 0) hc fo_X7_25 (u19 (by decide)) rfl dX7_load_31 (pc2 := 34) rfl ?_
    refine g_iconst (v := (0 : Int32)) hc (by decide) dX7_load_34 (pc2 := 35) rfl ?_
    refine g_iconst (v := (0 : Int32)) hc (by decide) dX7_load_35 (pc2 := 36) rfl ?_
    obtain ⟨s5, hs5, hf⟩ := nm_ex hf
    refine g_astz hc 23 0 rfl (u23 (by decide)) (by decide) dX7_load_36 (pc2 := 37) rfl ?_
    refine g_nms hs5 ?_
    refine g_aload_n (i := 0) hc 0 rfl rfl dX7_load_37 (pc2 := 38) rfl ?_
    refine g_getr (q := ad κ.1 23 0) hc fo_X7_25 (u19 (by decide)) rfl dX7_load_38 (pc2 := 41) rfl ?_
    refine g_iconst (v := (1 : Int32)) hc (by decide) dX7_load_41 (pc2 := 42) rfl ?_
    refine g_iconst (v := (0 : Int32)) hc (by decide) dX7_load_42 (pc2 := 43) rfl ?_
    obtain ⟨s6, hs6, hf⟩ := nm_ex hf
    refine g_astz hc 23 0 rfl (u23 (by decide)) (by decide) dX7_load_43 (pc2 := 44) rfl ?_
    refine g_nms hs6 ?_
    refine g_aload_n (i := 0) hc 0 rfl rfl dX7_load_44 (pc2 := 45) rfl ?_
    refine g_iconst (v := (0 : Int32)) hc (by decide) dX7_load_45 (pc2 := 46) rfl ?_
    obtain ⟨r3, s7, hp, hf⟩ := bd_some hf
    refine g_vI hc (k7_allOf hp) co_X7_143 (u19 (by decide)) rfl rfl (by decide) (by decide) (Nat.le_of_ble_eq_true rfl) dX7_load_46 (pc2 := 49) rfl ?_
    exact g_iret hc hf hr rfl (by decide) (by decide) dX7_load_49
  · have hf := ite_t hf q
    refine g_aload_n (i := 0) hc 0 rfl rfl dX7_load_13 (pc2 := 14) rfl ?_
    refine g_iconst (v := (1 : Int32)) hc (by decide) dX7_load_14 (pc2 := 15) rfl ?_
    obtain ⟨r4, s8, hp, hf⟩ := bd_some hf
    refine g_vI hc (k7_fails hp) co_X7_101 (u19 (by decide)) rfl rfl (by decide) (by decide) (Nat.le_of_ble_eq_true rfl) dX7_load_15 (pc2 := 18) rfl ?_
    exact g_iret hc hf hr rfl (by decide) (by decide) dX7_load_18
def f7_about_l9  (k1 : Int32 → Mem → Option (Int32 × Mem)) : Nat → Int32 → Int32 → Mem → Option (Int32 × Mem)
  | 0, _, _, _ => none
  | n1 + 1, m1, m2, s6 => (if (s6 20 0 ((0 : Int32)).toNatClampNeg) ≤ m2 then k1 m1 s6 else bd (f7_debts m2 s6) fun r4 s7 => nm (m1 + r4) fun x1 => nm (m2 + (1 : Int32)) fun x2 => f7_about_l9 k1 n1 x1 x2 s7)
def f7_about (a1 : Int32) (s0 : Mem) : Option (Int32 × Mem) :=
  nm (ms s0 62 0 0 (0 : Int32)) fun s1 => nm (fun (y1 : Int32) (s2 : Mem) => (if a1 = (0 : Int32) then gd (ib a1 291) (some (s2 20 0 a1.toNatClampNeg, s2)) else (if a1 = (1 : Int32) then gd (ib a1 291) (some (s2 20 0 a1.toNatClampNeg, s2)) else (if a1 = (2 : Int32) then gd (ib a1 291) (some (s2 20 0 a1.toNatClampNeg, s2)) else (if a1 = (3 : Int32) then gd (ib a1 291) (some (s2 20 0 a1.toNatClampNeg, s2)) else (if a1 = (4 : Int32) then gd (ib a1 291) (some (s2 20 0 a1.toNatClampNeg, s2)) else (if a1 = (5 : Int32) then some (y1, s2) else (if a1 = (6 : Int32) then bd (f7_allOf (0 : Int32) s2) fun r1 s3 => some (r1, s3) else (if a1 = (7 : Int32) then bd (f7_allOf (7 : Int32) s2) fun r2 s4 => some (r2, s4) else (if a1 = (8 : Int32) then some (s2 20 0 ((5 : Int32)).toNatClampNeg, s2) else (if a1 = (9 : Int32) then some (s2 20 0 ((6 : Int32)).toNatClampNeg, s2) else bd (f7_fails (1 : Int32) s2) fun r3 s5 => some (r3, s5)))))))))))) fun k1 => f7_about_l9 k1 FU (0 : Int32) (0 : Int32) s1
def rm_7_about : Room := { frames := 3, cells := 0, slots := 0, locals := 66 }
set_option maxHeartbeats 4000000 in
set_option maxRecDepth 100000 in
theorem k7_about {κ : Kx} {τ : Nat → Int64} {a1 : Int32} {s0 sR : Mem} {rR : Int32}  (hf : f7_about a1 s0 = some (rR, sR)) : CtI κ yX7_about cX7_about 4 (some .int) rm_7_about (NV κ τ) (NV κ τ) [.ref (ad κ.1 19 0), .int a1] s0 sR rR := by
  refine ct_I (by decide +kernel) (Nat.le_of_ble_eq_true rfl) (fun φ hc hr => ?_)
  have hc : Cx κ φ RX7 cX7_about 4 rm_7_about := hc
  show G κ φ (QI κ φ (NV κ τ) sR rR rm_7_about.cells rm_7_about.slots) (NV κ τ) 0 0 s0 [(0, .ref (ad κ.1 19 0)), (1, .int a1)] 0 []
  unfold f7_about at hf
  refine g_aload_n (i := 0) hc 0 rfl rfl dX7_about_0 (pc2 := 1) rfl ?_
  refine g_iconst (v := (0 : Int32)) hc (by decide) dX7_about_1 (pc2 := 2) rfl ?_
  obtain ⟨s1, hs1, hf⟩ := nm_ex hf
  refine g_puti hc (by decide) fo_X7_39 clO_19 poK_19_9 rfl (u19 (by decide)) rfl rfl dX7_about_2 (pc2 := 5) rfl ?_
  refine g_nms hs1 ?_
  refine g_iconst (v := (0 : Int32)) hc (by decide) dX7_about_5 (pc2 := 6) rfl ?_
  refine g_istore_n (i := 2) (L1 := [(2, .int (0 : Int32)), (0, .ref (ad κ.1 19 0)), (1, .int a1)]) hc rfl (by decide) rfl dX7_about_6 (pc2 := 7) rfl ?_
  refine g_iconst (v := (0 : Int32)) hc (by decide) dX7_about_7 (pc2 := 8) rfl ?_
  refine g_istore_n (i := 3) (L1 := [(3, .int (0 : Int32)), (2, .int (0 : Int32)), (0, .ref (ad κ.1 19 0)), (1, .int a1)]) hc rfl (by decide) rfl dX7_about_8 (pc2 := 9) rfl ?_
  obtain ⟨k1, hk1, hf⟩ := nm_ex hf
  have Hk1 : ∀ (y1 : Int32) (s2 : Mem), k1 y1 s2 = some (rR, sR) → G κ φ (QI κ φ (NV κ τ) sR rR rm_7_about.cells rm_7_about.slots) (NV κ τ) 0 0 s2 [(0, .ref (ad κ.1 19 0)), (1, .int a1), (2, .int y1)] 33 [] := by
    intro y1 s2 hf
    rw [hk1] at hf
    refine g_iload_n (i := 1) hc 1 rfl rfl dX7_about_33 (pc2 := 34) rfl ?_
    by_cases q0 : a1 = (0 : Int32)
    · have hf := ite_t hf q0
      refine g_case hc 88 (0 : Int32) q0 (by decide) (by decide) rfl (by decide) dX7_about_34 ?_
      refine g_aload_n (i := 0) hc 0 rfl rfl dX7_about_88 (pc2 := 89) rfl ?_
      refine g_getr (q := ad κ.1 20 0) hc fo_X7_7 (u19 (by decide)) rfl dX7_about_89 (pc2 := 92) rfl ?_
      refine g_iload_n (i := 1) hc 1 rfl rfl dX7_about_92 (pc2 := 93) rfl ?_
      obtain ⟨hg1, hf⟩ := gd_some hf
      refine g_aldi hc 20 0 rfl (u20 (by decide)) hg1 dX7_about_93 (pc2 := 94) rfl ?_
      exact g_iret hc hf hr rfl (by decide) (by decide) dX7_about_94
    · have hf := ite_f hf q0
      by_cases q1 : a1 = (1 : Int32)
      · have hf := ite_t hf q1
        refine g_case hc 88 (1 : Int32) q1 (by decide) (by decide) rfl (by decide) dX7_about_34 ?_
        refine g_aload_n (i := 0) hc 0 rfl rfl dX7_about_88 (pc2 := 89) rfl ?_
        refine g_getr (q := ad κ.1 20 0) hc fo_X7_7 (u19 (by decide)) rfl dX7_about_89 (pc2 := 92) rfl ?_
        refine g_iload_n (i := 1) hc 1 rfl rfl dX7_about_92 (pc2 := 93) rfl ?_
        obtain ⟨hg2, hf⟩ := gd_some hf
        refine g_aldi hc 20 0 rfl (u20 (by decide)) hg2 dX7_about_93 (pc2 := 94) rfl ?_
        exact g_iret hc hf hr rfl (by decide) (by decide) dX7_about_94
      · have hf := ite_f hf q1
        by_cases q2 : a1 = (2 : Int32)
        · have hf := ite_t hf q2
          refine g_case hc 88 (2 : Int32) q2 (by decide) (by decide) rfl (by decide) dX7_about_34 ?_
          refine g_aload_n (i := 0) hc 0 rfl rfl dX7_about_88 (pc2 := 89) rfl ?_
          refine g_getr (q := ad κ.1 20 0) hc fo_X7_7 (u19 (by decide)) rfl dX7_about_89 (pc2 := 92) rfl ?_
          refine g_iload_n (i := 1) hc 1 rfl rfl dX7_about_92 (pc2 := 93) rfl ?_
          obtain ⟨hg3, hf⟩ := gd_some hf
          refine g_aldi hc 20 0 rfl (u20 (by decide)) hg3 dX7_about_93 (pc2 := 94) rfl ?_
          exact g_iret hc hf hr rfl (by decide) (by decide) dX7_about_94
        · have hf := ite_f hf q2
          by_cases q3 : a1 = (3 : Int32)
          · have hf := ite_t hf q3
            refine g_case hc 88 (3 : Int32) q3 (by decide) (by decide) rfl (by decide) dX7_about_34 ?_
            refine g_aload_n (i := 0) hc 0 rfl rfl dX7_about_88 (pc2 := 89) rfl ?_
            refine g_getr (q := ad κ.1 20 0) hc fo_X7_7 (u19 (by decide)) rfl dX7_about_89 (pc2 := 92) rfl ?_
            refine g_iload_n (i := 1) hc 1 rfl rfl dX7_about_92 (pc2 := 93) rfl ?_
            obtain ⟨hg4, hf⟩ := gd_some hf
            refine g_aldi hc 20 0 rfl (u20 (by decide)) hg4 dX7_about_93 (pc2 := 94) rfl ?_
            exact g_iret hc hf hr rfl (by decide) (by decide) dX7_about_94
          · have hf := ite_f hf q3
            by_cases q4 : a1 = (4 : Int32)
            · have hf := ite_t hf q4
              refine g_case hc 88 (4 : Int32) q4 (by decide) (by decide) rfl (by decide) dX7_about_34 ?_
              refine g_aload_n (i := 0) hc 0 rfl rfl dX7_about_88 (pc2 := 89) rfl ?_
              refine g_getr (q := ad κ.1 20 0) hc fo_X7_7 (u19 (by decide)) rfl dX7_about_89 (pc2 := 92) rfl ?_
              refine g_iload_n (i := 1) hc 1 rfl rfl dX7_about_92 (pc2 := 93) rfl ?_
              obtain ⟨hg5, hf⟩ := gd_some hf
              refine g_aldi hc 20 0 rfl (u20 (by decide)) hg5 dX7_about_93 (pc2 := 94) rfl ?_
              exact g_iret hc hf hr rfl (by decide) (by decide) dX7_about_94
            · have hf := ite_f hf q4
              by_cases q5 : a1 = (5 : Int32)
              · have hf := ite_t hf q5
                refine g_case hc 95 (5 : Int32) q5 (by decide) (by decide) rfl (by decide) dX7_about_34 ?_
                refine g_iload_n (i := 2) hc 2 rfl rfl dX7_about_95 (pc2 := 96) rfl ?_
                exact g_iret hc hf hr rfl (by decide) (by decide) dX7_about_96
              · have hf := ite_f hf q5
                by_cases q6 : a1 = (6 : Int32)
                · have hf := ite_t hf q6
                  refine g_case hc 97 (6 : Int32) q6 (by decide) (by decide) rfl (by decide) dX7_about_34 ?_
                  refine g_aload_n (i := 0) hc 0 rfl rfl dX7_about_97 (pc2 := 98) rfl ?_
                  refine g_iconst (v := (0 : Int32)) hc (by decide) dX7_about_98 (pc2 := 99) rfl ?_
                  obtain ⟨r1, s3, hp, hf⟩ := bd_some hf
                  refine g_vI hc (k7_allOf hp) co_X7_143 (u19 (by decide)) rfl rfl (by decide) (by decide) (Nat.le_of_ble_eq_true rfl) dX7_about_99 (pc2 := 102) rfl ?_
                  exact g_iret hc hf hr rfl (by decide) (by decide) dX7_about_102
                · have hf := ite_f hf q6
                  by_cases q7 : a1 = (7 : Int32)
                  · have hf := ite_t hf q7
                    refine g_case hc 103 (7 : Int32) q7 (by decide) (by decide) rfl (by decide) dX7_about_34 ?_
                    refine g_aload_n (i := 0) hc 0 rfl rfl dX7_about_103 (pc2 := 104) rfl ?_
                    refine g_bipush (v := (7 : Int32)) hc (by decide) dX7_about_104 (pc2 := 106) rfl ?_
                    obtain ⟨r2, s4, hp, hf⟩ := bd_some hf
                    refine g_vI hc (k7_allOf hp) co_X7_143 (u19 (by decide)) rfl rfl (by decide) (by decide) (Nat.le_of_ble_eq_true rfl) dX7_about_106 (pc2 := 109) rfl ?_
                    exact g_iret hc hf hr rfl (by decide) (by decide) dX7_about_109
                  · have hf := ite_f hf q7
                    by_cases q8 : a1 = (8 : Int32)
                    · have hf := ite_t hf q8
                      refine g_case hc 110 (8 : Int32) q8 (by decide) (by decide) rfl (by decide) dX7_about_34 ?_
                      refine g_aload_n (i := 0) hc 0 rfl rfl dX7_about_110 (pc2 := 111) rfl ?_
                      refine g_getr (q := ad κ.1 20 0) hc fo_X7_7 (u19 (by decide)) rfl dX7_about_111 (pc2 := 114) rfl ?_
                      refine g_iconst (v := (5 : Int32)) hc (by decide) dX7_about_114 (pc2 := 115) rfl ?_
                      refine g_aldi hc 20 0 rfl (u20 (by decide)) (by decide) dX7_about_115 (pc2 := 116) rfl ?_
                      exact g_iret hc hf hr rfl (by decide) (by decide) dX7_about_116
                    · have hf := ite_f hf q8
                      by_cases q9 : a1 = (9 : Int32)
                      · have hf := ite_t hf q9
                        refine g_case hc 117 (9 : Int32) q9 (by decide) (by decide) rfl (by decide) dX7_about_34 ?_
                        refine g_aload_n (i := 0) hc 0 rfl rfl dX7_about_117 (pc2 := 118) rfl ?_
                        refine g_getr (q := ad κ.1 20 0) hc fo_X7_7 (u19 (by decide)) rfl dX7_about_118 (pc2 := 121) rfl ?_
                        refine g_bipush (v := (6 : Int32)) hc (by decide) dX7_about_121 (pc2 := 123) rfl ?_
                        refine g_aldi hc 20 0 rfl (u20 (by decide)) (by decide) dX7_about_123 (pc2 := 124) rfl ?_
                        exact g_iret hc hf hr rfl (by decide) (by decide) dX7_about_124
                      · have hf := ite_f hf q9
                        refine g_tableOut hc 125 ?_ (by decide) dX7_about_34 ?_
                        · have z0 := ne_i q0 (z := 0) (by decide) ; have z1 := ne_i q1 (z := 1) (by decide) ; have z2 := ne_i q2 (z := 2) (by decide) ; have z3 := ne_i q3 (z := 3) (by decide) ; have z4 := ne_i q4 (z := 4) (by decide) ; have z5 := ne_i q5 (z := 5) (by decide) ; have z6 := ne_i q6 (z := 6) (by decide) ; have z7 := ne_i q7 (z := 7) (by decide) ; have z8 := ne_i q8 (z := 8) (by decide) ; have z9 := ne_i q9 (z := 9) (by decide) ; omega
                        refine g_aload_n (i := 0) hc 0 rfl rfl dX7_about_125 (pc2 := 126) rfl ?_
                        refine g_iconst (v := (1 : Int32)) hc (by decide) dX7_about_126 (pc2 := 127) rfl ?_
                        obtain ⟨r3, s5, hp, hf⟩ := bd_some hf
                        refine g_vI hc (k7_fails hp) co_X7_101 (u19 (by decide)) rfl rfl (by decide) (by decide) (Nat.le_of_ble_eq_true rfl) dX7_about_127 (pc2 := 130) rfl ?_
                        exact g_iret hc hf hr rfl (by decide) (by decide) dX7_about_130
  have LP_n1 : ∀ (n1 : Nat) (m1 : Int32) (m2 : Int32) (s6 : Mem), f7_about_l9 k1 n1 m1 m2 s6 = some (rR, sR) → G κ φ (QI κ φ (NV κ τ) sR rR rm_7_about.cells rm_7_about.slots) (NV κ τ) 0 0 s6 [(0, .ref (ad κ.1 19 0)), (1, .int a1), (2, .int m1), (3, .int m2)] 9 [] := by
    intro n1
    induction n1 with
    | zero => intro m1 m2 s6 hf; rw [f7_about_l9] at hf; cases hf
    | succ n1 ih_n1 =>
      intro m1 m2 s6 hf
      rw [f7_about_l9] at hf
      refine g_iload_n (i := 3) hc 3 rfl rfl dX7_about_9 (pc2 := 10) rfl ?_
      refine g_aload_n (i := 0) hc 0 rfl rfl dX7_about_10 (pc2 := 11) rfl ?_
      refine g_getr (q := ad κ.1 20 0) hc fo_X7_7 (u19 (by decide)) rfl dX7_about_11 (pc2 := 14) rfl ?_
      refine g_iconst (v := (0 : Int32)) hc (by decide) dX7_about_14 (pc2 := 15) rfl ?_
      refine g_aldi hc 20 0 rfl (u20 (by decide)) (by decide) dX7_about_15 (pc2 := 16) rfl ?_
      refine g_icmp_ge hc 33 (by decide) dX7_about_16 (pc2 := 19) rfl (fun q => ?_) (fun q => ?_)
      · have hf := ite_t hf q
        refine g_sub [0, 1, 2] rfl ?_
        exact Hk1 _ _ hf
      · have hf := ite_f hf q
        refine g_iload_n (i := 2) hc 2 rfl rfl dX7_about_19 (pc2 := 20) rfl ?_
        refine g_aload_n (i := 0) hc 0 rfl rfl dX7_about_20 (pc2 := 21) rfl ?_
        refine g_iload_n (i := 3) hc 3 rfl rfl dX7_about_21 (pc2 := 22) rfl ?_
        obtain ⟨r4, s7, hp, hf⟩ := bd_some hf
        refine g_vI hc (k7_debts hp) co_X7_70 (u19 (by decide)) rfl rfl (by decide) (by decide) (Nat.le_of_ble_eq_true rfl) dX7_about_22 (pc2 := 25) rfl ?_
        refine g_iadd hc dX7_about_25 (pc2 := 26) rfl ?_
        obtain ⟨x1, hx1, hf⟩ := nm_ex hf
        refine g_nmi hx1 ?_
        refine g_istore_n (i := 2) (L1 := [(2, .int x1), (0, .ref (ad κ.1 19 0)), (1, .int a1), (3, .int m2)]) hc rfl (by decide) rfl dX7_about_26 (pc2 := 27) rfl ?_
        obtain ⟨x2, hx2, hf⟩ := nm_ex hf
        refine g_iinc (v := x2) (L1 := [(3, .int x2), (2, .int x1), (0, .ref (ad κ.1 19 0)), (1, .int a1)]) hc 3 rfl (by rw [hx2]; rfl) (by decide) rfl dX7_about_27 (pc2 := 30) rfl ?_
        refine g_goto hc 9 (by decide) dX7_about_30 ?_
        refine g_sub [2, 3, 1, 0] rfl ?_
        exact ih_n1 _ _ _ hf
  refine g_sub [2, 3, 1, 0] rfl ?_
  exact LP_n1 _ _ _ _ hf
def f7_master_l53 (a1 : Int32) (k2 : Int32 → Mem → Option (Int32 × Mem)) : Nat → Int32 → Int32 → Mem → Option (Int32 × Mem)
  | 0, _, _, _ => none
  | n1 + 1, m1, m2, s11 => bd (f7_of a1 (0 : Int32) s11) fun r8 s12 => (if r8 ≤ m2 then k2 m1 s12 else bd (f7_of a1 (((8 : Int32) + ((3 : Int32) * m2)) + (1 : Int32)) s12) fun r9 s13 => nm (m1 + r9) fun x1 => nm (m2 + (1 : Int32)) fun x2 => f7_master_l53 a1 k2 n1 x1 x2 s13)
def f7_master_l24 (a1 : Int32) (k1 : Int32 → Mem → Option (Int32 × Mem)) : Nat → Int32 → Int32 → Mem → Option (Int32 × Mem)
  | 0, _, _, _ => none
  | n2 + 1, m3, m4, s14 => (if (6 : Int32) ≤ m4 then k1 m3 s14 else bd (f7_owed m4 a1 s14) fun r10 s15 => nm (m3 + r10) fun x3 => nm (m4 + (1 : Int32)) fun x4 => f7_master_l24 a1 k1 n2 x3 x4 s15)
def f7_master (a1 : Int32) (a2 : Int32) (s0 : Mem) : Option (Int32 × Mem) :=
  nm (ms s0 62 0 0 (0 : Int32)) fun s1 => bd (f7_isMaster a1 s1) fun r1 s2 => (if r1 = (0 : Int32) then bd (f7_fails (1 : Int32) s2) fun r11 s16 => some (r11, s16) else nm (fun (y1 : Int32) (s3 : Mem) => nm (fun (y2 : Int32) (s4 : Mem) => (if a2 = (0 : Int32) then bd (f7_slotsOf a1 s4) fun r2 s5 => some (r2, s5) else (if a2 = (1 : Int32) then bd (f7_debts a1 s4) fun r3 s6 => some (r3, s6) else (if a2 = (2 : Int32) then some (y1, s4) else (if a2 = (3 : Int32) then bd (f7_of a1 (0 : Int32) s4) fun r4 s7 => some (r4, s7) else (if a2 = (4 : Int32) then some (y2, s4) else bd (f7_in (a2.toInt64) (5 : Int64) (10 : Int64) s4) fun r5 s8 => (if r5 = (0 : Int32) then bd (f7_fails (2 : Int32) s8) fun r6 s9 => some (r6, s9) else bd (f7_of a1 (a2 - (4 : Int32)) s8) fun r7 s10 => some (r7, s10)))))))) fun k2 => f7_master_l53 a1 k2 FU (0 : Int32) (0 : Int32) s3) fun k1 => f7_master_l24 a1 k1 FU (0 : Int32) (0 : Int32) s2)
def rm_7_master : Room := { frames := 2, cells := 0, slots := 0, locals := 46 }
set_option maxHeartbeats 4000000 in
set_option maxRecDepth 100000 in
theorem k7_master {κ : Kx} {τ : Nat → Int64} {a1 : Int32} {a2 : Int32} {s0 sR : Mem} {rR : Int32}  (hf : f7_master a1 a2 s0 = some (rR, sR)) : CtI κ yX7_master cX7_master 6 (some .int) rm_7_master (NV κ τ) (NV κ τ) [.ref (ad κ.1 19 0), .int a1, .int a2] s0 sR rR := by
  refine ct_I (by decide +kernel) (Nat.le_of_ble_eq_true rfl) (fun φ hc hr => ?_)
  have hc : Cx κ φ RX7 cX7_master 6 rm_7_master := hc
  show G κ φ (QI κ φ (NV κ τ) sR rR rm_7_master.cells rm_7_master.slots) (NV κ τ) 0 0 s0 [(0, .ref (ad κ.1 19 0)), (1, .int a1), (2, .int a2)] 0 []
  unfold f7_master at hf
  refine g_aload_n (i := 0) hc 0 rfl rfl dX7_master_0 (pc2 := 1) rfl ?_
  refine g_iconst (v := (0 : Int32)) hc (by decide) dX7_master_1 (pc2 := 2) rfl ?_
  obtain ⟨s1, hs1, hf⟩ := nm_ex hf
  refine g_puti hc (by decide) fo_X7_39 clO_19 poK_19_9 rfl (u19 (by decide)) rfl rfl dX7_master_2 (pc2 := 5) rfl ?_
  refine g_nms hs1 ?_
  refine g_aload_n (i := 0) hc 0 rfl rfl dX7_master_5 (pc2 := 6) rfl ?_
  refine g_iload_n (i := 1) hc 1 rfl rfl dX7_master_6 (pc2 := 7) rfl ?_
  obtain ⟨r1, s2, hp, hf⟩ := bd_some hf
  refine g_vI hc (k7_isMaster hp) co_X7_146 (u19 (by decide)) rfl rfl (by decide) (by decide) (Nat.le_of_ble_eq_true rfl) dX7_master_7 (pc2 := 10) rfl ?_
  refine g_if_ne hc 19 (by decide) dX7_master_10 (pc2 := 13) rfl (fun q => ?_) (fun q => ?_)
  · have hf := ite_f hf q
    refine g_iconst (v := (0 : Int32)) hc (by decide) dX7_master_19 (pc2 := 20) rfl ?_
    refine g_istore_n (i := 3) (L1 := [(3, .int (0 : Int32)), (0, .ref (ad κ.1 19 0)), (1, .int a1), (2, .int a2)]) hc rfl (by decide) rfl dX7_master_20 (pc2 := 21) rfl ?_
    refine g_iconst (v := (0 : Int32)) hc (by decide) dX7_master_21 (pc2 := 22) rfl ?_
    refine g_istore (L1 := [(4, .int (0 : Int32)), (3, .int (0 : Int32)), (0, .ref (ad κ.1 19 0)), (1, .int a1), (2, .int a2)]) hc (by decide) rfl dX7_master_22 (pc2 := 24) rfl ?_
    obtain ⟨k1, hk1, hf⟩ := nm_ex hf
    have Hk1 : ∀ (y1 : Int32) (s3 : Mem), k1 y1 s3 = some (rR, sR) → G κ φ (QI κ φ (NV κ τ) sR rR rm_7_master.cells rm_7_master.slots) (NV κ τ) 0 0 s3 [(0, .ref (ad κ.1 19 0)), (1, .int a1), (2, .int a2), (3, .int y1)] 47 [] := by
      intro y1 s3 hf
      rw [hk1] at hf
      refine g_iconst (v := (0 : Int32)) hc (by decide) dX7_master_47 (pc2 := 48) rfl ?_
      refine g_istore (L1 := [(4, .int (0 : Int32)), (0, .ref (ad κ.1 19 0)), (1, .int a1), (2, .int a2), (3, .int y1)]) hc (by decide) rfl dX7_master_48 (pc2 := 50) rfl ?_
      refine g_iconst (v := (0 : Int32)) hc (by decide) dX7_master_50 (pc2 := 51) rfl ?_
      refine g_istore (L1 := [(5, .int (0 : Int32)), (4, .int (0 : Int32)), (0, .ref (ad κ.1 19 0)), (1, .int a1), (2, .int a2), (3, .int y1)]) hc (by decide) rfl dX7_master_51 (pc2 := 53) rfl ?_
      obtain ⟨k2, hk2, hf⟩ := nm_ex hf
      have Hk2 : ∀ (y2 : Int32) (s4 : Mem), k2 y2 s4 = some (rR, sR) → G κ φ (QI κ φ (NV κ τ) sR rR rm_7_master.cells rm_7_master.slots) (NV κ τ) 0 0 s4 [(0, .ref (ad κ.1 19 0)), (1, .int a1), (2, .int a2), (3, .int y1), (4, .int y2)] 89 [] := by
        intro y2 s4 hf
        rw [hk2] at hf
        refine g_iload_n (i := 2) hc 2 rfl rfl dX7_master_89 (pc2 := 90) rfl ?_
        by_cases q0 : a2 = (0 : Int32)
        · have hf := ite_t hf q0
          refine g_case hc 124 (0 : Int32) q0 (by decide) (by decide) rfl (by decide) dX7_master_90 ?_
          refine g_aload_n (i := 0) hc 0 rfl rfl dX7_master_124 (pc2 := 125) rfl ?_
          refine g_iload_n (i := 1) hc 1 rfl rfl dX7_master_125 (pc2 := 126) rfl ?_
          obtain ⟨r2, s5, hp, hf⟩ := bd_some hf
          refine g_vI hc (k7_slotsOf hp) co_X7_89 (u19 (by decide)) rfl rfl (by decide) (by decide) (Nat.le_of_ble_eq_true rfl) dX7_master_126 (pc2 := 129) rfl ?_
          exact g_iret hc hf hr rfl (by decide) (by decide) dX7_master_129
        · have hf := ite_f hf q0
          by_cases q1 : a2 = (1 : Int32)
          · have hf := ite_t hf q1
            refine g_case hc 130 (1 : Int32) q1 (by decide) (by decide) rfl (by decide) dX7_master_90 ?_
            refine g_aload_n (i := 0) hc 0 rfl rfl dX7_master_130 (pc2 := 131) rfl ?_
            refine g_iload_n (i := 1) hc 1 rfl rfl dX7_master_131 (pc2 := 132) rfl ?_
            obtain ⟨r3, s6, hp, hf⟩ := bd_some hf
            refine g_vI hc (k7_debts hp) co_X7_70 (u19 (by decide)) rfl rfl (by decide) (by decide) (Nat.le_of_ble_eq_true rfl) dX7_master_132 (pc2 := 135) rfl ?_
            exact g_iret hc hf hr rfl (by decide) (by decide) dX7_master_135
          · have hf := ite_f hf q1
            by_cases q2 : a2 = (2 : Int32)
            · have hf := ite_t hf q2
              refine g_case hc 136 (2 : Int32) q2 (by decide) (by decide) rfl (by decide) dX7_master_90 ?_
              refine g_iload_n (i := 3) hc 3 rfl rfl dX7_master_136 (pc2 := 137) rfl ?_
              exact g_iret hc hf hr rfl (by decide) (by decide) dX7_master_137
            · have hf := ite_f hf q2
              by_cases q3 : a2 = (3 : Int32)
              · have hf := ite_t hf q3
                refine g_case hc 138 (3 : Int32) q3 (by decide) (by decide) rfl (by decide) dX7_master_90 ?_
                refine g_aload_n (i := 0) hc 0 rfl rfl dX7_master_138 (pc2 := 139) rfl ?_
                refine g_iload_n (i := 1) hc 1 rfl rfl dX7_master_139 (pc2 := 140) rfl ?_
                refine g_iconst (v := (0 : Int32)) hc (by decide) dX7_master_140 (pc2 := 141) rfl ?_
                obtain ⟨r4, s7, hp, hf⟩ := bd_some hf
                refine g_vI hc (k7_of hp) co_X7_59 (u19 (by decide)) rfl rfl (by decide) (by decide) (Nat.le_of_ble_eq_true rfl) dX7_master_141 (pc2 := 144) rfl ?_
                exact g_iret hc hf hr rfl (by decide) (by decide) dX7_master_144
              · have hf := ite_f hf q3
                by_cases q4 : a2 = (4 : Int32)
                · have hf := ite_t hf q4
                  refine g_case hc 145 (4 : Int32) q4 (by decide) (by decide) rfl (by decide) dX7_master_90 ?_
                  refine g_iload hc 4 rfl dX7_master_145 (pc2 := 147) rfl ?_
                  exact g_iret hc hf hr rfl (by decide) (by decide) dX7_master_147
                · have hf := ite_f hf q4
                  refine g_tableOut hc 148 ?_ (by decide) dX7_master_90 ?_
                  · have z0 := ne_i q0 (z := 0) (by decide) ; have z1 := ne_i q1 (z := 1) (by decide) ; have z2 := ne_i q2 (z := 2) (by decide) ; have z3 := ne_i q3 (z := 3) (by decide) ; have z4 := ne_i q4 (z := 4) (by decide) ; omega
                  refine g_iload_n (i := 2) hc 2 rfl rfl dX7_master_148 (pc2 := 149) rfl ?_
                  refine g_i2l hc dX7_master_149 (pc2 := 150) rfl ?_
                  refine g_ldc2 (v := (5 : Int64)) hc (gwm 1056 (by decide +kernel) (by decide +kernel)) dX7_master_150 (pc2 := 153) rfl ?_
                  refine g_ldc2 (v := (10 : Int64)) hc (gwm 1057 (by decide +kernel) (by decide +kernel)) dX7_master_153 (pc2 := 156) rfl ?_
                  obtain ⟨r5, s8, hp, hf⟩ := bd_some hf
                  refine g_sI hc (k7_in hp) co_X7_46 rfl rfl (by decide) (by decide) (Nat.le_of_ble_eq_true rfl) dX7_master_156 (pc2 := 159) rfl ?_
                  refine g_if_eq hc 173 (by decide) dX7_master_159 (pc2 := 162) rfl (fun q => ?_) (fun q => ?_)
                  · have hf := ite_t hf q
                    refine g_aload_n (i := 0) hc 0 rfl rfl dX7_master_173 (pc2 := 174) rfl ?_
                    refine g_iconst (v := (2 : Int32)) hc (by decide) dX7_master_174 (pc2 := 175) rfl ?_
                    obtain ⟨r6, s9, hp, hf⟩ := bd_some hf
                    refine g_vI hc (k7_fails hp) co_X7_101 (u19 (by decide)) rfl rfl (by decide) (by decide) (Nat.le_of_ble_eq_true rfl) dX7_master_175 (pc2 := 178) rfl ?_
                    exact g_iret hc hf hr rfl (by decide) (by decide) dX7_master_178
                  · have hf := ite_f hf q
                    refine g_aload_n (i := 0) hc 0 rfl rfl dX7_master_162 (pc2 := 163) rfl ?_
                    refine g_iload_n (i := 1) hc 1 rfl rfl dX7_master_163 (pc2 := 164) rfl ?_
                    refine g_iload_n (i := 2) hc 2 rfl rfl dX7_master_164 (pc2 := 165) rfl ?_
                    refine g_iconst (v := (4 : Int32)) hc (by decide) dX7_master_165 (pc2 := 166) rfl ?_
                    refine g_isub hc dX7_master_166 (pc2 := 167) rfl ?_
                    obtain ⟨r7, s10, hp, hf⟩ := bd_some hf
                    refine g_vI hc (k7_of hp) co_X7_59 (u19 (by decide)) rfl rfl (by decide) (by decide) (Nat.le_of_ble_eq_true rfl) dX7_master_167 (pc2 := 170) rfl ?_
                    refine g_goto hc 178 (by decide) dX7_master_170 ?_
                    exact g_iret hc hf hr rfl (by decide) (by decide) dX7_master_178
      have LP_n1 : ∀ (n1 : Nat) (m1 : Int32) (m2 : Int32) (s11 : Mem), f7_master_l53 a1 k2 n1 m1 m2 s11 = some (rR, sR) → G κ φ (QI κ φ (NV κ τ) sR rR rm_7_master.cells rm_7_master.slots) (NV κ τ) 0 0 s11 [(0, .ref (ad κ.1 19 0)), (1, .int a1), (2, .int a2), (3, .int y1), (4, .int m1), (5, .int m2)] 53 [] := by
        intro n1
        induction n1 with
        | zero => intro m1 m2 s11 hf; rw [f7_master_l53] at hf; cases hf
        | succ n1 ih_n1 =>
          intro m1 m2 s11 hf
          rw [f7_master_l53] at hf
          refine g_iload hc 5 rfl dX7_master_53 (pc2 := 55) rfl ?_
          refine g_aload_n (i := 0) hc 0 rfl rfl dX7_master_55 (pc2 := 56) rfl ?_
          refine g_iload_n (i := 1) hc 1 rfl rfl dX7_master_56 (pc2 := 57) rfl ?_
          refine g_iconst (v := (0 : Int32)) hc (by decide) dX7_master_57 (pc2 := 58) rfl ?_
          obtain ⟨r8, s12, hp, hf⟩ := bd_some hf
          refine g_vI hc (k7_of hp) co_X7_59 (u19 (by decide)) rfl rfl (by decide) (by decide) (Nat.le_of_ble_eq_true rfl) dX7_master_58 (pc2 := 61) rfl ?_
          refine g_icmp_ge hc 89 (by decide) dX7_master_61 (pc2 := 64) rfl (fun q => ?_) (fun q => ?_)
          · have hf := ite_t hf q
            refine g_sub [0, 1, 2, 3, 4] rfl ?_
            exact Hk2 _ _ hf
          · have hf := ite_f hf q
            refine g_iload hc 4 rfl dX7_master_64 (pc2 := 66) rfl ?_
            refine g_aload_n (i := 0) hc 0 rfl rfl dX7_master_66 (pc2 := 67) rfl ?_
            refine g_iload_n (i := 1) hc 1 rfl rfl dX7_master_67 (pc2 := 68) rfl ?_
            refine g_bipush (v := (8 : Int32)) hc (by decide) dX7_master_68 (pc2 := 70) rfl ?_
            refine g_iconst (v := (3 : Int32)) hc (by decide) dX7_master_70 (pc2 := 71) rfl ?_
            refine g_iload hc 5 rfl dX7_master_71 (pc2 := 73) rfl ?_
            refine g_imul hc dX7_master_73 (pc2 := 74) rfl ?_
            refine g_iadd hc dX7_master_74 (pc2 := 75) rfl ?_
            refine g_iconst (v := (1 : Int32)) hc (by decide) dX7_master_75 (pc2 := 76) rfl ?_
            refine g_iadd hc dX7_master_76 (pc2 := 77) rfl ?_
            obtain ⟨r9, s13, hp, hf⟩ := bd_some hf
            refine g_vI hc (k7_of hp) co_X7_59 (u19 (by decide)) rfl rfl (by decide) (by decide) (Nat.le_of_ble_eq_true rfl) dX7_master_77 (pc2 := 80) rfl ?_
            refine g_iadd hc dX7_master_80 (pc2 := 81) rfl ?_
            obtain ⟨x1, hx1, hf⟩ := nm_ex hf
            refine g_nmi hx1 ?_
            refine g_istore (L1 := [(4, .int x1), (0, .ref (ad κ.1 19 0)), (1, .int a1), (2, .int a2), (3, .int y1), (5, .int m2)]) hc (by decide) rfl dX7_master_81 (pc2 := 83) rfl ?_
            obtain ⟨x2, hx2, hf⟩ := nm_ex hf
            refine g_iinc (v := x2) (L1 := [(5, .int x2), (4, .int x1), (0, .ref (ad κ.1 19 0)), (1, .int a1), (2, .int a2), (3, .int y1)]) hc 5 rfl (by rw [hx2]; rfl) (by decide) rfl dX7_master_83 (pc2 := 86) rfl ?_
            refine g_goto hc 53 (by decide) dX7_master_86 ?_
            refine g_sub [2, 3, 4, 5, 1, 0] rfl ?_
            exact ih_n1 _ _ _ hf
      refine g_sub [2, 3, 4, 5, 1, 0] rfl ?_
      exact LP_n1 _ _ _ _ hf
    have LP_n2 : ∀ (n2 : Nat) (m3 : Int32) (m4 : Int32) (s14 : Mem), f7_master_l24 a1 k1 n2 m3 m4 s14 = some (rR, sR) → G κ φ (QI κ φ (NV κ τ) sR rR rm_7_master.cells rm_7_master.slots) (NV κ τ) 0 0 s14 [(0, .ref (ad κ.1 19 0)), (1, .int a1), (2, .int a2), (3, .int m3), (4, .int m4)] 24 [] := by
      intro n2
      induction n2 with
      | zero => intro m3 m4 s14 hf; rw [f7_master_l24] at hf; cases hf
      | succ n2 ih_n2 =>
        intro m3 m4 s14 hf
        rw [f7_master_l24] at hf
        refine g_iload hc 4 rfl dX7_master_24 (pc2 := 26) rfl ?_
        refine g_bipush (v := (6 : Int32)) hc (by decide) dX7_master_26 (pc2 := 28) rfl ?_
        refine g_icmp_ge hc 47 (by decide) dX7_master_28 (pc2 := 31) rfl (fun q => ?_) (fun q => ?_)
        · have hf := ite_t hf q
          refine g_sub [0, 1, 2, 3] rfl ?_
          exact Hk1 _ _ hf
        · have hf := ite_f hf q
          refine g_iload_n (i := 3) hc 3 rfl rfl dX7_master_31 (pc2 := 32) rfl ?_
          refine g_aload_n (i := 0) hc 0 rfl rfl dX7_master_32 (pc2 := 33) rfl ?_
          refine g_iload hc 4 rfl dX7_master_33 (pc2 := 35) rfl ?_
          refine g_iload_n (i := 1) hc 1 rfl rfl dX7_master_35 (pc2 := 36) rfl ?_
          obtain ⟨r10, s15, hp, hf⟩ := bd_some hf
          refine g_vI hc (k7_owed hp) co_X7_56 (u19 (by decide)) rfl rfl (by decide) (by decide) (Nat.le_of_ble_eq_true rfl) dX7_master_36 (pc2 := 39) rfl ?_
          refine g_iadd hc dX7_master_39 (pc2 := 40) rfl ?_
          obtain ⟨x3, hx3, hf⟩ := nm_ex hf
          refine g_nmi hx3 ?_
          refine g_istore_n (i := 3) (L1 := [(3, .int x3), (0, .ref (ad κ.1 19 0)), (1, .int a1), (2, .int a2), (4, .int m4)]) hc rfl (by decide) rfl dX7_master_40 (pc2 := 41) rfl ?_
          obtain ⟨x4, hx4, hf⟩ := nm_ex hf
          refine g_iinc (v := x4) (L1 := [(4, .int x4), (3, .int x3), (0, .ref (ad κ.1 19 0)), (1, .int a1), (2, .int a2)]) hc 4 rfl (by rw [hx4]; rfl) (by decide) rfl dX7_master_41 (pc2 := 44) rfl ?_
          refine g_goto hc 24 (by decide) dX7_master_44 ?_
          refine g_sub [2, 3, 4, 1, 0] rfl ?_
          exact ih_n2 _ _ _ hf
    refine g_sub [2, 3, 4, 1, 0] rfl ?_
    exact LP_n2 _ _ _ _ hf
  · have hf := ite_t hf q
    refine g_aload_n (i := 0) hc 0 rfl rfl dX7_master_13 (pc2 := 14) rfl ?_
    refine g_iconst (v := (1 : Int32)) hc (by decide) dX7_master_14 (pc2 := 15) rfl ?_
    obtain ⟨r11, s16, hp, hf⟩ := bd_some hf
    refine g_vI hc (k7_fails hp) co_X7_101 (u19 (by decide)) rfl rfl (by decide) (by decide) (Nat.le_of_ble_eq_true rfl) dX7_master_15 (pc2 := 18) rfl ?_
    exact g_iret hc hf hr rfl (by decide) (by decide) dX7_master_18
def f7_owner (a1 : Int32) (s0 : Mem) : Option (Int32 × Mem) :=
  nm (ms s0 62 0 0 (0 : Int32)) fun s1 => bd (f7_isSlot a1 s1) fun r1 s2 => (if r1 = (0 : Int32) then bd (f7_fails (1 : Int32) s2) fun r2 s3 => some (r2, s3) else gd (ib ((11 : Int32) + a1) 291) (some (s2 20 0 ((11 : Int32) + a1).toNatClampNeg, s2)))
def rm_7_owner : Room := { frames := 2, cells := 0, slots := 0, locals := 46 }
set_option maxHeartbeats 4000000 in
set_option maxRecDepth 100000 in
theorem k7_owner {κ : Kx} {τ : Nat → Int64} {a1 : Int32} {s0 sR : Mem} {rR : Int32}  (hf : f7_owner a1 s0 = some (rR, sR)) : CtI κ yX7_owner cX7_owner 2 (some .int) rm_7_owner (NV κ τ) (NV κ τ) [.ref (ad κ.1 19 0), .int a1] s0 sR rR := by
  refine ct_I (by decide +kernel) (Nat.le_of_ble_eq_true rfl) (fun φ hc hr => ?_)
  have hc : Cx κ φ RX7 cX7_owner 2 rm_7_owner := hc
  show G κ φ (QI κ φ (NV κ τ) sR rR rm_7_owner.cells rm_7_owner.slots) (NV κ τ) 0 0 s0 [(0, .ref (ad κ.1 19 0)), (1, .int a1)] 0 []
  unfold f7_owner at hf
  refine g_aload_n (i := 0) hc 0 rfl rfl dX7_owner_0 (pc2 := 1) rfl ?_
  refine g_iconst (v := (0 : Int32)) hc (by decide) dX7_owner_1 (pc2 := 2) rfl ?_
  obtain ⟨s1, hs1, hf⟩ := nm_ex hf
  refine g_puti hc (by decide) fo_X7_39 clO_19 poK_19_9 rfl (u19 (by decide)) rfl rfl dX7_owner_2 (pc2 := 5) rfl ?_
  refine g_nms hs1 ?_
  refine g_aload_n (i := 0) hc 0 rfl rfl dX7_owner_5 (pc2 := 6) rfl ?_
  refine g_iload_n (i := 1) hc 1 rfl rfl dX7_owner_6 (pc2 := 7) rfl ?_
  obtain ⟨r1, s2, hp, hf⟩ := bd_some hf
  refine g_vI hc (k7_isSlot hp) co_X7_153 (u19 (by decide)) rfl rfl (by decide) (by decide) (Nat.le_of_ble_eq_true rfl) dX7_owner_7 (pc2 := 10) rfl ?_
  refine g_if_eq hc 25 (by decide) dX7_owner_10 (pc2 := 13) rfl (fun q => ?_) (fun q => ?_)
  · have hf := ite_t hf q
    refine g_aload_n (i := 0) hc 0 rfl rfl dX7_owner_25 (pc2 := 26) rfl ?_
    refine g_iconst (v := (1 : Int32)) hc (by decide) dX7_owner_26 (pc2 := 27) rfl ?_
    obtain ⟨r2, s3, hp, hf⟩ := bd_some hf
    refine g_vI hc (k7_fails hp) co_X7_101 (u19 (by decide)) rfl rfl (by decide) (by decide) (Nat.le_of_ble_eq_true rfl) dX7_owner_27 (pc2 := 30) rfl ?_
    exact g_iret hc hf hr rfl (by decide) (by decide) dX7_owner_30
  · have hf := ite_f hf q
    refine g_aload_n (i := 0) hc 0 rfl rfl dX7_owner_13 (pc2 := 14) rfl ?_
    refine g_getr (q := ad κ.1 20 0) hc fo_X7_7 (u19 (by decide)) rfl dX7_owner_14 (pc2 := 17) rfl ?_
    refine g_bipush (v := (11 : Int32)) hc (by decide) dX7_owner_17 (pc2 := 19) rfl ?_
    refine g_iload_n (i := 1) hc 1 rfl rfl dX7_owner_19 (pc2 := 20) rfl ?_
    refine g_iadd hc dX7_owner_20 (pc2 := 21) rfl ?_
    obtain ⟨hg1, hf⟩ := gd_some hf
    refine g_aldi hc 20 0 rfl (u20 (by decide)) hg1 dX7_owner_21 (pc2 := 22) rfl ?_
    refine g_goto hc 30 (by decide) dX7_owner_22 ?_
    exact g_iret hc hf hr rfl (by decide) (by decide) dX7_owner_30
def f7_owes (a1 : Int32) (a2 : Int32) (s0 : Mem) : Option (Int32 × Mem) :=
  nm (ms s0 62 0 0 (0 : Int32)) fun s1 => bd (f7_isMaster a1 s1) fun r1 s2 => nm (fun (s3 : Mem) => bd (f7_fails (1 : Int32) s3) fun r2 s4 => some (r2, s4)) fun j1 => (if r1 = (0 : Int32) then j1 s2 else bd (f7_isMaster a2 s2) fun r3 s5 => (if r3 = (0 : Int32) then j1 s5 else bd (f7_owed a1 a2 s5) fun r4 s6 => some (r4, s6)))
def rm_7_owes : Room := { frames := 2, cells := 0, slots := 0, locals := 46 }
set_option maxHeartbeats 4000000 in
set_option maxRecDepth 100000 in
theorem k7_owes {κ : Kx} {τ : Nat → Int64} {a1 : Int32} {a2 : Int32} {s0 sR : Mem} {rR : Int32}  (hf : f7_owes a1 a2 s0 = some (rR, sR)) : CtI κ yX7_owes cX7_owes 3 (some .int) rm_7_owes (NV κ τ) (NV κ τ) [.ref (ad κ.1 19 0), .int a1, .int a2] s0 sR rR := by
  refine ct_I (by decide +kernel) (Nat.le_of_ble_eq_true rfl) (fun φ hc hr => ?_)
  have hc : Cx κ φ RX7 cX7_owes 3 rm_7_owes := hc
  show G κ φ (QI κ φ (NV κ τ) sR rR rm_7_owes.cells rm_7_owes.slots) (NV κ τ) 0 0 s0 [(0, .ref (ad κ.1 19 0)), (1, .int a1), (2, .int a2)] 0 []
  unfold f7_owes at hf
  refine g_aload_n (i := 0) hc 0 rfl rfl dX7_owes_0 (pc2 := 1) rfl ?_
  refine g_iconst (v := (0 : Int32)) hc (by decide) dX7_owes_1 (pc2 := 2) rfl ?_
  obtain ⟨s1, hs1, hf⟩ := nm_ex hf
  refine g_puti hc (by decide) fo_X7_39 clO_19 poK_19_9 rfl (u19 (by decide)) rfl rfl dX7_owes_2 (pc2 := 5) rfl ?_
  refine g_nms hs1 ?_
  refine g_aload_n (i := 0) hc 0 rfl rfl dX7_owes_5 (pc2 := 6) rfl ?_
  refine g_iload_n (i := 1) hc 1 rfl rfl dX7_owes_6 (pc2 := 7) rfl ?_
  obtain ⟨r1, s2, hp, hf⟩ := bd_some hf
  refine g_vI hc (k7_isMaster hp) co_X7_146 (u19 (by decide)) rfl rfl (by decide) (by decide) (Nat.le_of_ble_eq_true rfl) dX7_owes_7 (pc2 := 10) rfl ?_
  obtain ⟨j1, hj1, hf⟩ := nm_ex hf
  have Hj1 : ∀ (s3 : Mem), j1 s3 = some (rR, sR) → G κ φ (QI κ φ (NV κ τ) sR rR rm_7_owes.cells rm_7_owes.slots) (NV κ τ) 0 0 s3 [(0, .ref (ad κ.1 19 0))] 30 [] := by
    intro s3 hf
    rw [hj1] at hf
    refine g_aload_n (i := 0) hc 0 rfl rfl dX7_owes_30 (pc2 := 31) rfl ?_
    refine g_iconst (v := (1 : Int32)) hc (by decide) dX7_owes_31 (pc2 := 32) rfl ?_
    obtain ⟨r2, s4, hp, hf⟩ := bd_some hf
    refine g_vI hc (k7_fails hp) co_X7_101 (u19 (by decide)) rfl rfl (by decide) (by decide) (Nat.le_of_ble_eq_true rfl) dX7_owes_32 (pc2 := 35) rfl ?_
    exact g_iret hc hf hr rfl (by decide) (by decide) dX7_owes_35
  refine g_if_eq hc 30 (by decide) dX7_owes_10 (pc2 := 13) rfl (fun q => ?_) (fun q => ?_)
  · have hf := ite_t hf q
    refine g_sub [0] rfl ?_
    exact Hj1 _ hf
  · have hf := ite_f hf q
    refine g_aload_n (i := 0) hc 0 rfl rfl dX7_owes_13 (pc2 := 14) rfl ?_
    refine g_iload_n (i := 2) hc 2 rfl rfl dX7_owes_14 (pc2 := 15) rfl ?_
    obtain ⟨r3, s5, hp, hf⟩ := bd_some hf
    refine g_vI hc (k7_isMaster hp) co_X7_146 (u19 (by decide)) rfl rfl (by decide) (by decide) (Nat.le_of_ble_eq_true rfl) dX7_owes_15 (pc2 := 18) rfl ?_
    refine g_if_eq hc 30 (by decide) dX7_owes_18 (pc2 := 21) rfl (fun q => ?_) (fun q => ?_)
    · have hf := ite_t hf q
      refine g_sub [0] rfl ?_
      exact Hj1 _ hf
    · have hf := ite_f hf q
      refine g_aload_n (i := 0) hc 0 rfl rfl dX7_owes_21 (pc2 := 22) rfl ?_
      refine g_iload_n (i := 1) hc 1 rfl rfl dX7_owes_22 (pc2 := 23) rfl ?_
      refine g_iload_n (i := 2) hc 2 rfl rfl dX7_owes_23 (pc2 := 24) rfl ?_
      obtain ⟨r4, s6, hp, hf⟩ := bd_some hf
      refine g_vI hc (k7_owed hp) co_X7_56 (u19 (by decide)) rfl rfl (by decide) (by decide) (Nat.le_of_ble_eq_true rfl) dX7_owes_24 (pc2 := 27) rfl ?_
      refine g_goto hc 35 (by decide) dX7_owes_27 ?_
      exact g_iret hc hf hr rfl (by decide) (by decide) dX7_owes_35
def f7_burst (a1 : Int32) (a2 : Int32) (a3 : Int32) (s0 : Mem) : Option (Int32 × Mem) :=
  nm (ms s0 62 0 0 (0 : Int32)) fun s1 => bd (f7_isMaster a1 s1) fun r1 s2 => (if r1 = (0 : Int32) then bd (f7_fails (1 : Int32) s2) fun r6 s8 => some (r6, s8) else nm (fun (s3 : Mem) => bd (f7_fails (2 : Int32) s3) fun r2 s4 => some (r2, s4)) fun j1 => (if a2 < (0 : Int32) then j1 s2 else bd (f7_in (a3.toInt64) (0 : Int64) (2 : Int64) s2) fun r3 s5 => (if r3 = (0 : Int32) then j1 s5 else bd (f7_of a1 (0 : Int32) s5) fun r4 s6 => (if r4 ≤ a2 then some ((-9 : Int32), s6) else bd (f7_of a1 (((8 : Int32) + ((3 : Int32) * a2)) + a3) s6) fun r5 s7 => some (r5, s7)))))
def rm_7_burst : Room := { frames := 2, cells := 0, slots := 0, locals := 46 }
set_option maxHeartbeats 4000000 in
set_option maxRecDepth 100000 in
theorem k7_burst {κ : Kx} {τ : Nat → Int64} {a1 : Int32} {a2 : Int32} {a3 : Int32} {s0 sR : Mem} {rR : Int32}  (hf : f7_burst a1 a2 a3 s0 = some (rR, sR)) : CtI κ yX7_burst cX7_burst 4 (some .int) rm_7_burst (NV κ τ) (NV κ τ) [.ref (ad κ.1 19 0), .int a1, .int a2, .int a3] s0 sR rR := by
  refine ct_I (by decide +kernel) (Nat.le_of_ble_eq_true rfl) (fun φ hc hr => ?_)
  have hc : Cx κ φ RX7 cX7_burst 4 rm_7_burst := hc
  show G κ φ (QI κ φ (NV κ τ) sR rR rm_7_burst.cells rm_7_burst.slots) (NV κ τ) 0 0 s0 [(0, .ref (ad κ.1 19 0)), (1, .int a1), (2, .int a2), (3, .int a3)] 0 []
  unfold f7_burst at hf
  refine g_aload_n (i := 0) hc 0 rfl rfl dX7_burst_0 (pc2 := 1) rfl ?_
  refine g_iconst (v := (0 : Int32)) hc (by decide) dX7_burst_1 (pc2 := 2) rfl ?_
  obtain ⟨s1, hs1, hf⟩ := nm_ex hf
  refine g_puti hc (by decide) fo_X7_39 clO_19 poK_19_9 rfl (u19 (by decide)) rfl rfl dX7_burst_2 (pc2 := 5) rfl ?_
  refine g_nms hs1 ?_
  refine g_aload_n (i := 0) hc 0 rfl rfl dX7_burst_5 (pc2 := 6) rfl ?_
  refine g_iload_n (i := 1) hc 1 rfl rfl dX7_burst_6 (pc2 := 7) rfl ?_
  obtain ⟨r1, s2, hp, hf⟩ := bd_some hf
  refine g_vI hc (k7_isMaster hp) co_X7_146 (u19 (by decide)) rfl rfl (by decide) (by decide) (Nat.le_of_ble_eq_true rfl) dX7_burst_7 (pc2 := 10) rfl ?_
  refine g_if_ne hc 19 (by decide) dX7_burst_10 (pc2 := 13) rfl (fun q => ?_) (fun q => ?_)
  · have hf := ite_f hf q
    refine g_iload_n (i := 2) hc 2 rfl rfl dX7_burst_19 (pc2 := 20) rfl ?_
    obtain ⟨j1, hj1, hf⟩ := nm_ex hf
    have Hj1 : ∀ (s3 : Mem), j1 s3 = some (rR, sR) → G κ φ (QI κ φ (NV κ τ) sR rR rm_7_burst.cells rm_7_burst.slots) (NV κ τ) 0 0 s3 [(0, .ref (ad κ.1 19 0))] 35 [] := by
      intro s3 hf
      rw [hj1] at hf
      refine g_aload_n (i := 0) hc 0 rfl rfl dX7_burst_35 (pc2 := 36) rfl ?_
      refine g_iconst (v := (2 : Int32)) hc (by decide) dX7_burst_36 (pc2 := 37) rfl ?_
      obtain ⟨r2, s4, hp, hf⟩ := bd_some hf
      refine g_vI hc (k7_fails hp) co_X7_101 (u19 (by decide)) rfl rfl (by decide) (by decide) (Nat.le_of_ble_eq_true rfl) dX7_burst_37 (pc2 := 40) rfl ?_
      exact g_iret hc hf hr rfl (by decide) (by decide) dX7_burst_40
    refine g_if_lt hc 35 (by decide) dX7_burst_20 (pc2 := 23) rfl (fun q => ?_) (fun q => ?_)
    · have hf := ite_t hf q
      refine g_sub [0] rfl ?_
      exact Hj1 _ hf
    · have hf := ite_f hf q
      refine g_iload_n (i := 3) hc 3 rfl rfl dX7_burst_23 (pc2 := 24) rfl ?_
      refine g_i2l hc dX7_burst_24 (pc2 := 25) rfl ?_
      refine g_lconst (v := (0 : Int64)) hc (by decide) dX7_burst_25 (pc2 := 26) rfl ?_
      refine g_ldc2 (v := (2 : Int64)) hc (gwm 1074 (by decide +kernel) (by decide +kernel)) dX7_burst_26 (pc2 := 29) rfl ?_
      obtain ⟨r3, s5, hp, hf⟩ := bd_some hf
      refine g_sI hc (k7_in hp) co_X7_46 rfl rfl (by decide) (by decide) (Nat.le_of_ble_eq_true rfl) dX7_burst_29 (pc2 := 32) rfl ?_
      refine g_if_ne hc 41 (by decide) dX7_burst_32 (pc2 := 35) rfl (fun q => ?_) (fun q => ?_)
      · have hf := ite_f hf q
        refine g_iload_n (i := 2) hc 2 rfl rfl dX7_burst_41 (pc2 := 42) rfl ?_
        refine g_aload_n (i := 0) hc 0 rfl rfl dX7_burst_42 (pc2 := 43) rfl ?_
        refine g_iload_n (i := 1) hc 1 rfl rfl dX7_burst_43 (pc2 := 44) rfl ?_
        refine g_iconst (v := (0 : Int32)) hc (by decide) dX7_burst_44 (pc2 := 45) rfl ?_
        obtain ⟨r4, s6, hp, hf⟩ := bd_some hf
        refine g_vI hc (k7_of hp) co_X7_59 (u19 (by decide)) rfl rfl (by decide) (by decide) (Nat.le_of_ble_eq_true rfl) dX7_burst_45 (pc2 := 48) rfl ?_
        refine g_icmp_ge hc 67 (by decide) dX7_burst_48 (pc2 := 51) rfl (fun q => ?_) (fun q => ?_)
        · have hf := ite_t hf q
          refine g_bipush (v := (-9 : Int32)) hc (by decide) dX7_burst_67 (pc2 := 69) rfl ?_
          exact g_iret hc hf hr rfl (by decide) (by decide) dX7_burst_69
        · have hf := ite_f hf q
          refine g_aload_n (i := 0) hc 0 rfl rfl dX7_burst_51 (pc2 := 52) rfl ?_
          refine g_iload_n (i := 1) hc 1 rfl rfl dX7_burst_52 (pc2 := 53) rfl ?_
          refine g_bipush (v := (8 : Int32)) hc (by decide) dX7_burst_53 (pc2 := 55) rfl ?_
          refine g_iconst (v := (3 : Int32)) hc (by decide) dX7_burst_55 (pc2 := 56) rfl ?_
          refine g_iload_n (i := 2) hc 2 rfl rfl dX7_burst_56 (pc2 := 57) rfl ?_
          refine g_imul hc dX7_burst_57 (pc2 := 58) rfl ?_
          refine g_iadd hc dX7_burst_58 (pc2 := 59) rfl ?_
          refine g_iload_n (i := 3) hc 3 rfl rfl dX7_burst_59 (pc2 := 60) rfl ?_
          refine g_iadd hc dX7_burst_60 (pc2 := 61) rfl ?_
          obtain ⟨r5, s7, hp, hf⟩ := bd_some hf
          refine g_vI hc (k7_of hp) co_X7_59 (u19 (by decide)) rfl rfl (by decide) (by decide) (Nat.le_of_ble_eq_true rfl) dX7_burst_61 (pc2 := 64) rfl ?_
          refine g_goto hc 69 (by decide) dX7_burst_64 ?_
          exact g_iret hc hf hr rfl (by decide) (by decide) dX7_burst_69
      · have hf := ite_t hf q
        refine g_sub [0] rfl ?_
        exact Hj1 _ hf
  · have hf := ite_t hf q
    refine g_aload_n (i := 0) hc 0 rfl rfl dX7_burst_13 (pc2 := 14) rfl ?_
    refine g_iconst (v := (1 : Int32)) hc (by decide) dX7_burst_14 (pc2 := 15) rfl ?_
    obtain ⟨r6, s8, hp, hf⟩ := bd_some hf
    refine g_vI hc (k7_fails hp) co_X7_101 (u19 (by decide)) rfl rfl (by decide) (by decide) (Nat.le_of_ble_eq_true rfl) dX7_burst_15 (pc2 := 18) rfl ?_
    exact g_iret hc hf hr rfl (by decide) (by decide) dX7_burst_18
def f7_order_l32 (m1 : Int32) (k2 : Int32 → Mem → Option (Int32 × Mem)) : Nat → Int32 → Int32 → Mem → Option (Int32 × Mem)
  | 0, _, _, _ => none
  | n2 + 1, m2, m3, s5 => (if (s5 20 0 ((0 : Int32)).toNatClampNeg) ≤ m3 then k2 m2 s5 else bd (f7_debts m3 s5) fun r1 s6 => bd (f7_debts m1 s6) fun r2 s7 => nm (fun (y2 : Int32) (s8 : Mem) => nm (m2 + y2) fun x2 => nm (m3 + (1 : Int32)) fun x3 => f7_order_l32 m1 k2 n2 x2 x3 s8) fun j1 => nm (fun (s9 : Mem) => j1 (1 : Int32) s9) fun j2 => (if r2 < r1 then j2 s7 else bd (f7_debts m3 s7) fun r3 s10 => bd (f7_debts m1 s10) fun r4 s11 => nm (fun (s12 : Mem) => j1 (0 : Int32) s12) fun j3 => (if r3 = r4 then (if m1 ≤ m3 then j3 s11 else j2 s11) else j3 s11)))
def f7_order_l17 (a1 : Int32) (k1 : Mem → Option (Int32 × Mem)) : Nat → Int32 → Mem → Option (Int32 × Mem)
  | 0, _, _ => none
  | n1 + 1, m1, s3 => (if (s3 20 0 ((0 : Int32)).toNatClampNeg) ≤ m1 then k1 s3 else nm (fun (y1 : Int32) (s4 : Mem) => (if y1 = a1 then some (m1, s4) else nm (m1 + (1 : Int32)) fun x1 => f7_order_l17 a1 k1 n1 x1 s4)) fun k2 => f7_order_l32 m1 k2 FU (0 : Int32) (0 : Int32) s3)
def f7_order (a1 : Int32) (s0 : Mem) : Option (Int32 × Mem) :=
  nm (ms s0 62 0 0 (0 : Int32)) fun s1 => (if (0 : Int32) ≤ a1 then nm (fun (s2 : Mem) => some ((-9 : Int32), s2)) fun k1 => f7_order_l17 a1 k1 FU (0 : Int32) s1 else bd (f7_fails (1 : Int32) s1) fun r5 s13 => some (r5, s13))
def rm_7_order : Room := { frames := 2, cells := 0, slots := 0, locals := 45 }
set_option maxHeartbeats 4000000 in
set_option maxRecDepth 100000 in
theorem k7_order {κ : Kx} {τ : Nat → Int64} {a1 : Int32} {s0 sR : Mem} {rR : Int32}  (hf : f7_order a1 s0 = some (rR, sR)) : CtI κ yX7_order cX7_order 5 (some .int) rm_7_order (NV κ τ) (NV κ τ) [.ref (ad κ.1 19 0), .int a1] s0 sR rR := by
  refine ct_I (by decide +kernel) (Nat.le_of_ble_eq_true rfl) (fun φ hc hr => ?_)
  have hc : Cx κ φ RX7 cX7_order 5 rm_7_order := hc
  show G κ φ (QI κ φ (NV κ τ) sR rR rm_7_order.cells rm_7_order.slots) (NV κ τ) 0 0 s0 [(0, .ref (ad κ.1 19 0)), (1, .int a1)] 0 []
  unfold f7_order at hf
  refine g_aload_n (i := 0) hc 0 rfl rfl dX7_order_0 (pc2 := 1) rfl ?_
  refine g_iconst (v := (0 : Int32)) hc (by decide) dX7_order_1 (pc2 := 2) rfl ?_
  obtain ⟨s1, hs1, hf⟩ := nm_ex hf
  refine g_puti hc (by decide) fo_X7_39 clO_19 poK_19_9 rfl (u19 (by decide)) rfl rfl dX7_order_2 (pc2 := 5) rfl ?_
  refine g_nms hs1 ?_
  refine g_iload_n (i := 1) hc 1 rfl rfl dX7_order_5 (pc2 := 6) rfl ?_
  refine g_if_ge hc 15 (by decide) dX7_order_6 (pc2 := 9) rfl (fun q => ?_) (fun q => ?_)
  · have hf := ite_t hf q
    refine g_iconst (v := (0 : Int32)) hc (by decide) dX7_order_15 (pc2 := 16) rfl ?_
    refine g_istore_n (i := 2) (L1 := [(2, .int (0 : Int32)), (0, .ref (ad κ.1 19 0)), (1, .int a1)]) hc rfl (by decide) rfl dX7_order_16 (pc2 := 17) rfl ?_
    obtain ⟨k1, hk1, hf⟩ := nm_ex hf
    have Hk1 : ∀ (s2 : Mem), k1 s2 = some (rR, sR) → G κ φ (QI κ φ (NV κ τ) sR rR rm_7_order.cells rm_7_order.slots) (NV κ τ) 0 0 s2 [] 104 [] := by
      intro s2 hf
      rw [hk1] at hf
      refine g_bipush (v := (-9 : Int32)) hc (by decide) dX7_order_104 (pc2 := 106) rfl ?_
      exact g_iret hc hf hr rfl (by decide) (by decide) dX7_order_106
    have LP_n1 : ∀ (n1 : Nat) (m1 : Int32) (s3 : Mem), f7_order_l17 a1 k1 n1 m1 s3 = some (rR, sR) → G κ φ (QI κ φ (NV κ τ) sR rR rm_7_order.cells rm_7_order.slots) (NV κ τ) 0 0 s3 [(0, .ref (ad κ.1 19 0)), (1, .int a1), (2, .int m1)] 17 [] := by
      intro n1
      induction n1 with
      | zero => intro m1 s3 hf; rw [f7_order_l17] at hf; cases hf
      | succ n1 ih_n1 =>
        intro m1 s3 hf
        rw [f7_order_l17] at hf
        refine g_iload_n (i := 2) hc 2 rfl rfl dX7_order_17 (pc2 := 18) rfl ?_
        refine g_aload_n (i := 0) hc 0 rfl rfl dX7_order_18 (pc2 := 19) rfl ?_
        refine g_getr (q := ad κ.1 20 0) hc fo_X7_7 (u19 (by decide)) rfl dX7_order_19 (pc2 := 22) rfl ?_
        refine g_iconst (v := (0 : Int32)) hc (by decide) dX7_order_22 (pc2 := 23) rfl ?_
        refine g_aldi hc 20 0 rfl (u20 (by decide)) (by decide) dX7_order_23 (pc2 := 24) rfl ?_
        refine g_icmp_ge hc 104 (by decide) dX7_order_24 (pc2 := 27) rfl (fun q => ?_) (fun q => ?_)
        · have hf := ite_t hf q
          refine g_sub [] rfl ?_
          exact Hk1 _ hf
        · have hf := ite_f hf q
          refine g_iconst (v := (0 : Int32)) hc (by decide) dX7_order_27 (pc2 := 28) rfl ?_
          refine g_istore_n (i := 3) (L1 := [(3, .int (0 : Int32)), (0, .ref (ad κ.1 19 0)), (1, .int a1), (2, .int m1)]) hc rfl (by decide) rfl dX7_order_28 (pc2 := 29) rfl ?_
          refine g_iconst (v := (0 : Int32)) hc (by decide) dX7_order_29 (pc2 := 30) rfl ?_
          refine g_istore (L1 := [(4, .int (0 : Int32)), (3, .int (0 : Int32)), (0, .ref (ad κ.1 19 0)), (1, .int a1), (2, .int m1)]) hc (by decide) rfl dX7_order_30 (pc2 := 32) rfl ?_
          obtain ⟨k2, hk2, hf⟩ := nm_ex hf
          have Hk2 : ∀ (y1 : Int32) (s4 : Mem), k2 y1 s4 = some (rR, sR) → G κ φ (QI κ φ (NV κ τ) sR rR rm_7_order.cells rm_7_order.slots) (NV κ τ) 0 0 s4 [(0, .ref (ad κ.1 19 0)), (1, .int a1), (2, .int m1), (3, .int y1)] 91 [] := by
            intro y1 s4 hf
            rw [hk2] at hf
            refine g_iload_n (i := 3) hc 3 rfl rfl dX7_order_91 (pc2 := 92) rfl ?_
            refine g_iload_n (i := 1) hc 1 rfl rfl dX7_order_92 (pc2 := 93) rfl ?_
            refine g_icmp_ne hc 98 (by decide) dX7_order_93 (pc2 := 96) rfl (fun q => ?_) (fun q => ?_)
            · have hf := ite_f hf q
              obtain ⟨x1, hx1, hf⟩ := nm_ex hf
              refine g_iinc (v := x1) (L1 := [(2, .int x1), (0, .ref (ad κ.1 19 0)), (1, .int a1), (3, .int y1)]) hc 2 rfl (by rw [hx1]; rfl) (by decide) rfl dX7_order_98 (pc2 := 101) rfl ?_
              refine g_goto hc 17 (by decide) dX7_order_101 ?_
              refine g_sub [1, 2, 0] rfl ?_
              exact ih_n1 _ _ hf
            · have hf := ite_t hf q
              refine g_iload_n (i := 2) hc 2 rfl rfl dX7_order_96 (pc2 := 97) rfl ?_
              exact g_iret hc hf hr rfl (by decide) (by decide) dX7_order_97
          have LP_n2 : ∀ (n2 : Nat) (m2 : Int32) (m3 : Int32) (s5 : Mem), f7_order_l32 m1 k2 n2 m2 m3 s5 = some (rR, sR) → G κ φ (QI κ φ (NV κ τ) sR rR rm_7_order.cells rm_7_order.slots) (NV κ τ) 0 0 s5 [(0, .ref (ad κ.1 19 0)), (1, .int a1), (2, .int m1), (3, .int m2), (4, .int m3)] 32 [] := by
            intro n2
            induction n2 with
            | zero => intro m2 m3 s5 hf; rw [f7_order_l32] at hf; cases hf
            | succ n2 ih_n2 =>
              intro m2 m3 s5 hf
              rw [f7_order_l32] at hf
              refine g_iload hc 4 rfl dX7_order_32 (pc2 := 34) rfl ?_
              refine g_aload_n (i := 0) hc 0 rfl rfl dX7_order_34 (pc2 := 35) rfl ?_
              refine g_getr (q := ad κ.1 20 0) hc fo_X7_7 (u19 (by decide)) rfl dX7_order_35 (pc2 := 38) rfl ?_
              refine g_iconst (v := (0 : Int32)) hc (by decide) dX7_order_38 (pc2 := 39) rfl ?_
              refine g_aldi hc 20 0 rfl (u20 (by decide)) (by decide) dX7_order_39 (pc2 := 40) rfl ?_
              refine g_icmp_ge hc 91 (by decide) dX7_order_40 (pc2 := 43) rfl (fun q => ?_) (fun q => ?_)
              · have hf := ite_t hf q
                refine g_sub [0, 1, 2, 3] rfl ?_
                exact Hk2 _ _ hf
              · have hf := ite_f hf q
                refine g_iload_n (i := 3) hc 3 rfl rfl dX7_order_43 (pc2 := 44) rfl ?_
                refine g_aload_n (i := 0) hc 0 rfl rfl dX7_order_44 (pc2 := 45) rfl ?_
                refine g_iload hc 4 rfl dX7_order_45 (pc2 := 47) rfl ?_
                obtain ⟨r1, s6, hp, hf⟩ := bd_some hf
                refine g_vI hc (k7_debts hp) co_X7_70 (u19 (by decide)) rfl rfl (by decide) (by decide) (Nat.le_of_ble_eq_true rfl) dX7_order_47 (pc2 := 50) rfl ?_
                refine g_aload_n (i := 0) hc 0 rfl rfl dX7_order_50 (pc2 := 51) rfl ?_
                refine g_iload_n (i := 2) hc 2 rfl rfl dX7_order_51 (pc2 := 52) rfl ?_
                obtain ⟨r2, s7, hp, hf⟩ := bd_some hf
                refine g_vI hc (k7_debts hp) co_X7_70 (u19 (by decide)) rfl rfl (by decide) (by decide) (Nat.le_of_ble_eq_true rfl) dX7_order_52 (pc2 := 55) rfl ?_
                obtain ⟨j1, hj1, hf⟩ := nm_ex hf
                have Hj1 : ∀ (y2 : Int32) (s8 : Mem), j1 y2 s8 = some (rR, sR) → G κ φ (QI κ φ (NV κ τ) sR rR rm_7_order.cells rm_7_order.slots) (NV κ τ) 0 0 s8 [(0, .ref (ad κ.1 19 0)), (1, .int a1), (2, .int m1), (4, .int m3)] 83 [.int y2, .int m2] := by
                  intro y2 s8 hf
                  rw [hj1] at hf
                  refine g_iadd hc dX7_order_83 (pc2 := 84) rfl ?_
                  obtain ⟨x2, hx2, hf⟩ := nm_ex hf
                  refine g_nmi hx2 ?_
                  refine g_istore_n (i := 3) (L1 := [(3, .int x2), (0, .ref (ad κ.1 19 0)), (1, .int a1), (2, .int m1), (4, .int m3)]) hc rfl (by decide) rfl dX7_order_84 (pc2 := 85) rfl ?_
                  obtain ⟨x3, hx3, hf⟩ := nm_ex hf
                  refine g_iinc (v := x3) (L1 := [(4, .int x3), (3, .int x2), (0, .ref (ad κ.1 19 0)), (1, .int a1), (2, .int m1)]) hc 4 rfl (by rw [hx3]; rfl) (by decide) rfl dX7_order_85 (pc2 := 88) rfl ?_
                  refine g_goto hc 32 (by decide) dX7_order_88 ?_
                  refine g_sub [2, 3, 4, 1, 0] rfl ?_
                  exact ih_n2 _ _ _ hf
                obtain ⟨j2, hj2, hf⟩ := nm_ex hf
                have Hj2 : ∀ (s9 : Mem), j2 s9 = some (rR, sR) → G κ φ (QI κ φ (NV κ τ) sR rR rm_7_order.cells rm_7_order.slots) (NV κ τ) 0 0 s9 [(0, .ref (ad κ.1 19 0)), (1, .int a1), (2, .int m1), (4, .int m3)] 78 [.int m2] := by
                  intro s9 hf
                  rw [hj2] at hf
                  refine g_iconst (v := (1 : Int32)) hc (by decide) dX7_order_78 (pc2 := 79) rfl ?_
                  refine g_goto hc 83 (by decide) dX7_order_79 ?_
                  exact Hj1 _ _ hf
                refine g_icmp_gt hc 78 (by decide) dX7_order_55 (pc2 := 58) rfl (fun q => ?_) (fun q => ?_)
                · have hf := ite_t hf q
                  refine g_sub [0, 1, 2, 4] rfl ?_
                  exact Hj2 _ hf
                · have hf := ite_f hf q
                  refine g_aload_n (i := 0) hc 0 rfl rfl dX7_order_58 (pc2 := 59) rfl ?_
                  refine g_iload hc 4 rfl dX7_order_59 (pc2 := 61) rfl ?_
                  obtain ⟨r3, s10, hp, hf⟩ := bd_some hf
                  refine g_vI hc (k7_debts hp) co_X7_70 (u19 (by decide)) rfl rfl (by decide) (by decide) (Nat.le_of_ble_eq_true rfl) dX7_order_61 (pc2 := 64) rfl ?_
                  refine g_aload_n (i := 0) hc 0 rfl rfl dX7_order_64 (pc2 := 65) rfl ?_
                  refine g_iload_n (i := 2) hc 2 rfl rfl dX7_order_65 (pc2 := 66) rfl ?_
                  obtain ⟨r4, s11, hp, hf⟩ := bd_some hf
                  refine g_vI hc (k7_debts hp) co_X7_70 (u19 (by decide)) rfl rfl (by decide) (by decide) (Nat.le_of_ble_eq_true rfl) dX7_order_66 (pc2 := 69) rfl ?_
                  obtain ⟨j3, hj3, hf⟩ := nm_ex hf
                  have Hj3 : ∀ (s12 : Mem), j3 s12 = some (rR, sR) → G κ φ (QI κ φ (NV κ τ) sR rR rm_7_order.cells rm_7_order.slots) (NV κ τ) 0 0 s12 [(0, .ref (ad κ.1 19 0)), (1, .int a1), (2, .int m1), (4, .int m3)] 82 [.int m2] := by
                    intro s12 hf
                    rw [hj3] at hf
                    refine g_iconst (v := (0 : Int32)) hc (by decide) dX7_order_82 (pc2 := 83) rfl ?_
                    exact Hj1 _ _ hf
                  refine g_icmp_ne hc 82 (by decide) dX7_order_69 (pc2 := 72) rfl (fun q => ?_) (fun q => ?_)
                  · have hf := ite_f hf q
                    refine g_sub [0, 1, 2, 4] rfl ?_
                    exact Hj3 _ hf
                  · have hf := ite_t hf q
                    refine g_iload hc 4 rfl dX7_order_72 (pc2 := 74) rfl ?_
                    refine g_iload_n (i := 2) hc 2 rfl rfl dX7_order_74 (pc2 := 75) rfl ?_
                    refine g_icmp_ge hc 82 (by decide) dX7_order_75 (pc2 := 78) rfl (fun q => ?_) (fun q => ?_)
                    · have hf := ite_t hf q
                      refine g_sub [0, 1, 2, 4] rfl ?_
                      exact Hj3 _ hf
                    · have hf := ite_f hf q
                      refine g_sub [0, 1, 2, 4] rfl ?_
                      exact Hj2 _ hf
          refine g_sub [2, 3, 4, 1, 0] rfl ?_
          exact LP_n2 _ _ _ _ hf
    refine g_sub [1, 2, 0] rfl ?_
    exact LP_n1 _ _ _ hf
  · have hf := ite_f hf q
    refine g_aload_n (i := 0) hc 0 rfl rfl dX7_order_9 (pc2 := 10) rfl ?_
    refine g_iconst (v := (1 : Int32)) hc (by decide) dX7_order_10 (pc2 := 11) rfl ?_
    obtain ⟨r5, s13, hp, hf⟩ := bd_some hf
    refine g_vI hc (k7_fails hp) co_X7_101 (u19 (by decide)) rfl rfl (by decide) (by decide) (Nat.le_of_ble_eq_true rfl) dX7_order_11 (pc2 := 14) rfl ?_
    exact g_iret hc hf hr rfl (by decide) (by decide) dX7_order_14
def f7_addMaster  (s0 : Mem) : Option (Int32 × Mem) :=
  nm (ms s0 62 0 0 (0 : Int32)) fun s1 => (if (s1 20 0 ((0 : Int32)).toNatClampNeg) = (6 : Int32) then bd (f7_fails (1 : Int32) s1) fun r1 s4 => some (r1, s4) else bv (f7_remember s1) fun s2 => nm (ms s2 20 0 (0 : Int32).toNatClampNeg ((s2 20 0 ((0 : Int32)).toNatClampNeg) + (1 : Int32))) fun s3 => some ((s3 20 0 ((0 : Int32)).toNatClampNeg) - (1 : Int32), s3))
def rm_7_addMaster : Room := { frames := 1, cells := 0, slots := 0, locals := 21 }
set_option maxHeartbeats 4000000 in
set_option maxRecDepth 100000 in
theorem k7_addMaster {κ : Kx} {τ : Nat → Int64}  {s0 sR : Mem} {rR : Int32}  (hf : f7_addMaster s0 = some (rR, sR)) : CtI κ yX7_addMaster cX7_addMaster 1 (some .int) rm_7_addMaster (NV κ τ) (NV κ τ) [.ref (ad κ.1 19 0)] s0 sR rR := by
  refine ct_I (by decide +kernel) (Nat.le_of_ble_eq_true rfl) (fun φ hc hr => ?_)
  have hc : Cx κ φ RX7 cX7_addMaster 1 rm_7_addMaster := hc
  show G κ φ (QI κ φ (NV κ τ) sR rR rm_7_addMaster.cells rm_7_addMaster.slots) (NV κ τ) 0 0 s0 [(0, .ref (ad κ.1 19 0))] 0 []
  unfold f7_addMaster at hf
  refine g_aload_n (i := 0) hc 0 rfl rfl dX7_addMaster_0 (pc2 := 1) rfl ?_
  refine g_iconst (v := (0 : Int32)) hc (by decide) dX7_addMaster_1 (pc2 := 2) rfl ?_
  obtain ⟨s1, hs1, hf⟩ := nm_ex hf
  refine g_puti hc (by decide) fo_X7_39 clO_19 poK_19_9 rfl (u19 (by decide)) rfl rfl dX7_addMaster_2 (pc2 := 5) rfl ?_
  refine g_nms hs1 ?_
  refine g_aload_n (i := 0) hc 0 rfl rfl dX7_addMaster_5 (pc2 := 6) rfl ?_
  refine g_getr (q := ad κ.1 20 0) hc fo_X7_7 (u19 (by decide)) rfl dX7_addMaster_6 (pc2 := 9) rfl ?_
  refine g_iconst (v := (0 : Int32)) hc (by decide) dX7_addMaster_9 (pc2 := 10) rfl ?_
  refine g_aldi hc 20 0 rfl (u20 (by decide)) (by decide) dX7_addMaster_10 (pc2 := 11) rfl ?_
  refine g_bipush (v := (6 : Int32)) hc (by decide) dX7_addMaster_11 (pc2 := 13) rfl ?_
  refine g_icmp_ne hc 22 (by decide) dX7_addMaster_13 (pc2 := 16) rfl (fun q => ?_) (fun q => ?_)
  · have hf := ite_f hf q
    refine g_aload_n (i := 0) hc 0 rfl rfl dX7_addMaster_22 (pc2 := 23) rfl ?_
    obtain ⟨s2, hp, hf⟩ := bv_some hf
    refine g_vV hc (k7_remember hp) co_X7_158 (u19 (by decide)) rfl rfl (by decide) (by decide) (Nat.le_of_ble_eq_true rfl) dX7_addMaster_23 (pc2 := 26) rfl ?_
    refine g_aload_n (i := 0) hc 0 rfl rfl dX7_addMaster_26 (pc2 := 27) rfl ?_
    refine g_getr (q := ad κ.1 20 0) hc fo_X7_7 (u19 (by decide)) rfl dX7_addMaster_27 (pc2 := 30) rfl ?_
    refine g_iconst (v := (0 : Int32)) hc (by decide) dX7_addMaster_30 (pc2 := 31) rfl ?_
    refine g_dup2 hc rfl rfl dX7_addMaster_31 (pc2 := 32) rfl ?_
    refine g_aldi hc 20 0 rfl (u20 (by decide)) (by decide) dX7_addMaster_32 (pc2 := 33) rfl ?_
    refine g_iconst (v := (1 : Int32)) hc (by decide) dX7_addMaster_33 (pc2 := 34) rfl ?_
    refine g_iadd hc dX7_addMaster_34 (pc2 := 35) rfl ?_
    obtain ⟨s3, hs3, hf⟩ := nm_ex hf
    refine g_asti hc 20 0 rfl (u20 (by decide)) (by decide) dX7_addMaster_35 (pc2 := 36) rfl ?_
    refine g_nms hs3 ?_
    refine g_aload_n (i := 0) hc 0 rfl rfl dX7_addMaster_36 (pc2 := 37) rfl ?_
    refine g_getr (q := ad κ.1 20 0) hc fo_X7_7 (u19 (by decide)) rfl dX7_addMaster_37 (pc2 := 40) rfl ?_
    refine g_iconst (v := (0 : Int32)) hc (by decide) dX7_addMaster_40 (pc2 := 41) rfl ?_
    refine g_aldi hc 20 0 rfl (u20 (by decide)) (by decide) dX7_addMaster_41 (pc2 := 42) rfl ?_
    refine g_iconst (v := (1 : Int32)) hc (by decide) dX7_addMaster_42 (pc2 := 43) rfl ?_
    refine g_isub hc dX7_addMaster_43 (pc2 := 44) rfl ?_
    exact g_iret hc hf hr rfl (by decide) (by decide) dX7_addMaster_44
  · have hf := ite_t hf q
    refine g_aload_n (i := 0) hc 0 rfl rfl dX7_addMaster_16 (pc2 := 17) rfl ?_
    refine g_iconst (v := (1 : Int32)) hc (by decide) dX7_addMaster_17 (pc2 := 18) rfl ?_
    obtain ⟨r1, s4, hp, hf⟩ := bd_some hf
    refine g_vI hc (k7_fails hp) co_X7_101 (u19 (by decide)) rfl rfl (by decide) (by decide) (Nat.le_of_ble_eq_true rfl) dX7_addMaster_18 (pc2 := 21) rfl ?_
    exact g_iret hc hf hr rfl (by decide) (by decide) dX7_addMaster_21
def f7_puts (a1 : Int32) (a2 : Int32) (s0 : Mem) : Option (Int32 × Mem) :=
  gd (ib a1 291) (nm (s0 20 0 a1.toNatClampNeg) fun x1 => gd (ib a1 291) (nm (ms s0 20 0 a1.toNatClampNeg a2) fun s1 => some (x1, s1)))
def rm_7_puts : Room := { frames := 0, cells := 0, slots := 0, locals := 0 }
set_option maxHeartbeats 4000000 in
set_option maxRecDepth 100000 in
theorem k7_puts {κ : Kx} {τ : Nat → Int64} {a1 : Int32} {a2 : Int32} {s0 sR : Mem} {rR : Int32}  (hf : f7_puts a1 a2 s0 = some (rR, sR)) : CtI κ yX7_puts cX7_puts 4 (some .int) rm_7_puts (NV κ τ) (NV κ τ) [.ref (ad κ.1 19 0), .int a1, .int a2] s0 sR rR := by
  refine ct_I (by decide +kernel) (Nat.le_of_ble_eq_true rfl) (fun φ hc hr => ?_)
  have hc : Cx κ φ RX7 cX7_puts 4 rm_7_puts := hc
  show G κ φ (QI κ φ (NV κ τ) sR rR rm_7_puts.cells rm_7_puts.slots) (NV κ τ) 0 0 s0 [(0, .ref (ad κ.1 19 0)), (1, .int a1), (2, .int a2)] 0 []
  unfold f7_puts at hf
  refine g_aload_n (i := 0) hc 0 rfl rfl dX7_puts_0 (pc2 := 1) rfl ?_
  refine g_getr (q := ad κ.1 20 0) hc fo_X7_7 (u19 (by decide)) rfl dX7_puts_1 (pc2 := 4) rfl ?_
  refine g_iload_n (i := 1) hc 1 rfl rfl dX7_puts_4 (pc2 := 5) rfl ?_
  obtain ⟨hg1, hf⟩ := gd_some hf
  refine g_aldi hc 20 0 rfl (u20 (by decide)) hg1 dX7_puts_5 (pc2 := 6) rfl ?_
  obtain ⟨x1, hx1, hf⟩ := nm_ex hf
  refine g_nmi hx1 ?_
  refine g_istore_n (i := 3) (L1 := [(3, .int x1), (0, .ref (ad κ.1 19 0)), (1, .int a1), (2, .int a2)]) hc rfl (by decide) rfl dX7_puts_6 (pc2 := 7) rfl ?_
  refine g_aload_n (i := 0) hc 1 rfl rfl dX7_puts_7 (pc2 := 8) rfl ?_
  refine g_getr (q := ad κ.1 20 0) hc fo_X7_7 (u19 (by decide)) rfl dX7_puts_8 (pc2 := 11) rfl ?_
  refine g_iload_n (i := 1) hc 2 rfl rfl dX7_puts_11 (pc2 := 12) rfl ?_
  refine g_iload_n (i := 2) hc 3 rfl rfl dX7_puts_12 (pc2 := 13) rfl ?_
  obtain ⟨hg2, hf⟩ := gd_some hf
  obtain ⟨s1, hs1, hf⟩ := nm_ex hf
  refine g_asti hc 20 0 rfl (u20 (by decide)) hg2 dX7_puts_13 (pc2 := 14) rfl ?_
  refine g_nms hs1 ?_
  refine g_iload_n (i := 3) hc 0 rfl rfl dX7_puts_14 (pc2 := 15) rfl ?_
  exact g_iret hc hf hr rfl (by decide) (by decide) dX7_puts_15
def f7_give (a1 : Int32) (a2 : Int32) (s0 : Mem) : Option (Int32 × Mem) :=
  nm (ms s0 62 0 0 (0 : Int32)) fun s1 => bd (f7_isSlot a1 s1) fun r1 s2 => nm (fun (s3 : Mem) => bd (f7_fails (1 : Int32) s3) fun r2 s4 => some (r2, s4)) fun j1 => (if r1 = (0 : Int32) then j1 s2 else bd (f7_isMaster a2 s2) fun r3 s5 => (if r3 = (0 : Int32) then j1 s5 else bd (f7_isBankrupt a2 s5) fun r4 s6 => (if r4 = (0 : Int32) then bv (f7_remember s6) fun s7 => bd (f7_puts ((11 : Int32) + a1) a2 s7) fun r5 s8 => some (r5, s8) else bd (f7_fails (2 : Int32) s6) fun r6 s9 => some (r6, s9))))
def rm_7_give : Room := { frames := 2, cells := 0, slots := 0, locals := 46 }
set_option maxHeartbeats 4000000 in
set_option maxRecDepth 100000 in
theorem k7_give {κ : Kx} {τ : Nat → Int64} {a1 : Int32} {a2 : Int32} {s0 sR : Mem} {rR : Int32}  (hf : f7_give a1 a2 s0 = some (rR, sR)) : CtI κ yX7_give cX7_give 3 (some .int) rm_7_give (NV κ τ) (NV κ τ) [.ref (ad κ.1 19 0), .int a1, .int a2] s0 sR rR := by
  refine ct_I (by decide +kernel) (Nat.le_of_ble_eq_true rfl) (fun φ hc hr => ?_)
  have hc : Cx κ φ RX7 cX7_give 3 rm_7_give := hc
  show G κ φ (QI κ φ (NV κ τ) sR rR rm_7_give.cells rm_7_give.slots) (NV κ τ) 0 0 s0 [(0, .ref (ad κ.1 19 0)), (1, .int a1), (2, .int a2)] 0 []
  unfold f7_give at hf
  refine g_aload_n (i := 0) hc 0 rfl rfl dX7_give_0 (pc2 := 1) rfl ?_
  refine g_iconst (v := (0 : Int32)) hc (by decide) dX7_give_1 (pc2 := 2) rfl ?_
  obtain ⟨s1, hs1, hf⟩ := nm_ex hf
  refine g_puti hc (by decide) fo_X7_39 clO_19 poK_19_9 rfl (u19 (by decide)) rfl rfl dX7_give_2 (pc2 := 5) rfl ?_
  refine g_nms hs1 ?_
  refine g_aload_n (i := 0) hc 0 rfl rfl dX7_give_5 (pc2 := 6) rfl ?_
  refine g_iload_n (i := 1) hc 1 rfl rfl dX7_give_6 (pc2 := 7) rfl ?_
  obtain ⟨r1, s2, hp, hf⟩ := bd_some hf
  refine g_vI hc (k7_isSlot hp) co_X7_153 (u19 (by decide)) rfl rfl (by decide) (by decide) (Nat.le_of_ble_eq_true rfl) dX7_give_7 (pc2 := 10) rfl ?_
  obtain ⟨j1, hj1, hf⟩ := nm_ex hf
  have Hj1 : ∀ (s3 : Mem), j1 s3 = some (rR, sR) → G κ φ (QI κ φ (NV κ τ) sR rR rm_7_give.cells rm_7_give.slots) (NV κ τ) 0 0 s3 [(0, .ref (ad κ.1 19 0))] 21 [] := by
    intro s3 hf
    rw [hj1] at hf
    refine g_aload_n (i := 0) hc 0 rfl rfl dX7_give_21 (pc2 := 22) rfl ?_
    refine g_iconst (v := (1 : Int32)) hc (by decide) dX7_give_22 (pc2 := 23) rfl ?_
    obtain ⟨r2, s4, hp, hf⟩ := bd_some hf
    refine g_vI hc (k7_fails hp) co_X7_101 (u19 (by decide)) rfl rfl (by decide) (by decide) (Nat.le_of_ble_eq_true rfl) dX7_give_23 (pc2 := 26) rfl ?_
    exact g_iret hc hf hr rfl (by decide) (by decide) dX7_give_26
  refine g_if_eq hc 21 (by decide) dX7_give_10 (pc2 := 13) rfl (fun q => ?_) (fun q => ?_)
  · have hf := ite_t hf q
    refine g_sub [0] rfl ?_
    exact Hj1 _ hf
  · have hf := ite_f hf q
    refine g_aload_n (i := 0) hc 0 rfl rfl dX7_give_13 (pc2 := 14) rfl ?_
    refine g_iload_n (i := 2) hc 2 rfl rfl dX7_give_14 (pc2 := 15) rfl ?_
    obtain ⟨r3, s5, hp, hf⟩ := bd_some hf
    refine g_vI hc (k7_isMaster hp) co_X7_146 (u19 (by decide)) rfl rfl (by decide) (by decide) (Nat.le_of_ble_eq_true rfl) dX7_give_15 (pc2 := 18) rfl ?_
    refine g_if_ne hc 27 (by decide) dX7_give_18 (pc2 := 21) rfl (fun q => ?_) (fun q => ?_)
    · have hf := ite_f hf q
      refine g_aload_n (i := 0) hc 0 rfl rfl dX7_give_27 (pc2 := 28) rfl ?_
      refine g_iload_n (i := 2) hc 2 rfl rfl dX7_give_28 (pc2 := 29) rfl ?_
      obtain ⟨r4, s6, hp, hf⟩ := bd_some hf
      refine g_vI hc (k7_isBankrupt hp) co_X7_66 (u19 (by decide)) rfl rfl (by decide) (by decide) (Nat.le_of_ble_eq_true rfl) dX7_give_29 (pc2 := 32) rfl ?_
      refine g_if_eq hc 41 (by decide) dX7_give_32 (pc2 := 35) rfl (fun q => ?_) (fun q => ?_)
      · have hf := ite_t hf q
        refine g_aload_n (i := 0) hc 0 rfl rfl dX7_give_41 (pc2 := 42) rfl ?_
        obtain ⟨s7, hp, hf⟩ := bv_some hf
        refine g_vV hc (k7_remember hp) co_X7_158 (u19 (by decide)) rfl rfl (by decide) (by decide) (Nat.le_of_ble_eq_true rfl) dX7_give_42 (pc2 := 45) rfl ?_
        refine g_aload_n (i := 0) hc 0 rfl rfl dX7_give_45 (pc2 := 46) rfl ?_
        refine g_bipush (v := (11 : Int32)) hc (by decide) dX7_give_46 (pc2 := 48) rfl ?_
        refine g_iload_n (i := 1) hc 1 rfl rfl dX7_give_48 (pc2 := 49) rfl ?_
        refine g_iadd hc dX7_give_49 (pc2 := 50) rfl ?_
        refine g_iload_n (i := 2) hc 2 rfl rfl dX7_give_50 (pc2 := 51) rfl ?_
        obtain ⟨r5, s8, hp, hf⟩ := bd_some hf
        refine g_vI hc (k7_puts hp) co_X7_161 (u19 (by decide)) rfl rfl (by decide) (by decide) (Nat.le_of_ble_eq_true rfl) dX7_give_51 (pc2 := 54) rfl ?_
        exact g_iret hc hf hr rfl (by decide) (by decide) dX7_give_54
      · have hf := ite_f hf q
        refine g_aload_n (i := 0) hc 0 rfl rfl dX7_give_35 (pc2 := 36) rfl ?_
        refine g_iconst (v := (2 : Int32)) hc (by decide) dX7_give_36 (pc2 := 37) rfl ?_
        obtain ⟨r6, s9, hp, hf⟩ := bd_some hf
        refine g_vI hc (k7_fails hp) co_X7_101 (u19 (by decide)) rfl rfl (by decide) (by decide) (Nat.le_of_ble_eq_true rfl) dX7_give_37 (pc2 := 40) rfl ?_
        exact g_iret hc hf hr rfl (by decide) (by decide) dX7_give_40
    · have hf := ite_t hf q
      refine g_sub [0] rfl ?_
      exact Hj1 _ hf
def f7_setLatency (a1 : Int32) (a2 : Int32) (s0 : Mem) : Option (Int32 × Mem) :=
  nm (ms s0 62 0 0 (0 : Int32)) fun s1 => bd (f7_isSlave a1 s1) fun r1 s2 => (if r1 = (0 : Int32) then bd (f7_fails (1 : Int32) s2) fun r5 s7 => some (r5, s7) else bd (f7_in (a2.toInt64) (0 : Int64) (9 : Int64) s2) fun r2 s3 => (if r2 = (0 : Int32) then bd (f7_fails (2 : Int32) s3) fun r4 s6 => some (r4, s6) else bv (f7_remember s3) fun s4 => bd (f7_puts ((7 : Int32) + a1) a2 s4) fun r3 s5 => some (r3, s5)))
def rm_7_setLatency : Room := { frames := 2, cells := 0, slots := 0, locals := 45 }
set_option maxHeartbeats 4000000 in
set_option maxRecDepth 100000 in
theorem k7_setLatency {κ : Kx} {τ : Nat → Int64} {a1 : Int32} {a2 : Int32} {s0 sR : Mem} {rR : Int32}  (hf : f7_setLatency a1 a2 s0 = some (rR, sR)) : CtI κ yX7_setLatency cX7_setLatency 3 (some .int) rm_7_setLatency (NV κ τ) (NV κ τ) [.ref (ad κ.1 19 0), .int a1, .int a2] s0 sR rR := by
  refine ct_I (by decide +kernel) (Nat.le_of_ble_eq_true rfl) (fun φ hc hr => ?_)
  have hc : Cx κ φ RX7 cX7_setLatency 3 rm_7_setLatency := hc
  show G κ φ (QI κ φ (NV κ τ) sR rR rm_7_setLatency.cells rm_7_setLatency.slots) (NV κ τ) 0 0 s0 [(0, .ref (ad κ.1 19 0)), (1, .int a1), (2, .int a2)] 0 []
  unfold f7_setLatency at hf
  refine g_aload_n (i := 0) hc 0 rfl rfl dX7_setLatency_0 (pc2 := 1) rfl ?_
  refine g_iconst (v := (0 : Int32)) hc (by decide) dX7_setLatency_1 (pc2 := 2) rfl ?_
  obtain ⟨s1, hs1, hf⟩ := nm_ex hf
  refine g_puti hc (by decide) fo_X7_39 clO_19 poK_19_9 rfl (u19 (by decide)) rfl rfl dX7_setLatency_2 (pc2 := 5) rfl ?_
  refine g_nms hs1 ?_
  refine g_iload_n (i := 1) hc 1 rfl rfl dX7_setLatency_5 (pc2 := 6) rfl ?_
  obtain ⟨r1, s2, hp, hf⟩ := bd_some hf
  refine g_sI hc (k7_isSlave hp) co_X7_164 rfl rfl (by decide) (by decide) (Nat.le_of_ble_eq_true rfl) dX7_setLatency_6 (pc2 := 9) rfl ?_
  refine g_if_ne hc 18 (by decide) dX7_setLatency_9 (pc2 := 12) rfl (fun q => ?_) (fun q => ?_)
  · have hf := ite_f hf q
    refine g_iload_n (i := 2) hc 2 rfl rfl dX7_setLatency_18 (pc2 := 19) rfl ?_
    refine g_i2l hc dX7_setLatency_19 (pc2 := 20) rfl ?_
    refine g_lconst (v := (0 : Int64)) hc (by decide) dX7_setLatency_20 (pc2 := 21) rfl ?_
    refine g_ldc2 (v := (9 : Int64)) hc (gwm 1107 (by decide +kernel) (by decide +kernel)) dX7_setLatency_21 (pc2 := 24) rfl ?_
    obtain ⟨r2, s3, hp, hf⟩ := bd_some hf
    refine g_sI hc (k7_in hp) co_X7_46 rfl rfl (by decide) (by decide) (Nat.le_of_ble_eq_true rfl) dX7_setLatency_24 (pc2 := 27) rfl ?_
    refine g_if_ne hc 36 (by decide) dX7_setLatency_27 (pc2 := 30) rfl (fun q => ?_) (fun q => ?_)
    · have hf := ite_f hf q
      refine g_aload_n (i := 0) hc 0 rfl rfl dX7_setLatency_36 (pc2 := 37) rfl ?_
      obtain ⟨s4, hp, hf⟩ := bv_some hf
      refine g_vV hc (k7_remember hp) co_X7_158 (u19 (by decide)) rfl rfl (by decide) (by decide) (Nat.le_of_ble_eq_true rfl) dX7_setLatency_37 (pc2 := 40) rfl ?_
      refine g_aload_n (i := 0) hc 0 rfl rfl dX7_setLatency_40 (pc2 := 41) rfl ?_
      refine g_bipush (v := (7 : Int32)) hc (by decide) dX7_setLatency_41 (pc2 := 43) rfl ?_
      refine g_iload_n (i := 1) hc 1 rfl rfl dX7_setLatency_43 (pc2 := 44) rfl ?_
      refine g_iadd hc dX7_setLatency_44 (pc2 := 45) rfl ?_
      refine g_iload_n (i := 2) hc 2 rfl rfl dX7_setLatency_45 (pc2 := 46) rfl ?_
      obtain ⟨r3, s5, hp, hf⟩ := bd_some hf
      refine g_vI hc (k7_puts hp) co_X7_161 (u19 (by decide)) rfl rfl (by decide) (by decide) (Nat.le_of_ble_eq_true rfl) dX7_setLatency_46 (pc2 := 49) rfl ?_
      exact g_iret hc hf hr rfl (by decide) (by decide) dX7_setLatency_49
    · have hf := ite_t hf q
      refine g_aload_n (i := 0) hc 0 rfl rfl dX7_setLatency_30 (pc2 := 31) rfl ?_
      refine g_iconst (v := (2 : Int32)) hc (by decide) dX7_setLatency_31 (pc2 := 32) rfl ?_
      obtain ⟨r4, s6, hp, hf⟩ := bd_some hf
      refine g_vI hc (k7_fails hp) co_X7_101 (u19 (by decide)) rfl rfl (by decide) (by decide) (Nat.le_of_ble_eq_true rfl) dX7_setLatency_32 (pc2 := 35) rfl ?_
      exact g_iret hc hf hr rfl (by decide) (by decide) dX7_setLatency_35
  · have hf := ite_t hf q
    refine g_aload_n (i := 0) hc 0 rfl rfl dX7_setLatency_12 (pc2 := 13) rfl ?_
    refine g_iconst (v := (1 : Int32)) hc (by decide) dX7_setLatency_13 (pc2 := 14) rfl ?_
    obtain ⟨r5, s7, hp, hf⟩ := bd_some hf
    refine g_vI hc (k7_fails hp) co_X7_101 (u19 (by decide)) rfl rfl (by decide) (by decide) (Nat.le_of_ble_eq_true rfl) dX7_setLatency_14 (pc2 := 17) rfl ?_
    exact g_iret hc hf hr rfl (by decide) (by decide) dX7_setLatency_17
def f7_setCredit (a1 : Int32) (s0 : Mem) : Option (Int32 × Mem) :=
  nm (ms s0 62 0 0 (0 : Int32)) fun s1 => bd (f7_in (a1.toInt64) (0 : Int64) (9 : Int64) s1) fun r1 s2 => (if r1 = (0 : Int32) then bd (f7_fails (1 : Int32) s2) fun r3 s5 => some (r3, s5) else bv (f7_remember s2) fun s3 => bd (f7_puts (4 : Int32) a1 s3) fun r2 s4 => some (r2, s4))
def rm_7_setCredit : Room := { frames := 1, cells := 0, slots := 0, locals := 25 }
set_option maxHeartbeats 4000000 in
set_option maxRecDepth 100000 in
theorem k7_setCredit {κ : Kx} {τ : Nat → Int64} {a1 : Int32} {s0 sR : Mem} {rR : Int32}  (hf : f7_setCredit a1 s0 = some (rR, sR)) : CtI κ yX7_setCredit cX7_setCredit 2 (some .int) rm_7_setCredit (NV κ τ) (NV κ τ) [.ref (ad κ.1 19 0), .int a1] s0 sR rR := by
  refine ct_I (by decide +kernel) (Nat.le_of_ble_eq_true rfl) (fun φ hc hr => ?_)
  have hc : Cx κ φ RX7 cX7_setCredit 2 rm_7_setCredit := hc
  show G κ φ (QI κ φ (NV κ τ) sR rR rm_7_setCredit.cells rm_7_setCredit.slots) (NV κ τ) 0 0 s0 [(0, .ref (ad κ.1 19 0)), (1, .int a1)] 0 []
  unfold f7_setCredit at hf
  refine g_aload_n (i := 0) hc 0 rfl rfl dX7_setCredit_0 (pc2 := 1) rfl ?_
  refine g_iconst (v := (0 : Int32)) hc (by decide) dX7_setCredit_1 (pc2 := 2) rfl ?_
  obtain ⟨s1, hs1, hf⟩ := nm_ex hf
  refine g_puti hc (by decide) fo_X7_39 clO_19 poK_19_9 rfl (u19 (by decide)) rfl rfl dX7_setCredit_2 (pc2 := 5) rfl ?_
  refine g_nms hs1 ?_
  refine g_iload_n (i := 1) hc 1 rfl rfl dX7_setCredit_5 (pc2 := 6) rfl ?_
  refine g_i2l hc dX7_setCredit_6 (pc2 := 7) rfl ?_
  refine g_lconst (v := (0 : Int64)) hc (by decide) dX7_setCredit_7 (pc2 := 8) rfl ?_
  refine g_ldc2 (v := (9 : Int64)) hc (gwm 1107 (by decide +kernel) (by decide +kernel)) dX7_setCredit_8 (pc2 := 11) rfl ?_
  obtain ⟨r1, s2, hp, hf⟩ := bd_some hf
  refine g_sI hc (k7_in hp) co_X7_46 rfl rfl (by decide) (by decide) (Nat.le_of_ble_eq_true rfl) dX7_setCredit_11 (pc2 := 14) rfl ?_
  refine g_if_ne hc 23 (by decide) dX7_setCredit_14 (pc2 := 17) rfl (fun q => ?_) (fun q => ?_)
  · have hf := ite_f hf q
    refine g_aload_n (i := 0) hc 0 rfl rfl dX7_setCredit_23 (pc2 := 24) rfl ?_
    obtain ⟨s3, hp, hf⟩ := bv_some hf
    refine g_vV hc (k7_remember hp) co_X7_158 (u19 (by decide)) rfl rfl (by decide) (by decide) (Nat.le_of_ble_eq_true rfl) dX7_setCredit_24 (pc2 := 27) rfl ?_
    refine g_aload_n (i := 0) hc 0 rfl rfl dX7_setCredit_27 (pc2 := 28) rfl ?_
    refine g_iconst (v := (4 : Int32)) hc (by decide) dX7_setCredit_28 (pc2 := 29) rfl ?_
    refine g_iload_n (i := 1) hc 1 rfl rfl dX7_setCredit_29 (pc2 := 30) rfl ?_
    obtain ⟨r2, s4, hp, hf⟩ := bd_some hf
    refine g_vI hc (k7_puts hp) co_X7_161 (u19 (by decide)) rfl rfl (by decide) (by decide) (Nat.le_of_ble_eq_true rfl) dX7_setCredit_30 (pc2 := 33) rfl ?_
    exact g_iret hc hf hr rfl (by decide) (by decide) dX7_setCredit_33
  · have hf := ite_t hf q
    refine g_aload_n (i := 0) hc 0 rfl rfl dX7_setCredit_17 (pc2 := 18) rfl ?_
    refine g_iconst (v := (1 : Int32)) hc (by decide) dX7_setCredit_18 (pc2 := 19) rfl ?_
    obtain ⟨r3, s5, hp, hf⟩ := bd_some hf
    refine g_vI hc (k7_fails hp) co_X7_101 (u19 (by decide)) rfl rfl (by decide) (by decide) (Nat.le_of_ble_eq_true rfl) dX7_setCredit_19 (pc2 := 22) rfl ?_
    exact g_iret hc hf hr rfl (by decide) (by decide) dX7_setCredit_22
def f7_send (a1 : Int32) (a2 : Int32) (a3 : Int32) (a4 : Int32) (s0 : Mem) : Option (Int32 × Mem) :=
  nm (ms s0 62 0 0 (0 : Int32)) fun s1 => bd (f7_isMaster a1 s1) fun r1 s2 => nm (fun (s3 : Mem) => bd (f7_fails (1 : Int32) s3) fun r2 s4 => some (r2, s4)) fun j1 => (if r1 = (0 : Int32) then j1 s2 else bd (f7_isSlave a2 s2) fun r3 s5 => (if r3 = (0 : Int32) then j1 s5 else bd (f7_in (a3.toInt64) (1 : Int64) (8 : Int64) s5) fun r4 s6 => (if r4 = (0 : Int32) then bd (f7_fails (2 : Int32) s6) fun r8 s12 => some (r8, s12) else bd (f7_canSend a1 s6) fun r5 s7 => (if r5 = (0 : Int32) then bd (f7_fails (3 : Int32) s7) fun r7 s11 => some (r7, s11) else bv (f7_remember s7) fun s8 => nm (fun (y1 : Int32) (s9 : Mem) => bd (f7_sends a1 a2 a3 y1 s9) fun r6 s10 => some (r6, s10)) fun j2 => (if a4 = (0 : Int32) then j2 (0 : Int32) s8 else j2 (1 : Int32) s8)))))
def rm_7_send : Room := { frames := 3, cells := 0, slots := 0, locals := 68 }
set_option maxHeartbeats 4000000 in
set_option maxRecDepth 100000 in
theorem k7_send {κ : Kx} {τ : Nat → Int64} {a1 : Int32} {a2 : Int32} {a3 : Int32} {a4 : Int32} {s0 sR : Mem} {rR : Int32}  (hf : f7_send a1 a2 a3 a4 s0 = some (rR, sR)) : CtI κ yX7_send cX7_send 5 (some .int) rm_7_send (NV κ τ) (NV κ τ) [.ref (ad κ.1 19 0), .int a1, .int a2, .int a3, .int a4] s0 sR rR := by
  refine ct_I (by decide +kernel) (Nat.le_of_ble_eq_true rfl) (fun φ hc hr => ?_)
  have hc : Cx κ φ RX7 cX7_send 5 rm_7_send := hc
  show G κ φ (QI κ φ (NV κ τ) sR rR rm_7_send.cells rm_7_send.slots) (NV κ τ) 0 0 s0 [(0, .ref (ad κ.1 19 0)), (1, .int a1), (2, .int a2), (3, .int a3), (4, .int a4)] 0 []
  unfold f7_send at hf
  refine g_aload_n (i := 0) hc 0 rfl rfl dX7_send_0 (pc2 := 1) rfl ?_
  refine g_iconst (v := (0 : Int32)) hc (by decide) dX7_send_1 (pc2 := 2) rfl ?_
  obtain ⟨s1, hs1, hf⟩ := nm_ex hf
  refine g_puti hc (by decide) fo_X7_39 clO_19 poK_19_9 rfl (u19 (by decide)) rfl rfl dX7_send_2 (pc2 := 5) rfl ?_
  refine g_nms hs1 ?_
  refine g_aload_n (i := 0) hc 0 rfl rfl dX7_send_5 (pc2 := 6) rfl ?_
  refine g_iload_n (i := 1) hc 1 rfl rfl dX7_send_6 (pc2 := 7) rfl ?_
  obtain ⟨r1, s2, hp, hf⟩ := bd_some hf
  refine g_vI hc (k7_isMaster hp) co_X7_146 (u19 (by decide)) rfl rfl (by decide) (by decide) (Nat.le_of_ble_eq_true rfl) dX7_send_7 (pc2 := 10) rfl ?_
  obtain ⟨j1, hj1, hf⟩ := nm_ex hf
  have Hj1 : ∀ (s3 : Mem), j1 s3 = some (rR, sR) → G κ φ (QI κ φ (NV κ τ) sR rR rm_7_send.cells rm_7_send.slots) (NV κ τ) 0 0 s3 [(0, .ref (ad κ.1 19 0))] 20 [] := by
    intro s3 hf
    rw [hj1] at hf
    refine g_aload_n (i := 0) hc 0 rfl rfl dX7_send_20 (pc2 := 21) rfl ?_
    refine g_iconst (v := (1 : Int32)) hc (by decide) dX7_send_21 (pc2 := 22) rfl ?_
    obtain ⟨r2, s4, hp, hf⟩ := bd_some hf
    refine g_vI hc (k7_fails hp) co_X7_101 (u19 (by decide)) rfl rfl (by decide) (by decide) (Nat.le_of_ble_eq_true rfl) dX7_send_22 (pc2 := 25) rfl ?_
    exact g_iret hc hf hr rfl (by decide) (by decide) dX7_send_25
  refine g_if_eq hc 20 (by decide) dX7_send_10 (pc2 := 13) rfl (fun q => ?_) (fun q => ?_)
  · have hf := ite_t hf q
    refine g_sub [0] rfl ?_
    exact Hj1 _ hf
  · have hf := ite_f hf q
    refine g_iload_n (i := 2) hc 2 rfl rfl dX7_send_13 (pc2 := 14) rfl ?_
    obtain ⟨r3, s5, hp, hf⟩ := bd_some hf
    refine g_sI hc (k7_isSlave hp) co_X7_164 rfl rfl (by decide) (by decide) (Nat.le_of_ble_eq_true rfl) dX7_send_14 (pc2 := 17) rfl ?_
    refine g_if_ne hc 26 (by decide) dX7_send_17 (pc2 := 20) rfl (fun q => ?_) (fun q => ?_)
    · have hf := ite_f hf q
      refine g_iload_n (i := 3) hc 3 rfl rfl dX7_send_26 (pc2 := 27) rfl ?_
      refine g_i2l hc dX7_send_27 (pc2 := 28) rfl ?_
      refine g_lconst (v := (1 : Int64)) hc (by decide) dX7_send_28 (pc2 := 29) rfl ?_
      refine g_ldc2 (v := (8 : Int64)) hc (gwm 1116 (by decide +kernel) (by decide +kernel)) dX7_send_29 (pc2 := 32) rfl ?_
      obtain ⟨r4, s6, hp, hf⟩ := bd_some hf
      refine g_sI hc (k7_in hp) co_X7_46 rfl rfl (by decide) (by decide) (Nat.le_of_ble_eq_true rfl) dX7_send_32 (pc2 := 35) rfl ?_
      refine g_if_ne hc 44 (by decide) dX7_send_35 (pc2 := 38) rfl (fun q => ?_) (fun q => ?_)
      · have hf := ite_f hf q
        refine g_aload_n (i := 0) hc 0 rfl rfl dX7_send_44 (pc2 := 45) rfl ?_
        refine g_iload_n (i := 1) hc 1 rfl rfl dX7_send_45 (pc2 := 46) rfl ?_
        obtain ⟨r5, s7, hp, hf⟩ := bd_some hf
        refine g_vI hc (k7_canSend hp) co_X7_171 (u19 (by decide)) rfl rfl (by decide) (by decide) (Nat.le_of_ble_eq_true rfl) dX7_send_46 (pc2 := 49) rfl ?_
        refine g_if_ne hc 58 (by decide) dX7_send_49 (pc2 := 52) rfl (fun q => ?_) (fun q => ?_)
        · have hf := ite_f hf q
          refine g_aload_n (i := 0) hc 0 rfl rfl dX7_send_58 (pc2 := 59) rfl ?_
          obtain ⟨s8, hp, hf⟩ := bv_some hf
          refine g_vV hc (k7_remember hp) co_X7_158 (u19 (by decide)) rfl rfl (by decide) (by decide) (Nat.le_of_ble_eq_true rfl) dX7_send_59 (pc2 := 62) rfl ?_
          refine g_aload_n (i := 0) hc 0 rfl rfl dX7_send_62 (pc2 := 63) rfl ?_
          refine g_iload_n (i := 1) hc 1 rfl rfl dX7_send_63 (pc2 := 64) rfl ?_
          refine g_iload_n (i := 2) hc 2 rfl rfl dX7_send_64 (pc2 := 65) rfl ?_
          refine g_iload_n (i := 3) hc 3 rfl rfl dX7_send_65 (pc2 := 66) rfl ?_
          refine g_iload hc 4 rfl dX7_send_66 (pc2 := 68) rfl ?_
          obtain ⟨j2, hj2, hf⟩ := nm_ex hf
          have Hj2 : ∀ (y1 : Int32) (s9 : Mem), j2 y1 s9 = some (rR, sR) → G κ φ (QI κ φ (NV κ τ) sR rR rm_7_send.cells rm_7_send.slots) (NV κ τ) 0 0 s9 [] 76 [.int y1, .int a3, .int a2, .int a1, .ref (ad κ.1 19 0)] := by
            intro y1 s9 hf
            rw [hj2] at hf
            obtain ⟨r6, s10, hp, hf⟩ := bd_some hf
            refine g_vI hc (k7_sends hp) co_X7_123 (u19 (by decide)) rfl rfl (by decide) (by decide) (Nat.le_of_ble_eq_true rfl) dX7_send_76 (pc2 := 79) rfl ?_
            exact g_iret hc hf hr rfl (by decide) (by decide) dX7_send_79
          refine g_if_eq hc 75 (by decide) dX7_send_68 (pc2 := 71) rfl (fun q => ?_) (fun q => ?_)
          · have hf := ite_t hf q
            refine g_iconst (v := (0 : Int32)) hc (by decide) dX7_send_75 (pc2 := 76) rfl ?_
            refine g_sub [] rfl ?_
            exact Hj2 _ _ hf
          · have hf := ite_f hf q
            refine g_iconst (v := (1 : Int32)) hc (by decide) dX7_send_71 (pc2 := 72) rfl ?_
            refine g_goto hc 76 (by decide) dX7_send_72 ?_
            refine g_sub [] rfl ?_
            exact Hj2 _ _ hf
        · have hf := ite_t hf q
          refine g_aload_n (i := 0) hc 0 rfl rfl dX7_send_52 (pc2 := 53) rfl ?_
          refine g_iconst (v := (3 : Int32)) hc (by decide) dX7_send_53 (pc2 := 54) rfl ?_
          obtain ⟨r7, s11, hp, hf⟩ := bd_some hf
          refine g_vI hc (k7_fails hp) co_X7_101 (u19 (by decide)) rfl rfl (by decide) (by decide) (Nat.le_of_ble_eq_true rfl) dX7_send_54 (pc2 := 57) rfl ?_
          exact g_iret hc hf hr rfl (by decide) (by decide) dX7_send_57
      · have hf := ite_t hf q
        refine g_aload_n (i := 0) hc 0 rfl rfl dX7_send_38 (pc2 := 39) rfl ?_
        refine g_iconst (v := (2 : Int32)) hc (by decide) dX7_send_39 (pc2 := 40) rfl ?_
        obtain ⟨r8, s12, hp, hf⟩ := bd_some hf
        refine g_vI hc (k7_fails hp) co_X7_101 (u19 (by decide)) rfl rfl (by decide) (by decide) (Nat.le_of_ble_eq_true rfl) dX7_send_40 (pc2 := 43) rfl ?_
        exact g_iret hc hf hr rfl (by decide) (by decide) dX7_send_43
    · have hf := ite_t hf q
      refine g_sub [0] rfl ?_
      exact Hj1 _ hf
def f7_pass (a1 : Int32) (s0 : Mem) : Option (Int32 × Mem) :=
  nm (ms s0 62 0 0 (0 : Int32)) fun s1 => bd (f7_in (a1.toInt64) (1 : Int64) (99 : Int64) s1) fun r1 s2 => (if r1 = (0 : Int32) then bd (f7_fails (1 : Int32) s2) fun r3 s5 => some (r3, s5) else bv (f7_remember s2) fun s3 => bd (f7_passes a1 s3) fun r2 s4 => some (r2, s4))
def rm_7_pass : Room := { frames := 6, cells := 0, slots := 0, locals := 139 }
set_option maxHeartbeats 4000000 in
set_option maxRecDepth 100000 in
theorem k7_pass {κ : Kx} {τ : Nat → Int64} {a1 : Int32} {s0 sR : Mem} {rR : Int32}  (hf : f7_pass a1 s0 = some (rR, sR)) : CtI κ yX7_pass cX7_pass 2 (some .int) rm_7_pass (NV κ τ) (NV κ τ) [.ref (ad κ.1 19 0), .int a1] s0 sR rR := by
  refine ct_I (by decide +kernel) (Nat.le_of_ble_eq_true rfl) (fun φ hc hr => ?_)
  have hc : Cx κ φ RX7 cX7_pass 2 rm_7_pass := hc
  show G κ φ (QI κ φ (NV κ τ) sR rR rm_7_pass.cells rm_7_pass.slots) (NV κ τ) 0 0 s0 [(0, .ref (ad κ.1 19 0)), (1, .int a1)] 0 []
  unfold f7_pass at hf
  refine g_aload_n (i := 0) hc 0 rfl rfl dX7_pass_0 (pc2 := 1) rfl ?_
  refine g_iconst (v := (0 : Int32)) hc (by decide) dX7_pass_1 (pc2 := 2) rfl ?_
  obtain ⟨s1, hs1, hf⟩ := nm_ex hf
  refine g_puti hc (by decide) fo_X7_39 clO_19 poK_19_9 rfl (u19 (by decide)) rfl rfl dX7_pass_2 (pc2 := 5) rfl ?_
  refine g_nms hs1 ?_
  refine g_iload_n (i := 1) hc 1 rfl rfl dX7_pass_5 (pc2 := 6) rfl ?_
  refine g_i2l hc dX7_pass_6 (pc2 := 7) rfl ?_
  refine g_lconst (v := (1 : Int64)) hc (by decide) dX7_pass_7 (pc2 := 8) rfl ?_
  refine g_ldc2 (v := (99 : Int64)) hc (gwm 1125 (by decide +kernel) (by decide +kernel)) dX7_pass_8 (pc2 := 11) rfl ?_
  obtain ⟨r1, s2, hp, hf⟩ := bd_some hf
  refine g_sI hc (k7_in hp) co_X7_46 rfl rfl (by decide) (by decide) (Nat.le_of_ble_eq_true rfl) dX7_pass_11 (pc2 := 14) rfl ?_
  refine g_if_ne hc 23 (by decide) dX7_pass_14 (pc2 := 17) rfl (fun q => ?_) (fun q => ?_)
  · have hf := ite_f hf q
    refine g_aload_n (i := 0) hc 0 rfl rfl dX7_pass_23 (pc2 := 24) rfl ?_
    obtain ⟨s3, hp, hf⟩ := bv_some hf
    refine g_vV hc (k7_remember hp) co_X7_158 (u19 (by decide)) rfl rfl (by decide) (by decide) (Nat.le_of_ble_eq_true rfl) dX7_pass_24 (pc2 := 27) rfl ?_
    refine g_aload_n (i := 0) hc 0 rfl rfl dX7_pass_27 (pc2 := 28) rfl ?_
    refine g_iload_n (i := 1) hc 1 rfl rfl dX7_pass_28 (pc2 := 29) rfl ?_
    obtain ⟨r2, s4, hp, hf⟩ := bd_some hf
    refine g_vI hc (k7_passes hp) co_X7_176 (u19 (by decide)) rfl rfl (by decide) (by decide) (Nat.le_of_ble_eq_true rfl) dX7_pass_29 (pc2 := 32) rfl ?_
    exact g_iret hc hf hr rfl (by decide) (by decide) dX7_pass_32
  · have hf := ite_t hf q
    refine g_aload_n (i := 0) hc 0 rfl rfl dX7_pass_17 (pc2 := 18) rfl ?_
    refine g_iconst (v := (1 : Int32)) hc (by decide) dX7_pass_18 (pc2 := 19) rfl ?_
    obtain ⟨r3, s5, hp, hf⟩ := bd_some hf
    refine g_vI hc (k7_fails hp) co_X7_101 (u19 (by decide)) rfl rfl (by decide) (by decide) (Nat.le_of_ble_eq_true rfl) dX7_pass_19 (pc2 := 22) rfl ?_
    exact g_iret hc hf hr rfl (by decide) (by decide) dX7_pass_22
def f7_forgive (a1 : Int32) (a2 : Int32) (s0 : Mem) : Option (Int32 × Mem) :=
  nm (ms s0 62 0 0 (0 : Int32)) fun s1 => bd (f7_isMaster a1 s1) fun r1 s2 => nm (fun (s3 : Mem) => bd (f7_fails (1 : Int32) s3) fun r2 s4 => some (r2, s4)) fun j1 => (if r1 = (0 : Int32) then j1 s2 else bd (f7_isMaster a2 s2) fun r3 s5 => (if r3 = (0 : Int32) then j1 s5 else bv (f7_remember s5) fun s6 => bd (f7_puts (((27 : Int32) + ((6 : Int32) * a1)) + a2) (0 : Int32) s6) fun r4 s7 => some (r4, s7)))
def rm_7_forgive : Room := { frames := 2, cells := 0, slots := 0, locals := 46 }
set_option maxHeartbeats 4000000 in
set_option maxRecDepth 100000 in
theorem k7_forgive {κ : Kx} {τ : Nat → Int64} {a1 : Int32} {a2 : Int32} {s0 sR : Mem} {rR : Int32}  (hf : f7_forgive a1 a2 s0 = some (rR, sR)) : CtI κ yX7_forgive cX7_forgive 3 (some .int) rm_7_forgive (NV κ τ) (NV κ τ) [.ref (ad κ.1 19 0), .int a1, .int a2] s0 sR rR := by
  refine ct_I (by decide +kernel) (Nat.le_of_ble_eq_true rfl) (fun φ hc hr => ?_)
  have hc : Cx κ φ RX7 cX7_forgive 3 rm_7_forgive := hc
  show G κ φ (QI κ φ (NV κ τ) sR rR rm_7_forgive.cells rm_7_forgive.slots) (NV κ τ) 0 0 s0 [(0, .ref (ad κ.1 19 0)), (1, .int a1), (2, .int a2)] 0 []
  unfold f7_forgive at hf
  refine g_aload_n (i := 0) hc 0 rfl rfl dX7_forgive_0 (pc2 := 1) rfl ?_
  refine g_iconst (v := (0 : Int32)) hc (by decide) dX7_forgive_1 (pc2 := 2) rfl ?_
  obtain ⟨s1, hs1, hf⟩ := nm_ex hf
  refine g_puti hc (by decide) fo_X7_39 clO_19 poK_19_9 rfl (u19 (by decide)) rfl rfl dX7_forgive_2 (pc2 := 5) rfl ?_
  refine g_nms hs1 ?_
  refine g_aload_n (i := 0) hc 0 rfl rfl dX7_forgive_5 (pc2 := 6) rfl ?_
  refine g_iload_n (i := 1) hc 1 rfl rfl dX7_forgive_6 (pc2 := 7) rfl ?_
  obtain ⟨r1, s2, hp, hf⟩ := bd_some hf
  refine g_vI hc (k7_isMaster hp) co_X7_146 (u19 (by decide)) rfl rfl (by decide) (by decide) (Nat.le_of_ble_eq_true rfl) dX7_forgive_7 (pc2 := 10) rfl ?_
  obtain ⟨j1, hj1, hf⟩ := nm_ex hf
  have Hj1 : ∀ (s3 : Mem), j1 s3 = some (rR, sR) → G κ φ (QI κ φ (NV κ τ) sR rR rm_7_forgive.cells rm_7_forgive.slots) (NV κ τ) 0 0 s3 [(0, .ref (ad κ.1 19 0))] 21 [] := by
    intro s3 hf
    rw [hj1] at hf
    refine g_aload_n (i := 0) hc 0 rfl rfl dX7_forgive_21 (pc2 := 22) rfl ?_
    refine g_iconst (v := (1 : Int32)) hc (by decide) dX7_forgive_22 (pc2 := 23) rfl ?_
    obtain ⟨r2, s4, hp, hf⟩ := bd_some hf
    refine g_vI hc (k7_fails hp) co_X7_101 (u19 (by decide)) rfl rfl (by decide) (by decide) (Nat.le_of_ble_eq_true rfl) dX7_forgive_23 (pc2 := 26) rfl ?_
    exact g_iret hc hf hr rfl (by decide) (by decide) dX7_forgive_26
  refine g_if_eq hc 21 (by decide) dX7_forgive_10 (pc2 := 13) rfl (fun q => ?_) (fun q => ?_)
  · have hf := ite_t hf q
    refine g_sub [0] rfl ?_
    exact Hj1 _ hf
  · have hf := ite_f hf q
    refine g_aload_n (i := 0) hc 0 rfl rfl dX7_forgive_13 (pc2 := 14) rfl ?_
    refine g_iload_n (i := 2) hc 2 rfl rfl dX7_forgive_14 (pc2 := 15) rfl ?_
    obtain ⟨r3, s5, hp, hf⟩ := bd_some hf
    refine g_vI hc (k7_isMaster hp) co_X7_146 (u19 (by decide)) rfl rfl (by decide) (by decide) (Nat.le_of_ble_eq_true rfl) dX7_forgive_15 (pc2 := 18) rfl ?_
    refine g_if_ne hc 27 (by decide) dX7_forgive_18 (pc2 := 21) rfl (fun q => ?_) (fun q => ?_)
    · have hf := ite_f hf q
      refine g_aload_n (i := 0) hc 0 rfl rfl dX7_forgive_27 (pc2 := 28) rfl ?_
      obtain ⟨s6, hp, hf⟩ := bv_some hf
      refine g_vV hc (k7_remember hp) co_X7_158 (u19 (by decide)) rfl rfl (by decide) (by decide) (Nat.le_of_ble_eq_true rfl) dX7_forgive_28 (pc2 := 31) rfl ?_
      refine g_aload_n (i := 0) hc 0 rfl rfl dX7_forgive_31 (pc2 := 32) rfl ?_
      refine g_bipush (v := (27 : Int32)) hc (by decide) dX7_forgive_32 (pc2 := 34) rfl ?_
      refine g_bipush (v := (6 : Int32)) hc (by decide) dX7_forgive_34 (pc2 := 36) rfl ?_
      refine g_iload_n (i := 1) hc 1 rfl rfl dX7_forgive_36 (pc2 := 37) rfl ?_
      refine g_imul hc dX7_forgive_37 (pc2 := 38) rfl ?_
      refine g_iadd hc dX7_forgive_38 (pc2 := 39) rfl ?_
      refine g_iload_n (i := 2) hc 2 rfl rfl dX7_forgive_39 (pc2 := 40) rfl ?_
      refine g_iadd hc dX7_forgive_40 (pc2 := 41) rfl ?_
      refine g_iconst (v := (0 : Int32)) hc (by decide) dX7_forgive_41 (pc2 := 42) rfl ?_
      obtain ⟨r4, s7, hp, hf⟩ := bd_some hf
      refine g_vI hc (k7_puts hp) co_X7_161 (u19 (by decide)) rfl rfl (by decide) (by decide) (Nat.le_of_ble_eq_true rfl) dX7_forgive_42 (pc2 := 45) rfl ?_
      exact g_iret hc hf hr rfl (by decide) (by decide) dX7_forgive_45
    · have hf := ite_t hf q
      refine g_sub [0] rfl ?_
      exact Hj1 _ hf
def f7_undo_l30  (k1 : Mem → Option (Int32 × Mem)) : Nat → Int32 → Mem → Option (Int32 × Mem)
  | 0, _, _ => none
  | n1 + 1, m1, s4 => (if (291 : Int32) ≤ m1 then k1 s4 else gd (ib (((291 : Int32) * (s4 60 0 0)) + m1) 4074) (gd (ib m1 291) (nm (ms s4 20 0 m1.toNatClampNeg (s4 21 0 (((291 : Int32) * (s4 60 0 0)) + m1).toNatClampNeg)) fun s5 => nm (m1 + (1 : Int32)) fun x1 => f7_undo_l30 k1 n1 x1 s5)))
def f7_undo  (s0 : Mem) : Option (Int32 × Mem) :=
  nm (ms s0 62 0 0 (0 : Int32)) fun s1 => (if (s1 60 0 0) = (0 : Int32) then bd (f7_fails (1 : Int32) s1) fun r1 s6 => some (r1, s6) else nm (ms s1 60 0 0 ((s1 60 0 0) - (1 : Int32))) fun s2 => nm (fun (s3 : Mem) => some (s3 60 0 0, s3)) fun k1 => f7_undo_l30 k1 FU (0 : Int32) s2)
def rm_7_undo : Room := { frames := 1, cells := 0, slots := 0, locals := 21 }
set_option maxHeartbeats 4000000 in
set_option maxRecDepth 100000 in
theorem k7_undo {κ : Kx} {τ : Nat → Int64}  {s0 sR : Mem} {rR : Int32}  (hf : f7_undo s0 = some (rR, sR)) : CtI κ yX7_undo cX7_undo 2 (some .int) rm_7_undo (NV κ τ) (NV κ τ) [.ref (ad κ.1 19 0)] s0 sR rR := by
  refine ct_I (by decide +kernel) (Nat.le_of_ble_eq_true rfl) (fun φ hc hr => ?_)
  have hc : Cx κ φ RX7 cX7_undo 2 rm_7_undo := hc
  show G κ φ (QI κ φ (NV κ τ) sR rR rm_7_undo.cells rm_7_undo.slots) (NV κ τ) 0 0 s0 [(0, .ref (ad κ.1 19 0))] 0 []
  unfold f7_undo at hf
  refine g_aload_n (i := 0) hc 0 rfl rfl dX7_undo_0 (pc2 := 1) rfl ?_
  refine g_iconst (v := (0 : Int32)) hc (by decide) dX7_undo_1 (pc2 := 2) rfl ?_
  obtain ⟨s1, hs1, hf⟩ := nm_ex hf
  refine g_puti hc (by decide) fo_X7_39 clO_19 poK_19_9 rfl (u19 (by decide)) rfl rfl dX7_undo_2 (pc2 := 5) rfl ?_
  refine g_nms hs1 ?_
  refine g_aload_n (i := 0) hc 0 rfl rfl dX7_undo_5 (pc2 := 6) rfl ?_
  refine g_geti hc fo_X7_43 (u19 (by decide)) dX7_undo_6 (pc2 := 9) rfl ?_
  refine g_if_ne hc 18 (by decide) dX7_undo_9 (pc2 := 12) rfl (fun q => ?_) (fun q => ?_)
  · have hf := ite_f hf q
    refine g_aload_n (i := 0) hc 0 rfl rfl dX7_undo_18 (pc2 := 19) rfl ?_
    refine g_dup hc rfl dX7_undo_19 (pc2 := 20) rfl ?_
    refine g_geti hc fo_X7_43 (u19 (by decide)) dX7_undo_20 (pc2 := 23) rfl ?_
    refine g_iconst (v := (1 : Int32)) hc (by decide) dX7_undo_23 (pc2 := 24) rfl ?_
    refine g_isub hc dX7_undo_24 (pc2 := 25) rfl ?_
    obtain ⟨s2, hs2, hf⟩ := nm_ex hf
    refine g_puti hc (by decide) fo_X7_43 clO_19 poK_19_4 rfl (u19 (by decide)) rfl rfl dX7_undo_25 (pc2 := 28) rfl ?_
    refine g_nms hs2 ?_
    refine g_iconst (v := (0 : Int32)) hc (by decide) dX7_undo_28 (pc2 := 29) rfl ?_
    refine g_istore_n (i := 1) (L1 := [(1, .int (0 : Int32)), (0, .ref (ad κ.1 19 0))]) hc rfl (by decide) rfl dX7_undo_29 (pc2 := 30) rfl ?_
    obtain ⟨k1, hk1, hf⟩ := nm_ex hf
    have Hk1 : ∀ (s3 : Mem), k1 s3 = some (rR, sR) → G κ φ (QI κ φ (NV κ τ) sR rR rm_7_undo.cells rm_7_undo.slots) (NV κ τ) 0 0 s3 [(0, .ref (ad κ.1 19 0))] 64 [] := by
      intro s3 hf
      rw [hk1] at hf
      refine g_aload_n (i := 0) hc 0 rfl rfl dX7_undo_64 (pc2 := 65) rfl ?_
      refine g_geti hc fo_X7_43 (u19 (by decide)) dX7_undo_65 (pc2 := 68) rfl ?_
      exact g_iret hc hf hr rfl (by decide) (by decide) dX7_undo_68
    have LP_n1 : ∀ (n1 : Nat) (m1 : Int32) (s4 : Mem), f7_undo_l30 k1 n1 m1 s4 = some (rR, sR) → G κ φ (QI κ φ (NV κ τ) sR rR rm_7_undo.cells rm_7_undo.slots) (NV κ τ) 0 0 s4 [(0, .ref (ad κ.1 19 0)), (1, .int m1)] 30 [] := by
      intro n1
      induction n1 with
      | zero => intro m1 s4 hf; rw [f7_undo_l30] at hf; cases hf
      | succ n1 ih_n1 =>
        intro m1 s4 hf
        rw [f7_undo_l30] at hf
        refine g_iload_n (i := 1) hc 1 rfl rfl dX7_undo_30 (pc2 := 31) rfl ?_
        refine g_sipush (v := (291 : Int32)) hc (by decide) dX7_undo_31 (pc2 := 34) rfl ?_
        refine g_icmp_ge hc 64 (by decide) dX7_undo_34 (pc2 := 37) rfl (fun q => ?_) (fun q => ?_)
        · have hf := ite_t hf q
          refine g_sub [0] rfl ?_
          exact Hk1 _ hf
        · have hf := ite_f hf q
          refine g_aload_n (i := 0) hc 0 rfl rfl dX7_undo_37 (pc2 := 38) rfl ?_
          refine g_getr (q := ad κ.1 20 0) hc fo_X7_7 (u19 (by decide)) rfl dX7_undo_38 (pc2 := 41) rfl ?_
          refine g_iload_n (i := 1) hc 1 rfl rfl dX7_undo_41 (pc2 := 42) rfl ?_
          refine g_aload_n (i := 0) hc 0 rfl rfl dX7_undo_42 (pc2 := 43) rfl ?_
          refine g_getr (q := ad κ.1 21 0) hc fo_X7_19 (u19 (by decide)) rfl dX7_undo_43 (pc2 := 46) rfl ?_
          refine g_sipush (v := (291 : Int32)) hc (by decide) dX7_undo_46 (pc2 := 49) rfl ?_
          refine g_aload_n (i := 0) hc 0 rfl rfl dX7_undo_49 (pc2 := 50) rfl ?_
          refine g_geti hc fo_X7_43 (u19 (by decide)) dX7_undo_50 (pc2 := 53) rfl ?_
          refine g_imul hc dX7_undo_53 (pc2 := 54) rfl ?_
          refine g_iload_n (i := 1) hc 1 rfl rfl dX7_undo_54 (pc2 := 55) rfl ?_
          refine g_iadd hc dX7_undo_55 (pc2 := 56) rfl ?_
          obtain ⟨hg1, hf⟩ := gd_some hf
          refine g_aldi hc 21 0 rfl (u21 (by decide)) hg1 dX7_undo_56 (pc2 := 57) rfl ?_
          obtain ⟨hg2, hf⟩ := gd_some hf
          obtain ⟨s5, hs5, hf⟩ := nm_ex hf
          refine g_asti hc 20 0 rfl (u20 (by decide)) hg2 dX7_undo_57 (pc2 := 58) rfl ?_
          refine g_nms hs5 ?_
          obtain ⟨x1, hx1, hf⟩ := nm_ex hf
          refine g_iinc (v := x1) (L1 := [(1, .int x1), (0, .ref (ad κ.1 19 0))]) hc 1 rfl (by rw [hx1]; rfl) (by decide) rfl dX7_undo_58 (pc2 := 61) rfl ?_
          refine g_goto hc 30 (by decide) dX7_undo_61 ?_
          refine g_sub [1, 0] rfl ?_
          exact ih_n1 _ _ hf
    refine g_sub [1, 0] rfl ?_
    exact LP_n1 _ _ _ hf
  · have hf := ite_t hf q
    refine g_aload_n (i := 0) hc 0 rfl rfl dX7_undo_12 (pc2 := 13) rfl ?_
    refine g_iconst (v := (1 : Int32)) hc (by decide) dX7_undo_13 (pc2 := 14) rfl ?_
    obtain ⟨r1, s6, hp, hf⟩ := bd_some hf
    refine g_vI hc (k7_fails hp) co_X7_101 (u19 (by decide)) rfl rfl (by decide) (by decide) (Nat.le_of_ble_eq_true rfl) dX7_undo_14 (pc2 := 17) rfl ?_
    exact g_iret hc hf hr rfl (by decide) (by decide) dX7_undo_17
def f7_turnIn (a1 : Int32) (s0 : Mem) : Option (Int32 × Mem) :=
  nm (ms s0 62 0 0 (0 : Int32)) fun s1 => bd (f7_in (a1.toInt64) (0 : Int64) (99 : Int64) s1) fun r1 s2 => (if r1 = (0 : Int32) then bd (f7_fails (1 : Int32) s2) fun r4 s7 => some (r4, s7) else bv (f7_copy 0 1 s2) fun s3 => bd (f7_passes a1 s3) fun r2 s4 => bd (f7_tick s4) fun r3 s5 => bv (f7_copy 1 0 s5) fun s6 => (if (0 : Int32) ≤ r3 then some (r3, s6) else some ((-9 : Int32), s6)))
def rm_7_turnIn : Room := { frames := 6, cells := 0, slots := 0, locals := 139 }
set_option maxHeartbeats 4000000 in
set_option maxRecDepth 100000 in
theorem k7_turnIn {κ : Kx} {τ : Nat → Int64} {a1 : Int32} {s0 sR : Mem} {rR : Int32}  (hf : f7_turnIn a1 s0 = some (rR, sR)) : CtI κ yX7_turnIn cX7_turnIn 3 (some .int) rm_7_turnIn (NV κ τ) (NV κ τ) [.ref (ad κ.1 19 0), .int a1] s0 sR rR := by
  refine ct_I (by decide +kernel) (Nat.le_of_ble_eq_true rfl) (fun φ hc hr => ?_)
  have hc : Cx κ φ RX7 cX7_turnIn 3 rm_7_turnIn := hc
  show G κ φ (QI κ φ (NV κ τ) sR rR rm_7_turnIn.cells rm_7_turnIn.slots) (NV κ τ) 0 0 s0 [(0, .ref (ad κ.1 19 0)), (1, .int a1)] 0 []
  unfold f7_turnIn at hf
  refine g_aload_n (i := 0) hc 0 rfl rfl dX7_turnIn_0 (pc2 := 1) rfl ?_
  refine g_iconst (v := (0 : Int32)) hc (by decide) dX7_turnIn_1 (pc2 := 2) rfl ?_
  obtain ⟨s1, hs1, hf⟩ := nm_ex hf
  refine g_puti hc (by decide) fo_X7_39 clO_19 poK_19_9 rfl (u19 (by decide)) rfl rfl dX7_turnIn_2 (pc2 := 5) rfl ?_
  refine g_nms hs1 ?_
  refine g_iload_n (i := 1) hc 1 rfl rfl dX7_turnIn_5 (pc2 := 6) rfl ?_
  refine g_i2l hc dX7_turnIn_6 (pc2 := 7) rfl ?_
  refine g_lconst (v := (0 : Int64)) hc (by decide) dX7_turnIn_7 (pc2 := 8) rfl ?_
  refine g_ldc2 (v := (99 : Int64)) hc (gwm 1125 (by decide +kernel) (by decide +kernel)) dX7_turnIn_8 (pc2 := 11) rfl ?_
  obtain ⟨r1, s2, hp, hf⟩ := bd_some hf
  refine g_sI hc (k7_in hp) co_X7_46 rfl rfl (by decide) (by decide) (Nat.le_of_ble_eq_true rfl) dX7_turnIn_11 (pc2 := 14) rfl ?_
  refine g_if_ne hc 23 (by decide) dX7_turnIn_14 (pc2 := 17) rfl (fun q => ?_) (fun q => ?_)
  · have hf := ite_f hf q
    refine g_aload_n (i := 0) hc 0 rfl rfl dX7_turnIn_23 (pc2 := 24) rfl ?_
    refine g_getr (q := ad κ.1 20 0) hc fo_X7_7 (u19 (by decide)) rfl dX7_turnIn_24 (pc2 := 27) rfl ?_
    refine g_aload_n (i := 0) hc 0 rfl rfl dX7_turnIn_27 (pc2 := 28) rfl ?_
    refine g_getr (q := ad κ.1 20 1) hc fo_X7_13 (u19 (by decide)) rfl dX7_turnIn_28 (pc2 := 31) rfl ?_
    obtain ⟨s3, hp, hf⟩ := bv_some hf
    refine g_sV hc (k7_copy (by decide) (by decide) hp) co_X7_179 rfl rfl (by decide) (by decide) (Nat.le_of_ble_eq_true rfl) dX7_turnIn_31 (pc2 := 34) rfl ?_
    refine g_aload_n (i := 0) hc 0 rfl rfl dX7_turnIn_34 (pc2 := 35) rfl ?_
    refine g_iload_n (i := 1) hc 1 rfl rfl dX7_turnIn_35 (pc2 := 36) rfl ?_
    obtain ⟨r2, s4, hp, hf⟩ := bd_some hf
    refine g_vI hc (k7_passes hp) co_X7_176 (u19 (by decide)) rfl rfl (by decide) (by decide) (Nat.le_of_ble_eq_true rfl) dX7_turnIn_36 (pc2 := 39) rfl ?_
    refine g_pop hc rfl dX7_turnIn_39 (pc2 := 40) rfl ?_
    refine g_aload_n (i := 0) hc 0 rfl rfl dX7_turnIn_40 (pc2 := 41) rfl ?_
    obtain ⟨r3, s5, hp, hf⟩ := bd_some hf
    refine g_vI hc (k7_tick hp) co_X7_95 (u19 (by decide)) rfl rfl (by decide) (by decide) (Nat.le_of_ble_eq_true rfl) dX7_turnIn_41 (pc2 := 44) rfl ?_
    refine g_istore_n (i := 2) (L1 := [(2, .int r3), (0, .ref (ad κ.1 19 0)), (1, .int a1)]) hc rfl (by decide) rfl dX7_turnIn_44 (pc2 := 45) rfl ?_
    refine g_aload_n (i := 0) hc 1 rfl rfl dX7_turnIn_45 (pc2 := 46) rfl ?_
    refine g_getr (q := ad κ.1 20 1) hc fo_X7_13 (u19 (by decide)) rfl dX7_turnIn_46 (pc2 := 49) rfl ?_
    refine g_aload_n (i := 0) hc 1 rfl rfl dX7_turnIn_49 (pc2 := 50) rfl ?_
    refine g_getr (q := ad κ.1 20 0) hc fo_X7_7 (u19 (by decide)) rfl dX7_turnIn_50 (pc2 := 53) rfl ?_
    obtain ⟨s6, hp, hf⟩ := bv_some hf
    refine g_sV hc (k7_copy (by decide) (by decide) hp) co_X7_179 rfl rfl (by decide) (by decide) (Nat.le_of_ble_eq_true rfl) dX7_turnIn_53 (pc2 := 56) rfl ?_
    refine g_iload_n (i := 2) hc 0 rfl rfl dX7_turnIn_56 (pc2 := 57) rfl ?_
    refine g_if_ge hc 65 (by decide) dX7_turnIn_57 (pc2 := 60) rfl (fun q => ?_) (fun q => ?_)
    · have hf := ite_t hf q
      refine g_iload_n (i := 2) hc 0 rfl rfl dX7_turnIn_65 (pc2 := 66) rfl ?_
      exact g_iret hc hf hr rfl (by decide) (by decide) dX7_turnIn_66
    · have hf := ite_f hf q
      refine g_bipush (v := (-9 : Int32)) hc (by decide) dX7_turnIn_60 (pc2 := 62) rfl ?_
      refine g_goto hc 66 (by decide) dX7_turnIn_62 ?_
      exact g_iret hc hf hr rfl (by decide) (by decide) dX7_turnIn_66
  · have hf := ite_t hf q
    refine g_aload_n (i := 0) hc 0 rfl rfl dX7_turnIn_17 (pc2 := 18) rfl ?_
    refine g_iconst (v := (1 : Int32)) hc (by decide) dX7_turnIn_18 (pc2 := 19) rfl ?_
    obtain ⟨r4, s7, hp, hf⟩ := bd_some hf
    refine g_vI hc (k7_fails hp) co_X7_101 (u19 (by decide)) rfl rfl (by decide) (by decide) (Nat.le_of_ble_eq_true rfl) dX7_turnIn_19 (pc2 := 22) rfl ?_
    exact g_iret hc hf hr rfl (by decide) (by decide) dX7_turnIn_22
def f7_isDone (a1 : Int32) (s0 : Mem) : Option (Int32 × Mem) :=
  bd (f7_of a1 (0 : Int32) s0) fun r1 s1 => nm (fun (s2 : Mem) => some ((0 : Int32), s2)) fun j1 => (if r1 = (0 : Int32) then bd (f7_of a1 (7 : Int32) s1) fun r2 s3 => (if r2 = (0 : Int32) then some ((1 : Int32), s3) else j1 s3) else j1 s1)
def rm_7_isDone : Room := { frames := 2, cells := 0, slots := 0, locals := 43 }
set_option maxHeartbeats 4000000 in
set_option maxRecDepth 100000 in
theorem k7_isDone {κ : Kx} {τ : Nat → Int64} {a1 : Int32} {s0 sR : Mem} {rR : Int32}  (hf : f7_isDone a1 s0 = some (rR, sR)) : CtI κ yX7_isDone cX7_isDone 2 (some .boolean) rm_7_isDone (NV κ τ) (NV κ τ) [.ref (ad κ.1 19 0), .int a1] s0 sR rR := by
  refine ct_I (by decide +kernel) (Nat.le_of_ble_eq_true rfl) (fun φ hc hr => ?_)
  have hc : Cx κ φ RX7 cX7_isDone 2 rm_7_isDone := hc
  show G κ φ (QI κ φ (NV κ τ) sR rR rm_7_isDone.cells rm_7_isDone.slots) (NV κ τ) 0 0 s0 [(0, .ref (ad κ.1 19 0)), (1, .int a1)] 0 []
  unfold f7_isDone at hf
  refine g_aload_n (i := 0) hc 0 rfl rfl dX7_isDone_0 (pc2 := 1) rfl ?_
  refine g_iload_n (i := 1) hc 1 rfl rfl dX7_isDone_1 (pc2 := 2) rfl ?_
  refine g_iconst (v := (0 : Int32)) hc (by decide) dX7_isDone_2 (pc2 := 3) rfl ?_
  obtain ⟨r1, s1, hp, hf⟩ := bd_some hf
  refine g_vI hc (k7_of hp) co_X7_59 (u19 (by decide)) rfl rfl (by decide) (by decide) (Nat.le_of_ble_eq_true rfl) dX7_isDone_3 (pc2 := 6) rfl ?_
  obtain ⟨j1, hj1, hf⟩ := nm_ex hf
  have Hj1 : ∀ (s2 : Mem), j1 s2 = some (rR, sR) → G κ φ (QI κ φ (NV κ τ) sR rR rm_7_isDone.cells rm_7_isDone.slots) (NV κ τ) 0 0 s2 [] 23 [] := by
    intro s2 hf
    rw [hj1] at hf
    refine g_iconst (v := (0 : Int32)) hc (by decide) dX7_isDone_23 (pc2 := 24) rfl ?_
    exact g_iret hc hf hr rfl (by decide) (by decide) dX7_isDone_24
  refine g_if_ne hc 23 (by decide) dX7_isDone_6 (pc2 := 9) rfl (fun q => ?_) (fun q => ?_)
  · have hf := ite_f hf q
    refine g_sub [] rfl ?_
    exact Hj1 _ hf
  · have hf := ite_t hf q
    refine g_aload_n (i := 0) hc 0 rfl rfl dX7_isDone_9 (pc2 := 10) rfl ?_
    refine g_iload_n (i := 1) hc 1 rfl rfl dX7_isDone_10 (pc2 := 11) rfl ?_
    refine g_bipush (v := (7 : Int32)) hc (by decide) dX7_isDone_11 (pc2 := 13) rfl ?_
    obtain ⟨r2, s3, hp, hf⟩ := bd_some hf
    refine g_vI hc (k7_of hp) co_X7_59 (u19 (by decide)) rfl rfl (by decide) (by decide) (Nat.le_of_ble_eq_true rfl) dX7_isDone_13 (pc2 := 16) rfl ?_
    refine g_if_ne hc 23 (by decide) dX7_isDone_16 (pc2 := 19) rfl (fun q => ?_) (fun q => ?_)
    · have hf := ite_f hf q
      refine g_sub [] rfl ?_
      exact Hj1 _ hf
    · have hf := ite_t hf q
      refine g_iconst (v := (1 : Int32)) hc (by decide) dX7_isDone_19 (pc2 := 20) rfl ?_
      refine g_goto hc 24 (by decide) dX7_isDone_20 ?_
      exact g_iret hc hf hr rfl (by decide) (by decide) dX7_isDone_24
def f7_doneWith_l24 (a1 : Int32) (k2 : Int32 → Mem → Option (Int32 × Mem)) : Nat → Int32 → Int32 → Mem → Option (Int32 × Mem)
  | 0, _, _, _ => none
  | n2 + 1, m3, m4, s9 => (if (s9 20 0 ((0 : Int32)).toNatClampNeg) ≤ m4 then k2 m3 s9 else nm (fun (y4 : Int32) (s10 : Mem) => nm (m4 + (1 : Int32)) fun x2 => f7_doneWith_l24 a1 k2 n2 y4 x2 s10) fun j3 => nm (fun (s11 : Mem) => j3 (1 : Int32) s11) fun j4 => (if m3 = (0 : Int32) then nm (fun (s12 : Mem) => j3 (0 : Int32) s12) fun j5 => (if ((a1 >>> (m4 &&& 31)) &&& (1 : Int32)) = (1 : Int32) then bd (f7_isDone m4 s9) fun r2 s13 => (if r2 = (0 : Int32) then j4 s13 else j5 s13) else j5 s9) else j4 s9))
def f7_doneWith_l15 (a1 : Int32) (k1 : Int32 → Mem → Option (Int32 × Mem)) : Nat → Int32 → Int32 → Mem → Option (Int32 × Mem)
  | 0, _, _, _ => none
  | n1 + 1, m1, m2, s4 => (if m2 = (0 : Int32) then k1 m1 s4 else nm (fun (y2 : Int32) (s5 : Mem) => nm (fun (y3 : Int32) (s6 : Mem) => (if y3 = (0 : Int32) then f7_doneWith_l15 a1 k1 n1 m1 y3 s6 else bd (f7_tick s6) fun r1 s7 => nm (m1 + (1 : Int32)) fun x1 => f7_doneWith_l15 a1 k1 n1 x1 y3 s7)) fun j1 => nm (fun (s8 : Mem) => j1 (0 : Int32) s8) fun j2 => (if y2 = (0 : Int32) then j2 s5 else (if (400 : Int32) < m1 then j2 s5 else j1 (1 : Int32) s5))) fun k2 => f7_doneWith_l24 a1 k2 FU (0 : Int32) (0 : Int32) s4)
def f7_doneWith (a1 : Int32) (s0 : Mem) : Option (Int32 × Mem) :=
  bv (f7_copy 0 2 s0) fun s1 => nm (fun (y1 : Int32) (s2 : Mem) => bv (f7_copy 2 0 s2) fun s3 => some (y1, s3)) fun k1 => f7_doneWith_l15 a1 k1 FU (0 : Int32) (1 : Int32) s1
def rm_7_doneWith : Room := { frames := 5, cells := 0, slots := 0, locals := 116 }
set_option maxHeartbeats 4000000 in
set_option maxRecDepth 100000 in
theorem k7_doneWith {κ : Kx} {τ : Nat → Int64} {a1 : Int32} {s0 sR : Mem} {rR : Int32}  (hf : f7_doneWith a1 s0 = some (rR, sR)) : CtI κ yX7_doneWith cX7_doneWith 5 (some .int) rm_7_doneWith (NV κ τ) (NV κ τ) [.ref (ad κ.1 19 0), .int a1] s0 sR rR := by
  refine ct_I (by decide +kernel) (Nat.le_of_ble_eq_true rfl) (fun φ hc hr => ?_)
  have hc : Cx κ φ RX7 cX7_doneWith 5 rm_7_doneWith := hc
  show G κ φ (QI κ φ (NV κ τ) sR rR rm_7_doneWith.cells rm_7_doneWith.slots) (NV κ τ) 0 0 s0 [(0, .ref (ad κ.1 19 0)), (1, .int a1)] 0 []
  unfold f7_doneWith at hf
  refine g_aload_n (i := 0) hc 0 rfl rfl dX7_doneWith_0 (pc2 := 1) rfl ?_
  refine g_getr (q := ad κ.1 20 0) hc fo_X7_7 (u19 (by decide)) rfl dX7_doneWith_1 (pc2 := 4) rfl ?_
  refine g_aload_n (i := 0) hc 0 rfl rfl dX7_doneWith_4 (pc2 := 5) rfl ?_
  refine g_getr (q := ad κ.1 20 2) hc fo_X7_16 (u19 (by decide)) rfl dX7_doneWith_5 (pc2 := 8) rfl ?_
  obtain ⟨s1, hp, hf⟩ := bv_some hf
  refine g_sV hc (k7_copy (by decide) (by decide) hp) co_X7_179 rfl rfl (by decide) (by decide) (Nat.le_of_ble_eq_true rfl) dX7_doneWith_8 (pc2 := 11) rfl ?_
  refine g_iconst (v := (0 : Int32)) hc (by decide) dX7_doneWith_11 (pc2 := 12) rfl ?_
  refine g_istore_n (i := 2) (L1 := [(2, .int (0 : Int32)), (0, .ref (ad κ.1 19 0)), (1, .int a1)]) hc rfl (by decide) rfl dX7_doneWith_12 (pc2 := 13) rfl ?_
  refine g_iconst (v := (1 : Int32)) hc (by decide) dX7_doneWith_13 (pc2 := 14) rfl ?_
  refine g_istore_n (i := 3) (L1 := [(3, .int (1 : Int32)), (2, .int (0 : Int32)), (0, .ref (ad κ.1 19 0)), (1, .int a1)]) hc rfl (by decide) rfl dX7_doneWith_14 (pc2 := 15) rfl ?_
  obtain ⟨k1, hk1, hf⟩ := nm_ex hf
  have Hk1 : ∀ (y1 : Int32) (s2 : Mem), k1 y1 s2 = some (rR, sR) → G κ φ (QI κ φ (NV κ τ) sR rR rm_7_doneWith.cells rm_7_doneWith.slots) (NV κ τ) 0 0 s2 [(0, .ref (ad κ.1 19 0)), (2, .int y1)] 102 [] := by
    intro y1 s2 hf
    rw [hk1] at hf
    refine g_aload_n (i := 0) hc 0 rfl rfl dX7_doneWith_102 (pc2 := 103) rfl ?_
    refine g_getr (q := ad κ.1 20 2) hc fo_X7_16 (u19 (by decide)) rfl dX7_doneWith_103 (pc2 := 106) rfl ?_
    refine g_aload_n (i := 0) hc 0 rfl rfl dX7_doneWith_106 (pc2 := 107) rfl ?_
    refine g_getr (q := ad κ.1 20 0) hc fo_X7_7 (u19 (by decide)) rfl dX7_doneWith_107 (pc2 := 110) rfl ?_
    obtain ⟨s3, hp, hf⟩ := bv_some hf
    refine g_sV hc (k7_copy (by decide) (by decide) hp) co_X7_179 rfl rfl (by decide) (by decide) (Nat.le_of_ble_eq_true rfl) dX7_doneWith_110 (pc2 := 113) rfl ?_
    refine g_iload_n (i := 2) hc 1 rfl rfl dX7_doneWith_113 (pc2 := 114) rfl ?_
    exact g_iret hc hf hr rfl (by decide) (by decide) dX7_doneWith_114
  have LP_n1 : ∀ (n1 : Nat) (m1 : Int32) (m2 : Int32) (s4 : Mem), f7_doneWith_l15 a1 k1 n1 m1 m2 s4 = some (rR, sR) → G κ φ (QI κ φ (NV κ τ) sR rR rm_7_doneWith.cells rm_7_doneWith.slots) (NV κ τ) 0 0 s4 [(0, .ref (ad κ.1 19 0)), (1, .int a1), (2, .int m1), (3, .int m2)] 15 [] := by
    intro n1
    induction n1 with
    | zero => intro m1 m2 s4 hf; rw [f7_doneWith_l15] at hf; cases hf
    | succ n1 ih_n1 =>
      intro m1 m2 s4 hf
      rw [f7_doneWith_l15] at hf
      refine g_iload_n (i := 3) hc 3 rfl rfl dX7_doneWith_15 (pc2 := 16) rfl ?_
      refine g_if_eq hc 102 (by decide) dX7_doneWith_16 (pc2 := 19) rfl (fun q => ?_) (fun q => ?_)
      · have hf := ite_t hf q
        refine g_sub [0, 2] rfl ?_
        exact Hk1 _ _ hf
      · have hf := ite_f hf q
        refine g_iconst (v := (0 : Int32)) hc (by decide) dX7_doneWith_19 (pc2 := 20) rfl ?_
        refine g_istore_n (i := 3) (L1 := [(3, .int (0 : Int32)), (0, .ref (ad κ.1 19 0)), (1, .int a1), (2, .int m1)]) hc rfl (by decide) rfl dX7_doneWith_20 (pc2 := 21) rfl ?_
        refine g_iconst (v := (0 : Int32)) hc (by decide) dX7_doneWith_21 (pc2 := 22) rfl ?_
        refine g_istore (L1 := [(4, .int (0 : Int32)), (3, .int (0 : Int32)), (0, .ref (ad κ.1 19 0)), (1, .int a1), (2, .int m1)]) hc (by decide) rfl dX7_doneWith_22 (pc2 := 24) rfl ?_
        obtain ⟨k2, hk2, hf⟩ := nm_ex hf
        have Hk2 : ∀ (y2 : Int32) (s5 : Mem), k2 y2 s5 = some (rR, sR) → G κ φ (QI κ φ (NV κ τ) sR rR rm_7_doneWith.cells rm_7_doneWith.slots) (NV κ τ) 0 0 s5 [(0, .ref (ad κ.1 19 0)), (1, .int a1), (2, .int m1), (3, .int y2)] 70 [] := by
          intro y2 s5 hf
          rw [hk2] at hf
          refine g_iload_n (i := 3) hc 3 rfl rfl dX7_doneWith_70 (pc2 := 71) rfl ?_
          obtain ⟨j1, hj1, hf⟩ := nm_ex hf
          have Hj1 : ∀ (y3 : Int32) (s6 : Mem), j1 y3 s6 = some (rR, sR) → G κ φ (QI κ φ (NV κ τ) sR rR rm_7_doneWith.cells rm_7_doneWith.slots) (NV κ τ) 0 0 s6 [(0, .ref (ad κ.1 19 0)), (1, .int a1), (2, .int m1)] 86 [.int y3] := by
            intro y3 s6 hf
            rw [hj1] at hf
            refine g_istore_n (i := 3) (L1 := [(3, .int y3), (0, .ref (ad κ.1 19 0)), (1, .int a1), (2, .int m1)]) hc rfl (by decide) rfl dX7_doneWith_86 (pc2 := 87) rfl ?_
            refine g_iload_n (i := 3) hc 0 rfl rfl dX7_doneWith_87 (pc2 := 88) rfl ?_
            refine g_if_eq hc 15 (by decide) dX7_doneWith_88 (pc2 := 91) rfl (fun q => ?_) (fun q => ?_)
            · have hf := ite_t hf q
              refine g_sub [1, 2, 3, 0] rfl ?_
              exact ih_n1 _ _ _ hf
            · have hf := ite_f hf q
              refine g_aload_n (i := 0) hc 1 rfl rfl dX7_doneWith_91 (pc2 := 92) rfl ?_
              obtain ⟨r1, s7, hp, hf⟩ := bd_some hf
              refine g_vI hc (k7_tick hp) co_X7_95 (u19 (by decide)) rfl rfl (by decide) (by decide) (Nat.le_of_ble_eq_true rfl) dX7_doneWith_92 (pc2 := 95) rfl ?_
              refine g_pop hc rfl dX7_doneWith_95 (pc2 := 96) rfl ?_
              obtain ⟨x1, hx1, hf⟩ := nm_ex hf
              refine g_iinc (v := x1) (L1 := [(2, .int x1), (3, .int y3), (0, .ref (ad κ.1 19 0)), (1, .int a1)]) hc 3 rfl (by rw [hx1]; rfl) (by decide) rfl dX7_doneWith_96 (pc2 := 99) rfl ?_
              refine g_goto hc 15 (by decide) dX7_doneWith_99 ?_
              refine g_sub [2, 3, 0, 1] rfl ?_
              exact ih_n1 _ _ _ hf
          obtain ⟨j2, hj2, hf⟩ := nm_ex hf
          have Hj2 : ∀ (s8 : Mem), j2 s8 = some (rR, sR) → G κ φ (QI κ φ (NV κ τ) sR rR rm_7_doneWith.cells rm_7_doneWith.slots) (NV κ τ) 0 0 s8 [(0, .ref (ad κ.1 19 0)), (1, .int a1), (2, .int m1)] 85 [] := by
            intro s8 hf
            rw [hj2] at hf
            refine g_iconst (v := (0 : Int32)) hc (by decide) dX7_doneWith_85 (pc2 := 86) rfl ?_
            exact Hj1 _ _ hf
          refine g_if_eq hc 85 (by decide) dX7_doneWith_71 (pc2 := 74) rfl (fun q => ?_) (fun q => ?_)
          · have hf := ite_t hf q
            refine g_sub [0, 1, 2] rfl ?_
            exact Hj2 _ hf
          · have hf := ite_f hf q
            refine g_iload_n (i := 2) hc 2 rfl rfl dX7_doneWith_74 (pc2 := 75) rfl ?_
            refine g_sipush (v := (400 : Int32)) hc (by decide) dX7_doneWith_75 (pc2 := 78) rfl ?_
            refine g_icmp_gt hc 85 (by decide) dX7_doneWith_78 (pc2 := 81) rfl (fun q => ?_) (fun q => ?_)
            · have hf := ite_t hf q
              refine g_sub [0, 1, 2] rfl ?_
              exact Hj2 _ hf
            · have hf := ite_f hf q
              refine g_iconst (v := (1 : Int32)) hc (by decide) dX7_doneWith_81 (pc2 := 82) rfl ?_
              refine g_goto hc 86 (by decide) dX7_doneWith_82 ?_
              refine g_sub [0, 1, 2] rfl ?_
              exact Hj1 _ _ hf
        have LP_n2 : ∀ (n2 : Nat) (m3 : Int32) (m4 : Int32) (s9 : Mem), f7_doneWith_l24 a1 k2 n2 m3 m4 s9 = some (rR, sR) → G κ φ (QI κ φ (NV κ τ) sR rR rm_7_doneWith.cells rm_7_doneWith.slots) (NV κ τ) 0 0 s9 [(0, .ref (ad κ.1 19 0)), (1, .int a1), (2, .int m1), (3, .int m3), (4, .int m4)] 24 [] := by
          intro n2
          induction n2 with
          | zero => intro m3 m4 s9 hf; rw [f7_doneWith_l24] at hf; cases hf
          | succ n2 ih_n2 =>
            intro m3 m4 s9 hf
            rw [f7_doneWith_l24] at hf
            refine g_iload hc 4 rfl dX7_doneWith_24 (pc2 := 26) rfl ?_
            refine g_aload_n (i := 0) hc 0 rfl rfl dX7_doneWith_26 (pc2 := 27) rfl ?_
            refine g_getr (q := ad κ.1 20 0) hc fo_X7_7 (u19 (by decide)) rfl dX7_doneWith_27 (pc2 := 30) rfl ?_
            refine g_iconst (v := (0 : Int32)) hc (by decide) dX7_doneWith_30 (pc2 := 31) rfl ?_
            refine g_aldi hc 20 0 rfl (u20 (by decide)) (by decide) dX7_doneWith_31 (pc2 := 32) rfl ?_
            refine g_icmp_ge hc 70 (by decide) dX7_doneWith_32 (pc2 := 35) rfl (fun q => ?_) (fun q => ?_)
            · have hf := ite_t hf q
              refine g_sub [0, 1, 2, 3] rfl ?_
              exact Hk2 _ _ hf
            · have hf := ite_f hf q
              refine g_iload_n (i := 3) hc 3 rfl rfl dX7_doneWith_35 (pc2 := 36) rfl ?_
              obtain ⟨j3, hj3, hf⟩ := nm_ex hf
              have Hj3 : ∀ (y4 : Int32) (s10 : Mem), j3 y4 s10 = some (rR, sR) → G κ φ (QI κ φ (NV κ τ) sR rR rm_7_doneWith.cells rm_7_doneWith.slots) (NV κ τ) 0 0 s10 [(0, .ref (ad κ.1 19 0)), (1, .int a1), (2, .int m1), (4, .int m4)] 63 [.int y4] := by
                intro y4 s10 hf
                rw [hj3] at hf
                refine g_istore_n (i := 3) (L1 := [(3, .int y4), (0, .ref (ad κ.1 19 0)), (1, .int a1), (2, .int m1), (4, .int m4)]) hc rfl (by decide) rfl dX7_doneWith_63 (pc2 := 64) rfl ?_
                obtain ⟨x2, hx2, hf⟩ := nm_ex hf
                refine g_iinc (v := x2) (L1 := [(4, .int x2), (3, .int y4), (0, .ref (ad κ.1 19 0)), (1, .int a1), (2, .int m1)]) hc 4 rfl (by rw [hx2]; rfl) (by decide) rfl dX7_doneWith_64 (pc2 := 67) rfl ?_
                refine g_goto hc 24 (by decide) dX7_doneWith_67 ?_
                refine g_sub [2, 3, 4, 1, 0] rfl ?_
                exact ih_n2 _ _ _ hf
              obtain ⟨j4, hj4, hf⟩ := nm_ex hf
              have Hj4 : ∀ (s11 : Mem), j4 s11 = some (rR, sR) → G κ φ (QI κ φ (NV κ τ) sR rR rm_7_doneWith.cells rm_7_doneWith.slots) (NV κ τ) 0 0 s11 [(0, .ref (ad κ.1 19 0)), (1, .int a1), (2, .int m1), (4, .int m4)] 58 [] := by
                intro s11 hf
                rw [hj4] at hf
                refine g_iconst (v := (1 : Int32)) hc (by decide) dX7_doneWith_58 (pc2 := 59) rfl ?_
                refine g_goto hc 63 (by decide) dX7_doneWith_59 ?_
                exact Hj3 _ _ hf
              refine g_if_ne hc 58 (by decide) dX7_doneWith_36 (pc2 := 39) rfl (fun q => ?_) (fun q => ?_)
              · have hf := ite_f hf q
                refine g_sub [0, 1, 2, 4] rfl ?_
                exact Hj4 _ hf
              · have hf := ite_t hf q
                refine g_iload_n (i := 1) hc 1 rfl rfl dX7_doneWith_39 (pc2 := 40) rfl ?_
                refine g_iload hc 4 rfl dX7_doneWith_40 (pc2 := 42) rfl ?_
                refine g_ishr hc dX7_doneWith_42 (pc2 := 43) rfl ?_
                refine g_iconst (v := (1 : Int32)) hc (by decide) dX7_doneWith_43 (pc2 := 44) rfl ?_
                refine g_iand hc dX7_doneWith_44 (pc2 := 45) rfl ?_
                refine g_iconst (v := (1 : Int32)) hc (by decide) dX7_doneWith_45 (pc2 := 46) rfl ?_
                obtain ⟨j5, hj5, hf⟩ := nm_ex hf
                have Hj5 : ∀ (s12 : Mem), j5 s12 = some (rR, sR) → G κ φ (QI κ φ (NV κ τ) sR rR rm_7_doneWith.cells rm_7_doneWith.slots) (NV κ τ) 0 0 s12 [(0, .ref (ad κ.1 19 0)), (1, .int a1), (2, .int m1), (4, .int m4)] 62 [] := by
                  intro s12 hf
                  rw [hj5] at hf
                  refine g_iconst (v := (0 : Int32)) hc (by decide) dX7_doneWith_62 (pc2 := 63) rfl ?_
                  exact Hj3 _ _ hf
                refine g_icmp_ne hc 62 (by decide) dX7_doneWith_46 (pc2 := 49) rfl (fun q => ?_) (fun q => ?_)
                · have hf := ite_f hf q
                  refine g_sub [0, 1, 2, 4] rfl ?_
                  exact Hj5 _ hf
                · have hf := ite_t hf q
                  refine g_aload_n (i := 0) hc 0 rfl rfl dX7_doneWith_49 (pc2 := 50) rfl ?_
                  refine g_iload hc 4 rfl dX7_doneWith_50 (pc2 := 52) rfl ?_
                  obtain ⟨r2, s13, hp, hf⟩ := bd_some hf
                  refine g_vI hc (k7_isDone hp) co_X7_183 (u19 (by decide)) rfl rfl (by decide) (by decide) (Nat.le_of_ble_eq_true rfl) dX7_doneWith_52 (pc2 := 55) rfl ?_
                  refine g_if_ne hc 62 (by decide) dX7_doneWith_55 (pc2 := 58) rfl (fun q => ?_) (fun q => ?_)
                  · have hf := ite_f hf q
                    refine g_sub [0, 1, 2, 4] rfl ?_
                    exact Hj5 _ hf
                  · have hf := ite_t hf q
                    refine g_sub [0, 1, 2, 4] rfl ?_
                    exact Hj4 _ hf
        refine g_sub [2, 3, 4, 1, 0] rfl ?_
        exact LP_n2 _ _ _ _ hf
  refine g_sub [2, 3, 1, 0] rfl ?_
  exact LP_n1 _ _ _ _ hf
def f7_doneIn (a1 : Int32) (s0 : Mem) : Option (Int32 × Mem) :=
  nm (ms s0 62 0 0 (0 : Int32)) fun s1 => bd (f7_isMaster a1 s1) fun r1 s2 => (if r1 = (0 : Int32) then bd (f7_fails (1 : Int32) s2) fun r3 s4 => some (r3, s4) else bd (f7_doneWith ((1 : Int32) <<< (a1 &&& 31)) s2) fun r2 s3 => (if r2 ≤ (400 : Int32) then some (r2, s3) else some ((-9 : Int32), s3)))
def rm_7_doneIn : Room := { frames := 6, cells := 0, slots := 0, locals := 140 }
set_option maxHeartbeats 4000000 in
set_option maxRecDepth 100000 in
theorem k7_doneIn {κ : Kx} {τ : Nat → Int64} {a1 : Int32} {s0 sR : Mem} {rR : Int32}  (hf : f7_doneIn a1 s0 = some (rR, sR)) : CtI κ yX7_doneIn cX7_doneIn 3 (some .int) rm_7_doneIn (NV κ τ) (NV κ τ) [.ref (ad κ.1 19 0), .int a1] s0 sR rR := by
  refine ct_I (by decide +kernel) (Nat.le_of_ble_eq_true rfl) (fun φ hc hr => ?_)
  have hc : Cx κ φ RX7 cX7_doneIn 3 rm_7_doneIn := hc
  show G κ φ (QI κ φ (NV κ τ) sR rR rm_7_doneIn.cells rm_7_doneIn.slots) (NV κ τ) 0 0 s0 [(0, .ref (ad κ.1 19 0)), (1, .int a1)] 0 []
  unfold f7_doneIn at hf
  refine g_aload_n (i := 0) hc 0 rfl rfl dX7_doneIn_0 (pc2 := 1) rfl ?_
  refine g_iconst (v := (0 : Int32)) hc (by decide) dX7_doneIn_1 (pc2 := 2) rfl ?_
  obtain ⟨s1, hs1, hf⟩ := nm_ex hf
  refine g_puti hc (by decide) fo_X7_39 clO_19 poK_19_9 rfl (u19 (by decide)) rfl rfl dX7_doneIn_2 (pc2 := 5) rfl ?_
  refine g_nms hs1 ?_
  refine g_aload_n (i := 0) hc 0 rfl rfl dX7_doneIn_5 (pc2 := 6) rfl ?_
  refine g_iload_n (i := 1) hc 1 rfl rfl dX7_doneIn_6 (pc2 := 7) rfl ?_
  obtain ⟨r1, s2, hp, hf⟩ := bd_some hf
  refine g_vI hc (k7_isMaster hp) co_X7_146 (u19 (by decide)) rfl rfl (by decide) (by decide) (Nat.le_of_ble_eq_true rfl) dX7_doneIn_7 (pc2 := 10) rfl ?_
  refine g_if_ne hc 19 (by decide) dX7_doneIn_10 (pc2 := 13) rfl (fun q => ?_) (fun q => ?_)
  · have hf := ite_f hf q
    refine g_aload_n (i := 0) hc 0 rfl rfl dX7_doneIn_19 (pc2 := 20) rfl ?_
    refine g_iconst (v := (1 : Int32)) hc (by decide) dX7_doneIn_20 (pc2 := 21) rfl ?_
    refine g_iload_n (i := 1) hc 1 rfl rfl dX7_doneIn_21 (pc2 := 22) rfl ?_
    refine g_ishl hc dX7_doneIn_22 (pc2 := 23) rfl ?_
    obtain ⟨r2, s3, hp, hf⟩ := bd_some hf
    refine g_vI hc (k7_doneWith hp) co_X7_186 (u19 (by decide)) rfl rfl (by decide) (by decide) (Nat.le_of_ble_eq_true rfl) dX7_doneIn_23 (pc2 := 26) rfl ?_
    refine g_istore_n (i := 2) (L1 := [(2, .int r2), (0, .ref (ad κ.1 19 0)), (1, .int a1)]) hc rfl (by decide) rfl dX7_doneIn_26 (pc2 := 27) rfl ?_
    refine g_iload_n (i := 2) hc 0 rfl rfl dX7_doneIn_27 (pc2 := 28) rfl ?_
    refine g_sipush (v := (400 : Int32)) hc (by decide) dX7_doneIn_28 (pc2 := 31) rfl ?_
    refine g_icmp_le hc 39 (by decide) dX7_doneIn_31 (pc2 := 34) rfl (fun q => ?_) (fun q => ?_)
    · have hf := ite_t hf q
      refine g_iload_n (i := 2) hc 0 rfl rfl dX7_doneIn_39 (pc2 := 40) rfl ?_
      exact g_iret hc hf hr rfl (by decide) (by decide) dX7_doneIn_40
    · have hf := ite_f hf q
      refine g_bipush (v := (-9 : Int32)) hc (by decide) dX7_doneIn_34 (pc2 := 36) rfl ?_
      refine g_goto hc 40 (by decide) dX7_doneIn_36 ?_
      exact g_iret hc hf hr rfl (by decide) (by decide) dX7_doneIn_40
  · have hf := ite_t hf q
    refine g_aload_n (i := 0) hc 0 rfl rfl dX7_doneIn_13 (pc2 := 14) rfl ?_
    refine g_iconst (v := (1 : Int32)) hc (by decide) dX7_doneIn_14 (pc2 := 15) rfl ?_
    obtain ⟨r3, s4, hp, hf⟩ := bd_some hf
    refine g_vI hc (k7_fails hp) co_X7_101 (u19 (by decide)) rfl rfl (by decide) (by decide) (Nat.le_of_ble_eq_true rfl) dX7_doneIn_15 (pc2 := 18) rfl ?_
    exact g_iret hc hf hr rfl (by decide) (by decide) dX7_doneIn_18
def f7_bestCredit_l21  (k1 : Int32 → Mem → Option (Int32 × Mem)) : Nat → Int32 → Int32 → Int32 → Mem → Option (Int32 × Mem)
  | 0, _, _, _, _ => none
  | n1 + 1, m1, m2, m3, s4 => (if (10 : Int32) ≤ m3 then k1 m1 s4 else nm (ms s4 20 0 (4 : Int32).toNatClampNeg m3) fun s5 => bd (f7_doneWith (63 : Int32) s5) fun r1 s6 => nm (fun (y2 : Int32) (s7 : Mem) => nm (fun (y3 : Int32) (s8 : Mem) => nm (m3 + (1 : Int32)) fun x2 => f7_bestCredit_l21 k1 n1 y2 y3 x2 s8) fun j2 => (if m2 ≤ r1 then j2 m2 s7 else j2 r1 s7)) fun j1 => (if m2 ≤ r1 then j1 m1 s6 else j1 m3 s6))
def f7_bestCredit  (s0 : Mem) : Option (Int32 × Mem) :=
  nm (ms s0 62 0 0 (0 : Int32)) fun s1 => nm (s1 20 0 ((4 : Int32)).toNatClampNeg) fun x1 => nm (fun (y1 : Int32) (s2 : Mem) => nm (ms s2 20 0 (4 : Int32).toNatClampNeg x1) fun s3 => some (y1, s3)) fun k1 => f7_bestCredit_l21 k1 FU (0 : Int32) (402 : Int32) (0 : Int32) s1
def rm_7_bestCredit : Room := { frames := 6, cells := 0, slots := 0, locals := 140 }
set_option maxHeartbeats 4000000 in
set_option maxRecDepth 100000 in
theorem k7_bestCredit {κ : Kx} {τ : Nat → Int64}  {s0 sR : Mem} {rR : Int32}  (hf : f7_bestCredit s0 = some (rR, sR)) : CtI κ yX7_bestCredit cX7_bestCredit 6 (some .int) rm_7_bestCredit (NV κ τ) (NV κ τ) [.ref (ad κ.1 19 0)] s0 sR rR := by
  refine ct_I (by decide +kernel) (Nat.le_of_ble_eq_true rfl) (fun φ hc hr => ?_)
  have hc : Cx κ φ RX7 cX7_bestCredit 6 rm_7_bestCredit := hc
  show G κ φ (QI κ φ (NV κ τ) sR rR rm_7_bestCredit.cells rm_7_bestCredit.slots) (NV κ τ) 0 0 s0 [(0, .ref (ad κ.1 19 0))] 0 []
  unfold f7_bestCredit at hf
  refine g_aload_n (i := 0) hc 0 rfl rfl dX7_bestCredit_0 (pc2 := 1) rfl ?_
  refine g_iconst (v := (0 : Int32)) hc (by decide) dX7_bestCredit_1 (pc2 := 2) rfl ?_
  obtain ⟨s1, hs1, hf⟩ := nm_ex hf
  refine g_puti hc (by decide) fo_X7_39 clO_19 poK_19_9 rfl (u19 (by decide)) rfl rfl dX7_bestCredit_2 (pc2 := 5) rfl ?_
  refine g_nms hs1 ?_
  refine g_aload_n (i := 0) hc 0 rfl rfl dX7_bestCredit_5 (pc2 := 6) rfl ?_
  refine g_getr (q := ad κ.1 20 0) hc fo_X7_7 (u19 (by decide)) rfl dX7_bestCredit_6 (pc2 := 9) rfl ?_
  refine g_iconst (v := (4 : Int32)) hc (by decide) dX7_bestCredit_9 (pc2 := 10) rfl ?_
  refine g_aldi hc 20 0 rfl (u20 (by decide)) (by decide) dX7_bestCredit_10 (pc2 := 11) rfl ?_
  obtain ⟨x1, hx1, hf⟩ := nm_ex hf
  refine g_nmi hx1 ?_
  refine g_istore_n (i := 1) (L1 := [(1, .int x1), (0, .ref (ad κ.1 19 0))]) hc rfl (by decide) rfl dX7_bestCredit_11 (pc2 := 12) rfl ?_
  refine g_iconst (v := (0 : Int32)) hc (by decide) dX7_bestCredit_12 (pc2 := 13) rfl ?_
  refine g_istore_n (i := 2) (L1 := [(2, .int (0 : Int32)), (1, .int x1), (0, .ref (ad κ.1 19 0))]) hc rfl (by decide) rfl dX7_bestCredit_13 (pc2 := 14) rfl ?_
  refine g_sipush (v := (402 : Int32)) hc (by decide) dX7_bestCredit_14 (pc2 := 17) rfl ?_
  refine g_istore_n (i := 3) (L1 := [(3, .int (402 : Int32)), (2, .int (0 : Int32)), (1, .int x1), (0, .ref (ad κ.1 19 0))]) hc rfl (by decide) rfl dX7_bestCredit_17 (pc2 := 18) rfl ?_
  refine g_iconst (v := (0 : Int32)) hc (by decide) dX7_bestCredit_18 (pc2 := 19) rfl ?_
  refine g_istore (L1 := [(4, .int (0 : Int32)), (3, .int (402 : Int32)), (2, .int (0 : Int32)), (1, .int x1), (0, .ref (ad κ.1 19 0))]) hc (by decide) rfl dX7_bestCredit_19 (pc2 := 21) rfl ?_
  obtain ⟨k1, hk1, hf⟩ := nm_ex hf
  have Hk1 : ∀ (y1 : Int32) (s2 : Mem), k1 y1 s2 = some (rR, sR) → G κ φ (QI κ φ (NV κ τ) sR rR rm_7_bestCredit.cells rm_7_bestCredit.slots) (NV κ τ) 0 0 s2 [(0, .ref (ad κ.1 19 0)), (1, .int x1), (2, .int y1)] 76 [] := by
    intro y1 s2 hf
    rw [hk1] at hf
    refine g_aload_n (i := 0) hc 0 rfl rfl dX7_bestCredit_76 (pc2 := 77) rfl ?_
    refine g_getr (q := ad κ.1 20 0) hc fo_X7_7 (u19 (by decide)) rfl dX7_bestCredit_77 (pc2 := 80) rfl ?_
    refine g_iconst (v := (4 : Int32)) hc (by decide) dX7_bestCredit_80 (pc2 := 81) rfl ?_
    refine g_iload_n (i := 1) hc 1 rfl rfl dX7_bestCredit_81 (pc2 := 82) rfl ?_
    obtain ⟨s3, hs3, hf⟩ := nm_ex hf
    refine g_asti hc 20 0 rfl (u20 (by decide)) (by decide) dX7_bestCredit_82 (pc2 := 83) rfl ?_
    refine g_nms hs3 ?_
    refine g_iload_n (i := 2) hc 2 rfl rfl dX7_bestCredit_83 (pc2 := 84) rfl ?_
    exact g_iret hc hf hr rfl (by decide) (by decide) dX7_bestCredit_84
  have LP_n1 : ∀ (n1 : Nat) (m1 : Int32) (m2 : Int32) (m3 : Int32) (s4 : Mem), f7_bestCredit_l21 k1 n1 m1 m2 m3 s4 = some (rR, sR) → G κ φ (QI κ φ (NV κ τ) sR rR rm_7_bestCredit.cells rm_7_bestCredit.slots) (NV κ τ) 0 0 s4 [(0, .ref (ad κ.1 19 0)), (1, .int x1), (2, .int m1), (3, .int m2), (4, .int m3)] 21 [] := by
    intro n1
    induction n1 with
    | zero => intro m1 m2 m3 s4 hf; rw [f7_bestCredit_l21] at hf; cases hf
    | succ n1 ih_n1 =>
      intro m1 m2 m3 s4 hf
      rw [f7_bestCredit_l21] at hf
      refine g_iload hc 4 rfl dX7_bestCredit_21 (pc2 := 23) rfl ?_
      refine g_bipush (v := (10 : Int32)) hc (by decide) dX7_bestCredit_23 (pc2 := 25) rfl ?_
      refine g_icmp_ge hc 76 (by decide) dX7_bestCredit_25 (pc2 := 28) rfl (fun q => ?_) (fun q => ?_)
      · have hf := ite_t hf q
        refine g_sub [0, 1, 2] rfl ?_
        exact Hk1 _ _ hf
      · have hf := ite_f hf q
        refine g_aload_n (i := 0) hc 0 rfl rfl dX7_bestCredit_28 (pc2 := 29) rfl ?_
        refine g_getr (q := ad κ.1 20 0) hc fo_X7_7 (u19 (by decide)) rfl dX7_bestCredit_29 (pc2 := 32) rfl ?_
        refine g_iconst (v := (4 : Int32)) hc (by decide) dX7_bestCredit_32 (pc2 := 33) rfl ?_
        refine g_iload hc 4 rfl dX7_bestCredit_33 (pc2 := 35) rfl ?_
        obtain ⟨s5, hs5, hf⟩ := nm_ex hf
        refine g_asti hc 20 0 rfl (u20 (by decide)) (by decide) dX7_bestCredit_35 (pc2 := 36) rfl ?_
        refine g_nms hs5 ?_
        refine g_aload_n (i := 0) hc 0 rfl rfl dX7_bestCredit_36 (pc2 := 37) rfl ?_
        refine g_bipush (v := (63 : Int32)) hc (by decide) dX7_bestCredit_37 (pc2 := 39) rfl ?_
        obtain ⟨r1, s6, hp, hf⟩ := bd_some hf
        refine g_vI hc (k7_doneWith hp) co_X7_186 (u19 (by decide)) rfl rfl (by decide) (by decide) (Nat.le_of_ble_eq_true rfl) dX7_bestCredit_39 (pc2 := 42) rfl ?_
        refine g_istore (L1 := [(5, .int r1), (0, .ref (ad κ.1 19 0)), (1, .int x1), (2, .int m1), (3, .int m2), (4, .int m3)]) hc (by decide) rfl dX7_bestCredit_42 (pc2 := 44) rfl ?_
        refine g_iload hc 0 rfl dX7_bestCredit_44 (pc2 := 46) rfl ?_
        refine g_iload_n (i := 3) hc 4 rfl rfl dX7_bestCredit_46 (pc2 := 47) rfl ?_
        obtain ⟨j1, hj1, hf⟩ := nm_ex hf
        have Hj1 : ∀ (y2 : Int32) (s7 : Mem), j1 y2 s7 = some (rR, sR) → G κ φ (QI κ φ (NV κ τ) sR rR rm_7_bestCredit.cells rm_7_bestCredit.slots) (NV κ τ) 0 0 s7 [(0, .ref (ad κ.1 19 0)), (1, .int x1), (3, .int m2), (4, .int m3), (5, .int r1)] 56 [.int y2] := by
          intro y2 s7 hf
          rw [hj1] at hf
          refine g_istore_n (i := 2) (L1 := [(2, .int y2), (0, .ref (ad κ.1 19 0)), (1, .int x1), (3, .int m2), (4, .int m3), (5, .int r1)]) hc rfl (by decide) rfl dX7_bestCredit_56 (pc2 := 57) rfl ?_
          refine g_iload hc 5 rfl dX7_bestCredit_57 (pc2 := 59) rfl ?_
          refine g_iload_n (i := 3) hc 3 rfl rfl dX7_bestCredit_59 (pc2 := 60) rfl ?_
          obtain ⟨j2, hj2, hf⟩ := nm_ex hf
          have Hj2 : ∀ (y3 : Int32) (s8 : Mem), j2 y3 s8 = some (rR, sR) → G κ φ (QI κ φ (NV κ τ) sR rR rm_7_bestCredit.cells rm_7_bestCredit.slots) (NV κ τ) 0 0 s8 [(0, .ref (ad κ.1 19 0)), (1, .int x1), (2, .int y2), (4, .int m3)] 69 [.int y3] := by
            intro y3 s8 hf
            rw [hj2] at hf
            refine g_istore_n (i := 3) (L1 := [(3, .int y3), (0, .ref (ad κ.1 19 0)), (1, .int x1), (2, .int y2), (4, .int m3)]) hc rfl (by decide) rfl dX7_bestCredit_69 (pc2 := 70) rfl ?_
            obtain ⟨x2, hx2, hf⟩ := nm_ex hf
            refine g_iinc (v := x2) (L1 := [(4, .int x2), (3, .int y3), (0, .ref (ad κ.1 19 0)), (1, .int x1), (2, .int y2)]) hc 4 rfl (by rw [hx2]; rfl) (by decide) rfl dX7_bestCredit_70 (pc2 := 73) rfl ?_
            refine g_goto hc 21 (by decide) dX7_bestCredit_73 ?_
            refine g_sub [2, 3, 4, 1, 0] rfl ?_
            exact ih_n1 _ _ _ _ hf
          refine g_icmp_ge hc 68 (by decide) dX7_bestCredit_60 (pc2 := 63) rfl (fun q => ?_) (fun q => ?_)
          · have hf := ite_t hf q
            refine g_iload_n (i := 3) hc 3 rfl rfl dX7_bestCredit_68 (pc2 := 69) rfl ?_
            refine g_sub [1, 2, 0, 4] rfl ?_
            exact Hj2 _ _ hf
          · have hf := ite_f hf q
            refine g_iload hc 5 rfl dX7_bestCredit_63 (pc2 := 65) rfl ?_
            refine g_goto hc 69 (by decide) dX7_bestCredit_65 ?_
            refine g_sub [1, 2, 0, 4] rfl ?_
            exact Hj2 _ _ hf
        refine g_icmp_ge hc 55 (by decide) dX7_bestCredit_47 (pc2 := 50) rfl (fun q => ?_) (fun q => ?_)
        · have hf := ite_t hf q
          refine g_iload_n (i := 2) hc 3 rfl rfl dX7_bestCredit_55 (pc2 := 56) rfl ?_
          refine g_sub [1, 2, 4, 5, 0] rfl ?_
          exact Hj1 _ _ hf
        · have hf := ite_f hf q
          refine g_iload hc 5 rfl dX7_bestCredit_50 (pc2 := 52) rfl ?_
          refine g_goto hc 56 (by decide) dX7_bestCredit_52 ?_
          refine g_sub [1, 2, 4, 5, 0] rfl ?_
          exact Hj1 _ _ hf
  refine g_sub [4, 3, 2, 1, 0] rfl ?_
  exact LP_n1 _ _ _ _ _ hf
def f7_bestSlot_l39 (a1 : Int32) (k1 : Int32 → Mem → Option (Int32 × Mem)) : Nat → Int32 → Int32 → Int32 → Mem → Option (Int32 × Mem)
  | 0, _, _, _, _ => none
  | n1 + 1, m1, m2, m3, s5 => (if (s5 20 0 ((1 : Int32)).toNatClampNeg) ≤ m3 then k1 m1 s5 else bd (f7_puts ((11 : Int32) + m3) a1 s5) fun r3 s6 => bd (f7_doneWith ((1 : Int32) <<< (a1 &&& 31)) s6) fun r4 s7 => gd (ib ((11 : Int32) + m3) 291) (nm (ms s7 20 0 ((11 : Int32) + m3).toNatClampNeg r3) fun s8 => nm (fun (y2 : Int32) (s9 : Mem) => nm (fun (y3 : Int32) (s10 : Mem) => nm (m3 + (1 : Int32)) fun x1 => f7_bestSlot_l39 a1 k1 n1 y2 y3 x1 s10) fun j2 => (if m2 ≤ r4 then j2 m2 s9 else j2 r4 s9)) fun j1 => (if m2 ≤ r4 then j1 m1 s8 else j1 m3 s8)))
def f7_bestSlot (a1 : Int32) (s0 : Mem) : Option (Int32 × Mem) :=
  nm (ms s0 62 0 0 (0 : Int32)) fun s1 => bd (f7_isMaster a1 s1) fun r1 s2 => (if r1 = (0 : Int32) then bd (f7_fails (1 : Int32) s2) fun r5 s11 => some (r5, s11) else bd (f7_isBankrupt a1 s2) fun r2 s3 => (if r2 = (0 : Int32) then nm (fun (y1 : Int32) (s4 : Mem) => some (y1, s4)) fun k1 => f7_bestSlot_l39 a1 k1 FU (0 : Int32) (402 : Int32) (0 : Int32) s3 else some ((-9 : Int32), s3)))
def rm_7_bestSlot : Room := { frames := 6, cells := 0, slots := 0, locals := 140 }
set_option maxHeartbeats 4000000 in
set_option maxRecDepth 100000 in
theorem k7_bestSlot {κ : Kx} {τ : Nat → Int64} {a1 : Int32} {s0 sR : Mem} {rR : Int32}  (hf : f7_bestSlot a1 s0 = some (rR, sR)) : CtI κ yX7_bestSlot cX7_bestSlot 7 (some .int) rm_7_bestSlot (NV κ τ) (NV κ τ) [.ref (ad κ.1 19 0), .int a1] s0 sR rR := by
  refine ct_I (by decide +kernel) (Nat.le_of_ble_eq_true rfl) (fun φ hc hr => ?_)
  have hc : Cx κ φ RX7 cX7_bestSlot 7 rm_7_bestSlot := hc
  show G κ φ (QI κ φ (NV κ τ) sR rR rm_7_bestSlot.cells rm_7_bestSlot.slots) (NV κ τ) 0 0 s0 [(0, .ref (ad κ.1 19 0)), (1, .int a1)] 0 []
  unfold f7_bestSlot at hf
  refine g_aload_n (i := 0) hc 0 rfl rfl dX7_bestSlot_0 (pc2 := 1) rfl ?_
  refine g_iconst (v := (0 : Int32)) hc (by decide) dX7_bestSlot_1 (pc2 := 2) rfl ?_
  obtain ⟨s1, hs1, hf⟩ := nm_ex hf
  refine g_puti hc (by decide) fo_X7_39 clO_19 poK_19_9 rfl (u19 (by decide)) rfl rfl dX7_bestSlot_2 (pc2 := 5) rfl ?_
  refine g_nms hs1 ?_
  refine g_aload_n (i := 0) hc 0 rfl rfl dX7_bestSlot_5 (pc2 := 6) rfl ?_
  refine g_iload_n (i := 1) hc 1 rfl rfl dX7_bestSlot_6 (pc2 := 7) rfl ?_
  obtain ⟨r1, s2, hp, hf⟩ := bd_some hf
  refine g_vI hc (k7_isMaster hp) co_X7_146 (u19 (by decide)) rfl rfl (by decide) (by decide) (Nat.le_of_ble_eq_true rfl) dX7_bestSlot_7 (pc2 := 10) rfl ?_
  refine g_if_ne hc 19 (by decide) dX7_bestSlot_10 (pc2 := 13) rfl (fun q => ?_) (fun q => ?_)
  · have hf := ite_f hf q
    refine g_aload_n (i := 0) hc 0 rfl rfl dX7_bestSlot_19 (pc2 := 20) rfl ?_
    refine g_iload_n (i := 1) hc 1 rfl rfl dX7_bestSlot_20 (pc2 := 21) rfl ?_
    obtain ⟨r2, s3, hp, hf⟩ := bd_some hf
    refine g_vI hc (k7_isBankrupt hp) co_X7_66 (u19 (by decide)) rfl rfl (by decide) (by decide) (Nat.le_of_ble_eq_true rfl) dX7_bestSlot_21 (pc2 := 24) rfl ?_
    refine g_if_eq hc 30 (by decide) dX7_bestSlot_24 (pc2 := 27) rfl (fun q => ?_) (fun q => ?_)
    · have hf := ite_t hf q
      refine g_iconst (v := (0 : Int32)) hc (by decide) dX7_bestSlot_30 (pc2 := 31) rfl ?_
      refine g_istore_n (i := 2) (L1 := [(2, .int (0 : Int32)), (0, .ref (ad κ.1 19 0)), (1, .int a1)]) hc rfl (by decide) rfl dX7_bestSlot_31 (pc2 := 32) rfl ?_
      refine g_sipush (v := (402 : Int32)) hc (by decide) dX7_bestSlot_32 (pc2 := 35) rfl ?_
      refine g_istore_n (i := 3) (L1 := [(3, .int (402 : Int32)), (2, .int (0 : Int32)), (0, .ref (ad κ.1 19 0)), (1, .int a1)]) hc rfl (by decide) rfl dX7_bestSlot_35 (pc2 := 36) rfl ?_
      refine g_iconst (v := (0 : Int32)) hc (by decide) dX7_bestSlot_36 (pc2 := 37) rfl ?_
      refine g_istore (L1 := [(4, .int (0 : Int32)), (3, .int (402 : Int32)), (2, .int (0 : Int32)), (0, .ref (ad κ.1 19 0)), (1, .int a1)]) hc (by decide) rfl dX7_bestSlot_37 (pc2 := 39) rfl ?_
      obtain ⟨k1, hk1, hf⟩ := nm_ex hf
      have Hk1 : ∀ (y1 : Int32) (s4 : Mem), k1 y1 s4 = some (rR, sR) → G κ φ (QI κ φ (NV κ τ) sR rR rm_7_bestSlot.cells rm_7_bestSlot.slots) (NV κ τ) 0 0 s4 [(2, .int y1)] 115 [] := by
        intro y1 s4 hf
        rw [hk1] at hf
        refine g_iload_n (i := 2) hc 0 rfl rfl dX7_bestSlot_115 (pc2 := 116) rfl ?_
        exact g_iret hc hf hr rfl (by decide) (by decide) dX7_bestSlot_116
      have LP_n1 : ∀ (n1 : Nat) (m1 : Int32) (m2 : Int32) (m3 : Int32) (s5 : Mem), f7_bestSlot_l39 a1 k1 n1 m1 m2 m3 s5 = some (rR, sR) → G κ φ (QI κ φ (NV κ τ) sR rR rm_7_bestSlot.cells rm_7_bestSlot.slots) (NV κ τ) 0 0 s5 [(0, .ref (ad κ.1 19 0)), (1, .int a1), (2, .int m1), (3, .int m2), (4, .int m3)] 39 [] := by
        intro n1
        induction n1 with
        | zero => intro m1 m2 m3 s5 hf; rw [f7_bestSlot_l39] at hf; cases hf
        | succ n1 ih_n1 =>
          intro m1 m2 m3 s5 hf
          rw [f7_bestSlot_l39] at hf
          refine g_iload hc 4 rfl dX7_bestSlot_39 (pc2 := 41) rfl ?_
          refine g_aload_n (i := 0) hc 0 rfl rfl dX7_bestSlot_41 (pc2 := 42) rfl ?_
          refine g_getr (q := ad κ.1 20 0) hc fo_X7_7 (u19 (by decide)) rfl dX7_bestSlot_42 (pc2 := 45) rfl ?_
          refine g_iconst (v := (1 : Int32)) hc (by decide) dX7_bestSlot_45 (pc2 := 46) rfl ?_
          refine g_aldi hc 20 0 rfl (u20 (by decide)) (by decide) dX7_bestSlot_46 (pc2 := 47) rfl ?_
          refine g_icmp_ge hc 115 (by decide) dX7_bestSlot_47 (pc2 := 50) rfl (fun q => ?_) (fun q => ?_)
          · have hf := ite_t hf q
            refine g_sub [2] rfl ?_
            exact Hk1 _ _ hf
          · have hf := ite_f hf q
            refine g_aload_n (i := 0) hc 0 rfl rfl dX7_bestSlot_50 (pc2 := 51) rfl ?_
            refine g_bipush (v := (11 : Int32)) hc (by decide) dX7_bestSlot_51 (pc2 := 53) rfl ?_
            refine g_iload hc 4 rfl dX7_bestSlot_53 (pc2 := 55) rfl ?_
            refine g_iadd hc dX7_bestSlot_55 (pc2 := 56) rfl ?_
            refine g_iload_n (i := 1) hc 1 rfl rfl dX7_bestSlot_56 (pc2 := 57) rfl ?_
            obtain ⟨r3, s6, hp, hf⟩ := bd_some hf
            refine g_vI hc (k7_puts hp) co_X7_161 (u19 (by decide)) rfl rfl (by decide) (by decide) (Nat.le_of_ble_eq_true rfl) dX7_bestSlot_57 (pc2 := 60) rfl ?_
            refine g_istore (L1 := [(5, .int r3), (0, .ref (ad κ.1 19 0)), (1, .int a1), (2, .int m1), (3, .int m2), (4, .int m3)]) hc (by decide) rfl dX7_bestSlot_60 (pc2 := 62) rfl ?_
            refine g_aload_n (i := 0) hc 1 rfl rfl dX7_bestSlot_62 (pc2 := 63) rfl ?_
            refine g_iconst (v := (1 : Int32)) hc (by decide) dX7_bestSlot_63 (pc2 := 64) rfl ?_
            refine g_iload_n (i := 1) hc 2 rfl rfl dX7_bestSlot_64 (pc2 := 65) rfl ?_
            refine g_ishl hc dX7_bestSlot_65 (pc2 := 66) rfl ?_
            obtain ⟨r4, s7, hp, hf⟩ := bd_some hf
            refine g_vI hc (k7_doneWith hp) co_X7_186 (u19 (by decide)) rfl rfl (by decide) (by decide) (Nat.le_of_ble_eq_true rfl) dX7_bestSlot_66 (pc2 := 69) rfl ?_
            refine g_istore (L1 := [(6, .int r4), (5, .int r3), (0, .ref (ad κ.1 19 0)), (1, .int a1), (2, .int m1), (3, .int m2), (4, .int m3)]) hc (by decide) rfl dX7_bestSlot_69 (pc2 := 71) rfl ?_
            refine g_aload_n (i := 0) hc 2 rfl rfl dX7_bestSlot_71 (pc2 := 72) rfl ?_
            refine g_getr (q := ad κ.1 20 0) hc fo_X7_7 (u19 (by decide)) rfl dX7_bestSlot_72 (pc2 := 75) rfl ?_
            refine g_bipush (v := (11 : Int32)) hc (by decide) dX7_bestSlot_75 (pc2 := 77) rfl ?_
            refine g_iload hc 6 rfl dX7_bestSlot_77 (pc2 := 79) rfl ?_
            refine g_iadd hc dX7_bestSlot_79 (pc2 := 80) rfl ?_
            refine g_iload hc 1 rfl dX7_bestSlot_80 (pc2 := 82) rfl ?_
            obtain ⟨hg1, hf⟩ := gd_some hf
            obtain ⟨s8, hs8, hf⟩ := nm_ex hf
            refine g_asti hc 20 0 rfl (u20 (by decide)) hg1 dX7_bestSlot_82 (pc2 := 83) rfl ?_
            refine g_nms hs8 ?_
            refine g_iload hc 0 rfl dX7_bestSlot_83 (pc2 := 85) rfl ?_
            refine g_iload_n (i := 3) hc 5 rfl rfl dX7_bestSlot_85 (pc2 := 86) rfl ?_
            obtain ⟨j1, hj1, hf⟩ := nm_ex hf
            have Hj1 : ∀ (y2 : Int32) (s9 : Mem), j1 y2 s9 = some (rR, sR) → G κ φ (QI κ φ (NV κ τ) sR rR rm_7_bestSlot.cells rm_7_bestSlot.slots) (NV κ τ) 0 0 s9 [(0, .ref (ad κ.1 19 0)), (1, .int a1), (3, .int m2), (4, .int m3), (6, .int r4)] 95 [.int y2] := by
              intro y2 s9 hf
              rw [hj1] at hf
              refine g_istore_n (i := 2) (L1 := [(2, .int y2), (0, .ref (ad κ.1 19 0)), (1, .int a1), (3, .int m2), (4, .int m3), (6, .int r4)]) hc rfl (by decide) rfl dX7_bestSlot_95 (pc2 := 96) rfl ?_
              refine g_iload hc 5 rfl dX7_bestSlot_96 (pc2 := 98) rfl ?_
              refine g_iload_n (i := 3) hc 3 rfl rfl dX7_bestSlot_98 (pc2 := 99) rfl ?_
              obtain ⟨j2, hj2, hf⟩ := nm_ex hf
              have Hj2 : ∀ (y3 : Int32) (s10 : Mem), j2 y3 s10 = some (rR, sR) → G κ φ (QI κ φ (NV κ τ) sR rR rm_7_bestSlot.cells rm_7_bestSlot.slots) (NV κ τ) 0 0 s10 [(0, .ref (ad κ.1 19 0)), (1, .int a1), (2, .int y2), (4, .int m3)] 108 [.int y3] := by
                intro y3 s10 hf
                rw [hj2] at hf
                refine g_istore_n (i := 3) (L1 := [(3, .int y3), (0, .ref (ad κ.1 19 0)), (1, .int a1), (2, .int y2), (4, .int m3)]) hc rfl (by decide) rfl dX7_bestSlot_108 (pc2 := 109) rfl ?_
                obtain ⟨x1, hx1, hf⟩ := nm_ex hf
                refine g_iinc (v := x1) (L1 := [(4, .int x1), (3, .int y3), (0, .ref (ad κ.1 19 0)), (1, .int a1), (2, .int y2)]) hc 4 rfl (by rw [hx1]; rfl) (by decide) rfl dX7_bestSlot_109 (pc2 := 112) rfl ?_
                refine g_goto hc 39 (by decide) dX7_bestSlot_112 ?_
                refine g_sub [2, 3, 4, 1, 0] rfl ?_
                exact ih_n1 _ _ _ _ hf
              refine g_icmp_ge hc 107 (by decide) dX7_bestSlot_99 (pc2 := 102) rfl (fun q => ?_) (fun q => ?_)
              · have hf := ite_t hf q
                refine g_iload_n (i := 3) hc 3 rfl rfl dX7_bestSlot_107 (pc2 := 108) rfl ?_
                refine g_sub [1, 2, 0, 4] rfl ?_
                exact Hj2 _ _ hf
              · have hf := ite_f hf q
                refine g_iload hc 5 rfl dX7_bestSlot_102 (pc2 := 104) rfl ?_
                refine g_goto hc 108 (by decide) dX7_bestSlot_104 ?_
                refine g_sub [1, 2, 0, 4] rfl ?_
                exact Hj2 _ _ hf
            refine g_icmp_ge hc 94 (by decide) dX7_bestSlot_86 (pc2 := 89) rfl (fun q => ?_) (fun q => ?_)
            · have hf := ite_t hf q
              refine g_iload_n (i := 2) hc 4 rfl rfl dX7_bestSlot_94 (pc2 := 95) rfl ?_
              refine g_sub [2, 3, 5, 6, 0] rfl ?_
              exact Hj1 _ _ hf
            · have hf := ite_f hf q
              refine g_iload hc 6 rfl dX7_bestSlot_89 (pc2 := 91) rfl ?_
              refine g_goto hc 95 (by decide) dX7_bestSlot_91 ?_
              refine g_sub [2, 3, 5, 6, 0] rfl ?_
              exact Hj1 _ _ hf
      refine g_sub [3, 4, 2, 1, 0] rfl ?_
      exact LP_n1 _ _ _ _ _ hf
    · have hf := ite_f hf q
      refine g_bipush (v := (-9 : Int32)) hc (by decide) dX7_bestSlot_27 (pc2 := 29) rfl ?_
      exact g_iret hc hf hr rfl (by decide) (by decide) dX7_bestSlot_29
  · have hf := ite_t hf q
    refine g_aload_n (i := 0) hc 0 rfl rfl dX7_bestSlot_13 (pc2 := 14) rfl ?_
    refine g_iconst (v := (1 : Int32)) hc (by decide) dX7_bestSlot_14 (pc2 := 15) rfl ?_
    obtain ⟨r5, s11, hp, hf⟩ := bd_some hf
    refine g_vI hc (k7_fails hp) co_X7_101 (u19 (by decide)) rfl rfl (by decide) (by decide) (Nat.le_of_ble_eq_true rfl) dX7_bestSlot_15 (pc2 := 18) rfl ?_
    exact g_iret hc hf hr rfl (by decide) (by decide) dX7_bestSlot_18
def f7_acts (a1 : Int32) (a2 : Int32) (a3 : Int32) (a4 : Int32) (a5 : Int32) (s0 : Mem) : Option (Int32 × Mem) :=
  nm (((10 : Int32) * a4) + a5) fun x1 => (if a1 = (1 : Int32) then (if (0 : Int32) < (a2 + a3) then some ((0 : Int32), s0) else (if x1 = (0 : Int32) then some ((0 : Int32), s0) else bd (f7_passes x1 s0) fun r1 s1 => some ((1 : Int32), s1))) else (if a1 = (2 : Int32) then bd (f7_isMaster a2 s0) fun r2 s2 => (if r2 = (0 : Int32) then some ((0 : Int32), s2) else bd (f7_isSlave a3 s2) fun r3 s3 => (if r3 = (0 : Int32) then some ((0 : Int32), s3) else bd (f7_in (a4.toInt64) (1 : Int64) (8 : Int64) s3) fun r4 s4 => (if r4 = (0 : Int32) then some ((0 : Int32), s4) else (if (1 : Int32) < a5 then some ((0 : Int32), s4) else bd (f7_canSend a2 s4) fun r5 s5 => (if r5 = (0 : Int32) then some ((0 : Int32), s5) else bd (f7_sends a2 a3 a4 a5 s5) fun r6 s6 => some ((1 : Int32), s6)))))) else (if a1 = (3 : Int32) then bd (f7_isSlot (((10 : Int32) * a2) + a3) s0) fun r7 s7 => (if r7 = (0 : Int32) then some ((0 : Int32), s7) else bd (f7_isMaster a4 s7) fun r8 s8 => (if r8 = (0 : Int32) then some ((0 : Int32), s8) else bd (f7_isBankrupt a4 s8) fun r9 s9 => (if r9 = (0 : Int32) then (if a5 ≤ (0 : Int32) then gd (ib (((11 : Int32) + ((10 : Int32) * a2)) + a3) 291) (nm (ms s9 20 0 (((11 : Int32) + ((10 : Int32) * a2)) + a3).toNatClampNeg a4) fun s10 => some ((1 : Int32), s10)) else some ((0 : Int32), s9)) else some ((0 : Int32), s9)))) else (if a1 = (4 : Int32) then bd (f7_isMaster a2 s0) fun r10 s11 => (if r10 = (0 : Int32) then some ((0 : Int32), s11) else bd (f7_isMaster a3 s11) fun r11 s12 => (if r11 = (0 : Int32) then some ((0 : Int32), s12) else (if x1 ≤ (0 : Int32) then gd (ib (((27 : Int32) + ((6 : Int32) * a2)) + a3) 291) (nm (ms s12 20 0 (((27 : Int32) + ((6 : Int32) * a2)) + a3).toNatClampNeg (0 : Int32)) fun s13 => some ((1 : Int32), s13)) else some ((0 : Int32), s12)))) else (if (a3 + x1) ≤ (0 : Int32) then nm (ms s0 20 0 (4 : Int32).toNatClampNeg a2) fun s14 => some ((1 : Int32), s14) else some ((0 : Int32), s0))))))
def rm_7_acts : Room := { frames := 6, cells := 0, slots := 0, locals := 139 }
set_option maxHeartbeats 4000000 in
set_option maxRecDepth 100000 in
theorem k7_acts {κ : Kx} {τ : Nat → Int64} {a1 : Int32} {a2 : Int32} {a3 : Int32} {a4 : Int32} {a5 : Int32} {s0 sR : Mem} {rR : Int32}  (hf : f7_acts a1 a2 a3 a4 a5 s0 = some (rR, sR)) : CtI κ yX7_acts cX7_acts 7 (some .boolean) rm_7_acts (NV κ τ) (NV κ τ) [.ref (ad κ.1 19 0), .int a1, .int a2, .int a3, .int a4, .int a5] s0 sR rR := by
  refine ct_I (by decide +kernel) (Nat.le_of_ble_eq_true rfl) (fun φ hc hr => ?_)
  have hc : Cx κ φ RX7 cX7_acts 7 rm_7_acts := hc
  show G κ φ (QI κ φ (NV κ τ) sR rR rm_7_acts.cells rm_7_acts.slots) (NV κ τ) 0 0 s0 [(0, .ref (ad κ.1 19 0)), (1, .int a1), (2, .int a2), (3, .int a3), (4, .int a4), (5, .int a5)] 0 []
  unfold f7_acts at hf
  refine g_bipush (v := (10 : Int32)) hc (by decide) dX7_acts_0 (pc2 := 2) rfl ?_
  refine g_iload hc 4 rfl dX7_acts_2 (pc2 := 4) rfl ?_
  refine g_imul hc dX7_acts_4 (pc2 := 5) rfl ?_
  refine g_iload hc 5 rfl dX7_acts_5 (pc2 := 7) rfl ?_
  refine g_iadd hc dX7_acts_7 (pc2 := 8) rfl ?_
  obtain ⟨x1, hx1, hf⟩ := nm_ex hf
  refine g_nmi hx1 ?_
  refine g_istore (L1 := [(6, .int x1), (0, .ref (ad κ.1 19 0)), (1, .int a1), (2, .int a2), (3, .int a3), (4, .int a4), (5, .int a5)]) hc (by decide) rfl dX7_acts_8 (pc2 := 10) rfl ?_
  refine g_iload_n (i := 1) hc 2 rfl rfl dX7_acts_10 (pc2 := 11) rfl ?_
  by_cases q1 : a1 = (1 : Int32)
  · have hf := ite_t hf q1
    refine g_case hc 40 (1 : Int32) q1 (by decide) (by decide) rfl (by decide) dX7_acts_11 ?_
    refine g_iload_n (i := 2) hc 3 rfl rfl dX7_acts_40 (pc2 := 41) rfl ?_
    refine g_iload_n (i := 3) hc 4 rfl rfl dX7_acts_41 (pc2 := 42) rfl ?_
    refine g_iadd hc dX7_acts_42 (pc2 := 43) rfl ?_
    refine g_if_gt hc 51 (by decide) dX7_acts_43 (pc2 := 46) rfl (fun q => ?_) (fun q => ?_)
    · have hf := ite_t hf q
      refine g_iconst (v := (0 : Int32)) hc (by decide) dX7_acts_51 (pc2 := 52) rfl ?_
      exact g_iret hc hf hr rfl (by decide) (by decide) dX7_acts_52
    · have hf := ite_f hf q
      refine g_iload hc 0 rfl dX7_acts_46 (pc2 := 48) rfl ?_
      refine g_if_ne hc 53 (by decide) dX7_acts_48 (pc2 := 51) rfl (fun q => ?_) (fun q => ?_)
      · have hf := ite_f hf q
        refine g_aload_n (i := 0) hc 1 rfl rfl dX7_acts_53 (pc2 := 54) rfl ?_
        refine g_iload hc 0 rfl dX7_acts_54 (pc2 := 56) rfl ?_
        obtain ⟨r1, s1, hp, hf⟩ := bd_some hf
        refine g_vI hc (k7_passes hp) co_X7_176 (u19 (by decide)) rfl rfl (by decide) (by decide) (Nat.le_of_ble_eq_true rfl) dX7_acts_56 (pc2 := 59) rfl ?_
        refine g_pop hc rfl dX7_acts_59 (pc2 := 60) rfl ?_
        refine g_iconst (v := (1 : Int32)) hc (by decide) dX7_acts_60 (pc2 := 61) rfl ?_
        exact g_iret hc hf hr rfl (by decide) (by decide) dX7_acts_61
      · have hf := ite_t hf q
        refine g_iconst (v := (0 : Int32)) hc (by decide) dX7_acts_51 (pc2 := 52) rfl ?_
        exact g_iret hc hf hr rfl (by decide) (by decide) dX7_acts_52
  · have hf := ite_f hf q1
    by_cases q2 : a1 = (2 : Int32)
    · have hf := ite_t hf q2
      refine g_case hc 62 (2 : Int32) q2 (by decide) (by decide) rfl (by decide) dX7_acts_11 ?_
      refine g_aload_n (i := 0) hc 1 rfl rfl dX7_acts_62 (pc2 := 63) rfl ?_
      refine g_iload_n (i := 2) hc 3 rfl rfl dX7_acts_63 (pc2 := 64) rfl ?_
      obtain ⟨r2, s2, hp, hf⟩ := bd_some hf
      refine g_vI hc (k7_isMaster hp) co_X7_146 (u19 (by decide)) rfl rfl (by decide) (by decide) (Nat.le_of_ble_eq_true rfl) dX7_acts_64 (pc2 := 67) rfl ?_
      refine g_if_eq hc 104 (by decide) dX7_acts_67 (pc2 := 70) rfl (fun q => ?_) (fun q => ?_)
      · have hf := ite_t hf q
        refine g_iconst (v := (0 : Int32)) hc (by decide) dX7_acts_104 (pc2 := 105) rfl ?_
        exact g_iret hc hf hr rfl (by decide) (by decide) dX7_acts_105
      · have hf := ite_f hf q
        refine g_iload_n (i := 3) hc 4 rfl rfl dX7_acts_70 (pc2 := 71) rfl ?_
        obtain ⟨r3, s3, hp, hf⟩ := bd_some hf
        refine g_sI hc (k7_isSlave hp) co_X7_164 rfl rfl (by decide) (by decide) (Nat.le_of_ble_eq_true rfl) dX7_acts_71 (pc2 := 74) rfl ?_
        refine g_if_eq hc 104 (by decide) dX7_acts_74 (pc2 := 77) rfl (fun q => ?_) (fun q => ?_)
        · have hf := ite_t hf q
          refine g_iconst (v := (0 : Int32)) hc (by decide) dX7_acts_104 (pc2 := 105) rfl ?_
          exact g_iret hc hf hr rfl (by decide) (by decide) dX7_acts_105
        · have hf := ite_f hf q
          refine g_iload hc 5 rfl dX7_acts_77 (pc2 := 79) rfl ?_
          refine g_i2l hc dX7_acts_79 (pc2 := 80) rfl ?_
          refine g_lconst (v := (1 : Int64)) hc (by decide) dX7_acts_80 (pc2 := 81) rfl ?_
          refine g_ldc2 (v := (8 : Int64)) hc (gwm 1116 (by decide +kernel) (by decide +kernel)) dX7_acts_81 (pc2 := 84) rfl ?_
          obtain ⟨r4, s4, hp, hf⟩ := bd_some hf
          refine g_sI hc (k7_in hp) co_X7_46 rfl rfl (by decide) (by decide) (Nat.le_of_ble_eq_true rfl) dX7_acts_84 (pc2 := 87) rfl ?_
          refine g_if_eq hc 104 (by decide) dX7_acts_87 (pc2 := 90) rfl (fun q => ?_) (fun q => ?_)
          · have hf := ite_t hf q
            refine g_iconst (v := (0 : Int32)) hc (by decide) dX7_acts_104 (pc2 := 105) rfl ?_
            exact g_iret hc hf hr rfl (by decide) (by decide) dX7_acts_105
          · have hf := ite_f hf q
            refine g_iload hc 6 rfl dX7_acts_90 (pc2 := 92) rfl ?_
            refine g_iconst (v := (1 : Int32)) hc (by decide) dX7_acts_92 (pc2 := 93) rfl ?_
            refine g_icmp_gt hc 104 (by decide) dX7_acts_93 (pc2 := 96) rfl (fun q => ?_) (fun q => ?_)
            · have hf := ite_t hf q
              refine g_iconst (v := (0 : Int32)) hc (by decide) dX7_acts_104 (pc2 := 105) rfl ?_
              exact g_iret hc hf hr rfl (by decide) (by decide) dX7_acts_105
            · have hf := ite_f hf q
              refine g_aload_n (i := 0) hc 1 rfl rfl dX7_acts_96 (pc2 := 97) rfl ?_
              refine g_iload_n (i := 2) hc 3 rfl rfl dX7_acts_97 (pc2 := 98) rfl ?_
              obtain ⟨r5, s5, hp, hf⟩ := bd_some hf
              refine g_vI hc (k7_canSend hp) co_X7_171 (u19 (by decide)) rfl rfl (by decide) (by decide) (Nat.le_of_ble_eq_true rfl) dX7_acts_98 (pc2 := 101) rfl ?_
              refine g_if_ne hc 106 (by decide) dX7_acts_101 (pc2 := 104) rfl (fun q => ?_) (fun q => ?_)
              · have hf := ite_f hf q
                refine g_aload_n (i := 0) hc 1 rfl rfl dX7_acts_106 (pc2 := 107) rfl ?_
                refine g_iload_n (i := 2) hc 3 rfl rfl dX7_acts_107 (pc2 := 108) rfl ?_
                refine g_iload_n (i := 3) hc 4 rfl rfl dX7_acts_108 (pc2 := 109) rfl ?_
                refine g_iload hc 5 rfl dX7_acts_109 (pc2 := 111) rfl ?_
                refine g_iload hc 6 rfl dX7_acts_111 (pc2 := 113) rfl ?_
                obtain ⟨r6, s6, hp, hf⟩ := bd_some hf
                refine g_vI hc (k7_sends hp) co_X7_123 (u19 (by decide)) rfl rfl (by decide) (by decide) (Nat.le_of_ble_eq_true rfl) dX7_acts_113 (pc2 := 116) rfl ?_
                refine g_pop hc rfl dX7_acts_116 (pc2 := 117) rfl ?_
                refine g_iconst (v := (1 : Int32)) hc (by decide) dX7_acts_117 (pc2 := 118) rfl ?_
                exact g_iret hc hf hr rfl (by decide) (by decide) dX7_acts_118
              · have hf := ite_t hf q
                refine g_iconst (v := (0 : Int32)) hc (by decide) dX7_acts_104 (pc2 := 105) rfl ?_
                exact g_iret hc hf hr rfl (by decide) (by decide) dX7_acts_105
    · have hf := ite_f hf q2
      by_cases q3 : a1 = (3 : Int32)
      · have hf := ite_t hf q3
        refine g_case hc 119 (3 : Int32) q3 (by decide) (by decide) rfl (by decide) dX7_acts_11 ?_
        refine g_aload_n (i := 0) hc 1 rfl rfl dX7_acts_119 (pc2 := 120) rfl ?_
        refine g_bipush (v := (10 : Int32)) hc (by decide) dX7_acts_120 (pc2 := 122) rfl ?_
        refine g_iload_n (i := 2) hc 3 rfl rfl dX7_acts_122 (pc2 := 123) rfl ?_
        refine g_imul hc dX7_acts_123 (pc2 := 124) rfl ?_
        refine g_iload_n (i := 3) hc 4 rfl rfl dX7_acts_124 (pc2 := 125) rfl ?_
        refine g_iadd hc dX7_acts_125 (pc2 := 126) rfl ?_
        obtain ⟨r7, s7, hp, hf⟩ := bd_some hf
        refine g_vI hc (k7_isSlot hp) co_X7_153 (u19 (by decide)) rfl rfl (by decide) (by decide) (Nat.le_of_ble_eq_true rfl) dX7_acts_126 (pc2 := 129) rfl ?_
        refine g_if_eq hc 155 (by decide) dX7_acts_129 (pc2 := 132) rfl (fun q => ?_) (fun q => ?_)
        · have hf := ite_t hf q
          refine g_iconst (v := (0 : Int32)) hc (by decide) dX7_acts_155 (pc2 := 156) rfl ?_
          exact g_iret hc hf hr rfl (by decide) (by decide) dX7_acts_156
        · have hf := ite_f hf q
          refine g_aload_n (i := 0) hc 1 rfl rfl dX7_acts_132 (pc2 := 133) rfl ?_
          refine g_iload hc 5 rfl dX7_acts_133 (pc2 := 135) rfl ?_
          obtain ⟨r8, s8, hp, hf⟩ := bd_some hf
          refine g_vI hc (k7_isMaster hp) co_X7_146 (u19 (by decide)) rfl rfl (by decide) (by decide) (Nat.le_of_ble_eq_true rfl) dX7_acts_135 (pc2 := 138) rfl ?_
          refine g_if_eq hc 155 (by decide) dX7_acts_138 (pc2 := 141) rfl (fun q => ?_) (fun q => ?_)
          · have hf := ite_t hf q
            refine g_iconst (v := (0 : Int32)) hc (by decide) dX7_acts_155 (pc2 := 156) rfl ?_
            exact g_iret hc hf hr rfl (by decide) (by decide) dX7_acts_156
          · have hf := ite_f hf q
            refine g_aload_n (i := 0) hc 1 rfl rfl dX7_acts_141 (pc2 := 142) rfl ?_
            refine g_iload hc 5 rfl dX7_acts_142 (pc2 := 144) rfl ?_
            obtain ⟨r9, s9, hp, hf⟩ := bd_some hf
            refine g_vI hc (k7_isBankrupt hp) co_X7_66 (u19 (by decide)) rfl rfl (by decide) (by decide) (Nat.le_of_ble_eq_true rfl) dX7_acts_144 (pc2 := 147) rfl ?_
            refine g_if_ne hc 155 (by decide) dX7_acts_147 (pc2 := 150) rfl (fun q => ?_) (fun q => ?_)
            · have hf := ite_f hf q
              refine g_iconst (v := (0 : Int32)) hc (by decide) dX7_acts_155 (pc2 := 156) rfl ?_
              exact g_iret hc hf hr rfl (by decide) (by decide) dX7_acts_156
            · have hf := ite_t hf q
              refine g_iload hc 6 rfl dX7_acts_150 (pc2 := 152) rfl ?_
              refine g_if_le hc 157 (by decide) dX7_acts_152 (pc2 := 155) rfl (fun q => ?_) (fun q => ?_)
              · have hf := ite_t hf q
                refine g_aload_n (i := 0) hc 1 rfl rfl dX7_acts_157 (pc2 := 158) rfl ?_
                refine g_getr (q := ad κ.1 20 0) hc fo_X7_7 (u19 (by decide)) rfl dX7_acts_158 (pc2 := 161) rfl ?_
                refine g_bipush (v := (11 : Int32)) hc (by decide) dX7_acts_161 (pc2 := 163) rfl ?_
                refine g_bipush (v := (10 : Int32)) hc (by decide) dX7_acts_163 (pc2 := 165) rfl ?_
                refine g_iload_n (i := 2) hc 3 rfl rfl dX7_acts_165 (pc2 := 166) rfl ?_
                refine g_imul hc dX7_acts_166 (pc2 := 167) rfl ?_
                refine g_iadd hc dX7_acts_167 (pc2 := 168) rfl ?_
                refine g_iload_n (i := 3) hc 4 rfl rfl dX7_acts_168 (pc2 := 169) rfl ?_
                refine g_iadd hc dX7_acts_169 (pc2 := 170) rfl ?_
                refine g_iload hc 5 rfl dX7_acts_170 (pc2 := 172) rfl ?_
                obtain ⟨hg1, hf⟩ := gd_some hf
                obtain ⟨s10, hs10, hf⟩ := nm_ex hf
                refine g_asti hc 20 0 rfl (u20 (by decide)) hg1 dX7_acts_172 (pc2 := 173) rfl ?_
                refine g_nms hs10 ?_
                refine g_iconst (v := (1 : Int32)) hc (by decide) dX7_acts_173 (pc2 := 174) rfl ?_
                exact g_iret hc hf hr rfl (by decide) (by decide) dX7_acts_174
              · have hf := ite_f hf q
                refine g_iconst (v := (0 : Int32)) hc (by decide) dX7_acts_155 (pc2 := 156) rfl ?_
                exact g_iret hc hf hr rfl (by decide) (by decide) dX7_acts_156
      · have hf := ite_f hf q3
        by_cases q4 : a1 = (4 : Int32)
        · have hf := ite_t hf q4
          refine g_case hc 175 (4 : Int32) q4 (by decide) (by decide) rfl (by decide) dX7_acts_11 ?_
          refine g_aload_n (i := 0) hc 1 rfl rfl dX7_acts_175 (pc2 := 176) rfl ?_
          refine g_iload_n (i := 2) hc 3 rfl rfl dX7_acts_176 (pc2 := 177) rfl ?_
          obtain ⟨r10, s11, hp, hf⟩ := bd_some hf
          refine g_vI hc (k7_isMaster hp) co_X7_146 (u19 (by decide)) rfl rfl (by decide) (by decide) (Nat.le_of_ble_eq_true rfl) dX7_acts_177 (pc2 := 180) rfl ?_
          refine g_if_eq hc 196 (by decide) dX7_acts_180 (pc2 := 183) rfl (fun q => ?_) (fun q => ?_)
          · have hf := ite_t hf q
            refine g_iconst (v := (0 : Int32)) hc (by decide) dX7_acts_196 (pc2 := 197) rfl ?_
            exact g_iret hc hf hr rfl (by decide) (by decide) dX7_acts_197
          · have hf := ite_f hf q
            refine g_aload_n (i := 0) hc 1 rfl rfl dX7_acts_183 (pc2 := 184) rfl ?_
            refine g_iload_n (i := 3) hc 4 rfl rfl dX7_acts_184 (pc2 := 185) rfl ?_
            obtain ⟨r11, s12, hp, hf⟩ := bd_some hf
            refine g_vI hc (k7_isMaster hp) co_X7_146 (u19 (by decide)) rfl rfl (by decide) (by decide) (Nat.le_of_ble_eq_true rfl) dX7_acts_185 (pc2 := 188) rfl ?_
            refine g_if_eq hc 196 (by decide) dX7_acts_188 (pc2 := 191) rfl (fun q => ?_) (fun q => ?_)
            · have hf := ite_t hf q
              refine g_iconst (v := (0 : Int32)) hc (by decide) dX7_acts_196 (pc2 := 197) rfl ?_
              exact g_iret hc hf hr rfl (by decide) (by decide) dX7_acts_197
            · have hf := ite_f hf q
              refine g_iload hc 0 rfl dX7_acts_191 (pc2 := 193) rfl ?_
              refine g_if_le hc 198 (by decide) dX7_acts_193 (pc2 := 196) rfl (fun q => ?_) (fun q => ?_)
              · have hf := ite_t hf q
                refine g_aload_n (i := 0) hc 1 rfl rfl dX7_acts_198 (pc2 := 199) rfl ?_
                refine g_getr (q := ad κ.1 20 0) hc fo_X7_7 (u19 (by decide)) rfl dX7_acts_199 (pc2 := 202) rfl ?_
                refine g_bipush (v := (27 : Int32)) hc (by decide) dX7_acts_202 (pc2 := 204) rfl ?_
                refine g_bipush (v := (6 : Int32)) hc (by decide) dX7_acts_204 (pc2 := 206) rfl ?_
                refine g_iload_n (i := 2) hc 3 rfl rfl dX7_acts_206 (pc2 := 207) rfl ?_
                refine g_imul hc dX7_acts_207 (pc2 := 208) rfl ?_
                refine g_iadd hc dX7_acts_208 (pc2 := 209) rfl ?_
                refine g_iload_n (i := 3) hc 4 rfl rfl dX7_acts_209 (pc2 := 210) rfl ?_
                refine g_iadd hc dX7_acts_210 (pc2 := 211) rfl ?_
                refine g_iconst (v := (0 : Int32)) hc (by decide) dX7_acts_211 (pc2 := 212) rfl ?_
                obtain ⟨hg2, hf⟩ := gd_some hf
                obtain ⟨s13, hs13, hf⟩ := nm_ex hf
                refine g_asti hc 20 0 rfl (u20 (by decide)) hg2 dX7_acts_212 (pc2 := 213) rfl ?_
                refine g_nms hs13 ?_
                refine g_iconst (v := (1 : Int32)) hc (by decide) dX7_acts_213 (pc2 := 214) rfl ?_
                exact g_iret hc hf hr rfl (by decide) (by decide) dX7_acts_214
              · have hf := ite_f hf q
                refine g_iconst (v := (0 : Int32)) hc (by decide) dX7_acts_196 (pc2 := 197) rfl ?_
                exact g_iret hc hf hr rfl (by decide) (by decide) dX7_acts_197
        · have hf := ite_f hf q4
          refine g_tableOut hc 215 ?_ (by decide) dX7_acts_11 ?_
          · have z1 := ne_i q1 (z := 1) (by decide) ; have z2 := ne_i q2 (z := 2) (by decide) ; have z3 := ne_i q3 (z := 3) (by decide) ; have z4 := ne_i q4 (z := 4) (by decide) ; omega
          refine g_iload_n (i := 3) hc 4 rfl rfl dX7_acts_215 (pc2 := 216) rfl ?_
          refine g_iload hc 0 rfl dX7_acts_216 (pc2 := 218) rfl ?_
          refine g_iadd hc dX7_acts_218 (pc2 := 219) rfl ?_
          refine g_if_le hc 224 (by decide) dX7_acts_219 (pc2 := 222) rfl (fun q => ?_) (fun q => ?_)
          · have hf := ite_t hf q
            refine g_aload_n (i := 0) hc 1 rfl rfl dX7_acts_224 (pc2 := 225) rfl ?_
            refine g_getr (q := ad κ.1 20 0) hc fo_X7_7 (u19 (by decide)) rfl dX7_acts_225 (pc2 := 228) rfl ?_
            refine g_iconst (v := (4 : Int32)) hc (by decide) dX7_acts_228 (pc2 := 229) rfl ?_
            refine g_iload_n (i := 2) hc 3 rfl rfl dX7_acts_229 (pc2 := 230) rfl ?_
            obtain ⟨s14, hs14, hf⟩ := nm_ex hf
            refine g_asti hc 20 0 rfl (u20 (by decide)) (by decide) dX7_acts_230 (pc2 := 231) rfl ?_
            refine g_nms hs14 ?_
            refine g_iconst (v := (1 : Int32)) hc (by decide) dX7_acts_231 (pc2 := 232) rfl ?_
            exact g_iret hc hf hr rfl (by decide) (by decide) dX7_acts_232
          · have hf := ite_f hf q
            refine g_iconst (v := (0 : Int32)) hc (by decide) dX7_acts_222 (pc2 := 223) rfl ?_
            exact g_iret hc hf hr rfl (by decide) (by decide) dX7_acts_223
def f7_succeeds (a1 : Int32) (s0 : Mem) : Option (Int32 × Mem) :=
  nm (a1 / (10000 : Int32)) fun x1 => nm ((a1 / (1000 : Int32)) - (a1 / (1000 : Int32)) / (10 : Int32) * (10 : Int32)) fun x2 => nm ((a1 / (100 : Int32)) - (a1 / (100 : Int32)) / (10 : Int32) * (10 : Int32)) fun x3 => nm (a1 - a1 / (100 : Int32) * (100 : Int32)) fun x4 => bd (f7_in (x1.toInt64) (1 : Int64) (5 : Int64) s0) fun r1 s1 => (if r1 = (0 : Int32) then (if x1 = (0 : Int32) then some ((0 : Int32), s1) else bd (f7_isMaster x2 s1) fun r2 s2 => (if r2 = (0 : Int32) then some ((0 : Int32), s2) else (if x3 ≤ (0 : Int32) then (if x1 = (6 : Int32) then bd (f7_debts x2 s2) fun r3 s3 => (if x4 < r3 then some ((0 : Int32), s3) else some ((1 : Int32), s3)) else (if x1 = (7 : Int32) then bd (f7_of x2 (1 : Int32) s2) fun r4 s4 => (if x4 < r4 then some ((0 : Int32), s4) else some ((1 : Int32), s4)) else (if x1 = (8 : Int32) then bd (f7_isBankrupt x2 s2) fun r5 s5 => nm (fun (y1 : Int32) (s6 : Mem) => (if y1 = x4 then some ((1 : Int32), s6) else some ((0 : Int32), s6))) fun j1 => (if r5 = (0 : Int32) then j1 (0 : Int32) s5 else j1 (1 : Int32) s5) else bd (f7_doneWith ((1 : Int32) <<< (x2 &&& 31)) s2) fun r6 s7 => (if x4 < r6 then some ((0 : Int32), s7) else some ((1 : Int32), s7))))) else some ((0 : Int32), s2)))) else bd (f7_acts x1 x2 x3 (x4 / (10 : Int32)) (x4 - x4 / (10 : Int32) * (10 : Int32)) s1) fun r7 s8 => gd (zok r7) (some (r7, s8)))
def rm_7_succeeds : Room := { frames := 7, cells := 0, slots := 0, locals := 165 }
set_option maxHeartbeats 4000000 in
set_option maxRecDepth 100000 in
theorem k7_succeeds {κ : Kx} {τ : Nat → Int64} {a1 : Int32} {s0 sR : Mem} {rR : Int32}  (hf : f7_succeeds a1 s0 = some (rR, sR)) : CtI κ yX7_succeeds cX7_succeeds 6 (some .boolean) rm_7_succeeds (NV κ τ) (NV κ τ) [.ref (ad κ.1 19 0), .int a1] s0 sR rR := by
  refine ct_I (by decide +kernel) (Nat.le_of_ble_eq_true rfl) (fun φ hc hr => ?_)
  have hc : Cx κ φ RX7 cX7_succeeds 6 rm_7_succeeds := hc
  show G κ φ (QI κ φ (NV κ τ) sR rR rm_7_succeeds.cells rm_7_succeeds.slots) (NV κ τ) 0 0 s0 [(0, .ref (ad κ.1 19 0)), (1, .int a1)] 0 []
  unfold f7_succeeds at hf
  refine g_iload_n (i := 1) hc 1 rfl rfl dX7_succeeds_0 (pc2 := 1) rfl ?_
  refine g_sipush (v := (10000 : Int32)) hc (by decide) dX7_succeeds_1 (pc2 := 4) rfl ?_
  refine g_idiv hc (by decide) dX7_succeeds_4 (pc2 := 5) rfl ?_
  obtain ⟨x1, hx1, hf⟩ := nm_ex hf
  refine g_nmi hx1 ?_
  refine g_istore_n (i := 2) (L1 := [(2, .int x1), (0, .ref (ad κ.1 19 0)), (1, .int a1)]) hc rfl (by decide) rfl dX7_succeeds_5 (pc2 := 6) rfl ?_
  refine g_iload_n (i := 1) hc 2 rfl rfl dX7_succeeds_6 (pc2 := 7) rfl ?_
  refine g_sipush (v := (1000 : Int32)) hc (by decide) dX7_succeeds_7 (pc2 := 10) rfl ?_
  refine g_idiv hc (by decide) dX7_succeeds_10 (pc2 := 11) rfl ?_
  refine g_bipush (v := (10 : Int32)) hc (by decide) dX7_succeeds_11 (pc2 := 13) rfl ?_
  refine g_irem hc (by decide) dX7_succeeds_13 (pc2 := 14) rfl ?_
  obtain ⟨x2, hx2, hf⟩ := nm_ex hf
  refine g_nmi hx2 ?_
  refine g_istore_n (i := 3) (L1 := [(3, .int x2), (2, .int x1), (0, .ref (ad κ.1 19 0)), (1, .int a1)]) hc rfl (by decide) rfl dX7_succeeds_14 (pc2 := 15) rfl ?_
  refine g_iload_n (i := 1) hc 3 rfl rfl dX7_succeeds_15 (pc2 := 16) rfl ?_
  refine g_bipush (v := (100 : Int32)) hc (by decide) dX7_succeeds_16 (pc2 := 18) rfl ?_
  refine g_idiv hc (by decide) dX7_succeeds_18 (pc2 := 19) rfl ?_
  refine g_bipush (v := (10 : Int32)) hc (by decide) dX7_succeeds_19 (pc2 := 21) rfl ?_
  refine g_irem hc (by decide) dX7_succeeds_21 (pc2 := 22) rfl ?_
  obtain ⟨x3, hx3, hf⟩ := nm_ex hf
  refine g_nmi hx3 ?_
  refine g_istore (L1 := [(4, .int x3), (3, .int x2), (2, .int x1), (0, .ref (ad κ.1 19 0)), (1, .int a1)]) hc (by decide) rfl dX7_succeeds_22 (pc2 := 24) rfl ?_
  refine g_iload_n (i := 1) hc 4 rfl rfl dX7_succeeds_24 (pc2 := 25) rfl ?_
  refine g_bipush (v := (100 : Int32)) hc (by decide) dX7_succeeds_25 (pc2 := 27) rfl ?_
  refine g_irem hc (by decide) dX7_succeeds_27 (pc2 := 28) rfl ?_
  obtain ⟨x4, hx4, hf⟩ := nm_ex hf
  refine g_nmi hx4 ?_
  refine g_istore (L1 := [(5, .int x4), (4, .int x3), (3, .int x2), (2, .int x1), (0, .ref (ad κ.1 19 0)), (1, .int a1)]) hc (by decide) rfl dX7_succeeds_28 (pc2 := 30) rfl ?_
  refine g_iload_n (i := 2) hc 3 rfl rfl dX7_succeeds_30 (pc2 := 31) rfl ?_
  refine g_i2l hc dX7_succeeds_31 (pc2 := 32) rfl ?_
  refine g_lconst (v := (1 : Int64)) hc (by decide) dX7_succeeds_32 (pc2 := 33) rfl ?_
  refine g_ldc2 (v := (5 : Int64)) hc (gwm 1056 (by decide +kernel) (by decide +kernel)) dX7_succeeds_33 (pc2 := 36) rfl ?_
  obtain ⟨r1, s1, hp, hf⟩ := bd_some hf
  refine g_sI hc (k7_in hp) co_X7_46 rfl rfl (by decide) (by decide) (Nat.le_of_ble_eq_true rfl) dX7_succeeds_36 (pc2 := 39) rfl ?_
  refine g_if_eq hc 61 (by decide) dX7_succeeds_39 (pc2 := 42) rfl (fun q => ?_) (fun q => ?_)
  · have hf := ite_t hf q
    refine g_iload_n (i := 2) hc 3 rfl rfl dX7_succeeds_61 (pc2 := 62) rfl ?_
    refine g_if_eq hc 78 (by decide) dX7_succeeds_62 (pc2 := 65) rfl (fun q => ?_) (fun q => ?_)
    · have hf := ite_t hf q
      refine g_iconst (v := (0 : Int32)) hc (by decide) dX7_succeeds_78 (pc2 := 79) rfl ?_
      exact g_iret hc hf hr rfl (by decide) (by decide) dX7_succeeds_79
    · have hf := ite_f hf q
      refine g_aload_n (i := 0) hc 4 rfl rfl dX7_succeeds_65 (pc2 := 66) rfl ?_
      refine g_iload_n (i := 3) hc 2 rfl rfl dX7_succeeds_66 (pc2 := 67) rfl ?_
      obtain ⟨r2, s2, hp, hf⟩ := bd_some hf
      refine g_vI hc (k7_isMaster hp) co_X7_146 (u19 (by decide)) rfl rfl (by decide) (by decide) (Nat.le_of_ble_eq_true rfl) dX7_succeeds_67 (pc2 := 70) rfl ?_
      refine g_if_eq hc 78 (by decide) dX7_succeeds_70 (pc2 := 73) rfl (fun q => ?_) (fun q => ?_)
      · have hf := ite_t hf q
        refine g_iconst (v := (0 : Int32)) hc (by decide) dX7_succeeds_78 (pc2 := 79) rfl ?_
        exact g_iret hc hf hr rfl (by decide) (by decide) dX7_succeeds_79
      · have hf := ite_f hf q
        refine g_iload hc 1 rfl dX7_succeeds_73 (pc2 := 75) rfl ?_
        refine g_if_le hc 80 (by decide) dX7_succeeds_75 (pc2 := 78) rfl (fun q => ?_) (fun q => ?_)
        · have hf := ite_t hf q
          refine g_iload_n (i := 2) hc 3 rfl rfl dX7_succeeds_80 (pc2 := 81) rfl ?_
          by_cases q6 : x1 = (6 : Int32)
          · have hf := ite_t hf q6
            refine g_case hc 108 (6 : Int32) q6 (by decide) (by decide) rfl (by decide) dX7_succeeds_81 ?_
            refine g_aload_n (i := 0) hc 4 rfl rfl dX7_succeeds_108 (pc2 := 109) rfl ?_
            refine g_iload_n (i := 3) hc 2 rfl rfl dX7_succeeds_109 (pc2 := 110) rfl ?_
            obtain ⟨r3, s3, hp, hf⟩ := bd_some hf
            refine g_vI hc (k7_debts hp) co_X7_70 (u19 (by decide)) rfl rfl (by decide) (by decide) (Nat.le_of_ble_eq_true rfl) dX7_succeeds_110 (pc2 := 113) rfl ?_
            refine g_iload hc 0 rfl dX7_succeeds_113 (pc2 := 115) rfl ?_
            refine g_icmp_gt hc 122 (by decide) dX7_succeeds_115 (pc2 := 118) rfl (fun q => ?_) (fun q => ?_)
            · have hf := ite_t hf q
              refine g_iconst (v := (0 : Int32)) hc (by decide) dX7_succeeds_122 (pc2 := 123) rfl ?_
              exact g_iret hc hf hr rfl (by decide) (by decide) dX7_succeeds_123
            · have hf := ite_f hf q
              refine g_iconst (v := (1 : Int32)) hc (by decide) dX7_succeeds_118 (pc2 := 119) rfl ?_
              refine g_goto hc 123 (by decide) dX7_succeeds_119 ?_
              exact g_iret hc hf hr rfl (by decide) (by decide) dX7_succeeds_123
          · have hf := ite_f hf q6
            by_cases q7 : x1 = (7 : Int32)
            · have hf := ite_t hf q7
              refine g_case hc 124 (7 : Int32) q7 (by decide) (by decide) rfl (by decide) dX7_succeeds_81 ?_
              refine g_aload_n (i := 0) hc 4 rfl rfl dX7_succeeds_124 (pc2 := 125) rfl ?_
              refine g_iload_n (i := 3) hc 2 rfl rfl dX7_succeeds_125 (pc2 := 126) rfl ?_
              refine g_iconst (v := (1 : Int32)) hc (by decide) dX7_succeeds_126 (pc2 := 127) rfl ?_
              obtain ⟨r4, s4, hp, hf⟩ := bd_some hf
              refine g_vI hc (k7_of hp) co_X7_59 (u19 (by decide)) rfl rfl (by decide) (by decide) (Nat.le_of_ble_eq_true rfl) dX7_succeeds_127 (pc2 := 130) rfl ?_
              refine g_iload hc 0 rfl dX7_succeeds_130 (pc2 := 132) rfl ?_
              refine g_icmp_gt hc 139 (by decide) dX7_succeeds_132 (pc2 := 135) rfl (fun q => ?_) (fun q => ?_)
              · have hf := ite_t hf q
                refine g_iconst (v := (0 : Int32)) hc (by decide) dX7_succeeds_139 (pc2 := 140) rfl ?_
                exact g_iret hc hf hr rfl (by decide) (by decide) dX7_succeeds_140
              · have hf := ite_f hf q
                refine g_iconst (v := (1 : Int32)) hc (by decide) dX7_succeeds_135 (pc2 := 136) rfl ?_
                refine g_goto hc 140 (by decide) dX7_succeeds_136 ?_
                exact g_iret hc hf hr rfl (by decide) (by decide) dX7_succeeds_140
            · have hf := ite_f hf q7
              by_cases q8 : x1 = (8 : Int32)
              · have hf := ite_t hf q8
                refine g_case hc 141 (8 : Int32) q8 (by decide) (by decide) rfl (by decide) dX7_succeeds_81 ?_
                refine g_aload_n (i := 0) hc 4 rfl rfl dX7_succeeds_141 (pc2 := 142) rfl ?_
                refine g_iload_n (i := 3) hc 2 rfl rfl dX7_succeeds_142 (pc2 := 143) rfl ?_
                obtain ⟨r5, s5, hp, hf⟩ := bd_some hf
                refine g_vI hc (k7_isBankrupt hp) co_X7_66 (u19 (by decide)) rfl rfl (by decide) (by decide) (Nat.le_of_ble_eq_true rfl) dX7_succeeds_143 (pc2 := 146) rfl ?_
                obtain ⟨j1, hj1, hf⟩ := nm_ex hf
                have Hj1 : ∀ (y1 : Int32) (s6 : Mem), j1 y1 s6 = some (rR, sR) → G κ φ (QI κ φ (NV κ τ) sR rR rm_7_succeeds.cells rm_7_succeeds.slots) (NV κ τ) 0 0 s6 [(5, .int x4)] 154 [.int y1] := by
                  intro y1 s6 hf
                  rw [hj1] at hf
                  refine g_iload hc 0 rfl dX7_succeeds_154 (pc2 := 156) rfl ?_
                  refine g_icmp_ne hc 163 (by decide) dX7_succeeds_156 (pc2 := 159) rfl (fun q => ?_) (fun q => ?_)
                  · have hf := ite_f hf q
                    refine g_iconst (v := (0 : Int32)) hc (by decide) dX7_succeeds_163 (pc2 := 164) rfl ?_
                    exact g_iret hc hf hr rfl (by decide) (by decide) dX7_succeeds_164
                  · have hf := ite_t hf q
                    refine g_iconst (v := (1 : Int32)) hc (by decide) dX7_succeeds_159 (pc2 := 160) rfl ?_
                    refine g_goto hc 164 (by decide) dX7_succeeds_160 ?_
                    exact g_iret hc hf hr rfl (by decide) (by decide) dX7_succeeds_164
                refine g_if_eq hc 153 (by decide) dX7_succeeds_146 (pc2 := 149) rfl (fun q => ?_) (fun q => ?_)
                · have hf := ite_t hf q
                  refine g_iconst (v := (0 : Int32)) hc (by decide) dX7_succeeds_153 (pc2 := 154) rfl ?_
                  refine g_sub [0] rfl ?_
                  exact Hj1 _ _ hf
                · have hf := ite_f hf q
                  refine g_iconst (v := (1 : Int32)) hc (by decide) dX7_succeeds_149 (pc2 := 150) rfl ?_
                  refine g_goto hc 154 (by decide) dX7_succeeds_150 ?_
                  refine g_sub [0] rfl ?_
                  exact Hj1 _ _ hf
              · have hf := ite_f hf q8
                refine g_tableOut hc 165 ?_ (by decide) dX7_succeeds_81 ?_
                · have z6 := ne_i q6 (z := 6) (by decide) ; have z7 := ne_i q7 (z := 7) (by decide) ; have z8 := ne_i q8 (z := 8) (by decide) ; omega
                refine g_aload_n (i := 0) hc 4 rfl rfl dX7_succeeds_165 (pc2 := 166) rfl ?_
                refine g_iconst (v := (1 : Int32)) hc (by decide) dX7_succeeds_166 (pc2 := 167) rfl ?_
                refine g_iload_n (i := 3) hc 2 rfl rfl dX7_succeeds_167 (pc2 := 168) rfl ?_
                refine g_ishl hc dX7_succeeds_168 (pc2 := 169) rfl ?_
                obtain ⟨r6, s7, hp, hf⟩ := bd_some hf
                refine g_vI hc (k7_doneWith hp) co_X7_186 (u19 (by decide)) rfl rfl (by decide) (by decide) (Nat.le_of_ble_eq_true rfl) dX7_succeeds_169 (pc2 := 172) rfl ?_
                refine g_iload hc 0 rfl dX7_succeeds_172 (pc2 := 174) rfl ?_
                refine g_icmp_gt hc 181 (by decide) dX7_succeeds_174 (pc2 := 177) rfl (fun q => ?_) (fun q => ?_)
                · have hf := ite_t hf q
                  refine g_iconst (v := (0 : Int32)) hc (by decide) dX7_succeeds_181 (pc2 := 182) rfl ?_
                  exact g_iret hc hf hr rfl (by decide) (by decide) dX7_succeeds_182
                · have hf := ite_f hf q
                  refine g_iconst (v := (1 : Int32)) hc (by decide) dX7_succeeds_177 (pc2 := 178) rfl ?_
                  refine g_goto hc 182 (by decide) dX7_succeeds_178 ?_
                  exact g_iret hc hf hr rfl (by decide) (by decide) dX7_succeeds_182
        · have hf := ite_f hf q
          refine g_iconst (v := (0 : Int32)) hc (by decide) dX7_succeeds_78 (pc2 := 79) rfl ?_
          exact g_iret hc hf hr rfl (by decide) (by decide) dX7_succeeds_79
  · have hf := ite_f hf q
    refine g_aload_n (i := 0) hc 4 rfl rfl dX7_succeeds_42 (pc2 := 43) rfl ?_
    refine g_iload_n (i := 2) hc 3 rfl rfl dX7_succeeds_43 (pc2 := 44) rfl ?_
    refine g_iload_n (i := 3) hc 2 rfl rfl dX7_succeeds_44 (pc2 := 45) rfl ?_
    refine g_iload hc 1 rfl dX7_succeeds_45 (pc2 := 47) rfl ?_
    refine g_iload hc 0 rfl dX7_succeeds_47 (pc2 := 49) rfl ?_
    refine g_bipush (v := (10 : Int32)) hc (by decide) dX7_succeeds_49 (pc2 := 51) rfl ?_
    refine g_idiv hc (by decide) dX7_succeeds_51 (pc2 := 52) rfl ?_
    refine g_iload hc 0 rfl dX7_succeeds_52 (pc2 := 54) rfl ?_
    refine g_bipush (v := (10 : Int32)) hc (by decide) dX7_succeeds_54 (pc2 := 56) rfl ?_
    refine g_irem hc (by decide) dX7_succeeds_56 (pc2 := 57) rfl ?_
    obtain ⟨r7, s8, hp, hf⟩ := bd_some hf
    refine g_vI hc (k7_acts hp) co_X7_189 (u19 (by decide)) rfl rfl (by decide) (by decide) (Nat.le_of_ble_eq_true rfl) dX7_succeeds_57 (pc2 := 60) rfl ?_
    obtain ⟨hg1, hf⟩ := gd_some hf
    exact g_iret hc hf hr (zok_n hg1) (by decide) (by decide) dX7_succeeds_60
def f7_runScript_l86 (a1 : Int32) (a2 : Int64) (k2 : Int32 → Mem → Option (Int32 × Mem)) : Nat → Int64 → Int32 → Int32 → Mem → Option (Int32 × Mem)
  | 0, _, _, _, _ => none
  | n1 + 1, m1, m2, m3, s9 => (if a1 ≤ m3 then k2 m2 s9 else (if (0 : Int32) ≤ m2 then k2 m2 s9 else nm (m1 / (100000 : Int64)) fun x1 => gd (nzl x1) (bd (f7_succeeds (((a2 / x1) - (a2 / x1) / (100000 : Int64) * (100000 : Int64)).toInt32) s9) fun r3 s10 => nm (fun (y3 : Int32) (s11 : Mem) => nm (m3 + (1 : Int32)) fun x2 => f7_runScript_l86 a1 a2 k2 n1 x1 y3 x2 s11) fun j2 => (if r3 = (0 : Int32) then j2 m3 s10 else j2 m2 s10))))
def f7_runScript_l11 (a1 : Int32) (k1 : Int64 → Mem → Option (Int32 × Mem)) : Nat → Int64 → Int32 → Mem → Option (Int32 × Mem)
  | 0, _, _, _ => none
  | n2 + 1, m4, m5, s12 => (if a1 ≤ m5 then k1 m4 s12 else (if (3 : Int32) ≤ m5 then k1 m4 s12 else nm (m4 * (100000 : Int64)) fun x3 => nm (m5 + (1 : Int32)) fun x4 => f7_runScript_l11 a1 k1 n2 x3 x4 s12))
def f7_runScript (a1 : Int32) (a2 : Int64) (s0 : Mem) : Option (Int32 × Mem) :=
  nm (ms s0 62 0 0 (0 : Int32)) fun s1 => nm (fun (y1 : Int64) (s2 : Mem) => bd (f7_in (a1.toInt64) (1 : Int64) (3 : Int64) s2) fun r1 s3 => nm (fun (s4 : Mem) => bd (f7_fails (1 : Int32) s4) fun r2 s5 => some (r2, s5)) fun j1 => (if r1 = (0 : Int32) then j1 s3 else (if (lg_cmp a2 (0 : Int64)) < (0 : Int32) then j1 s3 else (if (lg_cmp a2 y1) < (0 : Int32) then bv (f7_copy 0 1 s3) fun s6 => nm (fun (y2 : Int32) (s7 : Mem) => bv (f7_copy 1 0 s7) fun s8 => some (y2, s8)) fun k2 => f7_runScript_l86 a1 a2 k2 FU y1 (-9 : Int32) (0 : Int32) s6 else j1 s3)))) fun k1 => f7_runScript_l11 a1 k1 FU (1 : Int64) (0 : Int32) s1
def rm_7_runScript : Room := { frames := 8, cells := 0, slots := 0, locals := 190 }
set_option maxHeartbeats 4000000 in
set_option maxRecDepth 100000 in
theorem k7_runScript {κ : Kx} {τ : Nat → Int64} {a1 : Int32} {a2 : Int64} {s0 sR : Mem} {rR : Int32}  (hf : f7_runScript a1 a2 s0 = some (rR, sR)) : CtI κ yX7_runScript cX7_runScript 8 (some .int) rm_7_runScript (NV κ τ) (NV κ τ) [.ref (ad κ.1 19 0), .int a1, .long a2] s0 sR rR := by
  refine ct_I (by decide +kernel) (Nat.le_of_ble_eq_true rfl) (fun φ hc hr => ?_)
  have hc : Cx κ φ RX7 cX7_runScript 8 rm_7_runScript := hc
  show G κ φ (QI κ φ (NV κ τ) sR rR rm_7_runScript.cells rm_7_runScript.slots) (NV κ τ) 0 0 s0 [(0, .ref (ad κ.1 19 0)), (1, .int a1), (2, .long a2)] 0 []
  unfold f7_runScript at hf
  refine g_aload_n (i := 0) hc 0 rfl rfl dX7_runScript_0 (pc2 := 1) rfl ?_
  refine g_iconst (v := (0 : Int32)) hc (by decide) dX7_runScript_1 (pc2 := 2) rfl ?_
  obtain ⟨s1, hs1, hf⟩ := nm_ex hf
  refine g_puti hc (by decide) fo_X7_39 clO_19 poK_19_9 rfl (u19 (by decide)) rfl rfl dX7_runScript_2 (pc2 := 5) rfl ?_
  refine g_nms hs1 ?_
  refine g_lconst (v := (1 : Int64)) hc (by decide) dX7_runScript_5 (pc2 := 6) rfl ?_
  refine g_lstore (L1 := [(4, .long (1 : Int64)), (0, .ref (ad κ.1 19 0)), (1, .int a1), (2, .long a2)]) hc (by decide) rfl dX7_runScript_6 (pc2 := 8) rfl ?_
  refine g_iconst (v := (0 : Int32)) hc (by decide) dX7_runScript_8 (pc2 := 9) rfl ?_
  refine g_istore (L1 := [(6, .int (0 : Int32)), (4, .long (1 : Int64)), (0, .ref (ad κ.1 19 0)), (1, .int a1), (2, .long a2)]) hc (by decide) rfl dX7_runScript_9 (pc2 := 11) rfl ?_
  obtain ⟨k1, hk1, hf⟩ := nm_ex hf
  have Hk1 : ∀ (y1 : Int64) (s2 : Mem), k1 y1 s2 = some (rR, sR) → G κ φ (QI κ φ (NV κ τ) sR rR rm_7_runScript.cells rm_7_runScript.slots) (NV κ τ) 0 0 s2 [(0, .ref (ad κ.1 19 0)), (1, .int a1), (2, .long a2), (4, .long y1)] 37 [] := by
    intro y1 s2 hf
    rw [hk1] at hf
    refine g_iload_n (i := 1) hc 1 rfl rfl dX7_runScript_37 (pc2 := 38) rfl ?_
    refine g_i2l hc dX7_runScript_38 (pc2 := 39) rfl ?_
    refine g_lconst (v := (1 : Int64)) hc (by decide) dX7_runScript_39 (pc2 := 40) rfl ?_
    refine g_ldc2 (v := (3 : Int64)) hc (gwm 1106 (by decide +kernel) (by decide +kernel)) dX7_runScript_40 (pc2 := 43) rfl ?_
    obtain ⟨r1, s3, hp, hf⟩ := bd_some hf
    refine g_sI hc (k7_in hp) co_X7_46 rfl rfl (by decide) (by decide) (Nat.le_of_ble_eq_true rfl) dX7_runScript_43 (pc2 := 46) rfl ?_
    obtain ⟨j1, hj1, hf⟩ := nm_ex hf
    have Hj1 : ∀ (s4 : Mem), j1 s4 = some (rR, sR) → G κ φ (QI κ φ (NV κ τ) sR rR rm_7_runScript.cells rm_7_runScript.slots) (NV κ τ) 0 0 s4 [(0, .ref (ad κ.1 19 0))] 62 [] := by
      intro s4 hf
      rw [hj1] at hf
      refine g_aload_n (i := 0) hc 0 rfl rfl dX7_runScript_62 (pc2 := 63) rfl ?_
      refine g_iconst (v := (1 : Int32)) hc (by decide) dX7_runScript_63 (pc2 := 64) rfl ?_
      obtain ⟨r2, s5, hp, hf⟩ := bd_some hf
      refine g_vI hc (k7_fails hp) co_X7_101 (u19 (by decide)) rfl rfl (by decide) (by decide) (Nat.le_of_ble_eq_true rfl) dX7_runScript_64 (pc2 := 67) rfl ?_
      exact g_iret hc hf hr rfl (by decide) (by decide) dX7_runScript_67
    refine g_if_eq hc 62 (by decide) dX7_runScript_46 (pc2 := 49) rfl (fun q => ?_) (fun q => ?_)
    · have hf := ite_t hf q
      refine g_sub [0] rfl ?_
      exact Hj1 _ hf
    · have hf := ite_f hf q
      refine g_lload_n (i := 2) hc 2 rfl rfl dX7_runScript_49 (pc2 := 50) rfl ?_
      refine g_lconst (v := (0 : Int64)) hc (by decide) dX7_runScript_50 (pc2 := 51) rfl ?_
      refine g_lcmp hc dX7_runScript_51 (pc2 := 52) rfl ?_
      refine g_if_lt hc 62 (by decide) dX7_runScript_52 (pc2 := 55) rfl (fun q => ?_) (fun q => ?_)
      · have hf := ite_t hf q
        refine g_sub [0] rfl ?_
        exact Hj1 _ hf
      · have hf := ite_f hf q
        refine g_lload_n (i := 2) hc 2 rfl rfl dX7_runScript_55 (pc2 := 56) rfl ?_
        refine g_lload hc 3 rfl dX7_runScript_56 (pc2 := 58) rfl ?_
        refine g_lcmp hc dX7_runScript_58 (pc2 := 59) rfl ?_
        refine g_if_lt hc 68 (by decide) dX7_runScript_59 (pc2 := 62) rfl (fun q => ?_) (fun q => ?_)
        · have hf := ite_t hf q
          refine g_aload_n (i := 0) hc 0 rfl rfl dX7_runScript_68 (pc2 := 69) rfl ?_
          refine g_getr (q := ad κ.1 20 0) hc fo_X7_7 (u19 (by decide)) rfl dX7_runScript_69 (pc2 := 72) rfl ?_
          refine g_aload_n (i := 0) hc 0 rfl rfl dX7_runScript_72 (pc2 := 73) rfl ?_
          refine g_getr (q := ad κ.1 20 1) hc fo_X7_13 (u19 (by decide)) rfl dX7_runScript_73 (pc2 := 76) rfl ?_
          obtain ⟨s6, hp, hf⟩ := bv_some hf
          refine g_sV hc (k7_copy (by decide) (by decide) hp) co_X7_179 rfl rfl (by decide) (by decide) (Nat.le_of_ble_eq_true rfl) dX7_runScript_76 (pc2 := 79) rfl ?_
          refine g_bipush (v := (-9 : Int32)) hc (by decide) dX7_runScript_79 (pc2 := 81) rfl ?_
          refine g_istore (L1 := [(6, .int (-9 : Int32)), (0, .ref (ad κ.1 19 0)), (1, .int a1), (2, .long a2), (4, .long y1)]) hc (by decide) rfl dX7_runScript_81 (pc2 := 83) rfl ?_
          refine g_iconst (v := (0 : Int32)) hc (by decide) dX7_runScript_83 (pc2 := 84) rfl ?_
          refine g_istore (L1 := [(7, .int (0 : Int32)), (6, .int (-9 : Int32)), (0, .ref (ad κ.1 19 0)), (1, .int a1), (2, .long a2), (4, .long y1)]) hc (by decide) rfl dX7_runScript_84 (pc2 := 86) rfl ?_
          obtain ⟨k2, hk2, hf⟩ := nm_ex hf
          have Hk2 : ∀ (y2 : Int32) (s7 : Mem), k2 y2 s7 = some (rR, sR) → G κ φ (QI κ φ (NV κ τ) sR rR rm_7_runScript.cells rm_7_runScript.slots) (NV κ τ) 0 0 s7 [(0, .ref (ad κ.1 19 0)), (6, .int y2)] 136 [] := by
            intro y2 s7 hf
            rw [hk2] at hf
            refine g_aload_n (i := 0) hc 0 rfl rfl dX7_runScript_136 (pc2 := 137) rfl ?_
            refine g_getr (q := ad κ.1 20 1) hc fo_X7_13 (u19 (by decide)) rfl dX7_runScript_137 (pc2 := 140) rfl ?_
            refine g_aload_n (i := 0) hc 0 rfl rfl dX7_runScript_140 (pc2 := 141) rfl ?_
            refine g_getr (q := ad κ.1 20 0) hc fo_X7_7 (u19 (by decide)) rfl dX7_runScript_141 (pc2 := 144) rfl ?_
            obtain ⟨s8, hp, hf⟩ := bv_some hf
            refine g_sV hc (k7_copy (by decide) (by decide) hp) co_X7_179 rfl rfl (by decide) (by decide) (Nat.le_of_ble_eq_true rfl) dX7_runScript_144 (pc2 := 147) rfl ?_
            refine g_iload hc 1 rfl dX7_runScript_147 (pc2 := 149) rfl ?_
            exact g_iret hc hf hr rfl (by decide) (by decide) dX7_runScript_149
          have LP_n1 : ∀ (n1 : Nat) (m1 : Int64) (m2 : Int32) (m3 : Int32) (s9 : Mem), f7_runScript_l86 a1 a2 k2 n1 m1 m2 m3 s9 = some (rR, sR) → G κ φ (QI κ φ (NV κ τ) sR rR rm_7_runScript.cells rm_7_runScript.slots) (NV κ τ) 0 0 s9 [(0, .ref (ad κ.1 19 0)), (1, .int a1), (2, .long a2), (4, .long m1), (6, .int m2), (7, .int m3)] 86 [] := by
            intro n1
            induction n1 with
            | zero => intro m1 m2 m3 s9 hf; rw [f7_runScript_l86] at hf; cases hf
            | succ n1 ih_n1 =>
              intro m1 m2 m3 s9 hf
              rw [f7_runScript_l86] at hf
              refine g_iload hc 5 rfl dX7_runScript_86 (pc2 := 88) rfl ?_
              refine g_iload_n (i := 1) hc 1 rfl rfl dX7_runScript_88 (pc2 := 89) rfl ?_
              refine g_icmp_ge hc 136 (by decide) dX7_runScript_89 (pc2 := 92) rfl (fun q => ?_) (fun q => ?_)
              · have hf := ite_t hf q
                refine g_sub [0, 4] rfl ?_
                exact Hk2 _ _ hf
              · have hf := ite_f hf q
                refine g_iload hc 4 rfl dX7_runScript_92 (pc2 := 94) rfl ?_
                refine g_if_ge hc 136 (by decide) dX7_runScript_94 (pc2 := 97) rfl (fun q => ?_) (fun q => ?_)
                · have hf := ite_t hf q
                  refine g_sub [0, 4] rfl ?_
                  exact Hk2 _ _ hf
                · have hf := ite_f hf q
                  refine g_lload hc 3 rfl dX7_runScript_97 (pc2 := 99) rfl ?_
                  refine g_ldc2 (v := (100000 : Int64)) hc (gwm 1201 (by decide +kernel) (by decide +kernel)) dX7_runScript_99 (pc2 := 102) rfl ?_
                  refine g_ldiv hc (by decide) dX7_runScript_102 (pc2 := 103) rfl ?_
                  obtain ⟨x1, hx1, hf⟩ := nm_ex hf
                  refine g_nml hx1 ?_
                  refine g_lstore (L1 := [(4, .long x1), (0, .ref (ad κ.1 19 0)), (1, .int a1), (2, .long a2), (6, .int m2), (7, .int m3)]) hc (by decide) rfl dX7_runScript_103 (pc2 := 105) rfl ?_
                  refine g_aload_n (i := 0) hc 1 rfl rfl dX7_runScript_105 (pc2 := 106) rfl ?_
                  refine g_lload_n (i := 2) hc 3 rfl rfl dX7_runScript_106 (pc2 := 107) rfl ?_
                  refine g_lload hc 0 rfl dX7_runScript_107 (pc2 := 109) rfl ?_
                  obtain ⟨hg1, hf⟩ := gd_some hf
                  refine g_ldiv hc (nzl_of hg1) dX7_runScript_109 (pc2 := 110) rfl ?_
                  refine g_ldc2 (v := (100000 : Int64)) hc (gwm 1201 (by decide +kernel) (by decide +kernel)) dX7_runScript_110 (pc2 := 113) rfl ?_
                  refine g_lrem hc (by decide) dX7_runScript_113 (pc2 := 114) rfl ?_
                  refine g_l2i hc dX7_runScript_114 (pc2 := 115) rfl ?_
                  obtain ⟨r3, s10, hp, hf⟩ := bd_some hf
                  refine g_vI hc (k7_succeeds hp) co_X7_195 (u19 (by decide)) rfl rfl (by decide) (by decide) (Nat.le_of_ble_eq_true rfl) dX7_runScript_115 (pc2 := 118) rfl ?_
                  obtain ⟨j2, hj2, hf⟩ := nm_ex hf
                  have Hj2 : ∀ (y3 : Int32) (s11 : Mem), j2 y3 s11 = some (rR, sR) → G κ φ (QI κ φ (NV κ τ) sR rR rm_7_runScript.cells rm_7_runScript.slots) (NV κ τ) 0 0 s11 [(0, .ref (ad κ.1 19 0)), (1, .int a1), (2, .long a2), (4, .long x1), (7, .int m3)] 128 [.int y3] := by
                    intro y3 s11 hf
                    rw [hj2] at hf
                    refine g_istore (L1 := [(6, .int y3), (0, .ref (ad κ.1 19 0)), (1, .int a1), (2, .long a2), (4, .long x1), (7, .int m3)]) hc (by decide) rfl dX7_runScript_128 (pc2 := 130) rfl ?_
                    obtain ⟨x2, hx2, hf⟩ := nm_ex hf
                    refine g_iinc (v := x2) (L1 := [(7, .int x2), (6, .int y3), (0, .ref (ad κ.1 19 0)), (1, .int a1), (2, .long a2), (4, .long x1)]) hc 5 rfl (by rw [hx2]; rfl) (by decide) rfl dX7_runScript_130 (pc2 := 133) rfl ?_
                    refine g_goto hc 86 (by decide) dX7_runScript_133 ?_
                    refine g_sub [2, 3, 4, 5, 1, 0] rfl ?_
                    exact ih_n1 _ _ _ _ hf
                  refine g_if_eq hc 126 (by decide) dX7_runScript_118 (pc2 := 121) rfl (fun q => ?_) (fun q => ?_)
                  · have hf := ite_t hf q
                    refine g_iload hc 5 rfl dX7_runScript_126 (pc2 := 128) rfl ?_
                    refine g_sub [1, 2, 3, 0, 5] rfl ?_
                    exact Hj2 _ _ hf
                  · have hf := ite_f hf q
                    refine g_iload hc 4 rfl dX7_runScript_121 (pc2 := 123) rfl ?_
                    refine g_goto hc 128 (by decide) dX7_runScript_123 ?_
                    refine g_sub [1, 2, 3, 0, 5] rfl ?_
                    exact Hj2 _ _ hf
          refine g_sub [2, 3, 4, 5, 1, 0] rfl ?_
          exact LP_n1 _ _ _ _ _ hf
        · have hf := ite_f hf q
          refine g_sub [0] rfl ?_
          exact Hj1 _ hf
  have LP_n2 : ∀ (n2 : Nat) (m4 : Int64) (m5 : Int32) (s12 : Mem), f7_runScript_l11 a1 k1 n2 m4 m5 s12 = some (rR, sR) → G κ φ (QI κ φ (NV κ τ) sR rR rm_7_runScript.cells rm_7_runScript.slots) (NV κ τ) 0 0 s12 [(0, .ref (ad κ.1 19 0)), (1, .int a1), (2, .long a2), (4, .long m4), (6, .int m5)] 11 [] := by
    intro n2
    induction n2 with
    | zero => intro m4 m5 s12 hf; rw [f7_runScript_l11] at hf; cases hf
    | succ n2 ih_n2 =>
      intro m4 m5 s12 hf
      rw [f7_runScript_l11] at hf
      refine g_iload hc 4 rfl dX7_runScript_11 (pc2 := 13) rfl ?_
      refine g_iload_n (i := 1) hc 1 rfl rfl dX7_runScript_13 (pc2 := 14) rfl ?_
      refine g_icmp_ge hc 37 (by decide) dX7_runScript_14 (pc2 := 17) rfl (fun q => ?_) (fun q => ?_)
      · have hf := ite_t hf q
        refine g_sub [0, 1, 2, 3] rfl ?_
        exact Hk1 _ _ hf
      · have hf := ite_f hf q
        refine g_iload hc 4 rfl dX7_runScript_17 (pc2 := 19) rfl ?_
        refine g_iconst (v := (3 : Int32)) hc (by decide) dX7_runScript_19 (pc2 := 20) rfl ?_
        refine g_icmp_ge hc 37 (by decide) dX7_runScript_20 (pc2 := 23) rfl (fun q => ?_) (fun q => ?_)
        · have hf := ite_t hf q
          refine g_sub [0, 1, 2, 3] rfl ?_
          exact Hk1 _ _ hf
        · have hf := ite_f hf q
          refine g_lload hc 3 rfl dX7_runScript_23 (pc2 := 25) rfl ?_
          refine g_ldc2 (v := (100000 : Int64)) hc (gwm 1201 (by decide +kernel) (by decide +kernel)) dX7_runScript_25 (pc2 := 28) rfl ?_
          refine g_lmul hc dX7_runScript_28 (pc2 := 29) rfl ?_
          obtain ⟨x3, hx3, hf⟩ := nm_ex hf
          refine g_nml hx3 ?_
          refine g_lstore (L1 := [(4, .long x3), (0, .ref (ad κ.1 19 0)), (1, .int a1), (2, .long a2), (6, .int m5)]) hc (by decide) rfl dX7_runScript_29 (pc2 := 31) rfl ?_
          obtain ⟨x4, hx4, hf⟩ := nm_ex hf
          refine g_iinc (v := x4) (L1 := [(6, .int x4), (4, .long x3), (0, .ref (ad κ.1 19 0)), (1, .int a1), (2, .long a2)]) hc 4 rfl (by rw [hx4]; rfl) (by decide) rfl dX7_runScript_31 (pc2 := 34) rfl ?_
          refine g_goto hc 11 (by decide) dX7_runScript_34 ?_
          refine g_sub [2, 3, 4, 1, 0] rfl ?_
          exact ih_n2 _ _ _ hf
  refine g_sub [2, 3, 4, 1, 0] rfl ?_
  exact LP_n2 _ _ _ _ hf
def f7_simulate_l160  (k2 : Int32 → Mem → Option (Int32 × Mem)) : Nat → Int32 → Int32 → Mem → Option (Int32 × Mem)
  | 0, _, _, _ => none
  | n1 + 1, m1, m2, s8 => (if (s8 20 0 ((0 : Int32)).toNatClampNeg) ≤ m2 then k2 m1 s8 else bd (f7_isBankrupt m2 s8) fun r3 s9 => nm (fun (y3 : Int32) (s10 : Mem) => nm (m1 + y3) fun x2 => nm (m2 + (1 : Int32)) fun x3 => f7_simulate_l160 k2 n1 x2 x3 s10) fun j1 => (if r3 = (0 : Int32) then j1 (0 : Int32) s9 else j1 (1 : Int32) s9))
def f7_simulate_l43 (a2 : Int32) (k1 : Int32 → Mem → Option (Int32 × Mem)) : Nat → Int64 → Int32 → Int32 → Mem → Option (Int32 × Mem)
  | 0, _, _, _, _ => none
  | n2 + 1, m3, m4, m5, s11 => (if a2 ≤ m5 then k1 m4 s11 else nm ((m3 * (6364136223846793005 : Int64)) + (1442695040888963407 : Int64)) fun x4 => nm (((x4.toUInt64 >>> ((33 : Int32).toInt64.toUInt64 &&& Int64.toUInt64 63)).toInt64).toInt32) fun x5 => gd (nz (s11 20 0 ((0 : Int32)).toNatClampNeg)) (nm ((x5 / (4 : Int32)) - (x5 / (4 : Int32)) / (s11 20 0 ((0 : Int32)).toNatClampNeg) * (s11 20 0 ((0 : Int32)).toNatClampNeg)) fun x6 => nm (fun (s12 : Mem) => bd (f7_tick s12) fun r4 s13 => nm (fun (y4 : Int32) (s14 : Mem) => nm (m4 + y4) fun x7 => nm (m5 + (1 : Int32)) fun x8 => f7_simulate_l43 a2 k1 n2 x4 x7 x8 s14) fun j3 => (if (0 : Int32) ≤ r4 then j3 (0 : Int32) s13 else j3 (1 : Int32) s13)) fun j2 => (if (x5 - x5 / (3 : Int32) * (3 : Int32)) = (0 : Int32) then bd (f7_canSend x6 s11) fun r5 s15 => (if r5 = (0 : Int32) then j2 s15 else bd (f7_sends x6 ((x5 / (64 : Int32)) - (x5 / (64 : Int32)) / (4 : Int32) * (4 : Int32)) ((1 : Int32) + ((x5 / (256 : Int32)) - (x5 / (256 : Int32)) / (8 : Int32) * (8 : Int32))) ((x5 / (2048 : Int32)) - (x5 / (2048 : Int32)) / (2 : Int32) * (2 : Int32)) s15) fun r6 s16 => j2 s16) else j2 s11)))
def f7_simulate (a1 : Int64) (a2 : Int32) (s0 : Mem) : Option (Int32 × Mem) :=
  nm (ms s0 62 0 0 (0 : Int32)) fun s1 => bd (f7_in (a2.toInt64) (1 : Int64) (200 : Int64) s1) fun r1 s2 => (if r1 = (0 : Int32) then bd (f7_fails (1 : Int32) s2) fun r7 s17 => some (r7, s17) else bv (f7_copy 0 1 s2) fun s3 => nm (fun (y1 : Int32) (s4 : Mem) => nm (fun (y2 : Int32) (s5 : Mem) => bd (f7_allOf (0 : Int32) s5) fun r2 s6 => nm ((((1000 : Int32) * y1) + ((10 : Int32) * r2)) + y2) fun x1 => bv (f7_copy 1 0 s6) fun s7 => some (x1, s7)) fun k2 => f7_simulate_l160 k2 FU (0 : Int32) (0 : Int32) s4) fun k1 => f7_simulate_l43 a2 k1 FU a1 (0 : Int32) (0 : Int32) s3)
def rm_7_simulate : Room := { frames := 5, cells := 0, slots := 0, locals := 116 }
set_option maxHeartbeats 4000000 in
set_option maxRecDepth 100000 in
theorem k7_simulate {κ : Kx} {τ : Nat → Int64} {a1 : Int64} {a2 : Int32} {s0 sR : Mem} {rR : Int32}  (hf : f7_simulate a1 a2 s0 = some (rR, sR)) : CtI κ yX7_simulate cX7_simulate 10 (some .int) rm_7_simulate (NV κ τ) (NV κ τ) [.ref (ad κ.1 19 0), .long a1, .int a2] s0 sR rR := by
  refine ct_I (by decide +kernel) (Nat.le_of_ble_eq_true rfl) (fun φ hc hr => ?_)
  have hc : Cx κ φ RX7 cX7_simulate 10 rm_7_simulate := hc
  show G κ φ (QI κ φ (NV κ τ) sR rR rm_7_simulate.cells rm_7_simulate.slots) (NV κ τ) 0 0 s0 [(0, .ref (ad κ.1 19 0)), (1, .long a1), (3, .int a2)] 0 []
  unfold f7_simulate at hf
  refine g_aload_n (i := 0) hc 0 rfl rfl dX7_simulate_0 (pc2 := 1) rfl ?_
  refine g_iconst (v := (0 : Int32)) hc (by decide) dX7_simulate_1 (pc2 := 2) rfl ?_
  obtain ⟨s1, hs1, hf⟩ := nm_ex hf
  refine g_puti hc (by decide) fo_X7_39 clO_19 poK_19_9 rfl (u19 (by decide)) rfl rfl dX7_simulate_2 (pc2 := 5) rfl ?_
  refine g_nms hs1 ?_
  refine g_iload_n (i := 3) hc 2 rfl rfl dX7_simulate_5 (pc2 := 6) rfl ?_
  refine g_i2l hc dX7_simulate_6 (pc2 := 7) rfl ?_
  refine g_lconst (v := (1 : Int64)) hc (by decide) dX7_simulate_7 (pc2 := 8) rfl ?_
  refine g_ldc2 (v := (200 : Int64)) hc (gwm 1214 (by decide +kernel) (by decide +kernel)) dX7_simulate_8 (pc2 := 11) rfl ?_
  obtain ⟨r1, s2, hp, hf⟩ := bd_some hf
  refine g_sI hc (k7_in hp) co_X7_46 rfl rfl (by decide) (by decide) (Nat.le_of_ble_eq_true rfl) dX7_simulate_11 (pc2 := 14) rfl ?_
  refine g_if_ne hc 23 (by decide) dX7_simulate_14 (pc2 := 17) rfl (fun q => ?_) (fun q => ?_)
  · have hf := ite_f hf q
    refine g_aload_n (i := 0) hc 0 rfl rfl dX7_simulate_23 (pc2 := 24) rfl ?_
    refine g_getr (q := ad κ.1 20 0) hc fo_X7_7 (u19 (by decide)) rfl dX7_simulate_24 (pc2 := 27) rfl ?_
    refine g_aload_n (i := 0) hc 0 rfl rfl dX7_simulate_27 (pc2 := 28) rfl ?_
    refine g_getr (q := ad κ.1 20 1) hc fo_X7_13 (u19 (by decide)) rfl dX7_simulate_28 (pc2 := 31) rfl ?_
    obtain ⟨s3, hp, hf⟩ := bv_some hf
    refine g_sV hc (k7_copy (by decide) (by decide) hp) co_X7_179 rfl rfl (by decide) (by decide) (Nat.le_of_ble_eq_true rfl) dX7_simulate_31 (pc2 := 34) rfl ?_
    refine g_lload_n (i := 1) hc 1 rfl rfl dX7_simulate_34 (pc2 := 35) rfl ?_
    refine g_lstore (L1 := [(4, .long a1), (0, .ref (ad κ.1 19 0)), (1, .long a1), (3, .int a2)]) hc (by decide) rfl dX7_simulate_35 (pc2 := 37) rfl ?_
    refine g_iconst (v := (0 : Int32)) hc (by decide) dX7_simulate_37 (pc2 := 38) rfl ?_
    refine g_istore (L1 := [(6, .int (0 : Int32)), (4, .long a1), (0, .ref (ad κ.1 19 0)), (1, .long a1), (3, .int a2)]) hc (by decide) rfl dX7_simulate_38 (pc2 := 40) rfl ?_
    refine g_iconst (v := (0 : Int32)) hc (by decide) dX7_simulate_40 (pc2 := 41) rfl ?_
    refine g_istore (L1 := [(7, .int (0 : Int32)), (6, .int (0 : Int32)), (4, .long a1), (0, .ref (ad κ.1 19 0)), (1, .long a1), (3, .int a2)]) hc (by decide) rfl dX7_simulate_41 (pc2 := 43) rfl ?_
    obtain ⟨k1, hk1, hf⟩ := nm_ex hf
    have Hk1 : ∀ (y1 : Int32) (s4 : Mem), k1 y1 s4 = some (rR, sR) → G κ φ (QI κ φ (NV κ τ) sR rR rm_7_simulate.cells rm_7_simulate.slots) (NV κ τ) 0 0 s4 [(0, .ref (ad κ.1 19 0)), (6, .int y1)] 154 [] := by
      intro y1 s4 hf
      rw [hk1] at hf
      refine g_iconst (v := (0 : Int32)) hc (by decide) dX7_simulate_154 (pc2 := 155) rfl ?_
      refine g_istore (L1 := [(7, .int (0 : Int32)), (0, .ref (ad κ.1 19 0)), (6, .int y1)]) hc (by decide) rfl dX7_simulate_155 (pc2 := 157) rfl ?_
      refine g_iconst (v := (0 : Int32)) hc (by decide) dX7_simulate_157 (pc2 := 158) rfl ?_
      refine g_istore (L1 := [(8, .int (0 : Int32)), (7, .int (0 : Int32)), (0, .ref (ad κ.1 19 0)), (6, .int y1)]) hc (by decide) rfl dX7_simulate_158 (pc2 := 160) rfl ?_
      obtain ⟨k2, hk2, hf⟩ := nm_ex hf
      have Hk2 : ∀ (y2 : Int32) (s5 : Mem), k2 y2 s5 = some (rR, sR) → G κ φ (QI κ φ (NV κ τ) sR rR rm_7_simulate.cells rm_7_simulate.slots) (NV κ τ) 0 0 s5 [(0, .ref (ad κ.1 19 0)), (6, .int y1), (7, .int y2)] 196 [] := by
        intro y2 s5 hf
        rw [hk2] at hf
        refine g_sipush (v := (1000 : Int32)) hc (by decide) dX7_simulate_196 (pc2 := 199) rfl ?_
        refine g_iload hc 1 rfl dX7_simulate_199 (pc2 := 201) rfl ?_
        refine g_imul hc dX7_simulate_201 (pc2 := 202) rfl ?_
        refine g_bipush (v := (10 : Int32)) hc (by decide) dX7_simulate_202 (pc2 := 204) rfl ?_
        refine g_aload_n (i := 0) hc 0 rfl rfl dX7_simulate_204 (pc2 := 205) rfl ?_
        refine g_iconst (v := (0 : Int32)) hc (by decide) dX7_simulate_205 (pc2 := 206) rfl ?_
        obtain ⟨r2, s6, hp, hf⟩ := bd_some hf
        refine g_vI hc (k7_allOf hp) co_X7_143 (u19 (by decide)) rfl rfl (by decide) (by decide) (Nat.le_of_ble_eq_true rfl) dX7_simulate_206 (pc2 := 209) rfl ?_
        refine g_imul hc dX7_simulate_209 (pc2 := 210) rfl ?_
        refine g_iadd hc dX7_simulate_210 (pc2 := 211) rfl ?_
        refine g_iload hc 2 rfl dX7_simulate_211 (pc2 := 213) rfl ?_
        refine g_iadd hc dX7_simulate_213 (pc2 := 214) rfl ?_
        obtain ⟨x1, hx1, hf⟩ := nm_ex hf
        refine g_nmi hx1 ?_
        refine g_istore (L1 := [(8, .int x1), (0, .ref (ad κ.1 19 0)), (6, .int y1), (7, .int y2)]) hc (by decide) rfl dX7_simulate_214 (pc2 := 216) rfl ?_
        refine g_aload_n (i := 0) hc 1 rfl rfl dX7_simulate_216 (pc2 := 217) rfl ?_
        refine g_getr (q := ad κ.1 20 1) hc fo_X7_13 (u19 (by decide)) rfl dX7_simulate_217 (pc2 := 220) rfl ?_
        refine g_aload_n (i := 0) hc 1 rfl rfl dX7_simulate_220 (pc2 := 221) rfl ?_
        refine g_getr (q := ad κ.1 20 0) hc fo_X7_7 (u19 (by decide)) rfl dX7_simulate_221 (pc2 := 224) rfl ?_
        obtain ⟨s7, hp, hf⟩ := bv_some hf
        refine g_sV hc (k7_copy (by decide) (by decide) hp) co_X7_179 rfl rfl (by decide) (by decide) (Nat.le_of_ble_eq_true rfl) dX7_simulate_224 (pc2 := 227) rfl ?_
        refine g_iload hc 0 rfl dX7_simulate_227 (pc2 := 229) rfl ?_
        exact g_iret hc hf hr rfl (by decide) (by decide) dX7_simulate_229
      have LP_n1 : ∀ (n1 : Nat) (m1 : Int32) (m2 : Int32) (s8 : Mem), f7_simulate_l160 k2 n1 m1 m2 s8 = some (rR, sR) → G κ φ (QI κ φ (NV κ τ) sR rR rm_7_simulate.cells rm_7_simulate.slots) (NV κ τ) 0 0 s8 [(0, .ref (ad κ.1 19 0)), (6, .int y1), (7, .int m1), (8, .int m2)] 160 [] := by
        intro n1
        induction n1 with
        | zero => intro m1 m2 s8 hf; rw [f7_simulate_l160] at hf; cases hf
        | succ n1 ih_n1 =>
          intro m1 m2 s8 hf
          rw [f7_simulate_l160] at hf
          refine g_iload hc 3 rfl dX7_simulate_160 (pc2 := 162) rfl ?_
          refine g_aload_n (i := 0) hc 0 rfl rfl dX7_simulate_162 (pc2 := 163) rfl ?_
          refine g_getr (q := ad κ.1 20 0) hc fo_X7_7 (u19 (by decide)) rfl dX7_simulate_163 (pc2 := 166) rfl ?_
          refine g_iconst (v := (0 : Int32)) hc (by decide) dX7_simulate_166 (pc2 := 167) rfl ?_
          refine g_aldi hc 20 0 rfl (u20 (by decide)) (by decide) dX7_simulate_167 (pc2 := 168) rfl ?_
          refine g_icmp_ge hc 196 (by decide) dX7_simulate_168 (pc2 := 171) rfl (fun q => ?_) (fun q => ?_)
          · have hf := ite_t hf q
            refine g_sub [0, 1, 2] rfl ?_
            exact Hk2 _ _ hf
          · have hf := ite_f hf q
            refine g_iload hc 2 rfl dX7_simulate_171 (pc2 := 173) rfl ?_
            refine g_aload_n (i := 0) hc 0 rfl rfl dX7_simulate_173 (pc2 := 174) rfl ?_
            refine g_iload hc 3 rfl dX7_simulate_174 (pc2 := 176) rfl ?_
            obtain ⟨r3, s9, hp, hf⟩ := bd_some hf
            refine g_vI hc (k7_isBankrupt hp) co_X7_66 (u19 (by decide)) rfl rfl (by decide) (by decide) (Nat.le_of_ble_eq_true rfl) dX7_simulate_176 (pc2 := 179) rfl ?_
            obtain ⟨j1, hj1, hf⟩ := nm_ex hf
            have Hj1 : ∀ (y3 : Int32) (s10 : Mem), j1 y3 s10 = some (rR, sR) → G κ φ (QI κ φ (NV κ τ) sR rR rm_7_simulate.cells rm_7_simulate.slots) (NV κ τ) 0 0 s10 [(0, .ref (ad κ.1 19 0)), (6, .int y1), (8, .int m2)] 187 [.int y3, .int m1] := by
              intro y3 s10 hf
              rw [hj1] at hf
              refine g_iadd hc dX7_simulate_187 (pc2 := 188) rfl ?_
              obtain ⟨x2, hx2, hf⟩ := nm_ex hf
              refine g_nmi hx2 ?_
              refine g_istore (L1 := [(7, .int x2), (0, .ref (ad κ.1 19 0)), (6, .int y1), (8, .int m2)]) hc (by decide) rfl dX7_simulate_188 (pc2 := 190) rfl ?_
              obtain ⟨x3, hx3, hf⟩ := nm_ex hf
              refine g_iinc (v := x3) (L1 := [(8, .int x3), (7, .int x2), (0, .ref (ad κ.1 19 0)), (6, .int y1)]) hc 3 rfl (by rw [hx3]; rfl) (by decide) rfl dX7_simulate_190 (pc2 := 193) rfl ?_
              refine g_goto hc 160 (by decide) dX7_simulate_193 ?_
              refine g_sub [2, 3, 1, 0] rfl ?_
              exact ih_n1 _ _ _ hf
            refine g_if_eq hc 186 (by decide) dX7_simulate_179 (pc2 := 182) rfl (fun q => ?_) (fun q => ?_)
            · have hf := ite_t hf q
              refine g_iconst (v := (0 : Int32)) hc (by decide) dX7_simulate_186 (pc2 := 187) rfl ?_
              refine g_sub [0, 1, 3] rfl ?_
              exact Hj1 _ _ hf
            · have hf := ite_f hf q
              refine g_iconst (v := (1 : Int32)) hc (by decide) dX7_simulate_182 (pc2 := 183) rfl ?_
              refine g_goto hc 187 (by decide) dX7_simulate_183 ?_
              refine g_sub [0, 1, 3] rfl ?_
              exact Hj1 _ _ hf
      refine g_sub [2, 3, 1, 0] rfl ?_
      exact LP_n1 _ _ _ _ hf
    have LP_n2 : ∀ (n2 : Nat) (m3 : Int64) (m4 : Int32) (m5 : Int32) (s11 : Mem), f7_simulate_l43 a2 k1 n2 m3 m4 m5 s11 = some (rR, sR) → G κ φ (QI κ φ (NV κ τ) sR rR rm_7_simulate.cells rm_7_simulate.slots) (NV κ τ) 0 0 s11 [(0, .ref (ad κ.1 19 0)), (3, .int a2), (4, .long m3), (6, .int m4), (7, .int m5)] 43 [] := by
      intro n2
      induction n2 with
      | zero => intro m3 m4 m5 s11 hf; rw [f7_simulate_l43] at hf; cases hf
      | succ n2 ih_n2 =>
        intro m3 m4 m5 s11 hf
        rw [f7_simulate_l43] at hf
        refine g_iload hc 4 rfl dX7_simulate_43 (pc2 := 45) rfl ?_
        refine g_iload_n (i := 3) hc 1 rfl rfl dX7_simulate_45 (pc2 := 46) rfl ?_
        refine g_icmp_ge hc 154 (by decide) dX7_simulate_46 (pc2 := 49) rfl (fun q => ?_) (fun q => ?_)
        · have hf := ite_t hf q
          refine g_sub [0, 3] rfl ?_
          exact Hk1 _ _ hf
        · have hf := ite_f hf q
          refine g_lload hc 2 rfl dX7_simulate_49 (pc2 := 51) rfl ?_
          refine g_ldc2 (v := (6364136223846793005 : Int64)) hc (gwm 1215 (by decide +kernel) (by decide +kernel)) dX7_simulate_51 (pc2 := 54) rfl ?_
          refine g_lmul hc dX7_simulate_54 (pc2 := 55) rfl ?_
          refine g_ldc2 (v := (1442695040888963407 : Int64)) hc (gwm 1216 (by decide +kernel) (by decide +kernel)) dX7_simulate_55 (pc2 := 58) rfl ?_
          refine g_ladd hc dX7_simulate_58 (pc2 := 59) rfl ?_
          obtain ⟨x4, hx4, hf⟩ := nm_ex hf
          refine g_nml hx4 ?_
          refine g_lstore (L1 := [(4, .long x4), (0, .ref (ad κ.1 19 0)), (3, .int a2), (6, .int m4), (7, .int m5)]) hc (by decide) rfl dX7_simulate_59 (pc2 := 61) rfl ?_
          refine g_lload hc 0 rfl dX7_simulate_61 (pc2 := 63) rfl ?_
          refine g_bipush (v := (33 : Int32)) hc (by decide) dX7_simulate_63 (pc2 := 65) rfl ?_
          refine g_lushr hc dX7_simulate_65 (pc2 := 66) rfl ?_
          refine g_l2i hc dX7_simulate_66 (pc2 := 67) rfl ?_
          obtain ⟨x5, hx5, hf⟩ := nm_ex hf
          refine g_nmi hx5 ?_
          refine g_istore (L1 := [(8, .int x5), (4, .long x4), (0, .ref (ad κ.1 19 0)), (3, .int a2), (6, .int m4), (7, .int m5)]) hc (by decide) rfl dX7_simulate_67 (pc2 := 69) rfl ?_
          refine g_iload hc 0 rfl dX7_simulate_69 (pc2 := 71) rfl ?_
          refine g_iconst (v := (4 : Int32)) hc (by decide) dX7_simulate_71 (pc2 := 72) rfl ?_
          refine g_idiv hc (by decide) dX7_simulate_72 (pc2 := 73) rfl ?_
          refine g_aload_n (i := 0) hc 2 rfl rfl dX7_simulate_73 (pc2 := 74) rfl ?_
          refine g_getr (q := ad κ.1 20 0) hc fo_X7_7 (u19 (by decide)) rfl dX7_simulate_74 (pc2 := 77) rfl ?_
          refine g_iconst (v := (0 : Int32)) hc (by decide) dX7_simulate_77 (pc2 := 78) rfl ?_
          refine g_aldi hc 20 0 rfl (u20 (by decide)) (by decide) dX7_simulate_78 (pc2 := 79) rfl ?_
          obtain ⟨hg1, hf⟩ := gd_some hf
          refine g_irem hc (nz_of hg1) dX7_simulate_79 (pc2 := 80) rfl ?_
          obtain ⟨x6, hx6, hf⟩ := nm_ex hf
          refine g_nmi hx6 ?_
          refine g_istore (L1 := [(9, .int x6), (8, .int x5), (4, .long x4), (0, .ref (ad κ.1 19 0)), (3, .int a2), (6, .int m4), (7, .int m5)]) hc (by decide) rfl dX7_simulate_80 (pc2 := 82) rfl ?_
          refine g_iload hc 1 rfl dX7_simulate_82 (pc2 := 84) rfl ?_
          refine g_iconst (v := (3 : Int32)) hc (by decide) dX7_simulate_84 (pc2 := 85) rfl ?_
          refine g_irem hc (by decide) dX7_simulate_85 (pc2 := 86) rfl ?_
          obtain ⟨j2, hj2, hf⟩ := nm_ex hf
          have Hj2 : ∀ (s12 : Mem), j2 s12 = some (rR, sR) → G κ φ (QI κ φ (NV κ τ) sR rR rm_7_simulate.cells rm_7_simulate.slots) (NV κ τ) 0 0 s12 [(0, .ref (ad κ.1 19 0)), (3, .int a2), (4, .long x4), (6, .int m4), (7, .int m5)] 131 [] := by
            intro s12 hf
            rw [hj2] at hf
            refine g_iload hc 3 rfl dX7_simulate_131 (pc2 := 133) rfl ?_
            refine g_aload_n (i := 0) hc 0 rfl rfl dX7_simulate_133 (pc2 := 134) rfl ?_
            obtain ⟨r4, s13, hp, hf⟩ := bd_some hf
            refine g_vI hc (k7_tick hp) co_X7_95 (u19 (by decide)) rfl rfl (by decide) (by decide) (Nat.le_of_ble_eq_true rfl) dX7_simulate_134 (pc2 := 137) rfl ?_
            obtain ⟨j3, hj3, hf⟩ := nm_ex hf
            have Hj3 : ∀ (y4 : Int32) (s14 : Mem), j3 y4 s14 = some (rR, sR) → G κ φ (QI κ φ (NV κ τ) sR rR rm_7_simulate.cells rm_7_simulate.slots) (NV κ τ) 0 0 s14 [(0, .ref (ad κ.1 19 0)), (3, .int a2), (4, .long x4), (7, .int m5)] 145 [.int y4, .int m4] := by
              intro y4 s14 hf
              rw [hj3] at hf
              refine g_iadd hc dX7_simulate_145 (pc2 := 146) rfl ?_
              obtain ⟨x7, hx7, hf⟩ := nm_ex hf
              refine g_nmi hx7 ?_
              refine g_istore (L1 := [(6, .int x7), (0, .ref (ad κ.1 19 0)), (3, .int a2), (4, .long x4), (7, .int m5)]) hc (by decide) rfl dX7_simulate_146 (pc2 := 148) rfl ?_
              obtain ⟨x8, hx8, hf⟩ := nm_ex hf
              refine g_iinc (v := x8) (L1 := [(7, .int x8), (6, .int x7), (0, .ref (ad κ.1 19 0)), (3, .int a2), (4, .long x4)]) hc 4 rfl (by rw [hx8]; rfl) (by decide) rfl dX7_simulate_148 (pc2 := 151) rfl ?_
              refine g_goto hc 43 (by decide) dX7_simulate_151 ?_
              refine g_sub [2, 3, 4, 1, 0] rfl ?_
              exact ih_n2 _ _ _ _ hf
            refine g_if_ge hc 144 (by decide) dX7_simulate_137 (pc2 := 140) rfl (fun q => ?_) (fun q => ?_)
            · have hf := ite_t hf q
              refine g_iconst (v := (0 : Int32)) hc (by decide) dX7_simulate_144 (pc2 := 145) rfl ?_
              refine g_sub [0, 1, 2, 4] rfl ?_
              exact Hj3 _ _ hf
            · have hf := ite_f hf q
              refine g_iconst (v := (1 : Int32)) hc (by decide) dX7_simulate_140 (pc2 := 141) rfl ?_
              refine g_goto hc 145 (by decide) dX7_simulate_141 ?_
              refine g_sub [0, 1, 2, 4] rfl ?_
              exact Hj3 _ _ hf
          refine g_if_ne hc 131 (by decide) dX7_simulate_86 (pc2 := 89) rfl (fun q => ?_) (fun q => ?_)
          · have hf := ite_f hf q
            refine g_sub [3, 4, 2, 5, 6] rfl ?_
            exact Hj2 _ hf
          · have hf := ite_t hf q
            refine g_aload_n (i := 0) hc 3 rfl rfl dX7_simulate_89 (pc2 := 90) rfl ?_
            refine g_iload hc 0 rfl dX7_simulate_90 (pc2 := 92) rfl ?_
            obtain ⟨r5, s15, hp, hf⟩ := bd_some hf
            refine g_vI hc (k7_canSend hp) co_X7_171 (u19 (by decide)) rfl rfl (by decide) (by decide) (Nat.le_of_ble_eq_true rfl) dX7_simulate_92 (pc2 := 95) rfl ?_
            refine g_if_eq hc 131 (by decide) dX7_simulate_95 (pc2 := 98) rfl (fun q => ?_) (fun q => ?_)
            · have hf := ite_t hf q
              refine g_sub [3, 4, 2, 5, 6] rfl ?_
              exact Hj2 _ hf
            · have hf := ite_f hf q
              refine g_aload_n (i := 0) hc 3 rfl rfl dX7_simulate_98 (pc2 := 99) rfl ?_
              refine g_iload hc 0 rfl dX7_simulate_99 (pc2 := 101) rfl ?_
              refine g_iload hc 1 rfl dX7_simulate_101 (pc2 := 103) rfl ?_
              refine g_bipush (v := (64 : Int32)) hc (by decide) dX7_simulate_103 (pc2 := 105) rfl ?_
              refine g_idiv hc (by decide) dX7_simulate_105 (pc2 := 106) rfl ?_
              refine g_iconst (v := (4 : Int32)) hc (by decide) dX7_simulate_106 (pc2 := 107) rfl ?_
              refine g_irem hc (by decide) dX7_simulate_107 (pc2 := 108) rfl ?_
              refine g_iconst (v := (1 : Int32)) hc (by decide) dX7_simulate_108 (pc2 := 109) rfl ?_
              refine g_iload hc 1 rfl dX7_simulate_109 (pc2 := 111) rfl ?_
              refine g_sipush (v := (256 : Int32)) hc (by decide) dX7_simulate_111 (pc2 := 114) rfl ?_
              refine g_idiv hc (by decide) dX7_simulate_114 (pc2 := 115) rfl ?_
              refine g_bipush (v := (8 : Int32)) hc (by decide) dX7_simulate_115 (pc2 := 117) rfl ?_
              refine g_irem hc (by decide) dX7_simulate_117 (pc2 := 118) rfl ?_
              refine g_iadd hc dX7_simulate_118 (pc2 := 119) rfl ?_
              refine g_iload hc 1 rfl dX7_simulate_119 (pc2 := 121) rfl ?_
              refine g_sipush (v := (2048 : Int32)) hc (by decide) dX7_simulate_121 (pc2 := 124) rfl ?_
              refine g_idiv hc (by decide) dX7_simulate_124 (pc2 := 125) rfl ?_
              refine g_iconst (v := (2 : Int32)) hc (by decide) dX7_simulate_125 (pc2 := 126) rfl ?_
              refine g_irem hc (by decide) dX7_simulate_126 (pc2 := 127) rfl ?_
              obtain ⟨r6, s16, hp, hf⟩ := bd_some hf
              refine g_vI hc (k7_sends hp) co_X7_123 (u19 (by decide)) rfl rfl (by decide) (by decide) (Nat.le_of_ble_eq_true rfl) dX7_simulate_127 (pc2 := 130) rfl ?_
              refine g_pop hc rfl dX7_simulate_130 (pc2 := 131) rfl ?_
              refine g_sub [3, 4, 2, 5, 6] rfl ?_
              exact Hj2 _ hf
    refine g_sub [3, 5, 2, 1, 0] rfl ?_
    exact LP_n2 _ _ _ _ _ hf
  · have hf := ite_t hf q
    refine g_aload_n (i := 0) hc 0 rfl rfl dX7_simulate_17 (pc2 := 18) rfl ?_
    refine g_iconst (v := (1 : Int32)) hc (by decide) dX7_simulate_18 (pc2 := 19) rfl ?_
    obtain ⟨r7, s17, hp, hf⟩ := bd_some hf
    refine g_vI hc (k7_fails hp) co_X7_101 (u19 (by decide)) rfl rfl (by decide) (by decide) (Nat.le_of_ble_eq_true rfl) dX7_simulate_19 (pc2 := 22) rfl ?_
    exact g_iret hc hf hr rfl (by decide) (by decide) dX7_simulate_22
def f7_save_l23 (a1 : Int32) (k1 : Mem → Option (Int32 × Mem)) : Nat → Int32 → Mem → Option (Int32 × Mem)
  | 0, _, _ => none
  | n1 + 1, m1, s5 => (if (291 : Int32) ≤ m1 then k1 s5 else gd (ib m1 291) (gd (ib (((291 : Int32) * a1) + m1) 582) (nm (ms s5 22 0 (((291 : Int32) * a1) + m1).toNatClampNeg (s5 20 0 m1.toNatClampNeg)) fun s6 => nm (m1 + (1 : Int32)) fun x1 => f7_save_l23 a1 k1 n1 x1 s6)))
def f7_save (a1 : Int32) (s0 : Mem) : Option (Int32 × Mem) :=
  nm (ms s0 62 0 0 (0 : Int32)) fun s1 => bd (f7_in (a1.toInt64) (0 : Int64) (1 : Int64) s1) fun r1 s2 => (if r1 = (0 : Int32) then bd (f7_fails (1 : Int32) s2) fun r2 s7 => some (r2, s7) else nm (fun (s3 : Mem) => gd (ib a1 2) (nm (ms s3 23 0 a1.toNatClampNeg (zb (1 : Int32))) fun s4 => some (s4 20 0 ((2 : Int32)).toNatClampNeg, s4))) fun k1 => f7_save_l23 a1 k1 FU (0 : Int32) s2)
def rm_7_save : Room := { frames := 1, cells := 0, slots := 0, locals := 25 }
set_option maxHeartbeats 4000000 in
set_option maxRecDepth 100000 in
theorem k7_save {κ : Kx} {τ : Nat → Int64} {a1 : Int32} {s0 sR : Mem} {rR : Int32}  (hf : f7_save a1 s0 = some (rR, sR)) : CtI κ yX7_save cX7_save 3 (some .int) rm_7_save (NV κ τ) (NV κ τ) [.ref (ad κ.1 19 0), .int a1] s0 sR rR := by
  refine ct_I (by decide +kernel) (Nat.le_of_ble_eq_true rfl) (fun φ hc hr => ?_)
  have hc : Cx κ φ RX7 cX7_save 3 rm_7_save := hc
  show G κ φ (QI κ φ (NV κ τ) sR rR rm_7_save.cells rm_7_save.slots) (NV κ τ) 0 0 s0 [(0, .ref (ad κ.1 19 0)), (1, .int a1)] 0 []
  unfold f7_save at hf
  refine g_aload_n (i := 0) hc 0 rfl rfl dX7_save_0 (pc2 := 1) rfl ?_
  refine g_iconst (v := (0 : Int32)) hc (by decide) dX7_save_1 (pc2 := 2) rfl ?_
  obtain ⟨s1, hs1, hf⟩ := nm_ex hf
  refine g_puti hc (by decide) fo_X7_39 clO_19 poK_19_9 rfl (u19 (by decide)) rfl rfl dX7_save_2 (pc2 := 5) rfl ?_
  refine g_nms hs1 ?_
  refine g_iload_n (i := 1) hc 1 rfl rfl dX7_save_5 (pc2 := 6) rfl ?_
  refine g_i2l hc dX7_save_6 (pc2 := 7) rfl ?_
  refine g_lconst (v := (0 : Int64)) hc (by decide) dX7_save_7 (pc2 := 8) rfl ?_
  refine g_lconst (v := (1 : Int64)) hc (by decide) dX7_save_8 (pc2 := 9) rfl ?_
  obtain ⟨r1, s2, hp, hf⟩ := bd_some hf
  refine g_sI hc (k7_in hp) co_X7_46 rfl rfl (by decide) (by decide) (Nat.le_of_ble_eq_true rfl) dX7_save_9 (pc2 := 12) rfl ?_
  refine g_if_ne hc 21 (by decide) dX7_save_12 (pc2 := 15) rfl (fun q => ?_) (fun q => ?_)
  · have hf := ite_f hf q
    refine g_iconst (v := (0 : Int32)) hc (by decide) dX7_save_21 (pc2 := 22) rfl ?_
    refine g_istore_n (i := 2) (L1 := [(2, .int (0 : Int32)), (0, .ref (ad κ.1 19 0)), (1, .int a1)]) hc rfl (by decide) rfl dX7_save_22 (pc2 := 23) rfl ?_
    obtain ⟨k1, hk1, hf⟩ := nm_ex hf
    have Hk1 : ∀ (s3 : Mem), k1 s3 = some (rR, sR) → G κ φ (QI κ φ (NV κ τ) sR rR rm_7_save.cells rm_7_save.slots) (NV κ τ) 0 0 s3 [(0, .ref (ad κ.1 19 0)), (1, .int a1)] 54 [] := by
      intro s3 hf
      rw [hk1] at hf
      refine g_aload_n (i := 0) hc 0 rfl rfl dX7_save_54 (pc2 := 55) rfl ?_
      refine g_getr (q := ad κ.1 23 0) hc fo_X7_25 (u19 (by decide)) rfl dX7_save_55 (pc2 := 58) rfl ?_
      refine g_iload_n (i := 1) hc 1 rfl rfl dX7_save_58 (pc2 := 59) rfl ?_
      refine g_iconst (v := (1 : Int32)) hc (by decide) dX7_save_59 (pc2 := 60) rfl ?_
      obtain ⟨hg1, hf⟩ := gd_some hf
      obtain ⟨s4, hs4, hf⟩ := nm_ex hf
      refine g_astz hc 23 0 rfl (u23 (by decide)) hg1 dX7_save_60 (pc2 := 61) rfl ?_
      refine g_nms hs4 ?_
      refine g_aload_n (i := 0) hc 0 rfl rfl dX7_save_61 (pc2 := 62) rfl ?_
      refine g_getr (q := ad κ.1 20 0) hc fo_X7_7 (u19 (by decide)) rfl dX7_save_62 (pc2 := 65) rfl ?_
      refine g_iconst (v := (2 : Int32)) hc (by decide) dX7_save_65 (pc2 := 66) rfl ?_
      refine g_aldi hc 20 0 rfl (u20 (by decide)) (by decide) dX7_save_66 (pc2 := 67) rfl ?_
      exact g_iret hc hf hr rfl (by decide) (by decide) dX7_save_67
    have LP_n1 : ∀ (n1 : Nat) (m1 : Int32) (s5 : Mem), f7_save_l23 a1 k1 n1 m1 s5 = some (rR, sR) → G κ φ (QI κ φ (NV κ τ) sR rR rm_7_save.cells rm_7_save.slots) (NV κ τ) 0 0 s5 [(0, .ref (ad κ.1 19 0)), (1, .int a1), (2, .int m1)] 23 [] := by
      intro n1
      induction n1 with
      | zero => intro m1 s5 hf; rw [f7_save_l23] at hf; cases hf
      | succ n1 ih_n1 =>
        intro m1 s5 hf
        rw [f7_save_l23] at hf
        refine g_iload_n (i := 2) hc 2 rfl rfl dX7_save_23 (pc2 := 24) rfl ?_
        refine g_sipush (v := (291 : Int32)) hc (by decide) dX7_save_24 (pc2 := 27) rfl ?_
        refine g_icmp_ge hc 54 (by decide) dX7_save_27 (pc2 := 30) rfl (fun q => ?_) (fun q => ?_)
        · have hf := ite_t hf q
          refine g_sub [0, 1] rfl ?_
          exact Hk1 _ hf
        · have hf := ite_f hf q
          refine g_aload_n (i := 0) hc 0 rfl rfl dX7_save_30 (pc2 := 31) rfl ?_
          refine g_getr (q := ad κ.1 22 0) hc fo_X7_22 (u19 (by decide)) rfl dX7_save_31 (pc2 := 34) rfl ?_
          refine g_sipush (v := (291 : Int32)) hc (by decide) dX7_save_34 (pc2 := 37) rfl ?_
          refine g_iload_n (i := 1) hc 1 rfl rfl dX7_save_37 (pc2 := 38) rfl ?_
          refine g_imul hc dX7_save_38 (pc2 := 39) rfl ?_
          refine g_iload_n (i := 2) hc 2 rfl rfl dX7_save_39 (pc2 := 40) rfl ?_
          refine g_iadd hc dX7_save_40 (pc2 := 41) rfl ?_
          refine g_aload_n (i := 0) hc 0 rfl rfl dX7_save_41 (pc2 := 42) rfl ?_
          refine g_getr (q := ad κ.1 20 0) hc fo_X7_7 (u19 (by decide)) rfl dX7_save_42 (pc2 := 45) rfl ?_
          refine g_iload_n (i := 2) hc 2 rfl rfl dX7_save_45 (pc2 := 46) rfl ?_
          obtain ⟨hg2, hf⟩ := gd_some hf
          refine g_aldi hc 20 0 rfl (u20 (by decide)) hg2 dX7_save_46 (pc2 := 47) rfl ?_
          obtain ⟨hg3, hf⟩ := gd_some hf
          obtain ⟨s6, hs6, hf⟩ := nm_ex hf
          refine g_asti hc 22 0 rfl (u22 (by decide)) hg3 dX7_save_47 (pc2 := 48) rfl ?_
          refine g_nms hs6 ?_
          obtain ⟨x1, hx1, hf⟩ := nm_ex hf
          refine g_iinc (v := x1) (L1 := [(2, .int x1), (0, .ref (ad κ.1 19 0)), (1, .int a1)]) hc 2 rfl (by rw [hx1]; rfl) (by decide) rfl dX7_save_48 (pc2 := 51) rfl ?_
          refine g_goto hc 23 (by decide) dX7_save_51 ?_
          refine g_sub [1, 2, 0] rfl ?_
          exact ih_n1 _ _ hf
    refine g_sub [1, 2, 0] rfl ?_
    exact LP_n1 _ _ _ hf
  · have hf := ite_t hf q
    refine g_aload_n (i := 0) hc 0 rfl rfl dX7_save_15 (pc2 := 16) rfl ?_
    refine g_iconst (v := (1 : Int32)) hc (by decide) dX7_save_16 (pc2 := 17) rfl ?_
    obtain ⟨r2, s7, hp, hf⟩ := bd_some hf
    refine g_vI hc (k7_fails hp) co_X7_101 (u19 (by decide)) rfl rfl (by decide) (by decide) (Nat.le_of_ble_eq_true rfl) dX7_save_17 (pc2 := 20) rfl ?_
    exact g_iret hc hf hr rfl (by decide) (by decide) dX7_save_20
def f7_restore_l38 (a1 : Int32) (k1 : Mem → Option (Int32 × Mem)) : Nat → Int32 → Mem → Option (Int32 × Mem)
  | 0, _, _ => none
  | n1 + 1, m1, s5 => (if (291 : Int32) ≤ m1 then k1 s5 else gd (ib (((291 : Int32) * a1) + m1) 582) (gd (ib m1 291) (nm (ms s5 20 0 m1.toNatClampNeg (s5 22 0 (((291 : Int32) * a1) + m1).toNatClampNeg)) fun s6 => nm (m1 + (1 : Int32)) fun x1 => f7_restore_l38 a1 k1 n1 x1 s6)))
def f7_restore (a1 : Int32) (s0 : Mem) : Option (Int32 × Mem) :=
  nm (ms s0 62 0 0 (0 : Int32)) fun s1 => bd (f7_in (a1.toInt64) (0 : Int64) (1 : Int64) s1) fun r1 s2 => (if r1 = (0 : Int32) then bd (f7_fails (1 : Int32) s2) fun r3 s8 => some (r3, s8) else gd (ib a1 2) ((if (s2 23 0 a1.toNatClampNeg) = (0 : Int32) then bd (f7_fails (2 : Int32) s2) fun r2 s7 => some (r2, s7) else nm (fun (s3 : Mem) => nm (ms s3 60 0 0 (0 : Int32)) fun s4 => some (s4 20 0 ((2 : Int32)).toNatClampNeg, s4)) fun k1 => f7_restore_l38 a1 k1 FU (0 : Int32) s2)))
def rm_7_restore : Room := { frames := 1, cells := 0, slots := 0, locals := 25 }
set_option maxHeartbeats 4000000 in
set_option maxRecDepth 100000 in
theorem k7_restore {κ : Kx} {τ : Nat → Int64} {a1 : Int32} {s0 sR : Mem} {rR : Int32}  (hf : f7_restore a1 s0 = some (rR, sR)) : CtI κ yX7_restore cX7_restore 3 (some .int) rm_7_restore (NV κ τ) (NV κ τ) [.ref (ad κ.1 19 0), .int a1] s0 sR rR := by
  refine ct_I (by decide +kernel) (Nat.le_of_ble_eq_true rfl) (fun φ hc hr => ?_)
  have hc : Cx κ φ RX7 cX7_restore 3 rm_7_restore := hc
  show G κ φ (QI κ φ (NV κ τ) sR rR rm_7_restore.cells rm_7_restore.slots) (NV κ τ) 0 0 s0 [(0, .ref (ad κ.1 19 0)), (1, .int a1)] 0 []
  unfold f7_restore at hf
  refine g_aload_n (i := 0) hc 0 rfl rfl dX7_restore_0 (pc2 := 1) rfl ?_
  refine g_iconst (v := (0 : Int32)) hc (by decide) dX7_restore_1 (pc2 := 2) rfl ?_
  obtain ⟨s1, hs1, hf⟩ := nm_ex hf
  refine g_puti hc (by decide) fo_X7_39 clO_19 poK_19_9 rfl (u19 (by decide)) rfl rfl dX7_restore_2 (pc2 := 5) rfl ?_
  refine g_nms hs1 ?_
  refine g_iload_n (i := 1) hc 1 rfl rfl dX7_restore_5 (pc2 := 6) rfl ?_
  refine g_i2l hc dX7_restore_6 (pc2 := 7) rfl ?_
  refine g_lconst (v := (0 : Int64)) hc (by decide) dX7_restore_7 (pc2 := 8) rfl ?_
  refine g_lconst (v := (1 : Int64)) hc (by decide) dX7_restore_8 (pc2 := 9) rfl ?_
  obtain ⟨r1, s2, hp, hf⟩ := bd_some hf
  refine g_sI hc (k7_in hp) co_X7_46 rfl rfl (by decide) (by decide) (Nat.le_of_ble_eq_true rfl) dX7_restore_9 (pc2 := 12) rfl ?_
  refine g_if_ne hc 21 (by decide) dX7_restore_12 (pc2 := 15) rfl (fun q => ?_) (fun q => ?_)
  · have hf := ite_f hf q
    refine g_aload_n (i := 0) hc 0 rfl rfl dX7_restore_21 (pc2 := 22) rfl ?_
    refine g_getr (q := ad κ.1 23 0) hc fo_X7_25 (u19 (by decide)) rfl dX7_restore_22 (pc2 := 25) rfl ?_
    refine g_iload_n (i := 1) hc 1 rfl rfl dX7_restore_25 (pc2 := 26) rfl ?_
    obtain ⟨hg1, hf⟩ := gd_some hf
    refine g_aldz hc 23 0 rfl (u23 (by decide)) hg1 dX7_restore_26 (pc2 := 27) rfl ?_
    refine g_if_ne hc 36 (by decide) dX7_restore_27 (pc2 := 30) rfl (fun q => ?_) (fun q => ?_)
    · have hf := ite_f hf q
      refine g_iconst (v := (0 : Int32)) hc (by decide) dX7_restore_36 (pc2 := 37) rfl ?_
      refine g_istore_n (i := 2) (L1 := [(2, .int (0 : Int32)), (0, .ref (ad κ.1 19 0)), (1, .int a1)]) hc rfl (by decide) rfl dX7_restore_37 (pc2 := 38) rfl ?_
      obtain ⟨k1, hk1, hf⟩ := nm_ex hf
      have Hk1 : ∀ (s3 : Mem), k1 s3 = some (rR, sR) → G κ φ (QI κ φ (NV κ τ) sR rR rm_7_restore.cells rm_7_restore.slots) (NV κ τ) 0 0 s3 [(0, .ref (ad κ.1 19 0))] 69 [] := by
        intro s3 hf
        rw [hk1] at hf
        refine g_aload_n (i := 0) hc 0 rfl rfl dX7_restore_69 (pc2 := 70) rfl ?_
        refine g_iconst (v := (0 : Int32)) hc (by decide) dX7_restore_70 (pc2 := 71) rfl ?_
        obtain ⟨s4, hs4, hf⟩ := nm_ex hf
        refine g_puti hc (by decide) fo_X7_43 clO_19 poK_19_4 rfl (u19 (by decide)) rfl rfl dX7_restore_71 (pc2 := 74) rfl ?_
        refine g_nms hs4 ?_
        refine g_aload_n (i := 0) hc 0 rfl rfl dX7_restore_74 (pc2 := 75) rfl ?_
        refine g_getr (q := ad κ.1 20 0) hc fo_X7_7 (u19 (by decide)) rfl dX7_restore_75 (pc2 := 78) rfl ?_
        refine g_iconst (v := (2 : Int32)) hc (by decide) dX7_restore_78 (pc2 := 79) rfl ?_
        refine g_aldi hc 20 0 rfl (u20 (by decide)) (by decide) dX7_restore_79 (pc2 := 80) rfl ?_
        exact g_iret hc hf hr rfl (by decide) (by decide) dX7_restore_80
      have LP_n1 : ∀ (n1 : Nat) (m1 : Int32) (s5 : Mem), f7_restore_l38 a1 k1 n1 m1 s5 = some (rR, sR) → G κ φ (QI κ φ (NV κ τ) sR rR rm_7_restore.cells rm_7_restore.slots) (NV κ τ) 0 0 s5 [(0, .ref (ad κ.1 19 0)), (1, .int a1), (2, .int m1)] 38 [] := by
        intro n1
        induction n1 with
        | zero => intro m1 s5 hf; rw [f7_restore_l38] at hf; cases hf
        | succ n1 ih_n1 =>
          intro m1 s5 hf
          rw [f7_restore_l38] at hf
          refine g_iload_n (i := 2) hc 2 rfl rfl dX7_restore_38 (pc2 := 39) rfl ?_
          refine g_sipush (v := (291 : Int32)) hc (by decide) dX7_restore_39 (pc2 := 42) rfl ?_
          refine g_icmp_ge hc 69 (by decide) dX7_restore_42 (pc2 := 45) rfl (fun q => ?_) (fun q => ?_)
          · have hf := ite_t hf q
            refine g_sub [0] rfl ?_
            exact Hk1 _ hf
          · have hf := ite_f hf q
            refine g_aload_n (i := 0) hc 0 rfl rfl dX7_restore_45 (pc2 := 46) rfl ?_
            refine g_getr (q := ad κ.1 20 0) hc fo_X7_7 (u19 (by decide)) rfl dX7_restore_46 (pc2 := 49) rfl ?_
            refine g_iload_n (i := 2) hc 2 rfl rfl dX7_restore_49 (pc2 := 50) rfl ?_
            refine g_aload_n (i := 0) hc 0 rfl rfl dX7_restore_50 (pc2 := 51) rfl ?_
            refine g_getr (q := ad κ.1 22 0) hc fo_X7_22 (u19 (by decide)) rfl dX7_restore_51 (pc2 := 54) rfl ?_
            refine g_sipush (v := (291 : Int32)) hc (by decide) dX7_restore_54 (pc2 := 57) rfl ?_
            refine g_iload_n (i := 1) hc 1 rfl rfl dX7_restore_57 (pc2 := 58) rfl ?_
            refine g_imul hc dX7_restore_58 (pc2 := 59) rfl ?_
            refine g_iload_n (i := 2) hc 2 rfl rfl dX7_restore_59 (pc2 := 60) rfl ?_
            refine g_iadd hc dX7_restore_60 (pc2 := 61) rfl ?_
            obtain ⟨hg2, hf⟩ := gd_some hf
            refine g_aldi hc 22 0 rfl (u22 (by decide)) hg2 dX7_restore_61 (pc2 := 62) rfl ?_
            obtain ⟨hg3, hf⟩ := gd_some hf
            obtain ⟨s6, hs6, hf⟩ := nm_ex hf
            refine g_asti hc 20 0 rfl (u20 (by decide)) hg3 dX7_restore_62 (pc2 := 63) rfl ?_
            refine g_nms hs6 ?_
            obtain ⟨x1, hx1, hf⟩ := nm_ex hf
            refine g_iinc (v := x1) (L1 := [(2, .int x1), (0, .ref (ad κ.1 19 0)), (1, .int a1)]) hc 2 rfl (by rw [hx1]; rfl) (by decide) rfl dX7_restore_63 (pc2 := 66) rfl ?_
            refine g_goto hc 38 (by decide) dX7_restore_66 ?_
            refine g_sub [1, 2, 0] rfl ?_
            exact ih_n1 _ _ hf
      refine g_sub [1, 2, 0] rfl ?_
      exact LP_n1 _ _ _ hf
    · have hf := ite_t hf q
      refine g_aload_n (i := 0) hc 0 rfl rfl dX7_restore_30 (pc2 := 31) rfl ?_
      refine g_iconst (v := (2 : Int32)) hc (by decide) dX7_restore_31 (pc2 := 32) rfl ?_
      obtain ⟨r2, s7, hp, hf⟩ := bd_some hf
      refine g_vI hc (k7_fails hp) co_X7_101 (u19 (by decide)) rfl rfl (by decide) (by decide) (Nat.le_of_ble_eq_true rfl) dX7_restore_32 (pc2 := 35) rfl ?_
      exact g_iret hc hf hr rfl (by decide) (by decide) dX7_restore_35
  · have hf := ite_t hf q
    refine g_aload_n (i := 0) hc 0 rfl rfl dX7_restore_15 (pc2 := 16) rfl ?_
    refine g_iconst (v := (1 : Int32)) hc (by decide) dX7_restore_16 (pc2 := 17) rfl ?_
    obtain ⟨r3, s8, hp, hf⟩ := bd_some hf
    refine g_vI hc (k7_fails hp) co_X7_101 (u19 (by decide)) rfl rfl (by decide) (by decide) (Nat.le_of_ble_eq_true rfl) dX7_restore_17 (pc2 := 20) rfl ?_
    exact g_iret hc hf hr rfl (by decide) (by decide) dX7_restore_20
