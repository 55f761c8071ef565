def f4_empty  (s0 : Mem) : Option Mem :=
  nm (ms s0 52 0 0 (0 : Int32)) fun s1 => some s1
def rm_4_empty : Room := { frames := 0, cells := 0, slots := 0, locals := 0 }
set_option maxHeartbeats 4000000 in
set_option maxRecDepth 100000 in
theorem k4_empty {κ : Kx} {τ : Nat → Int64}  {s0 sR : Mem}  (hf : f4_empty s0 = some sR) : CtV κ yX4_empty cX4_empty 1 none rm_4_empty (NV κ τ) (NV κ τ) [.ref (ad κ.1 15 0)] s0 sR := by
  refine ct_V (by decide +kernel) (Nat.le_of_ble_eq_true rfl) (fun φ hc hr => ?_)
  have hc : Cx κ φ RX4 cX4_empty 1 rm_4_empty := hc
  show G κ φ (QV κ φ (NV κ τ) sR rm_4_empty.cells rm_4_empty.slots) (NV κ τ) 0 0 s0 [(0, .ref (ad κ.1 15 0))] 0 []
  unfold f4_empty at hf
  refine g_aload_n (i := 0) hc 0 rfl rfl dX4_empty_0 (pc2 := 1) rfl ?_
  refine g_iconst (v := (0 : Int32)) hc (by decide) dX4_empty_1 (pc2 := 2) rfl ?_
  obtain ⟨s1, hs1, hf⟩ := nm_ex hf
  refine g_puti hc (by decide) fo_X4_18 clO_15 poK_15_0 rfl (u15 (by decide)) rfl rfl dX4_empty_2 (pc2 := 5) rfl ?_
  refine g_nms hs1 ?_
  exact g_vret hc hf hr (by decide) (by decide) dX4_empty_5
def f4_remember (a1 : Nat) (s0 : Mem) : Option Mem :=
  (if (s0 53 0 0) < (0 : Int32) then some s0 else (if (s0 53 0 0) < (14 : Int32) then gd (ib (s0 53 0 0) 14) (bv (f2_copyFrom ((s0 53 0 0).toNatClampNeg + 1) a1 s0) fun s1 => nm (fun (y1 : Int32) (s2 : Mem) => nm (ms s2 53 0 0 y1) fun s3 => bd (fJ_min ((s3 52 0 0) + (1 : Int32)) (14 : Int32) s3) fun r1 s4 => nm (ms s4 52 0 0 r1) fun s5 => some s5) fun j1 => (if (14 : Int32) ≤ ((s1 53 0 0) + (1 : Int32)) then j1 (0 : Int32) s1 else j1 ((s1 53 0 0) + (1 : Int32)) s1)) else some s0))
def rm_4_remember : Room := { frames := 3, cells := 0, slots := 0, locals := 66 }
set_option maxHeartbeats 4000000 in
set_option maxRecDepth 100000 in
theorem k4_remember {κ : Kx} {τ : Nat → Int64} {a1 : Nat} {s0 sR : Mem} (h_a1 : a1 < 19) (hf : f4_remember a1 s0 = some sR) : CtV κ yX4_remember cX4_remember 2 none rm_4_remember (NV κ τ) (NV κ τ) [.ref (ad κ.1 15 0), .ref (ad κ.1 3 a1)] s0 sR := by
  refine ct_V (by decide +kernel) (Nat.le_of_ble_eq_true rfl) (fun φ hc hr => ?_)
  have hc : Cx κ φ RX4 cX4_remember 2 rm_4_remember := hc
  show G κ φ (QV κ φ (NV κ τ) sR rm_4_remember.cells rm_4_remember.slots) (NV κ τ) 0 0 s0 [(0, .ref (ad κ.1 15 0)), (1, .ref (ad κ.1 3 a1))] 0 []
  unfold f4_remember at hf
  refine g_aload_n (i := 0) hc 0 rfl rfl dX4_remember_0 (pc2 := 1) rfl ?_
  refine g_geti hc fo_X4_22 (u15 (by decide)) dX4_remember_1 (pc2 := 4) rfl ?_
  refine g_if_lt hc 16 (by decide) dX4_remember_4 (pc2 := 7) rfl (fun q => ?_) (fun q => ?_)
  · have hf := ite_t hf q
    exact g_vret hc hf hr (by decide) (by decide) dX4_remember_16
  · have hf := ite_f hf q
    refine g_aload_n (i := 0) hc 0 rfl rfl dX4_remember_7 (pc2 := 8) rfl ?_
    refine g_geti hc fo_X4_22 (u15 (by decide)) dX4_remember_8 (pc2 := 11) rfl ?_
    refine g_bipush (v := (14 : Int32)) hc (by decide) dX4_remember_11 (pc2 := 13) rfl ?_
    refine g_icmp_lt hc 17 (by decide) dX4_remember_13 (pc2 := 16) rfl (fun q => ?_) (fun q => ?_)
    · have hf := ite_t hf q
      refine g_aload_n (i := 0) hc 0 rfl rfl dX4_remember_17 (pc2 := 18) rfl ?_
      refine g_getr (q := ad κ.1 16 0) hc fo_X4_11 (u15 (by decide)) rfl dX4_remember_18 (pc2 := 21) rfl ?_
      refine g_aload_n (i := 0) hc 0 rfl rfl dX4_remember_21 (pc2 := 22) rfl ?_
      refine g_geti hc fo_X4_22 (u15 (by decide)) dX4_remember_22 (pc2 := 25) rfl ?_
      obtain ⟨hg1, hf⟩ := gd_some hf
      have ihg1 := ib_lt hg1
      refine g_aldr (q := ad κ.1 3 ((s0 53 0 0).toNatClampNeg + 1)) hc 16 0 (by decide) (by decide) (u16 (by decide)) hg1 rfl dX4_remember_25 (pc2 := 26) rfl ?_
      refine g_aload_n (i := 1) hc 1 rfl rfl dX4_remember_26 (pc2 := 27) rfl ?_
      obtain ⟨s1, hp, hf⟩ := bv_some hf
      refine g_vV hc (k2_copyFrom (by omega) (by omega) hp) co_X4_25 (u3 (by omega)) rfl rfl (by decide) (by decide) (Nat.le_of_ble_eq_true rfl) dX4_remember_27 (pc2 := 30) rfl ?_
      refine g_aload_n (i := 0) hc 0 rfl rfl dX4_remember_30 (pc2 := 31) rfl ?_
      refine g_aload_n (i := 0) hc 0 rfl rfl dX4_remember_31 (pc2 := 32) rfl ?_
      refine g_geti hc fo_X4_22 (u15 (by decide)) dX4_remember_32 (pc2 := 35) rfl ?_
      refine g_iconst (v := (1 : Int32)) hc (by decide) dX4_remember_35 (pc2 := 36) rfl ?_
      refine g_iadd hc dX4_remember_36 (pc2 := 37) rfl ?_
      refine g_bipush (v := (14 : Int32)) hc (by decide) dX4_remember_37 (pc2 := 39) rfl ?_
      obtain ⟨j1, hj1, hf⟩ := nm_ex hf
      have Hj1 : ∀ (y1 : Int32) (s2 : Mem), j1 y1 s2 = some sR → G κ φ (QV κ φ (NV κ τ) sR rm_4_remember.cells rm_4_remember.slots) (NV κ τ) 0 0 s2 [(0, .ref (ad κ.1 15 0))] 52 [.int y1, .ref (ad κ.1 15 0)] := by
        intro y1 s2 hf
        rw [hj1] at hf
        obtain ⟨s3, hs3, hf⟩ := nm_ex hf
        refine g_puti hc (by decide) fo_X4_22 clO_15 poK_15_1 rfl (u15 (by decide)) rfl rfl dX4_remember_52 (pc2 := 55) rfl ?_
        refine g_nms hs3 ?_
        refine g_aload_n (i := 0) hc 0 rfl rfl dX4_remember_55 (pc2 := 56) rfl ?_
        refine g_aload_n (i := 0) hc 0 rfl rfl dX4_remember_56 (pc2 := 57) rfl ?_
        refine g_geti hc fo_X4_18 (u15 (by decide)) dX4_remember_57 (pc2 := 60) rfl ?_
        refine g_iconst (v := (1 : Int32)) hc (by decide) dX4_remember_60 (pc2 := 61) rfl ?_
        refine g_iadd hc dX4_remember_61 (pc2 := 62) rfl ?_
        refine g_bipush (v := (14 : Int32)) hc (by decide) dX4_remember_62 (pc2 := 64) rfl ?_
        obtain ⟨r1, s4, hp, hf⟩ := bd_some hf
        refine g_sI hc (kJ_min hp) co_X4_29 rfl rfl (by decide) (by decide) (Nat.le_of_ble_eq_true rfl) dX4_remember_64 (pc2 := 67) rfl ?_
        obtain ⟨s5, hs5, hf⟩ := nm_ex hf
        refine g_puti hc (by decide) fo_X4_18 clO_15 poK_15_0 rfl (u15 (by decide)) rfl rfl dX4_remember_67 (pc2 := 70) rfl ?_
        refine g_nms hs5 ?_
        exact g_vret hc hf hr (by decide) (by decide) dX4_remember_70
      refine g_icmp_ge hc 51 (by decide) dX4_remember_39 (pc2 := 42) rfl (fun q => ?_) (fun q => ?_)
      · have hf := ite_t hf q
        refine g_iconst (v := (0 : Int32)) hc (by decide) dX4_remember_51 (pc2 := 52) rfl ?_
        refine g_sub [0] rfl ?_
        exact Hj1 _ _ hf
      · have hf := ite_f hf q
        refine g_aload_n (i := 0) hc 0 rfl rfl dX4_remember_42 (pc2 := 43) rfl ?_
        refine g_geti hc fo_X4_22 (u15 (by decide)) dX4_remember_43 (pc2 := 46) rfl ?_
        refine g_iconst (v := (1 : Int32)) hc (by decide) dX4_remember_46 (pc2 := 47) rfl ?_
        refine g_iadd hc dX4_remember_47 (pc2 := 48) rfl ?_
        refine g_goto hc 52 (by decide) dX4_remember_48 ?_
        refine g_sub [0] rfl ?_
        exact Hj1 _ _ hf
    · have hf := ite_f hf q
      exact g_vret hc hf hr (by decide) (by decide) dX4_remember_16
def f4_takeBack (a1 : Nat) (s0 : Mem) : Option Mem :=
  nm (fun (y1 : Int32) (s1 : Mem) => (if (s1 52 0 0) < (1 : Int32) then some s1 else (if y1 < (14 : Int32) then gd (ib y1 14) (bv (f2_copyFrom a1 (y1.toNatClampNeg + 1) s1) fun s2 => nm (ms s2 53 0 0 y1) fun s3 => nm (ms s3 52 0 0 ((s3 52 0 0) - (1 : Int32))) fun s4 => some s4) else some s1))) fun j1 => (if (s0 53 0 0) ≤ (0 : Int32) then j1 (13 : Int32) s0 else j1 ((s0 53 0 0) - (1 : Int32)) s0)
def rm_4_takeBack : Room := { frames := 3, cells := 0, slots := 0, locals := 66 }
set_option maxHeartbeats 4000000 in
set_option maxRecDepth 100000 in
theorem k4_takeBack {κ : Kx} {τ : Nat → Int64} {a1 : Nat} {s0 sR : Mem} (h_a1 : a1 < 19) (hf : f4_takeBack a1 s0 = some sR) : CtV κ yX4_takeBack cX4_takeBack 3 none rm_4_takeBack (NV κ τ) (NV κ τ) [.ref (ad κ.1 15 0), .ref (ad κ.1 3 a1)] s0 sR := by
  refine ct_V (by decide +kernel) (Nat.le_of_ble_eq_true rfl) (fun φ hc hr => ?_)
  have hc : Cx κ φ RX4 cX4_takeBack 3 rm_4_takeBack := hc
  show G κ φ (QV κ φ (NV κ τ) sR rm_4_takeBack.cells rm_4_takeBack.slots) (NV κ τ) 0 0 s0 [(0, .ref (ad κ.1 15 0)), (1, .ref (ad κ.1 3 a1))] 0 []
  unfold f4_takeBack at hf
  refine g_aload_n (i := 0) hc 0 rfl rfl dX4_takeBack_0 (pc2 := 1) rfl ?_
  refine g_geti hc fo_X4_22 (u15 (by decide)) dX4_takeBack_1 (pc2 := 4) rfl ?_
  obtain ⟨j1, hj1, hf⟩ := nm_ex hf
  have Hj1 : ∀ (y1 : Int32) (s1 : Mem), j1 y1 s1 = some sR → G κ φ (QV κ φ (NV κ τ) sR rm_4_takeBack.cells rm_4_takeBack.slots) (NV κ τ) 0 0 s1 [(0, .ref (ad κ.1 15 0)), (1, .ref (ad κ.1 3 a1))] 18 [.int y1] := by
    intro y1 s1 hf
    rw [hj1] at hf
    refine g_istore_n (i := 2) (L1 := [(2, .int y1), (0, .ref (ad κ.1 15 0)), (1, .ref (ad κ.1 3 a1))]) hc rfl (by decide) rfl dX4_takeBack_18 (pc2 := 19) rfl ?_
    refine g_aload_n (i := 0) hc 1 rfl rfl dX4_takeBack_19 (pc2 := 20) rfl ?_
    refine g_geti hc fo_X4_18 (u15 (by decide)) dX4_takeBack_20 (pc2 := 23) rfl ?_
    refine g_iconst (v := (1 : Int32)) hc (by decide) dX4_takeBack_23 (pc2 := 24) rfl ?_
    refine g_icmp_lt hc 33 (by decide) dX4_takeBack_24 (pc2 := 27) rfl (fun q => ?_) (fun q => ?_)
    · have hf := ite_t hf q
      exact g_vret hc hf hr (by decide) (by decide) dX4_takeBack_33
    · have hf := ite_f hf q
      refine g_iload_n (i := 2) hc 0 rfl rfl dX4_takeBack_27 (pc2 := 28) rfl ?_
      refine g_bipush (v := (14 : Int32)) hc (by decide) dX4_takeBack_28 (pc2 := 30) rfl ?_
      refine g_icmp_lt hc 34 (by decide) dX4_takeBack_30 (pc2 := 33) rfl (fun q => ?_) (fun q => ?_)
      · have hf := ite_t hf q
        refine g_aload_n (i := 1) hc 2 rfl rfl dX4_takeBack_34 (pc2 := 35) rfl ?_
        refine g_aload_n (i := 0) hc 1 rfl rfl dX4_takeBack_35 (pc2 := 36) rfl ?_
        refine g_getr (q := ad κ.1 16 0) hc fo_X4_11 (u15 (by decide)) rfl dX4_takeBack_36 (pc2 := 39) rfl ?_
        refine g_iload_n (i := 2) hc 0 rfl rfl dX4_takeBack_39 (pc2 := 40) rfl ?_
        obtain ⟨hg1, hf⟩ := gd_some hf
        have ihg1 := ib_lt hg1
        refine g_aldr (q := ad κ.1 3 (y1.toNatClampNeg + 1)) hc 16 0 (by decide) (by decide) (u16 (by decide)) hg1 rfl dX4_takeBack_40 (pc2 := 41) rfl ?_
        obtain ⟨s2, hp, hf⟩ := bv_some hf
        refine g_vV hc (k2_copyFrom (by omega) (by omega) hp) co_X4_25 (u3 (by omega)) rfl rfl (by decide) (by decide) (Nat.le_of_ble_eq_true rfl) dX4_takeBack_41 (pc2 := 44) rfl ?_
        refine g_aload_n (i := 0) hc 1 rfl rfl dX4_takeBack_44 (pc2 := 45) rfl ?_
        refine g_iload_n (i := 2) hc 0 rfl rfl dX4_takeBack_45 (pc2 := 46) rfl ?_
        obtain ⟨s3, hs3, hf⟩ := nm_ex hf
        refine g_puti hc (by decide) fo_X4_22 clO_15 poK_15_1 rfl (u15 (by decide)) rfl rfl dX4_takeBack_46 (pc2 := 49) rfl ?_
        refine g_nms hs3 ?_
        refine g_aload_n (i := 0) hc 1 rfl rfl dX4_takeBack_49 (pc2 := 50) rfl ?_
        refine g_dup hc rfl dX4_takeBack_50 (pc2 := 51) rfl ?_
        refine g_geti hc fo_X4_18 (u15 (by decide)) dX4_takeBack_51 (pc2 := 54) rfl ?_
        refine g_iconst (v := (1 : Int32)) hc (by decide) dX4_takeBack_54 (pc2 := 55) rfl ?_
        refine g_isub hc dX4_takeBack_55 (pc2 := 56) rfl ?_
        obtain ⟨s4, hs4, hf⟩ := nm_ex hf
        refine g_puti hc (by decide) fo_X4_18 clO_15 poK_15_0 rfl (u15 (by decide)) rfl rfl dX4_takeBack_56 (pc2 := 59) rfl ?_
        refine g_nms hs4 ?_
        exact g_vret hc hf hr (by decide) (by decide) dX4_takeBack_59
      · have hf := ite_f hf q
        exact g_vret hc hf hr (by decide) (by decide) dX4_takeBack_33
  refine g_if_le hc 16 (by decide) dX4_takeBack_4 (pc2 := 7) rfl (fun q => ?_) (fun q => ?_)
  · have hf := ite_t hf q
    refine g_bipush (v := (13 : Int32)) hc (by decide) dX4_takeBack_16 (pc2 := 18) rfl ?_
    exact Hj1 _ _ hf
  · have hf := ite_f hf q
    refine g_aload_n (i := 0) hc 0 rfl rfl dX4_takeBack_7 (pc2 := 8) rfl ?_
    refine g_geti hc fo_X4_22 (u15 (by decide)) dX4_takeBack_8 (pc2 := 11) rfl ?_
    refine g_iconst (v := (1 : Int32)) hc (by decide) dX4_takeBack_11 (pc2 := 12) rfl ?_
    refine g_isub hc dX4_takeBack_12 (pc2 := 13) rfl ?_
    refine g_goto hc 18 (by decide) dX4_takeBack_13 ?_
    exact Hj1 _ _ hf
