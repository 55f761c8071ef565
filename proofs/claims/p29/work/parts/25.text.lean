def f3_signAt (a1 : Int32) (s0 : Mem) : Option (Int32 × Mem) :=
  nm (fun (s1 : Mem) => gd (cok (0 : Int32)) (some ((0 : Int32), s1))) fun j1 => (if a1 < (0 : Int32) then j1 s0 else (if (s0 54 0 0) ≤ a1 then j1 s0 else (if (120 : Int32) ≤ a1 then j1 s0 else gd (ib a1 120) (gd (cok (s0 2 0 a1.toNatClampNeg)) (some (s0 2 0 a1.toNatClampNeg, s0))))))
def rm_3_signAt : Room := { frames := 0, cells := 0, slots := 0, locals := 0 }
set_option maxHeartbeats 4000000 in
set_option maxRecDepth 100000 in
theorem k3_signAt {κ : Kx} {τ : Nat → Int64} {a1 : Int32} {s0 sR : Mem} {rR : Int32}  (hf : f3_signAt a1 s0 = some (rR, sR)) : CtI κ yX3_signAt cX3_signAt 2 (some .char) rm_3_signAt (NV κ τ) (NV κ τ) [.ref (ad κ.1 1 0), .int a1] s0 sR rR := by
  refine ct_I (by decide +kernel) (Nat.le_of_ble_eq_true rfl) (fun φ hc hr => ?_)
  have hc : Cx κ φ RX3 cX3_signAt 2 rm_3_signAt := hc
  show G κ φ (QI κ φ (NV κ τ) sR rR rm_3_signAt.cells rm_3_signAt.slots) (NV κ τ) 0 0 s0 [(0, .ref (ad κ.1 1 0)), (1, .int a1)] 0 []
  unfold f3_signAt at hf
  refine g_iload_n (i := 1) hc 1 rfl rfl dX3_signAt_0 (pc2 := 1) rfl ?_
  obtain ⟨j1, hj1, hf⟩ := nm_ex hf
  have Hj1 : ∀ (s1 : Mem), j1 s1 = some (rR, sR) → G κ φ (QI κ φ (NV κ τ) sR rR rm_3_signAt.cells rm_3_signAt.slots) (NV κ τ) 0 0 s1 [] 27 [] := by
    intro s1 hf
    rw [hj1] at hf
    refine g_iconst (v := (0 : Int32)) hc (by decide) dX3_signAt_27 (pc2 := 28) rfl ?_
    obtain ⟨hg1, hf⟩ := gd_some hf
    exact g_iret hc hf hr (cok_n hg1) (by decide) (by decide) dX3_signAt_28
  refine g_if_lt hc 27 (by decide) dX3_signAt_1 (pc2 := 4) rfl (fun q => ?_) (fun q => ?_)
  · have hf := ite_t hf q
    refine g_sub [] rfl ?_
    exact Hj1 _ hf
  · have hf := ite_f hf q
    refine g_iload_n (i := 1) hc 1 rfl rfl dX3_signAt_4 (pc2 := 5) rfl ?_
    refine g_aload_n (i := 0) hc 0 rfl rfl dX3_signAt_5 (pc2 := 6) rfl ?_
    refine g_geti hc fo_X3_15 (u1 (by decide)) dX3_signAt_6 (pc2 := 9) rfl ?_
    refine g_icmp_ge hc 27 (by decide) dX3_signAt_9 (pc2 := 12) rfl (fun q => ?_) (fun q => ?_)
    · have hf := ite_t hf q
      refine g_sub [] rfl ?_
      exact Hj1 _ hf
    · have hf := ite_f hf q
      refine g_iload_n (i := 1) hc 1 rfl rfl dX3_signAt_12 (pc2 := 13) rfl ?_
      refine g_bipush (v := (120 : Int32)) hc (by decide) dX3_signAt_13 (pc2 := 15) rfl ?_
      refine g_icmp_ge hc 27 (by decide) dX3_signAt_15 (pc2 := 18) rfl (fun q => ?_) (fun q => ?_)
      · have hf := ite_t hf q
        refine g_sub [] rfl ?_
        exact Hj1 _ hf
      · have hf := ite_f hf q
        refine g_aload_n (i := 0) hc 0 rfl rfl dX3_signAt_18 (pc2 := 19) rfl ?_
        refine g_getr (q := ad κ.1 2 0) hc fo_X3_9 (u1 (by decide)) rfl dX3_signAt_19 (pc2 := 22) rfl ?_
        refine g_iload_n (i := 1) hc 1 rfl rfl dX3_signAt_22 (pc2 := 23) rfl ?_
        obtain ⟨hg2, hf⟩ := gd_some hf
        refine g_aldc hc 2 0 rfl (u2 (by decide)) hg2 dX3_signAt_23 (pc2 := 24) rfl ?_
        refine g_goto hc 28 (by decide) dX3_signAt_24 ?_
        obtain ⟨hg3, hf⟩ := gd_some hf
        exact g_iret hc hf hr (cok_n hg3) (by decide) (by decide) dX3_signAt_28
def f3_readOneOf (a1 : Int32) (a2 : Int32) (s0 : Mem) : Option (Int32 × Mem) :=
  bd (f3_signAt (s0 55 0 0) s0) fun r1 s1 => nm (fun (s2 : Mem) => nm (ms s2 56 0 0 (1 : Int32)) fun s3 => gd (cok r1) (some (r1, s3))) fun j1 => (if (s1 56 0 0) = (0 : Int32) then (if (s1 54 0 0) ≤ (s1 55 0 0) then j1 s1 else nm (fun (s4 : Mem) => nm (ms s4 55 0 0 ((s4 55 0 0) + (1 : Int32))) fun s5 => gd (cok r1) (some (r1, s5))) fun j2 => (if r1 = a1 then j2 s1 else (if r1 = a2 then j2 s1 else j1 s1))) else j1 s1)
def rm_3_readOneOf : Room := { frames := 1, cells := 0, slots := 0, locals := 21 }
set_option maxHeartbeats 4000000 in
set_option maxRecDepth 100000 in
theorem k3_readOneOf {κ : Kx} {τ : Nat → Int64} {a1 : Int32} {a2 : Int32} {s0 sR : Mem} {rR : Int32}  (hf : f3_readOneOf a1 a2 s0 = some (rR, sR)) : CtI κ yX3_readOneOf cX3_readOneOf 4 (some .char) rm_3_readOneOf (NV κ τ) (NV κ τ) [.ref (ad κ.1 1 0), .int a1, .int a2] s0 sR rR := by
  refine ct_I (by decide +kernel) (Nat.le_of_ble_eq_true rfl) (fun φ hc hr => ?_)
  have hc : Cx κ φ RX3 cX3_readOneOf 4 rm_3_readOneOf := hc
  show G κ φ (QI κ φ (NV κ τ) sR rR rm_3_readOneOf.cells rm_3_readOneOf.slots) (NV κ τ) 0 0 s0 [(0, .ref (ad κ.1 1 0)), (1, .int a1), (2, .int a2)] 0 []
  unfold f3_readOneOf at hf
  refine g_aload_n (i := 0) hc 0 rfl rfl dX3_readOneOf_0 (pc2 := 1) rfl ?_
  refine g_aload_n (i := 0) hc 0 rfl rfl dX3_readOneOf_1 (pc2 := 2) rfl ?_
  refine g_geti hc fo_X3_19 (u1 (by decide)) dX3_readOneOf_2 (pc2 := 5) rfl ?_
  obtain ⟨r1, s1, hp, hf⟩ := bd_some hf
  refine g_vI hc (k3_signAt hp) co_X3_47 (u1 (by decide)) rfl rfl (by decide) (by decide) (Nat.le_of_ble_eq_true rfl) dX3_readOneOf_5 (pc2 := 8) rfl ?_
  refine g_istore_n (i := 3) (L1 := [(3, .int r1), (0, .ref (ad κ.1 1 0)), (1, .int a1), (2, .int a2)]) hc rfl (by decide) rfl dX3_readOneOf_8 (pc2 := 9) rfl ?_
  refine g_aload_n (i := 0) hc 1 rfl rfl dX3_readOneOf_9 (pc2 := 10) rfl ?_
  refine g_geti hc fo_X3_22 (u1 (by decide)) dX3_readOneOf_10 (pc2 := 13) rfl ?_
  obtain ⟨j1, hj1, hf⟩ := nm_ex hf
  have Hj1 : ∀ (s2 : Mem), j1 s2 = some (rR, sR) → G κ φ (QI κ φ (NV κ τ) sR rR rm_3_readOneOf.cells rm_3_readOneOf.slots) (NV κ τ) 0 0 s2 [(0, .ref (ad κ.1 1 0)), (3, .int r1)] 50 [] := by
    intro s2 hf
    rw [hj1] at hf
    refine g_aload_n (i := 0) hc 0 rfl rfl dX3_readOneOf_50 (pc2 := 51) rfl ?_
    refine g_iconst (v := (1 : Int32)) hc (by decide) dX3_readOneOf_51 (pc2 := 52) rfl ?_
    obtain ⟨s3, hs3, hf⟩ := nm_ex hf
    refine g_puti hc (by decide) fo_X3_22 clO_1 poK_1_3 rfl (u1 (by decide)) rfl rfl dX3_readOneOf_52 (pc2 := 55) rfl ?_
    refine g_nms hs3 ?_
    refine g_iload_n (i := 3) hc 1 rfl rfl dX3_readOneOf_55 (pc2 := 56) rfl ?_
    obtain ⟨hg1, hf⟩ := gd_some hf
    exact g_iret hc hf hr (cok_n hg1) (by decide) (by decide) dX3_readOneOf_56
  refine g_if_ne hc 50 (by decide) dX3_readOneOf_13 (pc2 := 16) rfl (fun q => ?_) (fun q => ?_)
  · have hf := ite_f hf q
    refine g_sub [1, 0] rfl ?_
    exact Hj1 _ hf
  · have hf := ite_t hf q
    refine g_aload_n (i := 0) hc 1 rfl rfl dX3_readOneOf_16 (pc2 := 17) rfl ?_
    refine g_geti hc fo_X3_19 (u1 (by decide)) dX3_readOneOf_17 (pc2 := 20) rfl ?_
    refine g_aload_n (i := 0) hc 1 rfl rfl dX3_readOneOf_20 (pc2 := 21) rfl ?_
    refine g_geti hc fo_X3_15 (u1 (by decide)) dX3_readOneOf_21 (pc2 := 24) rfl ?_
    refine g_icmp_ge hc 50 (by decide) dX3_readOneOf_24 (pc2 := 27) rfl (fun q => ?_) (fun q => ?_)
    · have hf := ite_t hf q
      refine g_sub [1, 0] rfl ?_
      exact Hj1 _ hf
    · have hf := ite_f hf q
      refine g_iload_n (i := 3) hc 0 rfl rfl dX3_readOneOf_27 (pc2 := 28) rfl ?_
      refine g_iload_n (i := 1) hc 2 rfl rfl dX3_readOneOf_28 (pc2 := 29) rfl ?_
      obtain ⟨j2, hj2, hf⟩ := nm_ex hf
      have Hj2 : ∀ (s4 : Mem), j2 s4 = some (rR, sR) → G κ φ (QI κ φ (NV κ τ) sR rR rm_3_readOneOf.cells rm_3_readOneOf.slots) (NV κ τ) 0 0 s4 [(0, .ref (ad κ.1 1 0)), (3, .int r1)] 37 [] := by
        intro s4 hf
        rw [hj2] at hf
        refine g_aload_n (i := 0) hc 0 rfl rfl dX3_readOneOf_37 (pc2 := 38) rfl ?_
        refine g_dup hc rfl dX3_readOneOf_38 (pc2 := 39) rfl ?_
        refine g_geti hc fo_X3_19 (u1 (by decide)) dX3_readOneOf_39 (pc2 := 42) rfl ?_
        refine g_iconst (v := (1 : Int32)) hc (by decide) dX3_readOneOf_42 (pc2 := 43) rfl ?_
        refine g_iadd hc dX3_readOneOf_43 (pc2 := 44) rfl ?_
        obtain ⟨s5, hs5, hf⟩ := nm_ex hf
        refine g_puti hc (by decide) fo_X3_19 clO_1 poK_1_2 rfl (u1 (by decide)) rfl rfl dX3_readOneOf_44 (pc2 := 47) rfl ?_
        refine g_nms hs5 ?_
        refine g_goto hc 55 (by decide) dX3_readOneOf_47 ?_
        refine g_iload_n (i := 3) hc 1 rfl rfl dX3_readOneOf_55 (pc2 := 56) rfl ?_
        obtain ⟨hg2, hf⟩ := gd_some hf
        exact g_iret hc hf hr (cok_n hg2) (by decide) (by decide) dX3_readOneOf_56
      refine g_icmp_eq hc 37 (by decide) dX3_readOneOf_29 (pc2 := 32) rfl (fun q => ?_) (fun q => ?_)
      · have hf := ite_t hf q
        refine g_sub [1, 0] rfl ?_
        exact Hj2 _ hf
      · have hf := ite_f hf q
        refine g_iload_n (i := 3) hc 0 rfl rfl dX3_readOneOf_32 (pc2 := 33) rfl ?_
        refine g_iload_n (i := 2) hc 3 rfl rfl dX3_readOneOf_33 (pc2 := 34) rfl ?_
        refine g_icmp_ne hc 50 (by decide) dX3_readOneOf_34 (pc2 := 37) rfl (fun q => ?_) (fun q => ?_)
        · have hf := ite_f hf q
          refine g_sub [1, 0] rfl ?_
          exact Hj1 _ hf
        · have hf := ite_t hf q
          refine g_sub [1, 0] rfl ?_
          exact Hj2 _ hf
def f3_readDigit (a1 : Int32) (a2 : Int32) (s0 : Mem) : Option (Int32 × Mem) :=
  bd (f3_signAt (s0 55 0 0) s0) fun r1 s1 => nm (r1 - (48 : Int32)) fun x1 => nm (fun (s2 : Mem) => nm (ms s2 56 0 0 (1 : Int32)) fun s3 => some (a1, s3)) fun j1 => (if (s1 56 0 0) = (0 : Int32) then (if (s1 54 0 0) ≤ (s1 55 0 0) then j1 s1 else (if x1 < a1 then j1 s1 else (if a2 < x1 then j1 s1 else nm (ms s1 55 0 0 ((s1 55 0 0) + (1 : Int32))) fun s4 => some (x1, s4)))) else j1 s1)
def rm_3_readDigit : Room := { frames := 1, cells := 0, slots := 0, locals := 21 }
set_option maxHeartbeats 4000000 in
set_option maxRecDepth 100000 in
theorem k3_readDigit {κ : Kx} {τ : Nat → Int64} {a1 : Int32} {a2 : Int32} {s0 sR : Mem} {rR : Int32}  (hf : f3_readDigit a1 a2 s0 = some (rR, sR)) : CtI κ yX3_readDigit cX3_readDigit 4 (some .int) rm_3_readDigit (NV κ τ) (NV κ τ) [.ref (ad κ.1 1 0), .int a1, .int a2] s0 sR rR := by
  refine ct_I (by decide +kernel) (Nat.le_of_ble_eq_true rfl) (fun φ hc hr => ?_)
  have hc : Cx κ φ RX3 cX3_readDigit 4 rm_3_readDigit := hc
  show G κ φ (QI κ φ (NV κ τ) sR rR rm_3_readDigit.cells rm_3_readDigit.slots) (NV κ τ) 0 0 s0 [(0, .ref (ad κ.1 1 0)), (1, .int a1), (2, .int a2)] 0 []
  unfold f3_readDigit at hf
  refine g_aload_n (i := 0) hc 0 rfl rfl dX3_readDigit_0 (pc2 := 1) rfl ?_
  refine g_aload_n (i := 0) hc 0 rfl rfl dX3_readDigit_1 (pc2 := 2) rfl ?_
  refine g_geti hc fo_X3_19 (u1 (by decide)) dX3_readDigit_2 (pc2 := 5) rfl ?_
  obtain ⟨r1, s1, hp, hf⟩ := bd_some hf
  refine g_vI hc (k3_signAt hp) co_X3_47 (u1 (by decide)) rfl rfl (by decide) (by decide) (Nat.le_of_ble_eq_true rfl) dX3_readDigit_5 (pc2 := 8) rfl ?_
  refine g_bipush (v := (48 : Int32)) hc (by decide) dX3_readDigit_8 (pc2 := 10) rfl ?_
  refine g_isub hc dX3_readDigit_10 (pc2 := 11) rfl ?_
  obtain ⟨x1, hx1, hf⟩ := nm_ex hf
  refine g_nmi hx1 ?_
  refine g_istore_n (i := 3) (L1 := [(3, .int x1), (0, .ref (ad κ.1 1 0)), (1, .int a1), (2, .int a2)]) hc rfl (by decide) rfl dX3_readDigit_11 (pc2 := 12) rfl ?_
  refine g_aload_n (i := 0) hc 1 rfl rfl dX3_readDigit_12 (pc2 := 13) rfl ?_
  refine g_geti hc fo_X3_22 (u1 (by decide)) dX3_readDigit_13 (pc2 := 16) rfl ?_
  obtain ⟨j1, hj1, hf⟩ := nm_ex hf
  have Hj1 : ∀ (s2 : Mem), j1 s2 = some (rR, sR) → G κ φ (QI κ φ (NV κ τ) sR rR rm_3_readDigit.cells rm_3_readDigit.slots) (NV κ τ) 0 0 s2 [(0, .ref (ad κ.1 1 0)), (1, .int a1)] 52 [] := by
    intro s2 hf
    rw [hj1] at hf
    refine g_aload_n (i := 0) hc 0 rfl rfl dX3_readDigit_52 (pc2 := 53) rfl ?_
    refine g_iconst (v := (1 : Int32)) hc (by decide) dX3_readDigit_53 (pc2 := 54) rfl ?_
    obtain ⟨s3, hs3, hf⟩ := nm_ex hf
    refine g_puti hc (by decide) fo_X3_22 clO_1 poK_1_3 rfl (u1 (by decide)) rfl rfl dX3_readDigit_54 (pc2 := 57) rfl ?_
    refine g_nms hs3 ?_
    refine g_iload_n (i := 1) hc 1 rfl rfl dX3_readDigit_57 (pc2 := 58) rfl ?_
    exact g_iret hc hf hr rfl (by decide) (by decide) dX3_readDigit_58
  refine g_if_ne hc 52 (by decide) dX3_readDigit_16 (pc2 := 19) rfl (fun q => ?_) (fun q => ?_)
  · have hf := ite_f hf q
    refine g_sub [1, 2] rfl ?_
    exact Hj1 _ hf
  · have hf := ite_t hf q
    refine g_aload_n (i := 0) hc 1 rfl rfl dX3_readDigit_19 (pc2 := 20) rfl ?_
    refine g_geti hc fo_X3_19 (u1 (by decide)) dX3_readDigit_20 (pc2 := 23) rfl ?_
    refine g_aload_n (i := 0) hc 1 rfl rfl dX3_readDigit_23 (pc2 := 24) rfl ?_
    refine g_geti hc fo_X3_15 (u1 (by decide)) dX3_readDigit_24 (pc2 := 27) rfl ?_
    refine g_icmp_ge hc 52 (by decide) dX3_readDigit_27 (pc2 := 30) rfl (fun q => ?_) (fun q => ?_)
    · have hf := ite_t hf q
      refine g_sub [1, 2] rfl ?_
      exact Hj1 _ hf
    · have hf := ite_f hf q
      refine g_iload_n (i := 3) hc 0 rfl rfl dX3_readDigit_30 (pc2 := 31) rfl ?_
      refine g_iload_n (i := 1) hc 2 rfl rfl dX3_readDigit_31 (pc2 := 32) rfl ?_
      refine g_icmp_lt hc 52 (by decide) dX3_readDigit_32 (pc2 := 35) rfl (fun q => ?_) (fun q => ?_)
      · have hf := ite_t hf q
        refine g_sub [1, 2] rfl ?_
        exact Hj1 _ hf
      · have hf := ite_f hf q
        refine g_iload_n (i := 3) hc 0 rfl rfl dX3_readDigit_35 (pc2 := 36) rfl ?_
        refine g_iload_n (i := 2) hc 3 rfl rfl dX3_readDigit_36 (pc2 := 37) rfl ?_
        refine g_icmp_gt hc 52 (by decide) dX3_readDigit_37 (pc2 := 40) rfl (fun q => ?_) (fun q => ?_)
        · have hf := ite_t hf q
          refine g_sub [1, 2] rfl ?_
          exact Hj1 _ hf
        · have hf := ite_f hf q
          refine g_aload_n (i := 0) hc 1 rfl rfl dX3_readDigit_40 (pc2 := 41) rfl ?_
          refine g_dup hc rfl dX3_readDigit_41 (pc2 := 42) rfl ?_
          refine g_geti hc fo_X3_19 (u1 (by decide)) dX3_readDigit_42 (pc2 := 45) rfl ?_
          refine g_iconst (v := (1 : Int32)) hc (by decide) dX3_readDigit_45 (pc2 := 46) rfl ?_
          refine g_iadd hc dX3_readDigit_46 (pc2 := 47) rfl ?_
          obtain ⟨s4, hs4, hf⟩ := nm_ex hf
          refine g_puti hc (by decide) fo_X3_19 clO_1 poK_1_2 rfl (u1 (by decide)) rfl rfl dX3_readDigit_47 (pc2 := 50) rfl ?_
          refine g_nms hs4 ?_
          refine g_iload_n (i := 3) hc 0 rfl rfl dX3_readDigit_50 (pc2 := 51) rfl ?_
          exact g_iret hc hf hr rfl (by decide) (by decide) dX3_readDigit_51
def f3_readTwoDigits (a1 : Int32) (a2 : Int32) (s0 : Mem) : Option (Int32 × Mem) :=
  bd (f3_readDigit (a1 / (10 : Int32)) (a2 / (10 : Int32)) s0) fun r1 s1 => nm (fun (y1 : Int32) (s2 : Mem) => nm (fun (y2 : Int32) (s3 : Mem) => bd (f3_readDigit y1 y2 s3) fun r2 s4 => some (((10 : Int32) * r1) + r2, s4)) fun j2 => (if r1 = (a2 / (10 : Int32)) then j2 (a2 - a2 / (10 : Int32) * (10 : Int32)) s2 else j2 (9 : Int32) s2)) fun j1 => (if r1 = (a1 / (10 : Int32)) then j1 (a1 - a1 / (10 : Int32) * (10 : Int32)) s1 else j1 (0 : Int32) s1)
def rm_3_readTwoDigits : Room := { frames := 2, cells := 0, slots := 0, locals := 44 }
set_option maxHeartbeats 4000000 in
set_option maxRecDepth 100000 in
theorem k3_readTwoDigits {κ : Kx} {τ : Nat → Int64} {a1 : Int32} {a2 : Int32} {s0 sR : Mem} {rR : Int32}  (hf : f3_readTwoDigits a1 a2 s0 = some (rR, sR)) : CtI κ yX3_readTwoDigits cX3_readTwoDigits 6 (some .int) rm_3_readTwoDigits (NV κ τ) (NV κ τ) [.ref (ad κ.1 1 0), .int a1, .int a2] s0 sR rR := by
  refine ct_I (by decide +kernel) (Nat.le_of_ble_eq_true rfl) (fun φ hc hr => ?_)
  have hc : Cx κ φ RX3 cX3_readTwoDigits 6 rm_3_readTwoDigits := hc
  show G κ φ (QI κ φ (NV κ τ) sR rR rm_3_readTwoDigits.cells rm_3_readTwoDigits.slots) (NV κ τ) 0 0 s0 [(0, .ref (ad κ.1 1 0)), (1, .int a1), (2, .int a2)] 0 []
  unfold f3_readTwoDigits at hf
  refine g_aload_n (i := 0) hc 0 rfl rfl dX3_readTwoDigits_0 (pc2 := 1) rfl ?_
  refine g_iload_n (i := 1) hc 1 rfl rfl dX3_readTwoDigits_1 (pc2 := 2) rfl ?_
  refine g_bipush (v := (10 : Int32)) hc (by decide) dX3_readTwoDigits_2 (pc2 := 4) rfl ?_
  refine g_idiv hc (by decide) dX3_readTwoDigits_4 (pc2 := 5) rfl ?_
  refine g_iload_n (i := 2) hc 2 rfl rfl dX3_readTwoDigits_5 (pc2 := 6) rfl ?_
  refine g_bipush (v := (10 : Int32)) hc (by decide) dX3_readTwoDigits_6 (pc2 := 8) rfl ?_
  refine g_idiv hc (by decide) dX3_readTwoDigits_8 (pc2 := 9) rfl ?_
  obtain ⟨r1, s1, hp, hf⟩ := bd_some hf
  refine g_vI hc (k3_readDigit hp) co_X3_30 (u1 (by decide)) rfl rfl (by decide) (by decide) (Nat.le_of_ble_eq_true rfl) dX3_readTwoDigits_9 (pc2 := 12) rfl ?_
  refine g_istore_n (i := 3) (L1 := [(3, .int r1), (0, .ref (ad κ.1 1 0)), (1, .int a1), (2, .int a2)]) hc rfl (by decide) rfl dX3_readTwoDigits_12 (pc2 := 13) rfl ?_
  refine g_iload_n (i := 3) hc 0 rfl rfl dX3_readTwoDigits_13 (pc2 := 14) rfl ?_
  refine g_iload_n (i := 1) hc 2 rfl rfl dX3_readTwoDigits_14 (pc2 := 15) rfl ?_
  refine g_bipush (v := (10 : Int32)) hc (by decide) dX3_readTwoDigits_15 (pc2 := 17) rfl ?_
  refine g_idiv hc (by decide) dX3_readTwoDigits_17 (pc2 := 18) rfl ?_
  obtain ⟨j1, hj1, hf⟩ := nm_ex hf
  have Hj1 : ∀ (y1 : Int32) (s2 : Mem), j1 y1 s2 = some (rR, sR) → G κ φ (QI κ φ (NV κ τ) sR rR rm_3_readTwoDigits.cells rm_3_readTwoDigits.slots) (NV κ τ) 0 0 s2 [(0, .ref (ad κ.1 1 0)), (2, .int a2), (3, .int r1)] 29 [.int y1] := by
    intro y1 s2 hf
    rw [hj1] at hf
    refine g_istore (L1 := [(4, .int y1), (0, .ref (ad κ.1 1 0)), (2, .int a2), (3, .int r1)]) hc (by decide) rfl dX3_readTwoDigits_29 (pc2 := 31) rfl ?_
    refine g_iload_n (i := 3) hc 3 rfl rfl dX3_readTwoDigits_31 (pc2 := 32) rfl ?_
    refine g_iload_n (i := 2) hc 2 rfl rfl dX3_readTwoDigits_32 (pc2 := 33) rfl ?_
    refine g_bipush (v := (10 : Int32)) hc (by decide) dX3_readTwoDigits_33 (pc2 := 35) rfl ?_
    refine g_idiv hc (by decide) dX3_readTwoDigits_35 (pc2 := 36) rfl ?_
    obtain ⟨j2, hj2, hf⟩ := nm_ex hf
    have Hj2 : ∀ (y2 : Int32) (s3 : Mem), j2 y2 s3 = some (rR, sR) → G κ φ (QI κ φ (NV κ τ) sR rR rm_3_readTwoDigits.cells rm_3_readTwoDigits.slots) (NV κ τ) 0 0 s3 [(0, .ref (ad κ.1 1 0)), (3, .int r1), (4, .int y1)] 48 [.int y2] := by
      intro y2 s3 hf
      rw [hj2] at hf
      refine g_istore (L1 := [(5, .int y2), (0, .ref (ad κ.1 1 0)), (3, .int r1), (4, .int y1)]) hc (by decide) rfl dX3_readTwoDigits_48 (pc2 := 50) rfl ?_
      refine g_bipush (v := (10 : Int32)) hc (by decide) dX3_readTwoDigits_50 (pc2 := 52) rfl ?_
      refine g_iload_n (i := 3) hc 2 rfl rfl dX3_readTwoDigits_52 (pc2 := 53) rfl ?_
      refine g_imul hc dX3_readTwoDigits_53 (pc2 := 54) rfl ?_
      refine g_aload_n (i := 0) hc 1 rfl rfl dX3_readTwoDigits_54 (pc2 := 55) rfl ?_
      refine g_iload hc 3 rfl dX3_readTwoDigits_55 (pc2 := 57) rfl ?_
      refine g_iload hc 0 rfl dX3_readTwoDigits_57 (pc2 := 59) rfl ?_
      obtain ⟨r2, s4, hp, hf⟩ := bd_some hf
      refine g_vI hc (k3_readDigit hp) co_X3_30 (u1 (by decide)) rfl rfl (by decide) (by decide) (Nat.le_of_ble_eq_true rfl) dX3_readTwoDigits_59 (pc2 := 62) rfl ?_
      refine g_iadd hc dX3_readTwoDigits_62 (pc2 := 63) rfl ?_
      exact g_iret hc hf hr rfl (by decide) (by decide) dX3_readTwoDigits_63
    refine g_icmp_ne hc 46 (by decide) dX3_readTwoDigits_36 (pc2 := 39) rfl (fun q => ?_) (fun q => ?_)
    · have hf := ite_f hf q
      refine g_bipush (v := (9 : Int32)) hc (by decide) dX3_readTwoDigits_46 (pc2 := 48) rfl ?_
      refine g_sub [1, 3, 0] rfl ?_
      exact Hj2 _ _ hf
    · have hf := ite_t hf q
      refine g_iload_n (i := 2) hc 2 rfl rfl dX3_readTwoDigits_39 (pc2 := 40) rfl ?_
      refine g_bipush (v := (10 : Int32)) hc (by decide) dX3_readTwoDigits_40 (pc2 := 42) rfl ?_
      refine g_irem hc (by decide) dX3_readTwoDigits_42 (pc2 := 43) rfl ?_
      refine g_goto hc 48 (by decide) dX3_readTwoDigits_43 ?_
      refine g_sub [1, 3, 0] rfl ?_
      exact Hj2 _ _ hf
  refine g_icmp_ne hc 28 (by decide) dX3_readTwoDigits_18 (pc2 := 21) rfl (fun q => ?_) (fun q => ?_)
  · have hf := ite_f hf q
    refine g_iconst (v := (0 : Int32)) hc (by decide) dX3_readTwoDigits_28 (pc2 := 29) rfl ?_
    refine g_sub [1, 3, 0] rfl ?_
    exact Hj1 _ _ hf
  · have hf := ite_t hf q
    refine g_iload_n (i := 1) hc 2 rfl rfl dX3_readTwoDigits_21 (pc2 := 22) rfl ?_
    refine g_bipush (v := (10 : Int32)) hc (by decide) dX3_readTwoDigits_22 (pc2 := 24) rfl ?_
    refine g_irem hc (by decide) dX3_readTwoDigits_24 (pc2 := 25) rfl ?_
    refine g_goto hc 29 (by decide) dX3_readTwoDigits_25 ?_
    refine g_sub [1, 3, 0] rfl ?_
    exact Hj1 _ _ hf
def f3_readOwner (a1 : Nat) (s0 : Mem) : Option Mem :=
  bd (f3_readTwoDigits (0 : Int32) ((s0 31 a1 0) - (1 : Int32)) s0) fun r1 s1 => bd (f3_readDigit (0 : Int32) ((s1 30 a1 0) - (1 : Int32)) s1) fun r2 s2 => (if (s2 56 0 0) = (0 : Int32) then bd (f2_hasSlot a1 r1 s2) fun r3 s3 => (if r3 = (0 : Int32) then some s3 else gd (ib r1 16) (nm (ms s3 4 a1 r1.toNatClampNeg r2) fun s4 => some s4)) else some s2)
def rm_3_readOwner : Room := { frames := 3, cells := 0, slots := 0, locals := 69 }
set_option maxHeartbeats 4000000 in
set_option maxRecDepth 100000 in
theorem k3_readOwner {κ : Kx} {τ : Nat → Int64} {a1 : Nat} {s0 sR : Mem} (h_a1 : a1 < 19) (hf : f3_readOwner a1 s0 = some sR) : CtV κ yX3_readOwner cX3_readOwner 4 none rm_3_readOwner (NV κ τ) (NV κ τ) [.ref (ad κ.1 1 0), .ref (ad κ.1 3 a1)] s0 sR := by
  refine ct_V (by decide +kernel) (Nat.le_of_ble_eq_true rfl) (fun φ hc hr => ?_)
  have hc : Cx κ φ RX3 cX3_readOwner 4 rm_3_readOwner := hc
  show G κ φ (QV κ φ (NV κ τ) sR rm_3_readOwner.cells rm_3_readOwner.slots) (NV κ τ) 0 0 s0 [(0, .ref (ad κ.1 1 0)), (1, .ref (ad κ.1 3 a1))] 0 []
  unfold f3_readOwner at hf
  refine g_aload_n (i := 0) hc 0 rfl rfl dX3_readOwner_0 (pc2 := 1) rfl ?_
  refine g_iconst (v := (0 : Int32)) hc (by decide) dX3_readOwner_1 (pc2 := 2) rfl ?_
  refine g_aload_n (i := 1) hc 1 rfl rfl dX3_readOwner_2 (pc2 := 3) rfl ?_
  refine g_geti hc fo_X3_66 (u3 (by omega)) dX3_readOwner_3 (pc2 := 6) rfl ?_
  refine g_iconst (v := (1 : Int32)) hc (by decide) dX3_readOwner_6 (pc2 := 7) rfl ?_
  refine g_isub hc dX3_readOwner_7 (pc2 := 8) rfl ?_
  obtain ⟨r1, s1, hp, hf⟩ := bd_some hf
  refine g_vI hc (k3_readTwoDigits hp) co_X3_34 (u1 (by decide)) rfl rfl (by decide) (by decide) (Nat.le_of_ble_eq_true rfl) dX3_readOwner_8 (pc2 := 11) rfl ?_
  refine g_istore_n (i := 2) (L1 := [(2, .int r1), (0, .ref (ad κ.1 1 0)), (1, .ref (ad κ.1 3 a1))]) hc rfl (by decide) rfl dX3_readOwner_11 (pc2 := 12) rfl ?_
  refine g_aload_n (i := 0) hc 1 rfl rfl dX3_readOwner_12 (pc2 := 13) rfl ?_
  refine g_iconst (v := (0 : Int32)) hc (by decide) dX3_readOwner_13 (pc2 := 14) rfl ?_
  refine g_aload_n (i := 1) hc 2 rfl rfl dX3_readOwner_14 (pc2 := 15) rfl ?_
  refine g_geti hc fo_X3_69 (u3 (by omega)) dX3_readOwner_15 (pc2 := 18) rfl ?_
  refine g_iconst (v := (1 : Int32)) hc (by decide) dX3_readOwner_18 (pc2 := 19) rfl ?_
  refine g_isub hc dX3_readOwner_19 (pc2 := 20) rfl ?_
  obtain ⟨r2, s2, hp, hf⟩ := bd_some hf
  refine g_vI hc (k3_readDigit hp) co_X3_30 (u1 (by decide)) rfl rfl (by decide) (by decide) (Nat.le_of_ble_eq_true rfl) dX3_readOwner_20 (pc2 := 23) rfl ?_
  refine g_istore_n (i := 3) (L1 := [(3, .int r2), (2, .int r1), (0, .ref (ad κ.1 1 0)), (1, .ref (ad κ.1 3 a1))]) hc rfl (by decide) rfl dX3_readOwner_23 (pc2 := 24) rfl ?_
  refine g_aload_n (i := 0) hc 2 rfl rfl dX3_readOwner_24 (pc2 := 25) rfl ?_
  refine g_geti hc fo_X3_22 (u1 (by decide)) dX3_readOwner_25 (pc2 := 28) rfl ?_
  refine g_if_ne hc 46 (by decide) dX3_readOwner_28 (pc2 := 31) rfl (fun q => ?_) (fun q => ?_)
  · have hf := ite_f hf q
    exact g_vret hc hf hr (by decide) (by decide) dX3_readOwner_46
  · have hf := ite_t hf q
    refine g_aload_n (i := 1) hc 3 rfl rfl dX3_readOwner_31 (pc2 := 32) rfl ?_
    refine g_iload_n (i := 2) hc 1 rfl rfl dX3_readOwner_32 (pc2 := 33) rfl ?_
    obtain ⟨r3, s3, hp, hf⟩ := bd_some hf
    refine g_vI hc (k2_hasSlot (by omega) hp) co_X3_72 (u3 (by omega)) rfl rfl (by decide) (by decide) (Nat.le_of_ble_eq_true rfl) dX3_readOwner_33 (pc2 := 36) rfl ?_
    refine g_if_eq hc 46 (by decide) dX3_readOwner_36 (pc2 := 39) rfl (fun q => ?_) (fun q => ?_)
    · have hf := ite_t hf q
      exact g_vret hc hf hr (by decide) (by decide) dX3_readOwner_46
    · have hf := ite_f hf q
      refine g_aload_n (i := 1) hc 3 rfl rfl dX3_readOwner_39 (pc2 := 40) rfl ?_
      refine g_getr (q := ad κ.1 4 a1) hc fo_X3_76 (u3 (by omega)) rfl dX3_readOwner_40 (pc2 := 43) rfl ?_
      refine g_iload_n (i := 2) hc 1 rfl rfl dX3_readOwner_43 (pc2 := 44) rfl ?_
      refine g_iload_n (i := 3) hc 0 rfl rfl dX3_readOwner_44 (pc2 := 45) rfl ?_
      obtain ⟨hg1, hf⟩ := gd_some hf
      obtain ⟨s4, hs4, hf⟩ := nm_ex hf
      refine g_asti hc 4 a1 rfl (u4 (by omega)) hg1 dX3_readOwner_45 (pc2 := 46) rfl ?_
      refine g_nms hs4 ?_
      exact g_vret hc hf hr (by decide) (by decide) dX3_readOwner_46
def f3_readLatency (a1 : Nat) (s0 : Mem) : Option Mem :=
  bd (f3_readDigit (0 : Int32) (3 : Int32) s0) fun r1 s1 => bd (f3_readDigit (0 : Int32) (9 : Int32) s1) fun r2 s2 => (if (s2 56 0 0) = (0 : Int32) then (if r1 < (0 : Int32) then some s2 else (if (4 : Int32) ≤ r1 then some s2 else gd (ib r1 4) (nm (ms s2 5 a1 r1.toNatClampNeg r2) fun s3 => some s3))) else some s2)
def rm_3_readLatency : Room := { frames := 2, cells := 0, slots := 0, locals := 44 }
set_option maxHeartbeats 4000000 in
set_option maxRecDepth 100000 in
theorem k3_readLatency {κ : Kx} {τ : Nat → Int64} {a1 : Nat} {s0 sR : Mem} (h_a1 : a1 < 19) (hf : f3_readLatency a1 s0 = some sR) : CtV κ yX3_readLatency cX3_readLatency 4 none rm_3_readLatency (NV κ τ) (NV κ τ) [.ref (ad κ.1 1 0), .ref (ad κ.1 3 a1)] s0 sR := by
  refine ct_V (by decide +kernel) (Nat.le_of_ble_eq_true rfl) (fun φ hc hr => ?_)
  have hc : Cx κ φ RX3 cX3_readLatency 4 rm_3_readLatency := hc
  show G κ φ (QV κ φ (NV κ τ) sR rm_3_readLatency.cells rm_3_readLatency.slots) (NV κ τ) 0 0 s0 [(0, .ref (ad κ.1 1 0)), (1, .ref (ad κ.1 3 a1))] 0 []
  unfold f3_readLatency at hf
  refine g_aload_n (i := 0) hc 0 rfl rfl dX3_readLatency_0 (pc2 := 1) rfl ?_
  refine g_iconst (v := (0 : Int32)) hc (by decide) dX3_readLatency_1 (pc2 := 2) rfl ?_
  refine g_iconst (v := (3 : Int32)) hc (by decide) dX3_readLatency_2 (pc2 := 3) rfl ?_
  obtain ⟨r1, s1, hp, hf⟩ := bd_some hf
  refine g_vI hc (k3_readDigit hp) co_X3_30 (u1 (by decide)) rfl rfl (by decide) (by decide) (Nat.le_of_ble_eq_true rfl) dX3_readLatency_3 (pc2 := 6) rfl ?_
  refine g_istore_n (i := 2) (L1 := [(2, .int r1), (0, .ref (ad κ.1 1 0)), (1, .ref (ad κ.1 3 a1))]) hc rfl (by decide) rfl dX3_readLatency_6 (pc2 := 7) rfl ?_
  refine g_aload_n (i := 0) hc 1 rfl rfl dX3_readLatency_7 (pc2 := 8) rfl ?_
  refine g_iconst (v := (0 : Int32)) hc (by decide) dX3_readLatency_8 (pc2 := 9) rfl ?_
  refine g_bipush (v := (9 : Int32)) hc (by decide) dX3_readLatency_9 (pc2 := 11) rfl ?_
  obtain ⟨r2, s2, hp, hf⟩ := bd_some hf
  refine g_vI hc (k3_readDigit hp) co_X3_30 (u1 (by decide)) rfl rfl (by decide) (by decide) (Nat.le_of_ble_eq_true rfl) dX3_readLatency_11 (pc2 := 14) rfl ?_
  refine g_istore_n (i := 3) (L1 := [(3, .int r2), (2, .int r1), (0, .ref (ad κ.1 1 0)), (1, .ref (ad κ.1 3 a1))]) hc rfl (by decide) rfl dX3_readLatency_14 (pc2 := 15) rfl ?_
  refine g_aload_n (i := 0) hc 2 rfl rfl dX3_readLatency_15 (pc2 := 16) rfl ?_
  refine g_geti hc fo_X3_22 (u1 (by decide)) dX3_readLatency_16 (pc2 := 19) rfl ?_
  refine g_if_ne hc 38 (by decide) dX3_readLatency_19 (pc2 := 22) rfl (fun q => ?_) (fun q => ?_)
  · have hf := ite_f hf q
    exact g_vret hc hf hr (by decide) (by decide) dX3_readLatency_38
  · have hf := ite_t hf q
    refine g_iload_n (i := 2) hc 1 rfl rfl dX3_readLatency_22 (pc2 := 23) rfl ?_
    refine g_if_lt hc 38 (by decide) dX3_readLatency_23 (pc2 := 26) rfl (fun q => ?_) (fun q => ?_)
    · have hf := ite_t hf q
      exact g_vret hc hf hr (by decide) (by decide) dX3_readLatency_38
    · have hf := ite_f hf q
      refine g_iload_n (i := 2) hc 1 rfl rfl dX3_readLatency_26 (pc2 := 27) rfl ?_
      refine g_iconst (v := (4 : Int32)) hc (by decide) dX3_readLatency_27 (pc2 := 28) rfl ?_
      refine g_icmp_ge hc 38 (by decide) dX3_readLatency_28 (pc2 := 31) rfl (fun q => ?_) (fun q => ?_)
      · have hf := ite_t hf q
        exact g_vret hc hf hr (by decide) (by decide) dX3_readLatency_38
      · have hf := ite_f hf q
        refine g_aload_n (i := 1) hc 3 rfl rfl dX3_readLatency_31 (pc2 := 32) rfl ?_
        refine g_getr (q := ad κ.1 5 a1) hc fo_X3_80 (u3 (by omega)) rfl dX3_readLatency_32 (pc2 := 35) rfl ?_
        refine g_iload_n (i := 2) hc 1 rfl rfl dX3_readLatency_35 (pc2 := 36) rfl ?_
        refine g_iload_n (i := 3) hc 0 rfl rfl dX3_readLatency_36 (pc2 := 37) rfl ?_
        obtain ⟨hg1, hf⟩ := gd_some hf
        obtain ⟨s3, hs3, hf⟩ := nm_ex hf
        refine g_asti hc 5 a1 rfl (u5 (by omega)) hg1 dX3_readLatency_37 (pc2 := 38) rfl ?_
        refine g_nms hs3 ?_
        exact g_vret hc hf hr (by decide) (by decide) dX3_readLatency_38
def f3_readCredit (a1 : Nat) (s0 : Mem) : Option Mem :=
  bd (f3_readDigit (0 : Int32) (9 : Int32) s0) fun r1 s1 => (if (s1 56 0 0) = (0 : Int32) then nm (ms s1 34 a1 0 r1) fun s2 => some s2 else some s1)
def rm_3_readCredit : Room := { frames := 2, cells := 0, slots := 0, locals := 44 }
set_option maxHeartbeats 4000000 in
set_option maxRecDepth 100000 in
theorem k3_readCredit {κ : Kx} {τ : Nat → Int64} {a1 : Nat} {s0 sR : Mem} (h_a1 : a1 < 19) (hf : f3_readCredit a1 s0 = some sR) : CtV κ yX3_readCredit cX3_readCredit 3 none rm_3_readCredit (NV κ τ) (NV κ τ) [.ref (ad κ.1 1 0), .ref (ad κ.1 3 a1)] s0 sR := by
  refine ct_V (by decide +kernel) (Nat.le_of_ble_eq_true rfl) (fun φ hc hr => ?_)
  have hc : Cx κ φ RX3 cX3_readCredit 3 rm_3_readCredit := hc
  show G κ φ (QV κ φ (NV κ τ) sR rm_3_readCredit.cells rm_3_readCredit.slots) (NV κ τ) 0 0 s0 [(0, .ref (ad κ.1 1 0)), (1, .ref (ad κ.1 3 a1))] 0 []
  unfold f3_readCredit at hf
  refine g_aload_n (i := 0) hc 0 rfl rfl dX3_readCredit_0 (pc2 := 1) rfl ?_
  refine g_iconst (v := (0 : Int32)) hc (by decide) dX3_readCredit_1 (pc2 := 2) rfl ?_
  refine g_bipush (v := (9 : Int32)) hc (by decide) dX3_readCredit_2 (pc2 := 4) rfl ?_
  obtain ⟨r1, s1, hp, hf⟩ := bd_some hf
  refine g_vI hc (k3_readDigit hp) co_X3_30 (u1 (by decide)) rfl rfl (by decide) (by decide) (Nat.le_of_ble_eq_true rfl) dX3_readCredit_4 (pc2 := 7) rfl ?_
  refine g_istore_n (i := 2) (L1 := [(2, .int r1), (0, .ref (ad κ.1 1 0)), (1, .ref (ad κ.1 3 a1))]) hc rfl (by decide) rfl dX3_readCredit_7 (pc2 := 8) rfl ?_
  refine g_aload_n (i := 0) hc 1 rfl rfl dX3_readCredit_8 (pc2 := 9) rfl ?_
  refine g_geti hc fo_X3_22 (u1 (by decide)) dX3_readCredit_9 (pc2 := 12) rfl ?_
  refine g_if_ne hc 20 (by decide) dX3_readCredit_12 (pc2 := 15) rfl (fun q => ?_) (fun q => ?_)
  · have hf := ite_f hf q
    exact g_vret hc hf hr (by decide) (by decide) dX3_readCredit_20
  · have hf := ite_t hf q
    refine g_aload_n (i := 1) hc 2 rfl rfl dX3_readCredit_15 (pc2 := 16) rfl ?_
    refine g_iload_n (i := 2) hc 0 rfl rfl dX3_readCredit_16 (pc2 := 17) rfl ?_
    obtain ⟨s2, hs2, hf⟩ := nm_ex hf
    refine g_puti hc (by decide) fo_X3_83 clO_3 poK_3_4 rfl (u3 (by omega)) rfl rfl dX3_readCredit_17 (pc2 := 20) rfl ?_
    refine g_nms hs2 ?_
    exact g_vret hc hf hr (by decide) (by decide) dX3_readCredit_20
def f3_refuseLast  (s0 : Mem) : Option Mem :=
  nm (ms s0 55 0 0 ((s0 55 0 0) - (1 : Int32))) fun s1 => nm (ms s1 56 0 0 (1 : Int32)) fun s2 => some s2
def rm_3_refuseLast : Room := { frames := 0, cells := 0, slots := 0, locals := 0 }
set_option maxHeartbeats 4000000 in
set_option maxRecDepth 100000 in
theorem k3_refuseLast {κ : Kx} {τ : Nat → Int64}  {s0 sR : Mem}  (hf : f3_refuseLast s0 = some sR) : CtV κ yX3_refuseLast cX3_refuseLast 1 none rm_3_refuseLast (NV κ τ) (NV κ τ) [.ref (ad κ.1 1 0)] s0 sR := by
  refine ct_V (by decide +kernel) (Nat.le_of_ble_eq_true rfl) (fun φ hc hr => ?_)
  have hc : Cx κ φ RX3 cX3_refuseLast 1 rm_3_refuseLast := hc
  show G κ φ (QV κ φ (NV κ τ) sR rm_3_refuseLast.cells rm_3_refuseLast.slots) (NV κ τ) 0 0 s0 [(0, .ref (ad κ.1 1 0))] 0 []
  unfold f3_refuseLast at hf
  refine g_aload_n (i := 0) hc 0 rfl rfl dX3_refuseLast_0 (pc2 := 1) rfl ?_
  refine g_dup hc rfl dX3_refuseLast_1 (pc2 := 2) rfl ?_
  refine g_geti hc fo_X3_19 (u1 (by decide)) dX3_refuseLast_2 (pc2 := 5) rfl ?_
  refine g_iconst (v := (1 : Int32)) hc (by decide) dX3_refuseLast_5 (pc2 := 6) rfl ?_
  refine g_isub hc dX3_refuseLast_6 (pc2 := 7) rfl ?_
  obtain ⟨s1, hs1, hf⟩ := nm_ex hf
  refine g_puti hc (by decide) fo_X3_19 clO_1 poK_1_2 rfl (u1 (by decide)) rfl rfl dX3_refuseLast_7 (pc2 := 10) rfl ?_
  refine g_nms hs1 ?_
  refine g_aload_n (i := 0) hc 0 rfl rfl dX3_refuseLast_10 (pc2 := 11) rfl ?_
  refine g_iconst (v := (1 : Int32)) hc (by decide) dX3_refuseLast_11 (pc2 := 12) rfl ?_
  obtain ⟨s2, hs2, hf⟩ := nm_ex hf
  refine g_puti hc (by decide) fo_X3_22 clO_1 poK_1_3 rfl (u1 (by decide)) rfl rfl dX3_refuseLast_12 (pc2 := 15) rfl ?_
  refine g_nms hs2 ?_
  exact g_vret hc hf hr (by decide) (by decide) dX3_refuseLast_15
def f3_readBurst (a1 : Nat) (s0 : Mem) : Option Mem :=
  bd (f3_readDigit (0 : Int32) ((s0 30 a1 0) - (1 : Int32)) s0) fun r1 s1 => (if (s1 56 0 0) = (0 : Int32) then bd (f2_hasMaster a1 r1 s1) fun r2 s2 => (if r2 = (0 : Int32) then some s2 else gd (ib r1 6) (bd (f1_isFull (6 * a1 + r1.toNatClampNeg) s2) fun r3 s3 => nm (fun (s4 : Mem) => bd (f3_readDigit (0 : Int32) (3 : Int32) s4) fun r4 s5 => bd (f3_readDigit (1 : Int32) (8 : Int32) s5) fun r5 s6 => bd (f3_readOneOf (43 : Int32) (45 : Int32) s6) fun r6 s7 => (if (s7 56 0 0) = (0 : Int32) then nm (fun (y1 : Int32) (s8 : Mem) => bv (f1_add (6 * a1 + r1.toNatClampNeg) r4 r5 y1 s8) fun s9 => some s9) fun j2 => (if r6 = (43 : Int32) then j2 (1 : Int32) s7 else j2 (0 : Int32) s7) else some s7)) fun j1 => (if r3 = (0 : Int32) then j1 s3 else bv (f3_refuseLast s3) fun s10 => j1 s10))) else some s1)
def rm_3_readBurst : Room := { frames := 2, cells := 0, slots := 0, locals := 44 }
set_option maxHeartbeats 4000000 in
set_option maxRecDepth 100000 in
theorem k3_readBurst {κ : Kx} {τ : Nat → Int64} {a1 : Nat} {s0 sR : Mem} (h_a1 : a1 < 19) (hf : f3_readBurst a1 s0 = some sR) : CtV κ yX3_readBurst cX3_readBurst 7 none rm_3_readBurst (NV κ τ) (NV κ τ) [.ref (ad κ.1 1 0), .ref (ad κ.1 3 a1)] s0 sR := by
  refine ct_V (by decide +kernel) (Nat.le_of_ble_eq_true rfl) (fun φ hc hr => ?_)
  have hc : Cx κ φ RX3 cX3_readBurst 7 rm_3_readBurst := hc
  show G κ φ (QV κ φ (NV κ τ) sR rm_3_readBurst.cells rm_3_readBurst.slots) (NV κ τ) 0 0 s0 [(0, .ref (ad κ.1 1 0)), (1, .ref (ad κ.1 3 a1))] 0 []
  unfold f3_readBurst at hf
  refine g_aload_n (i := 0) hc 0 rfl rfl dX3_readBurst_0 (pc2 := 1) rfl ?_
  refine g_iconst (v := (0 : Int32)) hc (by decide) dX3_readBurst_1 (pc2 := 2) rfl ?_
  refine g_aload_n (i := 1) hc 1 rfl rfl dX3_readBurst_2 (pc2 := 3) rfl ?_
  refine g_geti hc fo_X3_69 (u3 (by omega)) dX3_readBurst_3 (pc2 := 6) rfl ?_
  refine g_iconst (v := (1 : Int32)) hc (by decide) dX3_readBurst_6 (pc2 := 7) rfl ?_
  refine g_isub hc dX3_readBurst_7 (pc2 := 8) rfl ?_
  obtain ⟨r1, s1, hp, hf⟩ := bd_some hf
  refine g_vI hc (k3_readDigit hp) co_X3_30 (u1 (by decide)) rfl rfl (by decide) (by decide) (Nat.le_of_ble_eq_true rfl) dX3_readBurst_8 (pc2 := 11) rfl ?_
  refine g_istore_n (i := 2) (L1 := [(2, .int r1), (0, .ref (ad κ.1 1 0)), (1, .ref (ad κ.1 3 a1))]) hc rfl (by decide) rfl dX3_readBurst_11 (pc2 := 12) rfl ?_
  refine g_aload_n (i := 0) hc 1 rfl rfl dX3_readBurst_12 (pc2 := 13) rfl ?_
  refine g_geti hc fo_X3_22 (u1 (by decide)) dX3_readBurst_13 (pc2 := 16) rfl ?_
  refine g_if_ne hc 27 (by decide) dX3_readBurst_16 (pc2 := 19) rfl (fun q => ?_) (fun q => ?_)
  · have hf := ite_f hf q
    exact g_vret hc hf hr (by decide) (by decide) dX3_readBurst_27
  · have hf := ite_t hf q
    refine g_aload_n (i := 1) hc 2 rfl rfl dX3_readBurst_19 (pc2 := 20) rfl ?_
    refine g_iload_n (i := 2) hc 0 rfl rfl dX3_readBurst_20 (pc2 := 21) rfl ?_
    obtain ⟨r2, s2, hp, hf⟩ := bd_some hf
    refine g_vI hc (k2_hasMaster (by omega) hp) co_X3_86 (u3 (by omega)) rfl rfl (by decide) (by decide) (Nat.le_of_ble_eq_true rfl) dX3_readBurst_21 (pc2 := 24) rfl ?_
    refine g_if_ne hc 28 (by decide) dX3_readBurst_24 (pc2 := 27) rfl (fun q => ?_) (fun q => ?_)
    · have hf := ite_f hf q
      refine g_aload_n (i := 1) hc 2 rfl rfl dX3_readBurst_28 (pc2 := 29) rfl ?_
      refine g_getr (q := ad κ.1 6 a1) hc fo_X3_89 (u3 (by omega)) rfl dX3_readBurst_29 (pc2 := 32) rfl ?_
      refine g_iload_n (i := 2) hc 0 rfl rfl dX3_readBurst_32 (pc2 := 33) rfl ?_
      obtain ⟨hg1, hf⟩ := gd_some hf
      have ihg1 := ib_lt hg1
      refine g_aldr (q := ad κ.1 7 (6 * a1 + r1.toNatClampNeg)) hc 6 a1 (by decide) (by decide) (u6 (by omega)) hg1 rfl dX3_readBurst_33 (pc2 := 34) rfl ?_
      refine g_getr (q := ad κ.1 9 (6 * a1 + r1.toNatClampNeg)) hc fo_X3_93 (u7 (by omega)) rfl dX3_readBurst_34 (pc2 := 37) rfl ?_
      refine g_astore_n (i := 3) (L1 := [(3, .ref (ad κ.1 9 (6 * a1 + r1.toNatClampNeg))), (2, .int r1), (0, .ref (ad κ.1 1 0)), (1, .ref (ad κ.1 3 a1))]) hc rfl (by decide) rfl dX3_readBurst_37 (pc2 := 38) rfl ?_
      refine g_aload_n (i := 3) hc 0 rfl rfl dX3_readBurst_38 (pc2 := 39) rfl ?_
      obtain ⟨r3, s3, hp, hf⟩ := bd_some hf
      refine g_vI hc (k1_isFull (by omega) hp) co_X3_99 (u9 (by omega)) rfl rfl (by decide) (by decide) (Nat.le_of_ble_eq_true rfl) dX3_readBurst_39 (pc2 := 42) rfl ?_
      obtain ⟨j1, hj1, hf⟩ := nm_ex hf
      have Hj1 : ∀ (s4 : Mem), j1 s4 = some sR → G κ φ (QV κ φ (NV κ τ) sR rm_3_readBurst.cells rm_3_readBurst.slots) (NV κ τ) 0 0 s4 [(0, .ref (ad κ.1 1 0)), (3, .ref (ad κ.1 9 (6 * a1 + r1.toNatClampNeg)))] 49 [] := by
        intro s4 hf
        rw [hj1] at hf
        refine g_aload_n (i := 0) hc 0 rfl rfl dX3_readBurst_49 (pc2 := 50) rfl ?_
        refine g_iconst (v := (0 : Int32)) hc (by decide) dX3_readBurst_50 (pc2 := 51) rfl ?_
        refine g_iconst (v := (3 : Int32)) hc (by decide) dX3_readBurst_51 (pc2 := 52) rfl ?_
        obtain ⟨r4, s5, hp, hf⟩ := bd_some hf
        refine g_vI hc (k3_readDigit hp) co_X3_30 (u1 (by decide)) rfl rfl (by decide) (by decide) (Nat.le_of_ble_eq_true rfl) dX3_readBurst_52 (pc2 := 55) rfl ?_
        refine g_istore (L1 := [(4, .int r4), (0, .ref (ad κ.1 1 0)), (3, .ref (ad κ.1 9 (6 * a1 + r1.toNatClampNeg)))]) hc (by decide) rfl dX3_readBurst_55 (pc2 := 57) rfl ?_
        refine g_aload_n (i := 0) hc 1 rfl rfl dX3_readBurst_57 (pc2 := 58) rfl ?_
        refine g_iconst (v := (1 : Int32)) hc (by decide) dX3_readBurst_58 (pc2 := 59) rfl ?_
        refine g_bipush (v := (8 : Int32)) hc (by decide) dX3_readBurst_59 (pc2 := 61) rfl ?_
        obtain ⟨r5, s6, hp, hf⟩ := bd_some hf
        refine g_vI hc (k3_readDigit hp) co_X3_30 (u1 (by decide)) rfl rfl (by decide) (by decide) (Nat.le_of_ble_eq_true rfl) dX3_readBurst_61 (pc2 := 64) rfl ?_
        refine g_istore (L1 := [(5, .int r5), (4, .int r4), (0, .ref (ad κ.1 1 0)), (3, .ref (ad κ.1 9 (6 * a1 + r1.toNatClampNeg)))]) hc (by decide) rfl dX3_readBurst_64 (pc2 := 66) rfl ?_
        refine g_aload_n (i := 0) hc 2 rfl rfl dX3_readBurst_66 (pc2 := 67) rfl ?_
        refine g_bipush (v := (43 : Int32)) hc (by decide) dX3_readBurst_67 (pc2 := 69) rfl ?_
        refine g_bipush (v := (45 : Int32)) hc (by decide) dX3_readBurst_69 (pc2 := 71) rfl ?_
        obtain ⟨r6, s7, hp, hf⟩ := bd_some hf
        refine g_vI hc (k3_readOneOf hp) co_X3_26 (u1 (by decide)) rfl rfl (by decide) (by decide) (Nat.le_of_ble_eq_true rfl) dX3_readBurst_71 (pc2 := 74) rfl ?_
        refine g_istore (L1 := [(6, .int r6), (5, .int r5), (4, .int r4), (0, .ref (ad κ.1 1 0)), (3, .ref (ad κ.1 9 (6 * a1 + r1.toNatClampNeg)))]) hc (by decide) rfl dX3_readBurst_74 (pc2 := 76) rfl ?_
        refine g_aload_n (i := 0) hc 3 rfl rfl dX3_readBurst_76 (pc2 := 77) rfl ?_
        refine g_geti hc fo_X3_22 (u1 (by decide)) dX3_readBurst_77 (pc2 := 80) rfl ?_
        refine g_if_ne hc 103 (by decide) dX3_readBurst_80 (pc2 := 83) rfl (fun q => ?_) (fun q => ?_)
        · have hf := ite_f hf q
          exact g_vret hc hf hr (by decide) (by decide) dX3_readBurst_103
        · have hf := ite_t hf q
          refine g_aload_n (i := 3) hc 4 rfl rfl dX3_readBurst_83 (pc2 := 84) rfl ?_
          refine g_iload hc 2 rfl dX3_readBurst_84 (pc2 := 86) rfl ?_
          refine g_iload hc 1 rfl dX3_readBurst_86 (pc2 := 88) rfl ?_
          refine g_iload hc 0 rfl dX3_readBurst_88 (pc2 := 90) rfl ?_
          refine g_bipush (v := (43 : Int32)) hc (by decide) dX3_readBurst_90 (pc2 := 92) rfl ?_
          obtain ⟨j2, hj2, hf⟩ := nm_ex hf
          have Hj2 : ∀ (y1 : Int32) (s8 : Mem), j2 y1 s8 = some sR → G κ φ (QV κ φ (NV κ τ) sR rm_3_readBurst.cells rm_3_readBurst.slots) (NV κ τ) 0 0 s8 [] 100 [.int y1, .int r5, .int r4, .ref (ad κ.1 9 (6 * a1 + r1.toNatClampNeg))] := by
            intro y1 s8 hf
            rw [hj2] at hf
            obtain ⟨s9, hp, hf⟩ := bv_some hf
            refine g_vV hc (k1_add (by omega) hp) co_X3_105 (u9 (by omega)) rfl rfl (by decide) (by decide) (Nat.le_of_ble_eq_true rfl) dX3_readBurst_100 (pc2 := 103) rfl ?_
            exact g_vret hc hf hr (by decide) (by decide) dX3_readBurst_103
          refine g_icmp_ne hc 99 (by decide) dX3_readBurst_92 (pc2 := 95) rfl (fun q => ?_) (fun q => ?_)
          · have hf := ite_f hf q
            refine g_iconst (v := (0 : Int32)) hc (by decide) dX3_readBurst_99 (pc2 := 100) rfl ?_
            refine g_sub [] rfl ?_
            exact Hj2 _ _ hf
          · have hf := ite_t hf q
            refine g_iconst (v := (1 : Int32)) hc (by decide) dX3_readBurst_95 (pc2 := 96) rfl ?_
            refine g_goto hc 100 (by decide) dX3_readBurst_96 ?_
            refine g_sub [] rfl ?_
            exact Hj2 _ _ hf
      refine g_if_eq hc 49 (by decide) dX3_readBurst_42 (pc2 := 45) rfl (fun q => ?_) (fun q => ?_)
      · have hf := ite_t hf q
        refine g_sub [2, 0] rfl ?_
        exact Hj1 _ hf
      · have hf := ite_f hf q
        refine g_aload_n (i := 0) hc 2 rfl rfl dX3_readBurst_45 (pc2 := 46) rfl ?_
        obtain ⟨s10, hp, hf⟩ := bv_some hf
        refine g_vV hc (k3_refuseLast hp) co_X3_63 (u1 (by decide)) rfl rfl (by decide) (by decide) (Nat.le_of_ble_eq_true rfl) dX3_readBurst_46 (pc2 := 49) rfl ?_
        refine g_sub [2, 0] rfl ?_
        exact Hj1 _ hf
    · have hf := ite_t hf q
      exact g_vret hc hf hr (by decide) (by decide) dX3_readBurst_27
def f3_readPart (a1 : Nat) (s0 : Mem) : Option Mem :=
  bd (f3_signAt (s0 55 0 0) s0) fun r1 s1 => nm (ms s1 55 0 0 ((s1 55 0 0) + (1 : Int32))) fun s2 => (if r1 = (111 : Int32) then bv (f3_readOwner a1 s2) fun s7 => some s7 else (if r1 = (108 : Int32) then bv (f3_readLatency a1 s2) fun s6 => some s6 else (if r1 = (99 : Int32) then bv (f3_readCredit a1 s2) fun s5 => some s5 else (if r1 = (98 : Int32) then bv (f3_readBurst a1 s2) fun s4 => some s4 else bv (f3_refuseLast s2) fun s3 => some s3))))
def rm_3_readPart : Room := { frames := 4, cells := 0, slots := 0, locals := 92 }
set_option maxHeartbeats 4000000 in
set_option maxRecDepth 100000 in
theorem k3_readPart {κ : Kx} {τ : Nat → Int64} {a1 : Nat} {s0 sR : Mem} (h_a1 : a1 < 19) (hf : f3_readPart a1 s0 = some sR) : CtV κ yX3_readPart cX3_readPart 3 none rm_3_readPart (NV κ τ) (NV κ τ) [.ref (ad κ.1 1 0), .ref (ad κ.1 3 a1)] s0 sR := by
  refine ct_V (by decide +kernel) (Nat.le_of_ble_eq_true rfl) (fun φ hc hr => ?_)
  have hc : Cx κ φ RX3 cX3_readPart 3 rm_3_readPart := hc
  show G κ φ (QV κ φ (NV κ τ) sR rm_3_readPart.cells rm_3_readPart.slots) (NV κ τ) 0 0 s0 [(0, .ref (ad κ.1 1 0)), (1, .ref (ad κ.1 3 a1))] 0 []
  unfold f3_readPart at hf
  refine g_aload_n (i := 0) hc 0 rfl rfl dX3_readPart_0 (pc2 := 1) rfl ?_
  refine g_aload_n (i := 0) hc 0 rfl rfl dX3_readPart_1 (pc2 := 2) rfl ?_
  refine g_geti hc fo_X3_19 (u1 (by decide)) dX3_readPart_2 (pc2 := 5) rfl ?_
  obtain ⟨r1, s1, hp, hf⟩ := bd_some hf
  refine g_vI hc (k3_signAt hp) co_X3_47 (u1 (by decide)) rfl rfl (by decide) (by decide) (Nat.le_of_ble_eq_true rfl) dX3_readPart_5 (pc2 := 8) rfl ?_
  refine g_istore_n (i := 2) (L1 := [(2, .int r1), (0, .ref (ad κ.1 1 0)), (1, .ref (ad κ.1 3 a1))]) hc rfl (by decide) rfl dX3_readPart_8 (pc2 := 9) rfl ?_
  refine g_aload_n (i := 0) hc 1 rfl rfl dX3_readPart_9 (pc2 := 10) rfl ?_
  refine g_dup hc rfl dX3_readPart_10 (pc2 := 11) rfl ?_
  refine g_geti hc fo_X3_19 (u1 (by decide)) dX3_readPart_11 (pc2 := 14) rfl ?_
  refine g_iconst (v := (1 : Int32)) hc (by decide) dX3_readPart_14 (pc2 := 15) rfl ?_
  refine g_iadd hc dX3_readPart_15 (pc2 := 16) rfl ?_
  obtain ⟨s2, hs2, hf⟩ := nm_ex hf
  refine g_puti hc (by decide) fo_X3_19 clO_1 poK_1_2 rfl (u1 (by decide)) rfl rfl dX3_readPart_16 (pc2 := 19) rfl ?_
  refine g_nms hs2 ?_
  refine g_iload_n (i := 2) hc 0 rfl rfl dX3_readPart_19 (pc2 := 20) rfl ?_
  refine g_bipush (v := (111 : Int32)) hc (by decide) dX3_readPart_20 (pc2 := 22) rfl ?_
  refine g_icmp_ne hc 33 (by decide) dX3_readPart_22 (pc2 := 25) rfl (fun q => ?_) (fun q => ?_)
  · have hf := ite_f hf q
    refine g_iload_n (i := 2) hc 0 rfl rfl dX3_readPart_33 (pc2 := 34) rfl ?_
    refine g_bipush (v := (108 : Int32)) hc (by decide) dX3_readPart_34 (pc2 := 36) rfl ?_
    refine g_icmp_ne hc 47 (by decide) dX3_readPart_36 (pc2 := 39) rfl (fun q => ?_) (fun q => ?_)
    · have hf := ite_f hf q
      refine g_iload_n (i := 2) hc 0 rfl rfl dX3_readPart_47 (pc2 := 48) rfl ?_
      refine g_bipush (v := (99 : Int32)) hc (by decide) dX3_readPart_48 (pc2 := 50) rfl ?_
      refine g_icmp_ne hc 61 (by decide) dX3_readPart_50 (pc2 := 53) rfl (fun q => ?_) (fun q => ?_)
      · have hf := ite_f hf q
        refine g_iload_n (i := 2) hc 0 rfl rfl dX3_readPart_61 (pc2 := 62) rfl ?_
        refine g_bipush (v := (98 : Int32)) hc (by decide) dX3_readPart_62 (pc2 := 64) rfl ?_
        refine g_icmp_ne hc 75 (by decide) dX3_readPart_64 (pc2 := 67) rfl (fun q => ?_) (fun q => ?_)
        · have hf := ite_f hf q
          refine g_aload_n (i := 0) hc 1 rfl rfl dX3_readPart_75 (pc2 := 76) rfl ?_
          obtain ⟨s3, hp, hf⟩ := bv_some hf
          refine g_vV hc (k3_refuseLast hp) co_X3_63 (u1 (by decide)) rfl rfl (by decide) (by decide) (Nat.le_of_ble_eq_true rfl) dX3_readPart_76 (pc2 := 79) rfl ?_
          exact g_vret hc hf hr (by decide) (by decide) dX3_readPart_79
        · have hf := ite_t hf q
          refine g_aload_n (i := 0) hc 1 rfl rfl dX3_readPart_67 (pc2 := 68) rfl ?_
          refine g_aload_n (i := 1) hc 2 rfl rfl dX3_readPart_68 (pc2 := 69) rfl ?_
          obtain ⟨s4, hp, hf⟩ := bv_some hf
          refine g_vV hc (k3_readBurst (by omega) hp) co_X3_60 (u1 (by decide)) rfl rfl (by decide) (by decide) (Nat.le_of_ble_eq_true rfl) dX3_readPart_69 (pc2 := 72) rfl ?_
          refine g_goto hc 79 (by decide) dX3_readPart_72 ?_
          exact g_vret hc hf hr (by decide) (by decide) dX3_readPart_79
      · have hf := ite_t hf q
        refine g_aload_n (i := 0) hc 1 rfl rfl dX3_readPart_53 (pc2 := 54) rfl ?_
        refine g_aload_n (i := 1) hc 2 rfl rfl dX3_readPart_54 (pc2 := 55) rfl ?_
        obtain ⟨s5, hp, hf⟩ := bv_some hf
        refine g_vV hc (k3_readCredit (by omega) hp) co_X3_57 (u1 (by decide)) rfl rfl (by decide) (by decide) (Nat.le_of_ble_eq_true rfl) dX3_readPart_55 (pc2 := 58) rfl ?_
        refine g_goto hc 79 (by decide) dX3_readPart_58 ?_
        exact g_vret hc hf hr (by decide) (by decide) dX3_readPart_79
    · have hf := ite_t hf q
      refine g_aload_n (i := 0) hc 1 rfl rfl dX3_readPart_39 (pc2 := 40) rfl ?_
      refine g_aload_n (i := 1) hc 2 rfl rfl dX3_readPart_40 (pc2 := 41) rfl ?_
      obtain ⟨s6, hp, hf⟩ := bv_some hf
      refine g_vV hc (k3_readLatency (by omega) hp) co_X3_54 (u1 (by decide)) rfl rfl (by decide) (by decide) (Nat.le_of_ble_eq_true rfl) dX3_readPart_41 (pc2 := 44) rfl ?_
      refine g_goto hc 79 (by decide) dX3_readPart_44 ?_
      exact g_vret hc hf hr (by decide) (by decide) dX3_readPart_79
  · have hf := ite_t hf q
    refine g_aload_n (i := 0) hc 1 rfl rfl dX3_readPart_25 (pc2 := 26) rfl ?_
    refine g_aload_n (i := 1) hc 2 rfl rfl dX3_readPart_26 (pc2 := 27) rfl ?_
    obtain ⟨s7, hp, hf⟩ := bv_some hf
    refine g_vV hc (k3_readOwner (by omega) hp) co_X3_51 (u1 (by decide)) rfl rfl (by decide) (by decide) (Nat.le_of_ble_eq_true rfl) dX3_readPart_27 (pc2 := 30) rfl ?_
    refine g_goto hc 79 (by decide) dX3_readPart_30 ?_
    exact g_vret hc hf hr (by decide) (by decide) dX3_readPart_79
def f3_readInto_l51 (a1 : Nat) (k1 : Mem → Option (Int32 × Mem)) : Nat → Int32 → Mem → Option (Int32 × Mem)
  | 0, _, _ => none
  | n1 + 1, m1, s8 => (if (120 : Int32) ≤ m1 then k1 s8 else (if (s8 56 0 0) = (0 : Int32) then (if (s8 54 0 0) ≤ (s8 55 0 0) then k1 s8 else bv (f3_readPart a1 s8) fun s9 => nm (m1 + (1 : Int32)) fun x1 => f3_readInto_l51 a1 k1 n1 x1 s9) else k1 s8))
def f3_readInto (a1 : Nat) (s0 : Mem) : Option (Int32 × Mem) :=
  nm (ms s0 55 0 0 (0 : Int32)) fun s1 => nm (ms s1 56 0 0 (0 : Int32)) fun s2 => bd (f3_readOneOf (85 : Int32) (85 : Int32) s2) fun r1 s3 => bd (f3_readDigit (2 : Int32) (6 : Int32) s3) fun r2 s4 => bd (f3_readTwoDigits (2 : Int32) (16 : Int32) s4) fun r3 s5 => nm (fun (s6 : Mem) => nm (fun (s7 : Mem) => (if (s7 56 0 0) = (0 : Int32) then some ((-9 : Int32), s7) else some (s7 55 0 0, s7))) fun k1 => f3_readInto_l51 a1 k1 FU (0 : Int32) s6) fun j1 => (if (s5 56 0 0) = (0 : Int32) then bv (f2_makeNew a1 r2 r3 s5) fun s10 => j1 s10 else j1 s5)
def rm_3_readInto : Room := { frames := 5, cells := 0, slots := 0, locals := 114 }
set_option maxHeartbeats 4000000 in
set_option maxRecDepth 100000 in
theorem k3_readInto {κ : Kx} {τ : Nat → Int64} {a1 : Nat} {s0 sR : Mem} {rR : Int32} (h_a1 : a1 < 19) (hf : f3_readInto a1 s0 = some (rR, sR)) : CtI κ yX3_readInto cX3_readInto 5 (some .int) rm_3_readInto (NV κ τ) (NV κ τ) [.ref (ad κ.1 1 0), .ref (ad κ.1 3 a1)] s0 sR rR := by
  refine ct_I (by decide +kernel) (Nat.le_of_ble_eq_true rfl) (fun φ hc hr => ?_)
  have hc : Cx κ φ RX3 cX3_readInto 5 rm_3_readInto := hc
  show G κ φ (QI κ φ (NV κ τ) sR rR rm_3_readInto.cells rm_3_readInto.slots) (NV κ τ) 0 0 s0 [(0, .ref (ad κ.1 1 0)), (1, .ref (ad κ.1 3 a1))] 0 []
  unfold f3_readInto at hf
  refine g_aload_n (i := 0) hc 0 rfl rfl dX3_readInto_0 (pc2 := 1) rfl ?_
  refine g_iconst (v := (0 : Int32)) hc (by decide) dX3_readInto_1 (pc2 := 2) rfl ?_
  obtain ⟨s1, hs1, hf⟩ := nm_ex hf
  refine g_puti hc (by decide) fo_X3_19 clO_1 poK_1_2 rfl (u1 (by decide)) rfl rfl dX3_readInto_2 (pc2 := 5) rfl ?_
  refine g_nms hs1 ?_
  refine g_aload_n (i := 0) hc 0 rfl rfl dX3_readInto_5 (pc2 := 6) rfl ?_
  refine g_iconst (v := (0 : Int32)) hc (by decide) dX3_readInto_6 (pc2 := 7) rfl ?_
  obtain ⟨s2, hs2, hf⟩ := nm_ex hf
  refine g_puti hc (by decide) fo_X3_22 clO_1 poK_1_3 rfl (u1 (by decide)) rfl rfl dX3_readInto_7 (pc2 := 10) rfl ?_
  refine g_nms hs2 ?_
  refine g_aload_n (i := 0) hc 0 rfl rfl dX3_readInto_10 (pc2 := 11) rfl ?_
  refine g_bipush (v := (85 : Int32)) hc (by decide) dX3_readInto_11 (pc2 := 13) rfl ?_
  refine g_bipush (v := (85 : Int32)) hc (by decide) dX3_readInto_13 (pc2 := 15) rfl ?_
  obtain ⟨r1, s3, hp, hf⟩ := bd_some hf
  refine g_vI hc (k3_readOneOf hp) co_X3_26 (u1 (by decide)) rfl rfl (by decide) (by decide) (Nat.le_of_ble_eq_true rfl) dX3_readInto_15 (pc2 := 18) rfl ?_
  refine g_pop hc rfl dX3_readInto_18 (pc2 := 19) rfl ?_
  refine g_aload_n (i := 0) hc 0 rfl rfl dX3_readInto_19 (pc2 := 20) rfl ?_
  refine g_iconst (v := (2 : Int32)) hc (by decide) dX3_readInto_20 (pc2 := 21) rfl ?_
  refine g_bipush (v := (6 : Int32)) hc (by decide) dX3_readInto_21 (pc2 := 23) rfl ?_
  obtain ⟨r2, s4, hp, hf⟩ := bd_some hf
  refine g_vI hc (k3_readDigit hp) co_X3_30 (u1 (by decide)) rfl rfl (by decide) (by decide) (Nat.le_of_ble_eq_true rfl) dX3_readInto_23 (pc2 := 26) rfl ?_
  refine g_istore_n (i := 2) (L1 := [(2, .int r2), (0, .ref (ad κ.1 1 0)), (1, .ref (ad κ.1 3 a1))]) hc rfl (by decide) rfl dX3_readInto_26 (pc2 := 27) rfl ?_
  refine g_aload_n (i := 0) hc 1 rfl rfl dX3_readInto_27 (pc2 := 28) rfl ?_
  refine g_iconst (v := (2 : Int32)) hc (by decide) dX3_readInto_28 (pc2 := 29) rfl ?_
  refine g_bipush (v := (16 : Int32)) hc (by decide) dX3_readInto_29 (pc2 := 31) rfl ?_
  obtain ⟨r3, s5, hp, hf⟩ := bd_some hf
  refine g_vI hc (k3_readTwoDigits hp) co_X3_34 (u1 (by decide)) rfl rfl (by decide) (by decide) (Nat.le_of_ble_eq_true rfl) dX3_readInto_31 (pc2 := 34) rfl ?_
  refine g_istore_n (i := 3) (L1 := [(3, .int r3), (2, .int r2), (0, .ref (ad κ.1 1 0)), (1, .ref (ad κ.1 3 a1))]) hc rfl (by decide) rfl dX3_readInto_34 (pc2 := 35) rfl ?_
  refine g_aload_n (i := 0) hc 2 rfl rfl dX3_readInto_35 (pc2 := 36) rfl ?_
  refine g_geti hc fo_X3_22 (u1 (by decide)) dX3_readInto_36 (pc2 := 39) rfl ?_
  obtain ⟨j1, hj1, hf⟩ := nm_ex hf
  have Hj1 : ∀ (s6 : Mem), j1 s6 = some (rR, sR) → G κ φ (QI κ φ (NV κ τ) sR rR rm_3_readInto.cells rm_3_readInto.slots) (NV κ τ) 0 0 s6 [(0, .ref (ad κ.1 1 0)), (1, .ref (ad κ.1 3 a1))] 48 [] := by
    intro s6 hf
    rw [hj1] at hf
    refine g_iconst (v := (0 : Int32)) hc (by decide) dX3_readInto_48 (pc2 := 49) rfl ?_
    refine g_istore (L1 := [(4, .int (0 : Int32)), (0, .ref (ad κ.1 1 0)), (1, .ref (ad κ.1 3 a1))]) hc (by decide) rfl dX3_readInto_49 (pc2 := 51) rfl ?_
    obtain ⟨k1, hk1, hf⟩ := nm_ex hf
    have Hk1 : ∀ (s7 : Mem), k1 s7 = some (rR, sR) → G κ φ (QI κ φ (NV κ τ) sR rR rm_3_readInto.cells rm_3_readInto.slots) (NV κ τ) 0 0 s7 [(0, .ref (ad κ.1 1 0))] 87 [] := by
      intro s7 hf
      rw [hk1] at hf
      refine g_aload_n (i := 0) hc 0 rfl rfl dX3_readInto_87 (pc2 := 88) rfl ?_
      refine g_geti hc fo_X3_22 (u1 (by decide)) dX3_readInto_88 (pc2 := 91) rfl ?_
      refine g_if_eq hc 101 (by decide) dX3_readInto_91 (pc2 := 94) rfl (fun q => ?_) (fun q => ?_)
      · have hf := ite_t hf q
        refine g_bipush (v := (-9 : Int32)) hc (by decide) dX3_readInto_101 (pc2 := 103) rfl ?_
        exact g_iret hc hf hr rfl (by decide) (by decide) dX3_readInto_103
      · have hf := ite_f hf q
        refine g_aload_n (i := 0) hc 0 rfl rfl dX3_readInto_94 (pc2 := 95) rfl ?_
        refine g_geti hc fo_X3_19 (u1 (by decide)) dX3_readInto_95 (pc2 := 98) rfl ?_
        refine g_goto hc 103 (by decide) dX3_readInto_98 ?_
        exact g_iret hc hf hr rfl (by decide) (by decide) dX3_readInto_103
    have LP_n1 : ∀ (n1 : Nat) (m1 : Int32) (s8 : Mem), f3_readInto_l51 a1 k1 n1 m1 s8 = some (rR, sR) → G κ φ (QI κ φ (NV κ τ) sR rR rm_3_readInto.cells rm_3_readInto.slots) (NV κ τ) 0 0 s8 [(0, .ref (ad κ.1 1 0)), (1, .ref (ad κ.1 3 a1)), (4, .int m1)] 51 [] := by
      intro n1
      induction n1 with
      | zero => intro m1 s8 hf; rw [f3_readInto_l51] at hf; cases hf
      | succ n1 ih_n1 =>
        intro m1 s8 hf
        rw [f3_readInto_l51] at hf
        refine g_iload hc 2 rfl dX3_readInto_51 (pc2 := 53) rfl ?_
        refine g_bipush (v := (120 : Int32)) hc (by decide) dX3_readInto_53 (pc2 := 55) rfl ?_
        refine g_icmp_ge hc 87 (by decide) dX3_readInto_55 (pc2 := 58) rfl (fun q => ?_) (fun q => ?_)
        · have hf := ite_t hf q
          refine g_sub [0] rfl ?_
          exact Hk1 _ hf
        · have hf := ite_f hf q
          refine g_aload_n (i := 0) hc 0 rfl rfl dX3_readInto_58 (pc2 := 59) rfl ?_
          refine g_geti hc fo_X3_22 (u1 (by decide)) dX3_readInto_59 (pc2 := 62) rfl ?_
          refine g_if_ne hc 87 (by decide) dX3_readInto_62 (pc2 := 65) rfl (fun q => ?_) (fun q => ?_)
          · have hf := ite_f hf q
            refine g_sub [0] rfl ?_
            exact Hk1 _ hf
          · have hf := ite_t hf q
            refine g_aload_n (i := 0) hc 0 rfl rfl dX3_readInto_65 (pc2 := 66) rfl ?_
            refine g_geti hc fo_X3_19 (u1 (by decide)) dX3_readInto_66 (pc2 := 69) rfl ?_
            refine g_aload_n (i := 0) hc 0 rfl rfl dX3_readInto_69 (pc2 := 70) rfl ?_
            refine g_geti hc fo_X3_15 (u1 (by decide)) dX3_readInto_70 (pc2 := 73) rfl ?_
            refine g_icmp_ge hc 87 (by decide) dX3_readInto_73 (pc2 := 76) rfl (fun q => ?_) (fun q => ?_)
            · have hf := ite_t hf q
              refine g_sub [0] rfl ?_
              exact Hk1 _ hf
            · have hf := ite_f hf q
              refine g_aload_n (i := 0) hc 0 rfl rfl dX3_readInto_76 (pc2 := 77) rfl ?_
              refine g_aload_n (i := 1) hc 1 rfl rfl dX3_readInto_77 (pc2 := 78) rfl ?_
              obtain ⟨s9, hp, hf⟩ := bv_some hf
              refine g_vV hc (k3_readPart (by omega) hp) co_X3_43 (u1 (by decide)) rfl rfl (by decide) (by decide) (Nat.le_of_ble_eq_true rfl) dX3_readInto_78 (pc2 := 81) rfl ?_
              obtain ⟨x1, hx1, hf⟩ := nm_ex hf
              refine g_iinc (v := x1) (L1 := [(4, .int x1), (0, .ref (ad κ.1 1 0)), (1, .ref (ad κ.1 3 a1))]) hc 2 rfl (by rw [hx1]; rfl) (by decide) rfl dX3_readInto_81 (pc2 := 84) rfl ?_
              refine g_goto hc 51 (by decide) dX3_readInto_84 ?_
              refine g_sub [1, 2, 0] rfl ?_
              exact ih_n1 _ _ hf
    refine g_sub [1, 2, 0] rfl ?_
    exact LP_n1 _ _ _ hf
  refine g_if_ne hc 48 (by decide) dX3_readInto_39 (pc2 := 42) rfl (fun q => ?_) (fun q => ?_)
  · have hf := ite_f hf q
    refine g_sub [2, 3] rfl ?_
    exact Hj1 _ hf
  · have hf := ite_t hf q
    refine g_aload_n (i := 1) hc 3 rfl rfl dX3_readInto_42 (pc2 := 43) rfl ?_
    refine g_iload_n (i := 2) hc 1 rfl rfl dX3_readInto_43 (pc2 := 44) rfl ?_
    refine g_iload_n (i := 3) hc 0 rfl rfl dX3_readInto_44 (pc2 := 45) rfl ?_
    obtain ⟨s10, hp, hf⟩ := bv_some hf
    refine g_vV hc (k2_makeNew (by omega) hp) co_X3_37 (u3 (by omega)) rfl rfl (by decide) (by decide) (Nat.le_of_ble_eq_true rfl) dX3_readInto_45 (pc2 := 48) rfl ?_
    refine g_sub [2, 3] rfl ?_
    exact Hj1 _ hf
