def f0_copyFrom_l10 (o : Nat) (a1 : Nat) (k1 : Mem → Option Mem) : Nat → Int32 → Mem → Option Mem
  | 0, _, _ => none
  | n1 + 1, m1, s3 => (if (s3 51 o 0) ≤ m1 then k1 s3 else (if (10 : Int32) ≤ m1 then k1 s3 else gd (ib m1 10) (gd (ib m1 10) (nm (ms s3 14 o m1.toNatClampNeg (s3 14 a1 m1.toNatClampNeg)) fun s4 => nm (m1 + (1 : Int32)) fun x1 => f0_copyFrom_l10 o a1 k1 n1 x1 s4))))
def f0_copyFrom (o : Nat) (a1 : Nat) (s0 : Mem) : Option Mem :=
  nm (ms s0 51 o 0 (s0 51 a1 0)) fun s1 => nm (fun (s2 : Mem) => some s2) fun k1 => f0_copyFrom_l10 o a1 k1 FU (0 : Int32) s1
def rm_0_copyFrom : Room := { frames := 0, cells := 0, slots := 0, locals := 0 }
set_option maxHeartbeats 4000000 in
set_option maxRecDepth 100000 in
theorem k0_copyFrom {κ : Kx} {τ : Nat → Int64} {o : Nat} {a1 : Nat} {s0 sR : Mem} (h_o : o < 114) (h_a1 : a1 < 114) (hf : f0_copyFrom o a1 s0 = some sR) : CtV κ yX0_copyFrom cX0_copyFrom 3 none rm_0_copyFrom (NV κ τ) (NV κ τ) [.ref (ad κ.1 13 o), .ref (ad κ.1 13 a1)] s0 sR := by
  refine ct_V (by decide +kernel) (Nat.le_of_ble_eq_true rfl) (fun φ hc hr => ?_)
  have hc : Cx κ φ RX0 cX0_copyFrom 3 rm_0_copyFrom := hc
  show G κ φ (QV κ φ (NV κ τ) sR rm_0_copyFrom.cells rm_0_copyFrom.slots) (NV κ τ) 0 0 s0 [(0, .ref (ad κ.1 13 o)), (1, .ref (ad κ.1 13 a1))] 0 []
  unfold f0_copyFrom at hf
  refine g_aload_n (i := 0) hc 0 rfl rfl dX0_copyFrom_0 (pc2 := 1) rfl ?_
  refine g_aload_n (i := 1) hc 1 rfl rfl dX0_copyFrom_1 (pc2 := 2) rfl ?_
  refine g_geti hc fo_X0_15 (u13 (by omega)) dX0_copyFrom_2 (pc2 := 5) rfl ?_
  obtain ⟨s1, hs1, hf⟩ := nm_ex hf
  refine g_puti hc (by decide) fo_X0_15 clO_13 poK_13_0 rfl (u13 (by omega)) rfl rfl dX0_copyFrom_5 (pc2 := 8) rfl ?_
  refine g_nms hs1 ?_
  refine g_iconst (v := (0 : Int32)) hc (by decide) dX0_copyFrom_8 (pc2 := 9) rfl ?_
  refine g_istore_n (i := 2) (L1 := [(2, .int (0 : Int32)), (0, .ref (ad κ.1 13 o)), (1, .ref (ad κ.1 13 a1))]) hc rfl (by decide) rfl dX0_copyFrom_9 (pc2 := 10) rfl ?_
  obtain ⟨k1, hk1, hf⟩ := nm_ex hf
  have Hk1 : ∀ (s2 : Mem), k1 s2 = some sR → G κ φ (QV κ φ (NV κ τ) sR rm_0_copyFrom.cells rm_0_copyFrom.slots) (NV κ τ) 0 0 s2 [] 42 [] := by
    intro s2 hf
    rw [hk1] at hf
    exact g_vret hc hf hr (by decide) (by decide) dX0_copyFrom_42
  have LP_n1 : ∀ (n1 : Nat) (m1 : Int32) (s3 : Mem), f0_copyFrom_l10 o a1 k1 n1 m1 s3 = some sR → G κ φ (QV κ φ (NV κ τ) sR rm_0_copyFrom.cells rm_0_copyFrom.slots) (NV κ τ) 0 0 s3 [(0, .ref (ad κ.1 13 o)), (1, .ref (ad κ.1 13 a1)), (2, .int m1)] 10 [] := by
    intro n1
    induction n1 with
    | zero => intro m1 s3 hf; rw [f0_copyFrom_l10] at hf; cases hf
    | succ n1 ih_n1 =>
      intro m1 s3 hf
      rw [f0_copyFrom_l10] at hf
      refine g_iload_n (i := 2) hc 2 rfl rfl dX0_copyFrom_10 (pc2 := 11) rfl ?_
      refine g_aload_n (i := 0) hc 0 rfl rfl dX0_copyFrom_11 (pc2 := 12) rfl ?_
      refine g_geti hc fo_X0_15 (u13 (by omega)) dX0_copyFrom_12 (pc2 := 15) rfl ?_
      refine g_icmp_ge hc 42 (by decide) dX0_copyFrom_15 (pc2 := 18) rfl (fun q => ?_) (fun q => ?_)
      · have hf := ite_t hf q
        refine g_sub [] rfl ?_
        exact Hk1 _ hf
      · have hf := ite_f hf q
        refine g_iload_n (i := 2) hc 2 rfl rfl dX0_copyFrom_18 (pc2 := 19) rfl ?_
        refine g_bipush (v := (10 : Int32)) hc (by decide) dX0_copyFrom_19 (pc2 := 21) rfl ?_
        refine g_icmp_ge hc 42 (by decide) dX0_copyFrom_21 (pc2 := 24) rfl (fun q => ?_) (fun q => ?_)
        · have hf := ite_t hf q
          refine g_sub [] rfl ?_
          exact Hk1 _ hf
        · have hf := ite_f hf q
          refine g_aload_n (i := 0) hc 0 rfl rfl dX0_copyFrom_24 (pc2 := 25) rfl ?_
          refine g_getr (q := ad κ.1 14 o) hc fo_X0_9 (u13 (by omega)) rfl dX0_copyFrom_25 (pc2 := 28) rfl ?_
          refine g_iload_n (i := 2) hc 2 rfl rfl dX0_copyFrom_28 (pc2 := 29) rfl ?_
          refine g_aload_n (i := 1) hc 1 rfl rfl dX0_copyFrom_29 (pc2 := 30) rfl ?_
          refine g_getr (q := ad κ.1 14 a1) hc fo_X0_9 (u13 (by omega)) rfl dX0_copyFrom_30 (pc2 := 33) rfl ?_
          refine g_iload_n (i := 2) hc 2 rfl rfl dX0_copyFrom_33 (pc2 := 34) rfl ?_
          obtain ⟨hg1, hf⟩ := gd_some hf
          refine g_aldi hc 14 a1 rfl (u14 (by omega)) hg1 dX0_copyFrom_34 (pc2 := 35) rfl ?_
          obtain ⟨hg2, hf⟩ := gd_some hf
          obtain ⟨s4, hs4, hf⟩ := nm_ex hf
          refine g_asti hc 14 o rfl (u14 (by omega)) hg2 dX0_copyFrom_35 (pc2 := 36) rfl ?_
          refine g_nms hs4 ?_
          obtain ⟨x1, hx1, hf⟩ := nm_ex hf
          refine g_iinc (v := x1) (L1 := [(2, .int x1), (0, .ref (ad κ.1 13 o)), (1, .ref (ad κ.1 13 a1))]) hc 2 rfl (by rw [hx1]; rfl) (by decide) rfl dX0_copyFrom_36 (pc2 := 39) rfl ?_
          refine g_goto hc 10 (by decide) dX0_copyFrom_39 ?_
          refine g_sub [1, 2, 0] rfl ?_
          exact ih_n1 _ _ hf
  refine g_sub [1, 2, 0] rfl ?_
  exact LP_n1 _ _ _ hf
def f0_add (o : Nat) (a1 : Int32) (s0 : Mem) : Option Mem :=
  (if (s0 51 o 0) < (0 : Int32) then some s0 else (if (s0 51 o 0) < (10 : Int32) then gd (ib (s0 51 o 0) 10) (nm (ms s0 14 o (s0 51 o 0).toNatClampNeg a1) fun s1 => nm (ms s1 51 o 0 ((s1 51 o 0) + (1 : Int32))) fun s2 => some s2) else some s0))
def rm_0_add : Room := { frames := 0, cells := 0, slots := 0, locals := 0 }
set_option maxHeartbeats 4000000 in
set_option maxRecDepth 100000 in
theorem k0_add {κ : Kx} {τ : Nat → Int64} {o : Nat} {a1 : Int32} {s0 sR : Mem} (h_o : o < 114) (hf : f0_add o a1 s0 = some sR) : CtV κ yX0_add cX0_add 2 none rm_0_add (NV κ τ) (NV κ τ) [.ref (ad κ.1 13 o), .int a1] s0 sR := by
  refine ct_V (by decide +kernel) (Nat.le_of_ble_eq_true rfl) (fun φ hc hr => ?_)
  have hc : Cx κ φ RX0 cX0_add 2 rm_0_add := hc
  show G κ φ (QV κ φ (NV κ τ) sR rm_0_add.cells rm_0_add.slots) (NV κ τ) 0 0 s0 [(0, .ref (ad κ.1 13 o)), (1, .int a1)] 0 []
  unfold f0_add at hf
  refine g_aload_n (i := 0) hc 0 rfl rfl dX0_add_0 (pc2 := 1) rfl ?_
  refine g_geti hc fo_X0_15 (u13 (by omega)) dX0_add_1 (pc2 := 4) rfl ?_
  refine g_if_lt hc 16 (by decide) dX0_add_4 (pc2 := 7) rfl (fun q => ?_) (fun q => ?_)
  · have hf := ite_t hf q
    exact g_vret hc hf hr (by decide) (by decide) dX0_add_16
  · have hf := ite_f hf q
    refine g_aload_n (i := 0) hc 0 rfl rfl dX0_add_7 (pc2 := 8) rfl ?_
    refine g_geti hc fo_X0_15 (u13 (by omega)) dX0_add_8 (pc2 := 11) rfl ?_
    refine g_bipush (v := (10 : Int32)) hc (by decide) dX0_add_11 (pc2 := 13) rfl ?_
    refine g_icmp_lt hc 17 (by decide) dX0_add_13 (pc2 := 16) rfl (fun q => ?_) (fun q => ?_)
    · have hf := ite_t hf q
      refine g_aload_n (i := 0) hc 0 rfl rfl dX0_add_17 (pc2 := 18) rfl ?_
      refine g_getr (q := ad κ.1 14 o) hc fo_X0_9 (u13 (by omega)) rfl dX0_add_18 (pc2 := 21) rfl ?_
      refine g_aload_n (i := 0) hc 0 rfl rfl dX0_add_21 (pc2 := 22) rfl ?_
      refine g_geti hc fo_X0_15 (u13 (by omega)) dX0_add_22 (pc2 := 25) rfl ?_
      refine g_iload_n (i := 1) hc 1 rfl rfl dX0_add_25 (pc2 := 26) rfl ?_
      obtain ⟨hg1, hf⟩ := gd_some hf
      obtain ⟨s1, hs1, hf⟩ := nm_ex hf
      refine g_asti hc 14 o rfl (u14 (by omega)) hg1 dX0_add_26 (pc2 := 27) rfl ?_
      refine g_nms hs1 ?_
      refine g_aload_n (i := 0) hc 0 rfl rfl dX0_add_27 (pc2 := 28) rfl ?_
      refine g_dup hc rfl dX0_add_28 (pc2 := 29) rfl ?_
      refine g_geti hc fo_X0_15 (u13 (by omega)) dX0_add_29 (pc2 := 32) rfl ?_
      refine g_iconst (v := (1 : Int32)) hc (by decide) dX0_add_32 (pc2 := 33) rfl ?_
      refine g_iadd hc dX0_add_33 (pc2 := 34) rfl ?_
      obtain ⟨s2, hs2, hf⟩ := nm_ex hf
      refine g_puti hc (by decide) fo_X0_15 clO_13 poK_13_0 rfl (u13 (by omega)) rfl rfl dX0_add_34 (pc2 := 37) rfl ?_
      refine g_nms hs2 ?_
      exact g_vret hc hf hr (by decide) (by decide) dX0_add_37
    · have hf := ite_f hf q
      exact g_vret hc hf hr (by decide) (by decide) dX0_add_16
def f0_firstReady_l2 (o : Nat) (a1 : Int32) (k1 : Mem → Option (Int32 × Mem)) : Nat → Int32 → Mem → Option (Int32 × Mem)
  | 0, _, _ => none
  | n1 + 1, m1, s2 => (if (s2 51 o 0) ≤ m1 then k1 s2 else (if (10 : Int32) ≤ m1 then k1 s2 else gd (ib m1 10) ((if a1 < (s2 14 o m1.toNatClampNeg) then nm (m1 + (1 : Int32)) fun x1 => f0_firstReady_l2 o a1 k1 n1 x1 s2 else some (m1, s2)))))
def f0_firstReady (o : Nat) (a1 : Int32) (s0 : Mem) : Option (Int32 × Mem) :=
  nm (fun (s1 : Mem) => some ((-9 : Int32), s1)) fun k1 => f0_firstReady_l2 o a1 k1 FU (0 : Int32) s0
def rm_0_firstReady : Room := { frames := 0, cells := 0, slots := 0, locals := 0 }
set_option maxHeartbeats 4000000 in
set_option maxRecDepth 100000 in
theorem k0_firstReady {κ : Kx} {τ : Nat → Int64} {o : Nat} {a1 : Int32} {s0 sR : Mem} {rR : Int32} (h_o : o < 114) (hf : f0_firstReady o a1 s0 = some (rR, sR)) : CtI κ yX0_firstReady cX0_firstReady 3 (some .int) rm_0_firstReady (NV κ τ) (NV κ τ) [.ref (ad κ.1 13 o), .int a1] s0 sR rR := by
  refine ct_I (by decide +kernel) (Nat.le_of_ble_eq_true rfl) (fun φ hc hr => ?_)
  have hc : Cx κ φ RX0 cX0_firstReady 3 rm_0_firstReady := hc
  show G κ φ (QI κ φ (NV κ τ) sR rR rm_0_firstReady.cells rm_0_firstReady.slots) (NV κ τ) 0 0 s0 [(0, .ref (ad κ.1 13 o)), (1, .int a1)] 0 []
  unfold f0_firstReady at hf
  refine g_iconst (v := (0 : Int32)) hc (by decide) dX0_firstReady_0 (pc2 := 1) rfl ?_
  refine g_istore_n (i := 2) (L1 := [(2, .int (0 : Int32)), (0, .ref (ad κ.1 13 o)), (1, .int a1)]) hc rfl (by decide) rfl dX0_firstReady_1 (pc2 := 2) rfl ?_
  obtain ⟨k1, hk1, hf⟩ := nm_ex hf
  have Hk1 : ∀ (s1 : Mem), k1 s1 = some (rR, sR) → G κ φ (QI κ φ (NV κ τ) sR rR rm_0_firstReady.cells rm_0_firstReady.slots) (NV κ τ) 0 0 s1 [] 34 [] := by
    intro s1 hf
    rw [hk1] at hf
    refine g_bipush (v := (-9 : Int32)) hc (by decide) dX0_firstReady_34 (pc2 := 36) rfl ?_
    exact g_iret hc hf hr rfl (by decide) (by decide) dX0_firstReady_36
  have LP_n1 : ∀ (n1 : Nat) (m1 : Int32) (s2 : Mem), f0_firstReady_l2 o a1 k1 n1 m1 s2 = some (rR, sR) → G κ φ (QI κ φ (NV κ τ) sR rR rm_0_firstReady.cells rm_0_firstReady.slots) (NV κ τ) 0 0 s2 [(0, .ref (ad κ.1 13 o)), (1, .int a1), (2, .int m1)] 2 [] := by
    intro n1
    induction n1 with
    | zero => intro m1 s2 hf; rw [f0_firstReady_l2] at hf; cases hf
    | succ n1 ih_n1 =>
      intro m1 s2 hf
      rw [f0_firstReady_l2] at hf
      refine g_iload_n (i := 2) hc 2 rfl rfl dX0_firstReady_2 (pc2 := 3) rfl ?_
      refine g_aload_n (i := 0) hc 0 rfl rfl dX0_firstReady_3 (pc2 := 4) rfl ?_
      refine g_geti hc fo_X0_15 (u13 (by omega)) dX0_firstReady_4 (pc2 := 7) rfl ?_
      refine g_icmp_ge hc 34 (by decide) dX0_firstReady_7 (pc2 := 10) rfl (fun q => ?_) (fun q => ?_)
      · have hf := ite_t hf q
        refine g_sub [] rfl ?_
        exact Hk1 _ hf
      · have hf := ite_f hf q
        refine g_iload_n (i := 2) hc 2 rfl rfl dX0_firstReady_10 (pc2 := 11) rfl ?_
        refine g_bipush (v := (10 : Int32)) hc (by decide) dX0_firstReady_11 (pc2 := 13) rfl ?_
        refine g_icmp_ge hc 34 (by decide) dX0_firstReady_13 (pc2 := 16) rfl (fun q => ?_) (fun q => ?_)
        · have hf := ite_t hf q
          refine g_sub [] rfl ?_
          exact Hk1 _ hf
        · have hf := ite_f hf q
          refine g_aload_n (i := 0) hc 0 rfl rfl dX0_firstReady_16 (pc2 := 17) rfl ?_
          refine g_getr (q := ad κ.1 14 o) hc fo_X0_9 (u13 (by omega)) rfl dX0_firstReady_17 (pc2 := 20) rfl ?_
          refine g_iload_n (i := 2) hc 2 rfl rfl dX0_firstReady_20 (pc2 := 21) rfl ?_
          obtain ⟨hg1, hf⟩ := gd_some hf
          refine g_aldi hc 14 o rfl (u14 (by omega)) hg1 dX0_firstReady_21 (pc2 := 22) rfl ?_
          refine g_iload_n (i := 1) hc 1 rfl rfl dX0_firstReady_22 (pc2 := 23) rfl ?_
          refine g_icmp_gt hc 28 (by decide) dX0_firstReady_23 (pc2 := 26) rfl (fun q => ?_) (fun q => ?_)
          · have hf := ite_t hf q
            obtain ⟨x1, hx1, hf⟩ := nm_ex hf
            refine g_iinc (v := x1) (L1 := [(2, .int x1), (0, .ref (ad κ.1 13 o)), (1, .int a1)]) hc 2 rfl (by rw [hx1]; rfl) (by decide) rfl dX0_firstReady_28 (pc2 := 31) rfl ?_
            refine g_goto hc 2 (by decide) dX0_firstReady_31 ?_
            refine g_sub [1, 2, 0] rfl ?_
            exact ih_n1 _ _ hf
          · have hf := ite_f hf q
            refine g_iload_n (i := 2) hc 2 rfl rfl dX0_firstReady_26 (pc2 := 27) rfl ?_
            exact g_iret hc hf hr rfl (by decide) (by decide) dX0_firstReady_27
  refine g_sub [1, 2, 0] rfl ?_
  exact LP_n1 _ _ _ hf
def f0_remove_l17 (o : Nat) (k1 : Mem → Option Mem) : Nat → Int32 → Mem → Option Mem
  | 0, _, _ => none
  | n1 + 1, m1, s3 => (if (s3 51 o 0) ≤ m1 then k1 s3 else (if (10 : Int32) ≤ m1 then k1 s3 else gd (ib m1 10) (gd (ib (m1 - (1 : Int32)) 10) (nm (ms s3 14 o (m1 - (1 : Int32)).toNatClampNeg (s3 14 o m1.toNatClampNeg)) fun s4 => nm (m1 + (1 : Int32)) fun x2 => f0_remove_l17 o k1 n1 x2 s4))))
def f0_remove (o : Nat) (a1 : Int32) (s0 : Mem) : Option Mem :=
  (if a1 < (0 : Int32) then some s0 else (if a1 < (s0 51 o 0) then nm (a1 + (1 : Int32)) fun x1 => nm (fun (s1 : Mem) => nm (ms s1 51 o 0 ((s1 51 o 0) - (1 : Int32))) fun s2 => some s2) fun k1 => f0_remove_l17 o k1 FU x1 s0 else some s0))
def rm_0_remove : Room := { frames := 0, cells := 0, slots := 0, locals := 0 }
set_option maxHeartbeats 4000000 in
set_option maxRecDepth 100000 in
theorem k0_remove {κ : Kx} {τ : Nat → Int64} {o : Nat} {a1 : Int32} {s0 sR : Mem} (h_o : o < 114) (hf : f0_remove o a1 s0 = some sR) : CtV κ yX0_remove cX0_remove 3 none rm_0_remove (NV κ τ) (NV κ τ) [.ref (ad κ.1 13 o), .int a1] s0 sR := by
  refine ct_V (by decide +kernel) (Nat.le_of_ble_eq_true rfl) (fun φ hc hr => ?_)
  have hc : Cx κ φ RX0 cX0_remove 3 rm_0_remove := hc
  show G κ φ (QV κ φ (NV κ τ) sR rm_0_remove.cells rm_0_remove.slots) (NV κ τ) 0 0 s0 [(0, .ref (ad κ.1 13 o)), (1, .int a1)] 0 []
  unfold f0_remove at hf
  refine g_iload_n (i := 1) hc 1 rfl rfl dX0_remove_0 (pc2 := 1) rfl ?_
  refine g_if_lt hc 12 (by decide) dX0_remove_1 (pc2 := 4) rfl (fun q => ?_) (fun q => ?_)
  · have hf := ite_t hf q
    exact g_vret hc hf hr (by decide) (by decide) dX0_remove_12
  · have hf := ite_f hf q
    refine g_iload_n (i := 1) hc 1 rfl rfl dX0_remove_4 (pc2 := 5) rfl ?_
    refine g_aload_n (i := 0) hc 0 rfl rfl dX0_remove_5 (pc2 := 6) rfl ?_
    refine g_geti hc fo_X0_15 (u13 (by omega)) dX0_remove_6 (pc2 := 9) rfl ?_
    refine g_icmp_lt hc 13 (by decide) dX0_remove_9 (pc2 := 12) rfl (fun q => ?_) (fun q => ?_)
    · have hf := ite_t hf q
      refine g_iload_n (i := 1) hc 1 rfl rfl dX0_remove_13 (pc2 := 14) rfl ?_
      refine g_iconst (v := (1 : Int32)) hc (by decide) dX0_remove_14 (pc2 := 15) rfl ?_
      refine g_iadd hc dX0_remove_15 (pc2 := 16) rfl ?_
      obtain ⟨x1, hx1, hf⟩ := nm_ex hf
      refine g_nmi hx1 ?_
      refine g_istore_n (i := 2) (L1 := [(2, .int x1), (0, .ref (ad κ.1 13 o)), (1, .int a1)]) hc rfl (by decide) rfl dX0_remove_16 (pc2 := 17) rfl ?_
      obtain ⟨k1, hk1, hf⟩ := nm_ex hf
      have Hk1 : ∀ (s1 : Mem), k1 s1 = some sR → G κ φ (QV κ φ (NV κ τ) sR rm_0_remove.cells rm_0_remove.slots) (NV κ τ) 0 0 s1 [(0, .ref (ad κ.1 13 o))] 51 [] := by
        intro s1 hf
        rw [hk1] at hf
        refine g_aload_n (i := 0) hc 0 rfl rfl dX0_remove_51 (pc2 := 52) rfl ?_
        refine g_dup hc rfl dX0_remove_52 (pc2 := 53) rfl ?_
        refine g_geti hc fo_X0_15 (u13 (by omega)) dX0_remove_53 (pc2 := 56) rfl ?_
        refine g_iconst (v := (1 : Int32)) hc (by decide) dX0_remove_56 (pc2 := 57) rfl ?_
        refine g_isub hc dX0_remove_57 (pc2 := 58) rfl ?_
        obtain ⟨s2, hs2, hf⟩ := nm_ex hf
        refine g_puti hc (by decide) fo_X0_15 clO_13 poK_13_0 rfl (u13 (by omega)) rfl rfl dX0_remove_58 (pc2 := 61) rfl ?_
        refine g_nms hs2 ?_
        exact g_vret hc hf hr (by decide) (by decide) dX0_remove_61
      have LP_n1 : ∀ (n1 : Nat) (m1 : Int32) (s3 : Mem), f0_remove_l17 o k1 n1 m1 s3 = some sR → G κ φ (QV κ φ (NV κ τ) sR rm_0_remove.cells rm_0_remove.slots) (NV κ τ) 0 0 s3 [(0, .ref (ad κ.1 13 o)), (2, .int m1)] 17 [] := by
        intro n1
        induction n1 with
        | zero => intro m1 s3 hf; rw [f0_remove_l17] at hf; cases hf
        | succ n1 ih_n1 =>
          intro m1 s3 hf
          rw [f0_remove_l17] at hf
          refine g_iload_n (i := 2) hc 1 rfl rfl dX0_remove_17 (pc2 := 18) rfl ?_
          refine g_aload_n (i := 0) hc 0 rfl rfl dX0_remove_18 (pc2 := 19) rfl ?_
          refine g_geti hc fo_X0_15 (u13 (by omega)) dX0_remove_19 (pc2 := 22) rfl ?_
          refine g_icmp_ge hc 51 (by decide) dX0_remove_22 (pc2 := 25) rfl (fun q => ?_) (fun q => ?_)
          · have hf := ite_t hf q
            refine g_sub [0] rfl ?_
            exact Hk1 _ hf
          · have hf := ite_f hf q
            refine g_iload_n (i := 2) hc 1 rfl rfl dX0_remove_25 (pc2 := 26) rfl ?_
            refine g_bipush (v := (10 : Int32)) hc (by decide) dX0_remove_26 (pc2 := 28) rfl ?_
            refine g_icmp_ge hc 51 (by decide) dX0_remove_28 (pc2 := 31) rfl (fun q => ?_) (fun q => ?_)
            · have hf := ite_t hf q
              refine g_sub [0] rfl ?_
              exact Hk1 _ hf
            · have hf := ite_f hf q
              refine g_aload_n (i := 0) hc 0 rfl rfl dX0_remove_31 (pc2 := 32) rfl ?_
              refine g_getr (q := ad κ.1 14 o) hc fo_X0_9 (u13 (by omega)) rfl dX0_remove_32 (pc2 := 35) rfl ?_
              refine g_iload_n (i := 2) hc 1 rfl rfl dX0_remove_35 (pc2 := 36) rfl ?_
              refine g_iconst (v := (1 : Int32)) hc (by decide) dX0_remove_36 (pc2 := 37) rfl ?_
              refine g_isub hc dX0_remove_37 (pc2 := 38) rfl ?_
              refine g_aload_n (i := 0) hc 0 rfl rfl dX0_remove_38 (pc2 := 39) rfl ?_
              refine g_getr (q := ad κ.1 14 o) hc fo_X0_9 (u13 (by omega)) rfl dX0_remove_39 (pc2 := 42) rfl ?_
              refine g_iload_n (i := 2) hc 1 rfl rfl dX0_remove_42 (pc2 := 43) rfl ?_
              obtain ⟨hg1, hf⟩ := gd_some hf
              refine g_aldi hc 14 o rfl (u14 (by omega)) hg1 dX0_remove_43 (pc2 := 44) rfl ?_
              obtain ⟨hg2, hf⟩ := gd_some hf
              obtain ⟨s4, hs4, hf⟩ := nm_ex hf
              refine g_asti hc 14 o rfl (u14 (by omega)) hg2 dX0_remove_44 (pc2 := 45) rfl ?_
              refine g_nms hs4 ?_
              obtain ⟨x2, hx2, hf⟩ := nm_ex hf
              refine g_iinc (v := x2) (L1 := [(2, .int x2), (0, .ref (ad κ.1 13 o))]) hc 1 rfl (by rw [hx2]; rfl) (by decide) rfl dX0_remove_45 (pc2 := 48) rfl ?_
              refine g_goto hc 17 (by decide) dX0_remove_48 ?_
              refine g_sub [1, 0] rfl ?_
              exact ih_n1 _ _ hf
      refine g_sub [1, 0] rfl ?_
      exact LP_n1 _ _ _ hf
    · have hf := ite_f hf q
      exact g_vret hc hf hr (by decide) (by decide) dX0_remove_12
