def f1_copyFrom_l10 (o : Nat) (a1 : Nat) (k1 : Mem → Option Mem) : Nat → Int32 → Mem → Option Mem
  | 0, _, _ => none
  | n1 + 1, m1, s3 => (if (s3 50 o 0) ≤ m1 then k1 s3 else (if (6 : Int32) ≤ m1 then k1 s3 else gd (ib m1 6) (gd (ib m1 6) (nm (ms s3 10 o m1.toNatClampNeg (s3 10 a1 m1.toNatClampNeg)) fun s4 => gd (ib m1 6) (gd (ib m1 6) (nm (ms s4 11 o m1.toNatClampNeg (s4 11 a1 m1.toNatClampNeg)) fun s5 => gd (ib m1 6) (gd (ib m1 6) (nm (ms s5 12 o m1.toNatClampNeg (zb (s5 12 a1 m1.toNatClampNeg))) fun s6 => nm (m1 + (1 : Int32)) fun x1 => f1_copyFrom_l10 o a1 k1 n1 x1 s6))))))))
def f1_copyFrom (o : Nat) (a1 : Nat) (s0 : Mem) : Option Mem :=
  nm (ms s0 50 o 0 (s0 50 a1 0)) fun s1 => nm (fun (s2 : Mem) => some s2) fun k1 => f1_copyFrom_l10 o a1 k1 FU (0 : Int32) s1
def rm_1_copyFrom : Room := { frames := 0, cells := 0, slots := 0, locals := 0 }
set_option maxHeartbeats 4000000 in
set_option maxRecDepth 100000 in
theorem k1_copyFrom {κ : Kx} {τ : Nat → Int64} {o : Nat} {a1 : Nat} {s0 sR : Mem} (h_o : o < 114) (h_a1 : a1 < 114) (hf : f1_copyFrom o a1 s0 = some sR) : CtV κ yX1_copyFrom cX1_copyFrom 3 none rm_1_copyFrom (NV κ τ) (NV κ τ) [.ref (ad κ.1 9 o), .ref (ad κ.1 9 a1)] s0 sR := by
  refine ct_V (by decide +kernel) (Nat.le_of_ble_eq_true rfl) (fun φ hc hr => ?_)
  have hc : Cx κ φ RX1 cX1_copyFrom 3 rm_1_copyFrom := hc
  show G κ φ (QV κ φ (NV κ τ) sR rm_1_copyFrom.cells rm_1_copyFrom.slots) (NV κ τ) 0 0 s0 [(0, .ref (ad κ.1 9 o)), (1, .ref (ad κ.1 9 a1))] 0 []
  unfold f1_copyFrom at hf
  refine g_aload_n (i := 0) hc 0 rfl rfl dX1_copyFrom_0 (pc2 := 1) rfl ?_
  refine g_aload_n (i := 1) hc 1 rfl rfl dX1_copyFrom_1 (pc2 := 2) rfl ?_
  refine g_geti hc fo_X1_22 (u9 (by omega)) dX1_copyFrom_2 (pc2 := 5) rfl ?_
  obtain ⟨s1, hs1, hf⟩ := nm_ex hf
  refine g_puti hc (by decide) fo_X1_22 clO_9 poK_9_0 rfl (u9 (by omega)) rfl rfl dX1_copyFrom_5 (pc2 := 8) rfl ?_
  refine g_nms hs1 ?_
  refine g_iconst (v := (0 : Int32)) hc (by decide) dX1_copyFrom_8 (pc2 := 9) rfl ?_
  refine g_istore_n (i := 2) (L1 := [(2, .int (0 : Int32)), (0, .ref (ad κ.1 9 o)), (1, .ref (ad κ.1 9 a1))]) hc rfl (by decide) rfl dX1_copyFrom_9 (pc2 := 10) rfl ?_
  obtain ⟨k1, hk1, hf⟩ := nm_ex hf
  have Hk1 : ∀ (s2 : Mem), k1 s2 = some sR → G κ φ (QV κ φ (NV κ τ) sR rm_1_copyFrom.cells rm_1_copyFrom.slots) (NV κ τ) 0 0 s2 [] 66 [] := by
    intro s2 hf
    rw [hk1] at hf
    exact g_vret hc hf hr (by decide) (by decide) dX1_copyFrom_66
  have LP_n1 : ∀ (n1 : Nat) (m1 : Int32) (s3 : Mem), f1_copyFrom_l10 o a1 k1 n1 m1 s3 = some sR → G κ φ (QV κ φ (NV κ τ) sR rm_1_copyFrom.cells rm_1_copyFrom.slots) (NV κ τ) 0 0 s3 [(0, .ref (ad κ.1 9 o)), (1, .ref (ad κ.1 9 a1)), (2, .int m1)] 10 [] := by
    intro n1
    induction n1 with
    | zero => intro m1 s3 hf; rw [f1_copyFrom_l10] at hf; cases hf
    | succ n1 ih_n1 =>
      intro m1 s3 hf
      rw [f1_copyFrom_l10] at hf
      refine g_iload_n (i := 2) hc 2 rfl rfl dX1_copyFrom_10 (pc2 := 11) rfl ?_
      refine g_aload_n (i := 0) hc 0 rfl rfl dX1_copyFrom_11 (pc2 := 12) rfl ?_
      refine g_geti hc fo_X1_22 (u9 (by omega)) dX1_copyFrom_12 (pc2 := 15) rfl ?_
      refine g_icmp_ge hc 66 (by decide) dX1_copyFrom_15 (pc2 := 18) rfl (fun q => ?_) (fun q => ?_)
      · have hf := ite_t hf q
        refine g_sub [] rfl ?_
        exact Hk1 _ hf
      · have hf := ite_f hf q
        refine g_iload_n (i := 2) hc 2 rfl rfl dX1_copyFrom_18 (pc2 := 19) rfl ?_
        refine g_bipush (v := (6 : Int32)) hc (by decide) dX1_copyFrom_19 (pc2 := 21) rfl ?_
        refine g_icmp_ge hc 66 (by decide) dX1_copyFrom_21 (pc2 := 24) rfl (fun q => ?_) (fun q => ?_)
        · have hf := ite_t hf q
          refine g_sub [] rfl ?_
          exact Hk1 _ hf
        · have hf := ite_f hf q
          refine g_aload_n (i := 0) hc 0 rfl rfl dX1_copyFrom_24 (pc2 := 25) rfl ?_
          refine g_getr (q := ad κ.1 10 o) hc fo_X1_9 (u9 (by omega)) rfl dX1_copyFrom_25 (pc2 := 28) rfl ?_
          refine g_iload_n (i := 2) hc 2 rfl rfl dX1_copyFrom_28 (pc2 := 29) rfl ?_
          refine g_aload_n (i := 1) hc 1 rfl rfl dX1_copyFrom_29 (pc2 := 30) rfl ?_
          refine g_getr (q := ad κ.1 10 a1) hc fo_X1_9 (u9 (by omega)) rfl dX1_copyFrom_30 (pc2 := 33) rfl ?_
          refine g_iload_n (i := 2) hc 2 rfl rfl dX1_copyFrom_33 (pc2 := 34) rfl ?_
          obtain ⟨hg1, hf⟩ := gd_some hf
          refine g_aldi hc 10 a1 rfl (u10 (by omega)) hg1 dX1_copyFrom_34 (pc2 := 35) rfl ?_
          obtain ⟨hg2, hf⟩ := gd_some hf
          obtain ⟨s4, hs4, hf⟩ := nm_ex hf
          refine g_asti hc 10 o rfl (u10 (by omega)) hg2 dX1_copyFrom_35 (pc2 := 36) rfl ?_
          refine g_nms hs4 ?_
          refine g_aload_n (i := 0) hc 0 rfl rfl dX1_copyFrom_36 (pc2 := 37) rfl ?_
          refine g_getr (q := ad κ.1 11 o) hc fo_X1_15 (u9 (by omega)) rfl dX1_copyFrom_37 (pc2 := 40) rfl ?_
          refine g_iload_n (i := 2) hc 2 rfl rfl dX1_copyFrom_40 (pc2 := 41) rfl ?_
          refine g_aload_n (i := 1) hc 1 rfl rfl dX1_copyFrom_41 (pc2 := 42) rfl ?_
          refine g_getr (q := ad κ.1 11 a1) hc fo_X1_15 (u9 (by omega)) rfl dX1_copyFrom_42 (pc2 := 45) rfl ?_
          refine g_iload_n (i := 2) hc 2 rfl rfl dX1_copyFrom_45 (pc2 := 46) rfl ?_
          obtain ⟨hg3, hf⟩ := gd_some hf
          refine g_aldi hc 11 a1 rfl (u11 (by omega)) hg3 dX1_copyFrom_46 (pc2 := 47) rfl ?_
          obtain ⟨hg4, hf⟩ := gd_some hf
          obtain ⟨s5, hs5, hf⟩ := nm_ex hf
          refine g_asti hc 11 o rfl (u11 (by omega)) hg4 dX1_copyFrom_47 (pc2 := 48) rfl ?_
          refine g_nms hs5 ?_
          refine g_aload_n (i := 0) hc 0 rfl rfl dX1_copyFrom_48 (pc2 := 49) rfl ?_
          refine g_getr (q := ad κ.1 12 o) hc fo_X1_18 (u9 (by omega)) rfl dX1_copyFrom_49 (pc2 := 52) rfl ?_
          refine g_iload_n (i := 2) hc 2 rfl rfl dX1_copyFrom_52 (pc2 := 53) rfl ?_
          refine g_aload_n (i := 1) hc 1 rfl rfl dX1_copyFrom_53 (pc2 := 54) rfl ?_
          refine g_getr (q := ad κ.1 12 a1) hc fo_X1_18 (u9 (by omega)) rfl dX1_copyFrom_54 (pc2 := 57) rfl ?_
          refine g_iload_n (i := 2) hc 2 rfl rfl dX1_copyFrom_57 (pc2 := 58) rfl ?_
          obtain ⟨hg5, hf⟩ := gd_some hf
          refine g_aldz hc 12 a1 rfl (u12 (by omega)) hg5 dX1_copyFrom_58 (pc2 := 59) rfl ?_
          obtain ⟨hg6, hf⟩ := gd_some hf
          obtain ⟨s6, hs6, hf⟩ := nm_ex hf
          refine g_astz hc 12 o rfl (u12 (by omega)) hg6 dX1_copyFrom_59 (pc2 := 60) rfl ?_
          refine g_nms hs6 ?_
          obtain ⟨x1, hx1, hf⟩ := nm_ex hf
          refine g_iinc (v := x1) (L1 := [(2, .int x1), (0, .ref (ad κ.1 9 o)), (1, .ref (ad κ.1 9 a1))]) hc 2 rfl (by rw [hx1]; rfl) (by decide) rfl dX1_copyFrom_60 (pc2 := 63) rfl ?_
          refine g_goto hc 10 (by decide) dX1_copyFrom_63 ?_
          refine g_sub [1, 2, 0] rfl ?_
          exact ih_n1 _ _ hf
  refine g_sub [1, 2, 0] rfl ?_
  exact LP_n1 _ _ _ hf
def f1_isFull (o : Nat) (s0 : Mem) : Option (Int32 × Mem) :=
  (if (s0 50 o 0) < (6 : Int32) then some ((0 : Int32), s0) else some ((1 : Int32), s0))
def rm_1_isFull : Room := { frames := 0, cells := 0, slots := 0, locals := 0 }
set_option maxHeartbeats 4000000 in
set_option maxRecDepth 100000 in
theorem k1_isFull {κ : Kx} {τ : Nat → Int64} {o : Nat} {s0 sR : Mem} {rR : Int32} (h_o : o < 114) (hf : f1_isFull o s0 = some (rR, sR)) : CtI κ yX1_isFull cX1_isFull 1 (some .boolean) rm_1_isFull (NV κ τ) (NV κ τ) [.ref (ad κ.1 9 o)] s0 sR rR := by
  refine ct_I (by decide +kernel) (Nat.le_of_ble_eq_true rfl) (fun φ hc hr => ?_)
  have hc : Cx κ φ RX1 cX1_isFull 1 rm_1_isFull := hc
  show G κ φ (QI κ φ (NV κ τ) sR rR rm_1_isFull.cells rm_1_isFull.slots) (NV κ τ) 0 0 s0 [(0, .ref (ad κ.1 9 o))] 0 []
  unfold f1_isFull at hf
  refine g_aload_n (i := 0) hc 0 rfl rfl dX1_isFull_0 (pc2 := 1) rfl ?_
  refine g_geti hc fo_X1_22 (u9 (by omega)) dX1_isFull_1 (pc2 := 4) rfl ?_
  refine g_bipush (v := (6 : Int32)) hc (by decide) dX1_isFull_4 (pc2 := 6) rfl ?_
  refine g_icmp_lt hc 13 (by decide) dX1_isFull_6 (pc2 := 9) rfl (fun q => ?_) (fun q => ?_)
  · have hf := ite_t hf q
    refine g_iconst (v := (0 : Int32)) hc (by decide) dX1_isFull_13 (pc2 := 14) rfl ?_
    exact g_iret hc hf hr rfl (by decide) (by decide) dX1_isFull_14
  · have hf := ite_f hf q
    refine g_iconst (v := (1 : Int32)) hc (by decide) dX1_isFull_9 (pc2 := 10) rfl ?_
    refine g_goto hc 14 (by decide) dX1_isFull_10 ?_
    exact g_iret hc hf hr rfl (by decide) (by decide) dX1_isFull_14
def f1_add (o : Nat) (a1 : Int32) (a2 : Int32) (a3 : Int32) (s0 : Mem) : Option Mem :=
  (if (s0 50 o 0) < (0 : Int32) then some s0 else (if (s0 50 o 0) < (6 : Int32) then gd (ib (s0 50 o 0) 6) (nm (ms s0 10 o (s0 50 o 0).toNatClampNeg a1) fun s1 => gd (ib (s1 50 o 0) 6) (nm (ms s1 11 o (s1 50 o 0).toNatClampNeg a2) fun s2 => gd (ib (s2 50 o 0) 6) (nm (ms s2 12 o (s2 50 o 0).toNatClampNeg (zb a3)) fun s3 => nm (ms s3 50 o 0 ((s3 50 o 0) + (1 : Int32))) fun s4 => some s4))) else some s0))
def rm_1_add : Room := { frames := 0, cells := 0, slots := 0, locals := 0 }
set_option maxHeartbeats 4000000 in
set_option maxRecDepth 100000 in
theorem k1_add {κ : Kx} {τ : Nat → Int64} {o : Nat} {a1 : Int32} {a2 : Int32} {a3 : Int32} {s0 sR : Mem} (h_o : o < 114) (hf : f1_add o a1 a2 a3 s0 = some sR) : CtV κ yX1_add cX1_add 4 none rm_1_add (NV κ τ) (NV κ τ) [.ref (ad κ.1 9 o), .int a1, .int a2, .int a3] s0 sR := by
  refine ct_V (by decide +kernel) (Nat.le_of_ble_eq_true rfl) (fun φ hc hr => ?_)
  have hc : Cx κ φ RX1 cX1_add 4 rm_1_add := hc
  show G κ φ (QV κ φ (NV κ τ) sR rm_1_add.cells rm_1_add.slots) (NV κ τ) 0 0 s0 [(0, .ref (ad κ.1 9 o)), (1, .int a1), (2, .int a2), (3, .int a3)] 0 []
  unfold f1_add at hf
  refine g_aload_n (i := 0) hc 0 rfl rfl dX1_add_0 (pc2 := 1) rfl ?_
  refine g_geti hc fo_X1_22 (u9 (by omega)) dX1_add_1 (pc2 := 4) rfl ?_
  refine g_if_lt hc 16 (by decide) dX1_add_4 (pc2 := 7) rfl (fun q => ?_) (fun q => ?_)
  · have hf := ite_t hf q
    exact g_vret hc hf hr (by decide) (by decide) dX1_add_16
  · have hf := ite_f hf q
    refine g_aload_n (i := 0) hc 0 rfl rfl dX1_add_7 (pc2 := 8) rfl ?_
    refine g_geti hc fo_X1_22 (u9 (by omega)) dX1_add_8 (pc2 := 11) rfl ?_
    refine g_bipush (v := (6 : Int32)) hc (by decide) dX1_add_11 (pc2 := 13) rfl ?_
    refine g_icmp_lt hc 17 (by decide) dX1_add_13 (pc2 := 16) rfl (fun q => ?_) (fun q => ?_)
    · have hf := ite_t hf q
      refine g_aload_n (i := 0) hc 0 rfl rfl dX1_add_17 (pc2 := 18) rfl ?_
      refine g_getr (q := ad κ.1 10 o) hc fo_X1_9 (u9 (by omega)) rfl dX1_add_18 (pc2 := 21) rfl ?_
      refine g_aload_n (i := 0) hc 0 rfl rfl dX1_add_21 (pc2 := 22) rfl ?_
      refine g_geti hc fo_X1_22 (u9 (by omega)) dX1_add_22 (pc2 := 25) rfl ?_
      refine g_iload_n (i := 1) hc 1 rfl rfl dX1_add_25 (pc2 := 26) rfl ?_
      obtain ⟨hg1, hf⟩ := gd_some hf
      obtain ⟨s1, hs1, hf⟩ := nm_ex hf
      refine g_asti hc 10 o rfl (u10 (by omega)) hg1 dX1_add_26 (pc2 := 27) rfl ?_
      refine g_nms hs1 ?_
      refine g_aload_n (i := 0) hc 0 rfl rfl dX1_add_27 (pc2 := 28) rfl ?_
      refine g_getr (q := ad κ.1 11 o) hc fo_X1_15 (u9 (by omega)) rfl dX1_add_28 (pc2 := 31) rfl ?_
      refine g_aload_n (i := 0) hc 0 rfl rfl dX1_add_31 (pc2 := 32) rfl ?_
      refine g_geti hc fo_X1_22 (u9 (by omega)) dX1_add_32 (pc2 := 35) rfl ?_
      refine g_iload_n (i := 2) hc 2 rfl rfl dX1_add_35 (pc2 := 36) rfl ?_
      obtain ⟨hg2, hf⟩ := gd_some hf
      obtain ⟨s2, hs2, hf⟩ := nm_ex hf
      refine g_asti hc 11 o rfl (u11 (by omega)) hg2 dX1_add_36 (pc2 := 37) rfl ?_
      refine g_nms hs2 ?_
      refine g_aload_n (i := 0) hc 0 rfl rfl dX1_add_37 (pc2 := 38) rfl ?_
      refine g_getr (q := ad κ.1 12 o) hc fo_X1_18 (u9 (by omega)) rfl dX1_add_38 (pc2 := 41) rfl ?_
      refine g_aload_n (i := 0) hc 0 rfl rfl dX1_add_41 (pc2 := 42) rfl ?_
      refine g_geti hc fo_X1_22 (u9 (by omega)) dX1_add_42 (pc2 := 45) rfl ?_
      refine g_iload_n (i := 3) hc 3 rfl rfl dX1_add_45 (pc2 := 46) rfl ?_
      obtain ⟨hg3, hf⟩ := gd_some hf
      obtain ⟨s3, hs3, hf⟩ := nm_ex hf
      refine g_astz hc 12 o rfl (u12 (by omega)) hg3 dX1_add_46 (pc2 := 47) rfl ?_
      refine g_nms hs3 ?_
      refine g_aload_n (i := 0) hc 0 rfl rfl dX1_add_47 (pc2 := 48) rfl ?_
      refine g_dup hc rfl dX1_add_48 (pc2 := 49) rfl ?_
      refine g_geti hc fo_X1_22 (u9 (by omega)) dX1_add_49 (pc2 := 52) rfl ?_
      refine g_iconst (v := (1 : Int32)) hc (by decide) dX1_add_52 (pc2 := 53) rfl ?_
      refine g_iadd hc dX1_add_53 (pc2 := 54) rfl ?_
      obtain ⟨s4, hs4, hf⟩ := nm_ex hf
      refine g_puti hc (by decide) fo_X1_22 clO_9 poK_9_0 rfl (u9 (by omega)) rfl rfl dX1_add_54 (pc2 := 57) rfl ?_
      refine g_nms hs4 ?_
      exact g_vret hc hf hr (by decide) (by decide) dX1_add_57
    · have hf := ite_f hf q
      exact g_vret hc hf hr (by decide) (by decide) dX1_add_16
def f1_allWords_l4 (o : Nat) (k1 : Int32 → Mem → Option (Int32 × Mem)) : Nat → Int32 → Int32 → Mem → Option (Int32 × Mem)
  | 0, _, _, _ => none
  | n1 + 1, m1, m2, s2 => (if (s2 50 o 0) ≤ m2 then k1 m1 s2 else (if (6 : Int32) ≤ m2 then k1 m1 s2 else gd (ib m2 6) (nm (m1 + (s2 11 o m2.toNatClampNeg)) fun x1 => nm (m2 + (1 : Int32)) fun x2 => f1_allWords_l4 o k1 n1 x1 x2 s2)))
def f1_allWords (o : Nat) (s0 : Mem) : Option (Int32 × Mem) :=
  nm (fun (y1 : Int32) (s1 : Mem) => some (y1, s1)) fun k1 => f1_allWords_l4 o k1 FU (0 : Int32) (0 : Int32) s0
def rm_1_allWords : Room := { frames := 0, cells := 0, slots := 0, locals := 0 }
set_option maxHeartbeats 4000000 in
set_option maxRecDepth 100000 in
theorem k1_allWords {κ : Kx} {τ : Nat → Int64} {o : Nat} {s0 sR : Mem} {rR : Int32} (h_o : o < 114) (hf : f1_allWords o s0 = some (rR, sR)) : CtI κ yX1_allWords cX1_allWords 3 (some .int) rm_1_allWords (NV κ τ) (NV κ τ) [.ref (ad κ.1 9 o)] s0 sR rR := by
  refine ct_I (by decide +kernel) (Nat.le_of_ble_eq_true rfl) (fun φ hc hr => ?_)
  have hc : Cx κ φ RX1 cX1_allWords 3 rm_1_allWords := hc
  show G κ φ (QI κ φ (NV κ τ) sR rR rm_1_allWords.cells rm_1_allWords.slots) (NV κ τ) 0 0 s0 [(0, .ref (ad κ.1 9 o))] 0 []
  unfold f1_allWords at hf
  refine g_iconst (v := (0 : Int32)) hc (by decide) dX1_allWords_0 (pc2 := 1) rfl ?_
  refine g_istore_n (i := 1) (L1 := [(1, .int (0 : Int32)), (0, .ref (ad κ.1 9 o))]) hc rfl (by decide) rfl dX1_allWords_1 (pc2 := 2) rfl ?_
  refine g_iconst (v := (0 : Int32)) hc (by decide) dX1_allWords_2 (pc2 := 3) rfl ?_
  refine g_istore_n (i := 2) (L1 := [(2, .int (0 : Int32)), (1, .int (0 : Int32)), (0, .ref (ad κ.1 9 o))]) hc rfl (by decide) rfl dX1_allWords_3 (pc2 := 4) rfl ?_
  obtain ⟨k1, hk1, hf⟩ := nm_ex hf
  have Hk1 : ∀ (y1 : Int32) (s1 : Mem), k1 y1 s1 = some (rR, sR) → G κ φ (QI κ φ (NV κ τ) sR rR rm_1_allWords.cells rm_1_allWords.slots) (NV κ τ) 0 0 s1 [(1, .int y1)] 33 [] := by
    intro y1 s1 hf
    rw [hk1] at hf
    refine g_iload_n (i := 1) hc 0 rfl rfl dX1_allWords_33 (pc2 := 34) rfl ?_
    exact g_iret hc hf hr rfl (by decide) (by decide) dX1_allWords_34
  have LP_n1 : ∀ (n1 : Nat) (m1 : Int32) (m2 : Int32) (s2 : Mem), f1_allWords_l4 o k1 n1 m1 m2 s2 = some (rR, sR) → G κ φ (QI κ φ (NV κ τ) sR rR rm_1_allWords.cells rm_1_allWords.slots) (NV κ τ) 0 0 s2 [(0, .ref (ad κ.1 9 o)), (1, .int m1), (2, .int m2)] 4 [] := by
    intro n1
    induction n1 with
    | zero => intro m1 m2 s2 hf; rw [f1_allWords_l4] at hf; cases hf
    | succ n1 ih_n1 =>
      intro m1 m2 s2 hf
      rw [f1_allWords_l4] at hf
      refine g_iload_n (i := 2) hc 2 rfl rfl dX1_allWords_4 (pc2 := 5) rfl ?_
      refine g_aload_n (i := 0) hc 0 rfl rfl dX1_allWords_5 (pc2 := 6) rfl ?_
      refine g_geti hc fo_X1_22 (u9 (by omega)) dX1_allWords_6 (pc2 := 9) rfl ?_
      refine g_icmp_ge hc 33 (by decide) dX1_allWords_9 (pc2 := 12) rfl (fun q => ?_) (fun q => ?_)
      · have hf := ite_t hf q
        refine g_sub [1] rfl ?_
        exact Hk1 _ _ hf
      · have hf := ite_f hf q
        refine g_iload_n (i := 2) hc 2 rfl rfl dX1_allWords_12 (pc2 := 13) rfl ?_
        refine g_bipush (v := (6 : Int32)) hc (by decide) dX1_allWords_13 (pc2 := 15) rfl ?_
        refine g_icmp_ge hc 33 (by decide) dX1_allWords_15 (pc2 := 18) rfl (fun q => ?_) (fun q => ?_)
        · have hf := ite_t hf q
          refine g_sub [1] rfl ?_
          exact Hk1 _ _ hf
        · have hf := ite_f hf q
          refine g_iload_n (i := 1) hc 1 rfl rfl dX1_allWords_18 (pc2 := 19) rfl ?_
          refine g_aload_n (i := 0) hc 0 rfl rfl dX1_allWords_19 (pc2 := 20) rfl ?_
          refine g_getr (q := ad κ.1 11 o) hc fo_X1_15 (u9 (by omega)) rfl dX1_allWords_20 (pc2 := 23) rfl ?_
          refine g_iload_n (i := 2) hc 2 rfl rfl dX1_allWords_23 (pc2 := 24) rfl ?_
          obtain ⟨hg1, hf⟩ := gd_some hf
          refine g_aldi hc 11 o rfl (u11 (by omega)) hg1 dX1_allWords_24 (pc2 := 25) rfl ?_
          refine g_iadd hc dX1_allWords_25 (pc2 := 26) rfl ?_
          obtain ⟨x1, hx1, hf⟩ := nm_ex hf
          refine g_nmi hx1 ?_
          refine g_istore_n (i := 1) (L1 := [(1, .int x1), (0, .ref (ad κ.1 9 o)), (2, .int m2)]) hc rfl (by decide) rfl dX1_allWords_26 (pc2 := 27) rfl ?_
          obtain ⟨x2, hx2, hf⟩ := nm_ex hf
          refine g_iinc (v := x2) (L1 := [(2, .int x2), (1, .int x1), (0, .ref (ad κ.1 9 o))]) hc 2 rfl (by rw [hx2]; rfl) (by decide) rfl dX1_allWords_27 (pc2 := 30) rfl ?_
          refine g_goto hc 4 (by decide) dX1_allWords_30 ?_
          refine g_sub [2, 1, 0] rfl ?_
          exact ih_n1 _ _ _ hf
  refine g_sub [2, 1, 0] rfl ?_
  exact LP_n1 _ _ _ _ hf
def f1_removeFirst_l2 (o : Nat) (k1 : Mem → Option Mem) : Nat → Int32 → Mem → Option Mem
  | 0, _, _ => none
  | n1 + 1, m1, s3 => (if (s3 50 o 0) ≤ m1 then k1 s3 else (if (6 : Int32) ≤ m1 then k1 s3 else gd (ib m1 6) (gd (ib (m1 - (1 : Int32)) 6) (nm (ms s3 10 o (m1 - (1 : Int32)).toNatClampNeg (s3 10 o m1.toNatClampNeg)) fun s4 => gd (ib m1 6) (gd (ib (m1 - (1 : Int32)) 6) (nm (ms s4 11 o (m1 - (1 : Int32)).toNatClampNeg (s4 11 o m1.toNatClampNeg)) fun s5 => gd (ib m1 6) (gd (ib (m1 - (1 : Int32)) 6) (nm (ms s5 12 o (m1 - (1 : Int32)).toNatClampNeg (zb (s5 12 o m1.toNatClampNeg))) fun s6 => nm (m1 + (1 : Int32)) fun x1 => f1_removeFirst_l2 o k1 n1 x1 s6))))))))
def f1_removeFirst (o : Nat) (s0 : Mem) : Option Mem :=
  nm (fun (s1 : Mem) => nm (ms s1 50 o 0 ((s1 50 o 0) - (1 : Int32))) fun s2 => some s2) fun k1 => f1_removeFirst_l2 o k1 FU (1 : Int32) s0
def rm_1_removeFirst : Room := { frames := 0, cells := 0, slots := 0, locals := 0 }
set_option maxHeartbeats 4000000 in
set_option maxRecDepth 100000 in
theorem k1_removeFirst {κ : Kx} {τ : Nat → Int64} {o : Nat} {s0 sR : Mem} (h_o : o < 114) (hf : f1_removeFirst o s0 = some sR) : CtV κ yX1_removeFirst cX1_removeFirst 2 none rm_1_removeFirst (NV κ τ) (NV κ τ) [.ref (ad κ.1 9 o)] s0 sR := by
  refine ct_V (by decide +kernel) (Nat.le_of_ble_eq_true rfl) (fun φ hc hr => ?_)
  have hc : Cx κ φ RX1 cX1_removeFirst 2 rm_1_removeFirst := hc
  show G κ φ (QV κ φ (NV κ τ) sR rm_1_removeFirst.cells rm_1_removeFirst.slots) (NV κ τ) 0 0 s0 [(0, .ref (ad κ.1 9 o))] 0 []
  unfold f1_removeFirst at hf
  refine g_iconst (v := (1 : Int32)) hc (by decide) dX1_removeFirst_0 (pc2 := 1) rfl ?_
  refine g_istore_n (i := 1) (L1 := [(1, .int (1 : Int32)), (0, .ref (ad κ.1 9 o))]) hc rfl (by decide) rfl dX1_removeFirst_1 (pc2 := 2) rfl ?_
  obtain ⟨k1, hk1, hf⟩ := nm_ex hf
  have Hk1 : ∀ (s1 : Mem), k1 s1 = some sR → G κ φ (QV κ φ (NV κ τ) sR rm_1_removeFirst.cells rm_1_removeFirst.slots) (NV κ τ) 0 0 s1 [(0, .ref (ad κ.1 9 o))] 64 [] := by
    intro s1 hf
    rw [hk1] at hf
    refine g_aload_n (i := 0) hc 0 rfl rfl dX1_removeFirst_64 (pc2 := 65) rfl ?_
    refine g_dup hc rfl dX1_removeFirst_65 (pc2 := 66) rfl ?_
    refine g_geti hc fo_X1_22 (u9 (by omega)) dX1_removeFirst_66 (pc2 := 69) rfl ?_
    refine g_iconst (v := (1 : Int32)) hc (by decide) dX1_removeFirst_69 (pc2 := 70) rfl ?_
    refine g_isub hc dX1_removeFirst_70 (pc2 := 71) rfl ?_
    obtain ⟨s2, hs2, hf⟩ := nm_ex hf
    refine g_puti hc (by decide) fo_X1_22 clO_9 poK_9_0 rfl (u9 (by omega)) rfl rfl dX1_removeFirst_71 (pc2 := 74) rfl ?_
    refine g_nms hs2 ?_
    exact g_vret hc hf hr (by decide) (by decide) dX1_removeFirst_74
  have LP_n1 : ∀ (n1 : Nat) (m1 : Int32) (s3 : Mem), f1_removeFirst_l2 o k1 n1 m1 s3 = some sR → G κ φ (QV κ φ (NV κ τ) sR rm_1_removeFirst.cells rm_1_removeFirst.slots) (NV κ τ) 0 0 s3 [(0, .ref (ad κ.1 9 o)), (1, .int m1)] 2 [] := by
    intro n1
    induction n1 with
    | zero => intro m1 s3 hf; rw [f1_removeFirst_l2] at hf; cases hf
    | succ n1 ih_n1 =>
      intro m1 s3 hf
      rw [f1_removeFirst_l2] at hf
      refine g_iload_n (i := 1) hc 1 rfl rfl dX1_removeFirst_2 (pc2 := 3) rfl ?_
      refine g_aload_n (i := 0) hc 0 rfl rfl dX1_removeFirst_3 (pc2 := 4) rfl ?_
      refine g_geti hc fo_X1_22 (u9 (by omega)) dX1_removeFirst_4 (pc2 := 7) rfl ?_
      refine g_icmp_ge hc 64 (by decide) dX1_removeFirst_7 (pc2 := 10) rfl (fun q => ?_) (fun q => ?_)
      · have hf := ite_t hf q
        refine g_sub [0] rfl ?_
        exact Hk1 _ hf
      · have hf := ite_f hf q
        refine g_iload_n (i := 1) hc 1 rfl rfl dX1_removeFirst_10 (pc2 := 11) rfl ?_
        refine g_bipush (v := (6 : Int32)) hc (by decide) dX1_removeFirst_11 (pc2 := 13) rfl ?_
        refine g_icmp_ge hc 64 (by decide) dX1_removeFirst_13 (pc2 := 16) rfl (fun q => ?_) (fun q => ?_)
        · have hf := ite_t hf q
          refine g_sub [0] rfl ?_
          exact Hk1 _ hf
        · have hf := ite_f hf q
          refine g_aload_n (i := 0) hc 0 rfl rfl dX1_removeFirst_16 (pc2 := 17) rfl ?_
          refine g_getr (q := ad κ.1 10 o) hc fo_X1_9 (u9 (by omega)) rfl dX1_removeFirst_17 (pc2 := 20) rfl ?_
          refine g_iload_n (i := 1) hc 1 rfl rfl dX1_removeFirst_20 (pc2 := 21) rfl ?_
          refine g_iconst (v := (1 : Int32)) hc (by decide) dX1_removeFirst_21 (pc2 := 22) rfl ?_
          refine g_isub hc dX1_removeFirst_22 (pc2 := 23) rfl ?_
          refine g_aload_n (i := 0) hc 0 rfl rfl dX1_removeFirst_23 (pc2 := 24) rfl ?_
          refine g_getr (q := ad κ.1 10 o) hc fo_X1_9 (u9 (by omega)) rfl dX1_removeFirst_24 (pc2 := 27) rfl ?_
          refine g_iload_n (i := 1) hc 1 rfl rfl dX1_removeFirst_27 (pc2 := 28) rfl ?_
          obtain ⟨hg1, hf⟩ := gd_some hf
          refine g_aldi hc 10 o rfl (u10 (by omega)) hg1 dX1_removeFirst_28 (pc2 := 29) rfl ?_
          obtain ⟨hg2, hf⟩ := gd_some hf
          obtain ⟨s4, hs4, hf⟩ := nm_ex hf
          refine g_asti hc 10 o rfl (u10 (by omega)) hg2 dX1_removeFirst_29 (pc2 := 30) rfl ?_
          refine g_nms hs4 ?_
          refine g_aload_n (i := 0) hc 0 rfl rfl dX1_removeFirst_30 (pc2 := 31) rfl ?_
          refine g_getr (q := ad κ.1 11 o) hc fo_X1_15 (u9 (by omega)) rfl dX1_removeFirst_31 (pc2 := 34) rfl ?_
          refine g_iload_n (i := 1) hc 1 rfl rfl dX1_removeFirst_34 (pc2 := 35) rfl ?_
          refine g_iconst (v := (1 : Int32)) hc (by decide) dX1_removeFirst_35 (pc2 := 36) rfl ?_
          refine g_isub hc dX1_removeFirst_36 (pc2 := 37) rfl ?_
          refine g_aload_n (i := 0) hc 0 rfl rfl dX1_removeFirst_37 (pc2 := 38) rfl ?_
          refine g_getr (q := ad κ.1 11 o) hc fo_X1_15 (u9 (by omega)) rfl dX1_removeFirst_38 (pc2 := 41) rfl ?_
          refine g_iload_n (i := 1) hc 1 rfl rfl dX1_removeFirst_41 (pc2 := 42) rfl ?_
          obtain ⟨hg3, hf⟩ := gd_some hf
          refine g_aldi hc 11 o rfl (u11 (by omega)) hg3 dX1_removeFirst_42 (pc2 := 43) rfl ?_
          obtain ⟨hg4, hf⟩ := gd_some hf
          obtain ⟨s5, hs5, hf⟩ := nm_ex hf
          refine g_asti hc 11 o rfl (u11 (by omega)) hg4 dX1_removeFirst_43 (pc2 := 44) rfl ?_
          refine g_nms hs5 ?_
          refine g_aload_n (i := 0) hc 0 rfl rfl dX1_removeFirst_44 (pc2 := 45) rfl ?_
          refine g_getr (q := ad κ.1 12 o) hc fo_X1_18 (u9 (by omega)) rfl dX1_removeFirst_45 (pc2 := 48) rfl ?_
          refine g_iload_n (i := 1) hc 1 rfl rfl dX1_removeFirst_48 (pc2 := 49) rfl ?_
          refine g_iconst (v := (1 : Int32)) hc (by decide) dX1_removeFirst_49 (pc2 := 50) rfl ?_
          refine g_isub hc dX1_removeFirst_50 (pc2 := 51) rfl ?_
          refine g_aload_n (i := 0) hc 0 rfl rfl dX1_removeFirst_51 (pc2 := 52) rfl ?_
          refine g_getr (q := ad κ.1 12 o) hc fo_X1_18 (u9 (by omega)) rfl dX1_removeFirst_52 (pc2 := 55) rfl ?_
          refine g_iload_n (i := 1) hc 1 rfl rfl dX1_removeFirst_55 (pc2 := 56) rfl ?_
          obtain ⟨hg5, hf⟩ := gd_some hf
          refine g_aldz hc 12 o rfl (u12 (by omega)) hg5 dX1_removeFirst_56 (pc2 := 57) rfl ?_
          obtain ⟨hg6, hf⟩ := gd_some hf
          obtain ⟨s6, hs6, hf⟩ := nm_ex hf
          refine g_astz hc 12 o rfl (u12 (by omega)) hg6 dX1_removeFirst_57 (pc2 := 58) rfl ?_
          refine g_nms hs6 ?_
          obtain ⟨x1, hx1, hf⟩ := nm_ex hf
          refine g_iinc (v := x1) (L1 := [(1, .int x1), (0, .ref (ad κ.1 9 o))]) hc 1 rfl (by rw [hx1]; rfl) (by decide) rfl dX1_removeFirst_58 (pc2 := 61) rfl ?_
          refine g_goto hc 2 (by decide) dX1_removeFirst_61 ?_
          refine g_sub [1, 0] rfl ?_
          exact ih_n1 _ _ hf
  refine g_sub [1, 0] rfl ?_
  exact LP_n1 _ _ _ hf
