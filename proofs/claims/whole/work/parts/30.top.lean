def f6_append (a1 : Int32) (s0 : Mem) : Option ((Nat ⊕ Int32) × Mem) :=
  (if a1 < (0 : Int32) then some (.inl 0, s0) else (if a1 ≤ (255 : Int32) then bd (f3_isFull s0) fun r1 s1 => (if r1 = (0 : Int32) then bd (f3_add ((a1.toUInt32 % 65536).toInt32) s1) fun r2 s2 => some (.inr r2, s2) else some (.inl 1, s1)) else some (.inl 0, s0)))
def rm_6_append : Room := { frames := 6, cells := 2, slots := 12, locals := 100 }
set_option maxHeartbeats 4000000 in
set_option maxRecDepth 100000 in
theorem k6_append {κ : Kx} {τ : Nat → Int64} {a1 : Int32} {s0 sR : Mem} {rR : Nat ⊕ Int32}  (hf : f6_append a1 s0 = some (rR, sR)) : CxI κ yX6_append cX6_append 2 (some .int) rm_6_append (NV κ τ) (NV κ τ) [.ref (ad κ.1 0 0), .int a1] s0 sR rR := by
  refine cx_I (by decide +kernel) (Nat.le_of_ble_eq_true rfl) (fun φ hc hr ht => ?_)
  have hc : Cx κ φ RX6 cX6_append 2 rm_6_append := hc
  show G κ φ (QxI κ φ (NV κ τ) sR rR rm_6_append.cells rm_6_append.slots) (NV κ τ) 0 0 s0 [(0, .ref (ad κ.1 0 0)), (1, .int a1)] 0 []
  unfold f6_append at hf
  refine g_iload_n (i := 1) hc 1 rfl rfl dX6_append_0 (pc2 := 1) rfl ?_
  refine g_if_lt hc 11 (by decide) dX6_append_1 (pc2 := 4) rfl (fun q => ?_) (fun q => ?_)
  · have hf := ite_t hf q
    exact g_throwI hc hf ht tx_X6_46_48 dX6_append_11 dX6_append_14 dX6_append_15 dX6_append_17 dX6_append_20 (by decide) (by decide) (by decide)
  · have hf := ite_f hf q
    refine g_iload_n (i := 1) hc 1 rfl rfl dX6_append_4 (pc2 := 5) rfl ?_
    refine g_sipush (v := (255 : Int32)) hc (by decide) dX6_append_5 (pc2 := 8) rfl ?_
    refine g_icmp_le hc 21 (by decide) dX6_append_8 (pc2 := 11) rfl (fun q => ?_) (fun q => ?_)
    · have hf := ite_t hf q
      refine g_aload_n (i := 0) hc 0 rfl rfl dX6_append_21 (pc2 := 22) rfl ?_
      refine g_getr (q := ad κ.1 1 0) hc fo_X6_12 (u0 (by decide)) rfl dX6_append_22 (pc2 := 25) rfl ?_
      obtain ⟨r1, s1, hp, hf⟩ := bd_some hf
      refine g_vI hc (k3_isFull hp) co_X6_51 (u1 (by decide)) rfl rfl (by decide) (by decide) (Nat.le_of_ble_eq_true rfl) dX6_append_25 (pc2 := 28) rfl ?_
      refine g_if_eq hc 41 (by decide) dX6_append_28 (pc2 := 31) rfl (fun q => ?_) (fun q => ?_)
      · have hf := ite_t hf q
        refine g_aload_n (i := 0) hc 0 rfl rfl dX6_append_41 (pc2 := 42) rfl ?_
        refine g_getr (q := ad κ.1 1 0) hc fo_X6_12 (u0 (by decide)) rfl dX6_append_42 (pc2 := 45) rfl ?_
        refine g_iload_n (i := 1) hc 1 rfl rfl dX6_append_45 (pc2 := 46) rfl ?_
        refine g_i2c hc dX6_append_46 (pc2 := 47) rfl ?_
        obtain ⟨r2, s2, hp, hf⟩ := bd_some hf
        refine g_vI hc (k3_add hp) co_X6_60 (u1 (by decide)) rfl rfl (by decide) (by decide) (Nat.le_of_ble_eq_true rfl) dX6_append_47 (pc2 := 50) rfl ?_
        exact g_xiret hc hf hr rfl (by decide) (by decide) dX6_append_50
      · have hf := ite_f hf q
        exact g_throwI hc hf ht tx_X6_57_59 dX6_append_31 dX6_append_34 dX6_append_35 dX6_append_37 dX6_append_40 (by decide) (by decide) (by decide)
    · have hf := ite_f hf q
      exact g_throwI hc hf ht tx_X6_46_48 dX6_append_11 dX6_append_14 dX6_append_15 dX6_append_17 dX6_append_20 (by decide) (by decide) (by decide)
def f6_clearText  (s0 : Mem) : Option (Int32 × Mem) :=
  bd (f3_empty s0) fun r1 s1 => some (r1, s1)
def rm_6_clearText : Room := { frames := 1, cells := 0, slots := 0, locals := 21 }
set_option maxHeartbeats 4000000 in
set_option maxRecDepth 100000 in
theorem k6_clearText {κ : Kx} {τ : Nat → Int64}  {s0 sR : Mem} {rR : Int32}  (hf : f6_clearText s0 = some (rR, sR)) : CtI κ yX6_clearText cX6_clearText 1 (some .int) rm_6_clearText (NV κ τ) (NV κ τ) [.ref (ad κ.1 0 0)] s0 sR rR := by
  refine ct_I (by decide +kernel) (Nat.le_of_ble_eq_true rfl) (fun φ hc hr => ?_)
  have hc : Cx κ φ RX6 cX6_clearText 1 rm_6_clearText := hc
  show G κ φ (QI κ φ (NV κ τ) sR rR rm_6_clearText.cells rm_6_clearText.slots) (NV κ τ) 0 0 s0 [(0, .ref (ad κ.1 0 0))] 0 []
  unfold f6_clearText at hf
  refine g_aload_n (i := 0) hc 0 rfl rfl dX6_clearText_0 (pc2 := 1) rfl ?_
  refine g_getr (q := ad κ.1 1 0) hc fo_X6_12 (u0 (by decide)) rfl dX6_clearText_1 (pc2 := 4) rfl ?_
  obtain ⟨r1, s1, hp, hf⟩ := bd_some hf
  refine g_vI hc (k3_empty hp) co_X6_64 (u1 (by decide)) rfl rfl (by decide) (by decide) (Nat.le_of_ble_eq_true rfl) dX6_clearText_4 (pc2 := 7) rfl ?_
  exact g_iret hc hf hr rfl (by decide) (by decide) dX6_clearText_7
def f6_errorPosition  (s0 : Mem) : Option (Int32 × Mem) :=
  bd (f3_readInto 15 s0) fun r1 s1 => some (r1, s1)
def rm_6_errorPosition : Room := { frames := 6, cells := 0, slots := 0, locals := 138 }
set_option maxHeartbeats 4000000 in
set_option maxRecDepth 100000 in
theorem k6_errorPosition {κ : Kx} {τ : Nat → Int64}  {s0 sR : Mem} {rR : Int32}  (hf : f6_errorPosition s0 = some (rR, sR)) : CtI κ yX6_errorPosition cX6_errorPosition 1 (some .int) rm_6_errorPosition (NV κ τ) (NV κ τ) [.ref (ad κ.1 0 0)] s0 sR rR := by
  refine ct_I (by decide +kernel) (Nat.le_of_ble_eq_true rfl) (fun φ hc hr => ?_)
  have hc : Cx κ φ RX6 cX6_errorPosition 1 rm_6_errorPosition := hc
  show G κ φ (QI κ φ (NV κ τ) sR rR rm_6_errorPosition.cells rm_6_errorPosition.slots) (NV κ τ) 0 0 s0 [(0, .ref (ad κ.1 0 0))] 0 []
  unfold f6_errorPosition at hf
  refine g_aload_n (i := 0) hc 0 rfl rfl dX6_errorPosition_0 (pc2 := 1) rfl ?_
  refine g_getr (q := ad κ.1 1 0) hc fo_X6_12 (u0 (by decide)) rfl dX6_errorPosition_1 (pc2 := 4) rfl ?_
  refine g_aload_n (i := 0) hc 0 rfl rfl dX6_errorPosition_4 (pc2 := 5) rfl ?_
  refine g_getr (q := ad κ.1 3 15) hc fo_X6_38 (u0 (by decide)) rfl dX6_errorPosition_5 (pc2 := 8) rfl ?_
  obtain ⟨r1, s1, hp, hf⟩ := bd_some hf
  refine g_vI hc (k3_readInto (by decide) hp) co_X6_68 (u1 (by decide)) rfl rfl (by decide) (by decide) (Nat.le_of_ble_eq_true rfl) dX6_errorPosition_8 (pc2 := 11) rfl ?_
  exact g_iret hc hf hr rfl (by decide) (by decide) dX6_errorPosition_11
def f6_load_l46  (k1 : Mem → Option ((Nat ⊕ Int32) × Mem)) : Nat → Int32 → Mem → Option ((Nat ⊕ Int32) × Mem)
  | 0, _, _ => none
  | n1 + 1, m1, s6 => (if (2 : Int32) ≤ m1 then k1 s6 else gd (ib m1 2) (nm (ms s6 18 0 m1.toNatClampNeg (zb (0 : Int32))) fun s7 => nm (m1 + (1 : Int32)) fun x1 => f6_load_l46 k1 n1 x1 s7))
def f6_load  (s0 : Mem) : Option ((Nat ⊕ Int32) × Mem) :=
  bd (f3_readInto 15 s0) fun r1 s1 => (if r1 = (-9 : Int32) then bv (f2_copyFrom 0 15 s1) fun s2 => bv (f4_empty s2) fun s3 => nm (fun (s4 : Mem) => bd (f2_waitingBursts 0 s4) fun r2 s5 => some (.inr r2, s5)) fun k1 => f6_load_l46 k1 FU (0 : Int32) s3 else some (.inl 1, s1))
def rm_6_load : Room := { frames := 6, cells := 1, slots := 6, locals := 138 }
set_option maxHeartbeats 4000000 in
set_option maxRecDepth 100000 in
theorem k6_load {κ : Kx} {τ : Nat → Int64}  {s0 sR : Mem} {rR : Nat ⊕ Int32}  (hf : f6_load s0 = some (rR, sR)) : CxI κ yX6_load cX6_load 2 (some .int) rm_6_load (NV κ τ) (NV κ τ) [.ref (ad κ.1 0 0)] s0 sR rR := by
  refine cx_I (by decide +kernel) (Nat.le_of_ble_eq_true rfl) (fun φ hc hr ht => ?_)
  have hc : Cx κ φ RX6 cX6_load 2 rm_6_load := hc
  show G κ φ (QxI κ φ (NV κ τ) sR rR rm_6_load.cells rm_6_load.slots) (NV κ τ) 0 0 s0 [(0, .ref (ad κ.1 0 0))] 0 []
  unfold f6_load at hf
  refine g_aload_n (i := 0) hc 0 rfl rfl dX6_load_0 (pc2 := 1) rfl ?_
  refine g_getr (q := ad κ.1 1 0) hc fo_X6_12 (u0 (by decide)) rfl dX6_load_1 (pc2 := 4) rfl ?_
  refine g_aload_n (i := 0) hc 0 rfl rfl dX6_load_4 (pc2 := 5) rfl ?_
  refine g_getr (q := ad κ.1 3 15) hc fo_X6_38 (u0 (by decide)) rfl dX6_load_5 (pc2 := 8) rfl ?_
  obtain ⟨r1, s1, hp, hf⟩ := bd_some hf
  refine g_vI hc (k3_readInto (by decide) hp) co_X6_68 (u1 (by decide)) rfl rfl (by decide) (by decide) (Nat.le_of_ble_eq_true rfl) dX6_load_8 (pc2 := 11) rfl ?_
  refine g_bipush (v := (-9 : Int32)) hc (by decide) dX6_load_11 (pc2 := 13) rfl ?_
  refine g_icmp_eq hc 26 (by decide) dX6_load_13 (pc2 := 16) rfl (fun q => ?_) (fun q => ?_)
  · have hf := ite_t hf q
    refine g_aload_n (i := 0) hc 0 rfl rfl dX6_load_26 (pc2 := 27) rfl ?_
    refine g_getr (q := ad κ.1 3 0) hc fo_X6_19 (u0 (by decide)) rfl dX6_load_27 (pc2 := 30) rfl ?_
    refine g_aload_n (i := 0) hc 0 rfl rfl dX6_load_30 (pc2 := 31) rfl ?_
    refine g_getr (q := ad κ.1 3 15) hc fo_X6_38 (u0 (by decide)) rfl dX6_load_31 (pc2 := 34) rfl ?_
    obtain ⟨s2, hp, hf⟩ := bv_some hf
    refine g_vV hc (k2_copyFrom (by decide) (by decide) hp) co_X6_74 (u3 (by decide)) rfl rfl (by decide) (by decide) (Nat.le_of_ble_eq_true rfl) dX6_load_34 (pc2 := 37) rfl ?_
    refine g_aload_n (i := 0) hc 0 rfl rfl dX6_load_37 (pc2 := 38) rfl ?_
    refine g_getr (q := ad κ.1 15 0) hc fo_X6_26 (u0 (by decide)) rfl dX6_load_38 (pc2 := 41) rfl ?_
    obtain ⟨s3, hp, hf⟩ := bv_some hf
    refine g_vV hc (k4_empty hp) co_X6_78 (u15 (by decide)) rfl rfl (by decide) (by decide) (Nat.le_of_ble_eq_true rfl) dX6_load_41 (pc2 := 44) rfl ?_
    refine g_iconst (v := (0 : Int32)) hc (by decide) dX6_load_44 (pc2 := 45) rfl ?_
    refine g_istore_n (i := 1) (L1 := [(1, .int (0 : Int32)), (0, .ref (ad κ.1 0 0))]) hc rfl (by decide) rfl dX6_load_45 (pc2 := 46) rfl ?_
    obtain ⟨k1, hk1, hf⟩ := nm_ex hf
    have Hk1 : ∀ (s4 : Mem), k1 s4 = some (rR, sR) → G κ φ (QxI κ φ (NV κ τ) sR rR rm_6_load.cells rm_6_load.slots) (NV κ τ) 0 0 s4 [(0, .ref (ad κ.1 0 0))] 64 [] := by
      intro s4 hf
      rw [hk1] at hf
      refine g_aload_n (i := 0) hc 0 rfl rfl dX6_load_64 (pc2 := 65) rfl ?_
      refine g_getr (q := ad κ.1 3 0) hc fo_X6_19 (u0 (by decide)) rfl dX6_load_65 (pc2 := 68) rfl ?_
      obtain ⟨r2, s5, hp, hf⟩ := bd_some hf
      refine g_vI hc (k2_waitingBursts (by decide) hp) co_X6_80 (u3 (by decide)) rfl rfl (by decide) (by decide) (Nat.le_of_ble_eq_true rfl) dX6_load_68 (pc2 := 71) rfl ?_
      exact g_xiret hc hf hr rfl (by decide) (by decide) dX6_load_71
    have LP_n1 : ∀ (n1 : Nat) (m1 : Int32) (s6 : Mem), f6_load_l46 k1 n1 m1 s6 = some (rR, sR) → G κ φ (QxI κ φ (NV κ τ) sR rR rm_6_load.cells rm_6_load.slots) (NV κ τ) 0 0 s6 [(0, .ref (ad κ.1 0 0)), (1, .int m1)] 46 [] := by
      intro n1
      induction n1 with
      | zero => intro m1 s6 hf; rw [f6_load_l46] at hf; cases hf
      | succ n1 ih_n1 =>
        intro m1 s6 hf
        rw [f6_load_l46] at hf
        refine g_iload_n (i := 1) hc 1 rfl rfl dX6_load_46 (pc2 := 47) rfl ?_
        refine g_iconst (v := (2 : Int32)) hc (by decide) dX6_load_47 (pc2 := 48) rfl ?_
        refine g_icmp_ge hc 64 (by decide) dX6_load_48 (pc2 := 51) rfl (fun q => ?_) (fun q => ?_)
        · have hf := ite_t hf q
          refine g_sub [0] rfl ?_
          exact Hk1 _ hf
        · have hf := ite_f hf q
          refine g_aload_n (i := 0) hc 0 rfl rfl dX6_load_51 (pc2 := 52) rfl ?_
          refine g_getr (q := ad κ.1 18 0) hc fo_X6_34 (u0 (by decide)) rfl dX6_load_52 (pc2 := 55) rfl ?_
          refine g_iload_n (i := 1) hc 1 rfl rfl dX6_load_55 (pc2 := 56) rfl ?_
          refine g_iconst (v := (0 : Int32)) hc (by decide) dX6_load_56 (pc2 := 57) rfl ?_
          obtain ⟨hg1, hf⟩ := gd_some hf
          obtain ⟨s7, hs7, hf⟩ := nm_ex hf
          refine g_astz hc 18 0 rfl (u18 (by decide)) hg1 dX6_load_57 (pc2 := 58) rfl ?_
          refine g_nms hs7 ?_
          obtain ⟨x1, hx1, hf⟩ := nm_ex hf
          refine g_iinc (v := x1) (L1 := [(1, .int x1), (0, .ref (ad κ.1 0 0))]) hc 1 rfl (by rw [hx1]; rfl) (by decide) rfl dX6_load_58 (pc2 := 61) rfl ?_
          refine g_goto hc 46 (by decide) dX6_load_61 ?_
          refine g_sub [1, 0] rfl ?_
          exact ih_n1 _ _ hf
    refine g_sub [1, 0] rfl ?_
    exact LP_n1 _ _ _ hf
  · have hf := ite_f hf q
    exact g_throwI hc hf ht tx_X6_72_59 dX6_load_16 dX6_load_19 dX6_load_20 dX6_load_22 dX6_load_25 (by decide) (by decide) (by decide)
def f6_about (a1 : Int32) (s0 : Mem) : Option ((Nat ⊕ Int32) × Mem) :=
  (if a1 = (0 : Int32) then some (.inr (s0 30 0 0), s0) else (if a1 = (1 : Int32) then some (.inr (s0 31 0 0), s0) else (if a1 = (2 : Int32) then some (.inr (s0 32 0 0), s0) else (if a1 = (3 : Int32) then some (.inr (s0 33 0 0), s0) else (if a1 = (4 : Int32) then some (.inr (s0 34 0 0), s0) else (if a1 = (5 : Int32) then bd (f2_allDebts 0 s0) fun r1 s1 => some (.inr r1, s1) else (if a1 = (6 : Int32) then bd (f2_waitingBursts 0 s0) fun r2 s2 => some (.inr r2, s2) else (if a1 = (7 : Int32) then bd (f2_openAnswers 0 s0) fun r3 s3 => some (.inr r3, s3) else (if a1 = (8 : Int32) then some (.inr (s0 35 0 0), s0) else (if a1 = (9 : Int32) then bd (f2_bankruptBits 0 s0) fun r4 s4 => some (.inr r4, s4) else some (.inl 0, s0)))))))))))
def rm_6_about : Room := { frames := 6, cells := 1, slots := 6, locals := 100 }
set_option maxHeartbeats 4000000 in
set_option maxRecDepth 100000 in
theorem k6_about {κ : Kx} {τ : Nat → Int64} {a1 : Int32} {s0 sR : Mem} {rR : Nat ⊕ Int32}  (hf : f6_about a1 s0 = some (rR, sR)) : CxI κ yX6_about cX6_about 2 (some .int) rm_6_about (NV κ τ) (NV κ τ) [.ref (ad κ.1 0 0), .int a1] s0 sR rR := by
  refine cx_I (by decide +kernel) (Nat.le_of_ble_eq_true rfl) (fun φ hc hr ht => ?_)
  have hc : Cx κ φ RX6 cX6_about 2 rm_6_about := hc
  show G κ φ (QxI κ φ (NV κ τ) sR rR rm_6_about.cells rm_6_about.slots) (NV κ τ) 0 0 s0 [(0, .ref (ad κ.1 0 0)), (1, .int a1)] 0 []
  unfold f6_about at hf
  refine g_iload_n (i := 1) hc 1 rfl rfl dX6_about_0 (pc2 := 1) rfl ?_
  by_cases q0 : a1 = (0 : Int32)
  · have hf := ite_t hf q0
    refine g_case hc 56 (0 : Int32) q0 (by decide) (by decide) rfl (by decide) dX6_about_1 ?_
    refine g_aload_n (i := 0) hc 0 rfl rfl dX6_about_56 (pc2 := 57) rfl ?_
    refine g_getr (q := ad κ.1 3 0) hc fo_X6_19 (u0 (by decide)) rfl dX6_about_57 (pc2 := 60) rfl ?_
    refine g_geti hc fo_X6_83 (u3 (by decide)) dX6_about_60 (pc2 := 63) rfl ?_
    exact g_xiret hc hf hr rfl (by decide) (by decide) dX6_about_63
  · have hf := ite_f hf q0
    by_cases q1 : a1 = (1 : Int32)
    · have hf := ite_t hf q1
      refine g_case hc 64 (1 : Int32) q1 (by decide) (by decide) rfl (by decide) dX6_about_1 ?_
      refine g_aload_n (i := 0) hc 0 rfl rfl dX6_about_64 (pc2 := 65) rfl ?_
      refine g_getr (q := ad κ.1 3 0) hc fo_X6_19 (u0 (by decide)) rfl dX6_about_65 (pc2 := 68) rfl ?_
      refine g_geti hc fo_X6_87 (u3 (by decide)) dX6_about_68 (pc2 := 71) rfl ?_
      exact g_xiret hc hf hr rfl (by decide) (by decide) dX6_about_71
    · have hf := ite_f hf q1
      by_cases q2 : a1 = (2 : Int32)
      · have hf := ite_t hf q2
        refine g_case hc 72 (2 : Int32) q2 (by decide) (by decide) rfl (by decide) dX6_about_1 ?_
        refine g_aload_n (i := 0) hc 0 rfl rfl dX6_about_72 (pc2 := 73) rfl ?_
        refine g_getr (q := ad κ.1 3 0) hc fo_X6_19 (u0 (by decide)) rfl dX6_about_73 (pc2 := 76) rfl ?_
        refine g_geti hc fo_X6_90 (u3 (by decide)) dX6_about_76 (pc2 := 79) rfl ?_
        exact g_xiret hc hf hr rfl (by decide) (by decide) dX6_about_79
      · have hf := ite_f hf q2
        by_cases q3 : a1 = (3 : Int32)
        · have hf := ite_t hf q3
          refine g_case hc 80 (3 : Int32) q3 (by decide) (by decide) rfl (by decide) dX6_about_1 ?_
          refine g_aload_n (i := 0) hc 0 rfl rfl dX6_about_80 (pc2 := 81) rfl ?_
          refine g_getr (q := ad κ.1 3 0) hc fo_X6_19 (u0 (by decide)) rfl dX6_about_81 (pc2 := 84) rfl ?_
          refine g_geti hc fo_X6_93 (u3 (by decide)) dX6_about_84 (pc2 := 87) rfl ?_
          exact g_xiret hc hf hr rfl (by decide) (by decide) dX6_about_87
        · have hf := ite_f hf q3
          by_cases q4 : a1 = (4 : Int32)
          · have hf := ite_t hf q4
            refine g_case hc 88 (4 : Int32) q4 (by decide) (by decide) rfl (by decide) dX6_about_1 ?_
            refine g_aload_n (i := 0) hc 0 rfl rfl dX6_about_88 (pc2 := 89) rfl ?_
            refine g_getr (q := ad κ.1 3 0) hc fo_X6_19 (u0 (by decide)) rfl dX6_about_89 (pc2 := 92) rfl ?_
            refine g_geti hc fo_X6_96 (u3 (by decide)) dX6_about_92 (pc2 := 95) rfl ?_
            exact g_xiret hc hf hr rfl (by decide) (by decide) dX6_about_95
          · have hf := ite_f hf q4
            by_cases q5 : a1 = (5 : Int32)
            · have hf := ite_t hf q5
              refine g_case hc 96 (5 : Int32) q5 (by decide) (by decide) rfl (by decide) dX6_about_1 ?_
              refine g_aload_n (i := 0) hc 0 rfl rfl dX6_about_96 (pc2 := 97) rfl ?_
              refine g_getr (q := ad κ.1 3 0) hc fo_X6_19 (u0 (by decide)) rfl dX6_about_97 (pc2 := 100) rfl ?_
              obtain ⟨r1, s1, hp, hf⟩ := bd_some hf
              refine g_vI hc (k2_allDebts (by decide) hp) co_X6_99 (u3 (by decide)) rfl rfl (by decide) (by decide) (Nat.le_of_ble_eq_true rfl) dX6_about_100 (pc2 := 103) rfl ?_
              exact g_xiret hc hf hr rfl (by decide) (by decide) dX6_about_103
            · have hf := ite_f hf q5
              by_cases q6 : a1 = (6 : Int32)
              · have hf := ite_t hf q6
                refine g_case hc 104 (6 : Int32) q6 (by decide) (by decide) rfl (by decide) dX6_about_1 ?_
                refine g_aload_n (i := 0) hc 0 rfl rfl dX6_about_104 (pc2 := 105) rfl ?_
                refine g_getr (q := ad κ.1 3 0) hc fo_X6_19 (u0 (by decide)) rfl dX6_about_105 (pc2 := 108) rfl ?_
                obtain ⟨r2, s2, hp, hf⟩ := bd_some hf
                refine g_vI hc (k2_waitingBursts (by decide) hp) co_X6_80 (u3 (by decide)) rfl rfl (by decide) (by decide) (Nat.le_of_ble_eq_true rfl) dX6_about_108 (pc2 := 111) rfl ?_
                exact g_xiret hc hf hr rfl (by decide) (by decide) dX6_about_111
              · have hf := ite_f hf q6
                by_cases q7 : a1 = (7 : Int32)
                · have hf := ite_t hf q7
                  refine g_case hc 112 (7 : Int32) q7 (by decide) (by decide) rfl (by decide) dX6_about_1 ?_
                  refine g_aload_n (i := 0) hc 0 rfl rfl dX6_about_112 (pc2 := 113) rfl ?_
                  refine g_getr (q := ad κ.1 3 0) hc fo_X6_19 (u0 (by decide)) rfl dX6_about_113 (pc2 := 116) rfl ?_
                  obtain ⟨r3, s3, hp, hf⟩ := bd_some hf
                  refine g_vI hc (k2_openAnswers (by decide) hp) co_X6_102 (u3 (by decide)) rfl rfl (by decide) (by decide) (Nat.le_of_ble_eq_true rfl) dX6_about_116 (pc2 := 119) rfl ?_
                  exact g_xiret hc hf hr rfl (by decide) (by decide) dX6_about_119
                · have hf := ite_f hf q7
                  by_cases q8 : a1 = (8 : Int32)
                  · have hf := ite_t hf q8
                    refine g_case hc 120 (8 : Int32) q8 (by decide) (by decide) rfl (by decide) dX6_about_1 ?_
                    refine g_aload_n (i := 0) hc 0 rfl rfl dX6_about_120 (pc2 := 121) rfl ?_
                    refine g_getr (q := ad κ.1 3 0) hc fo_X6_19 (u0 (by decide)) rfl dX6_about_121 (pc2 := 124) rfl ?_
                    refine g_geti hc fo_X6_105 (u3 (by decide)) dX6_about_124 (pc2 := 127) rfl ?_
                    exact g_xiret hc hf hr rfl (by decide) (by decide) dX6_about_127
                  · have hf := ite_f hf q8
                    by_cases q9 : a1 = (9 : Int32)
                    · have hf := ite_t hf q9
                      refine g_case hc 128 (9 : Int32) q9 (by decide) (by decide) rfl (by decide) dX6_about_1 ?_
                      refine g_aload_n (i := 0) hc 0 rfl rfl dX6_about_128 (pc2 := 129) rfl ?_
                      refine g_getr (q := ad κ.1 3 0) hc fo_X6_19 (u0 (by decide)) rfl dX6_about_129 (pc2 := 132) rfl ?_
                      obtain ⟨r4, s4, hp, hf⟩ := bd_some hf
                      refine g_vI hc (k2_bankruptBits (by decide) hp) co_X6_108 (u3 (by decide)) rfl rfl (by decide) (by decide) (Nat.le_of_ble_eq_true rfl) dX6_about_132 (pc2 := 135) rfl ?_
                      exact g_xiret hc hf hr rfl (by decide) (by decide) dX6_about_135
                    · have hf := ite_f hf q9
                      refine g_tableOut hc 136 ?_ (by decide) dX6_about_1 ?_
                      · have z0 := ne_i q0 (z := 0) (by decide) ; have z1 := ne_i q1 (z := 1) (by decide) ; have z2 := ne_i q2 (z := 2) (by decide) ; have z3 := ne_i q3 (z := 3) (by decide) ; have z4 := ne_i q4 (z := 4) (by decide) ; have z5 := ne_i q5 (z := 5) (by decide) ; have z6 := ne_i q6 (z := 6) (by decide) ; have z7 := ne_i q7 (z := 7) (by decide) ; have z8 := ne_i q8 (z := 8) (by decide) ; have z9 := ne_i q9 (z := 9) (by decide) ; omega
                      exact g_throwI hc hf ht tx_X6_111_48 dX6_about_136 dX6_about_139 dX6_about_140 dX6_about_142 dX6_about_145 (by decide) (by decide) (by decide)
def f6_needMaster (a1 : Int32) (s0 : Mem) : Option ((Nat ⊕ Unit) × Mem) :=
  bd (f2_hasMaster 0 a1 s0) fun r1 s1 => (if r1 = (0 : Int32) then some (.inl 2, s1) else some (.inr (), s1))
def rm_6_needMaster : Room := { frames := 6, cells := 1, slots := 6, locals := 100 }
set_option maxHeartbeats 4000000 in
set_option maxRecDepth 100000 in
theorem k6_needMaster {κ : Kx} {τ : Nat → Int64} {a1 : Int32} {s0 sR : Mem} {rR : Nat ⊕ Unit}  (hf : f6_needMaster a1 s0 = some (rR, sR)) : CxV κ yX6_needMaster cX6_needMaster 2 none rm_6_needMaster (NV κ τ) (NV κ τ) [.ref (ad κ.1 0 0), .int a1] s0 sR rR := by
  refine cx_V (by decide +kernel) (Nat.le_of_ble_eq_true rfl) (fun φ hc hr ht => ?_)
  have hc : Cx κ φ RX6 cX6_needMaster 2 rm_6_needMaster := hc
  show G κ φ (QxV κ φ (NV κ τ) sR rR rm_6_needMaster.cells rm_6_needMaster.slots) (NV κ τ) 0 0 s0 [(0, .ref (ad κ.1 0 0)), (1, .int a1)] 0 []
  unfold f6_needMaster at hf
  refine g_aload_n (i := 0) hc 0 rfl rfl dX6_needMaster_0 (pc2 := 1) rfl ?_
  refine g_getr (q := ad κ.1 3 0) hc fo_X6_19 (u0 (by decide)) rfl dX6_needMaster_1 (pc2 := 4) rfl ?_
  refine g_iload_n (i := 1) hc 1 rfl rfl dX6_needMaster_4 (pc2 := 5) rfl ?_
  obtain ⟨r1, s1, hp, hf⟩ := bd_some hf
  refine g_vI hc (k2_hasMaster (by decide) hp) co_X6_272 (u3 (by decide)) rfl rfl (by decide) (by decide) (Nat.le_of_ble_eq_true rfl) dX6_needMaster_5 (pc2 := 8) rfl ?_
  refine g_if_ne hc 22 (by decide) dX6_needMaster_8 (pc2 := 11) rfl (fun q => ?_) (fun q => ?_)
  · have hf := ite_f hf q
    exact g_xvret hc hf hr (by decide) (by decide) dX6_needMaster_22
  · have hf := ite_t hf q
    exact g_throwWV hc hf ht tx_X6_277_279 dX6_needMaster_11 dX6_needMaster_14 dX6_needMaster_15 dX6_needMaster_18 dX6_needMaster_21 (by decide) (by decide) (by decide)
def f6_master (a1 : Int32) (a2 : Int32) (s0 : Mem) : Option ((Nat ⊕ Int32) × Mem) :=
  bx (f6_needMaster a1 s0) (fun e s1 => some (.inl e, s1)) fun _ s1 => gd (ib a1 6) ((if a2 = (0 : Int32) then bd (f2_slotsOf 0 a1 s1) fun r2 s2 => some (.inr r2, s2) else (if a2 = (1 : Int32) then bd (f5_debts (6 * 0 + a1.toNatClampNeg) s1) fun r3 s3 => some (.inr r3, s3) else (if a2 = (2 : Int32) then bd (f2_owedTo 0 a1 s1) fun r4 s4 => some (.inr r4, s4) else (if a2 = (3 : Int32) then some (.inr (s1 50 (6 * 0 + a1.toNatClampNeg) 0), s1) else (if a2 = (4 : Int32) then bd (f1_allWords (6 * 0 + a1.toNatClampNeg) s1) fun r5 s5 => some (.inr r5, s5) else (if a2 = (5 : Int32) then some (.inr (s1 42 (6 * 0 + a1.toNatClampNeg) 0), s1) else (if a2 = (6 : Int32) then some (.inr (s1 43 (6 * 0 + a1.toNatClampNeg) 0), s1) else (if a2 = (7 : Int32) then some (.inr (s1 44 (6 * 0 + a1.toNatClampNeg) 0), s1) else (if a2 = (8 : Int32) then some (.inr (s1 45 (6 * 0 + a1.toNatClampNeg) 0), s1) else (if a2 = (9 : Int32) then some (.inr (s1 46 (6 * 0 + a1.toNatClampNeg) 0), s1) else (if a2 = (10 : Int32) then some (.inr (s1 47 (6 * 0 + a1.toNatClampNeg) 0), s1) else some (.inl 0, s1)))))))))))))
def rm_6_master : Room := { frames := 7, cells := 2, slots := 12, locals := 121 }
set_option maxHeartbeats 4000000 in
set_option maxRecDepth 100000 in
theorem k6_master {κ : Kx} {τ : Nat → Int64} {a1 : Int32} {a2 : Int32} {s0 sR : Mem} {rR : Nat ⊕ Int32}  (hf : f6_master a1 a2 s0 = some (rR, sR)) : CxI κ yX6_master cX6_master 4 (some .int) rm_6_master (NV κ τ) (NV κ τ) [.ref (ad κ.1 0 0), .int a1, .int a2] s0 sR rR := by
  refine cx_I (by decide +kernel) (Nat.le_of_ble_eq_true rfl) (fun φ hc hr ht => ?_)
  have hc : Cx κ φ RX6 cX6_master 4 rm_6_master := hc
  show G κ φ (QxI κ φ (NV κ τ) sR rR rm_6_master.cells rm_6_master.slots) (NV κ τ) 0 0 s0 [(0, .ref (ad κ.1 0 0)), (1, .int a1), (2, .int a2)] 0 []
  unfold f6_master at hf
  refine g_aload_n (i := 0) hc 0 rfl rfl dX6_master_0 (pc2 := 1) rfl ?_
  refine g_iload_n (i := 1) hc 1 rfl rfl dX6_master_1 (pc2 := 2) rfl ?_
  obtain ⟨r1, s1, hp, hf⟩ := bx_some hf
  refine g_vxV hc (k6_needMaster hp) co_X6_113 (u0 (by decide)) rfl rfl (by decide) (by decide) (Nat.le_of_ble_eq_true rfl) dX6_master_2 (pc2 := 5) rfl (fun q hq => ?_) (fun hq => ?_)
  · subst hq
    exact gx_outI hc hf ht (by decide) (by decide)
  · subst hq
    refine g_aload_n (i := 0) hc 0 rfl rfl dX6_master_5 (pc2 := 6) rfl ?_
    refine g_getr (q := ad κ.1 3 0) hc fo_X6_19 (u0 (by decide)) rfl dX6_master_6 (pc2 := 9) rfl ?_
    refine g_getr (q := ad κ.1 6 0) hc fo_X6_117 (u3 (by decide)) rfl dX6_master_9 (pc2 := 12) rfl ?_
    refine g_iload_n (i := 1) hc 1 rfl rfl dX6_master_12 (pc2 := 13) rfl ?_
    obtain ⟨hg1, hf⟩ := gd_some hf
    have ihg1 := ib_lt hg1
    refine g_aldr (q := ad κ.1 7 (6 * 0 + a1.toNatClampNeg)) hc 6 0 (by decide) (by decide) (u6 (by decide)) hg1 rfl dX6_master_13 (pc2 := 14) rfl ?_
    refine g_astore_n (i := 3) (L1 := [(3, .ref (ad κ.1 7 (6 * 0 + a1.toNatClampNeg))), (0, .ref (ad κ.1 0 0)), (1, .int a1), (2, .int a2)]) hc rfl (by decide) rfl dX6_master_14 (pc2 := 15) rfl ?_
    refine g_iload_n (i := 2) hc 3 rfl rfl dX6_master_15 (pc2 := 16) rfl ?_
    by_cases q0 : a2 = (0 : Int32)
    · have hf := ite_t hf q0
      refine g_case hc 76 (0 : Int32) q0 (by decide) (by decide) rfl (by decide) dX6_master_16 ?_
      refine g_aload_n (i := 0) hc 1 rfl rfl dX6_master_76 (pc2 := 77) rfl ?_
      refine g_getr (q := ad κ.1 3 0) hc fo_X6_19 (u0 (by decide)) rfl dX6_master_77 (pc2 := 80) rfl ?_
      refine g_iload_n (i := 1) hc 2 rfl rfl dX6_master_80 (pc2 := 81) rfl ?_
      obtain ⟨r2, s2, hp, hf⟩ := bd_some hf
      refine g_vI hc (k2_slotsOf (by decide) hp) co_X6_121 (u3 (by decide)) rfl rfl (by decide) (by decide) (Nat.le_of_ble_eq_true rfl) dX6_master_81 (pc2 := 84) rfl ?_
      exact g_xiret hc hf hr rfl (by decide) (by decide) dX6_master_84
    · have hf := ite_f hf q0
      by_cases q1 : a2 = (1 : Int32)
      · have hf := ite_t hf q1
        refine g_case hc 85 (1 : Int32) q1 (by decide) (by decide) rfl (by decide) dX6_master_16 ?_
        refine g_aload_n (i := 3) hc 0 rfl rfl dX6_master_85 (pc2 := 86) rfl ?_
        obtain ⟨r3, s3, hp, hf⟩ := bd_some hf
        refine g_vI hc (k5_debts (by omega) hp) co_X6_125 (u7 (by omega)) rfl rfl (by decide) (by decide) (Nat.le_of_ble_eq_true rfl) dX6_master_86 (pc2 := 89) rfl ?_
        exact g_xiret hc hf hr rfl (by decide) (by decide) dX6_master_89
      · have hf := ite_f hf q1
        by_cases q2 : a2 = (2 : Int32)
        · have hf := ite_t hf q2
          refine g_case hc 90 (2 : Int32) q2 (by decide) (by decide) rfl (by decide) dX6_master_16 ?_
          refine g_aload_n (i := 0) hc 1 rfl rfl dX6_master_90 (pc2 := 91) rfl ?_
          refine g_getr (q := ad κ.1 3 0) hc fo_X6_19 (u0 (by decide)) rfl dX6_master_91 (pc2 := 94) rfl ?_
          refine g_iload_n (i := 1) hc 2 rfl rfl dX6_master_94 (pc2 := 95) rfl ?_
          obtain ⟨r4, s4, hp, hf⟩ := bd_some hf
          refine g_vI hc (k2_owedTo (by decide) hp) co_X6_130 (u3 (by decide)) rfl rfl (by decide) (by decide) (Nat.le_of_ble_eq_true rfl) dX6_master_95 (pc2 := 98) rfl ?_
          exact g_xiret hc hf hr rfl (by decide) (by decide) dX6_master_98
        · have hf := ite_f hf q2
          by_cases q3 : a2 = (3 : Int32)
          · have hf := ite_t hf q3
            refine g_case hc 99 (3 : Int32) q3 (by decide) (by decide) rfl (by decide) dX6_master_16 ?_
            refine g_aload_n (i := 3) hc 0 rfl rfl dX6_master_99 (pc2 := 100) rfl ?_
            refine g_getr (q := ad κ.1 9 (6 * 0 + a1.toNatClampNeg)) hc fo_X6_133 (u7 (by omega)) rfl dX6_master_100 (pc2 := 103) rfl ?_
            refine g_geti hc fo_X6_137 (u9 (by omega)) dX6_master_103 (pc2 := 106) rfl ?_
            exact g_xiret hc hf hr rfl (by decide) (by decide) dX6_master_106
          · have hf := ite_f hf q3
            by_cases q4 : a2 = (4 : Int32)
            · have hf := ite_t hf q4
              refine g_case hc 107 (4 : Int32) q4 (by decide) (by decide) rfl (by decide) dX6_master_16 ?_
              refine g_aload_n (i := 3) hc 0 rfl rfl dX6_master_107 (pc2 := 108) rfl ?_
              refine g_getr (q := ad κ.1 9 (6 * 0 + a1.toNatClampNeg)) hc fo_X6_133 (u7 (by omega)) rfl dX6_master_108 (pc2 := 111) rfl ?_
              obtain ⟨r5, s5, hp, hf⟩ := bd_some hf
              refine g_vI hc (k1_allWords (by omega) hp) co_X6_142 (u9 (by omega)) rfl rfl (by decide) (by decide) (Nat.le_of_ble_eq_true rfl) dX6_master_111 (pc2 := 114) rfl ?_
              exact g_xiret hc hf hr rfl (by decide) (by decide) dX6_master_114
            · have hf := ite_f hf q4
              by_cases q5 : a2 = (5 : Int32)
              · have hf := ite_t hf q5
                refine g_case hc 115 (5 : Int32) q5 (by decide) (by decide) rfl (by decide) dX6_master_16 ?_
                refine g_aload_n (i := 3) hc 0 rfl rfl dX6_master_115 (pc2 := 116) rfl ?_
                refine g_geti hc fo_X6_145 (u7 (by omega)) dX6_master_116 (pc2 := 119) rfl ?_
                exact g_xiret hc hf hr rfl (by decide) (by decide) dX6_master_119
              · have hf := ite_f hf q5
                by_cases q6 : a2 = (6 : Int32)
                · have hf := ite_t hf q6
                  refine g_case hc 120 (6 : Int32) q6 (by decide) (by decide) rfl (by decide) dX6_master_16 ?_
                  refine g_aload_n (i := 3) hc 0 rfl rfl dX6_master_120 (pc2 := 121) rfl ?_
                  refine g_geti hc fo_X6_148 (u7 (by omega)) dX6_master_121 (pc2 := 124) rfl ?_
                  exact g_xiret hc hf hr rfl (by decide) (by decide) dX6_master_124
                · have hf := ite_f hf q6
                  by_cases q7 : a2 = (7 : Int32)
                  · have hf := ite_t hf q7
                    refine g_case hc 125 (7 : Int32) q7 (by decide) (by decide) rfl (by decide) dX6_master_16 ?_
                    refine g_aload_n (i := 3) hc 0 rfl rfl dX6_master_125 (pc2 := 126) rfl ?_
                    refine g_geti hc fo_X6_151 (u7 (by omega)) dX6_master_126 (pc2 := 129) rfl ?_
                    exact g_xiret hc hf hr rfl (by decide) (by decide) dX6_master_129
                  · have hf := ite_f hf q7
                    by_cases q8 : a2 = (8 : Int32)
                    · have hf := ite_t hf q8
                      refine g_case hc 130 (8 : Int32) q8 (by decide) (by decide) rfl (by decide) dX6_master_16 ?_
                      refine g_aload_n (i := 3) hc 0 rfl rfl dX6_master_130 (pc2 := 131) rfl ?_
                      refine g_geti hc fo_X6_154 (u7 (by omega)) dX6_master_131 (pc2 := 134) rfl ?_
                      exact g_xiret hc hf hr rfl (by decide) (by decide) dX6_master_134
                    · have hf := ite_f hf q8
                      by_cases q9 : a2 = (9 : Int32)
                      · have hf := ite_t hf q9
                        refine g_case hc 135 (9 : Int32) q9 (by decide) (by decide) rfl (by decide) dX6_master_16 ?_
                        refine g_aload_n (i := 3) hc 0 rfl rfl dX6_master_135 (pc2 := 136) rfl ?_
                        refine g_geti hc fo_X6_157 (u7 (by omega)) dX6_master_136 (pc2 := 139) rfl ?_
                        exact g_xiret hc hf hr rfl (by decide) (by decide) dX6_master_139
                      · have hf := ite_f hf q9
                        by_cases q10 : a2 = (10 : Int32)
                        · have hf := ite_t hf q10
                          refine g_case hc 140 (10 : Int32) q10 (by decide) (by decide) rfl (by decide) dX6_master_16 ?_
                          refine g_aload_n (i := 3) hc 0 rfl rfl dX6_master_140 (pc2 := 141) rfl ?_
                          refine g_geti hc fo_X6_160 (u7 (by omega)) dX6_master_141 (pc2 := 144) rfl ?_
                          exact g_xiret hc hf hr rfl (by decide) (by decide) dX6_master_144
                        · have hf := ite_f hf q10
                          refine g_tableOut hc 145 ?_ (by decide) dX6_master_16 ?_
                          · have z0 := ne_i q0 (z := 0) (by decide) ; have z1 := ne_i q1 (z := 1) (by decide) ; have z2 := ne_i q2 (z := 2) (by decide) ; have z3 := ne_i q3 (z := 3) (by decide) ; have z4 := ne_i q4 (z := 4) (by decide) ; have z5 := ne_i q5 (z := 5) (by decide) ; have z6 := ne_i q6 (z := 6) (by decide) ; have z7 := ne_i q7 (z := 7) (by decide) ; have z8 := ne_i q8 (z := 8) (by decide) ; have z9 := ne_i q9 (z := 9) (by decide) ; have z10 := ne_i q10 (z := 10) (by decide) ; omega
                          exact g_throwI hc hf ht tx_X6_163_48 dX6_master_145 dX6_master_148 dX6_master_149 dX6_master_151 dX6_master_154 (by decide) (by decide) (by decide)
def f6_needSlot (a1 : Int32) (s0 : Mem) : Option ((Nat ⊕ Unit) × Mem) :=
  bd (f2_hasSlot 0 a1 s0) fun r1 s1 => (if r1 = (0 : Int32) then some (.inl 2, s1) else some (.inr (), s1))
def rm_6_needSlot : Room := { frames := 6, cells := 1, slots := 6, locals := 100 }
set_option maxHeartbeats 4000000 in
set_option maxRecDepth 100000 in
theorem k6_needSlot {κ : Kx} {τ : Nat → Int64} {a1 : Int32} {s0 sR : Mem} {rR : Nat ⊕ Unit}  (hf : f6_needSlot a1 s0 = some (rR, sR)) : CxV κ yX6_needSlot cX6_needSlot 2 none rm_6_needSlot (NV κ τ) (NV κ τ) [.ref (ad κ.1 0 0), .int a1] s0 sR rR := by
  refine cx_V (by decide +kernel) (Nat.le_of_ble_eq_true rfl) (fun φ hc hr ht => ?_)
  have hc : Cx κ φ RX6 cX6_needSlot 2 rm_6_needSlot := hc
  show G κ φ (QxV κ φ (NV κ τ) sR rR rm_6_needSlot.cells rm_6_needSlot.slots) (NV κ τ) 0 0 s0 [(0, .ref (ad κ.1 0 0)), (1, .int a1)] 0 []
  unfold f6_needSlot at hf
  refine g_aload_n (i := 0) hc 0 rfl rfl dX6_needSlot_0 (pc2 := 1) rfl ?_
  refine g_getr (q := ad κ.1 3 0) hc fo_X6_19 (u0 (by decide)) rfl dX6_needSlot_1 (pc2 := 4) rfl ?_
  refine g_iload_n (i := 1) hc 1 rfl rfl dX6_needSlot_4 (pc2 := 5) rfl ?_
  obtain ⟨r1, s1, hp, hf⟩ := bd_some hf
  refine g_vI hc (k2_hasSlot (by decide) hp) co_X6_280 (u3 (by decide)) rfl rfl (by decide) (by decide) (Nat.le_of_ble_eq_true rfl) dX6_needSlot_5 (pc2 := 8) rfl ?_
  refine g_if_ne hc 22 (by decide) dX6_needSlot_8 (pc2 := 11) rfl (fun q => ?_) (fun q => ?_)
  · have hf := ite_f hf q
    exact g_xvret hc hf hr (by decide) (by decide) dX6_needSlot_22
  · have hf := ite_t hf q
    exact g_throwWV hc hf ht tx_X6_283_279 dX6_needSlot_11 dX6_needSlot_14 dX6_needSlot_15 dX6_needSlot_18 dX6_needSlot_21 (by decide) (by decide) (by decide)
def f6_owner (a1 : Int32) (s0 : Mem) : Option ((Nat ⊕ Int32) × Mem) :=
  bx (f6_needSlot a1 s0) (fun e s1 => some (.inl e, s1)) fun _ s1 => gd (ib a1 16) (some (.inr (s1 4 0 a1.toNatClampNeg), s1))
def rm_6_owner : Room := { frames := 7, cells := 1, slots := 6, locals := 121 }
set_option maxHeartbeats 4000000 in
set_option maxRecDepth 100000 in
theorem k6_owner {κ : Kx} {τ : Nat → Int64} {a1 : Int32} {s0 sR : Mem} {rR : Nat ⊕ Int32}  (hf : f6_owner a1 s0 = some (rR, sR)) : CxI κ yX6_owner cX6_owner 2 (some .int) rm_6_owner (NV κ τ) (NV κ τ) [.ref (ad κ.1 0 0), .int a1] s0 sR rR := by
  refine cx_I (by decide +kernel) (Nat.le_of_ble_eq_true rfl) (fun φ hc hr ht => ?_)
  have hc : Cx κ φ RX6 cX6_owner 2 rm_6_owner := hc
  show G κ φ (QxI κ φ (NV κ τ) sR rR rm_6_owner.cells rm_6_owner.slots) (NV κ τ) 0 0 s0 [(0, .ref (ad κ.1 0 0)), (1, .int a1)] 0 []
  unfold f6_owner at hf
  refine g_aload_n (i := 0) hc 0 rfl rfl dX6_owner_0 (pc2 := 1) rfl ?_
  refine g_iload_n (i := 1) hc 1 rfl rfl dX6_owner_1 (pc2 := 2) rfl ?_
  obtain ⟨r1, s1, hp, hf⟩ := bx_some hf
  refine g_vxV hc (k6_needSlot hp) co_X6_165 (u0 (by decide)) rfl rfl (by decide) (by decide) (Nat.le_of_ble_eq_true rfl) dX6_owner_2 (pc2 := 5) rfl (fun q hq => ?_) (fun hq => ?_)
  · subst hq
    exact gx_outI hc hf ht (by decide) (by decide)
  · subst hq
    refine g_aload_n (i := 0) hc 0 rfl rfl dX6_owner_5 (pc2 := 6) rfl ?_
    refine g_getr (q := ad κ.1 3 0) hc fo_X6_19 (u0 (by decide)) rfl dX6_owner_6 (pc2 := 9) rfl ?_
    refine g_getr (q := ad κ.1 4 0) hc fo_X6_168 (u3 (by decide)) rfl dX6_owner_9 (pc2 := 12) rfl ?_
    refine g_iload_n (i := 1) hc 1 rfl rfl dX6_owner_12 (pc2 := 13) rfl ?_
    obtain ⟨hg1, hf⟩ := gd_some hf
    refine g_aldi hc 4 0 rfl (u4 (by decide)) hg1 dX6_owner_13 (pc2 := 14) rfl ?_
    exact g_xiret hc hf hr rfl (by decide) (by decide) dX6_owner_14
def f6_owes (a1 : Int32) (a2 : Int32) (s0 : Mem) : Option ((Nat ⊕ Int32) × Mem) :=
  bx (f6_needMaster a1 s0) (fun e s1 => some (.inl e, s1)) fun _ s1 => bx (f6_needMaster a2 s1) (fun e s2 => some (.inl e, s2)) fun _ s2 => gd (ib a1 6) (gd (ib a2 6) (some (.inr (s2 8 (6 * 0 + a1.toNatClampNeg) a2.toNatClampNeg), s2)))
def rm_6_owes : Room := { frames := 7, cells := 2, slots := 12, locals := 121 }
set_option maxHeartbeats 4000000 in
set_option maxRecDepth 100000 in
theorem k6_owes {κ : Kx} {τ : Nat → Int64} {a1 : Int32} {a2 : Int32} {s0 sR : Mem} {rR : Nat ⊕ Int32}  (hf : f6_owes a1 a2 s0 = some (rR, sR)) : CxI κ yX6_owes cX6_owes 3 (some .int) rm_6_owes (NV κ τ) (NV κ τ) [.ref (ad κ.1 0 0), .int a1, .int a2] s0 sR rR := by
  refine cx_I (by decide +kernel) (Nat.le_of_ble_eq_true rfl) (fun φ hc hr ht => ?_)
  have hc : Cx κ φ RX6 cX6_owes 3 rm_6_owes := hc
  show G κ φ (QxI κ φ (NV κ τ) sR rR rm_6_owes.cells rm_6_owes.slots) (NV κ τ) 0 0 s0 [(0, .ref (ad κ.1 0 0)), (1, .int a1), (2, .int a2)] 0 []
  unfold f6_owes at hf
  refine g_aload_n (i := 0) hc 0 rfl rfl dX6_owes_0 (pc2 := 1) rfl ?_
  refine g_iload_n (i := 1) hc 1 rfl rfl dX6_owes_1 (pc2 := 2) rfl ?_
  obtain ⟨r1, s1, hp, hf⟩ := bx_some hf
  refine g_vxV hc (k6_needMaster hp) co_X6_113 (u0 (by decide)) rfl rfl (by decide) (by decide) (Nat.le_of_ble_eq_true rfl) dX6_owes_2 (pc2 := 5) rfl (fun q hq => ?_) (fun hq => ?_)
  · subst hq
    exact gx_outI hc hf ht (by decide) (by decide)
  · subst hq
    refine g_aload_n (i := 0) hc 0 rfl rfl dX6_owes_5 (pc2 := 6) rfl ?_
    refine g_iload_n (i := 2) hc 2 rfl rfl dX6_owes_6 (pc2 := 7) rfl ?_
    obtain ⟨r2, s2, hp, hf⟩ := bx_some hf
    refine g_vxV hc (k6_needMaster hp) co_X6_113 (u0 (by decide)) rfl rfl (by decide) (by decide) (Nat.le_of_ble_eq_true rfl) dX6_owes_7 (pc2 := 10) rfl (fun q hq => ?_) (fun hq => ?_)
    · subst hq
      exact gx_outI hc hf ht (by decide) (by decide)
    · subst hq
      refine g_aload_n (i := 0) hc 0 rfl rfl dX6_owes_10 (pc2 := 11) rfl ?_
      refine g_getr (q := ad κ.1 3 0) hc fo_X6_19 (u0 (by decide)) rfl dX6_owes_11 (pc2 := 14) rfl ?_
      refine g_getr (q := ad κ.1 6 0) hc fo_X6_117 (u3 (by decide)) rfl dX6_owes_14 (pc2 := 17) rfl ?_
      refine g_iload_n (i := 1) hc 1 rfl rfl dX6_owes_17 (pc2 := 18) rfl ?_
      obtain ⟨hg1, hf⟩ := gd_some hf
      have ihg1 := ib_lt hg1
      refine g_aldr (q := ad κ.1 7 (6 * 0 + a1.toNatClampNeg)) hc 6 0 (by decide) (by decide) (u6 (by decide)) hg1 rfl dX6_owes_18 (pc2 := 19) rfl ?_
      refine g_getr (q := ad κ.1 8 (6 * 0 + a1.toNatClampNeg)) hc fo_X6_172 (u7 (by omega)) rfl dX6_owes_19 (pc2 := 22) rfl ?_
      refine g_iload_n (i := 2) hc 2 rfl rfl dX6_owes_22 (pc2 := 23) rfl ?_
      obtain ⟨hg2, hf⟩ := gd_some hf
      refine g_aldi hc 8 (6 * 0 + a1.toNatClampNeg) rfl (u8 (by omega)) hg2 dX6_owes_23 (pc2 := 24) rfl ?_
      exact g_xiret hc hf hr rfl (by decide) (by decide) dX6_owes_24
def f6_burst (a1 : Int32) (a2 : Int32) (a3 : Int32) (s0 : Mem) : Option ((Nat ⊕ Int32) × Mem) :=
  bx (f6_needMaster a1 s0) (fun e s1 => some (.inl e, s1)) fun _ s1 => (if a2 < (0 : Int32) then some (.inl 0, s1) else (if a3 < (0 : Int32) then some (.inl 0, s1) else (if a3 ≤ (2 : Int32) then gd (ib a1 6) ((if (s1 50 (6 * 0 + a1.toNatClampNeg) 0) ≤ a2 then some (.inr (-9 : Int32), s1) else (if a2 < (6 : Int32) then (if a3 = (0 : Int32) then gd (ib a2 6) (some (.inr (s1 10 (6 * 0 + a1.toNatClampNeg) a2.toNatClampNeg), s1)) else (if a3 = (1 : Int32) then gd (ib a2 6) (some (.inr (s1 11 (6 * 0 + a1.toNatClampNeg) a2.toNatClampNeg), s1)) else gd (ib a2 6) ((if (s1 12 (6 * 0 + a1.toNatClampNeg) a2.toNatClampNeg) = (0 : Int32) then some (.inr (0 : Int32), s1) else some (.inr (1 : Int32), s1))))) else some (.inr (-9 : Int32), s1)))) else some (.inl 0, s1))))
def rm_6_burst : Room := { frames := 7, cells := 2, slots := 12, locals := 121 }
set_option maxHeartbeats 4000000 in
set_option maxRecDepth 100000 in
theorem k6_burst {κ : Kx} {τ : Nat → Int64} {a1 : Int32} {a2 : Int32} {a3 : Int32} {s0 sR : Mem} {rR : Nat ⊕ Int32}  (hf : f6_burst a1 a2 a3 s0 = some (rR, sR)) : CxI κ yX6_burst cX6_burst 5 (some .int) rm_6_burst (NV κ τ) (NV κ τ) [.ref (ad κ.1 0 0), .int a1, .int a2, .int a3] s0 sR rR := by
  refine cx_I (by decide +kernel) (Nat.le_of_ble_eq_true rfl) (fun φ hc hr ht => ?_)
  have hc : Cx κ φ RX6 cX6_burst 5 rm_6_burst := hc
  show G κ φ (QxI κ φ (NV κ τ) sR rR rm_6_burst.cells rm_6_burst.slots) (NV κ τ) 0 0 s0 [(0, .ref (ad κ.1 0 0)), (1, .int a1), (2, .int a2), (3, .int a3)] 0 []
  unfold f6_burst at hf
  refine g_aload_n (i := 0) hc 0 rfl rfl dX6_burst_0 (pc2 := 1) rfl ?_
  refine g_iload_n (i := 1) hc 1 rfl rfl dX6_burst_1 (pc2 := 2) rfl ?_
  obtain ⟨r1, s1, hp, hf⟩ := bx_some hf
  refine g_vxV hc (k6_needMaster hp) co_X6_113 (u0 (by decide)) rfl rfl (by decide) (by decide) (Nat.le_of_ble_eq_true rfl) dX6_burst_2 (pc2 := 5) rfl (fun q hq => ?_) (fun hq => ?_)
  · subst hq
    exact gx_outI hc hf ht (by decide) (by decide)
  · subst hq
    refine g_iload_n (i := 2) hc 2 rfl rfl dX6_burst_5 (pc2 := 6) rfl ?_
    refine g_if_lt hc 18 (by decide) dX6_burst_6 (pc2 := 9) rfl (fun q => ?_) (fun q => ?_)
    · have hf := ite_t hf q
      exact g_throwI hc hf ht tx_X6_175_48 dX6_burst_18 dX6_burst_21 dX6_burst_22 dX6_burst_24 dX6_burst_27 (by decide) (by decide) (by decide)
    · have hf := ite_f hf q
      refine g_iload_n (i := 3) hc 3 rfl rfl dX6_burst_9 (pc2 := 10) rfl ?_
      refine g_if_lt hc 18 (by decide) dX6_burst_10 (pc2 := 13) rfl (fun q => ?_) (fun q => ?_)
      · have hf := ite_t hf q
        exact g_throwI hc hf ht tx_X6_175_48 dX6_burst_18 dX6_burst_21 dX6_burst_22 dX6_burst_24 dX6_burst_27 (by decide) (by decide) (by decide)
      · have hf := ite_f hf q
        refine g_iload_n (i := 3) hc 3 rfl rfl dX6_burst_13 (pc2 := 14) rfl ?_
        refine g_iconst (v := (2 : Int32)) hc (by decide) dX6_burst_14 (pc2 := 15) rfl ?_
        refine g_icmp_le hc 28 (by decide) dX6_burst_15 (pc2 := 18) rfl (fun q => ?_) (fun q => ?_)
        · have hf := ite_t hf q
          refine g_aload_n (i := 0) hc 0 rfl rfl dX6_burst_28 (pc2 := 29) rfl ?_
          refine g_getr (q := ad κ.1 3 0) hc fo_X6_19 (u0 (by decide)) rfl dX6_burst_29 (pc2 := 32) rfl ?_
          refine g_getr (q := ad κ.1 6 0) hc fo_X6_117 (u3 (by decide)) rfl dX6_burst_32 (pc2 := 35) rfl ?_
          refine g_iload_n (i := 1) hc 1 rfl rfl dX6_burst_35 (pc2 := 36) rfl ?_
          obtain ⟨hg1, hf⟩ := gd_some hf
          have ihg1 := ib_lt hg1
          refine g_aldr (q := ad κ.1 7 (6 * 0 + a1.toNatClampNeg)) hc 6 0 (by decide) (by decide) (u6 (by decide)) hg1 rfl dX6_burst_36 (pc2 := 37) rfl ?_
          refine g_getr (q := ad κ.1 9 (6 * 0 + a1.toNatClampNeg)) hc fo_X6_133 (u7 (by omega)) rfl dX6_burst_37 (pc2 := 40) rfl ?_
          refine g_astore (L1 := [(4, .ref (ad κ.1 9 (6 * 0 + a1.toNatClampNeg))), (0, .ref (ad κ.1 0 0)), (1, .int a1), (2, .int a2), (3, .int a3)]) hc (by decide) rfl dX6_burst_40 (pc2 := 42) rfl ?_
          refine g_iload_n (i := 2) hc 3 rfl rfl dX6_burst_42 (pc2 := 43) rfl ?_
          refine g_aload hc 0 rfl dX6_burst_43 (pc2 := 45) rfl ?_
          refine g_geti hc fo_X6_137 (u9 (by omega)) dX6_burst_45 (pc2 := 48) rfl ?_
          refine g_icmp_ge hc 57 (by decide) dX6_burst_48 (pc2 := 51) rfl (fun q => ?_) (fun q => ?_)
          · have hf := ite_t hf q
            refine g_bipush (v := (-9 : Int32)) hc (by decide) dX6_burst_57 (pc2 := 59) rfl ?_
            exact g_xiret hc hf hr rfl (by decide) (by decide) dX6_burst_59
          · have hf := ite_f hf q
            refine g_iload_n (i := 2) hc 3 rfl rfl dX6_burst_51 (pc2 := 52) rfl ?_
            refine g_bipush (v := (6 : Int32)) hc (by decide) dX6_burst_52 (pc2 := 54) rfl ?_
            refine g_icmp_lt hc 60 (by decide) dX6_burst_54 (pc2 := 57) rfl (fun q => ?_) (fun q => ?_)
            · have hf := ite_t hf q
              refine g_iload_n (i := 3) hc 4 rfl rfl dX6_burst_60 (pc2 := 61) rfl ?_
              refine g_if_ne hc 72 (by decide) dX6_burst_61 (pc2 := 64) rfl (fun q => ?_) (fun q => ?_)
              · have hf := ite_f hf q
                refine g_iload_n (i := 3) hc 4 rfl rfl dX6_burst_72 (pc2 := 73) rfl ?_
                refine g_iconst (v := (1 : Int32)) hc (by decide) dX6_burst_73 (pc2 := 74) rfl ?_
                refine g_icmp_ne hc 85 (by decide) dX6_burst_74 (pc2 := 77) rfl (fun q => ?_) (fun q => ?_)
                · have hf := ite_f hf q
                  refine g_aload hc 0 rfl dX6_burst_85 (pc2 := 87) rfl ?_
                  refine g_getr (q := ad κ.1 12 (6 * 0 + a1.toNatClampNeg)) hc fo_X6_183 (u9 (by omega)) rfl dX6_burst_87 (pc2 := 90) rfl ?_
                  refine g_iload_n (i := 2) hc 3 rfl rfl dX6_burst_90 (pc2 := 91) rfl ?_
                  obtain ⟨hg2, hf⟩ := gd_some hf
                  refine g_aldz hc 12 (6 * 0 + a1.toNatClampNeg) rfl (u12 (by omega)) hg2 dX6_burst_91 (pc2 := 92) rfl ?_
                  refine g_if_eq hc 99 (by decide) dX6_burst_92 (pc2 := 95) rfl (fun q => ?_) (fun q => ?_)
                  · have hf := ite_t hf q
                    refine g_iconst (v := (0 : Int32)) hc (by decide) dX6_burst_99 (pc2 := 100) rfl ?_
                    exact g_xiret hc hf hr rfl (by decide) (by decide) dX6_burst_100
                  · have hf := ite_f hf q
                    refine g_iconst (v := (1 : Int32)) hc (by decide) dX6_burst_95 (pc2 := 96) rfl ?_
                    refine g_goto hc 100 (by decide) dX6_burst_96 ?_
                    exact g_xiret hc hf hr rfl (by decide) (by decide) dX6_burst_100
                · have hf := ite_t hf q
                  refine g_aload hc 0 rfl dX6_burst_77 (pc2 := 79) rfl ?_
                  refine g_getr (q := ad κ.1 11 (6 * 0 + a1.toNatClampNeg)) hc fo_X6_180 (u9 (by omega)) rfl dX6_burst_79 (pc2 := 82) rfl ?_
                  refine g_iload_n (i := 2) hc 3 rfl rfl dX6_burst_82 (pc2 := 83) rfl ?_
                  obtain ⟨hg3, hf⟩ := gd_some hf
                  refine g_aldi hc 11 (6 * 0 + a1.toNatClampNeg) rfl (u11 (by omega)) hg3 dX6_burst_83 (pc2 := 84) rfl ?_
                  exact g_xiret hc hf hr rfl (by decide) (by decide) dX6_burst_84
              · have hf := ite_t hf q
                refine g_aload hc 0 rfl dX6_burst_64 (pc2 := 66) rfl ?_
                refine g_getr (q := ad κ.1 10 (6 * 0 + a1.toNatClampNeg)) hc fo_X6_177 (u9 (by omega)) rfl dX6_burst_66 (pc2 := 69) rfl ?_
                refine g_iload_n (i := 2) hc 3 rfl rfl dX6_burst_69 (pc2 := 70) rfl ?_
                obtain ⟨hg4, hf⟩ := gd_some hf
                refine g_aldi hc 10 (6 * 0 + a1.toNatClampNeg) rfl (u10 (by omega)) hg4 dX6_burst_70 (pc2 := 71) rfl ?_
                exact g_xiret hc hf hr rfl (by decide) (by decide) dX6_burst_71
            · have hf := ite_f hf q
              refine g_bipush (v := (-9 : Int32)) hc (by decide) dX6_burst_57 (pc2 := 59) rfl ?_
              exact g_xiret hc hf hr rfl (by decide) (by decide) dX6_burst_59
        · have hf := ite_f hf q
          exact g_throwI hc hf ht tx_X6_175_48 dX6_burst_18 dX6_burst_21 dX6_burst_22 dX6_burst_24 dX6_burst_27 (by decide) (by decide) (by decide)
def f6_order_l16 (a1 : Int32) (k1 : Mem → Option ((Nat ⊕ Int32) × Mem)) : Nat → Int32 → Mem → Option ((Nat ⊕ Int32) × Mem)
  | 0, _, _ => none
  | n1 + 1, m1, s2 => (if (s2 30 0 0) ≤ m1 then k1 s2 else bd (f2_mastersAhead 0 m1 s2) fun r1 s3 => (if r1 = a1 then some (.inr m1, s3) else nm (m1 + (1 : Int32)) fun x1 => f6_order_l16 a1 k1 n1 x1 s3))
def f6_order (a1 : Int32) (s0 : Mem) : Option ((Nat ⊕ Int32) × Mem) :=
  (if (0 : Int32) ≤ a1 then nm (fun (s1 : Mem) => some (.inr (-9 : Int32), s1)) fun k1 => f6_order_l16 a1 k1 FU (0 : Int32) s0 else some (.inl 0, s0))
def rm_6_order : Room := { frames := 6, cells := 1, slots := 6, locals := 100 }
set_option maxHeartbeats 4000000 in
set_option maxRecDepth 100000 in
theorem k6_order {κ : Kx} {τ : Nat → Int64} {a1 : Int32} {s0 sR : Mem} {rR : Nat ⊕ Int32}  (hf : f6_order a1 s0 = some (rR, sR)) : CxI κ yX6_order cX6_order 3 (some .int) rm_6_order (NV κ τ) (NV κ τ) [.ref (ad κ.1 0 0), .int a1] s0 sR rR := by
  refine cx_I (by decide +kernel) (Nat.le_of_ble_eq_true rfl) (fun φ hc hr ht => ?_)
  have hc : Cx κ φ RX6 cX6_order 3 rm_6_order := hc
  show G κ φ (QxI κ φ (NV κ τ) sR rR rm_6_order.cells rm_6_order.slots) (NV κ τ) 0 0 s0 [(0, .ref (ad κ.1 0 0)), (1, .int a1)] 0 []
  unfold f6_order at hf
  refine g_iload_n (i := 1) hc 1 rfl rfl dX6_order_0 (pc2 := 1) rfl ?_
  refine g_if_ge hc 14 (by decide) dX6_order_1 (pc2 := 4) rfl (fun q => ?_) (fun q => ?_)
  · have hf := ite_t hf q
    refine g_iconst (v := (0 : Int32)) hc (by decide) dX6_order_14 (pc2 := 15) rfl ?_
    refine g_istore_n (i := 2) (L1 := [(2, .int (0 : Int32)), (0, .ref (ad κ.1 0 0)), (1, .int a1)]) hc rfl (by decide) rfl dX6_order_15 (pc2 := 16) rfl ?_
    obtain ⟨k1, hk1, hf⟩ := nm_ex hf
    have Hk1 : ∀ (s1 : Mem), k1 s1 = some (rR, sR) → G κ φ (QxI κ φ (NV κ τ) sR rR rm_6_order.cells rm_6_order.slots) (NV κ τ) 0 0 s1 [] 47 [] := by
      intro s1 hf
      rw [hk1] at hf
      refine g_bipush (v := (-9 : Int32)) hc (by decide) dX6_order_47 (pc2 := 49) rfl ?_
      exact g_xiret hc hf hr rfl (by decide) (by decide) dX6_order_49
    have LP_n1 : ∀ (n1 : Nat) (m1 : Int32) (s2 : Mem), f6_order_l16 a1 k1 n1 m1 s2 = some (rR, sR) → G κ φ (QxI κ φ (NV κ τ) sR rR rm_6_order.cells rm_6_order.slots) (NV κ τ) 0 0 s2 [(0, .ref (ad κ.1 0 0)), (1, .int a1), (2, .int m1)] 16 [] := by
      intro n1
      induction n1 with
      | zero => intro m1 s2 hf; rw [f6_order_l16] at hf; cases hf
      | succ n1 ih_n1 =>
        intro m1 s2 hf
        rw [f6_order_l16] at hf
        refine g_iload_n (i := 2) hc 2 rfl rfl dX6_order_16 (pc2 := 17) rfl ?_
        refine g_aload_n (i := 0) hc 0 rfl rfl dX6_order_17 (pc2 := 18) rfl ?_
        refine g_getr (q := ad κ.1 3 0) hc fo_X6_19 (u0 (by decide)) rfl dX6_order_18 (pc2 := 21) rfl ?_
        refine g_geti hc fo_X6_83 (u3 (by decide)) dX6_order_21 (pc2 := 24) rfl ?_
        refine g_icmp_ge hc 47 (by decide) dX6_order_24 (pc2 := 27) rfl (fun q => ?_) (fun q => ?_)
        · have hf := ite_t hf q
          refine g_sub [] rfl ?_
          exact Hk1 _ hf
        · have hf := ite_f hf q
          refine g_aload_n (i := 0) hc 0 rfl rfl dX6_order_27 (pc2 := 28) rfl ?_
          refine g_getr (q := ad κ.1 3 0) hc fo_X6_19 (u0 (by decide)) rfl dX6_order_28 (pc2 := 31) rfl ?_
          refine g_iload_n (i := 2) hc 2 rfl rfl dX6_order_31 (pc2 := 32) rfl ?_
          obtain ⟨r1, s3, hp, hf⟩ := bd_some hf
          refine g_vI hc (k2_mastersAhead (by decide) hp) co_X6_188 (u3 (by decide)) rfl rfl (by decide) (by decide) (Nat.le_of_ble_eq_true rfl) dX6_order_32 (pc2 := 35) rfl ?_
          refine g_iload_n (i := 1) hc 1 rfl rfl dX6_order_35 (pc2 := 36) rfl ?_
          refine g_icmp_ne hc 41 (by decide) dX6_order_36 (pc2 := 39) rfl (fun q => ?_) (fun q => ?_)
          · have hf := ite_f hf q
            obtain ⟨x1, hx1, hf⟩ := nm_ex hf
            refine g_iinc (v := x1) (L1 := [(2, .int x1), (0, .ref (ad κ.1 0 0)), (1, .int a1)]) hc 2 rfl (by rw [hx1]; rfl) (by decide) rfl dX6_order_41 (pc2 := 44) rfl ?_
            refine g_goto hc 16 (by decide) dX6_order_44 ?_
            refine g_sub [1, 2, 0] rfl ?_
            exact ih_n1 _ _ hf
          · have hf := ite_t hf q
            refine g_iload_n (i := 2) hc 2 rfl rfl dX6_order_39 (pc2 := 40) rfl ?_
            exact g_xiret hc hf hr rfl (by decide) (by decide) dX6_order_40
    refine g_sub [1, 2, 0] rfl ?_
    exact LP_n1 _ _ _ hf
  · have hf := ite_f hf q
    exact g_throwI hc hf ht tx_X6_186_48 dX6_order_4 dX6_order_7 dX6_order_8 dX6_order_10 dX6_order_13 (by decide) (by decide) (by decide)
def f6_addMaster  (s0 : Mem) : Option ((Nat ⊕ Int32) × Mem) :=
  (if (s0 30 0 0) < (6 : Int32) then bv (f4_remember 0 s0) fun s1 => bd (f2_join 0 s1) fun r1 s2 => some (.inr r1, s2) else some (.inl 1, s0))
def rm_6_addMaster : Room := { frames := 6, cells := 1, slots := 6, locals := 100 }
set_option maxHeartbeats 4000000 in
set_option maxRecDepth 100000 in
theorem k6_addMaster {κ : Kx} {τ : Nat → Int64}  {s0 sR : Mem} {rR : Nat ⊕ Int32}  (hf : f6_addMaster s0 = some (rR, sR)) : CxI κ yX6_addMaster cX6_addMaster 1 (some .int) rm_6_addMaster (NV κ τ) (NV κ τ) [.ref (ad κ.1 0 0)] s0 sR rR := by
  refine cx_I (by decide +kernel) (Nat.le_of_ble_eq_true rfl) (fun φ hc hr ht => ?_)
  have hc : Cx κ φ RX6 cX6_addMaster 1 rm_6_addMaster := hc
  show G κ φ (QxI κ φ (NV κ τ) sR rR rm_6_addMaster.cells rm_6_addMaster.slots) (NV κ τ) 0 0 s0 [(0, .ref (ad κ.1 0 0))] 0 []
  unfold f6_addMaster at hf
  refine g_aload_n (i := 0) hc 0 rfl rfl dX6_addMaster_0 (pc2 := 1) rfl ?_
  refine g_getr (q := ad κ.1 3 0) hc fo_X6_19 (u0 (by decide)) rfl dX6_addMaster_1 (pc2 := 4) rfl ?_
  refine g_geti hc fo_X6_83 (u3 (by decide)) dX6_addMaster_4 (pc2 := 7) rfl ?_
  refine g_bipush (v := (6 : Int32)) hc (by decide) dX6_addMaster_7 (pc2 := 9) rfl ?_
  refine g_icmp_lt hc 22 (by decide) dX6_addMaster_9 (pc2 := 12) rfl (fun q => ?_) (fun q => ?_)
  · have hf := ite_t hf q
    refine g_aload_n (i := 0) hc 0 rfl rfl dX6_addMaster_22 (pc2 := 23) rfl ?_
    refine g_getr (q := ad κ.1 15 0) hc fo_X6_26 (u0 (by decide)) rfl dX6_addMaster_23 (pc2 := 26) rfl ?_
    refine g_aload_n (i := 0) hc 0 rfl rfl dX6_addMaster_26 (pc2 := 27) rfl ?_
    refine g_getr (q := ad κ.1 3 0) hc fo_X6_19 (u0 (by decide)) rfl dX6_addMaster_27 (pc2 := 30) rfl ?_
    obtain ⟨s1, hp, hf⟩ := bv_some hf
    refine g_vV hc (k4_remember (by decide) hp) co_X6_193 (u15 (by decide)) rfl rfl (by decide) (by decide) (Nat.le_of_ble_eq_true rfl) dX6_addMaster_30 (pc2 := 33) rfl ?_
    refine g_aload_n (i := 0) hc 0 rfl rfl dX6_addMaster_33 (pc2 := 34) rfl ?_
    refine g_getr (q := ad κ.1 3 0) hc fo_X6_19 (u0 (by decide)) rfl dX6_addMaster_34 (pc2 := 37) rfl ?_
    obtain ⟨r1, s2, hp, hf⟩ := bd_some hf
    refine g_vI hc (k2_join (by decide) hp) co_X6_196 (u3 (by decide)) rfl rfl (by decide) (by decide) (Nat.le_of_ble_eq_true rfl) dX6_addMaster_37 (pc2 := 40) rfl ?_
    exact g_xiret hc hf hr rfl (by decide) (by decide) dX6_addMaster_40
  · have hf := ite_f hf q
    exact g_throwI hc hf ht tx_X6_191_59 dX6_addMaster_12 dX6_addMaster_15 dX6_addMaster_16 dX6_addMaster_18 dX6_addMaster_21 (by decide) (by decide) (by decide)
def f6_give (a1 : Int32) (a2 : Int32) (s0 : Mem) : Option ((Nat ⊕ Int32) × Mem) :=
  bx (f6_needSlot a1 s0) (fun e s1 => some (.inl e, s1)) fun _ s1 => bx (f6_needMaster a2 s1) (fun e s2 => some (.inl e, s2)) fun _ s2 => gd (ib a2 6) ((if (s2 40 (6 * 0 + a2.toNatClampNeg) 0) = (0 : Int32) then bv (f4_remember 0 s2) fun s3 => gd (ib a1 16) (nm (s3 4 0 a1.toNatClampNeg) fun x1 => gd (ib a1 16) (nm (ms s3 4 0 a1.toNatClampNeg a2) fun s4 => some (.inr x1, s4))) else some (.inl 1, s2)))
def rm_6_give : Room := { frames := 7, cells := 3, slots := 18, locals := 121 }
set_option maxHeartbeats 4000000 in
set_option maxRecDepth 100000 in
theorem k6_give {κ : Kx} {τ : Nat → Int64} {a1 : Int32} {a2 : Int32} {s0 sR : Mem} {rR : Nat ⊕ Int32}  (hf : f6_give a1 a2 s0 = some (rR, sR)) : CxI κ yX6_give cX6_give 4 (some .int) rm_6_give (NV κ τ) (NV κ τ) [.ref (ad κ.1 0 0), .int a1, .int a2] s0 sR rR := by
  refine cx_I (by decide +kernel) (Nat.le_of_ble_eq_true rfl) (fun φ hc hr ht => ?_)
  have hc : Cx κ φ RX6 cX6_give 4 rm_6_give := hc
  show G κ φ (QxI κ φ (NV κ τ) sR rR rm_6_give.cells rm_6_give.slots) (NV κ τ) 0 0 s0 [(0, .ref (ad κ.1 0 0)), (1, .int a1), (2, .int a2)] 0 []
  unfold f6_give at hf
  refine g_aload_n (i := 0) hc 0 rfl rfl dX6_give_0 (pc2 := 1) rfl ?_
  refine g_iload_n (i := 1) hc 1 rfl rfl dX6_give_1 (pc2 := 2) rfl ?_
  obtain ⟨r1, s1, hp, hf⟩ := bx_some hf
  refine g_vxV hc (k6_needSlot hp) co_X6_165 (u0 (by decide)) rfl rfl (by decide) (by decide) (Nat.le_of_ble_eq_true rfl) dX6_give_2 (pc2 := 5) rfl (fun q hq => ?_) (fun hq => ?_)
  · subst hq
    exact gx_outI hc hf ht (by decide) (by decide)
  · subst hq
    refine g_aload_n (i := 0) hc 0 rfl rfl dX6_give_5 (pc2 := 6) rfl ?_
    refine g_iload_n (i := 2) hc 2 rfl rfl dX6_give_6 (pc2 := 7) rfl ?_
    obtain ⟨r2, s2, hp, hf⟩ := bx_some hf
    refine g_vxV hc (k6_needMaster hp) co_X6_113 (u0 (by decide)) rfl rfl (by decide) (by decide) (Nat.le_of_ble_eq_true rfl) dX6_give_7 (pc2 := 10) rfl (fun q hq => ?_) (fun hq => ?_)
    · subst hq
      exact gx_outI hc hf ht (by decide) (by decide)
    · subst hq
      refine g_aload_n (i := 0) hc 0 rfl rfl dX6_give_10 (pc2 := 11) rfl ?_
      refine g_getr (q := ad κ.1 3 0) hc fo_X6_19 (u0 (by decide)) rfl dX6_give_11 (pc2 := 14) rfl ?_
      refine g_getr (q := ad κ.1 6 0) hc fo_X6_117 (u3 (by decide)) rfl dX6_give_14 (pc2 := 17) rfl ?_
      refine g_iload_n (i := 2) hc 2 rfl rfl dX6_give_17 (pc2 := 18) rfl ?_
      obtain ⟨hg1, hf⟩ := gd_some hf
      have ihg1 := ib_lt hg1
      refine g_aldr (q := ad κ.1 7 (6 * 0 + a2.toNatClampNeg)) hc 6 0 (by decide) (by decide) (u6 (by decide)) hg1 rfl dX6_give_18 (pc2 := 19) rfl ?_
      refine g_geti hc fo_X6_199 (u7 (by omega)) dX6_give_19 (pc2 := 22) rfl ?_
      refine g_if_eq hc 35 (by decide) dX6_give_22 (pc2 := 25) rfl (fun q => ?_) (fun q => ?_)
      · have hf := ite_t hf q
        refine g_aload_n (i := 0) hc 0 rfl rfl dX6_give_35 (pc2 := 36) rfl ?_
        refine g_getr (q := ad κ.1 15 0) hc fo_X6_26 (u0 (by decide)) rfl dX6_give_36 (pc2 := 39) rfl ?_
        refine g_aload_n (i := 0) hc 0 rfl rfl dX6_give_39 (pc2 := 40) rfl ?_
        refine g_getr (q := ad κ.1 3 0) hc fo_X6_19 (u0 (by decide)) rfl dX6_give_40 (pc2 := 43) rfl ?_
        obtain ⟨s3, hp, hf⟩ := bv_some hf
        refine g_vV hc (k4_remember (by decide) hp) co_X6_193 (u15 (by decide)) rfl rfl (by decide) (by decide) (Nat.le_of_ble_eq_true rfl) dX6_give_43 (pc2 := 46) rfl ?_
        refine g_aload_n (i := 0) hc 0 rfl rfl dX6_give_46 (pc2 := 47) rfl ?_
        refine g_getr (q := ad κ.1 3 0) hc fo_X6_19 (u0 (by decide)) rfl dX6_give_47 (pc2 := 50) rfl ?_
        refine g_getr (q := ad κ.1 4 0) hc fo_X6_168 (u3 (by decide)) rfl dX6_give_50 (pc2 := 53) rfl ?_
        refine g_iload_n (i := 1) hc 1 rfl rfl dX6_give_53 (pc2 := 54) rfl ?_
        obtain ⟨hg2, hf⟩ := gd_some hf
        refine g_aldi hc 4 0 rfl (u4 (by decide)) hg2 dX6_give_54 (pc2 := 55) rfl ?_
        obtain ⟨x1, hx1, hf⟩ := nm_ex hf
        refine g_nmi hx1 ?_
        refine g_istore_n (i := 3) (L1 := [(3, .int x1), (0, .ref (ad κ.1 0 0)), (1, .int a1), (2, .int a2)]) hc rfl (by decide) rfl dX6_give_55 (pc2 := 56) rfl ?_
        refine g_aload_n (i := 0) hc 1 rfl rfl dX6_give_56 (pc2 := 57) rfl ?_
        refine g_getr (q := ad κ.1 3 0) hc fo_X6_19 (u0 (by decide)) rfl dX6_give_57 (pc2 := 60) rfl ?_
        refine g_getr (q := ad κ.1 4 0) hc fo_X6_168 (u3 (by decide)) rfl dX6_give_60 (pc2 := 63) rfl ?_
        refine g_iload_n (i := 1) hc 2 rfl rfl dX6_give_63 (pc2 := 64) rfl ?_
        refine g_iload_n (i := 2) hc 3 rfl rfl dX6_give_64 (pc2 := 65) rfl ?_
        obtain ⟨hg3, hf⟩ := gd_some hf
        obtain ⟨s4, hs4, hf⟩ := nm_ex hf
        refine g_asti hc 4 0 rfl (u4 (by decide)) hg3 dX6_give_65 (pc2 := 66) rfl ?_
        refine g_nms hs4 ?_
        refine g_iload_n (i := 3) hc 0 rfl rfl dX6_give_66 (pc2 := 67) rfl ?_
        exact g_xiret hc hf hr rfl (by decide) (by decide) dX6_give_67
      · have hf := ite_f hf q
        exact g_throwI hc hf ht tx_X6_203_59 dX6_give_25 dX6_give_28 dX6_give_29 dX6_give_31 dX6_give_34 (by decide) (by decide) (by decide)
def f6_needSlave (a1 : Int32) (s0 : Mem) : Option ((Nat ⊕ Unit) × Mem) :=
  (if a1 < (0 : Int32) then some (.inl 2, s0) else (if a1 < (4 : Int32) then some (.inr (), s0) else some (.inl 2, s0)))
def rm_6_needSlave : Room := { frames := 6, cells := 1, slots := 6, locals := 100 }
set_option maxHeartbeats 4000000 in
set_option maxRecDepth 100000 in
theorem k6_needSlave {κ : Kx} {τ : Nat → Int64} {a1 : Int32} {s0 sR : Mem} {rR : Nat ⊕ Unit}  (hf : f6_needSlave a1 s0 = some (rR, sR)) : CxV κ yX6_needSlave cX6_needSlave 2 none rm_6_needSlave (NV κ τ) (NV κ τ) [.ref (ad κ.1 0 0), .int a1] s0 sR rR := by
  refine cx_V (by decide +kernel) (Nat.le_of_ble_eq_true rfl) (fun φ hc hr ht => ?_)
  have hc : Cx κ φ RX6 cX6_needSlave 2 rm_6_needSlave := hc
  show G κ φ (QxV κ φ (NV κ τ) sR rR rm_6_needSlave.cells rm_6_needSlave.slots) (NV κ τ) 0 0 s0 [(0, .ref (ad κ.1 0 0)), (1, .int a1)] 0 []
  unfold f6_needSlave at hf
  refine g_iload_n (i := 1) hc 1 rfl rfl dX6_needSlave_0 (pc2 := 1) rfl ?_
  refine g_if_lt hc 9 (by decide) dX6_needSlave_1 (pc2 := 4) rfl (fun q => ?_) (fun q => ?_)
  · have hf := ite_t hf q
    exact g_throwWV hc hf ht tx_X6_285_279 dX6_needSlave_9 dX6_needSlave_12 dX6_needSlave_13 dX6_needSlave_16 dX6_needSlave_19 (by decide) (by decide) (by decide)
  · have hf := ite_f hf q
    refine g_iload_n (i := 1) hc 1 rfl rfl dX6_needSlave_4 (pc2 := 5) rfl ?_
    refine g_iconst (v := (4 : Int32)) hc (by decide) dX6_needSlave_5 (pc2 := 6) rfl ?_
    refine g_icmp_lt hc 20 (by decide) dX6_needSlave_6 (pc2 := 9) rfl (fun q => ?_) (fun q => ?_)
    · have hf := ite_t hf q
      exact g_xvret hc hf hr (by decide) (by decide) dX6_needSlave_20
    · have hf := ite_f hf q
      exact g_throwWV hc hf ht tx_X6_285_279 dX6_needSlave_9 dX6_needSlave_12 dX6_needSlave_13 dX6_needSlave_16 dX6_needSlave_19 (by decide) (by decide) (by decide)
def f6_setLatency (a1 : Int32) (a2 : Int32) (s0 : Mem) : Option ((Nat ⊕ Int32) × Mem) :=
  bx (f6_needSlave a1 s0) (fun e s1 => some (.inl e, s1)) fun _ s1 => (if a2 < (0 : Int32) then some (.inl 0, s1) else (if a2 ≤ (9 : Int32) then bv (f4_remember 0 s1) fun s2 => gd (ib a1 4) (nm (s2 5 0 a1.toNatClampNeg) fun x1 => gd (ib a1 4) (nm (ms s2 5 0 a1.toNatClampNeg a2) fun s3 => some (.inr x1, s3))) else some (.inl 0, s1)))
def rm_6_setLatency : Room := { frames := 7, cells := 2, slots := 12, locals := 121 }
set_option maxHeartbeats 4000000 in
set_option maxRecDepth 100000 in
theorem k6_setLatency {κ : Kx} {τ : Nat → Int64} {a1 : Int32} {a2 : Int32} {s0 sR : Mem} {rR : Nat ⊕ Int32}  (hf : f6_setLatency a1 a2 s0 = some (rR, sR)) : CxI κ yX6_setLatency cX6_setLatency 4 (some .int) rm_6_setLatency (NV κ τ) (NV κ τ) [.ref (ad κ.1 0 0), .int a1, .int a2] s0 sR rR := by
  refine cx_I (by decide +kernel) (Nat.le_of_ble_eq_true rfl) (fun φ hc hr ht => ?_)
  have hc : Cx κ φ RX6 cX6_setLatency 4 rm_6_setLatency := hc
  show G κ φ (QxI κ φ (NV κ τ) sR rR rm_6_setLatency.cells rm_6_setLatency.slots) (NV κ τ) 0 0 s0 [(0, .ref (ad κ.1 0 0)), (1, .int a1), (2, .int a2)] 0 []
  unfold f6_setLatency at hf
  refine g_aload_n (i := 0) hc 0 rfl rfl dX6_setLatency_0 (pc2 := 1) rfl ?_
  refine g_iload_n (i := 1) hc 1 rfl rfl dX6_setLatency_1 (pc2 := 2) rfl ?_
  obtain ⟨r1, s1, hp, hf⟩ := bx_some hf
  refine g_vxV hc (k6_needSlave hp) co_X6_205 (u0 (by decide)) rfl rfl (by decide) (by decide) (Nat.le_of_ble_eq_true rfl) dX6_setLatency_2 (pc2 := 5) rfl (fun q hq => ?_) (fun hq => ?_)
  · subst hq
    exact gx_outI hc hf ht (by decide) (by decide)
  · subst hq
    refine g_iload_n (i := 2) hc 2 rfl rfl dX6_setLatency_5 (pc2 := 6) rfl ?_
    refine g_if_lt hc 15 (by decide) dX6_setLatency_6 (pc2 := 9) rfl (fun q => ?_) (fun q => ?_)
    · have hf := ite_t hf q
      exact g_throwI hc hf ht tx_X6_208_48 dX6_setLatency_15 dX6_setLatency_18 dX6_setLatency_19 dX6_setLatency_21 dX6_setLatency_24 (by decide) (by decide) (by decide)
    · have hf := ite_f hf q
      refine g_iload_n (i := 2) hc 2 rfl rfl dX6_setLatency_9 (pc2 := 10) rfl ?_
      refine g_bipush (v := (9 : Int32)) hc (by decide) dX6_setLatency_10 (pc2 := 12) rfl ?_
      refine g_icmp_le hc 25 (by decide) dX6_setLatency_12 (pc2 := 15) rfl (fun q => ?_) (fun q => ?_)
      · have hf := ite_t hf q
        refine g_aload_n (i := 0) hc 0 rfl rfl dX6_setLatency_25 (pc2 := 26) rfl ?_
        refine g_getr (q := ad κ.1 15 0) hc fo_X6_26 (u0 (by decide)) rfl dX6_setLatency_26 (pc2 := 29) rfl ?_
        refine g_aload_n (i := 0) hc 0 rfl rfl dX6_setLatency_29 (pc2 := 30) rfl ?_
        refine g_getr (q := ad κ.1 3 0) hc fo_X6_19 (u0 (by decide)) rfl dX6_setLatency_30 (pc2 := 33) rfl ?_
        obtain ⟨s2, hp, hf⟩ := bv_some hf
        refine g_vV hc (k4_remember (by decide) hp) co_X6_193 (u15 (by decide)) rfl rfl (by decide) (by decide) (Nat.le_of_ble_eq_true rfl) dX6_setLatency_33 (pc2 := 36) rfl ?_
        refine g_aload_n (i := 0) hc 0 rfl rfl dX6_setLatency_36 (pc2 := 37) rfl ?_
        refine g_getr (q := ad κ.1 3 0) hc fo_X6_19 (u0 (by decide)) rfl dX6_setLatency_37 (pc2 := 40) rfl ?_
        refine g_getr (q := ad κ.1 5 0) hc fo_X6_210 (u3 (by decide)) rfl dX6_setLatency_40 (pc2 := 43) rfl ?_
        refine g_iload_n (i := 1) hc 1 rfl rfl dX6_setLatency_43 (pc2 := 44) rfl ?_
        obtain ⟨hg1, hf⟩ := gd_some hf
        refine g_aldi hc 5 0 rfl (u5 (by decide)) hg1 dX6_setLatency_44 (pc2 := 45) rfl ?_
        obtain ⟨x1, hx1, hf⟩ := nm_ex hf
        refine g_nmi hx1 ?_
        refine g_istore_n (i := 3) (L1 := [(3, .int x1), (0, .ref (ad κ.1 0 0)), (1, .int a1), (2, .int a2)]) hc rfl (by decide) rfl dX6_setLatency_45 (pc2 := 46) rfl ?_
        refine g_aload_n (i := 0) hc 1 rfl rfl dX6_setLatency_46 (pc2 := 47) rfl ?_
        refine g_getr (q := ad κ.1 3 0) hc fo_X6_19 (u0 (by decide)) rfl dX6_setLatency_47 (pc2 := 50) rfl ?_
        refine g_getr (q := ad κ.1 5 0) hc fo_X6_210 (u3 (by decide)) rfl dX6_setLatency_50 (pc2 := 53) rfl ?_
        refine g_iload_n (i := 1) hc 2 rfl rfl dX6_setLatency_53 (pc2 := 54) rfl ?_
        refine g_iload_n (i := 2) hc 3 rfl rfl dX6_setLatency_54 (pc2 := 55) rfl ?_
        obtain ⟨hg2, hf⟩ := gd_some hf
        obtain ⟨s3, hs3, hf⟩ := nm_ex hf
        refine g_asti hc 5 0 rfl (u5 (by decide)) hg2 dX6_setLatency_55 (pc2 := 56) rfl ?_
        refine g_nms hs3 ?_
        refine g_iload_n (i := 3) hc 0 rfl rfl dX6_setLatency_56 (pc2 := 57) rfl ?_
        exact g_xiret hc hf hr rfl (by decide) (by decide) dX6_setLatency_57
      · have hf := ite_f hf q
        exact g_throwI hc hf ht tx_X6_208_48 dX6_setLatency_15 dX6_setLatency_18 dX6_setLatency_19 dX6_setLatency_21 dX6_setLatency_24 (by decide) (by decide) (by decide)
def f6_setCredit (a1 : Int32) (s0 : Mem) : Option ((Nat ⊕ Int32) × Mem) :=
  (if a1 < (0 : Int32) then some (.inl 0, s0) else (if a1 ≤ (9 : Int32) then bv (f4_remember 0 s0) fun s1 => nm (s1 34 0 0) fun x1 => nm (ms s1 34 0 0 a1) fun s2 => some (.inr x1, s2) else some (.inl 0, s0)))
def rm_6_setCredit : Room := { frames := 6, cells := 1, slots := 6, locals := 100 }
set_option maxHeartbeats 4000000 in
set_option maxRecDepth 100000 in
theorem k6_setCredit {κ : Kx} {τ : Nat → Int64} {a1 : Int32} {s0 sR : Mem} {rR : Nat ⊕ Int32}  (hf : f6_setCredit a1 s0 = some (rR, sR)) : CxI κ yX6_setCredit cX6_setCredit 3 (some .int) rm_6_setCredit (NV κ τ) (NV κ τ) [.ref (ad κ.1 0 0), .int a1] s0 sR rR := by
  refine cx_I (by decide +kernel) (Nat.le_of_ble_eq_true rfl) (fun φ hc hr ht => ?_)
  have hc : Cx κ φ RX6 cX6_setCredit 3 rm_6_setCredit := hc
  show G κ φ (QxI κ φ (NV κ τ) sR rR rm_6_setCredit.cells rm_6_setCredit.slots) (NV κ τ) 0 0 s0 [(0, .ref (ad κ.1 0 0)), (1, .int a1)] 0 []
  unfold f6_setCredit at hf
  refine g_iload_n (i := 1) hc 1 rfl rfl dX6_setCredit_0 (pc2 := 1) rfl ?_
  refine g_if_lt hc 10 (by decide) dX6_setCredit_1 (pc2 := 4) rfl (fun q => ?_) (fun q => ?_)
  · have hf := ite_t hf q
    exact g_throwI hc hf ht tx_X6_213_48 dX6_setCredit_10 dX6_setCredit_13 dX6_setCredit_14 dX6_setCredit_16 dX6_setCredit_19 (by decide) (by decide) (by decide)
  · have hf := ite_f hf q
    refine g_iload_n (i := 1) hc 1 rfl rfl dX6_setCredit_4 (pc2 := 5) rfl ?_
    refine g_bipush (v := (9 : Int32)) hc (by decide) dX6_setCredit_5 (pc2 := 7) rfl ?_
    refine g_icmp_le hc 20 (by decide) dX6_setCredit_7 (pc2 := 10) rfl (fun q => ?_) (fun q => ?_)
    · have hf := ite_t hf q
      refine g_aload_n (i := 0) hc 0 rfl rfl dX6_setCredit_20 (pc2 := 21) rfl ?_
      refine g_getr (q := ad κ.1 15 0) hc fo_X6_26 (u0 (by decide)) rfl dX6_setCredit_21 (pc2 := 24) rfl ?_
      refine g_aload_n (i := 0) hc 0 rfl rfl dX6_setCredit_24 (pc2 := 25) rfl ?_
      refine g_getr (q := ad κ.1 3 0) hc fo_X6_19 (u0 (by decide)) rfl dX6_setCredit_25 (pc2 := 28) rfl ?_
      obtain ⟨s1, hp, hf⟩ := bv_some hf
      refine g_vV hc (k4_remember (by decide) hp) co_X6_193 (u15 (by decide)) rfl rfl (by decide) (by decide) (Nat.le_of_ble_eq_true rfl) dX6_setCredit_28 (pc2 := 31) rfl ?_
      refine g_aload_n (i := 0) hc 0 rfl rfl dX6_setCredit_31 (pc2 := 32) rfl ?_
      refine g_getr (q := ad κ.1 3 0) hc fo_X6_19 (u0 (by decide)) rfl dX6_setCredit_32 (pc2 := 35) rfl ?_
      refine g_geti hc fo_X6_96 (u3 (by decide)) dX6_setCredit_35 (pc2 := 38) rfl ?_
      obtain ⟨x1, hx1, hf⟩ := nm_ex hf
      refine g_nmi hx1 ?_
      refine g_istore_n (i := 2) (L1 := [(2, .int x1), (0, .ref (ad κ.1 0 0)), (1, .int a1)]) hc rfl (by decide) rfl dX6_setCredit_38 (pc2 := 39) rfl ?_
      refine g_aload_n (i := 0) hc 1 rfl rfl dX6_setCredit_39 (pc2 := 40) rfl ?_
      refine g_getr (q := ad κ.1 3 0) hc fo_X6_19 (u0 (by decide)) rfl dX6_setCredit_40 (pc2 := 43) rfl ?_
      refine g_iload_n (i := 1) hc 2 rfl rfl dX6_setCredit_43 (pc2 := 44) rfl ?_
      obtain ⟨s2, hs2, hf⟩ := nm_ex hf
      refine g_puti hc (by decide) fo_X6_96 clO_3 poK_3_4 rfl (u3 (by decide)) rfl rfl dX6_setCredit_44 (pc2 := 47) rfl ?_
      refine g_nms hs2 ?_
      refine g_iload_n (i := 2) hc 0 rfl rfl dX6_setCredit_47 (pc2 := 48) rfl ?_
      exact g_xiret hc hf hr rfl (by decide) (by decide) dX6_setCredit_48
    · have hf := ite_f hf q
      exact g_throwI hc hf ht tx_X6_213_48 dX6_setCredit_10 dX6_setCredit_13 dX6_setCredit_14 dX6_setCredit_16 dX6_setCredit_19 (by decide) (by decide) (by decide)
def f6_send (a1 : Int32) (a2 : Int32) (a3 : Int32) (a4 : Int32) (s0 : Mem) : Option ((Nat ⊕ Int32) × Mem) :=
  bx (f6_needMaster a1 s0) (fun e s1 => some (.inl e, s1)) fun _ s1 => bx (f6_needSlave a2 s1) (fun e s2 => some (.inl e, s2)) fun _ s2 => (if a3 < (1 : Int32) then some (.inl 0, s2) else (if a3 ≤ (8 : Int32) then gd (ib a1 6) (bd (f5_takesBursts (6 * 0 + a1.toNatClampNeg) s2) fun r3 s3 => (if r3 = (0 : Int32) then some (.inl 1, s3) else bv (f4_remember 0 s3) fun s4 => bv (f1_add (6 * 0 + a1.toNatClampNeg) a2 a3 a4 s4) fun s5 => some (.inr (s5 50 (6 * 0 + a1.toNatClampNeg) 0), s5))) else some (.inl 0, s2)))
def rm_6_send : Room := { frames := 7, cells := 4, slots := 24, locals := 121 }
set_option maxHeartbeats 4000000 in
set_option maxRecDepth 100000 in
theorem k6_send {κ : Kx} {τ : Nat → Int64} {a1 : Int32} {a2 : Int32} {a3 : Int32} {a4 : Int32} {s0 sR : Mem} {rR : Nat ⊕ Int32}  (hf : f6_send a1 a2 a3 a4 s0 = some (rR, sR)) : CxI κ yX6_send cX6_send 6 (some .int) rm_6_send (NV κ τ) (NV κ τ) [.ref (ad κ.1 0 0), .int a1, .int a2, .int a3, .int a4] s0 sR rR := by
  refine cx_I (by decide +kernel) (Nat.le_of_ble_eq_true rfl) (fun φ hc hr ht => ?_)
  have hc : Cx κ φ RX6 cX6_send 6 rm_6_send := hc
  show G κ φ (QxI κ φ (NV κ τ) sR rR rm_6_send.cells rm_6_send.slots) (NV κ τ) 0 0 s0 [(0, .ref (ad κ.1 0 0)), (1, .int a1), (2, .int a2), (3, .int a3), (4, .int a4)] 0 []
  unfold f6_send at hf
  refine g_aload_n (i := 0) hc 0 rfl rfl dX6_send_0 (pc2 := 1) rfl ?_
  refine g_iload_n (i := 1) hc 1 rfl rfl dX6_send_1 (pc2 := 2) rfl ?_
  obtain ⟨r1, s1, hp, hf⟩ := bx_some hf
  refine g_vxV hc (k6_needMaster hp) co_X6_113 (u0 (by decide)) rfl rfl (by decide) (by decide) (Nat.le_of_ble_eq_true rfl) dX6_send_2 (pc2 := 5) rfl (fun q hq => ?_) (fun hq => ?_)
  · subst hq
    exact gx_outI hc hf ht (by decide) (by decide)
  · subst hq
    refine g_aload_n (i := 0) hc 0 rfl rfl dX6_send_5 (pc2 := 6) rfl ?_
    refine g_iload_n (i := 2) hc 2 rfl rfl dX6_send_6 (pc2 := 7) rfl ?_
    obtain ⟨r2, s2, hp, hf⟩ := bx_some hf
    refine g_vxV hc (k6_needSlave hp) co_X6_205 (u0 (by decide)) rfl rfl (by decide) (by decide) (Nat.le_of_ble_eq_true rfl) dX6_send_7 (pc2 := 10) rfl (fun q hq => ?_) (fun hq => ?_)
    · subst hq
      exact gx_outI hc hf ht (by decide) (by decide)
    · subst hq
      refine g_iload_n (i := 3) hc 3 rfl rfl dX6_send_10 (pc2 := 11) rfl ?_
      refine g_iconst (v := (1 : Int32)) hc (by decide) dX6_send_11 (pc2 := 12) rfl ?_
      refine g_icmp_lt hc 21 (by decide) dX6_send_12 (pc2 := 15) rfl (fun q => ?_) (fun q => ?_)
      · have hf := ite_t hf q
        exact g_throwI hc hf ht tx_X6_215_48 dX6_send_21 dX6_send_24 dX6_send_25 dX6_send_27 dX6_send_30 (by decide) (by decide) (by decide)
      · have hf := ite_f hf q
        refine g_iload_n (i := 3) hc 3 rfl rfl dX6_send_15 (pc2 := 16) rfl ?_
        refine g_bipush (v := (8 : Int32)) hc (by decide) dX6_send_16 (pc2 := 18) rfl ?_
        refine g_icmp_le hc 31 (by decide) dX6_send_18 (pc2 := 21) rfl (fun q => ?_) (fun q => ?_)
        · have hf := ite_t hf q
          refine g_aload_n (i := 0) hc 0 rfl rfl dX6_send_31 (pc2 := 32) rfl ?_
          refine g_getr (q := ad κ.1 3 0) hc fo_X6_19 (u0 (by decide)) rfl dX6_send_32 (pc2 := 35) rfl ?_
          refine g_getr (q := ad κ.1 6 0) hc fo_X6_117 (u3 (by decide)) rfl dX6_send_35 (pc2 := 38) rfl ?_
          refine g_iload_n (i := 1) hc 1 rfl rfl dX6_send_38 (pc2 := 39) rfl ?_
          obtain ⟨hg1, hf⟩ := gd_some hf
          have ihg1 := ib_lt hg1
          refine g_aldr (q := ad κ.1 7 (6 * 0 + a1.toNatClampNeg)) hc 6 0 (by decide) (by decide) (u6 (by decide)) hg1 rfl dX6_send_39 (pc2 := 40) rfl ?_
          refine g_astore (L1 := [(5, .ref (ad κ.1 7 (6 * 0 + a1.toNatClampNeg))), (0, .ref (ad κ.1 0 0)), (1, .int a1), (2, .int a2), (3, .int a3), (4, .int a4)]) hc (by decide) rfl dX6_send_40 (pc2 := 42) rfl ?_
          refine g_aload hc 0 rfl dX6_send_42 (pc2 := 44) rfl ?_
          obtain ⟨r3, s3, hp, hf⟩ := bd_some hf
          refine g_vI hc (k5_takesBursts (by omega) hp) co_X6_217 (u7 (by omega)) rfl rfl (by decide) (by decide) (Nat.le_of_ble_eq_true rfl) dX6_send_44 (pc2 := 47) rfl ?_
          refine g_if_ne hc 60 (by decide) dX6_send_47 (pc2 := 50) rfl (fun q => ?_) (fun q => ?_)
          · have hf := ite_f hf q
            refine g_aload_n (i := 0) hc 1 rfl rfl dX6_send_60 (pc2 := 61) rfl ?_
            refine g_getr (q := ad κ.1 15 0) hc fo_X6_26 (u0 (by decide)) rfl dX6_send_61 (pc2 := 64) rfl ?_
            refine g_aload_n (i := 0) hc 1 rfl rfl dX6_send_64 (pc2 := 65) rfl ?_
            refine g_getr (q := ad κ.1 3 0) hc fo_X6_19 (u0 (by decide)) rfl dX6_send_65 (pc2 := 68) rfl ?_
            obtain ⟨s4, hp, hf⟩ := bv_some hf
            refine g_vV hc (k4_remember (by decide) hp) co_X6_193 (u15 (by decide)) rfl rfl (by decide) (by decide) (Nat.le_of_ble_eq_true rfl) dX6_send_68 (pc2 := 71) rfl ?_
            refine g_aload hc 0 rfl dX6_send_71 (pc2 := 73) rfl ?_
            refine g_getr (q := ad κ.1 9 (6 * 0 + a1.toNatClampNeg)) hc fo_X6_133 (u7 (by omega)) rfl dX6_send_73 (pc2 := 76) rfl ?_
            refine g_iload_n (i := 2) hc 3 rfl rfl dX6_send_76 (pc2 := 77) rfl ?_
            refine g_iload_n (i := 3) hc 4 rfl rfl dX6_send_77 (pc2 := 78) rfl ?_
            refine g_iload hc 5 rfl dX6_send_78 (pc2 := 80) rfl ?_
            obtain ⟨s5, hp, hf⟩ := bv_some hf
            refine g_vV hc (k1_add (by omega) hp) co_X6_222 (u9 (by omega)) rfl rfl (by decide) (by decide) (Nat.le_of_ble_eq_true rfl) dX6_send_80 (pc2 := 83) rfl ?_
            refine g_aload hc 0 rfl dX6_send_83 (pc2 := 85) rfl ?_
            refine g_getr (q := ad κ.1 9 (6 * 0 + a1.toNatClampNeg)) hc fo_X6_133 (u7 (by omega)) rfl dX6_send_85 (pc2 := 88) rfl ?_
            refine g_geti hc fo_X6_137 (u9 (by omega)) dX6_send_88 (pc2 := 91) rfl ?_
            exact g_xiret hc hf hr rfl (by decide) (by decide) dX6_send_91
          · have hf := ite_t hf q
            exact g_throwI hc hf ht tx_X6_220_59 dX6_send_50 dX6_send_53 dX6_send_54 dX6_send_56 dX6_send_59 (by decide) (by decide) (by decide)
        · have hf := ite_f hf q
          exact g_throwI hc hf ht tx_X6_215_48 dX6_send_21 dX6_send_24 dX6_send_25 dX6_send_27 dX6_send_30 (by decide) (by decide) (by decide)
def f6_pass (a1 : Int32) (s0 : Mem) : Option ((Nat ⊕ Int32) × Mem) :=
  (if a1 < (1 : Int32) then some (.inl 0, s0) else (if a1 ≤ (99 : Int32) then bv (f4_remember 0 s0) fun s1 => nm (s1 33 0 0) fun x1 => bv (f2_stepTimes 0 a1 s1) fun s2 => some (.inr (a1 - ((s2 33 0 0) - x1)), s2) else some (.inl 0, s0)))
def rm_6_pass : Room := { frames := 6, cells := 1, slots := 6, locals := 113 }
set_option maxHeartbeats 4000000 in
set_option maxRecDepth 100000 in
theorem k6_pass {κ : Kx} {τ : Nat → Int64} {a1 : Int32} {s0 sR : Mem} {rR : Nat ⊕ Int32}  (hf : f6_pass a1 s0 = some (rR, sR)) : CxI κ yX6_pass cX6_pass 3 (some .int) rm_6_pass (NV κ τ) (NV κ τ) [.ref (ad κ.1 0 0), .int a1] s0 sR rR := by
  refine cx_I (by decide +kernel) (Nat.le_of_ble_eq_true rfl) (fun φ hc hr ht => ?_)
  have hc : Cx κ φ RX6 cX6_pass 3 rm_6_pass := hc
  show G κ φ (QxI κ φ (NV κ τ) sR rR rm_6_pass.cells rm_6_pass.slots) (NV κ τ) 0 0 s0 [(0, .ref (ad κ.1 0 0)), (1, .int a1)] 0 []
  unfold f6_pass at hf
  refine g_iload_n (i := 1) hc 1 rfl rfl dX6_pass_0 (pc2 := 1) rfl ?_
  refine g_iconst (v := (1 : Int32)) hc (by decide) dX6_pass_1 (pc2 := 2) rfl ?_
  refine g_icmp_lt hc 11 (by decide) dX6_pass_2 (pc2 := 5) rfl (fun q => ?_) (fun q => ?_)
  · have hf := ite_t hf q
    exact g_throwI hc hf ht tx_X6_225_48 dX6_pass_11 dX6_pass_14 dX6_pass_15 dX6_pass_17 dX6_pass_20 (by decide) (by decide) (by decide)
  · have hf := ite_f hf q
    refine g_iload_n (i := 1) hc 1 rfl rfl dX6_pass_5 (pc2 := 6) rfl ?_
    refine g_bipush (v := (99 : Int32)) hc (by decide) dX6_pass_6 (pc2 := 8) rfl ?_
    refine g_icmp_le hc 21 (by decide) dX6_pass_8 (pc2 := 11) rfl (fun q => ?_) (fun q => ?_)
    · have hf := ite_t hf q
      refine g_aload_n (i := 0) hc 0 rfl rfl dX6_pass_21 (pc2 := 22) rfl ?_
      refine g_getr (q := ad κ.1 15 0) hc fo_X6_26 (u0 (by decide)) rfl dX6_pass_22 (pc2 := 25) rfl ?_
      refine g_aload_n (i := 0) hc 0 rfl rfl dX6_pass_25 (pc2 := 26) rfl ?_
      refine g_getr (q := ad κ.1 3 0) hc fo_X6_19 (u0 (by decide)) rfl dX6_pass_26 (pc2 := 29) rfl ?_
      obtain ⟨s1, hp, hf⟩ := bv_some hf
      refine g_vV hc (k4_remember (by decide) hp) co_X6_193 (u15 (by decide)) rfl rfl (by decide) (by decide) (Nat.le_of_ble_eq_true rfl) dX6_pass_29 (pc2 := 32) rfl ?_
      refine g_aload_n (i := 0) hc 0 rfl rfl dX6_pass_32 (pc2 := 33) rfl ?_
      refine g_getr (q := ad κ.1 3 0) hc fo_X6_19 (u0 (by decide)) rfl dX6_pass_33 (pc2 := 36) rfl ?_
      refine g_geti hc fo_X6_93 (u3 (by decide)) dX6_pass_36 (pc2 := 39) rfl ?_
      obtain ⟨x1, hx1, hf⟩ := nm_ex hf
      refine g_nmi hx1 ?_
      refine g_istore_n (i := 2) (L1 := [(2, .int x1), (0, .ref (ad κ.1 0 0)), (1, .int a1)]) hc rfl (by decide) rfl dX6_pass_39 (pc2 := 40) rfl ?_
      refine g_aload_n (i := 0) hc 1 rfl rfl dX6_pass_40 (pc2 := 41) rfl ?_
      refine g_getr (q := ad κ.1 3 0) hc fo_X6_19 (u0 (by decide)) rfl dX6_pass_41 (pc2 := 44) rfl ?_
      refine g_iload_n (i := 1) hc 2 rfl rfl dX6_pass_44 (pc2 := 45) rfl ?_
      obtain ⟨s2, hp, hf⟩ := bv_some hf
      refine g_vV hc (k2_stepTimes (by decide) hp) co_X6_227 (u3 (by decide)) rfl rfl (by decide) (by decide) (Nat.le_of_ble_eq_true rfl) dX6_pass_45 (pc2 := 48) rfl ?_
      refine g_iload_n (i := 1) hc 2 rfl rfl dX6_pass_48 (pc2 := 49) rfl ?_
      refine g_aload_n (i := 0) hc 1 rfl rfl dX6_pass_49 (pc2 := 50) rfl ?_
      refine g_getr (q := ad κ.1 3 0) hc fo_X6_19 (u0 (by decide)) rfl dX6_pass_50 (pc2 := 53) rfl ?_
      refine g_geti hc fo_X6_93 (u3 (by decide)) dX6_pass_53 (pc2 := 56) rfl ?_
      refine g_iload_n (i := 2) hc 0 rfl rfl dX6_pass_56 (pc2 := 57) rfl ?_
      refine g_isub hc dX6_pass_57 (pc2 := 58) rfl ?_
      refine g_isub hc dX6_pass_58 (pc2 := 59) rfl ?_
      exact g_xiret hc hf hr rfl (by decide) (by decide) dX6_pass_59
    · have hf := ite_f hf q
      exact g_throwI hc hf ht tx_X6_225_48 dX6_pass_11 dX6_pass_14 dX6_pass_15 dX6_pass_17 dX6_pass_20 (by decide) (by decide) (by decide)
def f6_forgive (a1 : Int32) (a2 : Int32) (s0 : Mem) : Option ((Nat ⊕ Int32) × Mem) :=
  bx (f6_needMaster a1 s0) (fun e s1 => some (.inl e, s1)) fun _ s1 => bx (f6_needMaster a2 s1) (fun e s2 => some (.inl e, s2)) fun _ s2 => bv (f4_remember 0 s2) fun s3 => gd (ib a1 6) (gd (ib a2 6) (nm (s3 8 (6 * 0 + a1.toNatClampNeg) a2.toNatClampNeg) fun x1 => gd (ib a1 6) (gd (ib a2 6) (nm (ms s3 8 (6 * 0 + a1.toNatClampNeg) a2.toNatClampNeg (0 : Int32)) fun s4 => some (.inr x1, s4)))))
def rm_6_forgive : Room := { frames := 7, cells := 2, slots := 12, locals := 121 }
set_option maxHeartbeats 4000000 in
set_option maxRecDepth 100000 in
theorem k6_forgive {κ : Kx} {τ : Nat → Int64} {a1 : Int32} {a2 : Int32} {s0 sR : Mem} {rR : Nat ⊕ Int32}  (hf : f6_forgive a1 a2 s0 = some (rR, sR)) : CxI κ yX6_forgive cX6_forgive 4 (some .int) rm_6_forgive (NV κ τ) (NV κ τ) [.ref (ad κ.1 0 0), .int a1, .int a2] s0 sR rR := by
  refine cx_I (by decide +kernel) (Nat.le_of_ble_eq_true rfl) (fun φ hc hr ht => ?_)
  have hc : Cx κ φ RX6 cX6_forgive 4 rm_6_forgive := hc
  show G κ φ (QxI κ φ (NV κ τ) sR rR rm_6_forgive.cells rm_6_forgive.slots) (NV κ τ) 0 0 s0 [(0, .ref (ad κ.1 0 0)), (1, .int a1), (2, .int a2)] 0 []
  unfold f6_forgive at hf
  refine g_aload_n (i := 0) hc 0 rfl rfl dX6_forgive_0 (pc2 := 1) rfl ?_
  refine g_iload_n (i := 1) hc 1 rfl rfl dX6_forgive_1 (pc2 := 2) rfl ?_
  obtain ⟨r1, s1, hp, hf⟩ := bx_some hf
  refine g_vxV hc (k6_needMaster hp) co_X6_113 (u0 (by decide)) rfl rfl (by decide) (by decide) (Nat.le_of_ble_eq_true rfl) dX6_forgive_2 (pc2 := 5) rfl (fun q hq => ?_) (fun hq => ?_)
  · subst hq
    exact gx_outI hc hf ht (by decide) (by decide)
  · subst hq
    refine g_aload_n (i := 0) hc 0 rfl rfl dX6_forgive_5 (pc2 := 6) rfl ?_
    refine g_iload_n (i := 2) hc 2 rfl rfl dX6_forgive_6 (pc2 := 7) rfl ?_
    obtain ⟨r2, s2, hp, hf⟩ := bx_some hf
    refine g_vxV hc (k6_needMaster hp) co_X6_113 (u0 (by decide)) rfl rfl (by decide) (by decide) (Nat.le_of_ble_eq_true rfl) dX6_forgive_7 (pc2 := 10) rfl (fun q hq => ?_) (fun hq => ?_)
    · subst hq
      exact gx_outI hc hf ht (by decide) (by decide)
    · subst hq
      refine g_aload_n (i := 0) hc 0 rfl rfl dX6_forgive_10 (pc2 := 11) rfl ?_
      refine g_getr (q := ad κ.1 15 0) hc fo_X6_26 (u0 (by decide)) rfl dX6_forgive_11 (pc2 := 14) rfl ?_
      refine g_aload_n (i := 0) hc 0 rfl rfl dX6_forgive_14 (pc2 := 15) rfl ?_
      refine g_getr (q := ad κ.1 3 0) hc fo_X6_19 (u0 (by decide)) rfl dX6_forgive_15 (pc2 := 18) rfl ?_
      obtain ⟨s3, hp, hf⟩ := bv_some hf
      refine g_vV hc (k4_remember (by decide) hp) co_X6_193 (u15 (by decide)) rfl rfl (by decide) (by decide) (Nat.le_of_ble_eq_true rfl) dX6_forgive_18 (pc2 := 21) rfl ?_
      refine g_aload_n (i := 0) hc 0 rfl rfl dX6_forgive_21 (pc2 := 22) rfl ?_
      refine g_getr (q := ad κ.1 3 0) hc fo_X6_19 (u0 (by decide)) rfl dX6_forgive_22 (pc2 := 25) rfl ?_
      refine g_getr (q := ad κ.1 6 0) hc fo_X6_117 (u3 (by decide)) rfl dX6_forgive_25 (pc2 := 28) rfl ?_
      refine g_iload_n (i := 1) hc 1 rfl rfl dX6_forgive_28 (pc2 := 29) rfl ?_
      obtain ⟨hg1, hf⟩ := gd_some hf
      have ihg1 := ib_lt hg1
      refine g_aldr (q := ad κ.1 7 (6 * 0 + a1.toNatClampNeg)) hc 6 0 (by decide) (by decide) (u6 (by decide)) hg1 rfl dX6_forgive_29 (pc2 := 30) rfl ?_
      refine g_getr (q := ad κ.1 8 (6 * 0 + a1.toNatClampNeg)) hc fo_X6_172 (u7 (by omega)) rfl dX6_forgive_30 (pc2 := 33) rfl ?_
      refine g_iload_n (i := 2) hc 2 rfl rfl dX6_forgive_33 (pc2 := 34) rfl ?_
      obtain ⟨hg2, hf⟩ := gd_some hf
      refine g_aldi hc 8 (6 * 0 + a1.toNatClampNeg) rfl (u8 (by omega)) hg2 dX6_forgive_34 (pc2 := 35) rfl ?_
      obtain ⟨x1, hx1, hf⟩ := nm_ex hf
      refine g_nmi hx1 ?_
      refine g_istore_n (i := 3) (L1 := [(3, .int x1), (0, .ref (ad κ.1 0 0)), (1, .int a1), (2, .int a2)]) hc rfl (by decide) rfl dX6_forgive_35 (pc2 := 36) rfl ?_
      refine g_aload_n (i := 0) hc 1 rfl rfl dX6_forgive_36 (pc2 := 37) rfl ?_
      refine g_getr (q := ad κ.1 3 0) hc fo_X6_19 (u0 (by decide)) rfl dX6_forgive_37 (pc2 := 40) rfl ?_
      refine g_getr (q := ad κ.1 6 0) hc fo_X6_117 (u3 (by decide)) rfl dX6_forgive_40 (pc2 := 43) rfl ?_
      refine g_iload_n (i := 1) hc 2 rfl rfl dX6_forgive_43 (pc2 := 44) rfl ?_
      obtain ⟨hg3, hf⟩ := gd_some hf
      have ihg3 := ib_lt hg3
      refine g_aldr (q := ad κ.1 7 (6 * 0 + a1.toNatClampNeg)) hc 6 0 (by decide) (by decide) (u6 (by decide)) hg3 rfl dX6_forgive_44 (pc2 := 45) rfl ?_
      refine g_getr (q := ad κ.1 8 (6 * 0 + a1.toNatClampNeg)) hc fo_X6_172 (u7 (by omega)) rfl dX6_forgive_45 (pc2 := 48) rfl ?_
      refine g_iload_n (i := 2) hc 3 rfl rfl dX6_forgive_48 (pc2 := 49) rfl ?_
      refine g_iconst (v := (0 : Int32)) hc (by decide) dX6_forgive_49 (pc2 := 50) rfl ?_
      obtain ⟨hg4, hf⟩ := gd_some hf
      obtain ⟨s4, hs4, hf⟩ := nm_ex hf
      refine g_asti hc 8 (6 * 0 + a1.toNatClampNeg) rfl (u8 (by omega)) hg4 dX6_forgive_50 (pc2 := 51) rfl ?_
      refine g_nms hs4 ?_
      refine g_iload_n (i := 3) hc 0 rfl rfl dX6_forgive_51 (pc2 := 52) rfl ?_
      exact g_xiret hc hf hr rfl (by decide) (by decide) dX6_forgive_52
def f6_undo  (s0 : Mem) : Option ((Nat ⊕ Int32) × Mem) :=
  (if (1 : Int32) ≤ (s0 52 0 0) then bv (f4_takeBack 0 s0) fun s1 => some (.inr (s1 52 0 0), s1) else some (.inl 1, s0))
def rm_6_undo : Room := { frames := 6, cells := 1, slots := 6, locals := 100 }
set_option maxHeartbeats 4000000 in
set_option maxRecDepth 100000 in
theorem k6_undo {κ : Kx} {τ : Nat → Int64}  {s0 sR : Mem} {rR : Nat ⊕ Int32}  (hf : f6_undo s0 = some (rR, sR)) : CxI κ yX6_undo cX6_undo 1 (some .int) rm_6_undo (NV κ τ) (NV κ τ) [.ref (ad κ.1 0 0)] s0 sR rR := by
  refine cx_I (by decide +kernel) (Nat.le_of_ble_eq_true rfl) (fun φ hc hr ht => ?_)
  have hc : Cx κ φ RX6 cX6_undo 1 rm_6_undo := hc
  show G κ φ (QxI κ φ (NV κ τ) sR rR rm_6_undo.cells rm_6_undo.slots) (NV κ τ) 0 0 s0 [(0, .ref (ad κ.1 0 0))] 0 []
  unfold f6_undo at hf
  refine g_aload_n (i := 0) hc 0 rfl rfl dX6_undo_0 (pc2 := 1) rfl ?_
  refine g_getr (q := ad κ.1 15 0) hc fo_X6_26 (u0 (by decide)) rfl dX6_undo_1 (pc2 := 4) rfl ?_
  refine g_geti hc fo_X6_230 (u15 (by decide)) dX6_undo_4 (pc2 := 7) rfl ?_
  refine g_iconst (v := (1 : Int32)) hc (by decide) dX6_undo_7 (pc2 := 8) rfl ?_
  refine g_icmp_ge hc 21 (by decide) dX6_undo_8 (pc2 := 11) rfl (fun q => ?_) (fun q => ?_)
  · have hf := ite_t hf q
    refine g_aload_n (i := 0) hc 0 rfl rfl dX6_undo_21 (pc2 := 22) rfl ?_
    refine g_getr (q := ad κ.1 15 0) hc fo_X6_26 (u0 (by decide)) rfl dX6_undo_22 (pc2 := 25) rfl ?_
    refine g_aload_n (i := 0) hc 0 rfl rfl dX6_undo_25 (pc2 := 26) rfl ?_
    refine g_getr (q := ad κ.1 3 0) hc fo_X6_19 (u0 (by decide)) rfl dX6_undo_26 (pc2 := 29) rfl ?_
    obtain ⟨s1, hp, hf⟩ := bv_some hf
    refine g_vV hc (k4_takeBack (by decide) hp) co_X6_233 (u15 (by decide)) rfl rfl (by decide) (by decide) (Nat.le_of_ble_eq_true rfl) dX6_undo_29 (pc2 := 32) rfl ?_
    refine g_aload_n (i := 0) hc 0 rfl rfl dX6_undo_32 (pc2 := 33) rfl ?_
    refine g_getr (q := ad κ.1 15 0) hc fo_X6_26 (u0 (by decide)) rfl dX6_undo_33 (pc2 := 36) rfl ?_
    refine g_geti hc fo_X6_230 (u15 (by decide)) dX6_undo_36 (pc2 := 39) rfl ?_
    exact g_xiret hc hf hr rfl (by decide) (by decide) dX6_undo_39
  · have hf := ite_f hf q
    exact g_throwI hc hf ht tx_X6_231_59 dX6_undo_11 dX6_undo_14 dX6_undo_15 dX6_undo_17 dX6_undo_20 (by decide) (by decide) (by decide)
def f6_turnIn (a1 : Int32) (s0 : Mem) : Option ((Nat ⊕ Int32) × Mem) :=
  (if a1 < (0 : Int32) then some (.inl 0, s0) else (if a1 ≤ (99 : Int32) then bv (f2_copyFrom 15 0 s0) fun s1 => bv (f2_stepTimes 15 (a1 + (1 : Int32)) s1) fun s2 => some (.inr (s2 35 15 0), s2) else some (.inl 0, s0)))
def rm_6_turnIn : Room := { frames := 6, cells := 1, slots := 6, locals := 113 }
set_option maxHeartbeats 4000000 in
set_option maxRecDepth 100000 in
theorem k6_turnIn {κ : Kx} {τ : Nat → Int64} {a1 : Int32} {s0 sR : Mem} {rR : Nat ⊕ Int32}  (hf : f6_turnIn a1 s0 = some (rR, sR)) : CxI κ yX6_turnIn cX6_turnIn 2 (some .int) rm_6_turnIn (NV κ τ) (NV κ τ) [.ref (ad κ.1 0 0), .int a1] s0 sR rR := by
  refine cx_I (by decide +kernel) (Nat.le_of_ble_eq_true rfl) (fun φ hc hr ht => ?_)
  have hc : Cx κ φ RX6 cX6_turnIn 2 rm_6_turnIn := hc
  show G κ φ (QxI κ φ (NV κ τ) sR rR rm_6_turnIn.cells rm_6_turnIn.slots) (NV κ τ) 0 0 s0 [(0, .ref (ad κ.1 0 0)), (1, .int a1)] 0 []
  unfold f6_turnIn at hf
  refine g_iload_n (i := 1) hc 1 rfl rfl dX6_turnIn_0 (pc2 := 1) rfl ?_
  refine g_if_lt hc 10 (by decide) dX6_turnIn_1 (pc2 := 4) rfl (fun q => ?_) (fun q => ?_)
  · have hf := ite_t hf q
    exact g_throwI hc hf ht tx_X6_225_48 dX6_turnIn_10 dX6_turnIn_13 dX6_turnIn_14 dX6_turnIn_16 dX6_turnIn_19 (by decide) (by decide) (by decide)
  · have hf := ite_f hf q
    refine g_iload_n (i := 1) hc 1 rfl rfl dX6_turnIn_4 (pc2 := 5) rfl ?_
    refine g_bipush (v := (99 : Int32)) hc (by decide) dX6_turnIn_5 (pc2 := 7) rfl ?_
    refine g_icmp_le hc 20 (by decide) dX6_turnIn_7 (pc2 := 10) rfl (fun q => ?_) (fun q => ?_)
    · have hf := ite_t hf q
      refine g_aload_n (i := 0) hc 0 rfl rfl dX6_turnIn_20 (pc2 := 21) rfl ?_
      refine g_getr (q := ad κ.1 3 15) hc fo_X6_38 (u0 (by decide)) rfl dX6_turnIn_21 (pc2 := 24) rfl ?_
      refine g_aload_n (i := 0) hc 0 rfl rfl dX6_turnIn_24 (pc2 := 25) rfl ?_
      refine g_getr (q := ad κ.1 3 0) hc fo_X6_19 (u0 (by decide)) rfl dX6_turnIn_25 (pc2 := 28) rfl ?_
      obtain ⟨s1, hp, hf⟩ := bv_some hf
      refine g_vV hc (k2_copyFrom (by decide) (by decide) hp) co_X6_74 (u3 (by decide)) rfl rfl (by decide) (by decide) (Nat.le_of_ble_eq_true rfl) dX6_turnIn_28 (pc2 := 31) rfl ?_
      refine g_aload_n (i := 0) hc 0 rfl rfl dX6_turnIn_31 (pc2 := 32) rfl ?_
      refine g_getr (q := ad κ.1 3 15) hc fo_X6_38 (u0 (by decide)) rfl dX6_turnIn_32 (pc2 := 35) rfl ?_
      refine g_iload_n (i := 1) hc 1 rfl rfl dX6_turnIn_35 (pc2 := 36) rfl ?_
      refine g_iconst (v := (1 : Int32)) hc (by decide) dX6_turnIn_36 (pc2 := 37) rfl ?_
      refine g_iadd hc dX6_turnIn_37 (pc2 := 38) rfl ?_
      obtain ⟨s2, hp, hf⟩ := bv_some hf
      refine g_vV hc (k2_stepTimes (by decide) hp) co_X6_227 (u3 (by decide)) rfl rfl (by decide) (by decide) (Nat.le_of_ble_eq_true rfl) dX6_turnIn_38 (pc2 := 41) rfl ?_
      refine g_aload_n (i := 0) hc 0 rfl rfl dX6_turnIn_41 (pc2 := 42) rfl ?_
      refine g_getr (q := ad κ.1 3 15) hc fo_X6_38 (u0 (by decide)) rfl dX6_turnIn_42 (pc2 := 45) rfl ?_
      refine g_geti hc fo_X6_105 (u3 (by decide)) dX6_turnIn_45 (pc2 := 48) rfl ?_
      exact g_xiret hc hf hr rfl (by decide) (by decide) dX6_turnIn_48
    · have hf := ite_f hf q
      exact g_throwI hc hf ht tx_X6_225_48 dX6_turnIn_10 dX6_turnIn_13 dX6_turnIn_14 dX6_turnIn_16 dX6_turnIn_19 (by decide) (by decide) (by decide)
def f6_doneIn (a1 : Int32) (s0 : Mem) : Option ((Nat ⊕ Int32) × Mem) :=
  bx (f6_needMaster a1 s0) (fun e s1 => some (.inl e, s1)) fun _ s1 => bv (f2_copyFrom 15 0 s1) fun s2 => bd (f2_stepsTillDone 15 a1 a1 (400 : Int32) s2) fun r2 s3 => (if r2 ≤ (400 : Int32) then some (.inr r2, s3) else some (.inr (-9 : Int32), s3))
def rm_6_doneIn : Room := { frames := 7, cells := 1, slots := 6, locals := 121 }
set_option maxHeartbeats 4000000 in
set_option maxRecDepth 100000 in
theorem k6_doneIn {κ : Kx} {τ : Nat → Int64} {a1 : Int32} {s0 sR : Mem} {rR : Nat ⊕ Int32}  (hf : f6_doneIn a1 s0 = some (rR, sR)) : CxI κ yX6_doneIn cX6_doneIn 3 (some .int) rm_6_doneIn (NV κ τ) (NV κ τ) [.ref (ad κ.1 0 0), .int a1] s0 sR rR := by
  refine cx_I (by decide +kernel) (Nat.le_of_ble_eq_true rfl) (fun φ hc hr ht => ?_)
  have hc : Cx κ φ RX6 cX6_doneIn 3 rm_6_doneIn := hc
  show G κ φ (QxI κ φ (NV κ τ) sR rR rm_6_doneIn.cells rm_6_doneIn.slots) (NV κ τ) 0 0 s0 [(0, .ref (ad κ.1 0 0)), (1, .int a1)] 0 []
  unfold f6_doneIn at hf
  refine g_aload_n (i := 0) hc 0 rfl rfl dX6_doneIn_0 (pc2 := 1) rfl ?_
  refine g_iload_n (i := 1) hc 1 rfl rfl dX6_doneIn_1 (pc2 := 2) rfl ?_
  obtain ⟨r1, s1, hp, hf⟩ := bx_some hf
  refine g_vxV hc (k6_needMaster hp) co_X6_113 (u0 (by decide)) rfl rfl (by decide) (by decide) (Nat.le_of_ble_eq_true rfl) dX6_doneIn_2 (pc2 := 5) rfl (fun q hq => ?_) (fun hq => ?_)
  · subst hq
    exact gx_outI hc hf ht (by decide) (by decide)
  · subst hq
    refine g_aload_n (i := 0) hc 0 rfl rfl dX6_doneIn_5 (pc2 := 6) rfl ?_
    refine g_getr (q := ad κ.1 3 15) hc fo_X6_38 (u0 (by decide)) rfl dX6_doneIn_6 (pc2 := 9) rfl ?_
    refine g_aload_n (i := 0) hc 0 rfl rfl dX6_doneIn_9 (pc2 := 10) rfl ?_
    refine g_getr (q := ad κ.1 3 0) hc fo_X6_19 (u0 (by decide)) rfl dX6_doneIn_10 (pc2 := 13) rfl ?_
    obtain ⟨s2, hp, hf⟩ := bv_some hf
    refine g_vV hc (k2_copyFrom (by decide) (by decide) hp) co_X6_74 (u3 (by decide)) rfl rfl (by decide) (by decide) (Nat.le_of_ble_eq_true rfl) dX6_doneIn_13 (pc2 := 16) rfl ?_
    refine g_aload_n (i := 0) hc 0 rfl rfl dX6_doneIn_16 (pc2 := 17) rfl ?_
    refine g_getr (q := ad κ.1 3 15) hc fo_X6_38 (u0 (by decide)) rfl dX6_doneIn_17 (pc2 := 20) rfl ?_
    refine g_iload_n (i := 1) hc 1 rfl rfl dX6_doneIn_20 (pc2 := 21) rfl ?_
    refine g_iload_n (i := 1) hc 1 rfl rfl dX6_doneIn_21 (pc2 := 22) rfl ?_
    refine g_sipush (v := (400 : Int32)) hc (by decide) dX6_doneIn_22 (pc2 := 25) rfl ?_
    obtain ⟨r2, s3, hp, hf⟩ := bd_some hf
    refine g_vI hc (k2_stepsTillDone (by decide) hp) co_X6_236 (u3 (by decide)) rfl rfl (by decide) (by decide) (Nat.le_of_ble_eq_true rfl) dX6_doneIn_25 (pc2 := 28) rfl ?_
    refine g_istore_n (i := 2) (L1 := [(2, .int r2), (0, .ref (ad κ.1 0 0)), (1, .int a1)]) hc rfl (by decide) rfl dX6_doneIn_28 (pc2 := 29) rfl ?_
    refine g_iload_n (i := 2) hc 0 rfl rfl dX6_doneIn_29 (pc2 := 30) rfl ?_
    refine g_sipush (v := (400 : Int32)) hc (by decide) dX6_doneIn_30 (pc2 := 33) rfl ?_
    refine g_icmp_le hc 41 (by decide) dX6_doneIn_33 (pc2 := 36) rfl (fun q => ?_) (fun q => ?_)
    · have hf := ite_t hf q
      refine g_iload_n (i := 2) hc 0 rfl rfl dX6_doneIn_41 (pc2 := 42) rfl ?_
      exact g_xiret hc hf hr rfl (by decide) (by decide) dX6_doneIn_42
    · have hf := ite_f hf q
      refine g_bipush (v := (-9 : Int32)) hc (by decide) dX6_doneIn_36 (pc2 := 38) rfl ?_
      refine g_goto hc 42 (by decide) dX6_doneIn_38 ?_
      exact g_xiret hc hf hr rfl (by decide) (by decide) dX6_doneIn_42
def f6_bestCredit_l8  (k1 : Int32 → Mem → Option (Int32 × Mem)) : Nat → Int32 → Int32 → Int32 → Mem → Option (Int32 × Mem)
  | 0, _, _, _, _ => none
  | n1 + 1, m1, m2, m3, s2 => (if (9 : Int32) < m3 then k1 m1 s2 else bv (f2_copyFrom 15 0 s2) fun s3 => nm (ms s3 34 15 0 m3) fun s4 => bd (f2_stepsTillDone 15 (0 : Int32) ((s4 30 15 0) - (1 : Int32)) (m2 - (1 : Int32)) s4) fun r1 s5 => nm (fun (y2 : Int32) (y3 : Int32) (s6 : Mem) => nm (m3 + (1 : Int32)) fun x1 => f6_bestCredit_l8 k1 n1 y2 y3 x1 s6) fun j1 => (if m2 ≤ r1 then j1 m1 m2 s5 else j1 m3 r1 s5))
def f6_bestCredit  (s0 : Mem) : Option (Int32 × Mem) :=
  nm (fun (y1 : Int32) (s1 : Mem) => some (y1, s1)) fun k1 => f6_bestCredit_l8 k1 FU (0 : Int32) (401 : Int32) (0 : Int32) s0
def rm_6_bestCredit : Room := { frames := 5, cells := 0, slots := 0, locals := 117 }
set_option maxHeartbeats 4000000 in
set_option maxRecDepth 100000 in
theorem k6_bestCredit {κ : Kx} {τ : Nat → Int64}  {s0 sR : Mem} {rR : Int32}  (hf : f6_bestCredit s0 = some (rR, sR)) : CtI κ yX6_bestCredit cX6_bestCredit 5 (some .int) rm_6_bestCredit (NV κ τ) (NV κ τ) [.ref (ad κ.1 0 0)] s0 sR rR := by
  refine ct_I (by decide +kernel) (Nat.le_of_ble_eq_true rfl) (fun φ hc hr => ?_)
  have hc : Cx κ φ RX6 cX6_bestCredit 5 rm_6_bestCredit := hc
  show G κ φ (QI κ φ (NV κ τ) sR rR rm_6_bestCredit.cells rm_6_bestCredit.slots) (NV κ τ) 0 0 s0 [(0, .ref (ad κ.1 0 0))] 0 []
  unfold f6_bestCredit at hf
  refine g_iconst (v := (0 : Int32)) hc (by decide) dX6_bestCredit_0 (pc2 := 1) rfl ?_
  refine g_istore_n (i := 1) (L1 := [(1, .int (0 : Int32)), (0, .ref (ad κ.1 0 0))]) hc rfl (by decide) rfl dX6_bestCredit_1 (pc2 := 2) rfl ?_
  refine g_sipush (v := (401 : Int32)) hc (by decide) dX6_bestCredit_2 (pc2 := 5) rfl ?_
  refine g_istore_n (i := 2) (L1 := [(2, .int (401 : Int32)), (1, .int (0 : Int32)), (0, .ref (ad κ.1 0 0))]) hc rfl (by decide) rfl dX6_bestCredit_5 (pc2 := 6) rfl ?_
  refine g_iconst (v := (0 : Int32)) hc (by decide) dX6_bestCredit_6 (pc2 := 7) rfl ?_
  refine g_istore_n (i := 3) (L1 := [(3, .int (0 : Int32)), (2, .int (401 : Int32)), (1, .int (0 : Int32)), (0, .ref (ad κ.1 0 0))]) hc rfl (by decide) rfl dX6_bestCredit_7 (pc2 := 8) rfl ?_
  obtain ⟨k1, hk1, hf⟩ := nm_ex hf
  have Hk1 : ∀ (y1 : Int32) (s1 : Mem), k1 y1 s1 = some (rR, sR) → G κ φ (QI κ φ (NV κ τ) sR rR rm_6_bestCredit.cells rm_6_bestCredit.slots) (NV κ τ) 0 0 s1 [(1, .int y1)] 72 [] := by
    intro y1 s1 hf
    rw [hk1] at hf
    refine g_iload_n (i := 1) hc 0 rfl rfl dX6_bestCredit_72 (pc2 := 73) rfl ?_
    exact g_iret hc hf hr rfl (by decide) (by decide) dX6_bestCredit_73
  have LP_n1 : ∀ (n1 : Nat) (m1 : Int32) (m2 : Int32) (m3 : Int32) (s2 : Mem), f6_bestCredit_l8 k1 n1 m1 m2 m3 s2 = some (rR, sR) → G κ φ (QI κ φ (NV κ τ) sR rR rm_6_bestCredit.cells rm_6_bestCredit.slots) (NV κ τ) 0 0 s2 [(0, .ref (ad κ.1 0 0)), (1, .int m1), (2, .int m2), (3, .int m3)] 8 [] := by
    intro n1
    induction n1 with
    | zero => intro m1 m2 m3 s2 hf; rw [f6_bestCredit_l8] at hf; cases hf
    | succ n1 ih_n1 =>
      intro m1 m2 m3 s2 hf
      rw [f6_bestCredit_l8] at hf
      refine g_iload_n (i := 3) hc 3 rfl rfl dX6_bestCredit_8 (pc2 := 9) rfl ?_
      refine g_bipush (v := (9 : Int32)) hc (by decide) dX6_bestCredit_9 (pc2 := 11) rfl ?_
      refine g_icmp_gt hc 72 (by decide) dX6_bestCredit_11 (pc2 := 14) rfl (fun q => ?_) (fun q => ?_)
      · have hf := ite_t hf q
        refine g_sub [1] rfl ?_
        exact Hk1 _ _ hf
      · have hf := ite_f hf q
        refine g_aload_n (i := 0) hc 0 rfl rfl dX6_bestCredit_14 (pc2 := 15) rfl ?_
        refine g_getr (q := ad κ.1 3 15) hc fo_X6_38 (u0 (by decide)) rfl dX6_bestCredit_15 (pc2 := 18) rfl ?_
        refine g_aload_n (i := 0) hc 0 rfl rfl dX6_bestCredit_18 (pc2 := 19) rfl ?_
        refine g_getr (q := ad κ.1 3 0) hc fo_X6_19 (u0 (by decide)) rfl dX6_bestCredit_19 (pc2 := 22) rfl ?_
        obtain ⟨s3, hp, hf⟩ := bv_some hf
        refine g_vV hc (k2_copyFrom (by decide) (by decide) hp) co_X6_74 (u3 (by decide)) rfl rfl (by decide) (by decide) (Nat.le_of_ble_eq_true rfl) dX6_bestCredit_22 (pc2 := 25) rfl ?_
        refine g_aload_n (i := 0) hc 0 rfl rfl dX6_bestCredit_25 (pc2 := 26) rfl ?_
        refine g_getr (q := ad κ.1 3 15) hc fo_X6_38 (u0 (by decide)) rfl dX6_bestCredit_26 (pc2 := 29) rfl ?_
        refine g_iload_n (i := 3) hc 3 rfl rfl dX6_bestCredit_29 (pc2 := 30) rfl ?_
        obtain ⟨s4, hs4, hf⟩ := nm_ex hf
        refine g_puti hc (by decide) fo_X6_96 clO_3 poK_3_4 rfl (u3 (by decide)) rfl rfl dX6_bestCredit_30 (pc2 := 33) rfl ?_
        refine g_nms hs4 ?_
        refine g_aload_n (i := 0) hc 0 rfl rfl dX6_bestCredit_33 (pc2 := 34) rfl ?_
        refine g_getr (q := ad κ.1 3 15) hc fo_X6_38 (u0 (by decide)) rfl dX6_bestCredit_34 (pc2 := 37) rfl ?_
        refine g_iconst (v := (0 : Int32)) hc (by decide) dX6_bestCredit_37 (pc2 := 38) rfl ?_
        refine g_aload_n (i := 0) hc 0 rfl rfl dX6_bestCredit_38 (pc2 := 39) rfl ?_
        refine g_getr (q := ad κ.1 3 15) hc fo_X6_38 (u0 (by decide)) rfl dX6_bestCredit_39 (pc2 := 42) rfl ?_
        refine g_geti hc fo_X6_83 (u3 (by decide)) dX6_bestCredit_42 (pc2 := 45) rfl ?_
        refine g_iconst (v := (1 : Int32)) hc (by decide) dX6_bestCredit_45 (pc2 := 46) rfl ?_
        refine g_isub hc dX6_bestCredit_46 (pc2 := 47) rfl ?_
        refine g_iload_n (i := 2) hc 2 rfl rfl dX6_bestCredit_47 (pc2 := 48) rfl ?_
        refine g_iconst (v := (1 : Int32)) hc (by decide) dX6_bestCredit_48 (pc2 := 49) rfl ?_
        refine g_isub hc dX6_bestCredit_49 (pc2 := 50) rfl ?_
        obtain ⟨r1, s5, hp, hf⟩ := bd_some hf
        refine g_vI hc (k2_stepsTillDone (by decide) hp) co_X6_236 (u3 (by decide)) rfl rfl (by decide) (by decide) (Nat.le_of_ble_eq_true rfl) dX6_bestCredit_50 (pc2 := 53) rfl ?_
        refine g_istore (L1 := [(4, .int r1), (0, .ref (ad κ.1 0 0)), (1, .int m1), (2, .int m2), (3, .int m3)]) hc (by decide) rfl dX6_bestCredit_53 (pc2 := 55) rfl ?_
        refine g_iload hc 0 rfl dX6_bestCredit_55 (pc2 := 57) rfl ?_
        refine g_iload_n (i := 2) hc 3 rfl rfl dX6_bestCredit_57 (pc2 := 58) rfl ?_
        obtain ⟨j1, hj1, hf⟩ := nm_ex hf
        have Hj1 : ∀ (y2 : Int32) (y3 : Int32) (s6 : Mem), j1 y2 y3 s6 = some (rR, sR) → G κ φ (QI κ φ (NV κ τ) sR rR rm_6_bestCredit.cells rm_6_bestCredit.slots) (NV κ τ) 0 0 s6 [(0, .ref (ad κ.1 0 0)), (1, .int y2), (2, .int y3), (3, .int m3)] 66 [] := by
          intro y2 y3 s6 hf
          rw [hj1] at hf
          obtain ⟨x1, hx1, hf⟩ := nm_ex hf
          refine g_iinc (v := x1) (L1 := [(3, .int x1), (0, .ref (ad κ.1 0 0)), (1, .int y2), (2, .int y3)]) hc 3 rfl (by rw [hx1]; rfl) (by decide) rfl dX6_bestCredit_66 (pc2 := 69) rfl ?_
          refine g_goto hc 8 (by decide) dX6_bestCredit_69 ?_
          refine g_sub [1, 2, 3, 0] rfl ?_
          exact ih_n1 _ _ _ _ hf
        refine g_icmp_ge hc 66 (by decide) dX6_bestCredit_58 (pc2 := 61) rfl (fun q => ?_) (fun q => ?_)
        · have hf := ite_t hf q
          refine g_sub [1, 2, 3, 4] rfl ?_
          exact Hj1 _ _ _ hf
        · have hf := ite_f hf q
          refine g_iload hc 0 rfl dX6_bestCredit_61 (pc2 := 63) rfl ?_
          refine g_istore_n (i := 2) (L1 := [(2, .int r1), (4, .int r1), (0, .ref (ad κ.1 0 0)), (1, .int m1), (3, .int m3)]) hc rfl (by decide) rfl dX6_bestCredit_63 (pc2 := 64) rfl ?_
          refine g_iload_n (i := 3) hc 4 rfl rfl dX6_bestCredit_64 (pc2 := 65) rfl ?_
          refine g_istore_n (i := 1) (L1 := [(1, .int m3), (2, .int r1), (4, .int r1), (0, .ref (ad κ.1 0 0)), (3, .int m3)]) hc rfl (by decide) rfl dX6_bestCredit_65 (pc2 := 66) rfl ?_
          refine g_sub [3, 0, 1, 4] rfl ?_
          exact Hj1 _ _ _ hf
  refine g_sub [3, 2, 1, 0] rfl ?_
  exact LP_n1 _ _ _ _ _ hf
def f6_bestSlot_l32 (a1 : Int32) (k1 : Int32 → Mem → Option ((Nat ⊕ Int32) × Mem)) : Nat → Int32 → Int32 → Int32 → Mem → Option ((Nat ⊕ Int32) × Mem)
  | 0, _, _, _, _ => none
  | n1 + 1, m1, m2, m3, s3 => (if (s3 31 0 0) ≤ m3 then k1 m1 s3 else bv (f2_copyFrom 15 0 s3) fun s4 => gd (ib m3 16) (nm (ms s4 4 15 m3.toNatClampNeg a1) fun s5 => bd (f2_stepsTillDone 15 a1 a1 (m2 - (1 : Int32)) s5) fun r2 s6 => nm (fun (y2 : Int32) (y3 : Int32) (s7 : Mem) => nm (m3 + (1 : Int32)) fun x1 => f6_bestSlot_l32 a1 k1 n1 y2 y3 x1 s7) fun j1 => (if m2 ≤ r2 then j1 m1 m2 s6 else j1 m3 r2 s6)))
def f6_bestSlot (a1 : Int32) (s0 : Mem) : Option ((Nat ⊕ Int32) × Mem) :=
  bx (f6_needMaster a1 s0) (fun e s1 => some (.inl e, s1)) fun _ s1 => gd (ib a1 6) ((if (s1 40 (6 * 0 + a1.toNatClampNeg) 0) = (0 : Int32) then nm (fun (y1 : Int32) (s2 : Mem) => some (.inr y1, s2)) fun k1 => f6_bestSlot_l32 a1 k1 FU (0 : Int32) (401 : Int32) (0 : Int32) s1 else some (.inr (-9 : Int32), s1)))
def rm_6_bestSlot : Room := { frames := 7, cells := 1, slots := 6, locals := 121 }
set_option maxHeartbeats 4000000 in
set_option maxRecDepth 100000 in
theorem k6_bestSlot {κ : Kx} {τ : Nat → Int64} {a1 : Int32} {s0 sR : Mem} {rR : Nat ⊕ Int32}  (hf : f6_bestSlot a1 s0 = some (rR, sR)) : CxI κ yX6_bestSlot cX6_bestSlot 6 (some .int) rm_6_bestSlot (NV κ τ) (NV κ τ) [.ref (ad κ.1 0 0), .int a1] s0 sR rR := by
  refine cx_I (by decide +kernel) (Nat.le_of_ble_eq_true rfl) (fun φ hc hr ht => ?_)
  have hc : Cx κ φ RX6 cX6_bestSlot 6 rm_6_bestSlot := hc
  show G κ φ (QxI κ φ (NV κ τ) sR rR rm_6_bestSlot.cells rm_6_bestSlot.slots) (NV κ τ) 0 0 s0 [(0, .ref (ad κ.1 0 0)), (1, .int a1)] 0 []
  unfold f6_bestSlot at hf
  refine g_aload_n (i := 0) hc 0 rfl rfl dX6_bestSlot_0 (pc2 := 1) rfl ?_
  refine g_iload_n (i := 1) hc 1 rfl rfl dX6_bestSlot_1 (pc2 := 2) rfl ?_
  obtain ⟨r1, s1, hp, hf⟩ := bx_some hf
  refine g_vxV hc (k6_needMaster hp) co_X6_113 (u0 (by decide)) rfl rfl (by decide) (by decide) (Nat.le_of_ble_eq_true rfl) dX6_bestSlot_2 (pc2 := 5) rfl (fun q hq => ?_) (fun hq => ?_)
  · subst hq
    exact gx_outI hc hf ht (by decide) (by decide)
  · subst hq
    refine g_aload_n (i := 0) hc 0 rfl rfl dX6_bestSlot_5 (pc2 := 6) rfl ?_
    refine g_getr (q := ad κ.1 3 0) hc fo_X6_19 (u0 (by decide)) rfl dX6_bestSlot_6 (pc2 := 9) rfl ?_
    refine g_getr (q := ad κ.1 6 0) hc fo_X6_117 (u3 (by decide)) rfl dX6_bestSlot_9 (pc2 := 12) rfl ?_
    refine g_iload_n (i := 1) hc 1 rfl rfl dX6_bestSlot_12 (pc2 := 13) rfl ?_
    obtain ⟨hg1, hf⟩ := gd_some hf
    have ihg1 := ib_lt hg1
    refine g_aldr (q := ad κ.1 7 (6 * 0 + a1.toNatClampNeg)) hc 6 0 (by decide) (by decide) (u6 (by decide)) hg1 rfl dX6_bestSlot_13 (pc2 := 14) rfl ?_
    refine g_geti hc fo_X6_199 (u7 (by omega)) dX6_bestSlot_14 (pc2 := 17) rfl ?_
    refine g_if_eq hc 23 (by decide) dX6_bestSlot_17 (pc2 := 20) rfl (fun q => ?_) (fun q => ?_)
    · have hf := ite_t hf q
      refine g_iconst (v := (0 : Int32)) hc (by decide) dX6_bestSlot_23 (pc2 := 24) rfl ?_
      refine g_istore_n (i := 2) (L1 := [(2, .int (0 : Int32)), (0, .ref (ad κ.1 0 0)), (1, .int a1)]) hc rfl (by decide) rfl dX6_bestSlot_24 (pc2 := 25) rfl ?_
      refine g_sipush (v := (401 : Int32)) hc (by decide) dX6_bestSlot_25 (pc2 := 28) rfl ?_
      refine g_istore_n (i := 3) (L1 := [(3, .int (401 : Int32)), (2, .int (0 : Int32)), (0, .ref (ad κ.1 0 0)), (1, .int a1)]) hc rfl (by decide) rfl dX6_bestSlot_28 (pc2 := 29) rfl ?_
      refine g_iconst (v := (0 : Int32)) hc (by decide) dX6_bestSlot_29 (pc2 := 30) rfl ?_
      refine g_istore (L1 := [(4, .int (0 : Int32)), (3, .int (401 : Int32)), (2, .int (0 : Int32)), (0, .ref (ad κ.1 0 0)), (1, .int a1)]) hc (by decide) rfl dX6_bestSlot_30 (pc2 := 32) rfl ?_
      obtain ⟨k1, hk1, hf⟩ := nm_ex hf
      have Hk1 : ∀ (y1 : Int32) (s2 : Mem), k1 y1 s2 = some (rR, sR) → G κ φ (QxI κ φ (NV κ τ) sR rR rm_6_bestSlot.cells rm_6_bestSlot.slots) (NV κ τ) 1 6 s2 [(2, .int y1)] 98 [] := by
        intro y1 s2 hf
        rw [hk1] at hf
        refine g_iload_n (i := 2) hc 0 rfl rfl dX6_bestSlot_98 (pc2 := 99) rfl ?_
        exact g_xiret hc hf hr rfl (by decide) (by decide) dX6_bestSlot_99
      have LP_n1 : ∀ (n1 : Nat) (m1 : Int32) (m2 : Int32) (m3 : Int32) (s3 : Mem), f6_bestSlot_l32 a1 k1 n1 m1 m2 m3 s3 = some (rR, sR) → G κ φ (QxI κ φ (NV κ τ) sR rR rm_6_bestSlot.cells rm_6_bestSlot.slots) (NV κ τ) 1 6 s3 [(0, .ref (ad κ.1 0 0)), (1, .int a1), (2, .int m1), (3, .int m2), (4, .int m3)] 32 [] := by
        intro n1
        induction n1 with
        | zero => intro m1 m2 m3 s3 hf; rw [f6_bestSlot_l32] at hf; cases hf
        | succ n1 ih_n1 =>
          intro m1 m2 m3 s3 hf
          rw [f6_bestSlot_l32] at hf
          refine g_iload hc 4 rfl dX6_bestSlot_32 (pc2 := 34) rfl ?_
          refine g_aload_n (i := 0) hc 0 rfl rfl dX6_bestSlot_34 (pc2 := 35) rfl ?_
          refine g_getr (q := ad κ.1 3 0) hc fo_X6_19 (u0 (by decide)) rfl dX6_bestSlot_35 (pc2 := 38) rfl ?_
          refine g_geti hc fo_X6_87 (u3 (by decide)) dX6_bestSlot_38 (pc2 := 41) rfl ?_
          refine g_icmp_ge hc 98 (by decide) dX6_bestSlot_41 (pc2 := 44) rfl (fun q => ?_) (fun q => ?_)
          · have hf := ite_t hf q
            refine g_sub [2] rfl ?_
            exact Hk1 _ _ hf
          · have hf := ite_f hf q
            refine g_aload_n (i := 0) hc 0 rfl rfl dX6_bestSlot_44 (pc2 := 45) rfl ?_
            refine g_getr (q := ad κ.1 3 15) hc fo_X6_38 (u0 (by decide)) rfl dX6_bestSlot_45 (pc2 := 48) rfl ?_
            refine g_aload_n (i := 0) hc 0 rfl rfl dX6_bestSlot_48 (pc2 := 49) rfl ?_
            refine g_getr (q := ad κ.1 3 0) hc fo_X6_19 (u0 (by decide)) rfl dX6_bestSlot_49 (pc2 := 52) rfl ?_
            obtain ⟨s4, hp, hf⟩ := bv_some hf
            refine g_vV hc (k2_copyFrom (by decide) (by decide) hp) co_X6_74 (u3 (by decide)) rfl rfl (by decide) (by decide) (Nat.le_of_ble_eq_true rfl) dX6_bestSlot_52 (pc2 := 55) rfl ?_
            refine g_aload_n (i := 0) hc 0 rfl rfl dX6_bestSlot_55 (pc2 := 56) rfl ?_
            refine g_getr (q := ad κ.1 3 15) hc fo_X6_38 (u0 (by decide)) rfl dX6_bestSlot_56 (pc2 := 59) rfl ?_
            refine g_getr (q := ad κ.1 4 15) hc fo_X6_168 (u3 (by decide)) rfl dX6_bestSlot_59 (pc2 := 62) rfl ?_
            refine g_iload hc 4 rfl dX6_bestSlot_62 (pc2 := 64) rfl ?_
            refine g_iload_n (i := 1) hc 1 rfl rfl dX6_bestSlot_64 (pc2 := 65) rfl ?_
            obtain ⟨hg2, hf⟩ := gd_some hf
            obtain ⟨s5, hs5, hf⟩ := nm_ex hf
            refine g_asti hc 4 15 rfl (u4 (by decide)) hg2 dX6_bestSlot_65 (pc2 := 66) rfl ?_
            refine g_nms hs5 ?_
            refine g_aload_n (i := 0) hc 0 rfl rfl dX6_bestSlot_66 (pc2 := 67) rfl ?_
            refine g_getr (q := ad κ.1 3 15) hc fo_X6_38 (u0 (by decide)) rfl dX6_bestSlot_67 (pc2 := 70) rfl ?_
            refine g_iload_n (i := 1) hc 1 rfl rfl dX6_bestSlot_70 (pc2 := 71) rfl ?_
            refine g_iload_n (i := 1) hc 1 rfl rfl dX6_bestSlot_71 (pc2 := 72) rfl ?_
            refine g_iload_n (i := 3) hc 3 rfl rfl dX6_bestSlot_72 (pc2 := 73) rfl ?_
            refine g_iconst (v := (1 : Int32)) hc (by decide) dX6_bestSlot_73 (pc2 := 74) rfl ?_
            refine g_isub hc dX6_bestSlot_74 (pc2 := 75) rfl ?_
            obtain ⟨r2, s6, hp, hf⟩ := bd_some hf
            refine g_vI hc (k2_stepsTillDone (by decide) hp) co_X6_236 (u3 (by decide)) rfl rfl (by decide) (by decide) (Nat.le_of_ble_eq_true rfl) dX6_bestSlot_75 (pc2 := 78) rfl ?_
            refine g_istore (L1 := [(5, .int r2), (0, .ref (ad κ.1 0 0)), (1, .int a1), (2, .int m1), (3, .int m2), (4, .int m3)]) hc (by decide) rfl dX6_bestSlot_78 (pc2 := 80) rfl ?_
            refine g_iload hc 0 rfl dX6_bestSlot_80 (pc2 := 82) rfl ?_
            refine g_iload_n (i := 3) hc 4 rfl rfl dX6_bestSlot_82 (pc2 := 83) rfl ?_
            obtain ⟨j1, hj1, hf⟩ := nm_ex hf
            have Hj1 : ∀ (y2 : Int32) (y3 : Int32) (s7 : Mem), j1 y2 y3 s7 = some (rR, sR) → G κ φ (QxI κ φ (NV κ τ) sR rR rm_6_bestSlot.cells rm_6_bestSlot.slots) (NV κ τ) 1 6 s7 [(0, .ref (ad κ.1 0 0)), (1, .int a1), (2, .int y2), (3, .int y3), (4, .int m3)] 92 [] := by
              intro y2 y3 s7 hf
              rw [hj1] at hf
              obtain ⟨x1, hx1, hf⟩ := nm_ex hf
              refine g_iinc (v := x1) (L1 := [(4, .int x1), (0, .ref (ad κ.1 0 0)), (1, .int a1), (2, .int y2), (3, .int y3)]) hc 4 rfl (by rw [hx1]; rfl) (by decide) rfl dX6_bestSlot_92 (pc2 := 95) rfl ?_
              refine g_goto hc 32 (by decide) dX6_bestSlot_95 ?_
              refine g_sub [1, 2, 3, 4, 0] rfl ?_
              exact ih_n1 _ _ _ _ hf
            refine g_icmp_ge hc 92 (by decide) dX6_bestSlot_83 (pc2 := 86) rfl (fun q => ?_) (fun q => ?_)
            · have hf := ite_t hf q
              refine g_sub [1, 2, 3, 4, 5] rfl ?_
              exact Hj1 _ _ _ hf
            · have hf := ite_f hf q
              refine g_iload hc 0 rfl dX6_bestSlot_86 (pc2 := 88) rfl ?_
              refine g_istore_n (i := 3) (L1 := [(3, .int r2), (5, .int r2), (0, .ref (ad κ.1 0 0)), (1, .int a1), (2, .int m1), (4, .int m3)]) hc rfl (by decide) rfl dX6_bestSlot_88 (pc2 := 89) rfl ?_
              refine g_iload hc 5 rfl dX6_bestSlot_89 (pc2 := 91) rfl ?_
              refine g_istore_n (i := 2) (L1 := [(2, .int m3), (3, .int r2), (5, .int r2), (0, .ref (ad κ.1 0 0)), (1, .int a1), (4, .int m3)]) hc rfl (by decide) rfl dX6_bestSlot_91 (pc2 := 92) rfl ?_
              refine g_sub [3, 4, 0, 1, 5] rfl ?_
              exact Hj1 _ _ _ hf
      refine g_sub [3, 4, 2, 1, 0] rfl ?_
      exact LP_n1 _ _ _ _ _ hf
    · have hf := ite_f hf q
      refine g_bipush (v := (-9 : Int32)) hc (by decide) dX6_bestSlot_20 (pc2 := 22) rfl ?_
      exact g_xiret hc hf hr rfl (by decide) (by decide) dX6_bestSlot_22
def f6_withoutGroups_l5 (a2 : Int32) (k1 : Int64 → Mem → Option (Int64 × Mem)) : Nat → Int64 → Int32 → Mem → Option (Int64 × Mem)
  | 0, _, _, _ => none
  | n1 + 1, m1, m2, s2 => (if a2 ≤ m2 then k1 m1 s2 else nm (m1 / (100000 : Int64)) fun x1 => nm (m2 + (1 : Int32)) fun x2 => f6_withoutGroups_l5 a2 k1 n1 x1 x2 s2)
def f6_withoutGroups (a1 : Int64) (a2 : Int32) (s0 : Mem) : Option (Int64 × Mem) :=
  nm (fun (y1 : Int64) (s1 : Mem) => some (y1, s1)) fun k1 => f6_withoutGroups_l5 a2 k1 FU a1 (0 : Int32) s0
def rm_6_withoutGroups : Room := { frames := 0, cells := 0, slots := 0, locals := 0 }
set_option maxHeartbeats 4000000 in
set_option maxRecDepth 100000 in
theorem k6_withoutGroups {κ : Kx} {τ : Nat → Int64} {a1 : Int64} {a2 : Int32} {s0 sR : Mem} {rR : Int64}  (hf : f6_withoutGroups a1 a2 s0 = some (rR, sR)) : CtL κ yX6_withoutGroups cX6_withoutGroups 6 (some .long) rm_6_withoutGroups (NV κ τ) (NV κ τ) [.long a1, .int a2] s0 sR rR := by
  refine ct_L (by decide +kernel) (Nat.le_of_ble_eq_true rfl) (fun φ hc hr => ?_)
  have hc : Cx κ φ RX6 cX6_withoutGroups 6 rm_6_withoutGroups := hc
  show G κ φ (QL κ φ (NV κ τ) sR rR rm_6_withoutGroups.cells rm_6_withoutGroups.slots) (NV κ τ) 0 0 s0 [(0, .long a1), (2, .int a2)] 0 []
  unfold f6_withoutGroups at hf
  refine g_lload_n (i := 0) hc 0 rfl rfl dX6_withoutGroups_0 (pc2 := 1) rfl ?_
  refine g_lstore_n (i := 3) (L1 := [(3, .long a1), (0, .long a1), (2, .int a2)]) hc rfl (by decide) rfl dX6_withoutGroups_1 (pc2 := 2) rfl ?_
  refine g_iconst (v := (0 : Int32)) hc (by decide) dX6_withoutGroups_2 (pc2 := 3) rfl ?_
  refine g_istore (L1 := [(5, .int (0 : Int32)), (3, .long a1), (0, .long a1), (2, .int a2)]) hc (by decide) rfl dX6_withoutGroups_3 (pc2 := 5) rfl ?_
  obtain ⟨k1, hk1, hf⟩ := nm_ex hf
  have Hk1 : ∀ (y1 : Int64) (s1 : Mem), k1 y1 s1 = some (rR, sR) → G κ φ (QL κ φ (NV κ τ) sR rR rm_6_withoutGroups.cells rm_6_withoutGroups.slots) (NV κ τ) 0 0 s1 [(3, .long y1)] 23 [] := by
    intro y1 s1 hf
    rw [hk1] at hf
    refine g_lload_n (i := 3) hc 0 rfl rfl dX6_withoutGroups_23 (pc2 := 24) rfl ?_
    exact g_lret hc hf hr (by decide) (by decide) dX6_withoutGroups_24
  have LP_n1 : ∀ (n1 : Nat) (m1 : Int64) (m2 : Int32) (s2 : Mem), f6_withoutGroups_l5 a2 k1 n1 m1 m2 s2 = some (rR, sR) → G κ φ (QL κ φ (NV κ τ) sR rR rm_6_withoutGroups.cells rm_6_withoutGroups.slots) (NV κ τ) 0 0 s2 [(2, .int a2), (3, .long m1), (5, .int m2)] 5 [] := by
    intro n1
    induction n1 with
    | zero => intro m1 m2 s2 hf; rw [f6_withoutGroups_l5] at hf; cases hf
    | succ n1 ih_n1 =>
      intro m1 m2 s2 hf
      rw [f6_withoutGroups_l5] at hf
      refine g_iload hc 2 rfl dX6_withoutGroups_5 (pc2 := 7) rfl ?_
      refine g_iload_n (i := 2) hc 0 rfl rfl dX6_withoutGroups_7 (pc2 := 8) rfl ?_
      refine g_icmp_ge hc 23 (by decide) dX6_withoutGroups_8 (pc2 := 11) rfl (fun q => ?_) (fun q => ?_)
      · have hf := ite_t hf q
        refine g_sub [1] rfl ?_
        exact Hk1 _ _ hf
      · have hf := ite_f hf q
        refine g_lload_n (i := 3) hc 1 rfl rfl dX6_withoutGroups_11 (pc2 := 12) rfl ?_
        refine g_ldc2 (v := (100000 : Int64)) hc (gwm 851 (by decide +kernel) (by decide +kernel)) dX6_withoutGroups_12 (pc2 := 15) rfl ?_
        refine g_ldiv hc (by decide) dX6_withoutGroups_15 (pc2 := 16) rfl ?_
        obtain ⟨x1, hx1, hf⟩ := nm_ex hf
        refine g_nml hx1 ?_
        refine g_lstore_n (i := 3) (L1 := [(3, .long x1), (2, .int a2), (5, .int m2)]) hc rfl (by decide) rfl dX6_withoutGroups_16 (pc2 := 17) rfl ?_
        obtain ⟨x2, hx2, hf⟩ := nm_ex hf
        refine g_iinc (v := x2) (L1 := [(5, .int x2), (3, .long x1), (2, .int a2)]) hc 2 rfl (by rw [hx2]; rfl) (by decide) rfl dX6_withoutGroups_17 (pc2 := 20) rfl ?_
        refine g_goto hc 5 (by decide) dX6_withoutGroups_20 ?_
        refine g_sub [2, 1, 0] rfl ?_
        exact ih_n1 _ _ _ hf
  refine g_sub [3, 1, 0] rfl ?_
  exact LP_n1 _ _ _ _ hf
def f6_runsSend (a1 : Int32) (a2 : Int32) (a3 : Int32) (a4 : Int32) (s0 : Mem) : Option (Int32 × Mem) :=
  bd (f2_hasMaster 15 a1 s0) fun r1 s1 => (if r1 = (0 : Int32) then some ((0 : Int32), s1) else (if (4 : Int32) ≤ a2 then some ((0 : Int32), s1) else (if a3 < (1 : Int32) then some ((0 : Int32), s1) else (if (8 : Int32) < a3 then some ((0 : Int32), s1) else gd (ib a1 6) (bd (f5_takesBursts (6 * 15 + a1.toNatClampNeg) s1) fun r2 s2 => (if r2 = (0 : Int32) then some ((0 : Int32), s2) else gd (ib a1 6) (bv (f1_add (6 * 15 + a1.toNatClampNeg) a2 a3 a4 s2) fun s3 => some ((1 : Int32), s3))))))))
def rm_6_runsSend : Room := { frames := 2, cells := 0, slots := 0, locals := 40 }
set_option maxHeartbeats 4000000 in
set_option maxRecDepth 100000 in
theorem k6_runsSend {κ : Kx} {τ : Nat → Int64} {a1 : Int32} {a2 : Int32} {a3 : Int32} {a4 : Int32} {s0 sR : Mem} {rR : Int32}  (hf : f6_runsSend a1 a2 a3 a4 s0 = some (rR, sR)) : CtI κ yX6_runsSend cX6_runsSend 5 (some .boolean) rm_6_runsSend (NV κ τ) (NV κ τ) [.ref (ad κ.1 0 0), .int a1, .int a2, .int a3, .int a4] s0 sR rR := by
  refine ct_I (by decide +kernel) (Nat.le_of_ble_eq_true rfl) (fun φ hc hr => ?_)
  have hc : Cx κ φ RX6 cX6_runsSend 5 rm_6_runsSend := hc
  show G κ φ (QI κ φ (NV κ τ) sR rR rm_6_runsSend.cells rm_6_runsSend.slots) (NV κ τ) 0 0 s0 [(0, .ref (ad κ.1 0 0)), (1, .int a1), (2, .int a2), (3, .int a3), (4, .int a4)] 0 []
  unfold f6_runsSend at hf
  refine g_aload_n (i := 0) hc 0 rfl rfl dX6_runsSend_0 (pc2 := 1) rfl ?_
  refine g_getr (q := ad κ.1 3 15) hc fo_X6_38 (u0 (by decide)) rfl dX6_runsSend_1 (pc2 := 4) rfl ?_
  refine g_iload_n (i := 1) hc 1 rfl rfl dX6_runsSend_4 (pc2 := 5) rfl ?_
  obtain ⟨r1, s1, hp, hf⟩ := bd_some hf
  refine g_vI hc (k2_hasMaster (by decide) hp) co_X6_272 (u3 (by decide)) rfl rfl (by decide) (by decide) (Nat.le_of_ble_eq_true rfl) dX6_runsSend_5 (pc2 := 8) rfl ?_
  refine g_if_eq hc 42 (by decide) dX6_runsSend_8 (pc2 := 11) rfl (fun q => ?_) (fun q => ?_)
  · have hf := ite_t hf q
    refine g_iconst (v := (0 : Int32)) hc (by decide) dX6_runsSend_42 (pc2 := 43) rfl ?_
    exact g_iret hc hf hr rfl (by decide) (by decide) dX6_runsSend_43
  · have hf := ite_f hf q
    refine g_iload_n (i := 2) hc 2 rfl rfl dX6_runsSend_11 (pc2 := 12) rfl ?_
    refine g_iconst (v := (4 : Int32)) hc (by decide) dX6_runsSend_12 (pc2 := 13) rfl ?_
    refine g_icmp_ge hc 42 (by decide) dX6_runsSend_13 (pc2 := 16) rfl (fun q => ?_) (fun q => ?_)
    · have hf := ite_t hf q
      refine g_iconst (v := (0 : Int32)) hc (by decide) dX6_runsSend_42 (pc2 := 43) rfl ?_
      exact g_iret hc hf hr rfl (by decide) (by decide) dX6_runsSend_43
    · have hf := ite_f hf q
      refine g_iload_n (i := 3) hc 3 rfl rfl dX6_runsSend_16 (pc2 := 17) rfl ?_
      refine g_iconst (v := (1 : Int32)) hc (by decide) dX6_runsSend_17 (pc2 := 18) rfl ?_
      refine g_icmp_lt hc 42 (by decide) dX6_runsSend_18 (pc2 := 21) rfl (fun q => ?_) (fun q => ?_)
      · have hf := ite_t hf q
        refine g_iconst (v := (0 : Int32)) hc (by decide) dX6_runsSend_42 (pc2 := 43) rfl ?_
        exact g_iret hc hf hr rfl (by decide) (by decide) dX6_runsSend_43
      · have hf := ite_f hf q
        refine g_iload_n (i := 3) hc 3 rfl rfl dX6_runsSend_21 (pc2 := 22) rfl ?_
        refine g_bipush (v := (8 : Int32)) hc (by decide) dX6_runsSend_22 (pc2 := 24) rfl ?_
        refine g_icmp_gt hc 42 (by decide) dX6_runsSend_24 (pc2 := 27) rfl (fun q => ?_) (fun q => ?_)
        · have hf := ite_t hf q
          refine g_iconst (v := (0 : Int32)) hc (by decide) dX6_runsSend_42 (pc2 := 43) rfl ?_
          exact g_iret hc hf hr rfl (by decide) (by decide) dX6_runsSend_43
        · have hf := ite_f hf q
          refine g_aload_n (i := 0) hc 0 rfl rfl dX6_runsSend_27 (pc2 := 28) rfl ?_
          refine g_getr (q := ad κ.1 3 15) hc fo_X6_38 (u0 (by decide)) rfl dX6_runsSend_28 (pc2 := 31) rfl ?_
          refine g_getr (q := ad κ.1 6 15) hc fo_X6_117 (u3 (by decide)) rfl dX6_runsSend_31 (pc2 := 34) rfl ?_
          refine g_iload_n (i := 1) hc 1 rfl rfl dX6_runsSend_34 (pc2 := 35) rfl ?_
          obtain ⟨hg1, hf⟩ := gd_some hf
          have ihg1 := ib_lt hg1
          refine g_aldr (q := ad κ.1 7 (6 * 15 + a1.toNatClampNeg)) hc 6 15 (by decide) (by decide) (u6 (by decide)) hg1 rfl dX6_runsSend_35 (pc2 := 36) rfl ?_
          obtain ⟨r2, s2, hp, hf⟩ := bd_some hf
          refine g_vI hc (k5_takesBursts (by omega) hp) co_X6_217 (u7 (by omega)) rfl rfl (by decide) (by decide) (Nat.le_of_ble_eq_true rfl) dX6_runsSend_36 (pc2 := 39) rfl ?_
          refine g_if_ne hc 44 (by decide) dX6_runsSend_39 (pc2 := 42) rfl (fun q => ?_) (fun q => ?_)
          · have hf := ite_f hf q
            refine g_aload_n (i := 0) hc 0 rfl rfl dX6_runsSend_44 (pc2 := 45) rfl ?_
            refine g_getr (q := ad κ.1 3 15) hc fo_X6_38 (u0 (by decide)) rfl dX6_runsSend_45 (pc2 := 48) rfl ?_
            refine g_getr (q := ad κ.1 6 15) hc fo_X6_117 (u3 (by decide)) rfl dX6_runsSend_48 (pc2 := 51) rfl ?_
            refine g_iload_n (i := 1) hc 1 rfl rfl dX6_runsSend_51 (pc2 := 52) rfl ?_
            obtain ⟨hg2, hf⟩ := gd_some hf
            have ihg2 := ib_lt hg2
            refine g_aldr (q := ad κ.1 7 (6 * 15 + a1.toNatClampNeg)) hc 6 15 (by decide) (by decide) (u6 (by decide)) hg2 rfl dX6_runsSend_52 (pc2 := 53) rfl ?_
            refine g_getr (q := ad κ.1 9 (6 * 15 + a1.toNatClampNeg)) hc fo_X6_133 (u7 (by omega)) rfl dX6_runsSend_53 (pc2 := 56) rfl ?_
            refine g_iload_n (i := 2) hc 2 rfl rfl dX6_runsSend_56 (pc2 := 57) rfl ?_
            refine g_iload_n (i := 3) hc 3 rfl rfl dX6_runsSend_57 (pc2 := 58) rfl ?_
            refine g_iload hc 4 rfl dX6_runsSend_58 (pc2 := 60) rfl ?_
            obtain ⟨s3, hp, hf⟩ := bv_some hf
            refine g_vV hc (k1_add (by omega) hp) co_X6_222 (u9 (by omega)) rfl rfl (by decide) (by decide) (Nat.le_of_ble_eq_true rfl) dX6_runsSend_60 (pc2 := 63) rfl ?_
            refine g_iconst (v := (1 : Int32)) hc (by decide) dX6_runsSend_63 (pc2 := 64) rfl ?_
            exact g_iret hc hf hr rfl (by decide) (by decide) dX6_runsSend_64
          · have hf := ite_t hf q
            refine g_iconst (v := (0 : Int32)) hc (by decide) dX6_runsSend_42 (pc2 := 43) rfl ?_
            exact g_iret hc hf hr rfl (by decide) (by decide) dX6_runsSend_43
def f6_runsGive (a1 : Int32) (a2 : Int32) (s0 : Mem) : Option (Int32 × Mem) :=
  bd (f2_hasSlot 15 a1 s0) fun r1 s1 => (if r1 = (0 : Int32) then some ((0 : Int32), s1) else bd (f2_hasMaster 15 a2 s1) fun r2 s2 => (if r2 = (0 : Int32) then some ((0 : Int32), s2) else gd (ib a2 6) ((if (s2 40 (6 * 15 + a2.toNatClampNeg) 0) = (0 : Int32) then gd (ib a1 16) (nm (ms s2 4 15 a1.toNatClampNeg a2) fun s3 => some ((1 : Int32), s3)) else some ((0 : Int32), s2)))))
def rm_6_runsGive : Room := { frames := 1, cells := 0, slots := 0, locals := 21 }
set_option maxHeartbeats 4000000 in
set_option maxRecDepth 100000 in
theorem k6_runsGive {κ : Kx} {τ : Nat → Int64} {a1 : Int32} {a2 : Int32} {s0 sR : Mem} {rR : Int32}  (hf : f6_runsGive a1 a2 s0 = some (rR, sR)) : CtI κ yX6_runsGive cX6_runsGive 3 (some .boolean) rm_6_runsGive (NV κ τ) (NV κ τ) [.ref (ad κ.1 0 0), .int a1, .int a2] s0 sR rR := by
  refine ct_I (by decide +kernel) (Nat.le_of_ble_eq_true rfl) (fun φ hc hr => ?_)
  have hc : Cx κ φ RX6 cX6_runsGive 3 rm_6_runsGive := hc
  show G κ φ (QI κ φ (NV κ τ) sR rR rm_6_runsGive.cells rm_6_runsGive.slots) (NV κ τ) 0 0 s0 [(0, .ref (ad κ.1 0 0)), (1, .int a1), (2, .int a2)] 0 []
  unfold f6_runsGive at hf
  refine g_aload_n (i := 0) hc 0 rfl rfl dX6_runsGive_0 (pc2 := 1) rfl ?_
  refine g_getr (q := ad κ.1 3 15) hc fo_X6_38 (u0 (by decide)) rfl dX6_runsGive_1 (pc2 := 4) rfl ?_
  refine g_iload_n (i := 1) hc 1 rfl rfl dX6_runsGive_4 (pc2 := 5) rfl ?_
  obtain ⟨r1, s1, hp, hf⟩ := bd_some hf
  refine g_vI hc (k2_hasSlot (by decide) hp) co_X6_280 (u3 (by decide)) rfl rfl (by decide) (by decide) (Nat.le_of_ble_eq_true rfl) dX6_runsGive_5 (pc2 := 8) rfl ?_
  refine g_if_eq hc 37 (by decide) dX6_runsGive_8 (pc2 := 11) rfl (fun q => ?_) (fun q => ?_)
  · have hf := ite_t hf q
    refine g_iconst (v := (0 : Int32)) hc (by decide) dX6_runsGive_37 (pc2 := 38) rfl ?_
    exact g_iret hc hf hr rfl (by decide) (by decide) dX6_runsGive_38
  · have hf := ite_f hf q
    refine g_aload_n (i := 0) hc 0 rfl rfl dX6_runsGive_11 (pc2 := 12) rfl ?_
    refine g_getr (q := ad κ.1 3 15) hc fo_X6_38 (u0 (by decide)) rfl dX6_runsGive_12 (pc2 := 15) rfl ?_
    refine g_iload_n (i := 2) hc 2 rfl rfl dX6_runsGive_15 (pc2 := 16) rfl ?_
    obtain ⟨r2, s2, hp, hf⟩ := bd_some hf
    refine g_vI hc (k2_hasMaster (by decide) hp) co_X6_272 (u3 (by decide)) rfl rfl (by decide) (by decide) (Nat.le_of_ble_eq_true rfl) dX6_runsGive_16 (pc2 := 19) rfl ?_
    refine g_if_eq hc 37 (by decide) dX6_runsGive_19 (pc2 := 22) rfl (fun q => ?_) (fun q => ?_)
    · have hf := ite_t hf q
      refine g_iconst (v := (0 : Int32)) hc (by decide) dX6_runsGive_37 (pc2 := 38) rfl ?_
      exact g_iret hc hf hr rfl (by decide) (by decide) dX6_runsGive_38
    · have hf := ite_f hf q
      refine g_aload_n (i := 0) hc 0 rfl rfl dX6_runsGive_22 (pc2 := 23) rfl ?_
      refine g_getr (q := ad κ.1 3 15) hc fo_X6_38 (u0 (by decide)) rfl dX6_runsGive_23 (pc2 := 26) rfl ?_
      refine g_getr (q := ad κ.1 6 15) hc fo_X6_117 (u3 (by decide)) rfl dX6_runsGive_26 (pc2 := 29) rfl ?_
      refine g_iload_n (i := 2) hc 2 rfl rfl dX6_runsGive_29 (pc2 := 30) rfl ?_
      obtain ⟨hg1, hf⟩ := gd_some hf
      have ihg1 := ib_lt hg1
      refine g_aldr (q := ad κ.1 7 (6 * 15 + a2.toNatClampNeg)) hc 6 15 (by decide) (by decide) (u6 (by decide)) hg1 rfl dX6_runsGive_30 (pc2 := 31) rfl ?_
      refine g_geti hc fo_X6_199 (u7 (by omega)) dX6_runsGive_31 (pc2 := 34) rfl ?_
      refine g_if_eq hc 39 (by decide) dX6_runsGive_34 (pc2 := 37) rfl (fun q => ?_) (fun q => ?_)
      · have hf := ite_t hf q
        refine g_aload_n (i := 0) hc 0 rfl rfl dX6_runsGive_39 (pc2 := 40) rfl ?_
        refine g_getr (q := ad κ.1 3 15) hc fo_X6_38 (u0 (by decide)) rfl dX6_runsGive_40 (pc2 := 43) rfl ?_
        refine g_getr (q := ad κ.1 4 15) hc fo_X6_168 (u3 (by decide)) rfl dX6_runsGive_43 (pc2 := 46) rfl ?_
        refine g_iload_n (i := 1) hc 1 rfl rfl dX6_runsGive_46 (pc2 := 47) rfl ?_
        refine g_iload_n (i := 2) hc 2 rfl rfl dX6_runsGive_47 (pc2 := 48) rfl ?_
        obtain ⟨hg2, hf⟩ := gd_some hf
        obtain ⟨s3, hs3, hf⟩ := nm_ex hf
        refine g_asti hc 4 15 rfl (u4 (by decide)) hg2 dX6_runsGive_48 (pc2 := 49) rfl ?_
        refine g_nms hs3 ?_
        refine g_iconst (v := (1 : Int32)) hc (by decide) dX6_runsGive_49 (pc2 := 50) rfl ?_
        exact g_iret hc hf hr rfl (by decide) (by decide) dX6_runsGive_50
      · have hf := ite_f hf q
        refine g_iconst (v := (0 : Int32)) hc (by decide) dX6_runsGive_37 (pc2 := 38) rfl ?_
        exact g_iret hc hf hr rfl (by decide) (by decide) dX6_runsGive_38
def f6_runsForgive (a1 : Int32) (a2 : Int32) (s0 : Mem) : Option (Int32 × Mem) :=
  bd (f2_hasMaster 15 a1 s0) fun r1 s1 => (if r1 = (0 : Int32) then some ((0 : Int32), s1) else bd (f2_hasMaster 15 a2 s1) fun r2 s2 => (if r2 = (0 : Int32) then some ((0 : Int32), s2) else gd (ib a1 6) (gd (ib a2 6) (nm (ms s2 8 (6 * 15 + a1.toNatClampNeg) a2.toNatClampNeg (0 : Int32)) fun s3 => some ((1 : Int32), s3)))))
def rm_6_runsForgive : Room := { frames := 1, cells := 0, slots := 0, locals := 21 }
set_option maxHeartbeats 4000000 in
set_option maxRecDepth 100000 in
theorem k6_runsForgive {κ : Kx} {τ : Nat → Int64} {a1 : Int32} {a2 : Int32} {s0 sR : Mem} {rR : Int32}  (hf : f6_runsForgive a1 a2 s0 = some (rR, sR)) : CtI κ yX6_runsForgive cX6_runsForgive 3 (some .boolean) rm_6_runsForgive (NV κ τ) (NV κ τ) [.ref (ad κ.1 0 0), .int a1, .int a2] s0 sR rR := by
  refine ct_I (by decide +kernel) (Nat.le_of_ble_eq_true rfl) (fun φ hc hr => ?_)
  have hc : Cx κ φ RX6 cX6_runsForgive 3 rm_6_runsForgive := hc
  show G κ φ (QI κ φ (NV κ τ) sR rR rm_6_runsForgive.cells rm_6_runsForgive.slots) (NV κ τ) 0 0 s0 [(0, .ref (ad κ.1 0 0)), (1, .int a1), (2, .int a2)] 0 []
  unfold f6_runsForgive at hf
  refine g_aload_n (i := 0) hc 0 rfl rfl dX6_runsForgive_0 (pc2 := 1) rfl ?_
  refine g_getr (q := ad κ.1 3 15) hc fo_X6_38 (u0 (by decide)) rfl dX6_runsForgive_1 (pc2 := 4) rfl ?_
  refine g_iload_n (i := 1) hc 1 rfl rfl dX6_runsForgive_4 (pc2 := 5) rfl ?_
  obtain ⟨r1, s1, hp, hf⟩ := bd_some hf
  refine g_vI hc (k2_hasMaster (by decide) hp) co_X6_272 (u3 (by decide)) rfl rfl (by decide) (by decide) (Nat.le_of_ble_eq_true rfl) dX6_runsForgive_5 (pc2 := 8) rfl ?_
  refine g_if_eq hc 22 (by decide) dX6_runsForgive_8 (pc2 := 11) rfl (fun q => ?_) (fun q => ?_)
  · have hf := ite_t hf q
    refine g_iconst (v := (0 : Int32)) hc (by decide) dX6_runsForgive_22 (pc2 := 23) rfl ?_
    exact g_iret hc hf hr rfl (by decide) (by decide) dX6_runsForgive_23
  · have hf := ite_f hf q
    refine g_aload_n (i := 0) hc 0 rfl rfl dX6_runsForgive_11 (pc2 := 12) rfl ?_
    refine g_getr (q := ad κ.1 3 15) hc fo_X6_38 (u0 (by decide)) rfl dX6_runsForgive_12 (pc2 := 15) rfl ?_
    refine g_iload_n (i := 2) hc 2 rfl rfl dX6_runsForgive_15 (pc2 := 16) rfl ?_
    obtain ⟨r2, s2, hp, hf⟩ := bd_some hf
    refine g_vI hc (k2_hasMaster (by decide) hp) co_X6_272 (u3 (by decide)) rfl rfl (by decide) (by decide) (Nat.le_of_ble_eq_true rfl) dX6_runsForgive_16 (pc2 := 19) rfl ?_
    refine g_if_ne hc 24 (by decide) dX6_runsForgive_19 (pc2 := 22) rfl (fun q => ?_) (fun q => ?_)
    · have hf := ite_f hf q
      refine g_aload_n (i := 0) hc 0 rfl rfl dX6_runsForgive_24 (pc2 := 25) rfl ?_
      refine g_getr (q := ad κ.1 3 15) hc fo_X6_38 (u0 (by decide)) rfl dX6_runsForgive_25 (pc2 := 28) rfl ?_
      refine g_getr (q := ad κ.1 6 15) hc fo_X6_117 (u3 (by decide)) rfl dX6_runsForgive_28 (pc2 := 31) rfl ?_
      refine g_iload_n (i := 1) hc 1 rfl rfl dX6_runsForgive_31 (pc2 := 32) rfl ?_
      obtain ⟨hg1, hf⟩ := gd_some hf
      have ihg1 := ib_lt hg1
      refine g_aldr (q := ad κ.1 7 (6 * 15 + a1.toNatClampNeg)) hc 6 15 (by decide) (by decide) (u6 (by decide)) hg1 rfl dX6_runsForgive_32 (pc2 := 33) rfl ?_
      refine g_getr (q := ad κ.1 8 (6 * 15 + a1.toNatClampNeg)) hc fo_X6_172 (u7 (by omega)) rfl dX6_runsForgive_33 (pc2 := 36) rfl ?_
      refine g_iload_n (i := 2) hc 2 rfl rfl dX6_runsForgive_36 (pc2 := 37) rfl ?_
      refine g_iconst (v := (0 : Int32)) hc (by decide) dX6_runsForgive_37 (pc2 := 38) rfl ?_
      obtain ⟨hg2, hf⟩ := gd_some hf
      obtain ⟨s3, hs3, hf⟩ := nm_ex hf
      refine g_asti hc 8 (6 * 15 + a1.toNatClampNeg) rfl (u8 (by omega)) hg2 dX6_runsForgive_38 (pc2 := 39) rfl ?_
      refine g_nms hs3 ?_
      refine g_iconst (v := (1 : Int32)) hc (by decide) dX6_runsForgive_39 (pc2 := 40) rfl ?_
      exact g_iret hc hf hr rfl (by decide) (by decide) dX6_runsForgive_40
    · have hf := ite_t hf q
      refine g_iconst (v := (0 : Int32)) hc (by decide) dX6_runsForgive_22 (pc2 := 23) rfl ?_
      exact g_iret hc hf hr rfl (by decide) (by decide) dX6_runsForgive_23
def f6_succeeds (a1 : Int32) (s0 : Mem) : Option (Int32 × Mem) :=
  nm ((a1 / (1000 : Int32)) - (a1 / (1000 : Int32)) / (10 : Int32) * (10 : Int32)) fun x1 => nm ((a1 / (100 : Int32)) - (a1 / (100 : Int32)) / (10 : Int32) * (10 : Int32)) fun x2 => nm ((a1 / (10 : Int32)) - (a1 / (10 : Int32)) / (10 : Int32) * (10 : Int32)) fun x3 => nm (a1 - a1 / (10 : Int32) * (10 : Int32)) fun x4 => nm (((10 : Int32) * x3) + x4) fun x5 => (if (a1 / (10000 : Int32)) = (1 : Int32) then (if x1 = (0 : Int32) then (if x2 = (0 : Int32) then (if (1 : Int32) ≤ x5 then bv (f2_stepTimes 15 x5 s0) fun s1 => some ((1 : Int32), s1) else some ((0 : Int32), s0)) else some ((0 : Int32), s0)) else some ((0 : Int32), s0)) else (if (a1 / (10000 : Int32)) = (2 : Int32) then nm (fun (s2 : Mem) => some ((0 : Int32), s2)) fun j1 => (if (1 : Int32) < x4 then j1 s0 else nm (fun (y1 : Int32) (s3 : Mem) => bd (f6_runsSend x1 x2 x3 y1 s3) fun r1 s4 => (if r1 = (0 : Int32) then j1 s4 else some ((1 : Int32), s4))) fun j2 => (if x4 = (1 : Int32) then j2 (1 : Int32) s0 else j2 (0 : Int32) s0)) else (if (a1 / (10000 : Int32)) = (3 : Int32) then nm (fun (s5 : Mem) => some ((0 : Int32), s5)) fun j3 => (if x4 = (0 : Int32) then bd (f6_runsGive (((10 : Int32) * x1) + x2) x3 s0) fun r2 s6 => (if r2 = (0 : Int32) then j3 s6 else some ((1 : Int32), s6)) else j3 s0) else (if (a1 / (10000 : Int32)) = (4 : Int32) then nm (fun (s7 : Mem) => some ((0 : Int32), s7)) fun j4 => (if x5 = (0 : Int32) then bd (f6_runsForgive x1 x2 s0) fun r3 s8 => (if r3 = (0 : Int32) then j4 s8 else some ((1 : Int32), s8)) else j4 s0) else (if (a1 / (10000 : Int32)) = (5 : Int32) then (if x2 = (0 : Int32) then (if x5 = (0 : Int32) then nm (ms s0 34 15 0 x1) fun s9 => some ((1 : Int32), s9) else some ((0 : Int32), s0)) else some ((0 : Int32), s0)) else (if (a1 / (10000 : Int32)) = (6 : Int32) then nm (fun (s10 : Mem) => some ((0 : Int32), s10)) fun j5 => (if x2 = (0 : Int32) then bd (f2_hasMaster 15 x1 s0) fun r4 s11 => (if r4 = (0 : Int32) then j5 s11 else gd (ib x1 6) (bd (f5_debts (6 * 15 + x1.toNatClampNeg) s11) fun r5 s12 => (if x5 < r5 then j5 s12 else some ((1 : Int32), s12)))) else j5 s0) else (if (a1 / (10000 : Int32)) = (7 : Int32) then nm (fun (s13 : Mem) => some ((0 : Int32), s13)) fun j6 => (if x2 = (0 : Int32) then bd (f2_hasMaster 15 x1 s0) fun r6 s14 => (if r6 = (0 : Int32) then j6 s14 else gd (ib x1 6) ((if x5 < (s14 42 (6 * 15 + x1.toNatClampNeg) 0) then j6 s14 else some ((1 : Int32), s14)))) else j6 s0) else (if (a1 / (10000 : Int32)) = (8 : Int32) then nm (fun (s15 : Mem) => some ((0 : Int32), s15)) fun j7 => (if x2 = (0 : Int32) then (if x3 = (0 : Int32) then (if (1 : Int32) < x4 then j7 s0 else bd (f2_hasMaster 15 x1 s0) fun r7 s16 => (if r7 = (0 : Int32) then j7 s16 else gd (ib x1 6) (nm (fun (y2 : Int32) (s17 : Mem) => (if (s16 40 (6 * 15 + x1.toNatClampNeg) 0) = y2 then some ((1 : Int32), s17) else j7 s17)) fun j8 => (if x4 = (1 : Int32) then j8 (1 : Int32) s16 else j8 (0 : Int32) s16)))) else j7 s0) else j7 s0) else (if (a1 / (10000 : Int32)) = (9 : Int32) then (if x2 = (0 : Int32) then bd (f2_hasMaster 15 x1 s0) fun r8 s18 => (if r8 = (0 : Int32) then some ((0 : Int32), s18) else bv (f2_copyFrom 16 15 s18) fun s19 => bd (f2_stepsTillDone 16 x1 x1 x5 s19) fun r9 s20 => (if x5 < r9 then some ((0 : Int32), s20) else some ((1 : Int32), s20))) else some ((0 : Int32), s0)) else some ((0 : Int32), s0))))))))))
def rm_6_succeeds : Room := { frames := 5, cells := 0, slots := 0, locals := 117 }
set_option maxHeartbeats 4000000 in
set_option maxRecDepth 100000 in
theorem k6_succeeds {κ : Kx} {τ : Nat → Int64} {a1 : Int32} {s0 sR : Mem} {rR : Int32}  (hf : f6_succeeds a1 s0 = some (rR, sR)) : CtI κ yX6_succeeds cX6_succeeds 7 (some .boolean) rm_6_succeeds (NV κ τ) (NV κ τ) [.ref (ad κ.1 0 0), .int a1] s0 sR rR := by
  refine ct_I (by decide +kernel) (Nat.le_of_ble_eq_true rfl) (fun φ hc hr => ?_)
  have hc : Cx κ φ RX6 cX6_succeeds 7 rm_6_succeeds := hc
  show G κ φ (QI κ φ (NV κ τ) sR rR rm_6_succeeds.cells rm_6_succeeds.slots) (NV κ τ) 0 0 s0 [(0, .ref (ad κ.1 0 0)), (1, .int a1)] 0 []
  unfold f6_succeeds at hf
  refine g_iload_n (i := 1) hc 1 rfl rfl dX6_succeeds_0 (pc2 := 1) rfl ?_
  refine g_sipush (v := (1000 : Int32)) hc (by decide) dX6_succeeds_1 (pc2 := 4) rfl ?_
  refine g_idiv hc (by decide) dX6_succeeds_4 (pc2 := 5) rfl ?_
  refine g_bipush (v := (10 : Int32)) hc (by decide) dX6_succeeds_5 (pc2 := 7) rfl ?_
  refine g_irem hc (by decide) dX6_succeeds_7 (pc2 := 8) rfl ?_
  obtain ⟨x1, hx1, hf⟩ := nm_ex hf
  refine g_nmi hx1 ?_
  refine g_istore_n (i := 2) (L1 := [(2, .int x1), (0, .ref (ad κ.1 0 0)), (1, .int a1)]) hc rfl (by decide) rfl dX6_succeeds_8 (pc2 := 9) rfl ?_
  refine g_iload_n (i := 1) hc 2 rfl rfl dX6_succeeds_9 (pc2 := 10) rfl ?_
  refine g_bipush (v := (100 : Int32)) hc (by decide) dX6_succeeds_10 (pc2 := 12) rfl ?_
  refine g_idiv hc (by decide) dX6_succeeds_12 (pc2 := 13) rfl ?_
  refine g_bipush (v := (10 : Int32)) hc (by decide) dX6_succeeds_13 (pc2 := 15) rfl ?_
  refine g_irem hc (by decide) dX6_succeeds_15 (pc2 := 16) rfl ?_
  obtain ⟨x2, hx2, hf⟩ := nm_ex hf
  refine g_nmi hx2 ?_
  refine g_istore_n (i := 3) (L1 := [(3, .int x2), (2, .int x1), (0, .ref (ad κ.1 0 0)), (1, .int a1)]) hc rfl (by decide) rfl dX6_succeeds_16 (pc2 := 17) rfl ?_
  refine g_iload_n (i := 1) hc 3 rfl rfl dX6_succeeds_17 (pc2 := 18) rfl ?_
  refine g_bipush (v := (10 : Int32)) hc (by decide) dX6_succeeds_18 (pc2 := 20) rfl ?_
  refine g_idiv hc (by decide) dX6_succeeds_20 (pc2 := 21) rfl ?_
  refine g_bipush (v := (10 : Int32)) hc (by decide) dX6_succeeds_21 (pc2 := 23) rfl ?_
  refine g_irem hc (by decide) dX6_succeeds_23 (pc2 := 24) rfl ?_
  obtain ⟨x3, hx3, hf⟩ := nm_ex hf
  refine g_nmi hx3 ?_
  refine g_istore (L1 := [(4, .int x3), (3, .int x2), (2, .int x1), (0, .ref (ad κ.1 0 0)), (1, .int a1)]) hc (by decide) rfl dX6_succeeds_24 (pc2 := 26) rfl ?_
  refine g_iload_n (i := 1) hc 4 rfl rfl dX6_succeeds_26 (pc2 := 27) rfl ?_
  refine g_bipush (v := (10 : Int32)) hc (by decide) dX6_succeeds_27 (pc2 := 29) rfl ?_
  refine g_irem hc (by decide) dX6_succeeds_29 (pc2 := 30) rfl ?_
  obtain ⟨x4, hx4, hf⟩ := nm_ex hf
  refine g_nmi hx4 ?_
  refine g_istore (L1 := [(5, .int x4), (4, .int x3), (3, .int x2), (2, .int x1), (0, .ref (ad κ.1 0 0)), (1, .int a1)]) hc (by decide) rfl dX6_succeeds_30 (pc2 := 32) rfl ?_
  refine g_bipush (v := (10 : Int32)) hc (by decide) dX6_succeeds_32 (pc2 := 34) rfl ?_
  refine g_iload hc 1 rfl dX6_succeeds_34 (pc2 := 36) rfl ?_
  refine g_imul hc dX6_succeeds_36 (pc2 := 37) rfl ?_
  refine g_iload hc 0 rfl dX6_succeeds_37 (pc2 := 39) rfl ?_
  refine g_iadd hc dX6_succeeds_39 (pc2 := 40) rfl ?_
  obtain ⟨x5, hx5, hf⟩ := nm_ex hf
  refine g_nmi hx5 ?_
  refine g_istore (L1 := [(6, .int x5), (5, .int x4), (4, .int x3), (3, .int x2), (2, .int x1), (0, .ref (ad κ.1 0 0)), (1, .int a1)]) hc (by decide) rfl dX6_succeeds_40 (pc2 := 42) rfl ?_
  refine g_iload_n (i := 1) hc 6 rfl rfl dX6_succeeds_42 (pc2 := 43) rfl ?_
  refine g_sipush (v := (10000 : Int32)) hc (by decide) dX6_succeeds_43 (pc2 := 46) rfl ?_
  refine g_idiv hc (by decide) dX6_succeeds_46 (pc2 := 47) rfl ?_
  by_cases q1 : a1 / (10000 : Int32) = (1 : Int32)
  · have hf := ite_t hf q1
    refine g_case hc 96 (1 : Int32) q1 (by decide) (by decide) rfl (by decide) dX6_succeeds_47 ?_
    refine g_iload_n (i := 2) hc 4 rfl rfl dX6_succeeds_96 (pc2 := 97) rfl ?_
    refine g_if_ne hc 110 (by decide) dX6_succeeds_97 (pc2 := 100) rfl (fun q => ?_) (fun q => ?_)
    · have hf := ite_f hf q
      refine g_iconst (v := (0 : Int32)) hc (by decide) dX6_succeeds_110 (pc2 := 111) rfl ?_
      exact g_iret hc hf hr rfl (by decide) (by decide) dX6_succeeds_111
    · have hf := ite_t hf q
      refine g_iload_n (i := 3) hc 3 rfl rfl dX6_succeeds_100 (pc2 := 101) rfl ?_
      refine g_if_ne hc 110 (by decide) dX6_succeeds_101 (pc2 := 104) rfl (fun q => ?_) (fun q => ?_)
      · have hf := ite_f hf q
        refine g_iconst (v := (0 : Int32)) hc (by decide) dX6_succeeds_110 (pc2 := 111) rfl ?_
        exact g_iret hc hf hr rfl (by decide) (by decide) dX6_succeeds_111
      · have hf := ite_t hf q
        refine g_iload hc 0 rfl dX6_succeeds_104 (pc2 := 106) rfl ?_
        refine g_iconst (v := (1 : Int32)) hc (by decide) dX6_succeeds_106 (pc2 := 107) rfl ?_
        refine g_icmp_ge hc 112 (by decide) dX6_succeeds_107 (pc2 := 110) rfl (fun q => ?_) (fun q => ?_)
        · have hf := ite_t hf q
          refine g_aload_n (i := 0) hc 5 rfl rfl dX6_succeeds_112 (pc2 := 113) rfl ?_
          refine g_getr (q := ad κ.1 3 15) hc fo_X6_38 (u0 (by decide)) rfl dX6_succeeds_113 (pc2 := 116) rfl ?_
          refine g_iload hc 0 rfl dX6_succeeds_116 (pc2 := 118) rfl ?_
          obtain ⟨s1, hp, hf⟩ := bv_some hf
          refine g_vV hc (k2_stepTimes (by decide) hp) co_X6_227 (u3 (by decide)) rfl rfl (by decide) (by decide) (Nat.le_of_ble_eq_true rfl) dX6_succeeds_118 (pc2 := 121) rfl ?_
          refine g_iconst (v := (1 : Int32)) hc (by decide) dX6_succeeds_121 (pc2 := 122) rfl ?_
          exact g_iret hc hf hr rfl (by decide) (by decide) dX6_succeeds_122
        · have hf := ite_f hf q
          refine g_iconst (v := (0 : Int32)) hc (by decide) dX6_succeeds_110 (pc2 := 111) rfl ?_
          exact g_iret hc hf hr rfl (by decide) (by decide) dX6_succeeds_111
  · have hf := ite_f hf q1
    by_cases q2 : a1 / (10000 : Int32) = (2 : Int32)
    · have hf := ite_t hf q2
      refine g_case hc 123 (2 : Int32) q2 (by decide) (by decide) rfl (by decide) dX6_succeeds_47 ?_
      refine g_iload hc 1 rfl dX6_succeeds_123 (pc2 := 125) rfl ?_
      refine g_iconst (v := (1 : Int32)) hc (by decide) dX6_succeeds_125 (pc2 := 126) rfl ?_
      obtain ⟨j1, hj1, hf⟩ := nm_ex hf
      have Hj1 : ∀ (s2 : Mem), j1 s2 = some (rR, sR) → G κ φ (QI κ φ (NV κ τ) sR rR rm_6_succeeds.cells rm_6_succeeds.slots) (NV κ τ) 0 0 s2 [] 155 [] := by
        intro s2 hf
        rw [hj1] at hf
        refine g_iconst (v := (0 : Int32)) hc (by decide) dX6_succeeds_155 (pc2 := 156) rfl ?_
        exact g_iret hc hf hr rfl (by decide) (by decide) dX6_succeeds_156
      refine g_icmp_gt hc 155 (by decide) dX6_succeeds_126 (pc2 := 129) rfl (fun q => ?_) (fun q => ?_)
      · have hf := ite_t hf q
        refine g_sub [] rfl ?_
        exact Hj1 _ hf
      · have hf := ite_f hf q
        refine g_aload_n (i := 0) hc 5 rfl rfl dX6_succeeds_129 (pc2 := 130) rfl ?_
        refine g_iload_n (i := 2) hc 4 rfl rfl dX6_succeeds_130 (pc2 := 131) rfl ?_
        refine g_iload_n (i := 3) hc 3 rfl rfl dX6_succeeds_131 (pc2 := 132) rfl ?_
        refine g_iload hc 2 rfl dX6_succeeds_132 (pc2 := 134) rfl ?_
        refine g_iload hc 1 rfl dX6_succeeds_134 (pc2 := 136) rfl ?_
        refine g_iconst (v := (1 : Int32)) hc (by decide) dX6_succeeds_136 (pc2 := 137) rfl ?_
        obtain ⟨j2, hj2, hf⟩ := nm_ex hf
        have Hj2 : ∀ (y1 : Int32) (s3 : Mem), j2 y1 s3 = some (rR, sR) → G κ φ (QI κ φ (NV κ τ) sR rR rm_6_succeeds.cells rm_6_succeeds.slots) (NV κ τ) 0 0 s3 [] 145 [.int y1, .int x3, .int x2, .int x1, .ref (ad κ.1 0 0)] := by
          intro y1 s3 hf
          rw [hj2] at hf
          obtain ⟨r1, s4, hp, hf⟩ := bd_some hf
          refine g_vI hc (k6_runsSend hp) co_X6_289 (u0 (by decide)) rfl rfl (by decide) (by decide) (Nat.le_of_ble_eq_true rfl) dX6_succeeds_145 (pc2 := 148) rfl ?_
          refine g_if_eq hc 155 (by decide) dX6_succeeds_148 (pc2 := 151) rfl (fun q => ?_) (fun q => ?_)
          · have hf := ite_t hf q
            exact Hj1 _ hf
          · have hf := ite_f hf q
            refine g_iconst (v := (1 : Int32)) hc (by decide) dX6_succeeds_151 (pc2 := 152) rfl ?_
            refine g_goto hc 156 (by decide) dX6_succeeds_152 ?_
            exact g_iret hc hf hr rfl (by decide) (by decide) dX6_succeeds_156
        refine g_icmp_ne hc 144 (by decide) dX6_succeeds_137 (pc2 := 140) rfl (fun q => ?_) (fun q => ?_)
        · have hf := ite_f hf q
          refine g_iconst (v := (0 : Int32)) hc (by decide) dX6_succeeds_144 (pc2 := 145) rfl ?_
          refine g_sub [] rfl ?_
          exact Hj2 _ _ hf
        · have hf := ite_t hf q
          refine g_iconst (v := (1 : Int32)) hc (by decide) dX6_succeeds_140 (pc2 := 141) rfl ?_
          refine g_goto hc 145 (by decide) dX6_succeeds_141 ?_
          refine g_sub [] rfl ?_
          exact Hj2 _ _ hf
    · have hf := ite_f hf q2
      by_cases q3 : a1 / (10000 : Int32) = (3 : Int32)
      · have hf := ite_t hf q3
        refine g_case hc 157 (3 : Int32) q3 (by decide) (by decide) rfl (by decide) dX6_succeeds_47 ?_
        refine g_iload hc 1 rfl dX6_succeeds_157 (pc2 := 159) rfl ?_
        obtain ⟨j3, hj3, hf⟩ := nm_ex hf
        have Hj3 : ∀ (s5 : Mem), j3 s5 = some (rR, sR) → G κ φ (QI κ φ (NV κ τ) sR rR rm_6_succeeds.cells rm_6_succeeds.slots) (NV κ τ) 0 0 s5 [] 181 [] := by
          intro s5 hf
          rw [hj3] at hf
          refine g_iconst (v := (0 : Int32)) hc (by decide) dX6_succeeds_181 (pc2 := 182) rfl ?_
          exact g_iret hc hf hr rfl (by decide) (by decide) dX6_succeeds_182
        refine g_if_ne hc 181 (by decide) dX6_succeeds_159 (pc2 := 162) rfl (fun q => ?_) (fun q => ?_)
        · have hf := ite_f hf q
          refine g_sub [] rfl ?_
          exact Hj3 _ hf
        · have hf := ite_t hf q
          refine g_aload_n (i := 0) hc 5 rfl rfl dX6_succeeds_162 (pc2 := 163) rfl ?_
          refine g_bipush (v := (10 : Int32)) hc (by decide) dX6_succeeds_163 (pc2 := 165) rfl ?_
          refine g_iload_n (i := 2) hc 4 rfl rfl dX6_succeeds_165 (pc2 := 166) rfl ?_
          refine g_imul hc dX6_succeeds_166 (pc2 := 167) rfl ?_
          refine g_iload_n (i := 3) hc 3 rfl rfl dX6_succeeds_167 (pc2 := 168) rfl ?_
          refine g_iadd hc dX6_succeeds_168 (pc2 := 169) rfl ?_
          refine g_iload hc 2 rfl dX6_succeeds_169 (pc2 := 171) rfl ?_
          obtain ⟨r2, s6, hp, hf⟩ := bd_some hf
          refine g_vI hc (k6_runsGive hp) co_X6_293 (u0 (by decide)) rfl rfl (by decide) (by decide) (Nat.le_of_ble_eq_true rfl) dX6_succeeds_171 (pc2 := 174) rfl ?_
          refine g_if_eq hc 181 (by decide) dX6_succeeds_174 (pc2 := 177) rfl (fun q => ?_) (fun q => ?_)
          · have hf := ite_t hf q
            refine g_sub [] rfl ?_
            exact Hj3 _ hf
          · have hf := ite_f hf q
            refine g_iconst (v := (1 : Int32)) hc (by decide) dX6_succeeds_177 (pc2 := 178) rfl ?_
            refine g_goto hc 182 (by decide) dX6_succeeds_178 ?_
            exact g_iret hc hf hr rfl (by decide) (by decide) dX6_succeeds_182
      · have hf := ite_f hf q3
        by_cases q4 : a1 / (10000 : Int32) = (4 : Int32)
        · have hf := ite_t hf q4
          refine g_case hc 183 (4 : Int32) q4 (by decide) (by decide) rfl (by decide) dX6_succeeds_47 ?_
          refine g_iload hc 0 rfl dX6_succeeds_183 (pc2 := 185) rfl ?_
          obtain ⟨j4, hj4, hf⟩ := nm_ex hf
          have Hj4 : ∀ (s7 : Mem), j4 s7 = some (rR, sR) → G κ φ (QI κ φ (NV κ τ) sR rR rm_6_succeeds.cells rm_6_succeeds.slots) (NV κ τ) 0 0 s7 [] 201 [] := by
            intro s7 hf
            rw [hj4] at hf
            refine g_iconst (v := (0 : Int32)) hc (by decide) dX6_succeeds_201 (pc2 := 202) rfl ?_
            exact g_iret hc hf hr rfl (by decide) (by decide) dX6_succeeds_202
          refine g_if_ne hc 201 (by decide) dX6_succeeds_185 (pc2 := 188) rfl (fun q => ?_) (fun q => ?_)
          · have hf := ite_f hf q
            refine g_sub [] rfl ?_
            exact Hj4 _ hf
          · have hf := ite_t hf q
            refine g_aload_n (i := 0) hc 5 rfl rfl dX6_succeeds_188 (pc2 := 189) rfl ?_
            refine g_iload_n (i := 2) hc 4 rfl rfl dX6_succeeds_189 (pc2 := 190) rfl ?_
            refine g_iload_n (i := 3) hc 3 rfl rfl dX6_succeeds_190 (pc2 := 191) rfl ?_
            obtain ⟨r3, s8, hp, hf⟩ := bd_some hf
            refine g_vI hc (k6_runsForgive hp) co_X6_297 (u0 (by decide)) rfl rfl (by decide) (by decide) (Nat.le_of_ble_eq_true rfl) dX6_succeeds_191 (pc2 := 194) rfl ?_
            refine g_if_eq hc 201 (by decide) dX6_succeeds_194 (pc2 := 197) rfl (fun q => ?_) (fun q => ?_)
            · have hf := ite_t hf q
              refine g_sub [] rfl ?_
              exact Hj4 _ hf
            · have hf := ite_f hf q
              refine g_iconst (v := (1 : Int32)) hc (by decide) dX6_succeeds_197 (pc2 := 198) rfl ?_
              refine g_goto hc 202 (by decide) dX6_succeeds_198 ?_
              exact g_iret hc hf hr rfl (by decide) (by decide) dX6_succeeds_202
        · have hf := ite_f hf q4
          by_cases q5 : a1 / (10000 : Int32) = (5 : Int32)
          · have hf := ite_t hf q5
            refine g_case hc 203 (5 : Int32) q5 (by decide) (by decide) rfl (by decide) dX6_succeeds_47 ?_
            refine g_iload_n (i := 3) hc 3 rfl rfl dX6_succeeds_203 (pc2 := 204) rfl ?_
            refine g_if_ne hc 212 (by decide) dX6_succeeds_204 (pc2 := 207) rfl (fun q => ?_) (fun q => ?_)
            · have hf := ite_f hf q
              refine g_iconst (v := (0 : Int32)) hc (by decide) dX6_succeeds_212 (pc2 := 213) rfl ?_
              exact g_iret hc hf hr rfl (by decide) (by decide) dX6_succeeds_213
            · have hf := ite_t hf q
              refine g_iload hc 0 rfl dX6_succeeds_207 (pc2 := 209) rfl ?_
              refine g_if_eq hc 214 (by decide) dX6_succeeds_209 (pc2 := 212) rfl (fun q => ?_) (fun q => ?_)
              · have hf := ite_t hf q
                refine g_aload_n (i := 0) hc 5 rfl rfl dX6_succeeds_214 (pc2 := 215) rfl ?_
                refine g_getr (q := ad κ.1 3 15) hc fo_X6_38 (u0 (by decide)) rfl dX6_succeeds_215 (pc2 := 218) rfl ?_
                refine g_iload_n (i := 2) hc 4 rfl rfl dX6_succeeds_218 (pc2 := 219) rfl ?_
                obtain ⟨s9, hs9, hf⟩ := nm_ex hf
                refine g_puti hc (by decide) fo_X6_96 clO_3 poK_3_4 rfl (u3 (by decide)) rfl rfl dX6_succeeds_219 (pc2 := 222) rfl ?_
                refine g_nms hs9 ?_
                refine g_iconst (v := (1 : Int32)) hc (by decide) dX6_succeeds_222 (pc2 := 223) rfl ?_
                exact g_iret hc hf hr rfl (by decide) (by decide) dX6_succeeds_223
              · have hf := ite_f hf q
                refine g_iconst (v := (0 : Int32)) hc (by decide) dX6_succeeds_212 (pc2 := 213) rfl ?_
                exact g_iret hc hf hr rfl (by decide) (by decide) dX6_succeeds_213
          · have hf := ite_f hf q5
            by_cases q6 : a1 / (10000 : Int32) = (6 : Int32)
            · have hf := ite_t hf q6
              refine g_case hc 224 (6 : Int32) q6 (by decide) (by decide) rfl (by decide) dX6_succeeds_47 ?_
              refine g_iload_n (i := 3) hc 3 rfl rfl dX6_succeeds_224 (pc2 := 225) rfl ?_
              obtain ⟨j5, hj5, hf⟩ := nm_ex hf
              have Hj5 : ∀ (s10 : Mem), j5 s10 = some (rR, sR) → G κ φ (QI κ φ (NV κ τ) sR rR rm_6_succeeds.cells rm_6_succeeds.slots) (NV κ τ) 0 0 s10 [] 260 [] := by
                intro s10 hf
                rw [hj5] at hf
                refine g_iconst (v := (0 : Int32)) hc (by decide) dX6_succeeds_260 (pc2 := 261) rfl ?_
                exact g_iret hc hf hr rfl (by decide) (by decide) dX6_succeeds_261
              refine g_if_ne hc 260 (by decide) dX6_succeeds_225 (pc2 := 228) rfl (fun q => ?_) (fun q => ?_)
              · have hf := ite_f hf q
                refine g_sub [] rfl ?_
                exact Hj5 _ hf
              · have hf := ite_t hf q
                refine g_aload_n (i := 0) hc 5 rfl rfl dX6_succeeds_228 (pc2 := 229) rfl ?_
                refine g_getr (q := ad κ.1 3 15) hc fo_X6_38 (u0 (by decide)) rfl dX6_succeeds_229 (pc2 := 232) rfl ?_
                refine g_iload_n (i := 2) hc 4 rfl rfl dX6_succeeds_232 (pc2 := 233) rfl ?_
                obtain ⟨r4, s11, hp, hf⟩ := bd_some hf
                refine g_vI hc (k2_hasMaster (by decide) hp) co_X6_272 (u3 (by decide)) rfl rfl (by decide) (by decide) (Nat.le_of_ble_eq_true rfl) dX6_succeeds_233 (pc2 := 236) rfl ?_
                refine g_if_eq hc 260 (by decide) dX6_succeeds_236 (pc2 := 239) rfl (fun q => ?_) (fun q => ?_)
                · have hf := ite_t hf q
                  refine g_sub [] rfl ?_
                  exact Hj5 _ hf
                · have hf := ite_f hf q
                  refine g_aload_n (i := 0) hc 5 rfl rfl dX6_succeeds_239 (pc2 := 240) rfl ?_
                  refine g_getr (q := ad κ.1 3 15) hc fo_X6_38 (u0 (by decide)) rfl dX6_succeeds_240 (pc2 := 243) rfl ?_
                  refine g_getr (q := ad κ.1 6 15) hc fo_X6_117 (u3 (by decide)) rfl dX6_succeeds_243 (pc2 := 246) rfl ?_
                  refine g_iload_n (i := 2) hc 4 rfl rfl dX6_succeeds_246 (pc2 := 247) rfl ?_
                  obtain ⟨hg1, hf⟩ := gd_some hf
                  have ihg1 := ib_lt hg1
                  refine g_aldr (q := ad κ.1 7 (6 * 15 + x1.toNatClampNeg)) hc 6 15 (by decide) (by decide) (u6 (by decide)) hg1 rfl dX6_succeeds_247 (pc2 := 248) rfl ?_
                  obtain ⟨r5, s12, hp, hf⟩ := bd_some hf
                  refine g_vI hc (k5_debts (by omega) hp) co_X6_125 (u7 (by omega)) rfl rfl (by decide) (by decide) (Nat.le_of_ble_eq_true rfl) dX6_succeeds_248 (pc2 := 251) rfl ?_
                  refine g_iload hc 0 rfl dX6_succeeds_251 (pc2 := 253) rfl ?_
                  refine g_icmp_gt hc 260 (by decide) dX6_succeeds_253 (pc2 := 256) rfl (fun q => ?_) (fun q => ?_)
                  · have hf := ite_t hf q
                    refine g_sub [] rfl ?_
                    exact Hj5 _ hf
                  · have hf := ite_f hf q
                    refine g_iconst (v := (1 : Int32)) hc (by decide) dX6_succeeds_256 (pc2 := 257) rfl ?_
                    refine g_goto hc 261 (by decide) dX6_succeeds_257 ?_
                    exact g_iret hc hf hr rfl (by decide) (by decide) dX6_succeeds_261
            · have hf := ite_f hf q6
              by_cases q7 : a1 / (10000 : Int32) = (7 : Int32)
              · have hf := ite_t hf q7
                refine g_case hc 262 (7 : Int32) q7 (by decide) (by decide) rfl (by decide) dX6_succeeds_47 ?_
                refine g_iload_n (i := 3) hc 3 rfl rfl dX6_succeeds_262 (pc2 := 263) rfl ?_
                obtain ⟨j6, hj6, hf⟩ := nm_ex hf
                have Hj6 : ∀ (s13 : Mem), j6 s13 = some (rR, sR) → G κ φ (QI κ φ (NV κ τ) sR rR rm_6_succeeds.cells rm_6_succeeds.slots) (NV κ τ) 0 0 s13 [] 298 [] := by
                  intro s13 hf
                  rw [hj6] at hf
                  refine g_iconst (v := (0 : Int32)) hc (by decide) dX6_succeeds_298 (pc2 := 299) rfl ?_
                  exact g_iret hc hf hr rfl (by decide) (by decide) dX6_succeeds_299
                refine g_if_ne hc 298 (by decide) dX6_succeeds_263 (pc2 := 266) rfl (fun q => ?_) (fun q => ?_)
                · have hf := ite_f hf q
                  refine g_sub [] rfl ?_
                  exact Hj6 _ hf
                · have hf := ite_t hf q
                  refine g_aload_n (i := 0) hc 5 rfl rfl dX6_succeeds_266 (pc2 := 267) rfl ?_
                  refine g_getr (q := ad κ.1 3 15) hc fo_X6_38 (u0 (by decide)) rfl dX6_succeeds_267 (pc2 := 270) rfl ?_
                  refine g_iload_n (i := 2) hc 4 rfl rfl dX6_succeeds_270 (pc2 := 271) rfl ?_
                  obtain ⟨r6, s14, hp, hf⟩ := bd_some hf
                  refine g_vI hc (k2_hasMaster (by decide) hp) co_X6_272 (u3 (by decide)) rfl rfl (by decide) (by decide) (Nat.le_of_ble_eq_true rfl) dX6_succeeds_271 (pc2 := 274) rfl ?_
                  refine g_if_eq hc 298 (by decide) dX6_succeeds_274 (pc2 := 277) rfl (fun q => ?_) (fun q => ?_)
                  · have hf := ite_t hf q
                    refine g_sub [] rfl ?_
                    exact Hj6 _ hf
                  · have hf := ite_f hf q
                    refine g_aload_n (i := 0) hc 5 rfl rfl dX6_succeeds_277 (pc2 := 278) rfl ?_
                    refine g_getr (q := ad κ.1 3 15) hc fo_X6_38 (u0 (by decide)) rfl dX6_succeeds_278 (pc2 := 281) rfl ?_
                    refine g_getr (q := ad κ.1 6 15) hc fo_X6_117 (u3 (by decide)) rfl dX6_succeeds_281 (pc2 := 284) rfl ?_
                    refine g_iload_n (i := 2) hc 4 rfl rfl dX6_succeeds_284 (pc2 := 285) rfl ?_
                    obtain ⟨hg2, hf⟩ := gd_some hf
                    have ihg2 := ib_lt hg2
                    refine g_aldr (q := ad κ.1 7 (6 * 15 + x1.toNatClampNeg)) hc 6 15 (by decide) (by decide) (u6 (by decide)) hg2 rfl dX6_succeeds_285 (pc2 := 286) rfl ?_
                    refine g_geti hc fo_X6_145 (u7 (by omega)) dX6_succeeds_286 (pc2 := 289) rfl ?_
                    refine g_iload hc 0 rfl dX6_succeeds_289 (pc2 := 291) rfl ?_
                    refine g_icmp_gt hc 298 (by decide) dX6_succeeds_291 (pc2 := 294) rfl (fun q => ?_) (fun q => ?_)
                    · have hf := ite_t hf q
                      refine g_sub [] rfl ?_
                      exact Hj6 _ hf
                    · have hf := ite_f hf q
                      refine g_iconst (v := (1 : Int32)) hc (by decide) dX6_succeeds_294 (pc2 := 295) rfl ?_
                      refine g_goto hc 299 (by decide) dX6_succeeds_295 ?_
                      exact g_iret hc hf hr rfl (by decide) (by decide) dX6_succeeds_299
              · have hf := ite_f hf q7
                by_cases q8 : a1 / (10000 : Int32) = (8 : Int32)
                · have hf := ite_t hf q8
                  refine g_case hc 300 (8 : Int32) q8 (by decide) (by decide) rfl (by decide) dX6_succeeds_47 ?_
                  refine g_iload_n (i := 3) hc 3 rfl rfl dX6_succeeds_300 (pc2 := 301) rfl ?_
                  obtain ⟨j7, hj7, hf⟩ := nm_ex hf
                  have Hj7 : ∀ (s15 : Mem), j7 s15 = some (rR, sR) → G κ φ (QI κ φ (NV κ τ) sR rR rm_6_succeeds.cells rm_6_succeeds.slots) (NV κ τ) 0 0 s15 [] 356 [] := by
                    intro s15 hf
                    rw [hj7] at hf
                    refine g_iconst (v := (0 : Int32)) hc (by decide) dX6_succeeds_356 (pc2 := 357) rfl ?_
                    exact g_iret hc hf hr rfl (by decide) (by decide) dX6_succeeds_357
                  refine g_if_ne hc 356 (by decide) dX6_succeeds_301 (pc2 := 304) rfl (fun q => ?_) (fun q => ?_)
                  · have hf := ite_f hf q
                    refine g_sub [] rfl ?_
                    exact Hj7 _ hf
                  · have hf := ite_t hf q
                    refine g_iload hc 2 rfl dX6_succeeds_304 (pc2 := 306) rfl ?_
                    refine g_if_ne hc 356 (by decide) dX6_succeeds_306 (pc2 := 309) rfl (fun q => ?_) (fun q => ?_)
                    · have hf := ite_f hf q
                      refine g_sub [] rfl ?_
                      exact Hj7 _ hf
                    · have hf := ite_t hf q
                      refine g_iload hc 1 rfl dX6_succeeds_309 (pc2 := 311) rfl ?_
                      refine g_iconst (v := (1 : Int32)) hc (by decide) dX6_succeeds_311 (pc2 := 312) rfl ?_
                      refine g_icmp_gt hc 356 (by decide) dX6_succeeds_312 (pc2 := 315) rfl (fun q => ?_) (fun q => ?_)
                      · have hf := ite_t hf q
                        refine g_sub [] rfl ?_
                        exact Hj7 _ hf
                      · have hf := ite_f hf q
                        refine g_aload_n (i := 0) hc 5 rfl rfl dX6_succeeds_315 (pc2 := 316) rfl ?_
                        refine g_getr (q := ad κ.1 3 15) hc fo_X6_38 (u0 (by decide)) rfl dX6_succeeds_316 (pc2 := 319) rfl ?_
                        refine g_iload_n (i := 2) hc 4 rfl rfl dX6_succeeds_319 (pc2 := 320) rfl ?_
                        obtain ⟨r7, s16, hp, hf⟩ := bd_some hf
                        refine g_vI hc (k2_hasMaster (by decide) hp) co_X6_272 (u3 (by decide)) rfl rfl (by decide) (by decide) (Nat.le_of_ble_eq_true rfl) dX6_succeeds_320 (pc2 := 323) rfl ?_
                        refine g_if_eq hc 356 (by decide) dX6_succeeds_323 (pc2 := 326) rfl (fun q => ?_) (fun q => ?_)
                        · have hf := ite_t hf q
                          refine g_sub [] rfl ?_
                          exact Hj7 _ hf
                        · have hf := ite_f hf q
                          refine g_aload_n (i := 0) hc 5 rfl rfl dX6_succeeds_326 (pc2 := 327) rfl ?_
                          refine g_getr (q := ad κ.1 3 15) hc fo_X6_38 (u0 (by decide)) rfl dX6_succeeds_327 (pc2 := 330) rfl ?_
                          refine g_getr (q := ad κ.1 6 15) hc fo_X6_117 (u3 (by decide)) rfl dX6_succeeds_330 (pc2 := 333) rfl ?_
                          refine g_iload_n (i := 2) hc 4 rfl rfl dX6_succeeds_333 (pc2 := 334) rfl ?_
                          obtain ⟨hg3, hf⟩ := gd_some hf
                          have ihg3 := ib_lt hg3
                          refine g_aldr (q := ad κ.1 7 (6 * 15 + x1.toNatClampNeg)) hc 6 15 (by decide) (by decide) (u6 (by decide)) hg3 rfl dX6_succeeds_334 (pc2 := 335) rfl ?_
                          refine g_geti hc fo_X6_199 (u7 (by omega)) dX6_succeeds_335 (pc2 := 338) rfl ?_
                          refine g_iload hc 1 rfl dX6_succeeds_338 (pc2 := 340) rfl ?_
                          refine g_iconst (v := (1 : Int32)) hc (by decide) dX6_succeeds_340 (pc2 := 341) rfl ?_
                          obtain ⟨j8, hj8, hf⟩ := nm_ex hf
                          have Hj8 : ∀ (y2 : Int32) (s17 : Mem), j8 y2 s17 = some (rR, sR) → G κ φ (QI κ φ (NV κ τ) sR rR rm_6_succeeds.cells rm_6_succeeds.slots) (NV κ τ) 0 0 s17 [] 349 [.int y2, .int (s16 40 (6 * 15 + x1.toNatClampNeg) 0)] := by
                            intro y2 s17 hf
                            rw [hj8] at hf
                            refine g_icmp_ne hc 356 (by decide) dX6_succeeds_349 (pc2 := 352) rfl (fun q => ?_) (fun q => ?_)
                            · have hf := ite_f hf q
                              exact Hj7 _ hf
                            · have hf := ite_t hf q
                              refine g_iconst (v := (1 : Int32)) hc (by decide) dX6_succeeds_352 (pc2 := 353) rfl ?_
                              refine g_goto hc 357 (by decide) dX6_succeeds_353 ?_
                              exact g_iret hc hf hr rfl (by decide) (by decide) dX6_succeeds_357
                          refine g_icmp_ne hc 348 (by decide) dX6_succeeds_341 (pc2 := 344) rfl (fun q => ?_) (fun q => ?_)
                          · have hf := ite_f hf q
                            refine g_iconst (v := (0 : Int32)) hc (by decide) dX6_succeeds_348 (pc2 := 349) rfl ?_
                            refine g_sub [] rfl ?_
                            exact Hj8 _ _ hf
                          · have hf := ite_t hf q
                            refine g_iconst (v := (1 : Int32)) hc (by decide) dX6_succeeds_344 (pc2 := 345) rfl ?_
                            refine g_goto hc 349 (by decide) dX6_succeeds_345 ?_
                            refine g_sub [] rfl ?_
                            exact Hj8 _ _ hf
                · have hf := ite_f hf q8
                  by_cases q9 : a1 / (10000 : Int32) = (9 : Int32)
                  · have hf := ite_t hf q9
                    refine g_case hc 358 (9 : Int32) q9 (by decide) (by decide) rfl (by decide) dX6_succeeds_47 ?_
                    refine g_iload_n (i := 3) hc 3 rfl rfl dX6_succeeds_358 (pc2 := 359) rfl ?_
                    refine g_if_ne hc 373 (by decide) dX6_succeeds_359 (pc2 := 362) rfl (fun q => ?_) (fun q => ?_)
                    · have hf := ite_f hf q
                      refine g_iconst (v := (0 : Int32)) hc (by decide) dX6_succeeds_373 (pc2 := 374) rfl ?_
                      exact g_iret hc hf hr rfl (by decide) (by decide) dX6_succeeds_374
                    · have hf := ite_t hf q
                      refine g_aload_n (i := 0) hc 5 rfl rfl dX6_succeeds_362 (pc2 := 363) rfl ?_
                      refine g_getr (q := ad κ.1 3 15) hc fo_X6_38 (u0 (by decide)) rfl dX6_succeeds_363 (pc2 := 366) rfl ?_
                      refine g_iload_n (i := 2) hc 4 rfl rfl dX6_succeeds_366 (pc2 := 367) rfl ?_
                      obtain ⟨r8, s18, hp, hf⟩ := bd_some hf
                      refine g_vI hc (k2_hasMaster (by decide) hp) co_X6_272 (u3 (by decide)) rfl rfl (by decide) (by decide) (Nat.le_of_ble_eq_true rfl) dX6_succeeds_367 (pc2 := 370) rfl ?_
                      refine g_if_ne hc 375 (by decide) dX6_succeeds_370 (pc2 := 373) rfl (fun q => ?_) (fun q => ?_)
                      · have hf := ite_f hf q
                        refine g_aload_n (i := 0) hc 5 rfl rfl dX6_succeeds_375 (pc2 := 376) rfl ?_
                        refine g_getr (q := ad κ.1 3 16) hc fo_X6_41 (u0 (by decide)) rfl dX6_succeeds_376 (pc2 := 379) rfl ?_
                        refine g_aload_n (i := 0) hc 5 rfl rfl dX6_succeeds_379 (pc2 := 380) rfl ?_
                        refine g_getr (q := ad κ.1 3 15) hc fo_X6_38 (u0 (by decide)) rfl dX6_succeeds_380 (pc2 := 383) rfl ?_
                        obtain ⟨s19, hp, hf⟩ := bv_some hf
                        refine g_vV hc (k2_copyFrom (by decide) (by decide) hp) co_X6_74 (u3 (by decide)) rfl rfl (by decide) (by decide) (Nat.le_of_ble_eq_true rfl) dX6_succeeds_383 (pc2 := 386) rfl ?_
                        refine g_aload_n (i := 0) hc 5 rfl rfl dX6_succeeds_386 (pc2 := 387) rfl ?_
                        refine g_getr (q := ad κ.1 3 16) hc fo_X6_41 (u0 (by decide)) rfl dX6_succeeds_387 (pc2 := 390) rfl ?_
                        refine g_iload_n (i := 2) hc 4 rfl rfl dX6_succeeds_390 (pc2 := 391) rfl ?_
                        refine g_iload_n (i := 2) hc 4 rfl rfl dX6_succeeds_391 (pc2 := 392) rfl ?_
                        refine g_iload hc 0 rfl dX6_succeeds_392 (pc2 := 394) rfl ?_
                        obtain ⟨r9, s20, hp, hf⟩ := bd_some hf
                        refine g_vI hc (k2_stepsTillDone (by decide) hp) co_X6_236 (u3 (by decide)) rfl rfl (by decide) (by decide) (Nat.le_of_ble_eq_true rfl) dX6_succeeds_394 (pc2 := 397) rfl ?_
                        refine g_iload hc 0 rfl dX6_succeeds_397 (pc2 := 399) rfl ?_
                        refine g_icmp_gt hc 406 (by decide) dX6_succeeds_399 (pc2 := 402) rfl (fun q => ?_) (fun q => ?_)
                        · have hf := ite_t hf q
                          refine g_iconst (v := (0 : Int32)) hc (by decide) dX6_succeeds_406 (pc2 := 407) rfl ?_
                          exact g_iret hc hf hr rfl (by decide) (by decide) dX6_succeeds_407
                        · have hf := ite_f hf q
                          refine g_iconst (v := (1 : Int32)) hc (by decide) dX6_succeeds_402 (pc2 := 403) rfl ?_
                          refine g_goto hc 407 (by decide) dX6_succeeds_403 ?_
                          exact g_iret hc hf hr rfl (by decide) (by decide) dX6_succeeds_407
                      · have hf := ite_t hf q
                        refine g_iconst (v := (0 : Int32)) hc (by decide) dX6_succeeds_373 (pc2 := 374) rfl ?_
                        exact g_iret hc hf hr rfl (by decide) (by decide) dX6_succeeds_374
                  · have hf := ite_f hf q9
                    refine g_tableOut hc 408 ?_ (by decide) dX6_succeeds_47 ?_
                    · have z1 := ne_i q1 (z := 1) (by decide) ; have z2 := ne_i q2 (z := 2) (by decide) ; have z3 := ne_i q3 (z := 3) (by decide) ; have z4 := ne_i q4 (z := 4) (by decide) ; have z5 := ne_i q5 (z := 5) (by decide) ; have z6 := ne_i q6 (z := 6) (by decide) ; have z7 := ne_i q7 (z := 7) (by decide) ; have z8 := ne_i q8 (z := 8) (by decide) ; have z9 := ne_i q9 (z := 9) (by decide) ; omega
                    refine g_iconst (v := (0 : Int32)) hc (by decide) dX6_succeeds_408 (pc2 := 409) rfl ?_
                    exact g_iret hc hf hr rfl (by decide) (by decide) dX6_succeeds_409
def f6_runScript_l50 (a1 : Int32) (a2 : Int64) (k1 : Mem → Option ((Nat ⊕ Int32) × Mem)) : Nat → Int32 → Mem → Option ((Nat ⊕ Int32) × Mem)
  | 0, _, _ => none
  | n1 + 1, m1, s4 => (if a1 ≤ m1 then k1 s4 else bd (f6_withoutGroups a2 ((a1 - (1 : Int32)) - m1) s4) fun r2 s5 => nm ((r2 - r2 / (100000 : Int64) * (100000 : Int64)).toInt32) fun x1 => bd (f6_succeeds x1 s5) fun r3 s6 => (if r3 = (0 : Int32) then some (.inr m1, s6) else nm (m1 + (1 : Int32)) fun x2 => f6_runScript_l50 a1 a2 k1 n1 x2 s6))
def f6_runScript (a1 : Int32) (a2 : Int64) (s0 : Mem) : Option ((Nat ⊕ Int32) × Mem) :=
  (if a1 < (1 : Int32) then some (.inl 0, s0) else (if (3 : Int32) < a1 then some (.inl 0, s0) else (if (lg_cmp a2 (0 : Int64)) < (0 : Int32) then some (.inl 0, s0) else bd (f6_withoutGroups a2 a1 s0) fun r1 s1 => (if (lg_cmp r1 (0 : Int64)) = (0 : Int32) then bv (f2_copyFrom 15 0 s1) fun s2 => nm (fun (s3 : Mem) => some (.inr (-9 : Int32), s3)) fun k1 => f6_runScript_l50 a1 a2 k1 FU (0 : Int32) s2 else some (.inl 0, s1)))))
def rm_6_runScript : Room := { frames := 6, cells := 1, slots := 6, locals := 143 }
set_option maxHeartbeats 4000000 in
set_option maxRecDepth 100000 in
theorem k6_runScript {κ : Kx} {τ : Nat → Int64} {a1 : Int32} {a2 : Int64} {s0 sR : Mem} {rR : Nat ⊕ Int32}  (hf : f6_runScript a1 a2 s0 = some (rR, sR)) : CxI κ yX6_runScript cX6_runScript 6 (some .int) rm_6_runScript (NV κ τ) (NV κ τ) [.ref (ad κ.1 0 0), .int a1, .long a2] s0 sR rR := by
  refine cx_I (by decide +kernel) (Nat.le_of_ble_eq_true rfl) (fun φ hc hr ht => ?_)
  have hc : Cx κ φ RX6 cX6_runScript 6 rm_6_runScript := hc
  show G κ φ (QxI κ φ (NV κ τ) sR rR rm_6_runScript.cells rm_6_runScript.slots) (NV κ τ) 0 0 s0 [(0, .ref (ad κ.1 0 0)), (1, .int a1), (2, .long a2)] 0 []
  unfold f6_runScript at hf
  refine g_iload_n (i := 1) hc 1 rfl rfl dX6_runScript_0 (pc2 := 1) rfl ?_
  refine g_iconst (v := (1 : Int32)) hc (by decide) dX6_runScript_1 (pc2 := 2) rfl ?_
  refine g_icmp_lt hc 26 (by decide) dX6_runScript_2 (pc2 := 5) rfl (fun q => ?_) (fun q => ?_)
  · have hf := ite_t hf q
    exact g_throwI hc hf ht tx_X6_244_48 dX6_runScript_26 dX6_runScript_29 dX6_runScript_30 dX6_runScript_32 dX6_runScript_35 (by decide) (by decide) (by decide)
  · have hf := ite_f hf q
    refine g_iload_n (i := 1) hc 1 rfl rfl dX6_runScript_5 (pc2 := 6) rfl ?_
    refine g_iconst (v := (3 : Int32)) hc (by decide) dX6_runScript_6 (pc2 := 7) rfl ?_
    refine g_icmp_gt hc 26 (by decide) dX6_runScript_7 (pc2 := 10) rfl (fun q => ?_) (fun q => ?_)
    · have hf := ite_t hf q
      exact g_throwI hc hf ht tx_X6_244_48 dX6_runScript_26 dX6_runScript_29 dX6_runScript_30 dX6_runScript_32 dX6_runScript_35 (by decide) (by decide) (by decide)
    · have hf := ite_f hf q
      refine g_lload_n (i := 2) hc 2 rfl rfl dX6_runScript_10 (pc2 := 11) rfl ?_
      refine g_lconst (v := (0 : Int64)) hc (by decide) dX6_runScript_11 (pc2 := 12) rfl ?_
      refine g_lcmp hc dX6_runScript_12 (pc2 := 13) rfl ?_
      refine g_if_lt hc 26 (by decide) dX6_runScript_13 (pc2 := 16) rfl (fun q => ?_) (fun q => ?_)
      · have hf := ite_t hf q
        exact g_throwI hc hf ht tx_X6_244_48 dX6_runScript_26 dX6_runScript_29 dX6_runScript_30 dX6_runScript_32 dX6_runScript_35 (by decide) (by decide) (by decide)
      · have hf := ite_f hf q
        refine g_lload_n (i := 2) hc 2 rfl rfl dX6_runScript_16 (pc2 := 17) rfl ?_
        refine g_iload_n (i := 1) hc 1 rfl rfl dX6_runScript_17 (pc2 := 18) rfl ?_
        obtain ⟨r1, s1, hp, hf⟩ := bd_some hf
        refine g_sL hc (k6_withoutGroups hp) co_X6_240 rfl rfl (by decide) (by decide) (Nat.le_of_ble_eq_true rfl) dX6_runScript_18 (pc2 := 21) rfl ?_
        refine g_lconst (v := (0 : Int64)) hc (by decide) dX6_runScript_21 (pc2 := 22) rfl ?_
        refine g_lcmp hc dX6_runScript_22 (pc2 := 23) rfl ?_
        refine g_if_eq hc 36 (by decide) dX6_runScript_23 (pc2 := 26) rfl (fun q => ?_) (fun q => ?_)
        · have hf := ite_t hf q
          refine g_aload_n (i := 0) hc 0 rfl rfl dX6_runScript_36 (pc2 := 37) rfl ?_
          refine g_getr (q := ad κ.1 3 15) hc fo_X6_38 (u0 (by decide)) rfl dX6_runScript_37 (pc2 := 40) rfl ?_
          refine g_aload_n (i := 0) hc 0 rfl rfl dX6_runScript_40 (pc2 := 41) rfl ?_
          refine g_getr (q := ad κ.1 3 0) hc fo_X6_19 (u0 (by decide)) rfl dX6_runScript_41 (pc2 := 44) rfl ?_
          obtain ⟨s2, hp, hf⟩ := bv_some hf
          refine g_vV hc (k2_copyFrom (by decide) (by decide) hp) co_X6_74 (u3 (by decide)) rfl rfl (by decide) (by decide) (Nat.le_of_ble_eq_true rfl) dX6_runScript_44 (pc2 := 47) rfl ?_
          refine g_iconst (v := (0 : Int32)) hc (by decide) dX6_runScript_47 (pc2 := 48) rfl ?_
          refine g_istore (L1 := [(4, .int (0 : Int32)), (0, .ref (ad κ.1 0 0)), (1, .int a1), (2, .long a2)]) hc (by decide) rfl dX6_runScript_48 (pc2 := 50) rfl ?_
          obtain ⟨k1, hk1, hf⟩ := nm_ex hf
          have Hk1 : ∀ (s3 : Mem), k1 s3 = some (rR, sR) → G κ φ (QxI κ φ (NV κ τ) sR rR rm_6_runScript.cells rm_6_runScript.slots) (NV κ τ) 0 0 s3 [] 91 [] := by
            intro s3 hf
            rw [hk1] at hf
            refine g_bipush (v := (-9 : Int32)) hc (by decide) dX6_runScript_91 (pc2 := 93) rfl ?_
            exact g_xiret hc hf hr rfl (by decide) (by decide) dX6_runScript_93
          have LP_n1 : ∀ (n1 : Nat) (m1 : Int32) (s4 : Mem), f6_runScript_l50 a1 a2 k1 n1 m1 s4 = some (rR, sR) → G κ φ (QxI κ φ (NV κ τ) sR rR rm_6_runScript.cells rm_6_runScript.slots) (NV κ τ) 0 0 s4 [(0, .ref (ad κ.1 0 0)), (1, .int a1), (2, .long a2), (4, .int m1)] 50 [] := by
            intro n1
            induction n1 with
            | zero => intro m1 s4 hf; rw [f6_runScript_l50] at hf; cases hf
            | succ n1 ih_n1 =>
              intro m1 s4 hf
              rw [f6_runScript_l50] at hf
              refine g_iload hc 3 rfl dX6_runScript_50 (pc2 := 52) rfl ?_
              refine g_iload_n (i := 1) hc 1 rfl rfl dX6_runScript_52 (pc2 := 53) rfl ?_
              refine g_icmp_ge hc 91 (by decide) dX6_runScript_53 (pc2 := 56) rfl (fun q => ?_) (fun q => ?_)
              · have hf := ite_t hf q
                refine g_sub [] rfl ?_
                exact Hk1 _ hf
              · have hf := ite_f hf q
                refine g_lload_n (i := 2) hc 2 rfl rfl dX6_runScript_56 (pc2 := 57) rfl ?_
                refine g_iload_n (i := 1) hc 1 rfl rfl dX6_runScript_57 (pc2 := 58) rfl ?_
                refine g_iconst (v := (1 : Int32)) hc (by decide) dX6_runScript_58 (pc2 := 59) rfl ?_
                refine g_isub hc dX6_runScript_59 (pc2 := 60) rfl ?_
                refine g_iload hc 3 rfl dX6_runScript_60 (pc2 := 62) rfl ?_
                refine g_isub hc dX6_runScript_62 (pc2 := 63) rfl ?_
                obtain ⟨r2, s5, hp, hf⟩ := bd_some hf
                refine g_sL hc (k6_withoutGroups hp) co_X6_240 rfl rfl (by decide) (by decide) (Nat.le_of_ble_eq_true rfl) dX6_runScript_63 (pc2 := 66) rfl ?_
                refine g_ldc2 (v := (100000 : Int64)) hc (gwm 851 (by decide +kernel) (by decide +kernel)) dX6_runScript_66 (pc2 := 69) rfl ?_
                refine g_lrem hc (by decide) dX6_runScript_69 (pc2 := 70) rfl ?_
                refine g_l2i hc dX6_runScript_70 (pc2 := 71) rfl ?_
                obtain ⟨x1, hx1, hf⟩ := nm_ex hf
                refine g_nmi hx1 ?_
                refine g_istore (L1 := [(5, .int x1), (0, .ref (ad κ.1 0 0)), (1, .int a1), (2, .long a2), (4, .int m1)]) hc (by decide) rfl dX6_runScript_71 (pc2 := 73) rfl ?_
                refine g_aload_n (i := 0) hc 1 rfl rfl dX6_runScript_73 (pc2 := 74) rfl ?_
                refine g_iload hc 0 rfl dX6_runScript_74 (pc2 := 76) rfl ?_
                obtain ⟨r3, s6, hp, hf⟩ := bd_some hf
                refine g_vI hc (k6_succeeds hp) co_X6_248 (u0 (by decide)) rfl rfl (by decide) (by decide) (Nat.le_of_ble_eq_true rfl) dX6_runScript_76 (pc2 := 79) rfl ?_
                refine g_if_ne hc 85 (by decide) dX6_runScript_79 (pc2 := 82) rfl (fun q => ?_) (fun q => ?_)
                · have hf := ite_f hf q
                  obtain ⟨x2, hx2, hf⟩ := nm_ex hf
                  refine g_iinc (v := x2) (L1 := [(4, .int x2), (5, .int x1), (0, .ref (ad κ.1 0 0)), (1, .int a1), (2, .long a2)]) hc 4 rfl (by rw [hx2]; rfl) (by decide) rfl dX6_runScript_85 (pc2 := 88) rfl ?_
                  refine g_goto hc 50 (by decide) dX6_runScript_88 ?_
                  refine g_sub [2, 3, 4, 0] rfl ?_
                  exact ih_n1 _ _ hf
                · have hf := ite_t hf q
                  refine g_iload hc 4 rfl dX6_runScript_82 (pc2 := 84) rfl ?_
                  exact g_xiret hc hf hr rfl (by decide) (by decide) dX6_runScript_84
          refine g_sub [1, 2, 3, 0] rfl ?_
          exact LP_n1 _ _ _ hf
        · have hf := ite_f hf q
          exact g_throwI hc hf ht tx_X6_244_48 dX6_runScript_26 dX6_runScript_29 dX6_runScript_30 dX6_runScript_32 dX6_runScript_35 (by decide) (by decide) (by decide)
def f6_drawBurst (a1 : Int32) (s0 : Mem) : Option Mem :=
  (if a1 < (0 : Int32) then some s0 else (if (a1 - a1 / (3 : Int32) * (3 : Int32)) = (0 : Int32) then (if (1 : Int32) ≤ (s0 30 15 0) then gd (nz (s0 30 15 0)) (gd (ib ((a1 / (4 : Int32)) - (a1 / (4 : Int32)) / (s0 30 15 0) * (s0 30 15 0)) 6) (bd (f5_takesBursts (6 * 15 + ((a1 / (4 : Int32)) - (a1 / (4 : Int32)) / (s0 30 15 0) * (s0 30 15 0)).toNatClampNeg) s0) fun r1 s1 => (if r1 = (0 : Int32) then some s1 else nm (fun (y1 : Int32) (s2 : Mem) => bv (f1_add (6 * 15 + ((a1 / (4 : Int32)) - (a1 / (4 : Int32)) / (s0 30 15 0) * (s0 30 15 0)).toNatClampNeg) ((a1 / (64 : Int32)) - (a1 / (64 : Int32)) / (4 : Int32) * (4 : Int32)) ((1 : Int32) + ((a1 / (256 : Int32)) - (a1 / (256 : Int32)) / (8 : Int32) * (8 : Int32))) y1 s2) fun s3 => some s3) fun j1 => (if ((a1 / (2048 : Int32)) - (a1 / (2048 : Int32)) / (2 : Int32) * (2 : Int32)) = (1 : Int32) then j1 (1 : Int32) s1 else j1 (0 : Int32) s1)))) else some s0) else some s0))
def rm_6_drawBurst : Room := { frames := 2, cells := 0, slots := 0, locals := 40 }
set_option maxHeartbeats 4000000 in
set_option maxRecDepth 100000 in
theorem k6_drawBurst {κ : Kx} {τ : Nat → Int64} {a1 : Int32} {s0 sR : Mem}  (hf : f6_drawBurst a1 s0 = some sR) : CtV κ yX6_drawBurst cX6_drawBurst 3 none rm_6_drawBurst (NV κ τ) (NV κ τ) [.ref (ad κ.1 0 0), .int a1] s0 sR := by
  refine ct_V (by decide +kernel) (Nat.le_of_ble_eq_true rfl) (fun φ hc hr => ?_)
  have hc : Cx κ φ RX6 cX6_drawBurst 3 rm_6_drawBurst := hc
  show G κ φ (QV κ φ (NV κ τ) sR rm_6_drawBurst.cells rm_6_drawBurst.slots) (NV κ τ) 0 0 s0 [(0, .ref (ad κ.1 0 0)), (1, .int a1)] 0 []
  unfold f6_drawBurst at hf
  refine g_iload_n (i := 1) hc 1 rfl rfl dX6_drawBurst_0 (pc2 := 1) rfl ?_
  refine g_if_lt hc 21 (by decide) dX6_drawBurst_1 (pc2 := 4) rfl (fun q => ?_) (fun q => ?_)
  · have hf := ite_t hf q
    exact g_vret hc hf hr (by decide) (by decide) dX6_drawBurst_21
  · have hf := ite_f hf q
    refine g_iload_n (i := 1) hc 1 rfl rfl dX6_drawBurst_4 (pc2 := 5) rfl ?_
    refine g_iconst (v := (3 : Int32)) hc (by decide) dX6_drawBurst_5 (pc2 := 6) rfl ?_
    refine g_irem hc (by decide) dX6_drawBurst_6 (pc2 := 7) rfl ?_
    refine g_if_ne hc 21 (by decide) dX6_drawBurst_7 (pc2 := 10) rfl (fun q => ?_) (fun q => ?_)
    · have hf := ite_f hf q
      exact g_vret hc hf hr (by decide) (by decide) dX6_drawBurst_21
    · have hf := ite_t hf q
      refine g_aload_n (i := 0) hc 0 rfl rfl dX6_drawBurst_10 (pc2 := 11) rfl ?_
      refine g_getr (q := ad κ.1 3 15) hc fo_X6_38 (u0 (by decide)) rfl dX6_drawBurst_11 (pc2 := 14) rfl ?_
      refine g_geti hc fo_X6_83 (u3 (by decide)) dX6_drawBurst_14 (pc2 := 17) rfl ?_
      refine g_iconst (v := (1 : Int32)) hc (by decide) dX6_drawBurst_17 (pc2 := 18) rfl ?_
      refine g_icmp_ge hc 22 (by decide) dX6_drawBurst_18 (pc2 := 21) rfl (fun q => ?_) (fun q => ?_)
      · have hf := ite_t hf q
        refine g_aload_n (i := 0) hc 0 rfl rfl dX6_drawBurst_22 (pc2 := 23) rfl ?_
        refine g_getr (q := ad κ.1 3 15) hc fo_X6_38 (u0 (by decide)) rfl dX6_drawBurst_23 (pc2 := 26) rfl ?_
        refine g_getr (q := ad κ.1 6 15) hc fo_X6_117 (u3 (by decide)) rfl dX6_drawBurst_26 (pc2 := 29) rfl ?_
        refine g_iload_n (i := 1) hc 1 rfl rfl dX6_drawBurst_29 (pc2 := 30) rfl ?_
        refine g_iconst (v := (4 : Int32)) hc (by decide) dX6_drawBurst_30 (pc2 := 31) rfl ?_
        refine g_idiv hc (by decide) dX6_drawBurst_31 (pc2 := 32) rfl ?_
        refine g_aload_n (i := 0) hc 0 rfl rfl dX6_drawBurst_32 (pc2 := 33) rfl ?_
        refine g_getr (q := ad κ.1 3 15) hc fo_X6_38 (u0 (by decide)) rfl dX6_drawBurst_33 (pc2 := 36) rfl ?_
        refine g_geti hc fo_X6_83 (u3 (by decide)) dX6_drawBurst_36 (pc2 := 39) rfl ?_
        obtain ⟨hg1, hf⟩ := gd_some hf
        refine g_irem hc (nz_of hg1) dX6_drawBurst_39 (pc2 := 40) rfl ?_
        obtain ⟨hg2, hf⟩ := gd_some hf
        have ihg2 := ib_lt hg2
        refine g_aldr (q := ad κ.1 7 (6 * 15 + ((a1 / (4 : Int32)) - (a1 / (4 : Int32)) / (s0 30 15 0) * (s0 30 15 0)).toNatClampNeg)) hc 6 15 (by decide) (by decide) (u6 (by decide)) hg2 rfl dX6_drawBurst_40 (pc2 := 41) rfl ?_
        refine g_astore_n (i := 2) (L1 := [(2, .ref (ad κ.1 7 (6 * 15 + ((a1 / (4 : Int32)) - (a1 / (4 : Int32)) / (s0 30 15 0) * (s0 30 15 0)).toNatClampNeg))), (0, .ref (ad κ.1 0 0)), (1, .int a1)]) hc rfl (by decide) rfl dX6_drawBurst_41 (pc2 := 42) rfl ?_
        refine g_aload_n (i := 2) hc 0 rfl rfl dX6_drawBurst_42 (pc2 := 43) rfl ?_
        obtain ⟨r1, s1, hp, hf⟩ := bd_some hf
        refine g_vI hc (k5_takesBursts (by omega) hp) co_X6_217 (u7 (by omega)) rfl rfl (by decide) (by decide) (Nat.le_of_ble_eq_true rfl) dX6_drawBurst_43 (pc2 := 46) rfl ?_
        refine g_if_eq hc 88 (by decide) dX6_drawBurst_46 (pc2 := 49) rfl (fun q => ?_) (fun q => ?_)
        · have hf := ite_t hf q
          exact g_vret hc hf hr (by decide) (by decide) dX6_drawBurst_88
        · have hf := ite_f hf q
          refine g_aload_n (i := 2) hc 0 rfl rfl dX6_drawBurst_49 (pc2 := 50) rfl ?_
          refine g_getr (q := ad κ.1 9 (6 * 15 + ((a1 / (4 : Int32)) - (a1 / (4 : Int32)) / (s0 30 15 0) * (s0 30 15 0)).toNatClampNeg)) hc fo_X6_133 (u7 (by omega)) rfl dX6_drawBurst_50 (pc2 := 53) rfl ?_
          refine g_iload_n (i := 1) hc 2 rfl rfl dX6_drawBurst_53 (pc2 := 54) rfl ?_
          refine g_bipush (v := (64 : Int32)) hc (by decide) dX6_drawBurst_54 (pc2 := 56) rfl ?_
          refine g_idiv hc (by decide) dX6_drawBurst_56 (pc2 := 57) rfl ?_
          refine g_iconst (v := (4 : Int32)) hc (by decide) dX6_drawBurst_57 (pc2 := 58) rfl ?_
          refine g_irem hc (by decide) dX6_drawBurst_58 (pc2 := 59) rfl ?_
          refine g_iconst (v := (1 : Int32)) hc (by decide) dX6_drawBurst_59 (pc2 := 60) rfl ?_
          refine g_iload_n (i := 1) hc 2 rfl rfl dX6_drawBurst_60 (pc2 := 61) rfl ?_
          refine g_sipush (v := (256 : Int32)) hc (by decide) dX6_drawBurst_61 (pc2 := 64) rfl ?_
          refine g_idiv hc (by decide) dX6_drawBurst_64 (pc2 := 65) rfl ?_
          refine g_bipush (v := (8 : Int32)) hc (by decide) dX6_drawBurst_65 (pc2 := 67) rfl ?_
          refine g_irem hc (by decide) dX6_drawBurst_67 (pc2 := 68) rfl ?_
          refine g_iadd hc dX6_drawBurst_68 (pc2 := 69) rfl ?_
          refine g_iload_n (i := 1) hc 2 rfl rfl dX6_drawBurst_69 (pc2 := 70) rfl ?_
          refine g_sipush (v := (2048 : Int32)) hc (by decide) dX6_drawBurst_70 (pc2 := 73) rfl ?_
          refine g_idiv hc (by decide) dX6_drawBurst_73 (pc2 := 74) rfl ?_
          refine g_iconst (v := (2 : Int32)) hc (by decide) dX6_drawBurst_74 (pc2 := 75) rfl ?_
          refine g_irem hc (by decide) dX6_drawBurst_75 (pc2 := 76) rfl ?_
          refine g_iconst (v := (1 : Int32)) hc (by decide) dX6_drawBurst_76 (pc2 := 77) rfl ?_
          obtain ⟨j1, hj1, hf⟩ := nm_ex hf
          have Hj1 : ∀ (y1 : Int32) (s2 : Mem), j1 y1 s2 = some sR → G κ φ (QV κ φ (NV κ τ) sR rm_6_drawBurst.cells rm_6_drawBurst.slots) (NV κ τ) 0 0 s2 [] 85 [.int y1, .int ((1 : Int32) + ((a1 / (256 : Int32)) - (a1 / (256 : Int32)) / (8 : Int32) * (8 : Int32))), .int ((a1 / (64 : Int32)) - (a1 / (64 : Int32)) / (4 : Int32) * (4 : Int32)), .ref (ad κ.1 9 (6 * 15 + ((a1 / (4 : Int32)) - (a1 / (4 : Int32)) / (s0 30 15 0) * (s0 30 15 0)).toNatClampNeg))] := by
            intro y1 s2 hf
            rw [hj1] at hf
            obtain ⟨s3, hp, hf⟩ := bv_some hf
            refine g_vV hc (k1_add (by omega) hp) co_X6_222 (u9 (by omega)) rfl rfl (by decide) (by decide) (Nat.le_of_ble_eq_true rfl) dX6_drawBurst_85 (pc2 := 88) rfl ?_
            exact g_vret hc hf hr (by decide) (by decide) dX6_drawBurst_88
          refine g_icmp_ne hc 84 (by decide) dX6_drawBurst_77 (pc2 := 80) rfl (fun q => ?_) (fun q => ?_)
          · have hf := ite_f hf q
            refine g_iconst (v := (0 : Int32)) hc (by decide) dX6_drawBurst_84 (pc2 := 85) rfl ?_
            refine g_sub [] rfl ?_
            exact Hj1 _ _ hf
          · have hf := ite_t hf q
            refine g_iconst (v := (1 : Int32)) hc (by decide) dX6_drawBurst_80 (pc2 := 81) rfl ?_
            refine g_goto hc 85 (by decide) dX6_drawBurst_81 ?_
            refine g_sub [] rfl ?_
            exact Hj1 _ _ hf
      · have hf := ite_f hf q
        exact g_vret hc hf hr (by decide) (by decide) dX6_drawBurst_21
def f6_simulate_l48 (a2 : Int32) (k1 : Mem → Option ((Nat ⊕ Int32) × Mem)) : Nat → Int64 → Int32 → Mem → Option ((Nat ⊕ Int32) × Mem)
  | 0, _, _, _ => none
  | n1 + 1, m1, m2, s6 => (if a2 ≤ m2 then k1 s6 else nm ((m1 * (6364136223846793005 : Int64)) + (1442695040888963407 : Int64)) fun x2 => bv (f6_drawBurst (((x2.toUInt64 >>> ((33 : Int32).toInt64.toUInt64 &&& Int64.toUInt64 63)).toInt64).toInt32) s6) fun s7 => bv (f2_step 15 s7) fun s8 => nm (m2 + (1 : Int32)) fun x3 => f6_simulate_l48 a2 k1 n1 x2 x3 s8)
def f6_simulate (a1 : Int64) (a2 : Int32) (s0 : Mem) : Option ((Nat ⊕ Int32) × Mem) :=
  (if a2 < (1 : Int32) then some (.inl 0, s0) else (if a2 ≤ (200 : Int32) then bv (f2_copyFrom 15 0 s0) fun s1 => nm (s1 33 15 0) fun x1 => nm (fun (s2 : Mem) => bd (f2_waitingBursts 15 s2) fun r1 s3 => bd (f2_bankruptBits 15 s3) fun r2 s4 => bd (fJ_bitCount r2 s4) fun r3 s5 => some (.inr ((((1000 : Int32) * ((s2 33 15 0) - x1)) + ((10 : Int32) * r1)) + r3), s5)) fun k1 => f6_simulate_l48 a2 k1 FU a1 (0 : Int32) s1 else some (.inl 0, s0)))
def rm_6_simulate : Room := { frames := 6, cells := 1, slots := 6, locals := 100 }
set_option maxHeartbeats 4000000 in
set_option maxRecDepth 100000 in
theorem k6_simulate {κ : Kx} {τ : Nat → Int64} {a1 : Int64} {a2 : Int32} {s0 sR : Mem} {rR : Nat ⊕ Int32}  (hf : f6_simulate a1 a2 s0 = some (rR, sR)) : CxI κ yX6_simulate cX6_simulate 8 (some .int) rm_6_simulate (NV κ τ) (NV κ τ) [.ref (ad κ.1 0 0), .long a1, .int a2] s0 sR rR := by
  refine cx_I (by decide +kernel) (Nat.le_of_ble_eq_true rfl) (fun φ hc hr ht => ?_)
  have hc : Cx κ φ RX6 cX6_simulate 8 rm_6_simulate := hc
  show G κ φ (QxI κ φ (NV κ τ) sR rR rm_6_simulate.cells rm_6_simulate.slots) (NV κ τ) 0 0 s0 [(0, .ref (ad κ.1 0 0)), (1, .long a1), (3, .int a2)] 0 []
  unfold f6_simulate at hf
  refine g_iload_n (i := 3) hc 2 rfl rfl dX6_simulate_0 (pc2 := 1) rfl ?_
  refine g_iconst (v := (1 : Int32)) hc (by decide) dX6_simulate_1 (pc2 := 2) rfl ?_
  refine g_icmp_lt hc 12 (by decide) dX6_simulate_2 (pc2 := 5) rfl (fun q => ?_) (fun q => ?_)
  · have hf := ite_t hf q
    exact g_throwI hc hf ht tx_X6_225_48 dX6_simulate_12 dX6_simulate_15 dX6_simulate_16 dX6_simulate_18 dX6_simulate_21 (by decide) (by decide) (by decide)
  · have hf := ite_f hf q
    refine g_iload_n (i := 3) hc 2 rfl rfl dX6_simulate_5 (pc2 := 6) rfl ?_
    refine g_sipush (v := (200 : Int32)) hc (by decide) dX6_simulate_6 (pc2 := 9) rfl ?_
    refine g_icmp_le hc 22 (by decide) dX6_simulate_9 (pc2 := 12) rfl (fun q => ?_) (fun q => ?_)
    · have hf := ite_t hf q
      refine g_aload_n (i := 0) hc 0 rfl rfl dX6_simulate_22 (pc2 := 23) rfl ?_
      refine g_getr (q := ad κ.1 3 15) hc fo_X6_38 (u0 (by decide)) rfl dX6_simulate_23 (pc2 := 26) rfl ?_
      refine g_aload_n (i := 0) hc 0 rfl rfl dX6_simulate_26 (pc2 := 27) rfl ?_
      refine g_getr (q := ad κ.1 3 0) hc fo_X6_19 (u0 (by decide)) rfl dX6_simulate_27 (pc2 := 30) rfl ?_
      obtain ⟨s1, hp, hf⟩ := bv_some hf
      refine g_vV hc (k2_copyFrom (by decide) (by decide) hp) co_X6_74 (u3 (by decide)) rfl rfl (by decide) (by decide) (Nat.le_of_ble_eq_true rfl) dX6_simulate_30 (pc2 := 33) rfl ?_
      refine g_aload_n (i := 0) hc 0 rfl rfl dX6_simulate_33 (pc2 := 34) rfl ?_
      refine g_getr (q := ad κ.1 3 15) hc fo_X6_38 (u0 (by decide)) rfl dX6_simulate_34 (pc2 := 37) rfl ?_
      refine g_geti hc fo_X6_93 (u3 (by decide)) dX6_simulate_37 (pc2 := 40) rfl ?_
      obtain ⟨x1, hx1, hf⟩ := nm_ex hf
      refine g_nmi hx1 ?_
      refine g_istore (L1 := [(4, .int x1), (0, .ref (ad κ.1 0 0)), (1, .long a1), (3, .int a2)]) hc (by decide) rfl dX6_simulate_40 (pc2 := 42) rfl ?_
      refine g_lload_n (i := 1) hc 2 rfl rfl dX6_simulate_42 (pc2 := 43) rfl ?_
      refine g_lstore (L1 := [(5, .long a1), (4, .int x1), (0, .ref (ad κ.1 0 0)), (1, .long a1), (3, .int a2)]) hc (by decide) rfl dX6_simulate_43 (pc2 := 45) rfl ?_
      refine g_iconst (v := (0 : Int32)) hc (by decide) dX6_simulate_45 (pc2 := 46) rfl ?_
      refine g_istore (L1 := [(7, .int (0 : Int32)), (5, .long a1), (4, .int x1), (0, .ref (ad κ.1 0 0)), (1, .long a1), (3, .int a2)]) hc (by decide) rfl dX6_simulate_46 (pc2 := 48) rfl ?_
      obtain ⟨k1, hk1, hf⟩ := nm_ex hf
      have Hk1 : ∀ (s2 : Mem), k1 s2 = some (rR, sR) → G κ φ (QxI κ φ (NV κ τ) sR rR rm_6_simulate.cells rm_6_simulate.slots) (NV κ τ) 0 0 s2 [(0, .ref (ad κ.1 0 0)), (4, .int x1)] 89 [] := by
        intro s2 hf
        rw [hk1] at hf
        refine g_sipush (v := (1000 : Int32)) hc (by decide) dX6_simulate_89 (pc2 := 92) rfl ?_
        refine g_aload_n (i := 0) hc 0 rfl rfl dX6_simulate_92 (pc2 := 93) rfl ?_
        refine g_getr (q := ad κ.1 3 15) hc fo_X6_38 (u0 (by decide)) rfl dX6_simulate_93 (pc2 := 96) rfl ?_
        refine g_geti hc fo_X6_93 (u3 (by decide)) dX6_simulate_96 (pc2 := 99) rfl ?_
        refine g_iload hc 1 rfl dX6_simulate_99 (pc2 := 101) rfl ?_
        refine g_isub hc dX6_simulate_101 (pc2 := 102) rfl ?_
        refine g_imul hc dX6_simulate_102 (pc2 := 103) rfl ?_
        refine g_bipush (v := (10 : Int32)) hc (by decide) dX6_simulate_103 (pc2 := 105) rfl ?_
        refine g_aload_n (i := 0) hc 0 rfl rfl dX6_simulate_105 (pc2 := 106) rfl ?_
        refine g_getr (q := ad κ.1 3 15) hc fo_X6_38 (u0 (by decide)) rfl dX6_simulate_106 (pc2 := 109) rfl ?_
        obtain ⟨r1, s3, hp, hf⟩ := bd_some hf
        refine g_vI hc (k2_waitingBursts (by decide) hp) co_X6_80 (u3 (by decide)) rfl rfl (by decide) (by decide) (Nat.le_of_ble_eq_true rfl) dX6_simulate_109 (pc2 := 112) rfl ?_
        refine g_imul hc dX6_simulate_112 (pc2 := 113) rfl ?_
        refine g_iadd hc dX6_simulate_113 (pc2 := 114) rfl ?_
        refine g_aload_n (i := 0) hc 0 rfl rfl dX6_simulate_114 (pc2 := 115) rfl ?_
        refine g_getr (q := ad κ.1 3 15) hc fo_X6_38 (u0 (by decide)) rfl dX6_simulate_115 (pc2 := 118) rfl ?_
        obtain ⟨r2, s4, hp, hf⟩ := bd_some hf
        refine g_vI hc (k2_bankruptBits (by decide) hp) co_X6_108 (u3 (by decide)) rfl rfl (by decide) (by decide) (Nat.le_of_ble_eq_true rfl) dX6_simulate_118 (pc2 := 121) rfl ?_
        obtain ⟨r3, s5, hp, hf⟩ := bd_some hf
        refine g_sI hc (kJ_bitCount hp) co_X6_262 rfl rfl (by decide) (by decide) (Nat.le_of_ble_eq_true rfl) dX6_simulate_121 (pc2 := 124) rfl ?_
        refine g_iadd hc dX6_simulate_124 (pc2 := 125) rfl ?_
        exact g_xiret hc hf hr rfl (by decide) (by decide) dX6_simulate_125
      have LP_n1 : ∀ (n1 : Nat) (m1 : Int64) (m2 : Int32) (s6 : Mem), f6_simulate_l48 a2 k1 n1 m1 m2 s6 = some (rR, sR) → G κ φ (QxI κ φ (NV κ τ) sR rR rm_6_simulate.cells rm_6_simulate.slots) (NV κ τ) 0 0 s6 [(0, .ref (ad κ.1 0 0)), (3, .int a2), (4, .int x1), (5, .long m1), (7, .int m2)] 48 [] := by
        intro n1
        induction n1 with
        | zero => intro m1 m2 s6 hf; rw [f6_simulate_l48] at hf; cases hf
        | succ n1 ih_n1 =>
          intro m1 m2 s6 hf
          rw [f6_simulate_l48] at hf
          refine g_iload hc 4 rfl dX6_simulate_48 (pc2 := 50) rfl ?_
          refine g_iload_n (i := 3) hc 1 rfl rfl dX6_simulate_50 (pc2 := 51) rfl ?_
          refine g_icmp_ge hc 89 (by decide) dX6_simulate_51 (pc2 := 54) rfl (fun q => ?_) (fun q => ?_)
          · have hf := ite_t hf q
            refine g_sub [0, 2] rfl ?_
            exact Hk1 _ hf
          · have hf := ite_f hf q
            refine g_lload hc 3 rfl dX6_simulate_54 (pc2 := 56) rfl ?_
            refine g_ldc2 (v := (6364136223846793005 : Int64)) hc (gwm 876 (by decide +kernel) (by decide +kernel)) dX6_simulate_56 (pc2 := 59) rfl ?_
            refine g_lmul hc dX6_simulate_59 (pc2 := 60) rfl ?_
            refine g_ldc2 (v := (1442695040888963407 : Int64)) hc (gwm 877 (by decide +kernel) (by decide +kernel)) dX6_simulate_60 (pc2 := 63) rfl ?_
            refine g_ladd hc dX6_simulate_63 (pc2 := 64) rfl ?_
            obtain ⟨x2, hx2, hf⟩ := nm_ex hf
            refine g_nml hx2 ?_
            refine g_lstore (L1 := [(5, .long x2), (0, .ref (ad κ.1 0 0)), (3, .int a2), (4, .int x1), (7, .int m2)]) hc (by decide) rfl dX6_simulate_64 (pc2 := 66) rfl ?_
            refine g_aload_n (i := 0) hc 1 rfl rfl dX6_simulate_66 (pc2 := 67) rfl ?_
            refine g_lload hc 0 rfl dX6_simulate_67 (pc2 := 69) rfl ?_
            refine g_bipush (v := (33 : Int32)) hc (by decide) dX6_simulate_69 (pc2 := 71) rfl ?_
            refine g_lushr hc dX6_simulate_71 (pc2 := 72) rfl ?_
            refine g_l2i hc dX6_simulate_72 (pc2 := 73) rfl ?_
            obtain ⟨s7, hp, hf⟩ := bv_some hf
            refine g_vV hc (k6_drawBurst hp) co_X6_256 (u0 (by decide)) rfl rfl (by decide) (by decide) (Nat.le_of_ble_eq_true rfl) dX6_simulate_73 (pc2 := 76) rfl ?_
            refine g_aload_n (i := 0) hc 1 rfl rfl dX6_simulate_76 (pc2 := 77) rfl ?_
            refine g_getr (q := ad κ.1 3 15) hc fo_X6_38 (u0 (by decide)) rfl dX6_simulate_77 (pc2 := 80) rfl ?_
            obtain ⟨s8, hp, hf⟩ := bv_some hf
            refine g_vV hc (k2_step (by decide) hp) co_X6_259 (u3 (by decide)) rfl rfl (by decide) (by decide) (Nat.le_of_ble_eq_true rfl) dX6_simulate_80 (pc2 := 83) rfl ?_
            obtain ⟨x3, hx3, hf⟩ := nm_ex hf
            refine g_iinc (v := x3) (L1 := [(7, .int x3), (5, .long x2), (0, .ref (ad κ.1 0 0)), (3, .int a2), (4, .int x1)]) hc 4 rfl (by rw [hx3]; rfl) (by decide) rfl dX6_simulate_83 (pc2 := 86) rfl ?_
            refine g_goto hc 48 (by decide) dX6_simulate_86 ?_
            refine g_sub [2, 3, 4, 1, 0] rfl ?_
            exact ih_n1 _ _ _ hf
      refine g_sub [3, 5, 2, 1, 0] rfl ?_
      exact LP_n1 _ _ _ _ hf
    · have hf := ite_f hf q
      exact g_throwI hc hf ht tx_X6_225_48 dX6_simulate_12 dX6_simulate_15 dX6_simulate_16 dX6_simulate_18 dX6_simulate_21 (by decide) (by decide) (by decide)
def f6_needSaveSlot (a1 : Int32) (s0 : Mem) : Option ((Nat ⊕ Unit) × Mem) :=
  (if a1 < (0 : Int32) then some (.inl 2, s0) else (if a1 < (2 : Int32) then some (.inr (), s0) else some (.inl 2, s0)))
def rm_6_needSaveSlot : Room := { frames := 6, cells := 1, slots := 6, locals := 100 }
set_option maxHeartbeats 4000000 in
set_option maxRecDepth 100000 in
theorem k6_needSaveSlot {κ : Kx} {τ : Nat → Int64} {a1 : Int32} {s0 sR : Mem} {rR : Nat ⊕ Unit}  (hf : f6_needSaveSlot a1 s0 = some (rR, sR)) : CxV κ yX6_needSaveSlot cX6_needSaveSlot 2 none rm_6_needSaveSlot (NV κ τ) (NV κ τ) [.ref (ad κ.1 0 0), .int a1] s0 sR rR := by
  refine cx_V (by decide +kernel) (Nat.le_of_ble_eq_true rfl) (fun φ hc hr ht => ?_)
  have hc : Cx κ φ RX6 cX6_needSaveSlot 2 rm_6_needSaveSlot := hc
  show G κ φ (QxV κ φ (NV κ τ) sR rR rm_6_needSaveSlot.cells rm_6_needSaveSlot.slots) (NV κ τ) 0 0 s0 [(0, .ref (ad κ.1 0 0)), (1, .int a1)] 0 []
  unfold f6_needSaveSlot at hf
  refine g_iload_n (i := 1) hc 1 rfl rfl dX6_needSaveSlot_0 (pc2 := 1) rfl ?_
  refine g_if_lt hc 9 (by decide) dX6_needSaveSlot_1 (pc2 := 4) rfl (fun q => ?_) (fun q => ?_)
  · have hf := ite_t hf q
    exact g_throwWV hc hf ht tx_X6_287_279 dX6_needSaveSlot_9 dX6_needSaveSlot_12 dX6_needSaveSlot_13 dX6_needSaveSlot_16 dX6_needSaveSlot_19 (by decide) (by decide) (by decide)
  · have hf := ite_f hf q
    refine g_iload_n (i := 1) hc 1 rfl rfl dX6_needSaveSlot_4 (pc2 := 5) rfl ?_
    refine g_iconst (v := (2 : Int32)) hc (by decide) dX6_needSaveSlot_5 (pc2 := 6) rfl ?_
    refine g_icmp_lt hc 20 (by decide) dX6_needSaveSlot_6 (pc2 := 9) rfl (fun q => ?_) (fun q => ?_)
    · have hf := ite_t hf q
      exact g_xvret hc hf hr (by decide) (by decide) dX6_needSaveSlot_20
    · have hf := ite_f hf q
      exact g_throwWV hc hf ht tx_X6_287_279 dX6_needSaveSlot_9 dX6_needSaveSlot_12 dX6_needSaveSlot_13 dX6_needSaveSlot_16 dX6_needSaveSlot_19 (by decide) (by decide) (by decide)
def f6_save (a1 : Int32) (s0 : Mem) : Option ((Nat ⊕ Int32) × Mem) :=
  bx (f6_needSaveSlot a1 s0) (fun e s1 => some (.inl e, s1)) fun _ s1 => gd (ib a1 2) (bv (f2_copyFrom (a1.toNatClampNeg + 17) 0 s1) fun s2 => gd (ib a1 2) (nm (ms s2 18 0 a1.toNatClampNeg (zb (1 : Int32))) fun s3 => some (.inr (s3 32 0 0), s3)))
def rm_6_save : Room := { frames := 7, cells := 1, slots := 6, locals := 121 }
set_option maxHeartbeats 4000000 in
set_option maxRecDepth 100000 in
theorem k6_save {κ : Kx} {τ : Nat → Int64} {a1 : Int32} {s0 sR : Mem} {rR : Nat ⊕ Int32}  (hf : f6_save a1 s0 = some (rR, sR)) : CxI κ yX6_save cX6_save 2 (some .int) rm_6_save (NV κ τ) (NV κ τ) [.ref (ad κ.1 0 0), .int a1] s0 sR rR := by
  refine cx_I (by decide +kernel) (Nat.le_of_ble_eq_true rfl) (fun φ hc hr ht => ?_)
  have hc : Cx κ φ RX6 cX6_save 2 rm_6_save := hc
  show G κ φ (QxI κ φ (NV κ τ) sR rR rm_6_save.cells rm_6_save.slots) (NV κ τ) 0 0 s0 [(0, .ref (ad κ.1 0 0)), (1, .int a1)] 0 []
  unfold f6_save at hf
  refine g_aload_n (i := 0) hc 0 rfl rfl dX6_save_0 (pc2 := 1) rfl ?_
  refine g_iload_n (i := 1) hc 1 rfl rfl dX6_save_1 (pc2 := 2) rfl ?_
  obtain ⟨r1, s1, hp, hf⟩ := bx_some hf
  refine g_vxV hc (k6_needSaveSlot hp) co_X6_267 (u0 (by decide)) rfl rfl (by decide) (by decide) (Nat.le_of_ble_eq_true rfl) dX6_save_2 (pc2 := 5) rfl (fun q hq => ?_) (fun hq => ?_)
  · subst hq
    exact gx_outI hc hf ht (by decide) (by decide)
  · subst hq
    refine g_aload_n (i := 0) hc 0 rfl rfl dX6_save_5 (pc2 := 6) rfl ?_
    refine g_getr (q := ad κ.1 17 0) hc fo_X6_30 (u0 (by decide)) rfl dX6_save_6 (pc2 := 9) rfl ?_
    refine g_iload_n (i := 1) hc 1 rfl rfl dX6_save_9 (pc2 := 10) rfl ?_
    obtain ⟨hg1, hf⟩ := gd_some hf
    have ihg1 := ib_lt hg1
    refine g_aldr (q := ad κ.1 3 (a1.toNatClampNeg + 17)) hc 17 0 (by decide) (by decide) (u17 (by decide)) hg1 rfl dX6_save_10 (pc2 := 11) rfl ?_
    refine g_aload_n (i := 0) hc 0 rfl rfl dX6_save_11 (pc2 := 12) rfl ?_
    refine g_getr (q := ad κ.1 3 0) hc fo_X6_19 (u0 (by decide)) rfl dX6_save_12 (pc2 := 15) rfl ?_
    obtain ⟨s2, hp, hf⟩ := bv_some hf
    refine g_vV hc (k2_copyFrom (by omega) (by decide) hp) co_X6_74 (u3 (by omega)) rfl rfl (by decide) (by decide) (Nat.le_of_ble_eq_true rfl) dX6_save_15 (pc2 := 18) rfl ?_
    refine g_aload_n (i := 0) hc 0 rfl rfl dX6_save_18 (pc2 := 19) rfl ?_
    refine g_getr (q := ad κ.1 18 0) hc fo_X6_34 (u0 (by decide)) rfl dX6_save_19 (pc2 := 22) rfl ?_
    refine g_iload_n (i := 1) hc 1 rfl rfl dX6_save_22 (pc2 := 23) rfl ?_
    refine g_iconst (v := (1 : Int32)) hc (by decide) dX6_save_23 (pc2 := 24) rfl ?_
    obtain ⟨hg2, hf⟩ := gd_some hf
    obtain ⟨s3, hs3, hf⟩ := nm_ex hf
    refine g_astz hc 18 0 rfl (u18 (by decide)) hg2 dX6_save_24 (pc2 := 25) rfl ?_
    refine g_nms hs3 ?_
    refine g_aload_n (i := 0) hc 0 rfl rfl dX6_save_25 (pc2 := 26) rfl ?_
    refine g_getr (q := ad κ.1 3 0) hc fo_X6_19 (u0 (by decide)) rfl dX6_save_26 (pc2 := 29) rfl ?_
    refine g_geti hc fo_X6_90 (u3 (by decide)) dX6_save_29 (pc2 := 32) rfl ?_
    exact g_xiret hc hf hr rfl (by decide) (by decide) dX6_save_32
def f6_restore (a1 : Int32) (s0 : Mem) : Option ((Nat ⊕ Int32) × Mem) :=
  bx (f6_needSaveSlot a1 s0) (fun e s1 => some (.inl e, s1)) fun _ s1 => gd (ib a1 2) ((if (s1 18 0 a1.toNatClampNeg) = (0 : Int32) then some (.inl 1, s1) else gd (ib a1 2) (bv (f2_copyFrom 0 (a1.toNatClampNeg + 17) s1) fun s2 => bv (f4_empty s2) fun s3 => some (.inr (s3 32 0 0), s3))))
def rm_6_restore : Room := { frames := 7, cells := 2, slots := 12, locals := 121 }
set_option maxHeartbeats 4000000 in
set_option maxRecDepth 100000 in
theorem k6_restore {κ : Kx} {τ : Nat → Int64} {a1 : Int32} {s0 sR : Mem} {rR : Nat ⊕ Int32}  (hf : f6_restore a1 s0 = some (rR, sR)) : CxI κ yX6_restore cX6_restore 2 (some .int) rm_6_restore (NV κ τ) (NV κ τ) [.ref (ad κ.1 0 0), .int a1] s0 sR rR := by
  refine cx_I (by decide +kernel) (Nat.le_of_ble_eq_true rfl) (fun φ hc hr ht => ?_)
  have hc : Cx κ φ RX6 cX6_restore 2 rm_6_restore := hc
  show G κ φ (QxI κ φ (NV κ τ) sR rR rm_6_restore.cells rm_6_restore.slots) (NV κ τ) 0 0 s0 [(0, .ref (ad κ.1 0 0)), (1, .int a1)] 0 []
  unfold f6_restore at hf
  refine g_aload_n (i := 0) hc 0 rfl rfl dX6_restore_0 (pc2 := 1) rfl ?_
  refine g_iload_n (i := 1) hc 1 rfl rfl dX6_restore_1 (pc2 := 2) rfl ?_
  obtain ⟨r1, s1, hp, hf⟩ := bx_some hf
  refine g_vxV hc (k6_needSaveSlot hp) co_X6_267 (u0 (by decide)) rfl rfl (by decide) (by decide) (Nat.le_of_ble_eq_true rfl) dX6_restore_2 (pc2 := 5) rfl (fun q hq => ?_) (fun hq => ?_)
  · subst hq
    exact gx_outI hc hf ht (by decide) (by decide)
  · subst hq
    refine g_aload_n (i := 0) hc 0 rfl rfl dX6_restore_5 (pc2 := 6) rfl ?_
    refine g_getr (q := ad κ.1 18 0) hc fo_X6_34 (u0 (by decide)) rfl dX6_restore_6 (pc2 := 9) rfl ?_
    refine g_iload_n (i := 1) hc 1 rfl rfl dX6_restore_9 (pc2 := 10) rfl ?_
    obtain ⟨hg1, hf⟩ := gd_some hf
    refine g_aldz hc 18 0 rfl (u18 (by decide)) hg1 dX6_restore_10 (pc2 := 11) rfl ?_
    refine g_if_ne hc 25 (by decide) dX6_restore_11 (pc2 := 14) rfl (fun q => ?_) (fun q => ?_)
    · have hf := ite_f hf q
      refine g_aload_n (i := 0) hc 0 rfl rfl dX6_restore_25 (pc2 := 26) rfl ?_
      refine g_getr (q := ad κ.1 3 0) hc fo_X6_19 (u0 (by decide)) rfl dX6_restore_26 (pc2 := 29) rfl ?_
      refine g_aload_n (i := 0) hc 0 rfl rfl dX6_restore_29 (pc2 := 30) rfl ?_
      refine g_getr (q := ad κ.1 17 0) hc fo_X6_30 (u0 (by decide)) rfl dX6_restore_30 (pc2 := 33) rfl ?_
      refine g_iload_n (i := 1) hc 1 rfl rfl dX6_restore_33 (pc2 := 34) rfl ?_
      obtain ⟨hg2, hf⟩ := gd_some hf
      have ihg2 := ib_lt hg2
      refine g_aldr (q := ad κ.1 3 (a1.toNatClampNeg + 17)) hc 17 0 (by decide) (by decide) (u17 (by decide)) hg2 rfl dX6_restore_34 (pc2 := 35) rfl ?_
      obtain ⟨s2, hp, hf⟩ := bv_some hf
      refine g_vV hc (k2_copyFrom (by decide) (by omega) hp) co_X6_74 (u3 (by decide)) rfl rfl (by decide) (by decide) (Nat.le_of_ble_eq_true rfl) dX6_restore_35 (pc2 := 38) rfl ?_
      refine g_aload_n (i := 0) hc 0 rfl rfl dX6_restore_38 (pc2 := 39) rfl ?_
      refine g_getr (q := ad κ.1 15 0) hc fo_X6_26 (u0 (by decide)) rfl dX6_restore_39 (pc2 := 42) rfl ?_
      obtain ⟨s3, hp, hf⟩ := bv_some hf
      refine g_vV hc (k4_empty hp) co_X6_78 (u15 (by decide)) rfl rfl (by decide) (by decide) (Nat.le_of_ble_eq_true rfl) dX6_restore_42 (pc2 := 45) rfl ?_
      refine g_aload_n (i := 0) hc 0 rfl rfl dX6_restore_45 (pc2 := 46) rfl ?_
      refine g_getr (q := ad κ.1 3 0) hc fo_X6_19 (u0 (by decide)) rfl dX6_restore_46 (pc2 := 49) rfl ?_
      refine g_geti hc fo_X6_90 (u3 (by decide)) dX6_restore_49 (pc2 := 52) rfl ?_
      exact g_xiret hc hf hr rfl (by decide) (by decide) dX6_restore_52
    · have hf := ite_t hf q
      exact g_throwWI hc hf ht tx_X6_270_59 dX6_restore_14 dX6_restore_17 dX6_restore_18 dX6_restore_21 dX6_restore_24 (by decide) (by decide) (by decide)
