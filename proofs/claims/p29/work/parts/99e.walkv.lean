/-! THE WALKS THAT CONSTRUCTORS NEED, over a part of the world; words of the constructors -/
section WALKV
def MOk (κ : Kx) (V : Wv) (o : Nat) : Prop := V.1 7 o ∧ V.1 8 o ∧ V.1 9 o ∧ V.1 13 o ∧ V.2.1 81 o 0 = some (ad κ.1 8 o) ∧ V.2.1 82 o 0 = some (ad κ.1 9 o) ∧ V.2.1 83 o 0 = some (ad κ.1 13 o)
def BOk (κ : Kx) (V : Wv) (b : Nat) : Prop := V.1 3 b ∧ V.1 4 b ∧ V.1 5 b ∧ V.1 6 b ∧ V.2.1 78 b 0 = some (ad κ.1 4 b) ∧ V.2.1 79 b 0 = some (ad κ.1 5 b) ∧ V.2.1 80 b 0 = some (ad κ.1 6 b) ∧ (∀ m, m < 6 → V.2.1 6 b m = some (ad κ.1 7 (6 * b + m))) ∧ ∀ m, m < 6 → MOk κ V (6 * b + m)
set_option maxHeartbeats 4000000 in
set_option maxRecDepth 100000 in
theorem kvJ_max {κ : Kx} {V : Wv} {a1 : Int32} {a2 : Int32} {s0 sR : Mem} {rR : Int32}  (hf : fJ_max a1 a2 s0 = some (rR, sR)) : CtI κ yJ9_max_7cf53 cJ9_max_7cf53 2 (some .int) rm_J_max V V [.int a1, .int a2] s0 sR rR := by
  refine ct_I (by decide +kernel) (Nat.le_of_ble_eq_true rfl) (fun φ hc hr => ?_)
  have hc : Cx κ φ RJ9 cJ9_max_7cf53 2 rm_J_max := hc
  show G κ φ (QI κ φ V sR rR rm_J_max.cells rm_J_max.slots) V 0 0 s0 [(0, .int a1), (1, .int a2)] 0 []
  unfold fJ_max at hf
  refine g_iload_n (i := 0) hc 0 rfl rfl dJ9_max_7cf53_0 (pc2 := 1) rfl ?_
  refine g_iload_n (i := 1) hc 1 rfl rfl dJ9_max_7cf53_1 (pc2 := 2) rfl ?_
  refine g_icmp_lt hc 9 (by decide) dJ9_max_7cf53_2 (pc2 := 5) rfl (fun q => ?_) (fun q => ?_)
  · have hf := ite_t hf q
    refine g_iload_n (i := 1) hc 1 rfl rfl dJ9_max_7cf53_9 (pc2 := 10) rfl ?_
    exact g_iret hc hf hr rfl (by decide) (by decide) dJ9_max_7cf53_10
  · have hf := ite_f hf q
    refine g_iload_n (i := 0) hc 0 rfl rfl dJ9_max_7cf53_5 (pc2 := 6) rfl ?_
    refine g_goto hc 10 (by decide) dJ9_max_7cf53_6 ?_
    exact g_iret hc hf hr rfl (by decide) (by decide) dJ9_max_7cf53_10
set_option maxHeartbeats 4000000 in
set_option maxRecDepth 100000 in
theorem kvJ_min {κ : Kx} {V : Wv} {a1 : Int32} {a2 : Int32} {s0 sR : Mem} {rR : Int32}  (hf : fJ_min a1 a2 s0 = some (rR, sR)) : CtI κ yJ9_min_7cf53 cJ9_min_7cf53 2 (some .int) rm_J_min V V [.int a1, .int a2] s0 sR rR := by
  refine ct_I (by decide +kernel) (Nat.le_of_ble_eq_true rfl) (fun φ hc hr => ?_)
  have hc : Cx κ φ RJ9 cJ9_min_7cf53 2 rm_J_min := hc
  show G κ φ (QI κ φ V sR rR rm_J_min.cells rm_J_min.slots) V 0 0 s0 [(0, .int a1), (1, .int a2)] 0 []
  unfold fJ_min at hf
  refine g_iload_n (i := 0) hc 0 rfl rfl dJ9_min_7cf53_0 (pc2 := 1) rfl ?_
  refine g_iload_n (i := 1) hc 1 rfl rfl dJ9_min_7cf53_1 (pc2 := 2) rfl ?_
  refine g_icmp_gt hc 9 (by decide) dJ9_min_7cf53_2 (pc2 := 5) rfl (fun q => ?_) (fun q => ?_)
  · have hf := ite_t hf q
    refine g_iload_n (i := 1) hc 1 rfl rfl dJ9_min_7cf53_9 (pc2 := 10) rfl ?_
    exact g_iret hc hf hr rfl (by decide) (by decide) dJ9_min_7cf53_10
  · have hf := ite_f hf q
    refine g_iload_n (i := 0) hc 0 rfl rfl dJ9_min_7cf53_5 (pc2 := 6) rfl ?_
    refine g_goto hc 10 (by decide) dJ9_min_7cf53_6 ?_
    exact g_iret hc hf hr rfl (by decide) (by decide) dJ9_min_7cf53_10

set_option maxHeartbeats 4000000 in
set_option maxRecDepth 100000 in
theorem kv5_forgetDebts {κ : Kx} {V : Wv} {o : Nat} {s0 sR : Mem} (hU : MOk κ V o) (hf : f5_forgetDebts o s0 = some sR) : CtV κ yX5_forgetDebts cX5_forgetDebts 2 none rm_5_forgetDebts V V [.ref (ad κ.1 7 o)] s0 sR := by
  refine ct_V (by decide +kernel) (Nat.le_of_ble_eq_true rfl) (fun φ hc hr => ?_)
  have hc : Cx κ φ RX5 cX5_forgetDebts 2 rm_5_forgetDebts := hc
  show G κ φ (QV κ φ V sR rm_5_forgetDebts.cells rm_5_forgetDebts.slots) V 0 0 s0 [(0, .ref (ad κ.1 7 o))] 0 []
  unfold f5_forgetDebts at hf
  refine g_iconst (v := (0 : Int32)) hc (by decide) dX5_forgetDebts_0 (pc2 := 1) rfl ?_
  refine g_istore_n (i := 1) (L1 := [(1, .int (0 : Int32)), (0, .ref (ad κ.1 7 o))]) hc rfl (by decide) rfl dX5_forgetDebts_1 (pc2 := 2) rfl ?_
  obtain ⟨k1, hk1, hf⟩ := nm_ex hf
  have Hk1 : ∀ (s1 : Mem), k1 s1 = some sR → G κ φ (QV κ φ V sR rm_5_forgetDebts.cells rm_5_forgetDebts.slots) V 0 0 s1 [] 21 [] := by
    intro s1 hf
    rw [hk1] at hf
    exact g_vret hc hf hr (by decide) (by decide) dX5_forgetDebts_21
  have LP_n1 : ∀ (n1 : Nat) (m1 : Int32) (s2 : Mem), f5_forgetDebts_l2 o k1 n1 m1 s2 = some sR → G κ φ (QV κ φ V sR rm_5_forgetDebts.cells rm_5_forgetDebts.slots) V 0 0 s2 [(0, .ref (ad κ.1 7 o)), (1, .int m1)] 2 [] := by
    intro n1
    induction n1 with
    | zero => intro m1 s2 hf; rw [f5_forgetDebts_l2] at hf; cases hf
    | succ n1 ih_n1 =>
      intro m1 s2 hf
      rw [f5_forgetDebts_l2] at hf
      refine g_iload_n (i := 1) hc 1 rfl rfl dX5_forgetDebts_2 (pc2 := 3) rfl ?_
      refine g_bipush (v := (6 : Int32)) hc (by decide) dX5_forgetDebts_3 (pc2 := 5) rfl ?_
      refine g_icmp_ge hc 21 (by decide) dX5_forgetDebts_5 (pc2 := 8) rfl (fun q => ?_) (fun q => ?_)
      · have hf := ite_t hf q
        refine g_sub [] rfl ?_
        exact Hk1 _ hf
      · have hf := ite_f hf q
        refine g_aload_n (i := 0) hc 0 rfl rfl dX5_forgetDebts_8 (pc2 := 9) rfl ?_
        refine g_getr (q := ad κ.1 8 o) hc fo_X5_9 hU.1 hU.2.2.2.2.1 dX5_forgetDebts_9 (pc2 := 12) rfl ?_
        refine g_iload_n (i := 1) hc 1 rfl rfl dX5_forgetDebts_12 (pc2 := 13) rfl ?_
        refine g_iconst (v := (0 : Int32)) hc (by decide) dX5_forgetDebts_13 (pc2 := 14) rfl ?_
        obtain ⟨hg1, hf⟩ := gd_some hf
        obtain ⟨s3, hs3, hf⟩ := nm_ex hf
        refine g_asti hc 8 o rfl hU.2.1 hg1 dX5_forgetDebts_14 (pc2 := 15) rfl ?_
        refine g_nms hs3 ?_
        obtain ⟨x1, hx1, hf⟩ := nm_ex hf
        refine g_iinc (v := x1) (L1 := [(1, .int x1), (0, .ref (ad κ.1 7 o))]) hc 1 rfl (by rw [hx1]; rfl) (by decide) rfl dX5_forgetDebts_15 (pc2 := 18) rfl ?_
        refine g_goto hc 2 (by decide) dX5_forgetDebts_18 ?_
        refine g_sub [1, 0] rfl ?_
        exact ih_n1 _ _ hf
  refine g_sub [1, 0] rfl ?_
  exact LP_n1 _ _ _ hf
set_option maxHeartbeats 4000000 in
set_option maxRecDepth 100000 in
theorem kv5_makeNew {κ : Kx} {V : Wv} {o : Nat} {s0 sR : Mem} (hU : MOk κ V o) (hf : f5_makeNew o s0 = some sR) : CtV κ yX5_makeNew cX5_makeNew 1 none rm_5_makeNew V V [.ref (ad κ.1 7 o)] s0 sR := by
  refine ct_V (by decide +kernel) (Nat.le_of_ble_eq_true rfl) (fun φ hc hr => ?_)
  have hc : Cx κ φ RX5 cX5_makeNew 1 rm_5_makeNew := hc
  show G κ φ (QV κ φ V sR rm_5_makeNew.cells rm_5_makeNew.slots) V 0 0 s0 [(0, .ref (ad κ.1 7 o))] 0 []
  unfold f5_makeNew at hf
  refine g_aload_n (i := 0) hc 0 rfl rfl dX5_makeNew_0 (pc2 := 1) rfl ?_
  obtain ⟨s1, hp, hf⟩ := bv_some hf
  refine g_vV hc (kv5_forgetDebts hU hp) co_X5_29 hU.1 rfl rfl (by decide) (by decide) (Nat.le_of_ble_eq_true rfl) dX5_makeNew_1 (pc2 := 4) rfl ?_
  refine g_aload_n (i := 0) hc 0 rfl rfl dX5_makeNew_4 (pc2 := 5) rfl ?_
  refine g_getr (q := ad κ.1 9 o) hc fo_X5_18 hU.1 hU.2.2.2.2.2.1 dX5_makeNew_5 (pc2 := 8) rfl ?_
  refine g_iconst (v := (0 : Int32)) hc (by decide) dX5_makeNew_8 (pc2 := 9) rfl ?_
  obtain ⟨s2, hs2, hf⟩ := nm_ex hf
  refine g_puti hc (by decide) fo_X5_32 clO_9 poK_9_0 rfl hU.2.2.1 rfl rfl dX5_makeNew_9 (pc2 := 12) rfl ?_
  refine g_nms hs2 ?_
  refine g_aload_n (i := 0) hc 0 rfl rfl dX5_makeNew_12 (pc2 := 13) rfl ?_
  refine g_getr (q := ad κ.1 13 o) hc fo_X5_25 hU.1 hU.2.2.2.2.2.2 dX5_makeNew_13 (pc2 := 16) rfl ?_
  refine g_iconst (v := (0 : Int32)) hc (by decide) dX5_makeNew_16 (pc2 := 17) rfl ?_
  obtain ⟨s3, hs3, hf⟩ := nm_ex hf
  refine g_puti hc (by decide) fo_X5_36 clO_13 poK_13_0 rfl hU.2.2.2.1 rfl rfl dX5_makeNew_17 (pc2 := 20) rfl ?_
  refine g_nms hs3 ?_
  refine g_aload_n (i := 0) hc 0 rfl rfl dX5_makeNew_20 (pc2 := 21) rfl ?_
  refine g_iconst (v := (0 : Int32)) hc (by decide) dX5_makeNew_21 (pc2 := 22) rfl ?_
  obtain ⟨s4, hs4, hf⟩ := nm_ex hf
  refine g_puti hc (by decide) fo_X5_37 clO_7 poK_7_3 rfl hU.1 rfl rfl dX5_makeNew_22 (pc2 := 25) rfl ?_
  refine g_nms hs4 ?_
  refine g_aload_n (i := 0) hc 0 rfl rfl dX5_makeNew_25 (pc2 := 26) rfl ?_
  refine g_iconst (v := (0 : Int32)) hc (by decide) dX5_makeNew_26 (pc2 := 27) rfl ?_
  obtain ⟨s5, hs5, hf⟩ := nm_ex hf
  refine g_puti hc (by decide) fo_X5_41 clO_7 poK_7_5 rfl hU.1 rfl rfl dX5_makeNew_27 (pc2 := 30) rfl ?_
  refine g_nms hs5 ?_
  refine g_aload_n (i := 0) hc 0 rfl rfl dX5_makeNew_30 (pc2 := 31) rfl ?_
  refine g_iconst (v := (0 : Int32)) hc (by decide) dX5_makeNew_31 (pc2 := 32) rfl ?_
  obtain ⟨s6, hs6, hf⟩ := nm_ex hf
  refine g_puti hc (by decide) fo_X5_44 clO_7 poK_7_6 rfl hU.1 rfl rfl dX5_makeNew_32 (pc2 := 35) rfl ?_
  refine g_nms hs6 ?_
  refine g_aload_n (i := 0) hc 0 rfl rfl dX5_makeNew_35 (pc2 := 36) rfl ?_
  refine g_iconst (v := (0 : Int32)) hc (by decide) dX5_makeNew_36 (pc2 := 37) rfl ?_
  obtain ⟨s7, hs7, hf⟩ := nm_ex hf
  refine g_puti hc (by decide) fo_X5_47 clO_7 poK_7_7 rfl hU.1 rfl rfl dX5_makeNew_37 (pc2 := 40) rfl ?_
  refine g_nms hs7 ?_
  refine g_aload_n (i := 0) hc 0 rfl rfl dX5_makeNew_40 (pc2 := 41) rfl ?_
  refine g_iconst (v := (0 : Int32)) hc (by decide) dX5_makeNew_41 (pc2 := 42) rfl ?_
  obtain ⟨s8, hs8, hf⟩ := nm_ex hf
  refine g_puti hc (by decide) fo_X5_50 clO_7 poK_7_8 rfl hU.1 rfl rfl dX5_makeNew_42 (pc2 := 45) rfl ?_
  refine g_nms hs8 ?_
  refine g_aload_n (i := 0) hc 0 rfl rfl dX5_makeNew_45 (pc2 := 46) rfl ?_
  refine g_iconst (v := (0 : Int32)) hc (by decide) dX5_makeNew_46 (pc2 := 47) rfl ?_
  obtain ⟨s9, hs9, hf⟩ := nm_ex hf
  refine g_puti hc (by decide) fo_X5_53 clO_7 poK_7_9 rfl hU.1 rfl rfl dX5_makeNew_47 (pc2 := 50) rfl ?_
  refine g_nms hs9 ?_
  refine g_aload_n (i := 0) hc 0 rfl rfl dX5_makeNew_50 (pc2 := 51) rfl ?_
  refine g_iconst (v := (0 : Int32)) hc (by decide) dX5_makeNew_51 (pc2 := 52) rfl ?_
  obtain ⟨s10, hs10, hf⟩ := nm_ex hf
  refine g_puti hc (by decide) fo_X5_56 clO_7 poK_7_10 rfl hU.1 rfl rfl dX5_makeNew_52 (pc2 := 55) rfl ?_
  refine g_nms hs10 ?_
  exact g_vret hc hf hr (by decide) (by decide) dX5_makeNew_55
set_option maxHeartbeats 4000000 in
set_option maxRecDepth 100000 in
theorem kv2_makeNew {κ : Kx} {V : Wv} {o : Nat} {a1 : Int32} {a2 : Int32} {s0 sR : Mem} (hU : BOk κ V o) (hf : f2_makeNew o a1 a2 s0 = some sR) : CtV κ yX2_makeNew cX2_makeNew 4 none rm_2_makeNew V V [.ref (ad κ.1 3 o), .int a1, .int a2] s0 sR := by
  refine ct_V (by decide +kernel) (Nat.le_of_ble_eq_true rfl) (fun φ hc hr => ?_)
  have hc : Cx κ φ RX2 cX2_makeNew 4 rm_2_makeNew := hc
  show G κ φ (QV κ φ V sR rm_2_makeNew.cells rm_2_makeNew.slots) V 0 0 s0 [(0, .ref (ad κ.1 3 o)), (1, .int a1), (2, .int a2)] 0 []
  unfold f2_makeNew at hf
  refine g_aload_n (i := 0) hc 0 rfl rfl dX2_makeNew_0 (pc2 := 1) rfl ?_
  refine g_iload_n (i := 1) hc 1 rfl rfl dX2_makeNew_1 (pc2 := 2) rfl ?_
  refine g_iconst (v := (2 : Int32)) hc (by decide) dX2_makeNew_2 (pc2 := 3) rfl ?_
  obtain ⟨r1, s1, hp, hf⟩ := bd_some hf
  refine g_sI hc (kvJ_max hp) co_X2_29 rfl rfl (by decide) (by decide) (Nat.le_of_ble_eq_true rfl) dX2_makeNew_3 (pc2 := 6) rfl ?_
  refine g_bipush (v := (6 : Int32)) hc (by decide) dX2_makeNew_6 (pc2 := 8) rfl ?_
  obtain ⟨r2, s2, hp, hf⟩ := bd_some hf
  refine g_sI hc (kvJ_min hp) co_X2_35 rfl rfl (by decide) (by decide) (Nat.le_of_ble_eq_true rfl) dX2_makeNew_8 (pc2 := 11) rfl ?_
  obtain ⟨s3, hs3, hf⟩ := nm_ex hf
  refine g_puti hc (by decide) fo_X2_38 clO_3 poK_3_0 rfl hU.1 rfl rfl dX2_makeNew_11 (pc2 := 14) rfl ?_
  refine g_nms hs3 ?_
  refine g_aload_n (i := 0) hc 0 rfl rfl dX2_makeNew_14 (pc2 := 15) rfl ?_
  refine g_iload_n (i := 2) hc 2 rfl rfl dX2_makeNew_15 (pc2 := 16) rfl ?_
  refine g_iconst (v := (2 : Int32)) hc (by decide) dX2_makeNew_16 (pc2 := 17) rfl ?_
  obtain ⟨r3, s4, hp, hf⟩ := bd_some hf
  refine g_sI hc (kvJ_max hp) co_X2_29 rfl rfl (by decide) (by decide) (Nat.le_of_ble_eq_true rfl) dX2_makeNew_17 (pc2 := 20) rfl ?_
  refine g_bipush (v := (16 : Int32)) hc (by decide) dX2_makeNew_20 (pc2 := 22) rfl ?_
  obtain ⟨r4, s5, hp, hf⟩ := bd_some hf
  refine g_sI hc (kvJ_min hp) co_X2_35 rfl rfl (by decide) (by decide) (Nat.le_of_ble_eq_true rfl) dX2_makeNew_22 (pc2 := 25) rfl ?_
  obtain ⟨s6, hs6, hf⟩ := nm_ex hf
  refine g_puti hc (by decide) fo_X2_42 clO_3 poK_3_1 rfl hU.1 rfl rfl dX2_makeNew_25 (pc2 := 28) rfl ?_
  refine g_nms hs6 ?_
  refine g_aload_n (i := 0) hc 0 rfl rfl dX2_makeNew_28 (pc2 := 29) rfl ?_
  refine g_iconst (v := (0 : Int32)) hc (by decide) dX2_makeNew_29 (pc2 := 30) rfl ?_
  obtain ⟨s7, hs7, hf⟩ := nm_ex hf
  refine g_puti hc (by decide) fo_X2_45 clO_3 poK_3_2 rfl hU.1 rfl rfl dX2_makeNew_30 (pc2 := 33) rfl ?_
  refine g_nms hs7 ?_
  refine g_aload_n (i := 0) hc 0 rfl rfl dX2_makeNew_33 (pc2 := 34) rfl ?_
  refine g_iconst (v := (0 : Int32)) hc (by decide) dX2_makeNew_34 (pc2 := 35) rfl ?_
  obtain ⟨s8, hs8, hf⟩ := nm_ex hf
  refine g_puti hc (by decide) fo_X2_48 clO_3 poK_3_3 rfl hU.1 rfl rfl dX2_makeNew_35 (pc2 := 38) rfl ?_
  refine g_nms hs8 ?_
  refine g_aload_n (i := 0) hc 0 rfl rfl dX2_makeNew_38 (pc2 := 39) rfl ?_
  refine g_iconst (v := (4 : Int32)) hc (by decide) dX2_makeNew_39 (pc2 := 40) rfl ?_
  obtain ⟨s9, hs9, hf⟩ := nm_ex hf
  refine g_puti hc (by decide) fo_X2_51 clO_3 poK_3_4 rfl hU.1 rfl rfl dX2_makeNew_40 (pc2 := 43) rfl ?_
  refine g_nms hs9 ?_
  refine g_aload_n (i := 0) hc 0 rfl rfl dX2_makeNew_43 (pc2 := 44) rfl ?_
  refine g_bipush (v := (-9 : Int32)) hc (by decide) dX2_makeNew_44 (pc2 := 46) rfl ?_
  obtain ⟨s10, hs10, hf⟩ := nm_ex hf
  refine g_puti hc (by decide) fo_X2_54 clO_3 poK_3_5 rfl hU.1 rfl rfl dX2_makeNew_46 (pc2 := 49) rfl ?_
  refine g_nms hs10 ?_
  refine g_iconst (v := (0 : Int32)) hc (by decide) dX2_makeNew_49 (pc2 := 50) rfl ?_
  refine g_istore_n (i := 3) (L1 := [(3, .int (0 : Int32)), (0, .ref (ad κ.1 3 o)), (1, .int a1), (2, .int a2)]) hc rfl (by decide) rfl dX2_makeNew_50 (pc2 := 51) rfl ?_
  obtain ⟨k1, hk1, hf⟩ := nm_ex hf
  have Hk1 : ∀ (s11 : Mem), k1 s11 = some sR → G κ φ (QV κ φ V sR rm_2_makeNew.cells rm_2_makeNew.slots) V 0 0 s11 [(0, .ref (ad κ.1 3 o))] 77 [] := by
    intro s11 hf
    rw [hk1] at hf
    refine g_iconst (v := (0 : Int32)) hc (by decide) dX2_makeNew_77 (pc2 := 78) rfl ?_
    refine g_istore_n (i := 3) (L1 := [(3, .int (0 : Int32)), (0, .ref (ad κ.1 3 o))]) hc rfl (by decide) rfl dX2_makeNew_78 (pc2 := 79) rfl ?_
    obtain ⟨k2, hk2, hf⟩ := nm_ex hf
    have Hk2 : ∀ (s12 : Mem), k2 s12 = some sR → G κ φ (QV κ φ V sR rm_2_makeNew.cells rm_2_makeNew.slots) V 0 0 s12 [(0, .ref (ad κ.1 3 o))] 97 [] := by
      intro s12 hf
      rw [hk2] at hf
      refine g_iconst (v := (0 : Int32)) hc (by decide) dX2_makeNew_97 (pc2 := 98) rfl ?_
      refine g_istore_n (i := 3) (L1 := [(3, .int (0 : Int32)), (0, .ref (ad κ.1 3 o))]) hc rfl (by decide) rfl dX2_makeNew_98 (pc2 := 99) rfl ?_
      obtain ⟨k3, hk3, hf⟩ := nm_ex hf
      have Hk3 : ∀ (s13 : Mem), k3 s13 = some sR → G κ φ (QV κ φ V sR rm_2_makeNew.cells rm_2_makeNew.slots) V 0 0 s13 [] 120 [] := by
        intro s13 hf
        rw [hk3] at hf
        exact g_vret hc hf hr (by decide) (by decide) dX2_makeNew_120
      have LP_n1 : ∀ (n1 : Nat) (m1 : Int32) (s14 : Mem), f2_makeNew_l99 o k3 n1 m1 s14 = some sR → G κ φ (QV κ φ V sR rm_2_makeNew.cells rm_2_makeNew.slots) V 0 0 s14 [(0, .ref (ad κ.1 3 o)), (3, .int m1)] 99 [] := by
        intro n1
        induction n1 with
        | zero => intro m1 s14 hf; rw [f2_makeNew_l99] at hf; cases hf
        | succ n1 ih_n1 =>
          intro m1 s14 hf
          rw [f2_makeNew_l99] at hf
          refine g_iload_n (i := 3) hc 1 rfl rfl dX2_makeNew_99 (pc2 := 100) rfl ?_
          refine g_bipush (v := (6 : Int32)) hc (by decide) dX2_makeNew_100 (pc2 := 102) rfl ?_
          refine g_icmp_ge hc 120 (by decide) dX2_makeNew_102 (pc2 := 105) rfl (fun q => ?_) (fun q => ?_)
          · have hf := ite_t hf q
            refine g_sub [] rfl ?_
            exact Hk3 _ hf
          · have hf := ite_f hf q
            refine g_aload_n (i := 0) hc 0 rfl rfl dX2_makeNew_105 (pc2 := 106) rfl ?_
            refine g_getr (q := ad κ.1 6 o) hc fo_X2_20 hU.1 hU.2.2.2.2.2.2.1 dX2_makeNew_106 (pc2 := 109) rfl ?_
            refine g_iload_n (i := 3) hc 1 rfl rfl dX2_makeNew_109 (pc2 := 110) rfl ?_
            obtain ⟨hg1, hf⟩ := gd_some hf
            have ihg1 := ib_lt hg1
            refine g_aldr (q := ad κ.1 7 (6 * o + m1.toNatClampNeg)) hc 6 o (by decide) (by decide) hU.2.2.2.1 hg1 (hU.2.2.2.2.2.2.2.1 _ ihg1) dX2_makeNew_110 (pc2 := 111) rfl ?_
            obtain ⟨s15, hp, hf⟩ := bv_some hf
            refine g_vV hc (kv5_makeNew (hU.2.2.2.2.2.2.2.2 _ ihg1) hp) co_X2_57 (hU.2.2.2.2.2.2.2.2 _ ihg1).1 rfl rfl (by decide) (by decide) (Nat.le_of_ble_eq_true rfl) dX2_makeNew_111 (pc2 := 114) rfl ?_
            obtain ⟨x1, hx1, hf⟩ := nm_ex hf
            refine g_iinc (v := x1) (L1 := [(3, .int x1), (0, .ref (ad κ.1 3 o))]) hc 1 rfl (by rw [hx1]; rfl) (by decide) rfl dX2_makeNew_114 (pc2 := 117) rfl ?_
            refine g_goto hc 99 (by decide) dX2_makeNew_117 ?_
            refine g_sub [1, 0] rfl ?_
            exact ih_n1 _ _ hf
      refine g_sub [1, 0] rfl ?_
      exact LP_n1 _ _ _ hf
    have LP_n2 : ∀ (n2 : Nat) (m2 : Int32) (s16 : Mem), f2_makeNew_l79 o k2 n2 m2 s16 = some sR → G κ φ (QV κ φ V sR rm_2_makeNew.cells rm_2_makeNew.slots) V 0 0 s16 [(0, .ref (ad κ.1 3 o)), (3, .int m2)] 79 [] := by
      intro n2
      induction n2 with
      | zero => intro m2 s16 hf; rw [f2_makeNew_l79] at hf; cases hf
      | succ n2 ih_n2 =>
        intro m2 s16 hf
        rw [f2_makeNew_l79] at hf
        refine g_iload_n (i := 3) hc 1 rfl rfl dX2_makeNew_79 (pc2 := 80) rfl ?_
        refine g_iconst (v := (4 : Int32)) hc (by decide) dX2_makeNew_80 (pc2 := 81) rfl ?_
        refine g_icmp_ge hc 97 (by decide) dX2_makeNew_81 (pc2 := 84) rfl (fun q => ?_) (fun q => ?_)
        · have hf := ite_t hf q
          refine g_sub [0] rfl ?_
          exact Hk2 _ hf
        · have hf := ite_f hf q
          refine g_aload_n (i := 0) hc 0 rfl rfl dX2_makeNew_84 (pc2 := 85) rfl ?_
          refine g_getr (q := ad κ.1 5 o) hc fo_X2_15 hU.1 hU.2.2.2.2.2.1 dX2_makeNew_85 (pc2 := 88) rfl ?_
          refine g_iload_n (i := 3) hc 1 rfl rfl dX2_makeNew_88 (pc2 := 89) rfl ?_
          refine g_iconst (v := (2 : Int32)) hc (by decide) dX2_makeNew_89 (pc2 := 90) rfl ?_
          obtain ⟨hg2, hf⟩ := gd_some hf
          obtain ⟨s17, hs17, hf⟩ := nm_ex hf
          refine g_asti hc 5 o rfl hU.2.2.1 hg2 dX2_makeNew_90 (pc2 := 91) rfl ?_
          refine g_nms hs17 ?_
          obtain ⟨x2, hx2, hf⟩ := nm_ex hf
          refine g_iinc (v := x2) (L1 := [(3, .int x2), (0, .ref (ad κ.1 3 o))]) hc 1 rfl (by rw [hx2]; rfl) (by decide) rfl dX2_makeNew_91 (pc2 := 94) rfl ?_
          refine g_goto hc 79 (by decide) dX2_makeNew_94 ?_
          refine g_sub [1, 0] rfl ?_
          exact ih_n2 _ _ hf
    refine g_sub [1, 0] rfl ?_
    exact LP_n2 _ _ _ hf
  have LP_n3 : ∀ (n3 : Nat) (m3 : Int32) (s18 : Mem), f2_makeNew_l51 o k1 n3 m3 s18 = some sR → G κ φ (QV κ φ V sR rm_2_makeNew.cells rm_2_makeNew.slots) V 0 0 s18 [(0, .ref (ad κ.1 3 o)), (3, .int m3)] 51 [] := by
    intro n3
    induction n3 with
    | zero => intro m3 s18 hf; rw [f2_makeNew_l51] at hf; cases hf
    | succ n3 ih_n3 =>
      intro m3 s18 hf
      rw [f2_makeNew_l51] at hf
      refine g_iload_n (i := 3) hc 1 rfl rfl dX2_makeNew_51 (pc2 := 52) rfl ?_
      refine g_aload_n (i := 0) hc 0 rfl rfl dX2_makeNew_52 (pc2 := 53) rfl ?_
      refine g_geti hc fo_X2_42 hU.1 dX2_makeNew_53 (pc2 := 56) rfl ?_
      refine g_icmp_ge hc 77 (by decide) dX2_makeNew_56 (pc2 := 59) rfl (fun q => ?_) (fun q => ?_)
      · have hf := ite_t hf q
        refine g_sub [0] rfl ?_
        exact Hk1 _ hf
      · have hf := ite_f hf q
        refine g_aload_n (i := 0) hc 0 rfl rfl dX2_makeNew_59 (pc2 := 60) rfl ?_
        refine g_getr (q := ad κ.1 4 o) hc fo_X2_9 hU.1 hU.2.2.2.2.1 dX2_makeNew_60 (pc2 := 63) rfl ?_
        refine g_iload_n (i := 3) hc 1 rfl rfl dX2_makeNew_63 (pc2 := 64) rfl ?_
        refine g_iload_n (i := 3) hc 1 rfl rfl dX2_makeNew_64 (pc2 := 65) rfl ?_
        refine g_aload_n (i := 0) hc 0 rfl rfl dX2_makeNew_65 (pc2 := 66) rfl ?_
        refine g_geti hc fo_X2_38 hU.1 dX2_makeNew_66 (pc2 := 69) rfl ?_
        obtain ⟨hg3, hf⟩ := gd_some hf
        refine g_irem hc (nz_of hg3) dX2_makeNew_69 (pc2 := 70) rfl ?_
        obtain ⟨hg4, hf⟩ := gd_some hf
        obtain ⟨s19, hs19, hf⟩ := nm_ex hf
        refine g_asti hc 4 o rfl hU.2.1 hg4 dX2_makeNew_70 (pc2 := 71) rfl ?_
        refine g_nms hs19 ?_
        obtain ⟨x3, hx3, hf⟩ := nm_ex hf
        refine g_iinc (v := x3) (L1 := [(3, .int x3), (0, .ref (ad κ.1 3 o))]) hc 1 rfl (by rw [hx3]; rfl) (by decide) rfl dX2_makeNew_71 (pc2 := 74) rfl ?_
        refine g_goto hc 51 (by decide) dX2_makeNew_74 ?_
        refine g_sub [1, 0] rfl ?_
        exact ih_n3 _ _ hf
  refine g_sub [1, 0] rfl ?_
  exact LP_n3 _ _ _ hf
theorem ob_X0 : ObjOk RX0 3 := (gwm 116 (by decide +kernel) (by decide +kernel))
theorem ob_X1 : ObjOk RX1 3 := (gwm 86 (by decide +kernel) (by decide +kernel))
theorem ob_X2 : ObjOk RX2 3 := (gwm 73 (by decide +kernel) (by decide +kernel))
theorem ob_X3 : ObjOk RX3 3 := (gwm 53 (by decide +kernel) (by decide +kernel))
theorem ob_X4 : ObjOk RX4 3 := (gwm 246 (by decide +kernel) (by decide +kernel))
theorem ob_X5 : ObjOk RX5 3 := (gwm 80 (by decide +kernel) (by decide +kernel))
theorem ob_X6 : ObjOk RX6 3 := (gwm 45 (by decide +kernel) (by decide +kernel))
theorem nw_X6_9 : NewOk RX6 9 1 4 := ⟨RX3, TX3, tyX3, rfl, rfl, inK1, tyX3_ok, (gwm 48 (by decide +kernel) (by decide +kernel)), (gwm 49 (by decide +kernel) (by decide +kernel)), (gwm 27 (by decide +kernel) (by decide +kernel)), fun j hj => by rcases (show j = 0 ∨ j = 1 ∨ j = 2 ∨ j = 3 by omega) with rfl | rfl | rfl | rfl <;> rfl⟩
theorem nw_X6_16 : NewOk RX6 16 3 9 := ⟨RX2, TX2, tyX2, rfl, rfl, inK3, tyX2_ok, (gwm 68 (by decide +kernel) (by decide +kernel)), (gwm 69 (by decide +kernel) (by decide +kernel)), (gwm 28 (by decide +kernel) (by decide +kernel)), fun j hj => by rcases (show j = 0 ∨ j = 1 ∨ j = 2 ∨ j = 3 ∨ j = 4 ∨ j = 5 ∨ j = 6 ∨ j = 7 ∨ j = 8 by omega) with rfl | rfl | rfl | rfl | rfl | rfl | rfl | rfl | rfl <;> rfl⟩
theorem nw_X6_23 : NewOk RX6 23 15 3 := ⟨RX4, TX4, tyX4, rfl, rfl, inK15, tyX4_ok, (gwm 241 (by decide +kernel) (by decide +kernel)), (gwm 242 (by decide +kernel) (by decide +kernel)), (gwm 33 (by decide +kernel) (by decide +kernel)), fun j hj => by rcases (show j = 0 ∨ j = 1 ∨ j = 2 by omega) with rfl | rfl | rfl <;> rfl⟩
theorem nw_X2_18 : NewOk RX2 18 7 11 := ⟨RX5, TX5, tyX5, rfl, rfl, inK7, tyX5_ok, (gwm 74 (by decide +kernel) (by decide +kernel)), (gwm 76 (by decide +kernel) (by decide +kernel)), (gwm 29 (by decide +kernel) (by decide +kernel)), fun j hj => by rcases (show j = 0 ∨ j = 1 ∨ j = 2 ∨ j = 3 ∨ j = 4 ∨ j = 5 ∨ j = 6 ∨ j = 7 ∨ j = 8 ∨ j = 9 ∨ j = 10 by omega) with rfl | rfl | rfl | rfl | rfl | rfl | rfl | rfl | rfl | rfl | rfl <;> rfl⟩
theorem nw_X5_15 : NewOk RX5 15 9 4 := ⟨RX1, TX1, tyX1, rfl, rfl, inK9, tyX1_ok, (gwm 81 (by decide +kernel) (by decide +kernel)), (gwm 82 (by decide +kernel) (by decide +kernel)), (gwm 30 (by decide +kernel) (by decide +kernel)), fun j hj => by rcases (show j = 0 ∨ j = 1 ∨ j = 2 ∨ j = 3 by omega) with rfl | rfl | rfl | rfl <;> rfl⟩
theorem nw_X5_22 : NewOk RX5 22 13 2 := ⟨RX0, TX0, tyX0, rfl, rfl, inK13, tyX0_ok, (gwm 111 (by decide +kernel) (by decide +kernel)), (gwm 112 (by decide +kernel) (by decide +kernel)), (gwm 31 (by decide +kernel) (by decide +kernel)), fun j hj => by rcases (show j = 0 ∨ j = 1 by omega) with rfl | rfl <;> rfl⟩
theorem nw_X4_9 : NewOk RX4 9 3 9 := ⟨RX2, TX2, tyX2, rfl, rfl, inK3, tyX2_ok, (gwm 247 (by decide +kernel) (by decide +kernel)), (gwm 69 (by decide +kernel) (by decide +kernel)), (gwm 28 (by decide +kernel) (by decide +kernel)), fun j hj => by rcases (show j = 0 ∨ j = 1 ∨ j = 2 ∨ j = 3 ∨ j = 4 ∨ j = 5 ∨ j = 6 ∨ j = 7 ∨ j = 8 by omega) with rfl | rfl | rfl | rfl | rfl | rfl | rfl | rfl | rfl <;> rfl⟩
theorem nw_L_10 : NewOk RL 10 0 7 := ⟨RX6, TX6, tyX6, rfl, rfl, inK0, tyX6_ok, (gwm 40 (by decide +kernel) (by decide +kernel)), (gwm 41 (by decide +kernel) (by decide +kernel)), (gwm 26 (by decide +kernel) (by decide +kernel)), fun j hj => by rcases (show j = 0 ∨ j = 1 ∨ j = 2 ∨ j = 3 ∨ j = 4 ∨ j = 5 ∨ j = 6 by omega) with rfl | rfl | rfl | rfl | rfl | rfl | rfl <;> rfl⟩
theorem cw_X2_18 : Cond.classLink RX2 18 RX5 ∈ GW := (gwm 74 (by decide +kernel) (by decide +kernel))
theorem cw_X6_16 : Cond.classLink RX6 16 RX2 ∈ GW := (gwm 68 (by decide +kernel) (by decide +kernel))
theorem cw_X4_9 : Cond.classLink RX4 9 RX2 ∈ GW := (gwm 247 (by decide +kernel) (by decide +kernel))
theorem aw_int : Cond.arrayClass .int ∈ GW := (gwm 109 (by decide +kernel) (by decide +kernel))
theorem aw_boolean : Cond.arrayClass .boolean ∈ GW := (gwm 110 (by decide +kernel) (by decide +kernel))
theorem aw_char : Cond.arrayClass .char ∈ GW := (gwm 67 (by decide +kernel) (by decide +kernel))
theorem pf_13_1 : PutF RX0 13 1 := by
  intro C T N h
  cases h
  exact ⟨rfl, rfl, tyX0 1, tyX0_ok 1 (by decide), fun q => ⟨rfl, rfl⟩⟩
theorem pf_9_1 : PutF RX1 9 1 := by
  intro C T N h
  cases h
  exact ⟨rfl, rfl, tyX1 1, tyX1_ok 1 (by decide), fun q => ⟨rfl, rfl⟩⟩
theorem pf_9_2 : PutF RX1 9 2 := by
  intro C T N h
  cases h
  exact ⟨rfl, rfl, tyX1 2, tyX1_ok 2 (by decide), fun q => ⟨rfl, rfl⟩⟩
theorem pf_9_3 : PutF RX1 9 3 := by
  intro C T N h
  cases h
  exact ⟨rfl, rfl, tyX1 3, tyX1_ok 3 (by decide), fun q => ⟨rfl, rfl⟩⟩
theorem pf_1_1 : PutF RX3 1 1 := by
  intro C T N h
  cases h
  exact ⟨rfl, rfl, tyX3 1, tyX3_ok 1 (by decide), fun q => ⟨rfl, rfl⟩⟩
theorem pf_3_6 : PutF RX2 3 6 := by
  intro C T N h
  cases h
  exact ⟨rfl, rfl, tyX2 6, tyX2_ok 6 (by decide), fun q => ⟨rfl, rfl⟩⟩
theorem pf_3_7 : PutF RX2 3 7 := by
  intro C T N h
  cases h
  exact ⟨rfl, rfl, tyX2 7, tyX2_ok 7 (by decide), fun q => ⟨rfl, rfl⟩⟩
theorem pf_3_8 : PutF RX2 3 8 := by
  intro C T N h
  cases h
  exact ⟨rfl, rfl, tyX2 8, tyX2_ok 8 (by decide), fun q => ⟨rfl, rfl⟩⟩
theorem pf_7_0 : PutF RX5 7 0 := by
  intro C T N h
  cases h
  exact ⟨rfl, rfl, tyX5 0, tyX5_ok 0 (by decide), fun q => ⟨rfl, rfl⟩⟩
theorem pf_7_1 : PutF RX5 7 1 := by
  intro C T N h
  cases h
  exact ⟨rfl, rfl, tyX5 1, tyX5_ok 1 (by decide), fun q => ⟨rfl, rfl⟩⟩
theorem pf_7_2 : PutF RX5 7 2 := by
  intro C T N h
  cases h
  exact ⟨rfl, rfl, tyX5 2, tyX5_ok 2 (by decide), fun q => ⟨rfl, rfl⟩⟩
theorem pf_15_2 : PutF RX4 15 2 := by
  intro C T N h
  cases h
  exact ⟨rfl, rfl, tyX4 2, tyX4_ok 2 (by decide), fun q => ⟨rfl, rfl⟩⟩
theorem pf_0_0 : PutF RX6 0 0 := by
  intro C T N h
  cases h
  exact ⟨rfl, rfl, tyX6 0, tyX6_ok 0 (by decide), fun q => ⟨rfl, rfl⟩⟩
theorem pf_0_1 : PutF RX6 0 1 := by
  intro C T N h
  cases h
  exact ⟨rfl, rfl, tyX6 1, tyX6_ok 1 (by decide), fun q => ⟨rfl, rfl⟩⟩
theorem pf_0_2 : PutF RX6 0 2 := by
  intro C T N h
  cases h
  exact ⟨rfl, rfl, tyX6 2, tyX6_ok 2 (by decide), fun q => ⟨rfl, rfl⟩⟩
theorem pf_0_3 : PutF RX6 0 3 := by
  intro C T N h
  cases h
  exact ⟨rfl, rfl, tyX6 3, tyX6_ok 3 (by decide), fun q => ⟨rfl, rfl⟩⟩
theorem pf_0_4 : PutF RX6 0 4 := by
  intro C T N h
  cases h
  exact ⟨rfl, rfl, tyX6 4, tyX6_ok 4 (by decide), fun q => ⟨rfl, rfl⟩⟩
theorem pf_0_5 : PutF RX6 0 5 := by
  intro C T N h
  cases h
  exact ⟨rfl, rfl, tyX6 5, tyX6_ok 5 (by decide), fun q => ⟨rfl, rfl⟩⟩
theorem pf_0_6 : PutF RX6 0 6 := by
  intro C T N h
  cases h
  exact ⟨rfl, rfl, tyX6 6, tyX6_ok 6 (by decide), fun q => ⟨rfl, rfl⟩⟩
theorem ci_X6_18 : CallOkI RX6 18 yX2_init cX2_init 2 0 := ⟨⟨(gwm 72 (by decide +kernel) (by decide +kernel)), (gwm 70 (by decide +kernel) (by decide +kernel)), (gwm 28 (by decide +kernel) (by decide +kernel)), by decide +kernel, by decide +kernel, by decide +kernel⟩, rfl, (gwm 71 (by decide +kernel) (by decide +kernel))⟩
theorem ci_X6_25 : CallOkI RX6 25 yX4_init cX4_init 2 0 := ⟨⟨(gwm 245 (by decide +kernel) (by decide +kernel)), (gwm 243 (by decide +kernel) (by decide +kernel)), (gwm 33 (by decide +kernel) (by decide +kernel)), by decide +kernel, by decide +kernel, by decide +kernel⟩, rfl, (gwm 244 (by decide +kernel) (by decide +kernel))⟩
theorem ci_X4_17 : CallOkI RX4 17 yX2_init cX2_init 2 0 := ⟨⟨(gwm 72 (by decide +kernel) (by decide +kernel)), (gwm 249 (by decide +kernel) (by decide +kernel)), (gwm 28 (by decide +kernel) (by decide +kernel)), by decide +kernel, by decide +kernel, by decide +kernel⟩, rfl, (gwm 71 (by decide +kernel) (by decide +kernel))⟩
theorem ci_L_70 : CallOkI RL 70 yX6_init cX6_init 2 0 := ⟨⟨(gwm 44 (by decide +kernel) (by decide +kernel)), (gwm 42 (by decide +kernel) (by decide +kernel)), (gwm 26 (by decide +kernel) (by decide +kernel)), by decide +kernel, by decide +kernel, by decide +kernel⟩, rfl, (gwm 43 (by decide +kernel) (by decide +kernel))⟩
theorem cn_X3 : CallOkN yX3_init cX3_init 1 0 := ⟨(gwm 52 (by decide +kernel) (by decide +kernel)), (gwm 27 (by decide +kernel) (by decide +kernel)), ⟨by decide +kernel, by decide +kernel, by decide +kernel⟩, rfl, (gwm 51 (by decide +kernel) (by decide +kernel))⟩
theorem cn_X5 : CallOkN yX5_init cX5_init 1 0 := ⟨(gwm 79 (by decide +kernel) (by decide +kernel)), (gwm 29 (by decide +kernel) (by decide +kernel)), ⟨by decide +kernel, by decide +kernel, by decide +kernel⟩, rfl, (gwm 78 (by decide +kernel) (by decide +kernel))⟩
theorem cn_X1 : CallOkN yX1_init cX1_init 1 0 := ⟨(gwm 85 (by decide +kernel) (by decide +kernel)), (gwm 30 (by decide +kernel) (by decide +kernel)), ⟨by decide +kernel, by decide +kernel, by decide +kernel⟩, rfl, (gwm 84 (by decide +kernel) (by decide +kernel))⟩
theorem cn_X0 : CallOkN yX0_init cX0_init 1 0 := ⟨(gwm 115 (by decide +kernel) (by decide +kernel)), (gwm 31 (by decide +kernel) (by decide +kernel)), ⟨by decide +kernel, by decide +kernel, by decide +kernel⟩, rfl, (gwm 114 (by decide +kernel) (by decide +kernel))⟩
theorem co_X2_25 : CallOkV RX2 25 yX2_makeNew cX2_makeNew 4 none 2 3 := ⟨⟨(gwm 183 (by decide +kernel) (by decide +kernel)), (gwm 180 (by decide +kernel) (by decide +kernel)), (gwm 28 (by decide +kernel) (by decide +kernel)), by decide +kernel, by decide +kernel, by decide +kernel⟩, (gwm 181 (by decide +kernel) (by decide +kernel)), (gwm 182 (by decide +kernel) (by decide +kernel)), rfl, TX2, 9, rfl⟩
theorem fo_X6_41 : FieldOk RX6 41 0 6 76 true := ⟨RX6, TX6, 7, rfl, rfl, inK0, by decide, rfl, rfl, rfl, (gwm 267 (by decide +kernel) (by decide +kernel))⟩
end WALKV
