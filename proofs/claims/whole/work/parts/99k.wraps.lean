/-! THE LAW'S WRAPPERS -/
section WRAPS
theorem cl_L_28 : Cond.classLink RL 28 (exN 2) ∈ GW := (gwm 650 (by decide +kernel) (by decide +kernel))
theorem cl_L_13 : Cond.classLink RL 13 (exN 0) ∈ GW := (gwm 513 (by decide +kernel) (by decide +kernel))
theorem cl_L_15 : Cond.classLink RL 15 (exN 1) ∈ GW := (gwm 514 (by decide +kernel) (by decide +kernel))
def rw_append : Room := { frames := 7, cells := 2, slots := 12, locals := 121 }
theorem co_L_7 : CallOkV RL 7 yX6_append cX6_append 2 (some .int) 1 0 := ⟨⟨(gwm 518 (by decide +kernel) (by decide +kernel)), (gwm 515 (by decide +kernel) (by decide +kernel)), (gwm 64 (by decide +kernel) (by decide +kernel)), by decide +kernel, by decide +kernel, by decide +kernel⟩, (gwm 516 (by decide +kernel) (by decide +kernel)), (gwm 517 (by decide +kernel) (by decide +kernel)), rfl, TX6, 7, rfl⟩
set_option maxHeartbeats 4000000 in
theorem w_append {κ : Kx} {τ : Nat → Int64} {a1 : Int32} {s0 sR : Mem} {rR : Nat ⊕ Int32} (hf : f6_append a1 s0 = some (rR, sR)) (hcf : ∀ e, rR = .inl e → (cf2 0 1) e ≠ 0) : CtW κ yL_append cL_append 4 (some .int) [(0, 9, 12, 13), (0, 9, 15, 15)] rw_append (NV κ τ) (NV κ (wT τ rR)) [.ref (ad κ.1 0 0), .int a1, .ref (ad κ.1 26 0)] s0 sR (wR (cf2 0 1) rR) := by
  refine ct_W (by decide +kernel) (Nat.le_of_ble_eq_true rfl) (fun φ hc hr ht => ?_)
  have hc : Cx κ φ RL cL_append 4 rw_append := hc
  show G κ φ (QI κ φ _ sR (wR (cf2 0 1) rR) rw_append.cells rw_append.slots) (NV κ τ) 0 0 s0 [(0, .ref (ad κ.1 0 0)), (1, .int a1), (2, .ref (ad κ.1 26 0))] 0 []
  refine g_aload_n (i := 2) hc 2 rfl rfl dL_append_0 (pc2 := 1) rfl ?_
  refine g_iconst (v := (0 : Int32)) hc (by decide) dL_append_1 (pc2 := 2) rfl ?_
  refine g_aload_n (i := 0) hc 0 rfl rfl dL_append_2 (pc2 := 3) rfl ?_
  refine g_iload_n (i := 1) hc 1 rfl rfl dL_append_3 (pc2 := 4) rfl ?_
  refine g_vxI hc (k6_append hf) co_L_7 (u0 (by decide)) rfl rfl (by decide) (by decide) (Nat.le_of_ble_eq_true rfl) dL_append_4 (pc2 := 7) rfl (fun x hx => ?_) (fun x hx => ?_)
  · subst hx
    have hx0 := hcf x rfl
    by_cases e0 : x = 0
    · subst e0
      refine g_catch hc ht (x := 0) [] ⟨0, 9, 12, 13⟩ [⟨0, 9, 15, 15⟩] rfl (fun y hy => nomatch hy) rfl (by decide) cl_L_13 (fun q => ?_)
      refine g_astore_n (i := 3) (L1 := [(3, .ref q), (0, .ref (ad κ.1 0 0)), (1, .int a1), (2, .ref (ad κ.1 26 0))]) hc rfl (by decide) rfl dL_append_12 (pc2 := 13) rfl ?_
      refine g_iconst (v := (1 : Int32)) hc (by decide) dL_append_13 (pc2 := 14) rfl ?_
      exact g_iret hc rfl hr rfl (by decide) (by decide) dL_append_14
    by_cases e1 : x = 1
    · subst e1
      refine g_catch hc ht (x := 1) [⟨0, 9, 12, 13⟩] ⟨0, 9, 15, 15⟩ [] rfl (by simp only [List.mem_cons, List.not_mem_nil, or_false, forall_eq_or_imp, forall_eq]; exact ⟨by decide, 0, cl_L_13, by decide⟩) rfl (by decide) cl_L_15 (fun q => ?_)
      refine g_astore_n (i := 3) (L1 := [(3, .ref q), (0, .ref (ad κ.1 0 0)), (1, .int a1), (2, .ref (ad κ.1 26 0))]) hc rfl (by decide) rfl dL_append_15 (pc2 := 16) rfl ?_
      refine g_iconst (v := (2 : Int32)) hc (by decide) dL_append_16 (pc2 := 17) rfl ?_
      exact g_iret hc rfl hr rfl (by decide) (by decide) dL_append_17
    exact absurd (show (cf2 0 1) x = 0 by simp [cf2, e0, e1]) hx0
  · subst hx
    refine g_i2l hc dL_append_7 (pc2 := 8) rfl ?_
    refine g_last hc dL_append_8 (pc2 := 9) rfl ?_
    refine g_goto hc 18 (by decide) dL_append_9 ?_
    refine g_iconst (v := (0 : Int32)) hc (by decide) dL_append_18 (pc2 := 19) rfl ?_
    exact g_iret hc rfl hr rfl (by decide) (by decide) dL_append_19
def rw_load : Room := { frames := 7, cells := 1, slots := 6, locals := 159 }
theorem co_L_17 : CallOkV RL 17 yX6_load cX6_load 2 (some .int) 0 0 := ⟨⟨(gwm 617 (by decide +kernel) (by decide +kernel)), (gwm 614 (by decide +kernel) (by decide +kernel)), (gwm 64 (by decide +kernel) (by decide +kernel)), by decide +kernel, by decide +kernel, by decide +kernel⟩, (gwm 615 (by decide +kernel) (by decide +kernel)), (gwm 616 (by decide +kernel) (by decide +kernel)), rfl, TX6, 7, rfl⟩
set_option maxHeartbeats 4000000 in
theorem w_load {κ : Kx} {τ : Nat → Int64}  {s0 sR : Mem} {rR : Nat ⊕ Int32} (hf : f6_load  s0 = some (rR, sR)) (hcf : ∀ e, rR = .inl e → (cf1 1) e ≠ 0) : CtW κ yL_load cL_load 3 (some .int) [(0, 8, 11, 15)] rw_load (NV κ τ) (NV κ (wT τ rR)) [.ref (ad κ.1 0 0), .ref (ad κ.1 26 0)] s0 sR (wR (cf1 1) rR) := by
  refine ct_W (by decide +kernel) (Nat.le_of_ble_eq_true rfl) (fun φ hc hr ht => ?_)
  have hc : Cx κ φ RL cL_load 3 rw_load := hc
  show G κ φ (QI κ φ _ sR (wR (cf1 1) rR) rw_load.cells rw_load.slots) (NV κ τ) 0 0 s0 [(0, .ref (ad κ.1 0 0)), (1, .ref (ad κ.1 26 0))] 0 []
  refine g_aload_n (i := 1) hc 1 rfl rfl dL_load_0 (pc2 := 1) rfl ?_
  refine g_iconst (v := (0 : Int32)) hc (by decide) dL_load_1 (pc2 := 2) rfl ?_
  refine g_aload_n (i := 0) hc 0 rfl rfl dL_load_2 (pc2 := 3) rfl ?_
  refine g_vxI hc (k6_load hf) co_L_17 (u0 (by decide)) rfl rfl (by decide) (by decide) (Nat.le_of_ble_eq_true rfl) dL_load_3 (pc2 := 6) rfl (fun x hx => ?_) (fun x hx => ?_)
  · subst hx
    have hx0 := hcf x rfl
    by_cases e1 : x = 1
    · subst e1
      refine g_catch hc ht (x := 1) [] ⟨0, 8, 11, 15⟩ [] rfl (fun y hy => nomatch hy) rfl (by decide) cl_L_15 (fun q => ?_)
      refine g_astore_n (i := 2) (L1 := [(2, .ref q), (0, .ref (ad κ.1 0 0)), (1, .ref (ad κ.1 26 0))]) hc rfl (by decide) rfl dL_load_11 (pc2 := 12) rfl ?_
      refine g_iconst (v := (1 : Int32)) hc (by decide) dL_load_12 (pc2 := 13) rfl ?_
      exact g_iret hc rfl hr rfl (by decide) (by decide) dL_load_13
    exact absurd (show (cf1 1) x = 0 by simp [cf1, e1]) hx0
  · subst hx
    refine g_i2l hc dL_load_6 (pc2 := 7) rfl ?_
    refine g_last hc dL_load_7 (pc2 := 8) rfl ?_
    refine g_goto hc 14 (by decide) dL_load_8 ?_
    refine g_iconst (v := (0 : Int32)) hc (by decide) dL_load_14 (pc2 := 15) rfl ?_
    exact g_iret hc rfl hr rfl (by decide) (by decide) dL_load_15
def rw_about : Room := { frames := 7, cells := 1, slots := 6, locals := 121 }
theorem co_L_21 : CallOkV RL 21 yX6_about cX6_about 2 (some .int) 1 0 := ⟨⟨(gwm 633 (by decide +kernel) (by decide +kernel)), (gwm 630 (by decide +kernel) (by decide +kernel)), (gwm 64 (by decide +kernel) (by decide +kernel)), by decide +kernel, by decide +kernel, by decide +kernel⟩, (gwm 631 (by decide +kernel) (by decide +kernel)), (gwm 632 (by decide +kernel) (by decide +kernel)), rfl, TX6, 7, rfl⟩
set_option maxHeartbeats 4000000 in
theorem w_about {κ : Kx} {τ : Nat → Int64} {a1 : Int32} {s0 sR : Mem} {rR : Nat ⊕ Int32} (hf : f6_about a1 s0 = some (rR, sR)) (hcf : ∀ e, rR = .inl e → (cf1 0) e ≠ 0) : CtW κ yL_about cL_about 4 (some .int) [(0, 9, 12, 13)] rw_about (NV κ τ) (NV κ (wT τ rR)) [.ref (ad κ.1 0 0), .int a1, .ref (ad κ.1 26 0)] s0 sR (wR (cf1 0) rR) := by
  refine ct_W (by decide +kernel) (Nat.le_of_ble_eq_true rfl) (fun φ hc hr ht => ?_)
  have hc : Cx κ φ RL cL_about 4 rw_about := hc
  show G κ φ (QI κ φ _ sR (wR (cf1 0) rR) rw_about.cells rw_about.slots) (NV κ τ) 0 0 s0 [(0, .ref (ad κ.1 0 0)), (1, .int a1), (2, .ref (ad κ.1 26 0))] 0 []
  refine g_aload_n (i := 2) hc 2 rfl rfl dL_about_0 (pc2 := 1) rfl ?_
  refine g_iconst (v := (0 : Int32)) hc (by decide) dL_about_1 (pc2 := 2) rfl ?_
  refine g_aload_n (i := 0) hc 0 rfl rfl dL_about_2 (pc2 := 3) rfl ?_
  refine g_iload_n (i := 1) hc 1 rfl rfl dL_about_3 (pc2 := 4) rfl ?_
  refine g_vxI hc (k6_about hf) co_L_21 (u0 (by decide)) rfl rfl (by decide) (by decide) (Nat.le_of_ble_eq_true rfl) dL_about_4 (pc2 := 7) rfl (fun x hx => ?_) (fun x hx => ?_)
  · subst hx
    have hx0 := hcf x rfl
    by_cases e0 : x = 0
    · subst e0
      refine g_catch hc ht (x := 0) [] ⟨0, 9, 12, 13⟩ [] rfl (fun y hy => nomatch hy) rfl (by decide) cl_L_13 (fun q => ?_)
      refine g_astore_n (i := 3) (L1 := [(3, .ref q), (0, .ref (ad κ.1 0 0)), (1, .int a1), (2, .ref (ad κ.1 26 0))]) hc rfl (by decide) rfl dL_about_12 (pc2 := 13) rfl ?_
      refine g_iconst (v := (1 : Int32)) hc (by decide) dL_about_13 (pc2 := 14) rfl ?_
      exact g_iret hc rfl hr rfl (by decide) (by decide) dL_about_14
    exact absurd (show (cf1 0) x = 0 by simp [cf1, e0]) hx0
  · subst hx
    refine g_i2l hc dL_about_7 (pc2 := 8) rfl ?_
    refine g_last hc dL_about_8 (pc2 := 9) rfl ?_
    refine g_goto hc 15 (by decide) dL_about_9 ?_
    refine g_iconst (v := (0 : Int32)) hc (by decide) dL_about_15 (pc2 := 16) rfl ?_
    exact g_iret hc rfl hr rfl (by decide) (by decide) dL_about_16
def rw_master : Room := { frames := 8, cells := 2, slots := 12, locals := 144 }
theorem co_L_24 : CallOkV RL 24 yX6_master cX6_master 4 (some .int) 2 0 := ⟨⟨(gwm 654 (by decide +kernel) (by decide +kernel)), (gwm 651 (by decide +kernel) (by decide +kernel)), (gwm 64 (by decide +kernel) (by decide +kernel)), by decide +kernel, by decide +kernel, by decide +kernel⟩, (gwm 652 (by decide +kernel) (by decide +kernel)), (gwm 653 (by decide +kernel) (by decide +kernel)), rfl, TX6, 7, rfl⟩
set_option maxHeartbeats 4000000 in
theorem w_master {κ : Kx} {τ : Nat → Int64} {a1 : Int32} {a2 : Int32} {s0 sR : Mem} {rR : Nat ⊕ Int32} (hf : f6_master a1 a2 s0 = some (rR, sR)) (hcf : ∀ e, rR = .inl e → (cf2 2 0) e ≠ 0) : CtW κ yL_master cL_master 5 (some .int) [(0, 10, 13, 28), (0, 10, 17, 13)] rw_master (NV κ τ) (NV κ (wT τ rR)) [.ref (ad κ.1 0 0), .int a1, .int a2, .ref (ad κ.1 26 0)] s0 sR (wR (cf2 2 0) rR) := by
  refine ct_W (by decide +kernel) (Nat.le_of_ble_eq_true rfl) (fun φ hc hr ht => ?_)
  have hc : Cx κ φ RL cL_master 5 rw_master := hc
  show G κ φ (QI κ φ _ sR (wR (cf2 2 0) rR) rw_master.cells rw_master.slots) (NV κ τ) 0 0 s0 [(0, .ref (ad κ.1 0 0)), (1, .int a1), (2, .int a2), (3, .ref (ad κ.1 26 0))] 0 []
  refine g_aload_n (i := 3) hc 3 rfl rfl dL_master_0 (pc2 := 1) rfl ?_
  refine g_iconst (v := (0 : Int32)) hc (by decide) dL_master_1 (pc2 := 2) rfl ?_
  refine g_aload_n (i := 0) hc 0 rfl rfl dL_master_2 (pc2 := 3) rfl ?_
  refine g_iload_n (i := 1) hc 1 rfl rfl dL_master_3 (pc2 := 4) rfl ?_
  refine g_iload_n (i := 2) hc 2 rfl rfl dL_master_4 (pc2 := 5) rfl ?_
  refine g_vxI hc (k6_master hf) co_L_24 (u0 (by decide)) rfl rfl (by decide) (by decide) (Nat.le_of_ble_eq_true rfl) dL_master_5 (pc2 := 8) rfl (fun x hx => ?_) (fun x hx => ?_)
  · subst hx
    have hx0 := hcf x rfl
    by_cases e2 : x = 2
    · subst e2
      refine g_catch hc ht (x := 2) [] ⟨0, 10, 13, 28⟩ [⟨0, 10, 17, 13⟩] rfl (fun y hy => nomatch hy) rfl (by decide) cl_L_28 (fun q => ?_)
      refine g_astore (L1 := [(4, .ref q), (0, .ref (ad κ.1 0 0)), (1, .int a1), (2, .int a2), (3, .ref (ad κ.1 26 0))]) hc (by decide) rfl dL_master_13 (pc2 := 15) rfl ?_
      refine g_iconst (v := (1 : Int32)) hc (by decide) dL_master_15 (pc2 := 16) rfl ?_
      exact g_iret hc rfl hr rfl (by decide) (by decide) dL_master_16
    by_cases e0 : x = 0
    · subst e0
      refine g_catch hc ht (x := 0) [⟨0, 10, 13, 28⟩] ⟨0, 10, 17, 13⟩ [] rfl (by simp only [List.mem_cons, List.not_mem_nil, or_false, forall_eq_or_imp, forall_eq]; exact ⟨by decide, 2, cl_L_28, by decide⟩) rfl (by decide) cl_L_13 (fun q => ?_)
      refine g_astore (L1 := [(4, .ref q), (0, .ref (ad κ.1 0 0)), (1, .int a1), (2, .int a2), (3, .ref (ad κ.1 26 0))]) hc (by decide) rfl dL_master_17 (pc2 := 19) rfl ?_
      refine g_iconst (v := (2 : Int32)) hc (by decide) dL_master_19 (pc2 := 20) rfl ?_
      exact g_iret hc rfl hr rfl (by decide) (by decide) dL_master_20
    exact absurd (show (cf2 2 0) x = 0 by simp [cf2, e2, e0]) hx0
  · subst hx
    refine g_i2l hc dL_master_8 (pc2 := 9) rfl ?_
    refine g_last hc dL_master_9 (pc2 := 10) rfl ?_
    refine g_goto hc 21 (by decide) dL_master_10 ?_
    refine g_iconst (v := (0 : Int32)) hc (by decide) dL_master_21 (pc2 := 22) rfl ?_
    exact g_iret hc rfl hr rfl (by decide) (by decide) dL_master_22
def rw_owner : Room := { frames := 8, cells := 1, slots := 6, locals := 142 }
theorem co_L_30 : CallOkV RL 30 yX6_owner cX6_owner 2 (some .int) 1 0 := ⟨⟨(gwm 693 (by decide +kernel) (by decide +kernel)), (gwm 690 (by decide +kernel) (by decide +kernel)), (gwm 64 (by decide +kernel) (by decide +kernel)), by decide +kernel, by decide +kernel, by decide +kernel⟩, (gwm 691 (by decide +kernel) (by decide +kernel)), (gwm 692 (by decide +kernel) (by decide +kernel)), rfl, TX6, 7, rfl⟩
set_option maxHeartbeats 4000000 in
theorem w_owner {κ : Kx} {τ : Nat → Int64} {a1 : Int32} {s0 sR : Mem} {rR : Nat ⊕ Int32} (hf : f6_owner a1 s0 = some (rR, sR)) (hcf : ∀ e, rR = .inl e → (cf1 2) e ≠ 0) : CtW κ yL_owner cL_owner 4 (some .int) [(0, 9, 12, 28)] rw_owner (NV κ τ) (NV κ (wT τ rR)) [.ref (ad κ.1 0 0), .int a1, .ref (ad κ.1 26 0)] s0 sR (wR (cf1 2) rR) := by
  refine ct_W (by decide +kernel) (Nat.le_of_ble_eq_true rfl) (fun φ hc hr ht => ?_)
  have hc : Cx κ φ RL cL_owner 4 rw_owner := hc
  show G κ φ (QI κ φ _ sR (wR (cf1 2) rR) rw_owner.cells rw_owner.slots) (NV κ τ) 0 0 s0 [(0, .ref (ad κ.1 0 0)), (1, .int a1), (2, .ref (ad κ.1 26 0))] 0 []
  refine g_aload_n (i := 2) hc 2 rfl rfl dL_owner_0 (pc2 := 1) rfl ?_
  refine g_iconst (v := (0 : Int32)) hc (by decide) dL_owner_1 (pc2 := 2) rfl ?_
  refine g_aload_n (i := 0) hc 0 rfl rfl dL_owner_2 (pc2 := 3) rfl ?_
  refine g_iload_n (i := 1) hc 1 rfl rfl dL_owner_3 (pc2 := 4) rfl ?_
  refine g_vxI hc (k6_owner hf) co_L_30 (u0 (by decide)) rfl rfl (by decide) (by decide) (Nat.le_of_ble_eq_true rfl) dL_owner_4 (pc2 := 7) rfl (fun x hx => ?_) (fun x hx => ?_)
  · subst hx
    have hx0 := hcf x rfl
    by_cases e2 : x = 2
    · subst e2
      refine g_catch hc ht (x := 2) [] ⟨0, 9, 12, 28⟩ [] rfl (fun y hy => nomatch hy) rfl (by decide) cl_L_28 (fun q => ?_)
      refine g_astore_n (i := 3) (L1 := [(3, .ref q), (0, .ref (ad κ.1 0 0)), (1, .int a1), (2, .ref (ad κ.1 26 0))]) hc rfl (by decide) rfl dL_owner_12 (pc2 := 13) rfl ?_
      refine g_iconst (v := (1 : Int32)) hc (by decide) dL_owner_13 (pc2 := 14) rfl ?_
      exact g_iret hc rfl hr rfl (by decide) (by decide) dL_owner_14
    exact absurd (show (cf1 2) x = 0 by simp [cf1, e2]) hx0
  · subst hx
    refine g_i2l hc dL_owner_7 (pc2 := 8) rfl ?_
    refine g_last hc dL_owner_8 (pc2 := 9) rfl ?_
    refine g_goto hc 15 (by decide) dL_owner_9 ?_
    refine g_iconst (v := (0 : Int32)) hc (by decide) dL_owner_15 (pc2 := 16) rfl ?_
    exact g_iret hc rfl hr rfl (by decide) (by decide) dL_owner_16
def rw_owes : Room := { frames := 8, cells := 2, slots := 12, locals := 143 }
theorem co_L_33 : CallOkV RL 33 yX6_owes cX6_owes 3 (some .int) 2 0 := ⟨⟨(gwm 706 (by decide +kernel) (by decide +kernel)), (gwm 703 (by decide +kernel) (by decide +kernel)), (gwm 64 (by decide +kernel) (by decide +kernel)), by decide +kernel, by decide +kernel, by decide +kernel⟩, (gwm 704 (by decide +kernel) (by decide +kernel)), (gwm 705 (by decide +kernel) (by decide +kernel)), rfl, TX6, 7, rfl⟩
set_option maxHeartbeats 4000000 in
theorem w_owes {κ : Kx} {τ : Nat → Int64} {a1 : Int32} {a2 : Int32} {s0 sR : Mem} {rR : Nat ⊕ Int32} (hf : f6_owes a1 a2 s0 = some (rR, sR)) (hcf : ∀ e, rR = .inl e → (cf1 2) e ≠ 0) : CtW κ yL_owes cL_owes 5 (some .int) [(0, 10, 13, 28)] rw_owes (NV κ τ) (NV κ (wT τ rR)) [.ref (ad κ.1 0 0), .int a1, .int a2, .ref (ad κ.1 26 0)] s0 sR (wR (cf1 2) rR) := by
  refine ct_W (by decide +kernel) (Nat.le_of_ble_eq_true rfl) (fun φ hc hr ht => ?_)
  have hc : Cx κ φ RL cL_owes 5 rw_owes := hc
  show G κ φ (QI κ φ _ sR (wR (cf1 2) rR) rw_owes.cells rw_owes.slots) (NV κ τ) 0 0 s0 [(0, .ref (ad κ.1 0 0)), (1, .int a1), (2, .int a2), (3, .ref (ad κ.1 26 0))] 0 []
  refine g_aload_n (i := 3) hc 3 rfl rfl dL_owes_0 (pc2 := 1) rfl ?_
  refine g_iconst (v := (0 : Int32)) hc (by decide) dL_owes_1 (pc2 := 2) rfl ?_
  refine g_aload_n (i := 0) hc 0 rfl rfl dL_owes_2 (pc2 := 3) rfl ?_
  refine g_iload_n (i := 1) hc 1 rfl rfl dL_owes_3 (pc2 := 4) rfl ?_
  refine g_iload_n (i := 2) hc 2 rfl rfl dL_owes_4 (pc2 := 5) rfl ?_
  refine g_vxI hc (k6_owes hf) co_L_33 (u0 (by decide)) rfl rfl (by decide) (by decide) (Nat.le_of_ble_eq_true rfl) dL_owes_5 (pc2 := 8) rfl (fun x hx => ?_) (fun x hx => ?_)
  · subst hx
    have hx0 := hcf x rfl
    by_cases e2 : x = 2
    · subst e2
      refine g_catch hc ht (x := 2) [] ⟨0, 10, 13, 28⟩ [] rfl (fun y hy => nomatch hy) rfl (by decide) cl_L_28 (fun q => ?_)
      refine g_astore (L1 := [(4, .ref q), (0, .ref (ad κ.1 0 0)), (1, .int a1), (2, .int a2), (3, .ref (ad κ.1 26 0))]) hc (by decide) rfl dL_owes_13 (pc2 := 15) rfl ?_
      refine g_iconst (v := (1 : Int32)) hc (by decide) dL_owes_15 (pc2 := 16) rfl ?_
      exact g_iret hc rfl hr rfl (by decide) (by decide) dL_owes_16
    exact absurd (show (cf1 2) x = 0 by simp [cf1, e2]) hx0
  · subst hx
    refine g_i2l hc dL_owes_8 (pc2 := 9) rfl ?_
    refine g_last hc dL_owes_9 (pc2 := 10) rfl ?_
    refine g_goto hc 17 (by decide) dL_owes_10 ?_
    refine g_iconst (v := (0 : Int32)) hc (by decide) dL_owes_17 (pc2 := 18) rfl ?_
    exact g_iret hc rfl hr rfl (by decide) (by decide) dL_owes_18
def rw_burst : Room := { frames := 8, cells := 2, slots := 12, locals := 145 }
theorem co_L_36 : CallOkV RL 36 yX6_burst cX6_burst 5 (some .int) 3 0 := ⟨⟨(gwm 713 (by decide +kernel) (by decide +kernel)), (gwm 710 (by decide +kernel) (by decide +kernel)), (gwm 64 (by decide +kernel) (by decide +kernel)), by decide +kernel, by decide +kernel, by decide +kernel⟩, (gwm 711 (by decide +kernel) (by decide +kernel)), (gwm 712 (by decide +kernel) (by decide +kernel)), rfl, TX6, 7, rfl⟩
set_option maxHeartbeats 4000000 in
theorem w_burst {κ : Kx} {τ : Nat → Int64} {a1 : Int32} {a2 : Int32} {a3 : Int32} {s0 sR : Mem} {rR : Nat ⊕ Int32} (hf : f6_burst a1 a2 a3 s0 = some (rR, sR)) (hcf : ∀ e, rR = .inl e → (cf2 2 0) e ≠ 0) : CtW κ yL_burst cL_burst 6 (some .int) [(0, 12, 15, 28), (0, 12, 19, 13)] rw_burst (NV κ τ) (NV κ (wT τ rR)) [.ref (ad κ.1 0 0), .int a1, .int a2, .int a3, .ref (ad κ.1 26 0)] s0 sR (wR (cf2 2 0) rR) := by
  refine ct_W (by decide +kernel) (Nat.le_of_ble_eq_true rfl) (fun φ hc hr ht => ?_)
  have hc : Cx κ φ RL cL_burst 6 rw_burst := hc
  show G κ φ (QI κ φ _ sR (wR (cf2 2 0) rR) rw_burst.cells rw_burst.slots) (NV κ τ) 0 0 s0 [(0, .ref (ad κ.1 0 0)), (1, .int a1), (2, .int a2), (3, .int a3), (4, .ref (ad κ.1 26 0))] 0 []
  refine g_aload hc 4 rfl dL_burst_0 (pc2 := 2) rfl ?_
  refine g_iconst (v := (0 : Int32)) hc (by decide) dL_burst_2 (pc2 := 3) rfl ?_
  refine g_aload_n (i := 0) hc 0 rfl rfl dL_burst_3 (pc2 := 4) rfl ?_
  refine g_iload_n (i := 1) hc 1 rfl rfl dL_burst_4 (pc2 := 5) rfl ?_
  refine g_iload_n (i := 2) hc 2 rfl rfl dL_burst_5 (pc2 := 6) rfl ?_
  refine g_iload_n (i := 3) hc 3 rfl rfl dL_burst_6 (pc2 := 7) rfl ?_
  refine g_vxI hc (k6_burst hf) co_L_36 (u0 (by decide)) rfl rfl (by decide) (by decide) (Nat.le_of_ble_eq_true rfl) dL_burst_7 (pc2 := 10) rfl (fun x hx => ?_) (fun x hx => ?_)
  · subst hx
    have hx0 := hcf x rfl
    by_cases e2 : x = 2
    · subst e2
      refine g_catch hc ht (x := 2) [] ⟨0, 12, 15, 28⟩ [⟨0, 12, 19, 13⟩] rfl (fun y hy => nomatch hy) rfl (by decide) cl_L_28 (fun q => ?_)
      refine g_astore (L1 := [(5, .ref q), (0, .ref (ad κ.1 0 0)), (1, .int a1), (2, .int a2), (3, .int a3), (4, .ref (ad κ.1 26 0))]) hc (by decide) rfl dL_burst_15 (pc2 := 17) rfl ?_
      refine g_iconst (v := (1 : Int32)) hc (by decide) dL_burst_17 (pc2 := 18) rfl ?_
      exact g_iret hc rfl hr rfl (by decide) (by decide) dL_burst_18
    by_cases e0 : x = 0
    · subst e0
      refine g_catch hc ht (x := 0) [⟨0, 12, 15, 28⟩] ⟨0, 12, 19, 13⟩ [] rfl (by simp only [List.mem_cons, List.not_mem_nil, or_false, forall_eq_or_imp, forall_eq]; exact ⟨by decide, 2, cl_L_28, by decide⟩) rfl (by decide) cl_L_13 (fun q => ?_)
      refine g_astore (L1 := [(5, .ref q), (0, .ref (ad κ.1 0 0)), (1, .int a1), (2, .int a2), (3, .int a3), (4, .ref (ad κ.1 26 0))]) hc (by decide) rfl dL_burst_19 (pc2 := 21) rfl ?_
      refine g_iconst (v := (2 : Int32)) hc (by decide) dL_burst_21 (pc2 := 22) rfl ?_
      exact g_iret hc rfl hr rfl (by decide) (by decide) dL_burst_22
    exact absurd (show (cf2 2 0) x = 0 by simp [cf2, e2, e0]) hx0
  · subst hx
    refine g_i2l hc dL_burst_10 (pc2 := 11) rfl ?_
    refine g_last hc dL_burst_11 (pc2 := 12) rfl ?_
    refine g_goto hc 23 (by decide) dL_burst_12 ?_
    refine g_iconst (v := (0 : Int32)) hc (by decide) dL_burst_23 (pc2 := 24) rfl ?_
    exact g_iret hc rfl hr rfl (by decide) (by decide) dL_burst_24
def rw_order : Room := { frames := 7, cells := 1, slots := 6, locals := 122 }
theorem co_L_40 : CallOkV RL 40 yX6_order cX6_order 3 (some .int) 1 0 := ⟨⟨(gwm 721 (by decide +kernel) (by decide +kernel)), (gwm 718 (by decide +kernel) (by decide +kernel)), (gwm 64 (by decide +kernel) (by decide +kernel)), by decide +kernel, by decide +kernel, by decide +kernel⟩, (gwm 719 (by decide +kernel) (by decide +kernel)), (gwm 720 (by decide +kernel) (by decide +kernel)), rfl, TX6, 7, rfl⟩
set_option maxHeartbeats 4000000 in
theorem w_order {κ : Kx} {τ : Nat → Int64} {a1 : Int32} {s0 sR : Mem} {rR : Nat ⊕ Int32} (hf : f6_order a1 s0 = some (rR, sR)) (hcf : ∀ e, rR = .inl e → (cf1 0) e ≠ 0) : CtW κ yL_order cL_order 4 (some .int) [(0, 9, 12, 13)] rw_order (NV κ τ) (NV κ (wT τ rR)) [.ref (ad κ.1 0 0), .int a1, .ref (ad κ.1 26 0)] s0 sR (wR (cf1 0) rR) := by
  refine ct_W (by decide +kernel) (Nat.le_of_ble_eq_true rfl) (fun φ hc hr ht => ?_)
  have hc : Cx κ φ RL cL_order 4 rw_order := hc
  show G κ φ (QI κ φ _ sR (wR (cf1 0) rR) rw_order.cells rw_order.slots) (NV κ τ) 0 0 s0 [(0, .ref (ad κ.1 0 0)), (1, .int a1), (2, .ref (ad κ.1 26 0))] 0 []
  refine g_aload_n (i := 2) hc 2 rfl rfl dL_order_0 (pc2 := 1) rfl ?_
  refine g_iconst (v := (0 : Int32)) hc (by decide) dL_order_1 (pc2 := 2) rfl ?_
  refine g_aload_n (i := 0) hc 0 rfl rfl dL_order_2 (pc2 := 3) rfl ?_
  refine g_iload_n (i := 1) hc 1 rfl rfl dL_order_3 (pc2 := 4) rfl ?_
  refine g_vxI hc (k6_order hf) co_L_40 (u0 (by decide)) rfl rfl (by decide) (by decide) (Nat.le_of_ble_eq_true rfl) dL_order_4 (pc2 := 7) rfl (fun x hx => ?_) (fun x hx => ?_)
  · subst hx
    have hx0 := hcf x rfl
    by_cases e0 : x = 0
    · subst e0
      refine g_catch hc ht (x := 0) [] ⟨0, 9, 12, 13⟩ [] rfl (fun y hy => nomatch hy) rfl (by decide) cl_L_13 (fun q => ?_)
      refine g_astore_n (i := 3) (L1 := [(3, .ref q), (0, .ref (ad κ.1 0 0)), (1, .int a1), (2, .ref (ad κ.1 26 0))]) hc rfl (by decide) rfl dL_order_12 (pc2 := 13) rfl ?_
      refine g_iconst (v := (1 : Int32)) hc (by decide) dL_order_13 (pc2 := 14) rfl ?_
      exact g_iret hc rfl hr rfl (by decide) (by decide) dL_order_14
    exact absurd (show (cf1 0) x = 0 by simp [cf1, e0]) hx0
  · subst hx
    refine g_i2l hc dL_order_7 (pc2 := 8) rfl ?_
    refine g_last hc dL_order_8 (pc2 := 9) rfl ?_
    refine g_goto hc 15 (by decide) dL_order_9 ?_
    refine g_iconst (v := (0 : Int32)) hc (by decide) dL_order_15 (pc2 := 16) rfl ?_
    exact g_iret hc rfl hr rfl (by decide) (by decide) dL_order_16
def rw_addMaster : Room := { frames := 7, cells := 1, slots := 6, locals := 120 }
theorem co_L_43 : CallOkV RL 43 yX6_addMaster cX6_addMaster 1 (some .int) 0 0 := ⟨⟨(gwm 733 (by decide +kernel) (by decide +kernel)), (gwm 730 (by decide +kernel) (by decide +kernel)), (gwm 64 (by decide +kernel) (by decide +kernel)), by decide +kernel, by decide +kernel, by decide +kernel⟩, (gwm 731 (by decide +kernel) (by decide +kernel)), (gwm 732 (by decide +kernel) (by decide +kernel)), rfl, TX6, 7, rfl⟩
set_option maxHeartbeats 4000000 in
theorem w_addMaster {κ : Kx} {τ : Nat → Int64}  {s0 sR : Mem} {rR : Nat ⊕ Int32} (hf : f6_addMaster  s0 = some (rR, sR)) (hcf : ∀ e, rR = .inl e → (cf1 1) e ≠ 0) : CtW κ yL_addMaster cL_addMaster 3 (some .int) [(0, 8, 11, 15)] rw_addMaster (NV κ τ) (NV κ (wT τ rR)) [.ref (ad κ.1 0 0), .ref (ad κ.1 26 0)] s0 sR (wR (cf1 1) rR) := by
  refine ct_W (by decide +kernel) (Nat.le_of_ble_eq_true rfl) (fun φ hc hr ht => ?_)
  have hc : Cx κ φ RL cL_addMaster 3 rw_addMaster := hc
  show G κ φ (QI κ φ _ sR (wR (cf1 1) rR) rw_addMaster.cells rw_addMaster.slots) (NV κ τ) 0 0 s0 [(0, .ref (ad κ.1 0 0)), (1, .ref (ad κ.1 26 0))] 0 []
  refine g_aload_n (i := 1) hc 1 rfl rfl dL_addMaster_0 (pc2 := 1) rfl ?_
  refine g_iconst (v := (0 : Int32)) hc (by decide) dL_addMaster_1 (pc2 := 2) rfl ?_
  refine g_aload_n (i := 0) hc 0 rfl rfl dL_addMaster_2 (pc2 := 3) rfl ?_
  refine g_vxI hc (k6_addMaster hf) co_L_43 (u0 (by decide)) rfl rfl (by decide) (by decide) (Nat.le_of_ble_eq_true rfl) dL_addMaster_3 (pc2 := 6) rfl (fun x hx => ?_) (fun x hx => ?_)
  · subst hx
    have hx0 := hcf x rfl
    by_cases e1 : x = 1
    · subst e1
      refine g_catch hc ht (x := 1) [] ⟨0, 8, 11, 15⟩ [] rfl (fun y hy => nomatch hy) rfl (by decide) cl_L_15 (fun q => ?_)
      refine g_astore_n (i := 2) (L1 := [(2, .ref q), (0, .ref (ad κ.1 0 0)), (1, .ref (ad κ.1 26 0))]) hc rfl (by decide) rfl dL_addMaster_11 (pc2 := 12) rfl ?_
      refine g_iconst (v := (1 : Int32)) hc (by decide) dL_addMaster_12 (pc2 := 13) rfl ?_
      exact g_iret hc rfl hr rfl (by decide) (by decide) dL_addMaster_13
    exact absurd (show (cf1 1) x = 0 by simp [cf1, e1]) hx0
  · subst hx
    refine g_i2l hc dL_addMaster_6 (pc2 := 7) rfl ?_
    refine g_last hc dL_addMaster_7 (pc2 := 8) rfl ?_
    refine g_goto hc 14 (by decide) dL_addMaster_8 ?_
    refine g_iconst (v := (0 : Int32)) hc (by decide) dL_addMaster_14 (pc2 := 15) rfl ?_
    exact g_iret hc rfl hr rfl (by decide) (by decide) dL_addMaster_15
def rw_give : Room := { frames := 8, cells := 3, slots := 18, locals := 144 }
theorem co_L_46 : CallOkV RL 46 yX6_give cX6_give 4 (some .int) 2 0 := ⟨⟨(gwm 751 (by decide +kernel) (by decide +kernel)), (gwm 748 (by decide +kernel) (by decide +kernel)), (gwm 64 (by decide +kernel) (by decide +kernel)), by decide +kernel, by decide +kernel, by decide +kernel⟩, (gwm 749 (by decide +kernel) (by decide +kernel)), (gwm 750 (by decide +kernel) (by decide +kernel)), rfl, TX6, 7, rfl⟩
set_option maxHeartbeats 4000000 in
theorem w_give {κ : Kx} {τ : Nat → Int64} {a1 : Int32} {a2 : Int32} {s0 sR : Mem} {rR : Nat ⊕ Int32} (hf : f6_give a1 a2 s0 = some (rR, sR)) (hcf : ∀ e, rR = .inl e → (cf2 2 1) e ≠ 0) : CtW κ yL_give cL_give 5 (some .int) [(0, 10, 13, 28), (0, 10, 17, 15)] rw_give (NV κ τ) (NV κ (wT τ rR)) [.ref (ad κ.1 0 0), .int a1, .int a2, .ref (ad κ.1 26 0)] s0 sR (wR (cf2 2 1) rR) := by
  refine ct_W (by decide +kernel) (Nat.le_of_ble_eq_true rfl) (fun φ hc hr ht => ?_)
  have hc : Cx κ φ RL cL_give 5 rw_give := hc
  show G κ φ (QI κ φ _ sR (wR (cf2 2 1) rR) rw_give.cells rw_give.slots) (NV κ τ) 0 0 s0 [(0, .ref (ad κ.1 0 0)), (1, .int a1), (2, .int a2), (3, .ref (ad κ.1 26 0))] 0 []
  refine g_aload_n (i := 3) hc 3 rfl rfl dL_give_0 (pc2 := 1) rfl ?_
  refine g_iconst (v := (0 : Int32)) hc (by decide) dL_give_1 (pc2 := 2) rfl ?_
  refine g_aload_n (i := 0) hc 0 rfl rfl dL_give_2 (pc2 := 3) rfl ?_
  refine g_iload_n (i := 1) hc 1 rfl rfl dL_give_3 (pc2 := 4) rfl ?_
  refine g_iload_n (i := 2) hc 2 rfl rfl dL_give_4 (pc2 := 5) rfl ?_
  refine g_vxI hc (k6_give hf) co_L_46 (u0 (by decide)) rfl rfl (by decide) (by decide) (Nat.le_of_ble_eq_true rfl) dL_give_5 (pc2 := 8) rfl (fun x hx => ?_) (fun x hx => ?_)
  · subst hx
    have hx0 := hcf x rfl
    by_cases e2 : x = 2
    · subst e2
      refine g_catch hc ht (x := 2) [] ⟨0, 10, 13, 28⟩ [⟨0, 10, 17, 15⟩] rfl (fun y hy => nomatch hy) rfl (by decide) cl_L_28 (fun q => ?_)
      refine g_astore (L1 := [(4, .ref q), (0, .ref (ad κ.1 0 0)), (1, .int a1), (2, .int a2), (3, .ref (ad κ.1 26 0))]) hc (by decide) rfl dL_give_13 (pc2 := 15) rfl ?_
      refine g_iconst (v := (1 : Int32)) hc (by decide) dL_give_15 (pc2 := 16) rfl ?_
      exact g_iret hc rfl hr rfl (by decide) (by decide) dL_give_16
    by_cases e1 : x = 1
    · subst e1
      refine g_catch hc ht (x := 1) [⟨0, 10, 13, 28⟩] ⟨0, 10, 17, 15⟩ [] rfl (by simp only [List.mem_cons, List.not_mem_nil, or_false, forall_eq_or_imp, forall_eq]; exact ⟨by decide, 2, cl_L_28, by decide⟩) rfl (by decide) cl_L_15 (fun q => ?_)
      refine g_astore (L1 := [(4, .ref q), (0, .ref (ad κ.1 0 0)), (1, .int a1), (2, .int a2), (3, .ref (ad κ.1 26 0))]) hc (by decide) rfl dL_give_17 (pc2 := 19) rfl ?_
      refine g_iconst (v := (2 : Int32)) hc (by decide) dL_give_19 (pc2 := 20) rfl ?_
      exact g_iret hc rfl hr rfl (by decide) (by decide) dL_give_20
    exact absurd (show (cf2 2 1) x = 0 by simp [cf2, e2, e1]) hx0
  · subst hx
    refine g_i2l hc dL_give_8 (pc2 := 9) rfl ?_
    refine g_last hc dL_give_9 (pc2 := 10) rfl ?_
    refine g_goto hc 21 (by decide) dL_give_10 ?_
    refine g_iconst (v := (0 : Int32)) hc (by decide) dL_give_21 (pc2 := 22) rfl ?_
    exact g_iret hc rfl hr rfl (by decide) (by decide) dL_give_22
def rw_setLatency : Room := { frames := 8, cells := 2, slots := 12, locals := 144 }
theorem co_L_49 : CallOkV RL 49 yX6_setLatency cX6_setLatency 4 (some .int) 2 0 := ⟨⟨(gwm 759 (by decide +kernel) (by decide +kernel)), (gwm 756 (by decide +kernel) (by decide +kernel)), (gwm 64 (by decide +kernel) (by decide +kernel)), by decide +kernel, by decide +kernel, by decide +kernel⟩, (gwm 757 (by decide +kernel) (by decide +kernel)), (gwm 758 (by decide +kernel) (by decide +kernel)), rfl, TX6, 7, rfl⟩
set_option maxHeartbeats 4000000 in
theorem w_setLatency {κ : Kx} {τ : Nat → Int64} {a1 : Int32} {a2 : Int32} {s0 sR : Mem} {rR : Nat ⊕ Int32} (hf : f6_setLatency a1 a2 s0 = some (rR, sR)) (hcf : ∀ e, rR = .inl e → (cf2 2 0) e ≠ 0) : CtW κ yL_setLatency cL_setLatency 5 (some .int) [(0, 10, 13, 28), (0, 10, 17, 13)] rw_setLatency (NV κ τ) (NV κ (wT τ rR)) [.ref (ad κ.1 0 0), .int a1, .int a2, .ref (ad κ.1 26 0)] s0 sR (wR (cf2 2 0) rR) := by
  refine ct_W (by decide +kernel) (Nat.le_of_ble_eq_true rfl) (fun φ hc hr ht => ?_)
  have hc : Cx κ φ RL cL_setLatency 5 rw_setLatency := hc
  show G κ φ (QI κ φ _ sR (wR (cf2 2 0) rR) rw_setLatency.cells rw_setLatency.slots) (NV κ τ) 0 0 s0 [(0, .ref (ad κ.1 0 0)), (1, .int a1), (2, .int a2), (3, .ref (ad κ.1 26 0))] 0 []
  refine g_aload_n (i := 3) hc 3 rfl rfl dL_setLatency_0 (pc2 := 1) rfl ?_
  refine g_iconst (v := (0 : Int32)) hc (by decide) dL_setLatency_1 (pc2 := 2) rfl ?_
  refine g_aload_n (i := 0) hc 0 rfl rfl dL_setLatency_2 (pc2 := 3) rfl ?_
  refine g_iload_n (i := 1) hc 1 rfl rfl dL_setLatency_3 (pc2 := 4) rfl ?_
  refine g_iload_n (i := 2) hc 2 rfl rfl dL_setLatency_4 (pc2 := 5) rfl ?_
  refine g_vxI hc (k6_setLatency hf) co_L_49 (u0 (by decide)) rfl rfl (by decide) (by decide) (Nat.le_of_ble_eq_true rfl) dL_setLatency_5 (pc2 := 8) rfl (fun x hx => ?_) (fun x hx => ?_)
  · subst hx
    have hx0 := hcf x rfl
    by_cases e2 : x = 2
    · subst e2
      refine g_catch hc ht (x := 2) [] ⟨0, 10, 13, 28⟩ [⟨0, 10, 17, 13⟩] rfl (fun y hy => nomatch hy) rfl (by decide) cl_L_28 (fun q => ?_)
      refine g_astore (L1 := [(4, .ref q), (0, .ref (ad κ.1 0 0)), (1, .int a1), (2, .int a2), (3, .ref (ad κ.1 26 0))]) hc (by decide) rfl dL_setLatency_13 (pc2 := 15) rfl ?_
      refine g_iconst (v := (1 : Int32)) hc (by decide) dL_setLatency_15 (pc2 := 16) rfl ?_
      exact g_iret hc rfl hr rfl (by decide) (by decide) dL_setLatency_16
    by_cases e0 : x = 0
    · subst e0
      refine g_catch hc ht (x := 0) [⟨0, 10, 13, 28⟩] ⟨0, 10, 17, 13⟩ [] rfl (by simp only [List.mem_cons, List.not_mem_nil, or_false, forall_eq_or_imp, forall_eq]; exact ⟨by decide, 2, cl_L_28, by decide⟩) rfl (by decide) cl_L_13 (fun q => ?_)
      refine g_astore (L1 := [(4, .ref q), (0, .ref (ad κ.1 0 0)), (1, .int a1), (2, .int a2), (3, .ref (ad κ.1 26 0))]) hc (by decide) rfl dL_setLatency_17 (pc2 := 19) rfl ?_
      refine g_iconst (v := (2 : Int32)) hc (by decide) dL_setLatency_19 (pc2 := 20) rfl ?_
      exact g_iret hc rfl hr rfl (by decide) (by decide) dL_setLatency_20
    exact absurd (show (cf2 2 0) x = 0 by simp [cf2, e2, e0]) hx0
  · subst hx
    refine g_i2l hc dL_setLatency_8 (pc2 := 9) rfl ?_
    refine g_last hc dL_setLatency_9 (pc2 := 10) rfl ?_
    refine g_goto hc 21 (by decide) dL_setLatency_10 ?_
    refine g_iconst (v := (0 : Int32)) hc (by decide) dL_setLatency_21 (pc2 := 22) rfl ?_
    exact g_iret hc rfl hr rfl (by decide) (by decide) dL_setLatency_22
def rw_setCredit : Room := { frames := 7, cells := 1, slots := 6, locals := 122 }
theorem co_L_52 : CallOkV RL 52 yX6_setCredit cX6_setCredit 3 (some .int) 1 0 := ⟨⟨(gwm 772 (by decide +kernel) (by decide +kernel)), (gwm 769 (by decide +kernel) (by decide +kernel)), (gwm 64 (by decide +kernel) (by decide +kernel)), by decide +kernel, by decide +kernel, by decide +kernel⟩, (gwm 770 (by decide +kernel) (by decide +kernel)), (gwm 771 (by decide +kernel) (by decide +kernel)), rfl, TX6, 7, rfl⟩
set_option maxHeartbeats 4000000 in
theorem w_setCredit {κ : Kx} {τ : Nat → Int64} {a1 : Int32} {s0 sR : Mem} {rR : Nat ⊕ Int32} (hf : f6_setCredit a1 s0 = some (rR, sR)) (hcf : ∀ e, rR = .inl e → (cf1 0) e ≠ 0) : CtW κ yL_setCredit cL_setCredit 4 (some .int) [(0, 9, 12, 13)] rw_setCredit (NV κ τ) (NV κ (wT τ rR)) [.ref (ad κ.1 0 0), .int a1, .ref (ad κ.1 26 0)] s0 sR (wR (cf1 0) rR) := by
  refine ct_W (by decide +kernel) (Nat.le_of_ble_eq_true rfl) (fun φ hc hr ht => ?_)
  have hc : Cx κ φ RL cL_setCredit 4 rw_setCredit := hc
  show G κ φ (QI κ φ _ sR (wR (cf1 0) rR) rw_setCredit.cells rw_setCredit.slots) (NV κ τ) 0 0 s0 [(0, .ref (ad κ.1 0 0)), (1, .int a1), (2, .ref (ad κ.1 26 0))] 0 []
  refine g_aload_n (i := 2) hc 2 rfl rfl dL_setCredit_0 (pc2 := 1) rfl ?_
  refine g_iconst (v := (0 : Int32)) hc (by decide) dL_setCredit_1 (pc2 := 2) rfl ?_
  refine g_aload_n (i := 0) hc 0 rfl rfl dL_setCredit_2 (pc2 := 3) rfl ?_
  refine g_iload_n (i := 1) hc 1 rfl rfl dL_setCredit_3 (pc2 := 4) rfl ?_
  refine g_vxI hc (k6_setCredit hf) co_L_52 (u0 (by decide)) rfl rfl (by decide) (by decide) (Nat.le_of_ble_eq_true rfl) dL_setCredit_4 (pc2 := 7) rfl (fun x hx => ?_) (fun x hx => ?_)
  · subst hx
    have hx0 := hcf x rfl
    by_cases e0 : x = 0
    · subst e0
      refine g_catch hc ht (x := 0) [] ⟨0, 9, 12, 13⟩ [] rfl (fun y hy => nomatch hy) rfl (by decide) cl_L_13 (fun q => ?_)
      refine g_astore_n (i := 3) (L1 := [(3, .ref q), (0, .ref (ad κ.1 0 0)), (1, .int a1), (2, .ref (ad κ.1 26 0))]) hc rfl (by decide) rfl dL_setCredit_12 (pc2 := 13) rfl ?_
      refine g_iconst (v := (1 : Int32)) hc (by decide) dL_setCredit_13 (pc2 := 14) rfl ?_
      exact g_iret hc rfl hr rfl (by decide) (by decide) dL_setCredit_14
    exact absurd (show (cf1 0) x = 0 by simp [cf1, e0]) hx0
  · subst hx
    refine g_i2l hc dL_setCredit_7 (pc2 := 8) rfl ?_
    refine g_last hc dL_setCredit_8 (pc2 := 9) rfl ?_
    refine g_goto hc 15 (by decide) dL_setCredit_9 ?_
    refine g_iconst (v := (0 : Int32)) hc (by decide) dL_setCredit_15 (pc2 := 16) rfl ?_
    exact g_iret hc rfl hr rfl (by decide) (by decide) dL_setCredit_16
def rw_send : Room := { frames := 8, cells := 4, slots := 24, locals := 146 }
theorem co_L_55 : CallOkV RL 55 yX6_send cX6_send 6 (some .int) 4 0 := ⟨⟨(gwm 780 (by decide +kernel) (by decide +kernel)), (gwm 777 (by decide +kernel) (by decide +kernel)), (gwm 64 (by decide +kernel) (by decide +kernel)), by decide +kernel, by decide +kernel, by decide +kernel⟩, (gwm 778 (by decide +kernel) (by decide +kernel)), (gwm 779 (by decide +kernel) (by decide +kernel)), rfl, TX6, 7, rfl⟩
set_option maxHeartbeats 4000000 in
theorem w_send {κ : Kx} {τ : Nat → Int64} {a1 : Int32} {a2 : Int32} {a3 : Int32} {a4 : Int32} {s0 sR : Mem} {rR : Nat ⊕ Int32} (hf : f6_send a1 a2 a3 a4 s0 = some (rR, sR)) (hcf : ∀ e, rR = .inl e → (cf3) e ≠ 0) : CtW κ yL_send cL_send 7 (some .int) [(0, 14, 17, 28), (0, 14, 21, 13), (0, 14, 25, 15)] rw_send (NV κ τ) (NV κ (wT τ rR)) [.ref (ad κ.1 0 0), .int a1, .int a2, .int a3, .int a4, .ref (ad κ.1 26 0)] s0 sR (wR (cf3) rR) := by
  refine ct_W (by decide +kernel) (Nat.le_of_ble_eq_true rfl) (fun φ hc hr ht => ?_)
  have hc : Cx κ φ RL cL_send 7 rw_send := hc
  show G κ φ (QI κ φ _ sR (wR (cf3) rR) rw_send.cells rw_send.slots) (NV κ τ) 0 0 s0 [(0, .ref (ad κ.1 0 0)), (1, .int a1), (2, .int a2), (3, .int a3), (4, .int a4), (5, .ref (ad κ.1 26 0))] 0 []
  refine g_aload hc 5 rfl dL_send_0 (pc2 := 2) rfl ?_
  refine g_iconst (v := (0 : Int32)) hc (by decide) dL_send_2 (pc2 := 3) rfl ?_
  refine g_aload_n (i := 0) hc 0 rfl rfl dL_send_3 (pc2 := 4) rfl ?_
  refine g_iload_n (i := 1) hc 1 rfl rfl dL_send_4 (pc2 := 5) rfl ?_
  refine g_iload_n (i := 2) hc 2 rfl rfl dL_send_5 (pc2 := 6) rfl ?_
  refine g_iload_n (i := 3) hc 3 rfl rfl dL_send_6 (pc2 := 7) rfl ?_
  refine g_iload hc 4 rfl dL_send_7 (pc2 := 9) rfl ?_
  refine g_vxI hc (k6_send hf) co_L_55 (u0 (by decide)) rfl rfl (by decide) (by decide) (Nat.le_of_ble_eq_true rfl) dL_send_9 (pc2 := 12) rfl (fun x hx => ?_) (fun x hx => ?_)
  · subst hx
    have hx0 := hcf x rfl
    by_cases e2 : x = 2
    · subst e2
      refine g_catch hc ht (x := 2) [] ⟨0, 14, 17, 28⟩ [⟨0, 14, 21, 13⟩, ⟨0, 14, 25, 15⟩] rfl (fun y hy => nomatch hy) rfl (by decide) cl_L_28 (fun q => ?_)
      refine g_astore (L1 := [(6, .ref q), (0, .ref (ad κ.1 0 0)), (1, .int a1), (2, .int a2), (3, .int a3), (4, .int a4), (5, .ref (ad κ.1 26 0))]) hc (by decide) rfl dL_send_17 (pc2 := 19) rfl ?_
      refine g_iconst (v := (1 : Int32)) hc (by decide) dL_send_19 (pc2 := 20) rfl ?_
      exact g_iret hc rfl hr rfl (by decide) (by decide) dL_send_20
    by_cases e0 : x = 0
    · subst e0
      refine g_catch hc ht (x := 0) [⟨0, 14, 17, 28⟩] ⟨0, 14, 21, 13⟩ [⟨0, 14, 25, 15⟩] rfl (by simp only [List.mem_cons, List.not_mem_nil, or_false, forall_eq_or_imp, forall_eq]; exact ⟨by decide, 2, cl_L_28, by decide⟩) rfl (by decide) cl_L_13 (fun q => ?_)
      refine g_astore (L1 := [(6, .ref q), (0, .ref (ad κ.1 0 0)), (1, .int a1), (2, .int a2), (3, .int a3), (4, .int a4), (5, .ref (ad κ.1 26 0))]) hc (by decide) rfl dL_send_21 (pc2 := 23) rfl ?_
      refine g_iconst (v := (2 : Int32)) hc (by decide) dL_send_23 (pc2 := 24) rfl ?_
      exact g_iret hc rfl hr rfl (by decide) (by decide) dL_send_24
    by_cases e1 : x = 1
    · subst e1
      refine g_catch hc ht (x := 1) [⟨0, 14, 17, 28⟩, ⟨0, 14, 21, 13⟩] ⟨0, 14, 25, 15⟩ [] rfl (by simp only [List.mem_cons, List.not_mem_nil, or_false, forall_eq_or_imp, forall_eq]; exact ⟨⟨by decide, 2, cl_L_28, by decide⟩, ⟨by decide, 0, cl_L_13, by decide⟩⟩) rfl (by decide) cl_L_15 (fun q => ?_)
      refine g_astore (L1 := [(6, .ref q), (0, .ref (ad κ.1 0 0)), (1, .int a1), (2, .int a2), (3, .int a3), (4, .int a4), (5, .ref (ad κ.1 26 0))]) hc (by decide) rfl dL_send_25 (pc2 := 27) rfl ?_
      refine g_iconst (v := (3 : Int32)) hc (by decide) dL_send_27 (pc2 := 28) rfl ?_
      exact g_iret hc rfl hr rfl (by decide) (by decide) dL_send_28
    exact absurd (show (cf3) x = 0 by simp [cf3, e2, e0, e1]) hx0
  · subst hx
    refine g_i2l hc dL_send_12 (pc2 := 13) rfl ?_
    refine g_last hc dL_send_13 (pc2 := 14) rfl ?_
    refine g_goto hc 29 (by decide) dL_send_14 ?_
    refine g_iconst (v := (0 : Int32)) hc (by decide) dL_send_29 (pc2 := 30) rfl ?_
    exact g_iret hc rfl hr rfl (by decide) (by decide) dL_send_30
def rw_pass : Room := { frames := 7, cells := 1, slots := 6, locals := 135 }
theorem co_L_59 : CallOkV RL 59 yX6_pass cX6_pass 3 (some .int) 1 0 := ⟨⟨(gwm 795 (by decide +kernel) (by decide +kernel)), (gwm 792 (by decide +kernel) (by decide +kernel)), (gwm 64 (by decide +kernel) (by decide +kernel)), by decide +kernel, by decide +kernel, by decide +kernel⟩, (gwm 793 (by decide +kernel) (by decide +kernel)), (gwm 794 (by decide +kernel) (by decide +kernel)), rfl, TX6, 7, rfl⟩
set_option maxHeartbeats 4000000 in
theorem w_pass {κ : Kx} {τ : Nat → Int64} {a1 : Int32} {s0 sR : Mem} {rR : Nat ⊕ Int32} (hf : f6_pass a1 s0 = some (rR, sR)) (hcf : ∀ e, rR = .inl e → (cf1 0) e ≠ 0) : CtW κ yL_pass cL_pass 4 (some .int) [(0, 9, 12, 13)] rw_pass (NV κ τ) (NV κ (wT τ rR)) [.ref (ad κ.1 0 0), .int a1, .ref (ad κ.1 26 0)] s0 sR (wR (cf1 0) rR) := by
  refine ct_W (by decide +kernel) (Nat.le_of_ble_eq_true rfl) (fun φ hc hr ht => ?_)
  have hc : Cx κ φ RL cL_pass 4 rw_pass := hc
  show G κ φ (QI κ φ _ sR (wR (cf1 0) rR) rw_pass.cells rw_pass.slots) (NV κ τ) 0 0 s0 [(0, .ref (ad κ.1 0 0)), (1, .int a1), (2, .ref (ad κ.1 26 0))] 0 []
  refine g_aload_n (i := 2) hc 2 rfl rfl dL_pass_0 (pc2 := 1) rfl ?_
  refine g_iconst (v := (0 : Int32)) hc (by decide) dL_pass_1 (pc2 := 2) rfl ?_
  refine g_aload_n (i := 0) hc 0 rfl rfl dL_pass_2 (pc2 := 3) rfl ?_
  refine g_iload_n (i := 1) hc 1 rfl rfl dL_pass_3 (pc2 := 4) rfl ?_
  refine g_vxI hc (k6_pass hf) co_L_59 (u0 (by decide)) rfl rfl (by decide) (by decide) (Nat.le_of_ble_eq_true rfl) dL_pass_4 (pc2 := 7) rfl (fun x hx => ?_) (fun x hx => ?_)
  · subst hx
    have hx0 := hcf x rfl
    by_cases e0 : x = 0
    · subst e0
      refine g_catch hc ht (x := 0) [] ⟨0, 9, 12, 13⟩ [] rfl (fun y hy => nomatch hy) rfl (by decide) cl_L_13 (fun q => ?_)
      refine g_astore_n (i := 3) (L1 := [(3, .ref q), (0, .ref (ad κ.1 0 0)), (1, .int a1), (2, .ref (ad κ.1 26 0))]) hc rfl (by decide) rfl dL_pass_12 (pc2 := 13) rfl ?_
      refine g_iconst (v := (1 : Int32)) hc (by decide) dL_pass_13 (pc2 := 14) rfl ?_
      exact g_iret hc rfl hr rfl (by decide) (by decide) dL_pass_14
    exact absurd (show (cf1 0) x = 0 by simp [cf1, e0]) hx0
  · subst hx
    refine g_i2l hc dL_pass_7 (pc2 := 8) rfl ?_
    refine g_last hc dL_pass_8 (pc2 := 9) rfl ?_
    refine g_goto hc 15 (by decide) dL_pass_9 ?_
    refine g_iconst (v := (0 : Int32)) hc (by decide) dL_pass_15 (pc2 := 16) rfl ?_
    exact g_iret hc rfl hr rfl (by decide) (by decide) dL_pass_16
def rw_forgive : Room := { frames := 8, cells := 2, slots := 12, locals := 144 }
theorem co_L_62 : CallOkV RL 62 yX6_forgive cX6_forgive 4 (some .int) 2 0 := ⟨⟨(gwm 807 (by decide +kernel) (by decide +kernel)), (gwm 804 (by decide +kernel) (by decide +kernel)), (gwm 64 (by decide +kernel) (by decide +kernel)), by decide +kernel, by decide +kernel, by decide +kernel⟩, (gwm 805 (by decide +kernel) (by decide +kernel)), (gwm 806 (by decide +kernel) (by decide +kernel)), rfl, TX6, 7, rfl⟩
set_option maxHeartbeats 4000000 in
theorem w_forgive {κ : Kx} {τ : Nat → Int64} {a1 : Int32} {a2 : Int32} {s0 sR : Mem} {rR : Nat ⊕ Int32} (hf : f6_forgive a1 a2 s0 = some (rR, sR)) (hcf : ∀ e, rR = .inl e → (cf1 2) e ≠ 0) : CtW κ yL_forgive cL_forgive 5 (some .int) [(0, 10, 13, 28)] rw_forgive (NV κ τ) (NV κ (wT τ rR)) [.ref (ad κ.1 0 0), .int a1, .int a2, .ref (ad κ.1 26 0)] s0 sR (wR (cf1 2) rR) := by
  refine ct_W (by decide +kernel) (Nat.le_of_ble_eq_true rfl) (fun φ hc hr ht => ?_)
  have hc : Cx κ φ RL cL_forgive 5 rw_forgive := hc
  show G κ φ (QI κ φ _ sR (wR (cf1 2) rR) rw_forgive.cells rw_forgive.slots) (NV κ τ) 0 0 s0 [(0, .ref (ad κ.1 0 0)), (1, .int a1), (2, .int a2), (3, .ref (ad κ.1 26 0))] 0 []
  refine g_aload_n (i := 3) hc 3 rfl rfl dL_forgive_0 (pc2 := 1) rfl ?_
  refine g_iconst (v := (0 : Int32)) hc (by decide) dL_forgive_1 (pc2 := 2) rfl ?_
  refine g_aload_n (i := 0) hc 0 rfl rfl dL_forgive_2 (pc2 := 3) rfl ?_
  refine g_iload_n (i := 1) hc 1 rfl rfl dL_forgive_3 (pc2 := 4) rfl ?_
  refine g_iload_n (i := 2) hc 2 rfl rfl dL_forgive_4 (pc2 := 5) rfl ?_
  refine g_vxI hc (k6_forgive hf) co_L_62 (u0 (by decide)) rfl rfl (by decide) (by decide) (Nat.le_of_ble_eq_true rfl) dL_forgive_5 (pc2 := 8) rfl (fun x hx => ?_) (fun x hx => ?_)
  · subst hx
    have hx0 := hcf x rfl
    by_cases e2 : x = 2
    · subst e2
      refine g_catch hc ht (x := 2) [] ⟨0, 10, 13, 28⟩ [] rfl (fun y hy => nomatch hy) rfl (by decide) cl_L_28 (fun q => ?_)
      refine g_astore (L1 := [(4, .ref q), (0, .ref (ad κ.1 0 0)), (1, .int a1), (2, .int a2), (3, .ref (ad κ.1 26 0))]) hc (by decide) rfl dL_forgive_13 (pc2 := 15) rfl ?_
      refine g_iconst (v := (1 : Int32)) hc (by decide) dL_forgive_15 (pc2 := 16) rfl ?_
      exact g_iret hc rfl hr rfl (by decide) (by decide) dL_forgive_16
    exact absurd (show (cf1 2) x = 0 by simp [cf1, e2]) hx0
  · subst hx
    refine g_i2l hc dL_forgive_8 (pc2 := 9) rfl ?_
    refine g_last hc dL_forgive_9 (pc2 := 10) rfl ?_
    refine g_goto hc 17 (by decide) dL_forgive_10 ?_
    refine g_iconst (v := (0 : Int32)) hc (by decide) dL_forgive_17 (pc2 := 18) rfl ?_
    exact g_iret hc rfl hr rfl (by decide) (by decide) dL_forgive_18
def rw_undo : Room := { frames := 7, cells := 1, slots := 6, locals := 120 }
theorem co_L_65 : CallOkV RL 65 yX6_undo cX6_undo 1 (some .int) 0 0 := ⟨⟨(gwm 814 (by decide +kernel) (by decide +kernel)), (gwm 811 (by decide +kernel) (by decide +kernel)), (gwm 64 (by decide +kernel) (by decide +kernel)), by decide +kernel, by decide +kernel, by decide +kernel⟩, (gwm 812 (by decide +kernel) (by decide +kernel)), (gwm 813 (by decide +kernel) (by decide +kernel)), rfl, TX6, 7, rfl⟩
set_option maxHeartbeats 4000000 in
theorem w_undo {κ : Kx} {τ : Nat → Int64}  {s0 sR : Mem} {rR : Nat ⊕ Int32} (hf : f6_undo  s0 = some (rR, sR)) (hcf : ∀ e, rR = .inl e → (cf1 1) e ≠ 0) : CtW κ yL_undo cL_undo 3 (some .int) [(0, 8, 11, 15)] rw_undo (NV κ τ) (NV κ (wT τ rR)) [.ref (ad κ.1 0 0), .ref (ad κ.1 26 0)] s0 sR (wR (cf1 1) rR) := by
  refine ct_W (by decide +kernel) (Nat.le_of_ble_eq_true rfl) (fun φ hc hr ht => ?_)
  have hc : Cx κ φ RL cL_undo 3 rw_undo := hc
  show G κ φ (QI κ φ _ sR (wR (cf1 1) rR) rw_undo.cells rw_undo.slots) (NV κ τ) 0 0 s0 [(0, .ref (ad κ.1 0 0)), (1, .ref (ad κ.1 26 0))] 0 []
  refine g_aload_n (i := 1) hc 1 rfl rfl dL_undo_0 (pc2 := 1) rfl ?_
  refine g_iconst (v := (0 : Int32)) hc (by decide) dL_undo_1 (pc2 := 2) rfl ?_
  refine g_aload_n (i := 0) hc 0 rfl rfl dL_undo_2 (pc2 := 3) rfl ?_
  refine g_vxI hc (k6_undo hf) co_L_65 (u0 (by decide)) rfl rfl (by decide) (by decide) (Nat.le_of_ble_eq_true rfl) dL_undo_3 (pc2 := 6) rfl (fun x hx => ?_) (fun x hx => ?_)
  · subst hx
    have hx0 := hcf x rfl
    by_cases e1 : x = 1
    · subst e1
      refine g_catch hc ht (x := 1) [] ⟨0, 8, 11, 15⟩ [] rfl (fun y hy => nomatch hy) rfl (by decide) cl_L_15 (fun q => ?_)
      refine g_astore_n (i := 2) (L1 := [(2, .ref q), (0, .ref (ad κ.1 0 0)), (1, .ref (ad κ.1 26 0))]) hc rfl (by decide) rfl dL_undo_11 (pc2 := 12) rfl ?_
      refine g_iconst (v := (1 : Int32)) hc (by decide) dL_undo_12 (pc2 := 13) rfl ?_
      exact g_iret hc rfl hr rfl (by decide) (by decide) dL_undo_13
    exact absurd (show (cf1 1) x = 0 by simp [cf1, e1]) hx0
  · subst hx
    refine g_i2l hc dL_undo_6 (pc2 := 7) rfl ?_
    refine g_last hc dL_undo_7 (pc2 := 8) rfl ?_
    refine g_goto hc 14 (by decide) dL_undo_8 ?_
    refine g_iconst (v := (0 : Int32)) hc (by decide) dL_undo_14 (pc2 := 15) rfl ?_
    exact g_iret hc rfl hr rfl (by decide) (by decide) dL_undo_15
def rw_turnIn : Room := { frames := 7, cells := 1, slots := 6, locals := 134 }
theorem co_L_68 : CallOkV RL 68 yX6_turnIn cX6_turnIn 2 (some .int) 1 0 := ⟨⟨(gwm 826 (by decide +kernel) (by decide +kernel)), (gwm 823 (by decide +kernel) (by decide +kernel)), (gwm 64 (by decide +kernel) (by decide +kernel)), by decide +kernel, by decide +kernel, by decide +kernel⟩, (gwm 824 (by decide +kernel) (by decide +kernel)), (gwm 825 (by decide +kernel) (by decide +kernel)), rfl, TX6, 7, rfl⟩
set_option maxHeartbeats 4000000 in
theorem w_turnIn {κ : Kx} {τ : Nat → Int64} {a1 : Int32} {s0 sR : Mem} {rR : Nat ⊕ Int32} (hf : f6_turnIn a1 s0 = some (rR, sR)) (hcf : ∀ e, rR = .inl e → (cf1 0) e ≠ 0) : CtW κ yL_turnIn cL_turnIn 4 (some .int) [(0, 9, 12, 13)] rw_turnIn (NV κ τ) (NV κ (wT τ rR)) [.ref (ad κ.1 0 0), .int a1, .ref (ad κ.1 26 0)] s0 sR (wR (cf1 0) rR) := by
  refine ct_W (by decide +kernel) (Nat.le_of_ble_eq_true rfl) (fun φ hc hr ht => ?_)
  have hc : Cx κ φ RL cL_turnIn 4 rw_turnIn := hc
  show G κ φ (QI κ φ _ sR (wR (cf1 0) rR) rw_turnIn.cells rw_turnIn.slots) (NV κ τ) 0 0 s0 [(0, .ref (ad κ.1 0 0)), (1, .int a1), (2, .ref (ad κ.1 26 0))] 0 []
  refine g_aload_n (i := 2) hc 2 rfl rfl dL_turnIn_0 (pc2 := 1) rfl ?_
  refine g_iconst (v := (0 : Int32)) hc (by decide) dL_turnIn_1 (pc2 := 2) rfl ?_
  refine g_aload_n (i := 0) hc 0 rfl rfl dL_turnIn_2 (pc2 := 3) rfl ?_
  refine g_iload_n (i := 1) hc 1 rfl rfl dL_turnIn_3 (pc2 := 4) rfl ?_
  refine g_vxI hc (k6_turnIn hf) co_L_68 (u0 (by decide)) rfl rfl (by decide) (by decide) (Nat.le_of_ble_eq_true rfl) dL_turnIn_4 (pc2 := 7) rfl (fun x hx => ?_) (fun x hx => ?_)
  · subst hx
    have hx0 := hcf x rfl
    by_cases e0 : x = 0
    · subst e0
      refine g_catch hc ht (x := 0) [] ⟨0, 9, 12, 13⟩ [] rfl (fun y hy => nomatch hy) rfl (by decide) cl_L_13 (fun q => ?_)
      refine g_astore_n (i := 3) (L1 := [(3, .ref q), (0, .ref (ad κ.1 0 0)), (1, .int a1), (2, .ref (ad κ.1 26 0))]) hc rfl (by decide) rfl dL_turnIn_12 (pc2 := 13) rfl ?_
      refine g_iconst (v := (1 : Int32)) hc (by decide) dL_turnIn_13 (pc2 := 14) rfl ?_
      exact g_iret hc rfl hr rfl (by decide) (by decide) dL_turnIn_14
    exact absurd (show (cf1 0) x = 0 by simp [cf1, e0]) hx0
  · subst hx
    refine g_i2l hc dL_turnIn_7 (pc2 := 8) rfl ?_
    refine g_last hc dL_turnIn_8 (pc2 := 9) rfl ?_
    refine g_goto hc 15 (by decide) dL_turnIn_9 ?_
    refine g_iconst (v := (0 : Int32)) hc (by decide) dL_turnIn_15 (pc2 := 16) rfl ?_
    exact g_iret hc rfl hr rfl (by decide) (by decide) dL_turnIn_16
def rw_doneIn : Room := { frames := 8, cells := 1, slots := 6, locals := 143 }
theorem co_L_71 : CallOkV RL 71 yX6_doneIn cX6_doneIn 3 (some .int) 1 0 := ⟨⟨(gwm 833 (by decide +kernel) (by decide +kernel)), (gwm 830 (by decide +kernel) (by decide +kernel)), (gwm 64 (by decide +kernel) (by decide +kernel)), by decide +kernel, by decide +kernel, by decide +kernel⟩, (gwm 831 (by decide +kernel) (by decide +kernel)), (gwm 832 (by decide +kernel) (by decide +kernel)), rfl, TX6, 7, rfl⟩
set_option maxHeartbeats 4000000 in
theorem w_doneIn {κ : Kx} {τ : Nat → Int64} {a1 : Int32} {s0 sR : Mem} {rR : Nat ⊕ Int32} (hf : f6_doneIn a1 s0 = some (rR, sR)) (hcf : ∀ e, rR = .inl e → (cf1 2) e ≠ 0) : CtW κ yL_doneIn cL_doneIn 4 (some .int) [(0, 9, 12, 28)] rw_doneIn (NV κ τ) (NV κ (wT τ rR)) [.ref (ad κ.1 0 0), .int a1, .ref (ad κ.1 26 0)] s0 sR (wR (cf1 2) rR) := by
  refine ct_W (by decide +kernel) (Nat.le_of_ble_eq_true rfl) (fun φ hc hr ht => ?_)
  have hc : Cx κ φ RL cL_doneIn 4 rw_doneIn := hc
  show G κ φ (QI κ φ _ sR (wR (cf1 2) rR) rw_doneIn.cells rw_doneIn.slots) (NV κ τ) 0 0 s0 [(0, .ref (ad κ.1 0 0)), (1, .int a1), (2, .ref (ad κ.1 26 0))] 0 []
  refine g_aload_n (i := 2) hc 2 rfl rfl dL_doneIn_0 (pc2 := 1) rfl ?_
  refine g_iconst (v := (0 : Int32)) hc (by decide) dL_doneIn_1 (pc2 := 2) rfl ?_
  refine g_aload_n (i := 0) hc 0 rfl rfl dL_doneIn_2 (pc2 := 3) rfl ?_
  refine g_iload_n (i := 1) hc 1 rfl rfl dL_doneIn_3 (pc2 := 4) rfl ?_
  refine g_vxI hc (k6_doneIn hf) co_L_71 (u0 (by decide)) rfl rfl (by decide) (by decide) (Nat.le_of_ble_eq_true rfl) dL_doneIn_4 (pc2 := 7) rfl (fun x hx => ?_) (fun x hx => ?_)
  · subst hx
    have hx0 := hcf x rfl
    by_cases e2 : x = 2
    · subst e2
      refine g_catch hc ht (x := 2) [] ⟨0, 9, 12, 28⟩ [] rfl (fun y hy => nomatch hy) rfl (by decide) cl_L_28 (fun q => ?_)
      refine g_astore_n (i := 3) (L1 := [(3, .ref q), (0, .ref (ad κ.1 0 0)), (1, .int a1), (2, .ref (ad κ.1 26 0))]) hc rfl (by decide) rfl dL_doneIn_12 (pc2 := 13) rfl ?_
      refine g_iconst (v := (1 : Int32)) hc (by decide) dL_doneIn_13 (pc2 := 14) rfl ?_
      exact g_iret hc rfl hr rfl (by decide) (by decide) dL_doneIn_14
    exact absurd (show (cf1 2) x = 0 by simp [cf1, e2]) hx0
  · subst hx
    refine g_i2l hc dL_doneIn_7 (pc2 := 8) rfl ?_
    refine g_last hc dL_doneIn_8 (pc2 := 9) rfl ?_
    refine g_goto hc 15 (by decide) dL_doneIn_9 ?_
    refine g_iconst (v := (0 : Int32)) hc (by decide) dL_doneIn_15 (pc2 := 16) rfl ?_
    exact g_iret hc rfl hr rfl (by decide) (by decide) dL_doneIn_16
def rw_bestSlot : Room := { frames := 8, cells := 1, slots := 6, locals := 146 }
theorem co_L_74 : CallOkV RL 74 yX6_bestSlot cX6_bestSlot 6 (some .int) 1 0 := ⟨⟨(gwm 840 (by decide +kernel) (by decide +kernel)), (gwm 837 (by decide +kernel) (by decide +kernel)), (gwm 64 (by decide +kernel) (by decide +kernel)), by decide +kernel, by decide +kernel, by decide +kernel⟩, (gwm 838 (by decide +kernel) (by decide +kernel)), (gwm 839 (by decide +kernel) (by decide +kernel)), rfl, TX6, 7, rfl⟩
set_option maxHeartbeats 4000000 in
theorem w_bestSlot {κ : Kx} {τ : Nat → Int64} {a1 : Int32} {s0 sR : Mem} {rR : Nat ⊕ Int32} (hf : f6_bestSlot a1 s0 = some (rR, sR)) (hcf : ∀ e, rR = .inl e → (cf1 2) e ≠ 0) : CtW κ yL_bestSlot cL_bestSlot 4 (some .int) [(0, 9, 12, 28)] rw_bestSlot (NV κ τ) (NV κ (wT τ rR)) [.ref (ad κ.1 0 0), .int a1, .ref (ad κ.1 26 0)] s0 sR (wR (cf1 2) rR) := by
  refine ct_W (by decide +kernel) (Nat.le_of_ble_eq_true rfl) (fun φ hc hr ht => ?_)
  have hc : Cx κ φ RL cL_bestSlot 4 rw_bestSlot := hc
  show G κ φ (QI κ φ _ sR (wR (cf1 2) rR) rw_bestSlot.cells rw_bestSlot.slots) (NV κ τ) 0 0 s0 [(0, .ref (ad κ.1 0 0)), (1, .int a1), (2, .ref (ad κ.1 26 0))] 0 []
  refine g_aload_n (i := 2) hc 2 rfl rfl dL_bestSlot_0 (pc2 := 1) rfl ?_
  refine g_iconst (v := (0 : Int32)) hc (by decide) dL_bestSlot_1 (pc2 := 2) rfl ?_
  refine g_aload_n (i := 0) hc 0 rfl rfl dL_bestSlot_2 (pc2 := 3) rfl ?_
  refine g_iload_n (i := 1) hc 1 rfl rfl dL_bestSlot_3 (pc2 := 4) rfl ?_
  refine g_vxI hc (k6_bestSlot hf) co_L_74 (u0 (by decide)) rfl rfl (by decide) (by decide) (Nat.le_of_ble_eq_true rfl) dL_bestSlot_4 (pc2 := 7) rfl (fun x hx => ?_) (fun x hx => ?_)
  · subst hx
    have hx0 := hcf x rfl
    by_cases e2 : x = 2
    · subst e2
      refine g_catch hc ht (x := 2) [] ⟨0, 9, 12, 28⟩ [] rfl (fun y hy => nomatch hy) rfl (by decide) cl_L_28 (fun q => ?_)
      refine g_astore_n (i := 3) (L1 := [(3, .ref q), (0, .ref (ad κ.1 0 0)), (1, .int a1), (2, .ref (ad κ.1 26 0))]) hc rfl (by decide) rfl dL_bestSlot_12 (pc2 := 13) rfl ?_
      refine g_iconst (v := (1 : Int32)) hc (by decide) dL_bestSlot_13 (pc2 := 14) rfl ?_
      exact g_iret hc rfl hr rfl (by decide) (by decide) dL_bestSlot_14
    exact absurd (show (cf1 2) x = 0 by simp [cf1, e2]) hx0
  · subst hx
    refine g_i2l hc dL_bestSlot_7 (pc2 := 8) rfl ?_
    refine g_last hc dL_bestSlot_8 (pc2 := 9) rfl ?_
    refine g_goto hc 15 (by decide) dL_bestSlot_9 ?_
    refine g_iconst (v := (0 : Int32)) hc (by decide) dL_bestSlot_15 (pc2 := 16) rfl ?_
    exact g_iret hc rfl hr rfl (by decide) (by decide) dL_bestSlot_16
def rw_runScript : Room := { frames := 7, cells := 1, slots := 6, locals := 168 }
theorem co_L_77 : CallOkV RL 77 yX6_runScript cX6_runScript 6 (some .int) 2 0 := ⟨⟨(gwm 847 (by decide +kernel) (by decide +kernel)), (gwm 844 (by decide +kernel) (by decide +kernel)), (gwm 64 (by decide +kernel) (by decide +kernel)), by decide +kernel, by decide +kernel, by decide +kernel⟩, (gwm 845 (by decide +kernel) (by decide +kernel)), (gwm 846 (by decide +kernel) (by decide +kernel)), rfl, TX6, 7, rfl⟩
set_option maxHeartbeats 4000000 in
theorem w_runScript {κ : Kx} {τ : Nat → Int64} {a1 : Int32} {a2 : Int64} {s0 sR : Mem} {rR : Nat ⊕ Int32} (hf : f6_runScript a1 a2 s0 = some (rR, sR)) (hcf : ∀ e, rR = .inl e → (cf1 0) e ≠ 0) : CtW κ yL_runScript cL_runScript 6 (some .int) [(0, 11, 14, 13)] rw_runScript (NV κ τ) (NV κ (wT τ rR)) [.ref (ad κ.1 0 0), .int a1, .long a2, .ref (ad κ.1 26 0)] s0 sR (wR (cf1 0) rR) := by
  refine ct_W (by decide +kernel) (Nat.le_of_ble_eq_true rfl) (fun φ hc hr ht => ?_)
  have hc : Cx κ φ RL cL_runScript 6 rw_runScript := hc
  show G κ φ (QI κ φ _ sR (wR (cf1 0) rR) rw_runScript.cells rw_runScript.slots) (NV κ τ) 0 0 s0 [(0, .ref (ad κ.1 0 0)), (1, .int a1), (2, .long a2), (4, .ref (ad κ.1 26 0))] 0 []
  refine g_aload hc 3 rfl dL_runScript_0 (pc2 := 2) rfl ?_
  refine g_iconst (v := (0 : Int32)) hc (by decide) dL_runScript_2 (pc2 := 3) rfl ?_
  refine g_aload_n (i := 0) hc 0 rfl rfl dL_runScript_3 (pc2 := 4) rfl ?_
  refine g_iload_n (i := 1) hc 1 rfl rfl dL_runScript_4 (pc2 := 5) rfl ?_
  refine g_lload_n (i := 2) hc 2 rfl rfl dL_runScript_5 (pc2 := 6) rfl ?_
  refine g_vxI hc (k6_runScript hf) co_L_77 (u0 (by decide)) rfl rfl (by decide) (by decide) (Nat.le_of_ble_eq_true rfl) dL_runScript_6 (pc2 := 9) rfl (fun x hx => ?_) (fun x hx => ?_)
  · subst hx
    have hx0 := hcf x rfl
    by_cases e0 : x = 0
    · subst e0
      refine g_catch hc ht (x := 0) [] ⟨0, 11, 14, 13⟩ [] rfl (fun y hy => nomatch hy) rfl (by decide) cl_L_13 (fun q => ?_)
      refine g_astore (L1 := [(5, .ref q), (0, .ref (ad κ.1 0 0)), (1, .int a1), (2, .long a2), (4, .ref (ad κ.1 26 0))]) hc (by decide) rfl dL_runScript_14 (pc2 := 16) rfl ?_
      refine g_iconst (v := (1 : Int32)) hc (by decide) dL_runScript_16 (pc2 := 17) rfl ?_
      exact g_iret hc rfl hr rfl (by decide) (by decide) dL_runScript_17
    exact absurd (show (cf1 0) x = 0 by simp [cf1, e0]) hx0
  · subst hx
    refine g_i2l hc dL_runScript_9 (pc2 := 10) rfl ?_
    refine g_last hc dL_runScript_10 (pc2 := 11) rfl ?_
    refine g_goto hc 18 (by decide) dL_runScript_11 ?_
    refine g_iconst (v := (0 : Int32)) hc (by decide) dL_runScript_18 (pc2 := 19) rfl ?_
    exact g_iret hc rfl hr rfl (by decide) (by decide) dL_runScript_19
def rw_simulate : Room := { frames := 7, cells := 1, slots := 6, locals := 127 }
theorem co_L_81 : CallOkV RL 81 yX6_simulate cX6_simulate 8 (some .int) 2 0 := ⟨⟨(gwm 875 (by decide +kernel) (by decide +kernel)), (gwm 872 (by decide +kernel) (by decide +kernel)), (gwm 64 (by decide +kernel) (by decide +kernel)), by decide +kernel, by decide +kernel, by decide +kernel⟩, (gwm 873 (by decide +kernel) (by decide +kernel)), (gwm 874 (by decide +kernel) (by decide +kernel)), rfl, TX6, 7, rfl⟩
set_option maxHeartbeats 4000000 in
theorem w_simulate {κ : Kx} {τ : Nat → Int64} {a1 : Int64} {a2 : Int32} {s0 sR : Mem} {rR : Nat ⊕ Int32} (hf : f6_simulate a1 a2 s0 = some (rR, sR)) (hcf : ∀ e, rR = .inl e → (cf1 0) e ≠ 0) : CtW κ yL_simulate cL_simulate 6 (some .int) [(0, 11, 14, 13)] rw_simulate (NV κ τ) (NV κ (wT τ rR)) [.ref (ad κ.1 0 0), .long a1, .int a2, .ref (ad κ.1 26 0)] s0 sR (wR (cf1 0) rR) := by
  refine ct_W (by decide +kernel) (Nat.le_of_ble_eq_true rfl) (fun φ hc hr ht => ?_)
  have hc : Cx κ φ RL cL_simulate 6 rw_simulate := hc
  show G κ φ (QI κ φ _ sR (wR (cf1 0) rR) rw_simulate.cells rw_simulate.slots) (NV κ τ) 0 0 s0 [(0, .ref (ad κ.1 0 0)), (1, .long a1), (3, .int a2), (4, .ref (ad κ.1 26 0))] 0 []
  refine g_aload hc 3 rfl dL_simulate_0 (pc2 := 2) rfl ?_
  refine g_iconst (v := (0 : Int32)) hc (by decide) dL_simulate_2 (pc2 := 3) rfl ?_
  refine g_aload_n (i := 0) hc 0 rfl rfl dL_simulate_3 (pc2 := 4) rfl ?_
  refine g_lload_n (i := 1) hc 1 rfl rfl dL_simulate_4 (pc2 := 5) rfl ?_
  refine g_iload_n (i := 3) hc 2 rfl rfl dL_simulate_5 (pc2 := 6) rfl ?_
  refine g_vxI hc (k6_simulate hf) co_L_81 (u0 (by decide)) rfl rfl (by decide) (by decide) (Nat.le_of_ble_eq_true rfl) dL_simulate_6 (pc2 := 9) rfl (fun x hx => ?_) (fun x hx => ?_)
  · subst hx
    have hx0 := hcf x rfl
    by_cases e0 : x = 0
    · subst e0
      refine g_catch hc ht (x := 0) [] ⟨0, 11, 14, 13⟩ [] rfl (fun y hy => nomatch hy) rfl (by decide) cl_L_13 (fun q => ?_)
      refine g_astore (L1 := [(5, .ref q), (0, .ref (ad κ.1 0 0)), (1, .long a1), (3, .int a2), (4, .ref (ad κ.1 26 0))]) hc (by decide) rfl dL_simulate_14 (pc2 := 16) rfl ?_
      refine g_iconst (v := (1 : Int32)) hc (by decide) dL_simulate_16 (pc2 := 17) rfl ?_
      exact g_iret hc rfl hr rfl (by decide) (by decide) dL_simulate_17
    exact absurd (show (cf1 0) x = 0 by simp [cf1, e0]) hx0
  · subst hx
    refine g_i2l hc dL_simulate_9 (pc2 := 10) rfl ?_
    refine g_last hc dL_simulate_10 (pc2 := 11) rfl ?_
    refine g_goto hc 18 (by decide) dL_simulate_11 ?_
    refine g_iconst (v := (0 : Int32)) hc (by decide) dL_simulate_18 (pc2 := 19) rfl ?_
    exact g_iret hc rfl hr rfl (by decide) (by decide) dL_simulate_19
def rw_save : Room := { frames := 8, cells := 1, slots := 6, locals := 142 }
theorem co_L_85 : CallOkV RL 85 yX6_save cX6_save 2 (some .int) 1 0 := ⟨⟨(gwm 895 (by decide +kernel) (by decide +kernel)), (gwm 892 (by decide +kernel) (by decide +kernel)), (gwm 64 (by decide +kernel) (by decide +kernel)), by decide +kernel, by decide +kernel, by decide +kernel⟩, (gwm 893 (by decide +kernel) (by decide +kernel)), (gwm 894 (by decide +kernel) (by decide +kernel)), rfl, TX6, 7, rfl⟩
set_option maxHeartbeats 4000000 in
theorem w_save {κ : Kx} {τ : Nat → Int64} {a1 : Int32} {s0 sR : Mem} {rR : Nat ⊕ Int32} (hf : f6_save a1 s0 = some (rR, sR)) (hcf : ∀ e, rR = .inl e → (cf1 2) e ≠ 0) : CtW κ yL_save cL_save 4 (some .int) [(0, 9, 12, 28)] rw_save (NV κ τ) (NV κ (wT τ rR)) [.ref (ad κ.1 0 0), .int a1, .ref (ad κ.1 26 0)] s0 sR (wR (cf1 2) rR) := by
  refine ct_W (by decide +kernel) (Nat.le_of_ble_eq_true rfl) (fun φ hc hr ht => ?_)
  have hc : Cx κ φ RL cL_save 4 rw_save := hc
  show G κ φ (QI κ φ _ sR (wR (cf1 2) rR) rw_save.cells rw_save.slots) (NV κ τ) 0 0 s0 [(0, .ref (ad κ.1 0 0)), (1, .int a1), (2, .ref (ad κ.1 26 0))] 0 []
  refine g_aload_n (i := 2) hc 2 rfl rfl dL_save_0 (pc2 := 1) rfl ?_
  refine g_iconst (v := (0 : Int32)) hc (by decide) dL_save_1 (pc2 := 2) rfl ?_
  refine g_aload_n (i := 0) hc 0 rfl rfl dL_save_2 (pc2 := 3) rfl ?_
  refine g_iload_n (i := 1) hc 1 rfl rfl dL_save_3 (pc2 := 4) rfl ?_
  refine g_vxI hc (k6_save hf) co_L_85 (u0 (by decide)) rfl rfl (by decide) (by decide) (Nat.le_of_ble_eq_true rfl) dL_save_4 (pc2 := 7) rfl (fun x hx => ?_) (fun x hx => ?_)
  · subst hx
    have hx0 := hcf x rfl
    by_cases e2 : x = 2
    · subst e2
      refine g_catch hc ht (x := 2) [] ⟨0, 9, 12, 28⟩ [] rfl (fun y hy => nomatch hy) rfl (by decide) cl_L_28 (fun q => ?_)
      refine g_astore_n (i := 3) (L1 := [(3, .ref q), (0, .ref (ad κ.1 0 0)), (1, .int a1), (2, .ref (ad κ.1 26 0))]) hc rfl (by decide) rfl dL_save_12 (pc2 := 13) rfl ?_
      refine g_iconst (v := (1 : Int32)) hc (by decide) dL_save_13 (pc2 := 14) rfl ?_
      exact g_iret hc rfl hr rfl (by decide) (by decide) dL_save_14
    exact absurd (show (cf1 2) x = 0 by simp [cf1, e2]) hx0
  · subst hx
    refine g_i2l hc dL_save_7 (pc2 := 8) rfl ?_
    refine g_last hc dL_save_8 (pc2 := 9) rfl ?_
    refine g_goto hc 15 (by decide) dL_save_9 ?_
    refine g_iconst (v := (0 : Int32)) hc (by decide) dL_save_15 (pc2 := 16) rfl ?_
    exact g_iret hc rfl hr rfl (by decide) (by decide) dL_save_16
def rw_restore : Room := { frames := 8, cells := 2, slots := 12, locals := 142 }
theorem co_L_88 : CallOkV RL 88 yX6_restore cX6_restore 2 (some .int) 1 0 := ⟨⟨(gwm 907 (by decide +kernel) (by decide +kernel)), (gwm 904 (by decide +kernel) (by decide +kernel)), (gwm 64 (by decide +kernel) (by decide +kernel)), by decide +kernel, by decide +kernel, by decide +kernel⟩, (gwm 905 (by decide +kernel) (by decide +kernel)), (gwm 906 (by decide +kernel) (by decide +kernel)), rfl, TX6, 7, rfl⟩
set_option maxHeartbeats 4000000 in
theorem w_restore {κ : Kx} {τ : Nat → Int64} {a1 : Int32} {s0 sR : Mem} {rR : Nat ⊕ Int32} (hf : f6_restore a1 s0 = some (rR, sR)) (hcf : ∀ e, rR = .inl e → (cf2 2 1) e ≠ 0) : CtW κ yL_restore cL_restore 4 (some .int) [(0, 9, 12, 28), (0, 9, 15, 15)] rw_restore (NV κ τ) (NV κ (wT τ rR)) [.ref (ad κ.1 0 0), .int a1, .ref (ad κ.1 26 0)] s0 sR (wR (cf2 2 1) rR) := by
  refine ct_W (by decide +kernel) (Nat.le_of_ble_eq_true rfl) (fun φ hc hr ht => ?_)
  have hc : Cx κ φ RL cL_restore 4 rw_restore := hc
  show G κ φ (QI κ φ _ sR (wR (cf2 2 1) rR) rw_restore.cells rw_restore.slots) (NV κ τ) 0 0 s0 [(0, .ref (ad κ.1 0 0)), (1, .int a1), (2, .ref (ad κ.1 26 0))] 0 []
  refine g_aload_n (i := 2) hc 2 rfl rfl dL_restore_0 (pc2 := 1) rfl ?_
  refine g_iconst (v := (0 : Int32)) hc (by decide) dL_restore_1 (pc2 := 2) rfl ?_
  refine g_aload_n (i := 0) hc 0 rfl rfl dL_restore_2 (pc2 := 3) rfl ?_
  refine g_iload_n (i := 1) hc 1 rfl rfl dL_restore_3 (pc2 := 4) rfl ?_
  refine g_vxI hc (k6_restore hf) co_L_88 (u0 (by decide)) rfl rfl (by decide) (by decide) (Nat.le_of_ble_eq_true rfl) dL_restore_4 (pc2 := 7) rfl (fun x hx => ?_) (fun x hx => ?_)
  · subst hx
    have hx0 := hcf x rfl
    by_cases e2 : x = 2
    · subst e2
      refine g_catch hc ht (x := 2) [] ⟨0, 9, 12, 28⟩ [⟨0, 9, 15, 15⟩] rfl (fun y hy => nomatch hy) rfl (by decide) cl_L_28 (fun q => ?_)
      refine g_astore_n (i := 3) (L1 := [(3, .ref q), (0, .ref (ad κ.1 0 0)), (1, .int a1), (2, .ref (ad κ.1 26 0))]) hc rfl (by decide) rfl dL_restore_12 (pc2 := 13) rfl ?_
      refine g_iconst (v := (1 : Int32)) hc (by decide) dL_restore_13 (pc2 := 14) rfl ?_
      exact g_iret hc rfl hr rfl (by decide) (by decide) dL_restore_14
    by_cases e1 : x = 1
    · subst e1
      refine g_catch hc ht (x := 1) [⟨0, 9, 12, 28⟩] ⟨0, 9, 15, 15⟩ [] rfl (by simp only [List.mem_cons, List.not_mem_nil, or_false, forall_eq_or_imp, forall_eq]; exact ⟨by decide, 2, cl_L_28, by decide⟩) rfl (by decide) cl_L_15 (fun q => ?_)
      refine g_astore_n (i := 3) (L1 := [(3, .ref q), (0, .ref (ad κ.1 0 0)), (1, .int a1), (2, .ref (ad κ.1 26 0))]) hc rfl (by decide) rfl dL_restore_15 (pc2 := 16) rfl ?_
      refine g_iconst (v := (2 : Int32)) hc (by decide) dL_restore_16 (pc2 := 17) rfl ?_
      exact g_iret hc rfl hr rfl (by decide) (by decide) dL_restore_17
    exact absurd (show (cf2 2 1) x = 0 by simp [cf2, e2, e1]) hx0
  · subst hx
    refine g_i2l hc dL_restore_7 (pc2 := 8) rfl ?_
    refine g_last hc dL_restore_8 (pc2 := 9) rfl ?_
    refine g_goto hc 18 (by decide) dL_restore_9 ?_
    refine g_iconst (v := (0 : Int32)) hc (by decide) dL_restore_18 (pc2 := 19) rfl ?_
    exact g_iret hc rfl hr rfl (by decide) (by decide) dL_restore_19
end WRAPS
