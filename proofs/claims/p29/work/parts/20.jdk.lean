def fJ_floorMod (a1 : Int32) (a2 : Int32) (s0 : Mem) : Option (Int32 × Mem) :=
  gd (nz a2) (nm (a1 - a1 / a2 * a2) fun x1 => (if (0 : Int32) ≤ (a1 ^^^ a2) then some (x1, s0) else (if x1 = (0 : Int32) then some (x1, s0) else some (x1 + a2, s0))))
def rm_J_floorMod : Room := { frames := 0, cells := 0, slots := 0, locals := 0 }
set_option maxHeartbeats 4000000 in
set_option maxRecDepth 100000 in
theorem kJ_floorMod {κ : Kx} {τ : Nat → Int64} {a1 : Int32} {a2 : Int32} {s0 sR : Mem} {rR : Int32}  (hf : fJ_floorMod a1 a2 s0 = some (rR, sR)) : CtI κ yJ9_floorMod_7cf53 cJ9_floorMod_7cf53 3 (some .int) rm_J_floorMod (NV κ τ) (NV κ τ) [.int a1, .int a2] s0 sR rR := by
  refine ct_I (by decide +kernel) (Nat.le_of_ble_eq_true rfl) (fun φ hc hr => ?_)
  have hc : Cx κ φ RJ9 cJ9_floorMod_7cf53 3 rm_J_floorMod := hc
  show G κ φ (QI κ φ (NV κ τ) sR rR rm_J_floorMod.cells rm_J_floorMod.slots) (NV κ τ) 0 0 s0 [(0, .int a1), (1, .int a2)] 0 []
  unfold fJ_floorMod at hf
  refine g_iload_n (i := 0) hc 0 rfl rfl dJ9_floorMod_7cf53_0 (pc2 := 1) rfl ?_
  refine g_iload_n (i := 1) hc 1 rfl rfl dJ9_floorMod_7cf53_1 (pc2 := 2) rfl ?_
  obtain ⟨hg1, hf⟩ := gd_some hf
  refine g_irem hc (nz_of hg1) dJ9_floorMod_7cf53_2 (pc2 := 3) rfl ?_
  obtain ⟨x1, hx1, hf⟩ := nm_ex hf
  refine g_nmi hx1 ?_
  refine g_istore_n (i := 2) (L1 := [(2, .int x1), (0, .int a1), (1, .int a2)]) hc rfl (by decide) rfl dJ9_floorMod_7cf53_3 (pc2 := 4) rfl ?_
  refine g_iload_n (i := 0) hc 1 rfl rfl dJ9_floorMod_7cf53_4 (pc2 := 5) rfl ?_
  refine g_iload_n (i := 1) hc 2 rfl rfl dJ9_floorMod_7cf53_5 (pc2 := 6) rfl ?_
  refine g_ixor hc dJ9_floorMod_7cf53_6 (pc2 := 7) rfl ?_
  refine g_if_ge hc 18 (by decide) dJ9_floorMod_7cf53_7 (pc2 := 10) rfl (fun q => ?_) (fun q => ?_)
  · have hf := ite_t hf q
    refine g_iload_n (i := 2) hc 0 rfl rfl dJ9_floorMod_7cf53_18 (pc2 := 19) rfl ?_
    exact g_iret hc hf hr rfl (by decide) (by decide) dJ9_floorMod_7cf53_19
  · have hf := ite_f hf q
    refine g_iload_n (i := 2) hc 0 rfl rfl dJ9_floorMod_7cf53_10 (pc2 := 11) rfl ?_
    refine g_if_eq hc 18 (by decide) dJ9_floorMod_7cf53_11 (pc2 := 14) rfl (fun q => ?_) (fun q => ?_)
    · have hf := ite_t hf q
      refine g_iload_n (i := 2) hc 0 rfl rfl dJ9_floorMod_7cf53_18 (pc2 := 19) rfl ?_
      exact g_iret hc hf hr rfl (by decide) (by decide) dJ9_floorMod_7cf53_19
    · have hf := ite_f hf q
      refine g_iload_n (i := 2) hc 0 rfl rfl dJ9_floorMod_7cf53_14 (pc2 := 15) rfl ?_
      refine g_iload_n (i := 1) hc 2 rfl rfl dJ9_floorMod_7cf53_15 (pc2 := 16) rfl ?_
      refine g_iadd hc dJ9_floorMod_7cf53_16 (pc2 := 17) rfl ?_
      exact g_iret hc hf hr rfl (by decide) (by decide) dJ9_floorMod_7cf53_17
def fJ_max (a1 : Int32) (a2 : Int32) (s0 : Mem) : Option (Int32 × Mem) :=
  (if a1 < a2 then some (a2, s0) else some (a1, s0))
def rm_J_max : Room := { frames := 0, cells := 0, slots := 0, locals := 0 }
set_option maxHeartbeats 4000000 in
set_option maxRecDepth 100000 in
theorem kJ_max {κ : Kx} {τ : Nat → Int64} {a1 : Int32} {a2 : Int32} {s0 sR : Mem} {rR : Int32}  (hf : fJ_max a1 a2 s0 = some (rR, sR)) : CtI κ yJ9_max_7cf53 cJ9_max_7cf53 2 (some .int) rm_J_max (NV κ τ) (NV κ τ) [.int a1, .int a2] s0 sR rR := by
  refine ct_I (by decide +kernel) (Nat.le_of_ble_eq_true rfl) (fun φ hc hr => ?_)
  have hc : Cx κ φ RJ9 cJ9_max_7cf53 2 rm_J_max := hc
  show G κ φ (QI κ φ (NV κ τ) sR rR rm_J_max.cells rm_J_max.slots) (NV κ τ) 0 0 s0 [(0, .int a1), (1, .int a2)] 0 []
  unfold fJ_max at hf
  refine g_iload_n (i := 0) hc 0 rfl rfl dJ9_max_7cf53_0 (pc2 := 1) rfl ?_
  refine g_iload_n (i := 1) hc 1 rfl rfl dJ9_max_7cf53_1 (pc2 := 2) rfl ?_
  refine g_icmp_lt hc 9 (by decide) dJ9_max_7cf53_2 (pc2 := 5) rfl (fun q => ?_) (fun q => ?_)
  · have hf := ite_t hf q
    refine g_iload_n (i := 1) hc 1 rfl rfl dJ9_max_7cf53_9 (pc2 := 10) rfl ?_
    exact g_iret hc hf hr rfl (by decide) (by decide) dJ9_max_7cf53_10
  · have hf := ite_f hf q
    refine g_iload_n (i := 0) hc 0 rfl rfl dJ9_max_7cf53_5 (pc2 := 6) rfl ?_
    refine g_goto hc 10 (by decide) dJ9_max_7cf53_6 ?_
    exact g_iret hc hf hr rfl (by decide) (by decide) dJ9_max_7cf53_10
def fJ_min (a1 : Int32) (a2 : Int32) (s0 : Mem) : Option (Int32 × Mem) :=
  (if a2 < a1 then some (a2, s0) else some (a1, s0))
def rm_J_min : Room := { frames := 0, cells := 0, slots := 0, locals := 0 }
set_option maxHeartbeats 4000000 in
set_option maxRecDepth 100000 in
theorem kJ_min {κ : Kx} {τ : Nat → Int64} {a1 : Int32} {a2 : Int32} {s0 sR : Mem} {rR : Int32}  (hf : fJ_min a1 a2 s0 = some (rR, sR)) : CtI κ yJ9_min_7cf53 cJ9_min_7cf53 2 (some .int) rm_J_min (NV κ τ) (NV κ τ) [.int a1, .int a2] s0 sR rR := by
  refine ct_I (by decide +kernel) (Nat.le_of_ble_eq_true rfl) (fun φ hc hr => ?_)
  have hc : Cx κ φ RJ9 cJ9_min_7cf53 2 rm_J_min := hc
  show G κ φ (QI κ φ (NV κ τ) sR rR rm_J_min.cells rm_J_min.slots) (NV κ τ) 0 0 s0 [(0, .int a1), (1, .int a2)] 0 []
  unfold fJ_min at hf
  refine g_iload_n (i := 0) hc 0 rfl rfl dJ9_min_7cf53_0 (pc2 := 1) rfl ?_
  refine g_iload_n (i := 1) hc 1 rfl rfl dJ9_min_7cf53_1 (pc2 := 2) rfl ?_
  refine g_icmp_gt hc 9 (by decide) dJ9_min_7cf53_2 (pc2 := 5) rfl (fun q => ?_) (fun q => ?_)
  · have hf := ite_t hf q
    refine g_iload_n (i := 1) hc 1 rfl rfl dJ9_min_7cf53_9 (pc2 := 10) rfl ?_
    exact g_iret hc hf hr rfl (by decide) (by decide) dJ9_min_7cf53_10
  · have hf := ite_f hf q
    refine g_iload_n (i := 0) hc 0 rfl rfl dJ9_min_7cf53_5 (pc2 := 6) rfl ?_
    refine g_goto hc 10 (by decide) dJ9_min_7cf53_6 ?_
    exact g_iret hc hf hr rfl (by decide) (by decide) dJ9_min_7cf53_10
