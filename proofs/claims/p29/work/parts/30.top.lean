def f6_errorPosition  (s0 : Mem) : Option (Int32 × Mem) :=
  bd (f3_readInto 15 s0) fun r1 s1 => some (r1, s1)
def rm_6_errorPosition : Room := { frames := 6, cells := 0, slots := 0, locals := 138 }
set_option maxHeartbeats 4000000 in
set_option maxRecDepth 100000 in
theorem k6_errorPosition {κ : Kx} {τ : Nat → Int64}  {s0 sR : Mem} {rR : Int32}  (hf : f6_errorPosition s0 = some (rR, sR)) : CtI κ yX6_errorPosition cX6_errorPosition 1 (some .int) rm_6_errorPosition (NV κ τ) (NV κ τ) [.ref (ad κ.1 0 0)] s0 sR rR := by
  refine ct_I (by decide +kernel) (Nat.le_of_ble_eq_true rfl) (fun φ hc hr => ?_)
  have hc : Cx κ φ RX6 cX6_errorPosition 1 rm_6_errorPosition := hc
  show G κ φ (QI κ φ (NV κ τ) sR rR rm_6_errorPosition.cells rm_6_errorPosition.slots) (NV κ τ) 0 0 s0 [(0, .ref (ad κ.1 0 0))] 0 []
  unfold f6_errorPosition at hf
  refine g_aload_n (i := 0) hc 0 rfl rfl dX6_errorPosition_0 (pc2 := 1) rfl ?_
  refine g_getr (q := ad κ.1 1 0) hc fo_X6_12 (u0 (by decide)) rfl dX6_errorPosition_1 (pc2 := 4) rfl ?_
  refine g_aload_n (i := 0) hc 0 rfl rfl dX6_errorPosition_4 (pc2 := 5) rfl ?_
  refine g_getr (q := ad κ.1 3 15) hc fo_X6_38 (u0 (by decide)) rfl dX6_errorPosition_5 (pc2 := 8) rfl ?_
  obtain ⟨r1, s1, hp, hf⟩ := bd_some hf
  refine g_vI hc (k3_readInto (by decide) hp) co_X6_68 (u1 (by decide)) rfl rfl (by decide) (by decide) (Nat.le_of_ble_eq_true rfl) dX6_errorPosition_8 (pc2 := 11) rfl ?_
  exact g_iret hc hf hr rfl (by decide) (by decide) dX6_errorPosition_11
def f6_about (a1 : Int32) (s0 : Mem) : Option ((Nat ⊕ Int32) × Mem) :=
  (if a1 = (0 : Int32) then some (.inr (s0 30 0 0), s0) else (if a1 = (1 : Int32) then some (.inr (s0 31 0 0), s0) else (if a1 = (2 : Int32) then some (.inr (s0 32 0 0), s0) else (if a1 = (3 : Int32) then some (.inr (s0 33 0 0), s0) else (if a1 = (4 : Int32) then some (.inr (s0 34 0 0), s0) else (if a1 = (5 : Int32) then bd (f2_allDebts 0 s0) fun r1 s1 => some (.inr r1, s1) else (if a1 = (6 : Int32) then bd (f2_waitingBursts 0 s0) fun r2 s2 => some (.inr r2, s2) else (if a1 = (7 : Int32) then bd (f2_openAnswers 0 s0) fun r3 s3 => some (.inr r3, s3) else (if a1 = (8 : Int32) then some (.inr (s0 35 0 0), s0) else (if a1 = (9 : Int32) then bd (f2_bankruptBits 0 s0) fun r4 s4 => some (.inr r4, s4) else some (.inl 0, s0)))))))))))
def rm_6_about : Room := { frames := 2, cells := 0, slots := 0, locals := 44 }
set_option maxHeartbeats 4000000 in
set_option maxRecDepth 100000 in
theorem kz6_about {κ : Kx} {τ : Nat → Int64} {a1 : Int32} {s0 sR : Mem} {rR : Int32}  (hf : f6_about a1 s0 = some (.inr rR, sR)) : CtI κ yX6_about cX6_about 2 (some .int) rm_6_about (NV κ τ) (NV κ τ) [.ref (ad κ.1 0 0), .int a1] s0 sR rR := by
  refine ct_I (by decide +kernel) (Nat.le_of_ble_eq_true rfl) (fun φ hc hr => ?_)
  have hc : Cx κ φ RX6 cX6_about 2 rm_6_about := hc
  show G κ φ (QI κ φ (NV κ τ) sR rR rm_6_about.cells rm_6_about.slots) (NV κ τ) 0 0 s0 [(0, .ref (ad κ.1 0 0)), (1, .int a1)] 0 []
  unfold f6_about at hf
  refine g_iload_n (i := 1) hc 1 rfl rfl dX6_about_0 (pc2 := 1) rfl ?_
  by_cases q0 : a1 = (0 : Int32)
  · have hf := ite_t hf q0
    refine g_case hc 56 (0 : Int32) q0 (by decide) (by decide) rfl (by decide) dX6_about_1 ?_
    refine g_aload_n (i := 0) hc 0 rfl rfl dX6_about_56 (pc2 := 57) rfl ?_
    refine g_getr (q := ad κ.1 3 0) hc fo_X6_19 (u0 (by decide)) rfl dX6_about_57 (pc2 := 60) rfl ?_
    refine g_geti hc fo_X6_83 (u3 (by decide)) dX6_about_60 (pc2 := 63) rfl ?_
    exact g_iret hc (ni_r hf) hr rfl (by decide) (by decide) dX6_about_63
  · have hf := ite_f hf q0
    by_cases q1 : a1 = (1 : Int32)
    · have hf := ite_t hf q1
      refine g_case hc 64 (1 : Int32) q1 (by decide) (by decide) rfl (by decide) dX6_about_1 ?_
      refine g_aload_n (i := 0) hc 0 rfl rfl dX6_about_64 (pc2 := 65) rfl ?_
      refine g_getr (q := ad κ.1 3 0) hc fo_X6_19 (u0 (by decide)) rfl dX6_about_65 (pc2 := 68) rfl ?_
      refine g_geti hc fo_X6_87 (u3 (by decide)) dX6_about_68 (pc2 := 71) rfl ?_
      exact g_iret hc (ni_r hf) hr rfl (by decide) (by decide) dX6_about_71
    · have hf := ite_f hf q1
      by_cases q2 : a1 = (2 : Int32)
      · have hf := ite_t hf q2
        refine g_case hc 72 (2 : Int32) q2 (by decide) (by decide) rfl (by decide) dX6_about_1 ?_
        refine g_aload_n (i := 0) hc 0 rfl rfl dX6_about_72 (pc2 := 73) rfl ?_
        refine g_getr (q := ad κ.1 3 0) hc fo_X6_19 (u0 (by decide)) rfl dX6_about_73 (pc2 := 76) rfl ?_
        refine g_geti hc fo_X6_90 (u3 (by decide)) dX6_about_76 (pc2 := 79) rfl ?_
        exact g_iret hc (ni_r hf) hr rfl (by decide) (by decide) dX6_about_79
      · have hf := ite_f hf q2
        by_cases q3 : a1 = (3 : Int32)
        · have hf := ite_t hf q3
          refine g_case hc 80 (3 : Int32) q3 (by decide) (by decide) rfl (by decide) dX6_about_1 ?_
          refine g_aload_n (i := 0) hc 0 rfl rfl dX6_about_80 (pc2 := 81) rfl ?_
          refine g_getr (q := ad κ.1 3 0) hc fo_X6_19 (u0 (by decide)) rfl dX6_about_81 (pc2 := 84) rfl ?_
          refine g_geti hc fo_X6_93 (u3 (by decide)) dX6_about_84 (pc2 := 87) rfl ?_
          exact g_iret hc (ni_r hf) hr rfl (by decide) (by decide) dX6_about_87
        · have hf := ite_f hf q3
          by_cases q4 : a1 = (4 : Int32)
          · have hf := ite_t hf q4
            refine g_case hc 88 (4 : Int32) q4 (by decide) (by decide) rfl (by decide) dX6_about_1 ?_
            refine g_aload_n (i := 0) hc 0 rfl rfl dX6_about_88 (pc2 := 89) rfl ?_
            refine g_getr (q := ad κ.1 3 0) hc fo_X6_19 (u0 (by decide)) rfl dX6_about_89 (pc2 := 92) rfl ?_
            refine g_geti hc fo_X6_96 (u3 (by decide)) dX6_about_92 (pc2 := 95) rfl ?_
            exact g_iret hc (ni_r hf) hr rfl (by decide) (by decide) dX6_about_95
          · have hf := ite_f hf q4
            by_cases q5 : a1 = (5 : Int32)
            · have hf := ite_t hf q5
              refine g_case hc 96 (5 : Int32) q5 (by decide) (by decide) rfl (by decide) dX6_about_1 ?_
              refine g_aload_n (i := 0) hc 0 rfl rfl dX6_about_96 (pc2 := 97) rfl ?_
              refine g_getr (q := ad κ.1 3 0) hc fo_X6_19 (u0 (by decide)) rfl dX6_about_97 (pc2 := 100) rfl ?_
              obtain ⟨r1, s1, hp, hf⟩ := bd_some hf
              refine g_vI hc (k2_allDebts (by decide) hp) co_X6_99 (u3 (by decide)) rfl rfl (by decide) (by decide) (Nat.le_of_ble_eq_true rfl) dX6_about_100 (pc2 := 103) rfl ?_
              exact g_iret hc (ni_r hf) hr rfl (by decide) (by decide) dX6_about_103
            · have hf := ite_f hf q5
              by_cases q6 : a1 = (6 : Int32)
              · have hf := ite_t hf q6
                refine g_case hc 104 (6 : Int32) q6 (by decide) (by decide) rfl (by decide) dX6_about_1 ?_
                refine g_aload_n (i := 0) hc 0 rfl rfl dX6_about_104 (pc2 := 105) rfl ?_
                refine g_getr (q := ad κ.1 3 0) hc fo_X6_19 (u0 (by decide)) rfl dX6_about_105 (pc2 := 108) rfl ?_
                obtain ⟨r2, s2, hp, hf⟩ := bd_some hf
                refine g_vI hc (k2_waitingBursts (by decide) hp) co_X6_80 (u3 (by decide)) rfl rfl (by decide) (by decide) (Nat.le_of_ble_eq_true rfl) dX6_about_108 (pc2 := 111) rfl ?_
                exact g_iret hc (ni_r hf) hr rfl (by decide) (by decide) dX6_about_111
              · have hf := ite_f hf q6
                by_cases q7 : a1 = (7 : Int32)
                · have hf := ite_t hf q7
                  refine g_case hc 112 (7 : Int32) q7 (by decide) (by decide) rfl (by decide) dX6_about_1 ?_
                  refine g_aload_n (i := 0) hc 0 rfl rfl dX6_about_112 (pc2 := 113) rfl ?_
                  refine g_getr (q := ad κ.1 3 0) hc fo_X6_19 (u0 (by decide)) rfl dX6_about_113 (pc2 := 116) rfl ?_
                  obtain ⟨r3, s3, hp, hf⟩ := bd_some hf
                  refine g_vI hc (k2_openAnswers (by decide) hp) co_X6_102 (u3 (by decide)) rfl rfl (by decide) (by decide) (Nat.le_of_ble_eq_true rfl) dX6_about_116 (pc2 := 119) rfl ?_
                  exact g_iret hc (ni_r hf) hr rfl (by decide) (by decide) dX6_about_119
                · have hf := ite_f hf q7
                  by_cases q8 : a1 = (8 : Int32)
                  · have hf := ite_t hf q8
                    refine g_case hc 120 (8 : Int32) q8 (by decide) (by decide) rfl (by decide) dX6_about_1 ?_
                    refine g_aload_n (i := 0) hc 0 rfl rfl dX6_about_120 (pc2 := 121) rfl ?_
                    refine g_getr (q := ad κ.1 3 0) hc fo_X6_19 (u0 (by decide)) rfl dX6_about_121 (pc2 := 124) rfl ?_
                    refine g_geti hc fo_X6_105 (u3 (by decide)) dX6_about_124 (pc2 := 127) rfl ?_
                    exact g_iret hc (ni_r hf) hr rfl (by decide) (by decide) dX6_about_127
                  · have hf := ite_f hf q8
                    by_cases q9 : a1 = (9 : Int32)
                    · have hf := ite_t hf q9
                      refine g_case hc 128 (9 : Int32) q9 (by decide) (by decide) rfl (by decide) dX6_about_1 ?_
                      refine g_aload_n (i := 0) hc 0 rfl rfl dX6_about_128 (pc2 := 129) rfl ?_
                      refine g_getr (q := ad κ.1 3 0) hc fo_X6_19 (u0 (by decide)) rfl dX6_about_129 (pc2 := 132) rfl ?_
                      obtain ⟨r4, s4, hp, hf⟩ := bd_some hf
                      refine g_vI hc (k2_bankruptBits (by decide) hp) co_X6_108 (u3 (by decide)) rfl rfl (by decide) (by decide) (Nat.le_of_ble_eq_true rfl) dX6_about_132 (pc2 := 135) rfl ?_
                      exact g_iret hc (ni_r hf) hr rfl (by decide) (by decide) dX6_about_135
                    · have hf := ite_f hf q9
                      refine g_tableOut hc 136 ?_ (by decide) dX6_about_1 ?_
                      · have z0 := ne_i q0 (z := 0) (by decide) ; have z1 := ne_i q1 (z := 1) (by decide) ; have z2 := ne_i q2 (z := 2) (by decide) ; have z3 := ne_i q3 (z := 3) (by decide) ; have z4 := ne_i q4 (z := 4) (by decide) ; have z5 := ne_i q5 (z := 5) (by decide) ; have z6 := ne_i q6 (z := 6) (by decide) ; have z7 := ne_i q7 (z := 7) (by decide) ; have z8 := ne_i q8 (z := 8) (by decide) ; have z9 := ne_i q9 (z := 9) (by decide) ; omega
                      cases hf
def f6_needMaster (a1 : Int32) (s0 : Mem) : Option ((Nat ⊕ Unit) × Mem) :=
  bd (f2_hasMaster 0 a1 s0) fun r1 s1 => (if r1 = (0 : Int32) then some (.inl 2, s1) else some (.inr (), s1))
def rm_6_needMaster : Room := { frames := 1, cells := 0, slots := 0, locals := 21 }
set_option maxHeartbeats 4000000 in
set_option maxRecDepth 100000 in
theorem kz6_needMaster {κ : Kx} {τ : Nat → Int64} {a1 : Int32} {s0 sR : Mem}  (hf : f6_needMaster a1 s0 = some (.inr (), sR)) : CtV κ yX6_needMaster cX6_needMaster 2 none rm_6_needMaster (NV κ τ) (NV κ τ) [.ref (ad κ.1 0 0), .int a1] s0 sR := by
  refine ct_V (by decide +kernel) (Nat.le_of_ble_eq_true rfl) (fun φ hc hr => ?_)
  have hc : Cx κ φ RX6 cX6_needMaster 2 rm_6_needMaster := hc
  show G κ φ (QV κ φ (NV κ τ) sR rm_6_needMaster.cells rm_6_needMaster.slots) (NV κ τ) 0 0 s0 [(0, .ref (ad κ.1 0 0)), (1, .int a1)] 0 []
  unfold f6_needMaster at hf
  refine g_aload_n (i := 0) hc 0 rfl rfl dX6_needMaster_0 (pc2 := 1) rfl ?_
  refine g_getr (q := ad κ.1 3 0) hc fo_X6_19 (u0 (by decide)) rfl dX6_needMaster_1 (pc2 := 4) rfl ?_
  refine g_iload_n (i := 1) hc 1 rfl rfl dX6_needMaster_4 (pc2 := 5) rfl ?_
  obtain ⟨r1, s1, hp, hf⟩ := bd_some hf
  refine g_vI hc (k2_hasMaster (by decide) hp) co_X6_272 (u3 (by decide)) rfl rfl (by decide) (by decide) (Nat.le_of_ble_eq_true rfl) dX6_needMaster_5 (pc2 := 8) rfl ?_
  refine g_if_ne hc 22 (by decide) dX6_needMaster_8 (pc2 := 11) rfl (fun q => ?_) (fun q => ?_)
  · have hf := ite_f hf q
    exact g_vret hc (ni_v hf) hr (by decide) (by decide) dX6_needMaster_22
  · have hf := ite_t hf q
    cases hf
def f6_master (a1 : Int32) (a2 : Int32) (s0 : Mem) : Option ((Nat ⊕ Int32) × Mem) :=
  bx (f6_needMaster a1 s0) (fun e s1 => some (.inl e, s1)) fun _ s1 => gd (ib a1 6) ((if a2 = (0 : Int32) then bd (f2_slotsOf 0 a1 s1) fun r1 s2 => some (.inr r1, s2) else (if a2 = (1 : Int32) then bd (f5_debts (6 * 0 + a1.toNatClampNeg) s1) fun r2 s3 => some (.inr r2, s3) else (if a2 = (2 : Int32) then bd (f2_owedTo 0 a1 s1) fun r3 s4 => some (.inr r3, s4) else (if a2 = (3 : Int32) then some (.inr (s1 50 (6 * 0 + a1.toNatClampNeg) 0), s1) else (if a2 = (4 : Int32) then bd (f1_allWords (6 * 0 + a1.toNatClampNeg) s1) fun r4 s5 => some (.inr r4, s5) else (if a2 = (5 : Int32) then some (.inr (s1 42 (6 * 0 + a1.toNatClampNeg) 0), s1) else (if a2 = (6 : Int32) then some (.inr (s1 43 (6 * 0 + a1.toNatClampNeg) 0), s1) else (if a2 = (7 : Int32) then some (.inr (s1 44 (6 * 0 + a1.toNatClampNeg) 0), s1) else (if a2 = (8 : Int32) then some (.inr (s1 45 (6 * 0 + a1.toNatClampNeg) 0), s1) else (if a2 = (9 : Int32) then some (.inr (s1 46 (6 * 0 + a1.toNatClampNeg) 0), s1) else (if a2 = (10 : Int32) then some (.inr (s1 47 (6 * 0 + a1.toNatClampNeg) 0), s1) else some (.inl 0, s1)))))))))))))
def rm_6_master : Room := { frames := 2, cells := 0, slots := 0, locals := 44 }
set_option maxHeartbeats 4000000 in
set_option maxRecDepth 100000 in
theorem kz6_master {κ : Kx} {τ : Nat → Int64} {a1 : Int32} {a2 : Int32} {s0 sR : Mem} {rR : Int32}  (hf : f6_master a1 a2 s0 = some (.inr rR, sR)) : CtI κ yX6_master cX6_master 4 (some .int) rm_6_master (NV κ τ) (NV κ τ) [.ref (ad κ.1 0 0), .int a1, .int a2] s0 sR rR := by
  refine ct_I (by decide +kernel) (Nat.le_of_ble_eq_true rfl) (fun φ hc hr => ?_)
  have hc : Cx κ φ RX6 cX6_master 4 rm_6_master := hc
  show G κ φ (QI κ φ (NV κ τ) sR rR rm_6_master.cells rm_6_master.slots) (NV κ τ) 0 0 s0 [(0, .ref (ad κ.1 0 0)), (1, .int a1), (2, .int a2)] 0 []
  unfold f6_master at hf
  refine g_aload_n (i := 0) hc 0 rfl rfl dX6_master_0 (pc2 := 1) rfl ?_
  refine g_iload_n (i := 1) hc 1 rfl rfl dX6_master_1 (pc2 := 2) rfl ?_
  obtain ⟨s1, hp, hf⟩ := bx_in2 hf
  refine g_vV hc (kz6_needMaster hp) co_X6_113 (u0 (by decide)) rfl rfl (by decide) (by decide) (Nat.le_of_ble_eq_true rfl) dX6_master_2 (pc2 := 5) rfl ?_
  refine g_aload_n (i := 0) hc 0 rfl rfl dX6_master_5 (pc2 := 6) rfl ?_
  refine g_getr (q := ad κ.1 3 0) hc fo_X6_19 (u0 (by decide)) rfl dX6_master_6 (pc2 := 9) rfl ?_
  refine g_getr (q := ad κ.1 6 0) hc fo_X6_117 (u3 (by decide)) rfl dX6_master_9 (pc2 := 12) rfl ?_
  refine g_iload_n (i := 1) hc 1 rfl rfl dX6_master_12 (pc2 := 13) rfl ?_
  obtain ⟨hg1, hf⟩ := gd_some hf
  have ihg1 := ib_lt hg1
  refine g_aldr (q := ad κ.1 7 (6 * 0 + a1.toNatClampNeg)) hc 6 0 (by decide) (by decide) (u6 (by decide)) hg1 rfl dX6_master_13 (pc2 := 14) rfl ?_
  refine g_astore_n (i := 3) (L1 := [(3, .ref (ad κ.1 7 (6 * 0 + a1.toNatClampNeg))), (0, .ref (ad κ.1 0 0)), (1, .int a1), (2, .int a2)]) hc rfl (by decide) rfl dX6_master_14 (pc2 := 15) rfl ?_
  refine g_iload_n (i := 2) hc 3 rfl rfl dX6_master_15 (pc2 := 16) rfl ?_
  by_cases q0 : a2 = (0 : Int32)
  · have hf := ite_t hf q0
    refine g_case hc 76 (0 : Int32) q0 (by decide) (by decide) rfl (by decide) dX6_master_16 ?_
    refine g_aload_n (i := 0) hc 1 rfl rfl dX6_master_76 (pc2 := 77) rfl ?_
    refine g_getr (q := ad κ.1 3 0) hc fo_X6_19 (u0 (by decide)) rfl dX6_master_77 (pc2 := 80) rfl ?_
    refine g_iload_n (i := 1) hc 2 rfl rfl dX6_master_80 (pc2 := 81) rfl ?_
    obtain ⟨r1, s2, hp, hf⟩ := bd_some hf
    refine g_vI hc (k2_slotsOf (by decide) hp) co_X6_121 (u3 (by decide)) rfl rfl (by decide) (by decide) (Nat.le_of_ble_eq_true rfl) dX6_master_81 (pc2 := 84) rfl ?_
    exact g_iret hc (ni_r hf) hr rfl (by decide) (by decide) dX6_master_84
  · have hf := ite_f hf q0
    by_cases q1 : a2 = (1 : Int32)
    · have hf := ite_t hf q1
      refine g_case hc 85 (1 : Int32) q1 (by decide) (by decide) rfl (by decide) dX6_master_16 ?_
      refine g_aload_n (i := 3) hc 0 rfl rfl dX6_master_85 (pc2 := 86) rfl ?_
      obtain ⟨r2, s3, hp, hf⟩ := bd_some hf
      refine g_vI hc (k5_debts (by omega) hp) co_X6_125 (u7 (by omega)) rfl rfl (by decide) (by decide) (Nat.le_of_ble_eq_true rfl) dX6_master_86 (pc2 := 89) rfl ?_
      exact g_iret hc (ni_r hf) hr rfl (by decide) (by decide) dX6_master_89
    · have hf := ite_f hf q1
      by_cases q2 : a2 = (2 : Int32)
      · have hf := ite_t hf q2
        refine g_case hc 90 (2 : Int32) q2 (by decide) (by decide) rfl (by decide) dX6_master_16 ?_
        refine g_aload_n (i := 0) hc 1 rfl rfl dX6_master_90 (pc2 := 91) rfl ?_
        refine g_getr (q := ad κ.1 3 0) hc fo_X6_19 (u0 (by decide)) rfl dX6_master_91 (pc2 := 94) rfl ?_
        refine g_iload_n (i := 1) hc 2 rfl rfl dX6_master_94 (pc2 := 95) rfl ?_
        obtain ⟨r3, s4, hp, hf⟩ := bd_some hf
        refine g_vI hc (k2_owedTo (by decide) hp) co_X6_130 (u3 (by decide)) rfl rfl (by decide) (by decide) (Nat.le_of_ble_eq_true rfl) dX6_master_95 (pc2 := 98) rfl ?_
        exact g_iret hc (ni_r hf) hr rfl (by decide) (by decide) dX6_master_98
      · have hf := ite_f hf q2
        by_cases q3 : a2 = (3 : Int32)
        · have hf := ite_t hf q3
          refine g_case hc 99 (3 : Int32) q3 (by decide) (by decide) rfl (by decide) dX6_master_16 ?_
          refine g_aload_n (i := 3) hc 0 rfl rfl dX6_master_99 (pc2 := 100) rfl ?_
          refine g_getr (q := ad κ.1 9 (6 * 0 + a1.toNatClampNeg)) hc fo_X6_133 (u7 (by omega)) rfl dX6_master_100 (pc2 := 103) rfl ?_
          refine g_geti hc fo_X6_137 (u9 (by omega)) dX6_master_103 (pc2 := 106) rfl ?_
          exact g_iret hc (ni_r hf) hr rfl (by decide) (by decide) dX6_master_106
        · have hf := ite_f hf q3
          by_cases q4 : a2 = (4 : Int32)
          · have hf := ite_t hf q4
            refine g_case hc 107 (4 : Int32) q4 (by decide) (by decide) rfl (by decide) dX6_master_16 ?_
            refine g_aload_n (i := 3) hc 0 rfl rfl dX6_master_107 (pc2 := 108) rfl ?_
            refine g_getr (q := ad κ.1 9 (6 * 0 + a1.toNatClampNeg)) hc fo_X6_133 (u7 (by omega)) rfl dX6_master_108 (pc2 := 111) rfl ?_
            obtain ⟨r4, s5, hp, hf⟩ := bd_some hf
            refine g_vI hc (k1_allWords (by omega) hp) co_X6_142 (u9 (by omega)) rfl rfl (by decide) (by decide) (Nat.le_of_ble_eq_true rfl) dX6_master_111 (pc2 := 114) rfl ?_
            exact g_iret hc (ni_r hf) hr rfl (by decide) (by decide) dX6_master_114
          · have hf := ite_f hf q4
            by_cases q5 : a2 = (5 : Int32)
            · have hf := ite_t hf q5
              refine g_case hc 115 (5 : Int32) q5 (by decide) (by decide) rfl (by decide) dX6_master_16 ?_
              refine g_aload_n (i := 3) hc 0 rfl rfl dX6_master_115 (pc2 := 116) rfl ?_
              refine g_geti hc fo_X6_145 (u7 (by omega)) dX6_master_116 (pc2 := 119) rfl ?_
              exact g_iret hc (ni_r hf) hr rfl (by decide) (by decide) dX6_master_119
            · have hf := ite_f hf q5
              by_cases q6 : a2 = (6 : Int32)
              · have hf := ite_t hf q6
                refine g_case hc 120 (6 : Int32) q6 (by decide) (by decide) rfl (by decide) dX6_master_16 ?_
                refine g_aload_n (i := 3) hc 0 rfl rfl dX6_master_120 (pc2 := 121) rfl ?_
                refine g_geti hc fo_X6_148 (u7 (by omega)) dX6_master_121 (pc2 := 124) rfl ?_
                exact g_iret hc (ni_r hf) hr rfl (by decide) (by decide) dX6_master_124
              · have hf := ite_f hf q6
                by_cases q7 : a2 = (7 : Int32)
                · have hf := ite_t hf q7
                  refine g_case hc 125 (7 : Int32) q7 (by decide) (by decide) rfl (by decide) dX6_master_16 ?_
                  refine g_aload_n (i := 3) hc 0 rfl rfl dX6_master_125 (pc2 := 126) rfl ?_
                  refine g_geti hc fo_X6_151 (u7 (by omega)) dX6_master_126 (pc2 := 129) rfl ?_
                  exact g_iret hc (ni_r hf) hr rfl (by decide) (by decide) dX6_master_129
                · have hf := ite_f hf q7
                  by_cases q8 : a2 = (8 : Int32)
                  · have hf := ite_t hf q8
                    refine g_case hc 130 (8 : Int32) q8 (by decide) (by decide) rfl (by decide) dX6_master_16 ?_
                    refine g_aload_n (i := 3) hc 0 rfl rfl dX6_master_130 (pc2 := 131) rfl ?_
                    refine g_geti hc fo_X6_154 (u7 (by omega)) dX6_master_131 (pc2 := 134) rfl ?_
                    exact g_iret hc (ni_r hf) hr rfl (by decide) (by decide) dX6_master_134
                  · have hf := ite_f hf q8
                    by_cases q9 : a2 = (9 : Int32)
                    · have hf := ite_t hf q9
                      refine g_case hc 135 (9 : Int32) q9 (by decide) (by decide) rfl (by decide) dX6_master_16 ?_
                      refine g_aload_n (i := 3) hc 0 rfl rfl dX6_master_135 (pc2 := 136) rfl ?_
                      refine g_geti hc fo_X6_157 (u7 (by omega)) dX6_master_136 (pc2 := 139) rfl ?_
                      exact g_iret hc (ni_r hf) hr rfl (by decide) (by decide) dX6_master_139
                    · have hf := ite_f hf q9
                      by_cases q10 : a2 = (10 : Int32)
                      · have hf := ite_t hf q10
                        refine g_case hc 140 (10 : Int32) q10 (by decide) (by decide) rfl (by decide) dX6_master_16 ?_
                        refine g_aload_n (i := 3) hc 0 rfl rfl dX6_master_140 (pc2 := 141) rfl ?_
                        refine g_geti hc fo_X6_160 (u7 (by omega)) dX6_master_141 (pc2 := 144) rfl ?_
                        exact g_iret hc (ni_r hf) hr rfl (by decide) (by decide) dX6_master_144
                      · have hf := ite_f hf q10
                        refine g_tableOut hc 145 ?_ (by decide) dX6_master_16 ?_
                        · have z0 := ne_i q0 (z := 0) (by decide) ; have z1 := ne_i q1 (z := 1) (by decide) ; have z2 := ne_i q2 (z := 2) (by decide) ; have z3 := ne_i q3 (z := 3) (by decide) ; have z4 := ne_i q4 (z := 4) (by decide) ; have z5 := ne_i q5 (z := 5) (by decide) ; have z6 := ne_i q6 (z := 6) (by decide) ; have z7 := ne_i q7 (z := 7) (by decide) ; have z8 := ne_i q8 (z := 8) (by decide) ; have z9 := ne_i q9 (z := 9) (by decide) ; have z10 := ne_i q10 (z := 10) (by decide) ; omega
                        cases hf
def f6_needSlot (a1 : Int32) (s0 : Mem) : Option ((Nat ⊕ Unit) × Mem) :=
  bd (f2_hasSlot 0 a1 s0) fun r1 s1 => (if r1 = (0 : Int32) then some (.inl 2, s1) else some (.inr (), s1))
def rm_6_needSlot : Room := { frames := 1, cells := 0, slots := 0, locals := 21 }
set_option maxHeartbeats 4000000 in
set_option maxRecDepth 100000 in
theorem kz6_needSlot {κ : Kx} {τ : Nat → Int64} {a1 : Int32} {s0 sR : Mem}  (hf : f6_needSlot a1 s0 = some (.inr (), sR)) : CtV κ yX6_needSlot cX6_needSlot 2 none rm_6_needSlot (NV κ τ) (NV κ τ) [.ref (ad κ.1 0 0), .int a1] s0 sR := by
  refine ct_V (by decide +kernel) (Nat.le_of_ble_eq_true rfl) (fun φ hc hr => ?_)
  have hc : Cx κ φ RX6 cX6_needSlot 2 rm_6_needSlot := hc
  show G κ φ (QV κ φ (NV κ τ) sR rm_6_needSlot.cells rm_6_needSlot.slots) (NV κ τ) 0 0 s0 [(0, .ref (ad κ.1 0 0)), (1, .int a1)] 0 []
  unfold f6_needSlot at hf
  refine g_aload_n (i := 0) hc 0 rfl rfl dX6_needSlot_0 (pc2 := 1) rfl ?_
  refine g_getr (q := ad κ.1 3 0) hc fo_X6_19 (u0 (by decide)) rfl dX6_needSlot_1 (pc2 := 4) rfl ?_
  refine g_iload_n (i := 1) hc 1 rfl rfl dX6_needSlot_4 (pc2 := 5) rfl ?_
  obtain ⟨r1, s1, hp, hf⟩ := bd_some hf
  refine g_vI hc (k2_hasSlot (by decide) hp) co_X6_280 (u3 (by decide)) rfl rfl (by decide) (by decide) (Nat.le_of_ble_eq_true rfl) dX6_needSlot_5 (pc2 := 8) rfl ?_
  refine g_if_ne hc 22 (by decide) dX6_needSlot_8 (pc2 := 11) rfl (fun q => ?_) (fun q => ?_)
  · have hf := ite_f hf q
    exact g_vret hc (ni_v hf) hr (by decide) (by decide) dX6_needSlot_22
  · have hf := ite_t hf q
    cases hf
def f6_owner (a1 : Int32) (s0 : Mem) : Option ((Nat ⊕ Int32) × Mem) :=
  bx (f6_needSlot a1 s0) (fun e s1 => some (.inl e, s1)) fun _ s1 => gd (ib a1 16) (some (.inr (s1 4 0 a1.toNatClampNeg), s1))
def rm_6_owner : Room := { frames := 2, cells := 0, slots := 0, locals := 42 }
set_option maxHeartbeats 4000000 in
set_option maxRecDepth 100000 in
theorem kz6_owner {κ : Kx} {τ : Nat → Int64} {a1 : Int32} {s0 sR : Mem} {rR : Int32}  (hf : f6_owner a1 s0 = some (.inr rR, sR)) : CtI κ yX6_owner cX6_owner 2 (some .int) rm_6_owner (NV κ τ) (NV κ τ) [.ref (ad κ.1 0 0), .int a1] s0 sR rR := by
  refine ct_I (by decide +kernel) (Nat.le_of_ble_eq_true rfl) (fun φ hc hr => ?_)
  have hc : Cx κ φ RX6 cX6_owner 2 rm_6_owner := hc
  show G κ φ (QI κ φ (NV κ τ) sR rR rm_6_owner.cells rm_6_owner.slots) (NV κ τ) 0 0 s0 [(0, .ref (ad κ.1 0 0)), (1, .int a1)] 0 []
  unfold f6_owner at hf
  refine g_aload_n (i := 0) hc 0 rfl rfl dX6_owner_0 (pc2 := 1) rfl ?_
  refine g_iload_n (i := 1) hc 1 rfl rfl dX6_owner_1 (pc2 := 2) rfl ?_
  obtain ⟨s1, hp, hf⟩ := bx_in2 hf
  refine g_vV hc (kz6_needSlot hp) co_X6_165 (u0 (by decide)) rfl rfl (by decide) (by decide) (Nat.le_of_ble_eq_true rfl) dX6_owner_2 (pc2 := 5) rfl ?_
  refine g_aload_n (i := 0) hc 0 rfl rfl dX6_owner_5 (pc2 := 6) rfl ?_
  refine g_getr (q := ad κ.1 3 0) hc fo_X6_19 (u0 (by decide)) rfl dX6_owner_6 (pc2 := 9) rfl ?_
  refine g_getr (q := ad κ.1 4 0) hc fo_X6_168 (u3 (by decide)) rfl dX6_owner_9 (pc2 := 12) rfl ?_
  refine g_iload_n (i := 1) hc 1 rfl rfl dX6_owner_12 (pc2 := 13) rfl ?_
  obtain ⟨hg1, hf⟩ := gd_some hf
  refine g_aldi hc 4 0 rfl (u4 (by decide)) hg1 dX6_owner_13 (pc2 := 14) rfl ?_
  exact g_iret hc (ni_r hf) hr rfl (by decide) (by decide) dX6_owner_14
def f6_owes (a1 : Int32) (a2 : Int32) (s0 : Mem) : Option ((Nat ⊕ Int32) × Mem) :=
  bx (f6_needMaster a1 s0) (fun e s1 => some (.inl e, s1)) fun _ s1 => bx (f6_needMaster a2 s1) (fun e s2 => some (.inl e, s2)) fun _ s2 => gd (ib a1 6) (gd (ib a2 6) (some (.inr (s2 8 (6 * 0 + a1.toNatClampNeg) a2.toNatClampNeg), s2)))
def rm_6_owes : Room := { frames := 2, cells := 0, slots := 0, locals := 42 }
set_option maxHeartbeats 4000000 in
set_option maxRecDepth 100000 in
theorem kz6_owes {κ : Kx} {τ : Nat → Int64} {a1 : Int32} {a2 : Int32} {s0 sR : Mem} {rR : Int32}  (hf : f6_owes a1 a2 s0 = some (.inr rR, sR)) : CtI κ yX6_owes cX6_owes 3 (some .int) rm_6_owes (NV κ τ) (NV κ τ) [.ref (ad κ.1 0 0), .int a1, .int a2] s0 sR rR := by
  refine ct_I (by decide +kernel) (Nat.le_of_ble_eq_true rfl) (fun φ hc hr => ?_)
  have hc : Cx κ φ RX6 cX6_owes 3 rm_6_owes := hc
  show G κ φ (QI κ φ (NV κ τ) sR rR rm_6_owes.cells rm_6_owes.slots) (NV κ τ) 0 0 s0 [(0, .ref (ad κ.1 0 0)), (1, .int a1), (2, .int a2)] 0 []
  unfold f6_owes at hf
  refine g_aload_n (i := 0) hc 0 rfl rfl dX6_owes_0 (pc2 := 1) rfl ?_
  refine g_iload_n (i := 1) hc 1 rfl rfl dX6_owes_1 (pc2 := 2) rfl ?_
  obtain ⟨s1, hp, hf⟩ := bx_in2 hf
  refine g_vV hc (kz6_needMaster hp) co_X6_113 (u0 (by decide)) rfl rfl (by decide) (by decide) (Nat.le_of_ble_eq_true rfl) dX6_owes_2 (pc2 := 5) rfl ?_
  refine g_aload_n (i := 0) hc 0 rfl rfl dX6_owes_5 (pc2 := 6) rfl ?_
  refine g_iload_n (i := 2) hc 2 rfl rfl dX6_owes_6 (pc2 := 7) rfl ?_
  obtain ⟨s2, hp, hf⟩ := bx_in2 hf
  refine g_vV hc (kz6_needMaster hp) co_X6_113 (u0 (by decide)) rfl rfl (by decide) (by decide) (Nat.le_of_ble_eq_true rfl) dX6_owes_7 (pc2 := 10) rfl ?_
  refine g_aload_n (i := 0) hc 0 rfl rfl dX6_owes_10 (pc2 := 11) rfl ?_
  refine g_getr (q := ad κ.1 3 0) hc fo_X6_19 (u0 (by decide)) rfl dX6_owes_11 (pc2 := 14) rfl ?_
  refine g_getr (q := ad κ.1 6 0) hc fo_X6_117 (u3 (by decide)) rfl dX6_owes_14 (pc2 := 17) rfl ?_
  refine g_iload_n (i := 1) hc 1 rfl rfl dX6_owes_17 (pc2 := 18) rfl ?_
  obtain ⟨hg1, hf⟩ := gd_some hf
  have ihg1 := ib_lt hg1
  refine g_aldr (q := ad κ.1 7 (6 * 0 + a1.toNatClampNeg)) hc 6 0 (by decide) (by decide) (u6 (by decide)) hg1 rfl dX6_owes_18 (pc2 := 19) rfl ?_
  refine g_getr (q := ad κ.1 8 (6 * 0 + a1.toNatClampNeg)) hc fo_X6_172 (u7 (by omega)) rfl dX6_owes_19 (pc2 := 22) rfl ?_
  refine g_iload_n (i := 2) hc 2 rfl rfl dX6_owes_22 (pc2 := 23) rfl ?_
  obtain ⟨hg2, hf⟩ := gd_some hf
  refine g_aldi hc 8 (6 * 0 + a1.toNatClampNeg) rfl (u8 (by omega)) hg2 dX6_owes_23 (pc2 := 24) rfl ?_
  exact g_iret hc (ni_r hf) hr rfl (by decide) (by decide) dX6_owes_24
def f6_burst (a1 : Int32) (a2 : Int32) (a3 : Int32) (s0 : Mem) : Option ((Nat ⊕ Int32) × Mem) :=
  bx (f6_needMaster a1 s0) (fun e s1 => some (.inl e, s1)) fun _ s1 => (if a2 < (0 : Int32) then some (.inl 0, s1) else (if a3 < (0 : Int32) then some (.inl 0, s1) else (if a3 ≤ (2 : Int32) then gd (ib a1 6) ((if (s1 50 (6 * 0 + a1.toNatClampNeg) 0) ≤ a2 then some (.inr (-9 : Int32), s1) else (if a2 < (6 : Int32) then (if a3 = (0 : Int32) then gd (ib a2 6) (some (.inr (s1 10 (6 * 0 + a1.toNatClampNeg) a2.toNatClampNeg), s1)) else (if a3 = (1 : Int32) then gd (ib a2 6) (some (.inr (s1 11 (6 * 0 + a1.toNatClampNeg) a2.toNatClampNeg), s1)) else gd (ib a2 6) ((if (s1 12 (6 * 0 + a1.toNatClampNeg) a2.toNatClampNeg) = (0 : Int32) then some (.inr (0 : Int32), s1) else some (.inr (1 : Int32), s1))))) else some (.inr (-9 : Int32), s1)))) else some (.inl 0, s1))))
def rm_6_burst : Room := { frames := 2, cells := 0, slots := 0, locals := 42 }
set_option maxHeartbeats 4000000 in
set_option maxRecDepth 100000 in
theorem kz6_burst {κ : Kx} {τ : Nat → Int64} {a1 : Int32} {a2 : Int32} {a3 : Int32} {s0 sR : Mem} {rR : Int32}  (hf : f6_burst a1 a2 a3 s0 = some (.inr rR, sR)) : CtI κ yX6_burst cX6_burst 5 (some .int) rm_6_burst (NV κ τ) (NV κ τ) [.ref (ad κ.1 0 0), .int a1, .int a2, .int a3] s0 sR rR := by
  refine ct_I (by decide +kernel) (Nat.le_of_ble_eq_true rfl) (fun φ hc hr => ?_)
  have hc : Cx κ φ RX6 cX6_burst 5 rm_6_burst := hc
  show G κ φ (QI κ φ (NV κ τ) sR rR rm_6_burst.cells rm_6_burst.slots) (NV κ τ) 0 0 s0 [(0, .ref (ad κ.1 0 0)), (1, .int a1), (2, .int a2), (3, .int a3)] 0 []
  unfold f6_burst at hf
  refine g_aload_n (i := 0) hc 0 rfl rfl dX6_burst_0 (pc2 := 1) rfl ?_
  refine g_iload_n (i := 1) hc 1 rfl rfl dX6_burst_1 (pc2 := 2) rfl ?_
  obtain ⟨s1, hp, hf⟩ := bx_in2 hf
  refine g_vV hc (kz6_needMaster hp) co_X6_113 (u0 (by decide)) rfl rfl (by decide) (by decide) (Nat.le_of_ble_eq_true rfl) dX6_burst_2 (pc2 := 5) rfl ?_
  refine g_iload_n (i := 2) hc 2 rfl rfl dX6_burst_5 (pc2 := 6) rfl ?_
  refine g_if_lt hc 18 (by decide) dX6_burst_6 (pc2 := 9) rfl (fun q => ?_) (fun q => ?_)
  · have hf := ite_t hf q
    cases hf
  · have hf := ite_f hf q
    refine g_iload_n (i := 3) hc 3 rfl rfl dX6_burst_9 (pc2 := 10) rfl ?_
    refine g_if_lt hc 18 (by decide) dX6_burst_10 (pc2 := 13) rfl (fun q => ?_) (fun q => ?_)
    · have hf := ite_t hf q
      cases hf
    · have hf := ite_f hf q
      refine g_iload_n (i := 3) hc 3 rfl rfl dX6_burst_13 (pc2 := 14) rfl ?_
      refine g_iconst (v := (2 : Int32)) hc (by decide) dX6_burst_14 (pc2 := 15) rfl ?_
      refine g_icmp_le hc 28 (by decide) dX6_burst_15 (pc2 := 18) rfl (fun q => ?_) (fun q => ?_)
      · have hf := ite_t hf q
        refine g_aload_n (i := 0) hc 0 rfl rfl dX6_burst_28 (pc2 := 29) rfl ?_
        refine g_getr (q := ad κ.1 3 0) hc fo_X6_19 (u0 (by decide)) rfl dX6_burst_29 (pc2 := 32) rfl ?_
        refine g_getr (q := ad κ.1 6 0) hc fo_X6_117 (u3 (by decide)) rfl dX6_burst_32 (pc2 := 35) rfl ?_
        refine g_iload_n (i := 1) hc 1 rfl rfl dX6_burst_35 (pc2 := 36) rfl ?_
        obtain ⟨hg1, hf⟩ := gd_some hf
        have ihg1 := ib_lt hg1
        refine g_aldr (q := ad κ.1 7 (6 * 0 + a1.toNatClampNeg)) hc 6 0 (by decide) (by decide) (u6 (by decide)) hg1 rfl dX6_burst_36 (pc2 := 37) rfl ?_
        refine g_getr (q := ad κ.1 9 (6 * 0 + a1.toNatClampNeg)) hc fo_X6_133 (u7 (by omega)) rfl dX6_burst_37 (pc2 := 40) rfl ?_
        refine g_astore (L1 := [(4, .ref (ad κ.1 9 (6 * 0 + a1.toNatClampNeg))), (0, .ref (ad κ.1 0 0)), (1, .int a1), (2, .int a2), (3, .int a3)]) hc (by decide) rfl dX6_burst_40 (pc2 := 42) rfl ?_
        refine g_iload_n (i := 2) hc 3 rfl rfl dX6_burst_42 (pc2 := 43) rfl ?_
        refine g_aload hc 0 rfl dX6_burst_43 (pc2 := 45) rfl ?_
        refine g_geti hc fo_X6_137 (u9 (by omega)) dX6_burst_45 (pc2 := 48) rfl ?_
        refine g_icmp_ge hc 57 (by decide) dX6_burst_48 (pc2 := 51) rfl (fun q => ?_) (fun q => ?_)
        · have hf := ite_t hf q
          refine g_bipush (v := (-9 : Int32)) hc (by decide) dX6_burst_57 (pc2 := 59) rfl ?_
          exact g_iret hc (ni_r hf) hr rfl (by decide) (by decide) dX6_burst_59
        · have hf := ite_f hf q
          refine g_iload_n (i := 2) hc 3 rfl rfl dX6_burst_51 (pc2 := 52) rfl ?_
          refine g_bipush (v := (6 : Int32)) hc (by decide) dX6_burst_52 (pc2 := 54) rfl ?_
          refine g_icmp_lt hc 60 (by decide) dX6_burst_54 (pc2 := 57) rfl (fun q => ?_) (fun q => ?_)
          · have hf := ite_t hf q
            refine g_iload_n (i := 3) hc 4 rfl rfl dX6_burst_60 (pc2 := 61) rfl ?_
            refine g_if_ne hc 72 (by decide) dX6_burst_61 (pc2 := 64) rfl (fun q => ?_) (fun q => ?_)
            · have hf := ite_f hf q
              refine g_iload_n (i := 3) hc 4 rfl rfl dX6_burst_72 (pc2 := 73) rfl ?_
              refine g_iconst (v := (1 : Int32)) hc (by decide) dX6_burst_73 (pc2 := 74) rfl ?_
              refine g_icmp_ne hc 85 (by decide) dX6_burst_74 (pc2 := 77) rfl (fun q => ?_) (fun q => ?_)
              · have hf := ite_f hf q
                refine g_aload hc 0 rfl dX6_burst_85 (pc2 := 87) rfl ?_
                refine g_getr (q := ad κ.1 12 (6 * 0 + a1.toNatClampNeg)) hc fo_X6_183 (u9 (by omega)) rfl dX6_burst_87 (pc2 := 90) rfl ?_
                refine g_iload_n (i := 2) hc 3 rfl rfl dX6_burst_90 (pc2 := 91) rfl ?_
                obtain ⟨hg2, hf⟩ := gd_some hf
                refine g_aldz hc 12 (6 * 0 + a1.toNatClampNeg) rfl (u12 (by omega)) hg2 dX6_burst_91 (pc2 := 92) rfl ?_
                refine g_if_eq hc 99 (by decide) dX6_burst_92 (pc2 := 95) rfl (fun q => ?_) (fun q => ?_)
                · have hf := ite_t hf q
                  refine g_iconst (v := (0 : Int32)) hc (by decide) dX6_burst_99 (pc2 := 100) rfl ?_
                  exact g_iret hc (ni_r hf) hr rfl (by decide) (by decide) dX6_burst_100
                · have hf := ite_f hf q
                  refine g_iconst (v := (1 : Int32)) hc (by decide) dX6_burst_95 (pc2 := 96) rfl ?_
                  refine g_goto hc 100 (by decide) dX6_burst_96 ?_
                  exact g_iret hc (ni_r hf) hr rfl (by decide) (by decide) dX6_burst_100
              · have hf := ite_t hf q
                refine g_aload hc 0 rfl dX6_burst_77 (pc2 := 79) rfl ?_
                refine g_getr (q := ad κ.1 11 (6 * 0 + a1.toNatClampNeg)) hc fo_X6_180 (u9 (by omega)) rfl dX6_burst_79 (pc2 := 82) rfl ?_
                refine g_iload_n (i := 2) hc 3 rfl rfl dX6_burst_82 (pc2 := 83) rfl ?_
                obtain ⟨hg3, hf⟩ := gd_some hf
                refine g_aldi hc 11 (6 * 0 + a1.toNatClampNeg) rfl (u11 (by omega)) hg3 dX6_burst_83 (pc2 := 84) rfl ?_
                exact g_iret hc (ni_r hf) hr rfl (by decide) (by decide) dX6_burst_84
            · have hf := ite_t hf q
              refine g_aload hc 0 rfl dX6_burst_64 (pc2 := 66) rfl ?_
              refine g_getr (q := ad κ.1 10 (6 * 0 + a1.toNatClampNeg)) hc fo_X6_177 (u9 (by omega)) rfl dX6_burst_66 (pc2 := 69) rfl ?_
              refine g_iload_n (i := 2) hc 3 rfl rfl dX6_burst_69 (pc2 := 70) rfl ?_
              obtain ⟨hg4, hf⟩ := gd_some hf
              refine g_aldi hc 10 (6 * 0 + a1.toNatClampNeg) rfl (u10 (by omega)) hg4 dX6_burst_70 (pc2 := 71) rfl ?_
              exact g_iret hc (ni_r hf) hr rfl (by decide) (by decide) dX6_burst_71
          · have hf := ite_f hf q
            refine g_bipush (v := (-9 : Int32)) hc (by decide) dX6_burst_57 (pc2 := 59) rfl ?_
            exact g_iret hc (ni_r hf) hr rfl (by decide) (by decide) dX6_burst_59
      · have hf := ite_f hf q
        cases hf
def f6_order_l16 (a1 : Int32) (k1 : Mem → Option ((Nat ⊕ Int32) × Mem)) : Nat → Int32 → Mem → Option ((Nat ⊕ Int32) × Mem)
  | 0, _, _ => none
  | n1 + 1, m1, s2 => (if (s2 30 0 0) ≤ m1 then k1 s2 else bd (f2_mastersAhead 0 m1 s2) fun r1 s3 => (if r1 = a1 then some (.inr m1, s3) else nm (m1 + (1 : Int32)) fun x1 => f6_order_l16 a1 k1 n1 x1 s3))
def f6_order (a1 : Int32) (s0 : Mem) : Option ((Nat ⊕ Int32) × Mem) :=
  (if (0 : Int32) ≤ a1 then nm (fun (s1 : Mem) => some (.inr (-9 : Int32), s1)) fun k1 => f6_order_l16 a1 k1 FU (0 : Int32) s0 else some (.inl 0, s0))
def rm_6_order : Room := { frames := 2, cells := 0, slots := 0, locals := 47 }
set_option maxHeartbeats 4000000 in
set_option maxRecDepth 100000 in
theorem kz6_order {κ : Kx} {τ : Nat → Int64} {a1 : Int32} {s0 sR : Mem} {rR : Int32}  (hf : f6_order a1 s0 = some (.inr rR, sR)) : CtI κ yX6_order cX6_order 3 (some .int) rm_6_order (NV κ τ) (NV κ τ) [.ref (ad κ.1 0 0), .int a1] s0 sR rR := by
  refine ct_I (by decide +kernel) (Nat.le_of_ble_eq_true rfl) (fun φ hc hr => ?_)
  have hc : Cx κ φ RX6 cX6_order 3 rm_6_order := hc
  show G κ φ (QI κ φ (NV κ τ) sR rR rm_6_order.cells rm_6_order.slots) (NV κ τ) 0 0 s0 [(0, .ref (ad κ.1 0 0)), (1, .int a1)] 0 []
  unfold f6_order at hf
  refine g_iload_n (i := 1) hc 1 rfl rfl dX6_order_0 (pc2 := 1) rfl ?_
  refine g_if_ge hc 14 (by decide) dX6_order_1 (pc2 := 4) rfl (fun q => ?_) (fun q => ?_)
  · have hf := ite_t hf q
    refine g_iconst (v := (0 : Int32)) hc (by decide) dX6_order_14 (pc2 := 15) rfl ?_
    refine g_istore_n (i := 2) (L1 := [(2, .int (0 : Int32)), (0, .ref (ad κ.1 0 0)), (1, .int a1)]) hc rfl (by decide) rfl dX6_order_15 (pc2 := 16) rfl ?_
    obtain ⟨k1, hk1, hf⟩ := nm_ex hf
    have Hk1 : ∀ (s1 : Mem), k1 s1 = some (.inr rR, sR) → G κ φ (QI κ φ (NV κ τ) sR rR rm_6_order.cells rm_6_order.slots) (NV κ τ) 0 0 s1 [] 47 [] := by
      intro s1 hf
      rw [hk1] at hf
      refine g_bipush (v := (-9 : Int32)) hc (by decide) dX6_order_47 (pc2 := 49) rfl ?_
      exact g_iret hc (ni_r hf) hr rfl (by decide) (by decide) dX6_order_49
    have LP_n1 : ∀ (n1 : Nat) (m1 : Int32) (s2 : Mem), f6_order_l16 a1 k1 n1 m1 s2 = some (.inr rR, sR) → G κ φ (QI κ φ (NV κ τ) sR rR rm_6_order.cells rm_6_order.slots) (NV κ τ) 0 0 s2 [(0, .ref (ad κ.1 0 0)), (1, .int a1), (2, .int m1)] 16 [] := by
      intro n1
      induction n1 with
      | zero => intro m1 s2 hf; rw [f6_order_l16] at hf; cases hf
      | succ n1 ih_n1 =>
        intro m1 s2 hf
        rw [f6_order_l16] at hf
        refine g_iload_n (i := 2) hc 2 rfl rfl dX6_order_16 (pc2 := 17) rfl ?_
        refine g_aload_n (i := 0) hc 0 rfl rfl dX6_order_17 (pc2 := 18) rfl ?_
        refine g_getr (q := ad κ.1 3 0) hc fo_X6_19 (u0 (by decide)) rfl dX6_order_18 (pc2 := 21) rfl ?_
        refine g_geti hc fo_X6_83 (u3 (by decide)) dX6_order_21 (pc2 := 24) rfl ?_
        refine g_icmp_ge hc 47 (by decide) dX6_order_24 (pc2 := 27) rfl (fun q => ?_) (fun q => ?_)
        · have hf := ite_t hf q
          refine g_sub [] rfl ?_
          exact Hk1 _ hf
        · have hf := ite_f hf q
          refine g_aload_n (i := 0) hc 0 rfl rfl dX6_order_27 (pc2 := 28) rfl ?_
          refine g_getr (q := ad κ.1 3 0) hc fo_X6_19 (u0 (by decide)) rfl dX6_order_28 (pc2 := 31) rfl ?_
          refine g_iload_n (i := 2) hc 2 rfl rfl dX6_order_31 (pc2 := 32) rfl ?_
          obtain ⟨r1, s3, hp, hf⟩ := bd_some hf
          refine g_vI hc (k2_mastersAhead (by decide) hp) co_X6_188 (u3 (by decide)) rfl rfl (by decide) (by decide) (Nat.le_of_ble_eq_true rfl) dX6_order_32 (pc2 := 35) rfl ?_
          refine g_iload_n (i := 1) hc 1 rfl rfl dX6_order_35 (pc2 := 36) rfl ?_
          refine g_icmp_ne hc 41 (by decide) dX6_order_36 (pc2 := 39) rfl (fun q => ?_) (fun q => ?_)
          · have hf := ite_f hf q
            obtain ⟨x1, hx1, hf⟩ := nm_ex hf
            refine g_iinc (v := x1) (L1 := [(2, .int x1), (0, .ref (ad κ.1 0 0)), (1, .int a1)]) hc 2 rfl (by rw [hx1]; rfl) (by decide) rfl dX6_order_41 (pc2 := 44) rfl ?_
            refine g_goto hc 16 (by decide) dX6_order_44 ?_
            refine g_sub [1, 2, 0] rfl ?_
            exact ih_n1 _ _ hf
          · have hf := ite_t hf q
            refine g_iload_n (i := 2) hc 2 rfl rfl dX6_order_39 (pc2 := 40) rfl ?_
            exact g_iret hc (ni_r hf) hr rfl (by decide) (by decide) dX6_order_40
    refine g_sub [1, 2, 0] rfl ?_
    exact LP_n1 _ _ _ hf
  · have hf := ite_f hf q
    cases hf
def f6_addMaster  (s0 : Mem) : Option ((Nat ⊕ Int32) × Mem) :=
  (if (s0 30 0 0) < (6 : Int32) then bv (f4_remember 0 s0) fun s1 => bd (f2_join 0 s1) fun r1 s2 => some (.inr r1, s2) else some (.inl 1, s0))
def rm_6_addMaster : Room := { frames := 4, cells := 0, slots := 0, locals := 87 }
set_option maxHeartbeats 4000000 in
set_option maxRecDepth 100000 in
theorem kz6_addMaster {κ : Kx} {τ : Nat → Int64}  {s0 sR : Mem} {rR : Int32}  (hf : f6_addMaster s0 = some (.inr rR, sR)) : CtI κ yX6_addMaster cX6_addMaster 1 (some .int) rm_6_addMaster (NV κ τ) (NV κ τ) [.ref (ad κ.1 0 0)] s0 sR rR := by
  refine ct_I (by decide +kernel) (Nat.le_of_ble_eq_true rfl) (fun φ hc hr => ?_)
  have hc : Cx κ φ RX6 cX6_addMaster 1 rm_6_addMaster := hc
  show G κ φ (QI κ φ (NV κ τ) sR rR rm_6_addMaster.cells rm_6_addMaster.slots) (NV κ τ) 0 0 s0 [(0, .ref (ad κ.1 0 0))] 0 []
  unfold f6_addMaster at hf
  refine g_aload_n (i := 0) hc 0 rfl rfl dX6_addMaster_0 (pc2 := 1) rfl ?_
  refine g_getr (q := ad κ.1 3 0) hc fo_X6_19 (u0 (by decide)) rfl dX6_addMaster_1 (pc2 := 4) rfl ?_
  refine g_geti hc fo_X6_83 (u3 (by decide)) dX6_addMaster_4 (pc2 := 7) rfl ?_
  refine g_bipush (v := (6 : Int32)) hc (by decide) dX6_addMaster_7 (pc2 := 9) rfl ?_
  refine g_icmp_lt hc 22 (by decide) dX6_addMaster_9 (pc2 := 12) rfl (fun q => ?_) (fun q => ?_)
  · have hf := ite_t hf q
    refine g_aload_n (i := 0) hc 0 rfl rfl dX6_addMaster_22 (pc2 := 23) rfl ?_
    refine g_getr (q := ad κ.1 15 0) hc fo_X6_26 (u0 (by decide)) rfl dX6_addMaster_23 (pc2 := 26) rfl ?_
    refine g_aload_n (i := 0) hc 0 rfl rfl dX6_addMaster_26 (pc2 := 27) rfl ?_
    refine g_getr (q := ad κ.1 3 0) hc fo_X6_19 (u0 (by decide)) rfl dX6_addMaster_27 (pc2 := 30) rfl ?_
    obtain ⟨s1, hp, hf⟩ := bv_some hf
    refine g_vV hc (k4_remember (by decide) hp) co_X6_193 (u15 (by decide)) rfl rfl (by decide) (by decide) (Nat.le_of_ble_eq_true rfl) dX6_addMaster_30 (pc2 := 33) rfl ?_
    refine g_aload_n (i := 0) hc 0 rfl rfl dX6_addMaster_33 (pc2 := 34) rfl ?_
    refine g_getr (q := ad κ.1 3 0) hc fo_X6_19 (u0 (by decide)) rfl dX6_addMaster_34 (pc2 := 37) rfl ?_
    obtain ⟨r1, s2, hp, hf⟩ := bd_some hf
    refine g_vI hc (k2_join (by decide) hp) co_X6_196 (u3 (by decide)) rfl rfl (by decide) (by decide) (Nat.le_of_ble_eq_true rfl) dX6_addMaster_37 (pc2 := 40) rfl ?_
    exact g_iret hc (ni_r hf) hr rfl (by decide) (by decide) dX6_addMaster_40
  · have hf := ite_f hf q
    cases hf
def f6_give (a1 : Int32) (a2 : Int32) (s0 : Mem) : Option ((Nat ⊕ Int32) × Mem) :=
  bx (f6_needSlot a1 s0) (fun e s1 => some (.inl e, s1)) fun _ s1 => bx (f6_needMaster a2 s1) (fun e s2 => some (.inl e, s2)) fun _ s2 => gd (ib a2 6) ((if (s2 40 (6 * 0 + a2.toNatClampNeg) 0) = (0 : Int32) then bv (f4_remember 0 s2) fun s3 => gd (ib a1 16) (nm (s3 4 0 a1.toNatClampNeg) fun x1 => gd (ib a1 16) (nm (ms s3 4 0 a1.toNatClampNeg a2) fun s4 => some (.inr x1, s4))) else some (.inl 1, s2)))
def rm_6_give : Room := { frames := 4, cells := 0, slots := 0, locals := 87 }
set_option maxHeartbeats 4000000 in
set_option maxRecDepth 100000 in
theorem kz6_give {κ : Kx} {τ : Nat → Int64} {a1 : Int32} {a2 : Int32} {s0 sR : Mem} {rR : Int32}  (hf : f6_give a1 a2 s0 = some (.inr rR, sR)) : CtI κ yX6_give cX6_give 4 (some .int) rm_6_give (NV κ τ) (NV κ τ) [.ref (ad κ.1 0 0), .int a1, .int a2] s0 sR rR := by
  refine ct_I (by decide +kernel) (Nat.le_of_ble_eq_true rfl) (fun φ hc hr => ?_)
  have hc : Cx κ φ RX6 cX6_give 4 rm_6_give := hc
  show G κ φ (QI κ φ (NV κ τ) sR rR rm_6_give.cells rm_6_give.slots) (NV κ τ) 0 0 s0 [(0, .ref (ad κ.1 0 0)), (1, .int a1), (2, .int a2)] 0 []
  unfold f6_give at hf
  refine g_aload_n (i := 0) hc 0 rfl rfl dX6_give_0 (pc2 := 1) rfl ?_
  refine g_iload_n (i := 1) hc 1 rfl rfl dX6_give_1 (pc2 := 2) rfl ?_
  obtain ⟨s1, hp, hf⟩ := bx_in2 hf
  refine g_vV hc (kz6_needSlot hp) co_X6_165 (u0 (by decide)) rfl rfl (by decide) (by decide) (Nat.le_of_ble_eq_true rfl) dX6_give_2 (pc2 := 5) rfl ?_
  refine g_aload_n (i := 0) hc 0 rfl rfl dX6_give_5 (pc2 := 6) rfl ?_
  refine g_iload_n (i := 2) hc 2 rfl rfl dX6_give_6 (pc2 := 7) rfl ?_
  obtain ⟨s2, hp, hf⟩ := bx_in2 hf
  refine g_vV hc (kz6_needMaster hp) co_X6_113 (u0 (by decide)) rfl rfl (by decide) (by decide) (Nat.le_of_ble_eq_true rfl) dX6_give_7 (pc2 := 10) rfl ?_
  refine g_aload_n (i := 0) hc 0 rfl rfl dX6_give_10 (pc2 := 11) rfl ?_
  refine g_getr (q := ad κ.1 3 0) hc fo_X6_19 (u0 (by decide)) rfl dX6_give_11 (pc2 := 14) rfl ?_
  refine g_getr (q := ad κ.1 6 0) hc fo_X6_117 (u3 (by decide)) rfl dX6_give_14 (pc2 := 17) rfl ?_
  refine g_iload_n (i := 2) hc 2 rfl rfl dX6_give_17 (pc2 := 18) rfl ?_
  obtain ⟨hg1, hf⟩ := gd_some hf
  have ihg1 := ib_lt hg1
  refine g_aldr (q := ad κ.1 7 (6 * 0 + a2.toNatClampNeg)) hc 6 0 (by decide) (by decide) (u6 (by decide)) hg1 rfl dX6_give_18 (pc2 := 19) rfl ?_
  refine g_geti hc fo_X6_199 (u7 (by omega)) dX6_give_19 (pc2 := 22) rfl ?_
  refine g_if_eq hc 35 (by decide) dX6_give_22 (pc2 := 25) rfl (fun q => ?_) (fun q => ?_)
  · have hf := ite_t hf q
    refine g_aload_n (i := 0) hc 0 rfl rfl dX6_give_35 (pc2 := 36) rfl ?_
    refine g_getr (q := ad κ.1 15 0) hc fo_X6_26 (u0 (by decide)) rfl dX6_give_36 (pc2 := 39) rfl ?_
    refine g_aload_n (i := 0) hc 0 rfl rfl dX6_give_39 (pc2 := 40) rfl ?_
    refine g_getr (q := ad κ.1 3 0) hc fo_X6_19 (u0 (by decide)) rfl dX6_give_40 (pc2 := 43) rfl ?_
    obtain ⟨s3, hp, hf⟩ := bv_some hf
    refine g_vV hc (k4_remember (by decide) hp) co_X6_193 (u15 (by decide)) rfl rfl (by decide) (by decide) (Nat.le_of_ble_eq_true rfl) dX6_give_43 (pc2 := 46) rfl ?_
    refine g_aload_n (i := 0) hc 0 rfl rfl dX6_give_46 (pc2 := 47) rfl ?_
    refine g_getr (q := ad κ.1 3 0) hc fo_X6_19 (u0 (by decide)) rfl dX6_give_47 (pc2 := 50) rfl ?_
    refine g_getr (q := ad κ.1 4 0) hc fo_X6_168 (u3 (by decide)) rfl dX6_give_50 (pc2 := 53) rfl ?_
    refine g_iload_n (i := 1) hc 1 rfl rfl dX6_give_53 (pc2 := 54) rfl ?_
    obtain ⟨hg2, hf⟩ := gd_some hf
    refine g_aldi hc 4 0 rfl (u4 (by decide)) hg2 dX6_give_54 (pc2 := 55) rfl ?_
    obtain ⟨x1, hx1, hf⟩ := nm_ex hf
    refine g_nmi hx1 ?_
    refine g_istore_n (i := 3) (L1 := [(3, .int x1), (0, .ref (ad κ.1 0 0)), (1, .int a1), (2, .int a2)]) hc rfl (by decide) rfl dX6_give_55 (pc2 := 56) rfl ?_
    refine g_aload_n (i := 0) hc 1 rfl rfl dX6_give_56 (pc2 := 57) rfl ?_
    refine g_getr (q := ad κ.1 3 0) hc fo_X6_19 (u0 (by decide)) rfl dX6_give_57 (pc2 := 60) rfl ?_
    refine g_getr (q := ad κ.1 4 0) hc fo_X6_168 (u3 (by decide)) rfl dX6_give_60 (pc2 := 63) rfl ?_
    refine g_iload_n (i := 1) hc 2 rfl rfl dX6_give_63 (pc2 := 64) rfl ?_
    refine g_iload_n (i := 2) hc 3 rfl rfl dX6_give_64 (pc2 := 65) rfl ?_
    obtain ⟨hg3, hf⟩ := gd_some hf
    obtain ⟨s4, hs4, hf⟩ := nm_ex hf
    refine g_asti hc 4 0 rfl (u4 (by decide)) hg3 dX6_give_65 (pc2 := 66) rfl ?_
    refine g_nms hs4 ?_
    refine g_iload_n (i := 3) hc 0 rfl rfl dX6_give_66 (pc2 := 67) rfl ?_
    exact g_iret hc (ni_r hf) hr rfl (by decide) (by decide) dX6_give_67
  · have hf := ite_f hf q
    cases hf
def f6_needSlave (a1 : Int32) (s0 : Mem) : Option ((Nat ⊕ Unit) × Mem) :=
  (if a1 < (0 : Int32) then some (.inl 2, s0) else (if a1 < (4 : Int32) then some (.inr (), s0) else some (.inl 2, s0)))
def rm_6_needSlave : Room := { frames := 0, cells := 0, slots := 0, locals := 0 }
set_option maxHeartbeats 4000000 in
set_option maxRecDepth 100000 in
theorem kz6_needSlave {κ : Kx} {τ : Nat → Int64} {a1 : Int32} {s0 sR : Mem}  (hf : f6_needSlave a1 s0 = some (.inr (), sR)) : CtV κ yX6_needSlave cX6_needSlave 2 none rm_6_needSlave (NV κ τ) (NV κ τ) [.ref (ad κ.1 0 0), .int a1] s0 sR := by
  refine ct_V (by decide +kernel) (Nat.le_of_ble_eq_true rfl) (fun φ hc hr => ?_)
  have hc : Cx κ φ RX6 cX6_needSlave 2 rm_6_needSlave := hc
  show G κ φ (QV κ φ (NV κ τ) sR rm_6_needSlave.cells rm_6_needSlave.slots) (NV κ τ) 0 0 s0 [(0, .ref (ad κ.1 0 0)), (1, .int a1)] 0 []
  unfold f6_needSlave at hf
  refine g_iload_n (i := 1) hc 1 rfl rfl dX6_needSlave_0 (pc2 := 1) rfl ?_
  refine g_if_lt hc 9 (by decide) dX6_needSlave_1 (pc2 := 4) rfl (fun q => ?_) (fun q => ?_)
  · have hf := ite_t hf q
    cases hf
  · have hf := ite_f hf q
    refine g_iload_n (i := 1) hc 1 rfl rfl dX6_needSlave_4 (pc2 := 5) rfl ?_
    refine g_iconst (v := (4 : Int32)) hc (by decide) dX6_needSlave_5 (pc2 := 6) rfl ?_
    refine g_icmp_lt hc 20 (by decide) dX6_needSlave_6 (pc2 := 9) rfl (fun q => ?_) (fun q => ?_)
    · have hf := ite_t hf q
      exact g_vret hc (ni_v hf) hr (by decide) (by decide) dX6_needSlave_20
    · have hf := ite_f hf q
      cases hf
def f6_setLatency (a1 : Int32) (a2 : Int32) (s0 : Mem) : Option ((Nat ⊕ Int32) × Mem) :=
  bx (f6_needSlave a1 s0) (fun e s1 => some (.inl e, s1)) fun _ s1 => (if a2 < (0 : Int32) then some (.inl 0, s1) else (if a2 ≤ (9 : Int32) then bv (f4_remember 0 s1) fun s2 => gd (ib a1 4) (nm (s2 5 0 a1.toNatClampNeg) fun x1 => gd (ib a1 4) (nm (ms s2 5 0 a1.toNatClampNeg a2) fun s3 => some (.inr x1, s3))) else some (.inl 0, s1)))
def rm_6_setLatency : Room := { frames := 4, cells := 0, slots := 0, locals := 87 }
set_option maxHeartbeats 4000000 in
set_option maxRecDepth 100000 in
theorem kz6_setLatency {κ : Kx} {τ : Nat → Int64} {a1 : Int32} {a2 : Int32} {s0 sR : Mem} {rR : Int32}  (hf : f6_setLatency a1 a2 s0 = some (.inr rR, sR)) : CtI κ yX6_setLatency cX6_setLatency 4 (some .int) rm_6_setLatency (NV κ τ) (NV κ τ) [.ref (ad κ.1 0 0), .int a1, .int a2] s0 sR rR := by
  refine ct_I (by decide +kernel) (Nat.le_of_ble_eq_true rfl) (fun φ hc hr => ?_)
  have hc : Cx κ φ RX6 cX6_setLatency 4 rm_6_setLatency := hc
  show G κ φ (QI κ φ (NV κ τ) sR rR rm_6_setLatency.cells rm_6_setLatency.slots) (NV κ τ) 0 0 s0 [(0, .ref (ad κ.1 0 0)), (1, .int a1), (2, .int a2)] 0 []
  unfold f6_setLatency at hf
  refine g_aload_n (i := 0) hc 0 rfl rfl dX6_setLatency_0 (pc2 := 1) rfl ?_
  refine g_iload_n (i := 1) hc 1 rfl rfl dX6_setLatency_1 (pc2 := 2) rfl ?_
  obtain ⟨s1, hp, hf⟩ := bx_in2 hf
  refine g_vV hc (kz6_needSlave hp) co_X6_205 (u0 (by decide)) rfl rfl (by decide) (by decide) (Nat.le_of_ble_eq_true rfl) dX6_setLatency_2 (pc2 := 5) rfl ?_
  refine g_iload_n (i := 2) hc 2 rfl rfl dX6_setLatency_5 (pc2 := 6) rfl ?_
  refine g_if_lt hc 15 (by decide) dX6_setLatency_6 (pc2 := 9) rfl (fun q => ?_) (fun q => ?_)
  · have hf := ite_t hf q
    cases hf
  · have hf := ite_f hf q
    refine g_iload_n (i := 2) hc 2 rfl rfl dX6_setLatency_9 (pc2 := 10) rfl ?_
    refine g_bipush (v := (9 : Int32)) hc (by decide) dX6_setLatency_10 (pc2 := 12) rfl ?_
    refine g_icmp_le hc 25 (by decide) dX6_setLatency_12 (pc2 := 15) rfl (fun q => ?_) (fun q => ?_)
    · have hf := ite_t hf q
      refine g_aload_n (i := 0) hc 0 rfl rfl dX6_setLatency_25 (pc2 := 26) rfl ?_
      refine g_getr (q := ad κ.1 15 0) hc fo_X6_26 (u0 (by decide)) rfl dX6_setLatency_26 (pc2 := 29) rfl ?_
      refine g_aload_n (i := 0) hc 0 rfl rfl dX6_setLatency_29 (pc2 := 30) rfl ?_
      refine g_getr (q := ad κ.1 3 0) hc fo_X6_19 (u0 (by decide)) rfl dX6_setLatency_30 (pc2 := 33) rfl ?_
      obtain ⟨s2, hp, hf⟩ := bv_some hf
      refine g_vV hc (k4_remember (by decide) hp) co_X6_193 (u15 (by decide)) rfl rfl (by decide) (by decide) (Nat.le_of_ble_eq_true rfl) dX6_setLatency_33 (pc2 := 36) rfl ?_
      refine g_aload_n (i := 0) hc 0 rfl rfl dX6_setLatency_36 (pc2 := 37) rfl ?_
      refine g_getr (q := ad κ.1 3 0) hc fo_X6_19 (u0 (by decide)) rfl dX6_setLatency_37 (pc2 := 40) rfl ?_
      refine g_getr (q := ad κ.1 5 0) hc fo_X6_210 (u3 (by decide)) rfl dX6_setLatency_40 (pc2 := 43) rfl ?_
      refine g_iload_n (i := 1) hc 1 rfl rfl dX6_setLatency_43 (pc2 := 44) rfl ?_
      obtain ⟨hg1, hf⟩ := gd_some hf
      refine g_aldi hc 5 0 rfl (u5 (by decide)) hg1 dX6_setLatency_44 (pc2 := 45) rfl ?_
      obtain ⟨x1, hx1, hf⟩ := nm_ex hf
      refine g_nmi hx1 ?_
      refine g_istore_n (i := 3) (L1 := [(3, .int x1), (0, .ref (ad κ.1 0 0)), (1, .int a1), (2, .int a2)]) hc rfl (by decide) rfl dX6_setLatency_45 (pc2 := 46) rfl ?_
      refine g_aload_n (i := 0) hc 1 rfl rfl dX6_setLatency_46 (pc2 := 47) rfl ?_
      refine g_getr (q := ad κ.1 3 0) hc fo_X6_19 (u0 (by decide)) rfl dX6_setLatency_47 (pc2 := 50) rfl ?_
      refine g_getr (q := ad κ.1 5 0) hc fo_X6_210 (u3 (by decide)) rfl dX6_setLatency_50 (pc2 := 53) rfl ?_
      refine g_iload_n (i := 1) hc 2 rfl rfl dX6_setLatency_53 (pc2 := 54) rfl ?_
      refine g_iload_n (i := 2) hc 3 rfl rfl dX6_setLatency_54 (pc2 := 55) rfl ?_
      obtain ⟨hg2, hf⟩ := gd_some hf
      obtain ⟨s3, hs3, hf⟩ := nm_ex hf
      refine g_asti hc 5 0 rfl (u5 (by decide)) hg2 dX6_setLatency_55 (pc2 := 56) rfl ?_
      refine g_nms hs3 ?_
      refine g_iload_n (i := 3) hc 0 rfl rfl dX6_setLatency_56 (pc2 := 57) rfl ?_
      exact g_iret hc (ni_r hf) hr rfl (by decide) (by decide) dX6_setLatency_57
    · have hf := ite_f hf q
      cases hf
def f6_setCredit (a1 : Int32) (s0 : Mem) : Option ((Nat ⊕ Int32) × Mem) :=
  (if a1 < (0 : Int32) then some (.inl 0, s0) else (if a1 ≤ (9 : Int32) then bv (f4_remember 0 s0) fun s1 => nm (s1 34 0 0) fun x1 => nm (ms s1 34 0 0 a1) fun s2 => some (.inr x1, s2) else some (.inl 0, s0)))
def rm_6_setCredit : Room := { frames := 4, cells := 0, slots := 0, locals := 87 }
set_option maxHeartbeats 4000000 in
set_option maxRecDepth 100000 in
theorem kz6_setCredit {κ : Kx} {τ : Nat → Int64} {a1 : Int32} {s0 sR : Mem} {rR : Int32}  (hf : f6_setCredit a1 s0 = some (.inr rR, sR)) : CtI κ yX6_setCredit cX6_setCredit 3 (some .int) rm_6_setCredit (NV κ τ) (NV κ τ) [.ref (ad κ.1 0 0), .int a1] s0 sR rR := by
  refine ct_I (by decide +kernel) (Nat.le_of_ble_eq_true rfl) (fun φ hc hr => ?_)
  have hc : Cx κ φ RX6 cX6_setCredit 3 rm_6_setCredit := hc
  show G κ φ (QI κ φ (NV κ τ) sR rR rm_6_setCredit.cells rm_6_setCredit.slots) (NV κ τ) 0 0 s0 [(0, .ref (ad κ.1 0 0)), (1, .int a1)] 0 []
  unfold f6_setCredit at hf
  refine g_iload_n (i := 1) hc 1 rfl rfl dX6_setCredit_0 (pc2 := 1) rfl ?_
  refine g_if_lt hc 10 (by decide) dX6_setCredit_1 (pc2 := 4) rfl (fun q => ?_) (fun q => ?_)
  · have hf := ite_t hf q
    cases hf
  · have hf := ite_f hf q
    refine g_iload_n (i := 1) hc 1 rfl rfl dX6_setCredit_4 (pc2 := 5) rfl ?_
    refine g_bipush (v := (9 : Int32)) hc (by decide) dX6_setCredit_5 (pc2 := 7) rfl ?_
    refine g_icmp_le hc 20 (by decide) dX6_setCredit_7 (pc2 := 10) rfl (fun q => ?_) (fun q => ?_)
    · have hf := ite_t hf q
      refine g_aload_n (i := 0) hc 0 rfl rfl dX6_setCredit_20 (pc2 := 21) rfl ?_
      refine g_getr (q := ad κ.1 15 0) hc fo_X6_26 (u0 (by decide)) rfl dX6_setCredit_21 (pc2 := 24) rfl ?_
      refine g_aload_n (i := 0) hc 0 rfl rfl dX6_setCredit_24 (pc2 := 25) rfl ?_
      refine g_getr (q := ad κ.1 3 0) hc fo_X6_19 (u0 (by decide)) rfl dX6_setCredit_25 (pc2 := 28) rfl ?_
      obtain ⟨s1, hp, hf⟩ := bv_some hf
      refine g_vV hc (k4_remember (by decide) hp) co_X6_193 (u15 (by decide)) rfl rfl (by decide) (by decide) (Nat.le_of_ble_eq_true rfl) dX6_setCredit_28 (pc2 := 31) rfl ?_
      refine g_aload_n (i := 0) hc 0 rfl rfl dX6_setCredit_31 (pc2 := 32) rfl ?_
      refine g_getr (q := ad κ.1 3 0) hc fo_X6_19 (u0 (by decide)) rfl dX6_setCredit_32 (pc2 := 35) rfl ?_
      refine g_geti hc fo_X6_96 (u3 (by decide)) dX6_setCredit_35 (pc2 := 38) rfl ?_
      obtain ⟨x1, hx1, hf⟩ := nm_ex hf
      refine g_nmi hx1 ?_
      refine g_istore_n (i := 2) (L1 := [(2, .int x1), (0, .ref (ad κ.1 0 0)), (1, .int a1)]) hc rfl (by decide) rfl dX6_setCredit_38 (pc2 := 39) rfl ?_
      refine g_aload_n (i := 0) hc 1 rfl rfl dX6_setCredit_39 (pc2 := 40) rfl ?_
      refine g_getr (q := ad κ.1 3 0) hc fo_X6_19 (u0 (by decide)) rfl dX6_setCredit_40 (pc2 := 43) rfl ?_
      refine g_iload_n (i := 1) hc 2 rfl rfl dX6_setCredit_43 (pc2 := 44) rfl ?_
      obtain ⟨s2, hs2, hf⟩ := nm_ex hf
      refine g_puti hc (by decide) fo_X6_96 clO_3 poK_3_4 rfl (u3 (by decide)) rfl rfl dX6_setCredit_44 (pc2 := 47) rfl ?_
      refine g_nms hs2 ?_
      refine g_iload_n (i := 2) hc 0 rfl rfl dX6_setCredit_47 (pc2 := 48) rfl ?_
      exact g_iret hc (ni_r hf) hr rfl (by decide) (by decide) dX6_setCredit_48
    · have hf := ite_f hf q
      cases hf
def f6_send (a1 : Int32) (a2 : Int32) (a3 : Int32) (a4 : Int32) (s0 : Mem) : Option ((Nat ⊕ Int32) × Mem) :=
  bx (f6_needMaster a1 s0) (fun e s1 => some (.inl e, s1)) fun _ s1 => bx (f6_needSlave a2 s1) (fun e s2 => some (.inl e, s2)) fun _ s2 => (if a3 < (1 : Int32) then some (.inl 0, s2) else (if a3 ≤ (8 : Int32) then gd (ib a1 6) (bd (f5_takesBursts (6 * 0 + a1.toNatClampNeg) s2) fun r1 s3 => (if r1 = (0 : Int32) then some (.inl 1, s3) else bv (f4_remember 0 s3) fun s4 => bv (f1_add (6 * 0 + a1.toNatClampNeg) a2 a3 a4 s4) fun s5 => some (.inr (s5 50 (6 * 0 + a1.toNatClampNeg) 0), s5))) else some (.inl 0, s2)))
def rm_6_send : Room := { frames := 4, cells := 0, slots := 0, locals := 87 }
set_option maxHeartbeats 4000000 in
set_option maxRecDepth 100000 in
theorem kz6_send {κ : Kx} {τ : Nat → Int64} {a1 : Int32} {a2 : Int32} {a3 : Int32} {a4 : Int32} {s0 sR : Mem} {rR : Int32}  (hf : f6_send a1 a2 a3 a4 s0 = some (.inr rR, sR)) : CtI κ yX6_send cX6_send 6 (some .int) rm_6_send (NV κ τ) (NV κ τ) [.ref (ad κ.1 0 0), .int a1, .int a2, .int a3, .int a4] s0 sR rR := by
  refine ct_I (by decide +kernel) (Nat.le_of_ble_eq_true rfl) (fun φ hc hr => ?_)
  have hc : Cx κ φ RX6 cX6_send 6 rm_6_send := hc
  show G κ φ (QI κ φ (NV κ τ) sR rR rm_6_send.cells rm_6_send.slots) (NV κ τ) 0 0 s0 [(0, .ref (ad κ.1 0 0)), (1, .int a1), (2, .int a2), (3, .int a3), (4, .int a4)] 0 []
  unfold f6_send at hf
  refine g_aload_n (i := 0) hc 0 rfl rfl dX6_send_0 (pc2 := 1) rfl ?_
  refine g_iload_n (i := 1) hc 1 rfl rfl dX6_send_1 (pc2 := 2) rfl ?_
  obtain ⟨s1, hp, hf⟩ := bx_in2 hf
  refine g_vV hc (kz6_needMaster hp) co_X6_113 (u0 (by decide)) rfl rfl (by decide) (by decide) (Nat.le_of_ble_eq_true rfl) dX6_send_2 (pc2 := 5) rfl ?_
  refine g_aload_n (i := 0) hc 0 rfl rfl dX6_send_5 (pc2 := 6) rfl ?_
  refine g_iload_n (i := 2) hc 2 rfl rfl dX6_send_6 (pc2 := 7) rfl ?_
  obtain ⟨s2, hp, hf⟩ := bx_in2 hf
  refine g_vV hc (kz6_needSlave hp) co_X6_205 (u0 (by decide)) rfl rfl (by decide) (by decide) (Nat.le_of_ble_eq_true rfl) dX6_send_7 (pc2 := 10) rfl ?_
  refine g_iload_n (i := 3) hc 3 rfl rfl dX6_send_10 (pc2 := 11) rfl ?_
  refine g_iconst (v := (1 : Int32)) hc (by decide) dX6_send_11 (pc2 := 12) rfl ?_
  refine g_icmp_lt hc 21 (by decide) dX6_send_12 (pc2 := 15) rfl (fun q => ?_) (fun q => ?_)
  · have hf := ite_t hf q
    cases hf
  · have hf := ite_f hf q
    refine g_iload_n (i := 3) hc 3 rfl rfl dX6_send_15 (pc2 := 16) rfl ?_
    refine g_bipush (v := (8 : Int32)) hc (by decide) dX6_send_16 (pc2 := 18) rfl ?_
    refine g_icmp_le hc 31 (by decide) dX6_send_18 (pc2 := 21) rfl (fun q => ?_) (fun q => ?_)
    · have hf := ite_t hf q
      refine g_aload_n (i := 0) hc 0 rfl rfl dX6_send_31 (pc2 := 32) rfl ?_
      refine g_getr (q := ad κ.1 3 0) hc fo_X6_19 (u0 (by decide)) rfl dX6_send_32 (pc2 := 35) rfl ?_
      refine g_getr (q := ad κ.1 6 0) hc fo_X6_117 (u3 (by decide)) rfl dX6_send_35 (pc2 := 38) rfl ?_
      refine g_iload_n (i := 1) hc 1 rfl rfl dX6_send_38 (pc2 := 39) rfl ?_
      obtain ⟨hg1, hf⟩ := gd_some hf
      have ihg1 := ib_lt hg1
      refine g_aldr (q := ad κ.1 7 (6 * 0 + a1.toNatClampNeg)) hc 6 0 (by decide) (by decide) (u6 (by decide)) hg1 rfl dX6_send_39 (pc2 := 40) rfl ?_
      refine g_astore (L1 := [(5, .ref (ad κ.1 7 (6 * 0 + a1.toNatClampNeg))), (0, .ref (ad κ.1 0 0)), (1, .int a1), (2, .int a2), (3, .int a3), (4, .int a4)]) hc (by decide) rfl dX6_send_40 (pc2 := 42) rfl ?_
      refine g_aload hc 0 rfl dX6_send_42 (pc2 := 44) rfl ?_
      obtain ⟨r1, s3, hp, hf⟩ := bd_some hf
      refine g_vI hc (k5_takesBursts (by omega) hp) co_X6_217 (u7 (by omega)) rfl rfl (by decide) (by decide) (Nat.le_of_ble_eq_true rfl) dX6_send_44 (pc2 := 47) rfl ?_
      refine g_if_ne hc 60 (by decide) dX6_send_47 (pc2 := 50) rfl (fun q => ?_) (fun q => ?_)
      · have hf := ite_f hf q
        refine g_aload_n (i := 0) hc 1 rfl rfl dX6_send_60 (pc2 := 61) rfl ?_
        refine g_getr (q := ad κ.1 15 0) hc fo_X6_26 (u0 (by decide)) rfl dX6_send_61 (pc2 := 64) rfl ?_
        refine g_aload_n (i := 0) hc 1 rfl rfl dX6_send_64 (pc2 := 65) rfl ?_
        refine g_getr (q := ad κ.1 3 0) hc fo_X6_19 (u0 (by decide)) rfl dX6_send_65 (pc2 := 68) rfl ?_
        obtain ⟨s4, hp, hf⟩ := bv_some hf
        refine g_vV hc (k4_remember (by decide) hp) co_X6_193 (u15 (by decide)) rfl rfl (by decide) (by decide) (Nat.le_of_ble_eq_true rfl) dX6_send_68 (pc2 := 71) rfl ?_
        refine g_aload hc 0 rfl dX6_send_71 (pc2 := 73) rfl ?_
        refine g_getr (q := ad κ.1 9 (6 * 0 + a1.toNatClampNeg)) hc fo_X6_133 (u7 (by omega)) rfl dX6_send_73 (pc2 := 76) rfl ?_
        refine g_iload_n (i := 2) hc 3 rfl rfl dX6_send_76 (pc2 := 77) rfl ?_
        refine g_iload_n (i := 3) hc 4 rfl rfl dX6_send_77 (pc2 := 78) rfl ?_
        refine g_iload hc 5 rfl dX6_send_78 (pc2 := 80) rfl ?_
        obtain ⟨s5, hp, hf⟩ := bv_some hf
        refine g_vV hc (k1_add (by omega) hp) co_X6_222 (u9 (by omega)) rfl rfl (by decide) (by decide) (Nat.le_of_ble_eq_true rfl) dX6_send_80 (pc2 := 83) rfl ?_
        refine g_aload hc 0 rfl dX6_send_83 (pc2 := 85) rfl ?_
        refine g_getr (q := ad κ.1 9 (6 * 0 + a1.toNatClampNeg)) hc fo_X6_133 (u7 (by omega)) rfl dX6_send_85 (pc2 := 88) rfl ?_
        refine g_geti hc fo_X6_137 (u9 (by omega)) dX6_send_88 (pc2 := 91) rfl ?_
        exact g_iret hc (ni_r hf) hr rfl (by decide) (by decide) dX6_send_91
      · have hf := ite_t hf q
        cases hf
    · have hf := ite_f hf q
      cases hf
def f6_pass (a1 : Int32) (s0 : Mem) : Option ((Nat ⊕ Int32) × Mem) :=
  (if a1 < (1 : Int32) then some (.inl 0, s0) else (if a1 ≤ (99 : Int32) then bv (f4_remember 0 s0) fun s1 => nm (s1 33 0 0) fun x1 => bv (f2_stepTimes 0 a1 s1) fun s2 => some (.inr (a1 - ((s2 33 0 0) - x1)), s2) else some (.inl 0, s0)))
def rm_6_pass : Room := { frames := 5, cells := 0, slots := 0, locals := 113 }
set_option maxHeartbeats 4000000 in
set_option maxRecDepth 100000 in
theorem kz6_pass {κ : Kx} {τ : Nat → Int64} {a1 : Int32} {s0 sR : Mem} {rR : Int32}  (hf : f6_pass a1 s0 = some (.inr rR, sR)) : CtI κ yX6_pass cX6_pass 3 (some .int) rm_6_pass (NV κ τ) (NV κ τ) [.ref (ad κ.1 0 0), .int a1] s0 sR rR := by
  refine ct_I (by decide +kernel) (Nat.le_of_ble_eq_true rfl) (fun φ hc hr => ?_)
  have hc : Cx κ φ RX6 cX6_pass 3 rm_6_pass := hc
  show G κ φ (QI κ φ (NV κ τ) sR rR rm_6_pass.cells rm_6_pass.slots) (NV κ τ) 0 0 s0 [(0, .ref (ad κ.1 0 0)), (1, .int a1)] 0 []
  unfold f6_pass at hf
  refine g_iload_n (i := 1) hc 1 rfl rfl dX6_pass_0 (pc2 := 1) rfl ?_
  refine g_iconst (v := (1 : Int32)) hc (by decide) dX6_pass_1 (pc2 := 2) rfl ?_
  refine g_icmp_lt hc 11 (by decide) dX6_pass_2 (pc2 := 5) rfl (fun q => ?_) (fun q => ?_)
  · have hf := ite_t hf q
    cases hf
  · have hf := ite_f hf q
    refine g_iload_n (i := 1) hc 1 rfl rfl dX6_pass_5 (pc2 := 6) rfl ?_
    refine g_bipush (v := (99 : Int32)) hc (by decide) dX6_pass_6 (pc2 := 8) rfl ?_
    refine g_icmp_le hc 21 (by decide) dX6_pass_8 (pc2 := 11) rfl (fun q => ?_) (fun q => ?_)
    · have hf := ite_t hf q
      refine g_aload_n (i := 0) hc 0 rfl rfl dX6_pass_21 (pc2 := 22) rfl ?_
      refine g_getr (q := ad κ.1 15 0) hc fo_X6_26 (u0 (by decide)) rfl dX6_pass_22 (pc2 := 25) rfl ?_
      refine g_aload_n (i := 0) hc 0 rfl rfl dX6_pass_25 (pc2 := 26) rfl ?_
      refine g_getr (q := ad κ.1 3 0) hc fo_X6_19 (u0 (by decide)) rfl dX6_pass_26 (pc2 := 29) rfl ?_
      obtain ⟨s1, hp, hf⟩ := bv_some hf
      refine g_vV hc (k4_remember (by decide) hp) co_X6_193 (u15 (by decide)) rfl rfl (by decide) (by decide) (Nat.le_of_ble_eq_true rfl) dX6_pass_29 (pc2 := 32) rfl ?_
      refine g_aload_n (i := 0) hc 0 rfl rfl dX6_pass_32 (pc2 := 33) rfl ?_
      refine g_getr (q := ad κ.1 3 0) hc fo_X6_19 (u0 (by decide)) rfl dX6_pass_33 (pc2 := 36) rfl ?_
      refine g_geti hc fo_X6_93 (u3 (by decide)) dX6_pass_36 (pc2 := 39) rfl ?_
      obtain ⟨x1, hx1, hf⟩ := nm_ex hf
      refine g_nmi hx1 ?_
      refine g_istore_n (i := 2) (L1 := [(2, .int x1), (0, .ref (ad κ.1 0 0)), (1, .int a1)]) hc rfl (by decide) rfl dX6_pass_39 (pc2 := 40) rfl ?_
      refine g_aload_n (i := 0) hc 1 rfl rfl dX6_pass_40 (pc2 := 41) rfl ?_
      refine g_getr (q := ad κ.1 3 0) hc fo_X6_19 (u0 (by decide)) rfl dX6_pass_41 (pc2 := 44) rfl ?_
      refine g_iload_n (i := 1) hc 2 rfl rfl dX6_pass_44 (pc2 := 45) rfl ?_
      obtain ⟨s2, hp, hf⟩ := bv_some hf
      refine g_vV hc (k2_stepTimes (by decide) hp) co_X6_227 (u3 (by decide)) rfl rfl (by decide) (by decide) (Nat.le_of_ble_eq_true rfl) dX6_pass_45 (pc2 := 48) rfl ?_
      refine g_iload_n (i := 1) hc 2 rfl rfl dX6_pass_48 (pc2 := 49) rfl ?_
      refine g_aload_n (i := 0) hc 1 rfl rfl dX6_pass_49 (pc2 := 50) rfl ?_
      refine g_getr (q := ad κ.1 3 0) hc fo_X6_19 (u0 (by decide)) rfl dX6_pass_50 (pc2 := 53) rfl ?_
      refine g_geti hc fo_X6_93 (u3 (by decide)) dX6_pass_53 (pc2 := 56) rfl ?_
      refine g_iload_n (i := 2) hc 0 rfl rfl dX6_pass_56 (pc2 := 57) rfl ?_
      refine g_isub hc dX6_pass_57 (pc2 := 58) rfl ?_
      refine g_isub hc dX6_pass_58 (pc2 := 59) rfl ?_
      exact g_iret hc (ni_r hf) hr rfl (by decide) (by decide) dX6_pass_59
    · have hf := ite_f hf q
      cases hf
def f6_forgive (a1 : Int32) (a2 : Int32) (s0 : Mem) : Option ((Nat ⊕ Int32) × Mem) :=
  bx (f6_needMaster a1 s0) (fun e s1 => some (.inl e, s1)) fun _ s1 => bx (f6_needMaster a2 s1) (fun e s2 => some (.inl e, s2)) fun _ s2 => bv (f4_remember 0 s2) fun s3 => gd (ib a1 6) (gd (ib a2 6) (nm (s3 8 (6 * 0 + a1.toNatClampNeg) a2.toNatClampNeg) fun x1 => gd (ib a1 6) (gd (ib a2 6) (nm (ms s3 8 (6 * 0 + a1.toNatClampNeg) a2.toNatClampNeg (0 : Int32)) fun s4 => some (.inr x1, s4)))))
def rm_6_forgive : Room := { frames := 4, cells := 0, slots := 0, locals := 87 }
set_option maxHeartbeats 4000000 in
set_option maxRecDepth 100000 in
theorem kz6_forgive {κ : Kx} {τ : Nat → Int64} {a1 : Int32} {a2 : Int32} {s0 sR : Mem} {rR : Int32}  (hf : f6_forgive a1 a2 s0 = some (.inr rR, sR)) : CtI κ yX6_forgive cX6_forgive 4 (some .int) rm_6_forgive (NV κ τ) (NV κ τ) [.ref (ad κ.1 0 0), .int a1, .int a2] s0 sR rR := by
  refine ct_I (by decide +kernel) (Nat.le_of_ble_eq_true rfl) (fun φ hc hr => ?_)
  have hc : Cx κ φ RX6 cX6_forgive 4 rm_6_forgive := hc
  show G κ φ (QI κ φ (NV κ τ) sR rR rm_6_forgive.cells rm_6_forgive.slots) (NV κ τ) 0 0 s0 [(0, .ref (ad κ.1 0 0)), (1, .int a1), (2, .int a2)] 0 []
  unfold f6_forgive at hf
  refine g_aload_n (i := 0) hc 0 rfl rfl dX6_forgive_0 (pc2 := 1) rfl ?_
  refine g_iload_n (i := 1) hc 1 rfl rfl dX6_forgive_1 (pc2 := 2) rfl ?_
  obtain ⟨s1, hp, hf⟩ := bx_in2 hf
  refine g_vV hc (kz6_needMaster hp) co_X6_113 (u0 (by decide)) rfl rfl (by decide) (by decide) (Nat.le_of_ble_eq_true rfl) dX6_forgive_2 (pc2 := 5) rfl ?_
  refine g_aload_n (i := 0) hc 0 rfl rfl dX6_forgive_5 (pc2 := 6) rfl ?_
  refine g_iload_n (i := 2) hc 2 rfl rfl dX6_forgive_6 (pc2 := 7) rfl ?_
  obtain ⟨s2, hp, hf⟩ := bx_in2 hf
  refine g_vV hc (kz6_needMaster hp) co_X6_113 (u0 (by decide)) rfl rfl (by decide) (by decide) (Nat.le_of_ble_eq_true rfl) dX6_forgive_7 (pc2 := 10) rfl ?_
  refine g_aload_n (i := 0) hc 0 rfl rfl dX6_forgive_10 (pc2 := 11) rfl ?_
  refine g_getr (q := ad κ.1 15 0) hc fo_X6_26 (u0 (by decide)) rfl dX6_forgive_11 (pc2 := 14) rfl ?_
  refine g_aload_n (i := 0) hc 0 rfl rfl dX6_forgive_14 (pc2 := 15) rfl ?_
  refine g_getr (q := ad κ.1 3 0) hc fo_X6_19 (u0 (by decide)) rfl dX6_forgive_15 (pc2 := 18) rfl ?_
  obtain ⟨s3, hp, hf⟩ := bv_some hf
  refine g_vV hc (k4_remember (by decide) hp) co_X6_193 (u15 (by decide)) rfl rfl (by decide) (by decide) (Nat.le_of_ble_eq_true rfl) dX6_forgive_18 (pc2 := 21) rfl ?_
  refine g_aload_n (i := 0) hc 0 rfl rfl dX6_forgive_21 (pc2 := 22) rfl ?_
  refine g_getr (q := ad κ.1 3 0) hc fo_X6_19 (u0 (by decide)) rfl dX6_forgive_22 (pc2 := 25) rfl ?_
  refine g_getr (q := ad κ.1 6 0) hc fo_X6_117 (u3 (by decide)) rfl dX6_forgive_25 (pc2 := 28) rfl ?_
  refine g_iload_n (i := 1) hc 1 rfl rfl dX6_forgive_28 (pc2 := 29) rfl ?_
  obtain ⟨hg1, hf⟩ := gd_some hf
  have ihg1 := ib_lt hg1
  refine g_aldr (q := ad κ.1 7 (6 * 0 + a1.toNatClampNeg)) hc 6 0 (by decide) (by decide) (u6 (by decide)) hg1 rfl dX6_forgive_29 (pc2 := 30) rfl ?_
  refine g_getr (q := ad κ.1 8 (6 * 0 + a1.toNatClampNeg)) hc fo_X6_172 (u7 (by omega)) rfl dX6_forgive_30 (pc2 := 33) rfl ?_
  refine g_iload_n (i := 2) hc 2 rfl rfl dX6_forgive_33 (pc2 := 34) rfl ?_
  obtain ⟨hg2, hf⟩ := gd_some hf
  refine g_aldi hc 8 (6 * 0 + a1.toNatClampNeg) rfl (u8 (by omega)) hg2 dX6_forgive_34 (pc2 := 35) rfl ?_
  obtain ⟨x1, hx1, hf⟩ := nm_ex hf
  refine g_nmi hx1 ?_
  refine g_istore_n (i := 3) (L1 := [(3, .int x1), (0, .ref (ad κ.1 0 0)), (1, .int a1), (2, .int a2)]) hc rfl (by decide) rfl dX6_forgive_35 (pc2 := 36) rfl ?_
  refine g_aload_n (i := 0) hc 1 rfl rfl dX6_forgive_36 (pc2 := 37) rfl ?_
  refine g_getr (q := ad κ.1 3 0) hc fo_X6_19 (u0 (by decide)) rfl dX6_forgive_37 (pc2 := 40) rfl ?_
  refine g_getr (q := ad κ.1 6 0) hc fo_X6_117 (u3 (by decide)) rfl dX6_forgive_40 (pc2 := 43) rfl ?_
  refine g_iload_n (i := 1) hc 2 rfl rfl dX6_forgive_43 (pc2 := 44) rfl ?_
  obtain ⟨hg3, hf⟩ := gd_some hf
  have ihg3 := ib_lt hg3
  refine g_aldr (q := ad κ.1 7 (6 * 0 + a1.toNatClampNeg)) hc 6 0 (by decide) (by decide) (u6 (by decide)) hg3 rfl dX6_forgive_44 (pc2 := 45) rfl ?_
  refine g_getr (q := ad κ.1 8 (6 * 0 + a1.toNatClampNeg)) hc fo_X6_172 (u7 (by omega)) rfl dX6_forgive_45 (pc2 := 48) rfl ?_
  refine g_iload_n (i := 2) hc 3 rfl rfl dX6_forgive_48 (pc2 := 49) rfl ?_
  refine g_iconst (v := (0 : Int32)) hc (by decide) dX6_forgive_49 (pc2 := 50) rfl ?_
  obtain ⟨hg4, hf⟩ := gd_some hf
  obtain ⟨s4, hs4, hf⟩ := nm_ex hf
  refine g_asti hc 8 (6 * 0 + a1.toNatClampNeg) rfl (u8 (by omega)) hg4 dX6_forgive_50 (pc2 := 51) rfl ?_
  refine g_nms hs4 ?_
  refine g_iload_n (i := 3) hc 0 rfl rfl dX6_forgive_51 (pc2 := 52) rfl ?_
  exact g_iret hc (ni_r hf) hr rfl (by decide) (by decide) dX6_forgive_52
def f6_undo  (s0 : Mem) : Option ((Nat ⊕ Int32) × Mem) :=
  (if (1 : Int32) ≤ (s0 52 0 0) then bv (f4_takeBack 0 s0) fun s1 => some (.inr (s1 52 0 0), s1) else some (.inl 1, s0))
def rm_6_undo : Room := { frames := 4, cells := 0, slots := 0, locals := 88 }
set_option maxHeartbeats 4000000 in
set_option maxRecDepth 100000 in
theorem kz6_undo {κ : Kx} {τ : Nat → Int64}  {s0 sR : Mem} {rR : Int32}  (hf : f6_undo s0 = some (.inr rR, sR)) : CtI κ yX6_undo cX6_undo 1 (some .int) rm_6_undo (NV κ τ) (NV κ τ) [.ref (ad κ.1 0 0)] s0 sR rR := by
  refine ct_I (by decide +kernel) (Nat.le_of_ble_eq_true rfl) (fun φ hc hr => ?_)
  have hc : Cx κ φ RX6 cX6_undo 1 rm_6_undo := hc
  show G κ φ (QI κ φ (NV κ τ) sR rR rm_6_undo.cells rm_6_undo.slots) (NV κ τ) 0 0 s0 [(0, .ref (ad κ.1 0 0))] 0 []
  unfold f6_undo at hf
  refine g_aload_n (i := 0) hc 0 rfl rfl dX6_undo_0 (pc2 := 1) rfl ?_
  refine g_getr (q := ad κ.1 15 0) hc fo_X6_26 (u0 (by decide)) rfl dX6_undo_1 (pc2 := 4) rfl ?_
  refine g_geti hc fo_X6_230 (u15 (by decide)) dX6_undo_4 (pc2 := 7) rfl ?_
  refine g_iconst (v := (1 : Int32)) hc (by decide) dX6_undo_7 (pc2 := 8) rfl ?_
  refine g_icmp_ge hc 21 (by decide) dX6_undo_8 (pc2 := 11) rfl (fun q => ?_) (fun q => ?_)
  · have hf := ite_t hf q
    refine g_aload_n (i := 0) hc 0 rfl rfl dX6_undo_21 (pc2 := 22) rfl ?_
    refine g_getr (q := ad κ.1 15 0) hc fo_X6_26 (u0 (by decide)) rfl dX6_undo_22 (pc2 := 25) rfl ?_
    refine g_aload_n (i := 0) hc 0 rfl rfl dX6_undo_25 (pc2 := 26) rfl ?_
    refine g_getr (q := ad κ.1 3 0) hc fo_X6_19 (u0 (by decide)) rfl dX6_undo_26 (pc2 := 29) rfl ?_
    obtain ⟨s1, hp, hf⟩ := bv_some hf
    refine g_vV hc (k4_takeBack (by decide) hp) co_X6_233 (u15 (by decide)) rfl rfl (by decide) (by decide) (Nat.le_of_ble_eq_true rfl) dX6_undo_29 (pc2 := 32) rfl ?_
    refine g_aload_n (i := 0) hc 0 rfl rfl dX6_undo_32 (pc2 := 33) rfl ?_
    refine g_getr (q := ad κ.1 15 0) hc fo_X6_26 (u0 (by decide)) rfl dX6_undo_33 (pc2 := 36) rfl ?_
    refine g_geti hc fo_X6_230 (u15 (by decide)) dX6_undo_36 (pc2 := 39) rfl ?_
    exact g_iret hc (ni_r hf) hr rfl (by decide) (by decide) dX6_undo_39
  · have hf := ite_f hf q
    cases hf
def f6_turnIn (a1 : Int32) (s0 : Mem) : Option ((Nat ⊕ Int32) × Mem) :=
  (if a1 < (0 : Int32) then some (.inl 0, s0) else (if a1 ≤ (99 : Int32) then bv (f2_copyFrom 15 0 s0) fun s1 => bv (f2_stepTimes 15 (a1 + (1 : Int32)) s1) fun s2 => some (.inr (s2 35 15 0), s2) else some (.inl 0, s0)))
def rm_6_turnIn : Room := { frames := 5, cells := 0, slots := 0, locals := 113 }
set_option maxHeartbeats 4000000 in
set_option maxRecDepth 100000 in
theorem kz6_turnIn {κ : Kx} {τ : Nat → Int64} {a1 : Int32} {s0 sR : Mem} {rR : Int32}  (hf : f6_turnIn a1 s0 = some (.inr rR, sR)) : CtI κ yX6_turnIn cX6_turnIn 2 (some .int) rm_6_turnIn (NV κ τ) (NV κ τ) [.ref (ad κ.1 0 0), .int a1] s0 sR rR := by
  refine ct_I (by decide +kernel) (Nat.le_of_ble_eq_true rfl) (fun φ hc hr => ?_)
  have hc : Cx κ φ RX6 cX6_turnIn 2 rm_6_turnIn := hc
  show G κ φ (QI κ φ (NV κ τ) sR rR rm_6_turnIn.cells rm_6_turnIn.slots) (NV κ τ) 0 0 s0 [(0, .ref (ad κ.1 0 0)), (1, .int a1)] 0 []
  unfold f6_turnIn at hf
  refine g_iload_n (i := 1) hc 1 rfl rfl dX6_turnIn_0 (pc2 := 1) rfl ?_
  refine g_if_lt hc 10 (by decide) dX6_turnIn_1 (pc2 := 4) rfl (fun q => ?_) (fun q => ?_)
  · have hf := ite_t hf q
    cases hf
  · have hf := ite_f hf q
    refine g_iload_n (i := 1) hc 1 rfl rfl dX6_turnIn_4 (pc2 := 5) rfl ?_
    refine g_bipush (v := (99 : Int32)) hc (by decide) dX6_turnIn_5 (pc2 := 7) rfl ?_
    refine g_icmp_le hc 20 (by decide) dX6_turnIn_7 (pc2 := 10) rfl (fun q => ?_) (fun q => ?_)
    · have hf := ite_t hf q
      refine g_aload_n (i := 0) hc 0 rfl rfl dX6_turnIn_20 (pc2 := 21) rfl ?_
      refine g_getr (q := ad κ.1 3 15) hc fo_X6_38 (u0 (by decide)) rfl dX6_turnIn_21 (pc2 := 24) rfl ?_
      refine g_aload_n (i := 0) hc 0 rfl rfl dX6_turnIn_24 (pc2 := 25) rfl ?_
      refine g_getr (q := ad κ.1 3 0) hc fo_X6_19 (u0 (by decide)) rfl dX6_turnIn_25 (pc2 := 28) rfl ?_
      obtain ⟨s1, hp, hf⟩ := bv_some hf
      refine g_vV hc (k2_copyFrom (by decide) (by decide) hp) co_X6_74 (u3 (by decide)) rfl rfl (by decide) (by decide) (Nat.le_of_ble_eq_true rfl) dX6_turnIn_28 (pc2 := 31) rfl ?_
      refine g_aload_n (i := 0) hc 0 rfl rfl dX6_turnIn_31 (pc2 := 32) rfl ?_
      refine g_getr (q := ad κ.1 3 15) hc fo_X6_38 (u0 (by decide)) rfl dX6_turnIn_32 (pc2 := 35) rfl ?_
      refine g_iload_n (i := 1) hc 1 rfl rfl dX6_turnIn_35 (pc2 := 36) rfl ?_
      refine g_iconst (v := (1 : Int32)) hc (by decide) dX6_turnIn_36 (pc2 := 37) rfl ?_
      refine g_iadd hc dX6_turnIn_37 (pc2 := 38) rfl ?_
      obtain ⟨s2, hp, hf⟩ := bv_some hf
      refine g_vV hc (k2_stepTimes (by decide) hp) co_X6_227 (u3 (by decide)) rfl rfl (by decide) (by decide) (Nat.le_of_ble_eq_true rfl) dX6_turnIn_38 (pc2 := 41) rfl ?_
      refine g_aload_n (i := 0) hc 0 rfl rfl dX6_turnIn_41 (pc2 := 42) rfl ?_
      refine g_getr (q := ad κ.1 3 15) hc fo_X6_38 (u0 (by decide)) rfl dX6_turnIn_42 (pc2 := 45) rfl ?_
      refine g_geti hc fo_X6_105 (u3 (by decide)) dX6_turnIn_45 (pc2 := 48) rfl ?_
      exact g_iret hc (ni_r hf) hr rfl (by decide) (by decide) dX6_turnIn_48
    · have hf := ite_f hf q
      cases hf
def f6_doneIn (a1 : Int32) (s0 : Mem) : Option ((Nat ⊕ Int32) × Mem) :=
  bx (f6_needMaster a1 s0) (fun e s1 => some (.inl e, s1)) fun _ s1 => bv (f2_copyFrom 15 0 s1) fun s2 => bd (f2_stepsTillDone 15 a1 a1 (400 : Int32) s2) fun r1 s3 => (if r1 ≤ (400 : Int32) then some (.inr r1, s3) else some (.inr (-9 : Int32), s3))
def rm_6_doneIn : Room := { frames := 5, cells := 0, slots := 0, locals := 117 }
set_option maxHeartbeats 4000000 in
set_option maxRecDepth 100000 in
theorem kz6_doneIn {κ : Kx} {τ : Nat → Int64} {a1 : Int32} {s0 sR : Mem} {rR : Int32}  (hf : f6_doneIn a1 s0 = some (.inr rR, sR)) : CtI κ yX6_doneIn cX6_doneIn 3 (some .int) rm_6_doneIn (NV κ τ) (NV κ τ) [.ref (ad κ.1 0 0), .int a1] s0 sR rR := by
  refine ct_I (by decide +kernel) (Nat.le_of_ble_eq_true rfl) (fun φ hc hr => ?_)
  have hc : Cx κ φ RX6 cX6_doneIn 3 rm_6_doneIn := hc
  show G κ φ (QI κ φ (NV κ τ) sR rR rm_6_doneIn.cells rm_6_doneIn.slots) (NV κ τ) 0 0 s0 [(0, .ref (ad κ.1 0 0)), (1, .int a1)] 0 []
  unfold f6_doneIn at hf
  refine g_aload_n (i := 0) hc 0 rfl rfl dX6_doneIn_0 (pc2 := 1) rfl ?_
  refine g_iload_n (i := 1) hc 1 rfl rfl dX6_doneIn_1 (pc2 := 2) rfl ?_
  obtain ⟨s1, hp, hf⟩ := bx_in2 hf
  refine g_vV hc (kz6_needMaster hp) co_X6_113 (u0 (by decide)) rfl rfl (by decide) (by decide) (Nat.le_of_ble_eq_true rfl) dX6_doneIn_2 (pc2 := 5) rfl ?_
  refine g_aload_n (i := 0) hc 0 rfl rfl dX6_doneIn_5 (pc2 := 6) rfl ?_
  refine g_getr (q := ad κ.1 3 15) hc fo_X6_38 (u0 (by decide)) rfl dX6_doneIn_6 (pc2 := 9) rfl ?_
  refine g_aload_n (i := 0) hc 0 rfl rfl dX6_doneIn_9 (pc2 := 10) rfl ?_
  refine g_getr (q := ad κ.1 3 0) hc fo_X6_19 (u0 (by decide)) rfl dX6_doneIn_10 (pc2 := 13) rfl ?_
  obtain ⟨s2, hp, hf⟩ := bv_some hf
  refine g_vV hc (k2_copyFrom (by decide) (by decide) hp) co_X6_74 (u3 (by decide)) rfl rfl (by decide) (by decide) (Nat.le_of_ble_eq_true rfl) dX6_doneIn_13 (pc2 := 16) rfl ?_
  refine g_aload_n (i := 0) hc 0 rfl rfl dX6_doneIn_16 (pc2 := 17) rfl ?_
  refine g_getr (q := ad κ.1 3 15) hc fo_X6_38 (u0 (by decide)) rfl dX6_doneIn_17 (pc2 := 20) rfl ?_
  refine g_iload_n (i := 1) hc 1 rfl rfl dX6_doneIn_20 (pc2 := 21) rfl ?_
  refine g_iload_n (i := 1) hc 1 rfl rfl dX6_doneIn_21 (pc2 := 22) rfl ?_
  refine g_sipush (v := (400 : Int32)) hc (by decide) dX6_doneIn_22 (pc2 := 25) rfl ?_
  obtain ⟨r1, s3, hp, hf⟩ := bd_some hf
  refine g_vI hc (k2_stepsTillDone (by decide) hp) co_X6_236 (u3 (by decide)) rfl rfl (by decide) (by decide) (Nat.le_of_ble_eq_true rfl) dX6_doneIn_25 (pc2 := 28) rfl ?_
  refine g_istore_n (i := 2) (L1 := [(2, .int r1), (0, .ref (ad κ.1 0 0)), (1, .int a1)]) hc rfl (by decide) rfl dX6_doneIn_28 (pc2 := 29) rfl ?_
  refine g_iload_n (i := 2) hc 0 rfl rfl dX6_doneIn_29 (pc2 := 30) rfl ?_
  refine g_sipush (v := (400 : Int32)) hc (by decide) dX6_doneIn_30 (pc2 := 33) rfl ?_
  refine g_icmp_le hc 41 (by decide) dX6_doneIn_33 (pc2 := 36) rfl (fun q => ?_) (fun q => ?_)
  · have hf := ite_t hf q
    refine g_iload_n (i := 2) hc 0 rfl rfl dX6_doneIn_41 (pc2 := 42) rfl ?_
    exact g_iret hc (ni_r hf) hr rfl (by decide) (by decide) dX6_doneIn_42
  · have hf := ite_f hf q
    refine g_bipush (v := (-9 : Int32)) hc (by decide) dX6_doneIn_36 (pc2 := 38) rfl ?_
    refine g_goto hc 42 (by decide) dX6_doneIn_38 ?_
    exact g_iret hc (ni_r hf) hr rfl (by decide) (by decide) dX6_doneIn_42
def f6_bestSlot_l32 (a1 : Int32) (k1 : Int32 → Mem → Option ((Nat ⊕ Int32) × Mem)) : Nat → Int32 → Int32 → Int32 → Mem → Option ((Nat ⊕ Int32) × Mem)
  | 0, _, _, _, _ => none
  | n1 + 1, m1, m2, m3, s3 => (if (s3 31 0 0) ≤ m3 then k1 m1 s3 else bv (f2_copyFrom 15 0 s3) fun s4 => gd (ib m3 16) (nm (ms s4 4 15 m3.toNatClampNeg a1) fun s5 => bd (f2_stepsTillDone 15 a1 a1 (m2 - (1 : Int32)) s5) fun r1 s6 => nm (fun (y2 : Int32) (y3 : Int32) (s7 : Mem) => nm (m3 + (1 : Int32)) fun x1 => f6_bestSlot_l32 a1 k1 n1 y2 y3 x1 s7) fun j1 => (if m2 ≤ r1 then j1 m1 m2 s6 else j1 m3 r1 s6)))
def f6_bestSlot (a1 : Int32) (s0 : Mem) : Option ((Nat ⊕ Int32) × Mem) :=
  bx (f6_needMaster a1 s0) (fun e s1 => some (.inl e, s1)) fun _ s1 => gd (ib a1 6) ((if (s1 40 (6 * 0 + a1.toNatClampNeg) 0) = (0 : Int32) then nm (fun (y1 : Int32) (s2 : Mem) => some (.inr y1, s2)) fun k1 => f6_bestSlot_l32 a1 k1 FU (0 : Int32) (401 : Int32) (0 : Int32) s1 else some (.inr (-9 : Int32), s1)))
def rm_6_bestSlot : Room := { frames := 5, cells := 0, slots := 0, locals := 117 }
set_option maxHeartbeats 4000000 in
set_option maxRecDepth 100000 in
theorem kz6_bestSlot {κ : Kx} {τ : Nat → Int64} {a1 : Int32} {s0 sR : Mem} {rR : Int32}  (hf : f6_bestSlot a1 s0 = some (.inr rR, sR)) : CtI κ yX6_bestSlot cX6_bestSlot 6 (some .int) rm_6_bestSlot (NV κ τ) (NV κ τ) [.ref (ad κ.1 0 0), .int a1] s0 sR rR := by
  refine ct_I (by decide +kernel) (Nat.le_of_ble_eq_true rfl) (fun φ hc hr => ?_)
  have hc : Cx κ φ RX6 cX6_bestSlot 6 rm_6_bestSlot := hc
  show G κ φ (QI κ φ (NV κ τ) sR rR rm_6_bestSlot.cells rm_6_bestSlot.slots) (NV κ τ) 0 0 s0 [(0, .ref (ad κ.1 0 0)), (1, .int a1)] 0 []
  unfold f6_bestSlot at hf
  refine g_aload_n (i := 0) hc 0 rfl rfl dX6_bestSlot_0 (pc2 := 1) rfl ?_
  refine g_iload_n (i := 1) hc 1 rfl rfl dX6_bestSlot_1 (pc2 := 2) rfl ?_
  obtain ⟨s1, hp, hf⟩ := bx_in2 hf
  refine g_vV hc (kz6_needMaster hp) co_X6_113 (u0 (by decide)) rfl rfl (by decide) (by decide) (Nat.le_of_ble_eq_true rfl) dX6_bestSlot_2 (pc2 := 5) rfl ?_
  refine g_aload_n (i := 0) hc 0 rfl rfl dX6_bestSlot_5 (pc2 := 6) rfl ?_
  refine g_getr (q := ad κ.1 3 0) hc fo_X6_19 (u0 (by decide)) rfl dX6_bestSlot_6 (pc2 := 9) rfl ?_
  refine g_getr (q := ad κ.1 6 0) hc fo_X6_117 (u3 (by decide)) rfl dX6_bestSlot_9 (pc2 := 12) rfl ?_
  refine g_iload_n (i := 1) hc 1 rfl rfl dX6_bestSlot_12 (pc2 := 13) rfl ?_
  obtain ⟨hg1, hf⟩ := gd_some hf
  have ihg1 := ib_lt hg1
  refine g_aldr (q := ad κ.1 7 (6 * 0 + a1.toNatClampNeg)) hc 6 0 (by decide) (by decide) (u6 (by decide)) hg1 rfl dX6_bestSlot_13 (pc2 := 14) rfl ?_
  refine g_geti hc fo_X6_199 (u7 (by omega)) dX6_bestSlot_14 (pc2 := 17) rfl ?_
  refine g_if_eq hc 23 (by decide) dX6_bestSlot_17 (pc2 := 20) rfl (fun q => ?_) (fun q => ?_)
  · have hf := ite_t hf q
    refine g_iconst (v := (0 : Int32)) hc (by decide) dX6_bestSlot_23 (pc2 := 24) rfl ?_
    refine g_istore_n (i := 2) (L1 := [(2, .int (0 : Int32)), (0, .ref (ad κ.1 0 0)), (1, .int a1)]) hc rfl (by decide) rfl dX6_bestSlot_24 (pc2 := 25) rfl ?_
    refine g_sipush (v := (401 : Int32)) hc (by decide) dX6_bestSlot_25 (pc2 := 28) rfl ?_
    refine g_istore_n (i := 3) (L1 := [(3, .int (401 : Int32)), (2, .int (0 : Int32)), (0, .ref (ad κ.1 0 0)), (1, .int a1)]) hc rfl (by decide) rfl dX6_bestSlot_28 (pc2 := 29) rfl ?_
    refine g_iconst (v := (0 : Int32)) hc (by decide) dX6_bestSlot_29 (pc2 := 30) rfl ?_
    refine g_istore (L1 := [(4, .int (0 : Int32)), (3, .int (401 : Int32)), (2, .int (0 : Int32)), (0, .ref (ad κ.1 0 0)), (1, .int a1)]) hc (by decide) rfl dX6_bestSlot_30 (pc2 := 32) rfl ?_
    obtain ⟨k1, hk1, hf⟩ := nm_ex hf
    have Hk1 : ∀ (y1 : Int32) (s2 : Mem), k1 y1 s2 = some (.inr rR, sR) → G κ φ (QI κ φ (NV κ τ) sR rR rm_6_bestSlot.cells rm_6_bestSlot.slots) (NV κ τ) 0 0 s2 [(2, .int y1)] 98 [] := by
      intro y1 s2 hf
      rw [hk1] at hf
      refine g_iload_n (i := 2) hc 0 rfl rfl dX6_bestSlot_98 (pc2 := 99) rfl ?_
      exact g_iret hc (ni_r hf) hr rfl (by decide) (by decide) dX6_bestSlot_99
    have LP_n1 : ∀ (n1 : Nat) (m1 : Int32) (m2 : Int32) (m3 : Int32) (s3 : Mem), f6_bestSlot_l32 a1 k1 n1 m1 m2 m3 s3 = some (.inr rR, sR) → G κ φ (QI κ φ (NV κ τ) sR rR rm_6_bestSlot.cells rm_6_bestSlot.slots) (NV κ τ) 0 0 s3 [(0, .ref (ad κ.1 0 0)), (1, .int a1), (2, .int m1), (3, .int m2), (4, .int m3)] 32 [] := by
      intro n1
      induction n1 with
      | zero => intro m1 m2 m3 s3 hf; rw [f6_bestSlot_l32] at hf; cases hf
      | succ n1 ih_n1 =>
        intro m1 m2 m3 s3 hf
        rw [f6_bestSlot_l32] at hf
        refine g_iload hc 4 rfl dX6_bestSlot_32 (pc2 := 34) rfl ?_
        refine g_aload_n (i := 0) hc 0 rfl rfl dX6_bestSlot_34 (pc2 := 35) rfl ?_
        refine g_getr (q := ad κ.1 3 0) hc fo_X6_19 (u0 (by decide)) rfl dX6_bestSlot_35 (pc2 := 38) rfl ?_
        refine g_geti hc fo_X6_87 (u3 (by decide)) dX6_bestSlot_38 (pc2 := 41) rfl ?_
        refine g_icmp_ge hc 98 (by decide) dX6_bestSlot_41 (pc2 := 44) rfl (fun q => ?_) (fun q => ?_)
        · have hf := ite_t hf q
          refine g_sub [2] rfl ?_
          exact Hk1 _ _ hf
        · have hf := ite_f hf q
          refine g_aload_n (i := 0) hc 0 rfl rfl dX6_bestSlot_44 (pc2 := 45) rfl ?_
          refine g_getr (q := ad κ.1 3 15) hc fo_X6_38 (u0 (by decide)) rfl dX6_bestSlot_45 (pc2 := 48) rfl ?_
          refine g_aload_n (i := 0) hc 0 rfl rfl dX6_bestSlot_48 (pc2 := 49) rfl ?_
          refine g_getr (q := ad κ.1 3 0) hc fo_X6_19 (u0 (by decide)) rfl dX6_bestSlot_49 (pc2 := 52) rfl ?_
          obtain ⟨s4, hp, hf⟩ := bv_some hf
          refine g_vV hc (k2_copyFrom (by decide) (by decide) hp) co_X6_74 (u3 (by decide)) rfl rfl (by decide) (by decide) (Nat.le_of_ble_eq_true rfl) dX6_bestSlot_52 (pc2 := 55) rfl ?_
          refine g_aload_n (i := 0) hc 0 rfl rfl dX6_bestSlot_55 (pc2 := 56) rfl ?_
          refine g_getr (q := ad κ.1 3 15) hc fo_X6_38 (u0 (by decide)) rfl dX6_bestSlot_56 (pc2 := 59) rfl ?_
          refine g_getr (q := ad κ.1 4 15) hc fo_X6_168 (u3 (by decide)) rfl dX6_bestSlot_59 (pc2 := 62) rfl ?_
          refine g_iload hc 4 rfl dX6_bestSlot_62 (pc2 := 64) rfl ?_
          refine g_iload_n (i := 1) hc 1 rfl rfl dX6_bestSlot_64 (pc2 := 65) rfl ?_
          obtain ⟨hg2, hf⟩ := gd_some hf
          obtain ⟨s5, hs5, hf⟩ := nm_ex hf
          refine g_asti hc 4 15 rfl (u4 (by decide)) hg2 dX6_bestSlot_65 (pc2 := 66) rfl ?_
          refine g_nms hs5 ?_
          refine g_aload_n (i := 0) hc 0 rfl rfl dX6_bestSlot_66 (pc2 := 67) rfl ?_
          refine g_getr (q := ad κ.1 3 15) hc fo_X6_38 (u0 (by decide)) rfl dX6_bestSlot_67 (pc2 := 70) rfl ?_
          refine g_iload_n (i := 1) hc 1 rfl rfl dX6_bestSlot_70 (pc2 := 71) rfl ?_
          refine g_iload_n (i := 1) hc 1 rfl rfl dX6_bestSlot_71 (pc2 := 72) rfl ?_
          refine g_iload_n (i := 3) hc 3 rfl rfl dX6_bestSlot_72 (pc2 := 73) rfl ?_
          refine g_iconst (v := (1 : Int32)) hc (by decide) dX6_bestSlot_73 (pc2 := 74) rfl ?_
          refine g_isub hc dX6_bestSlot_74 (pc2 := 75) rfl ?_
          obtain ⟨r1, s6, hp, hf⟩ := bd_some hf
          refine g_vI hc (k2_stepsTillDone (by decide) hp) co_X6_236 (u3 (by decide)) rfl rfl (by decide) (by decide) (Nat.le_of_ble_eq_true rfl) dX6_bestSlot_75 (pc2 := 78) rfl ?_
          refine g_istore (L1 := [(5, .int r1), (0, .ref (ad κ.1 0 0)), (1, .int a1), (2, .int m1), (3, .int m2), (4, .int m3)]) hc (by decide) rfl dX6_bestSlot_78 (pc2 := 80) rfl ?_
          refine g_iload hc 0 rfl dX6_bestSlot_80 (pc2 := 82) rfl ?_
          refine g_iload_n (i := 3) hc 4 rfl rfl dX6_bestSlot_82 (pc2 := 83) rfl ?_
          obtain ⟨j1, hj1, hf⟩ := nm_ex hf
          have Hj1 : ∀ (y2 : Int32) (y3 : Int32) (s7 : Mem), j1 y2 y3 s7 = some (.inr rR, sR) → G κ φ (QI κ φ (NV κ τ) sR rR rm_6_bestSlot.cells rm_6_bestSlot.slots) (NV κ τ) 0 0 s7 [(0, .ref (ad κ.1 0 0)), (1, .int a1), (2, .int y2), (3, .int y3), (4, .int m3)] 92 [] := by
            intro y2 y3 s7 hf
            rw [hj1] at hf
            obtain ⟨x1, hx1, hf⟩ := nm_ex hf
            refine g_iinc (v := x1) (L1 := [(4, .int x1), (0, .ref (ad κ.1 0 0)), (1, .int a1), (2, .int y2), (3, .int y3)]) hc 4 rfl (by rw [hx1]; rfl) (by decide) rfl dX6_bestSlot_92 (pc2 := 95) rfl ?_
            refine g_goto hc 32 (by decide) dX6_bestSlot_95 ?_
            refine g_sub [1, 2, 3, 4, 0] rfl ?_
            exact ih_n1 _ _ _ _ hf
          refine g_icmp_ge hc 92 (by decide) dX6_bestSlot_83 (pc2 := 86) rfl (fun q => ?_) (fun q => ?_)
          · have hf := ite_t hf q
            refine g_sub [1, 2, 3, 4, 5] rfl ?_
            exact Hj1 _ _ _ hf
          · have hf := ite_f hf q
            refine g_iload hc 0 rfl dX6_bestSlot_86 (pc2 := 88) rfl ?_
            refine g_istore_n (i := 3) (L1 := [(3, .int r1), (5, .int r1), (0, .ref (ad κ.1 0 0)), (1, .int a1), (2, .int m1), (4, .int m3)]) hc rfl (by decide) rfl dX6_bestSlot_88 (pc2 := 89) rfl ?_
            refine g_iload hc 5 rfl dX6_bestSlot_89 (pc2 := 91) rfl ?_
            refine g_istore_n (i := 2) (L1 := [(2, .int m3), (3, .int r1), (5, .int r1), (0, .ref (ad κ.1 0 0)), (1, .int a1), (4, .int m3)]) hc rfl (by decide) rfl dX6_bestSlot_91 (pc2 := 92) rfl ?_
            refine g_sub [3, 4, 0, 1, 5] rfl ?_
            exact Hj1 _ _ _ hf
    refine g_sub [3, 4, 2, 1, 0] rfl ?_
    exact LP_n1 _ _ _ _ _ hf
  · have hf := ite_f hf q
    refine g_bipush (v := (-9 : Int32)) hc (by decide) dX6_bestSlot_20 (pc2 := 22) rfl ?_
    exact g_iret hc (ni_r hf) hr rfl (by decide) (by decide) dX6_bestSlot_22
def f6_needSaveSlot (a1 : Int32) (s0 : Mem) : Option ((Nat ⊕ Unit) × Mem) :=
  (if a1 < (0 : Int32) then some (.inl 2, s0) else (if a1 < (2 : Int32) then some (.inr (), s0) else some (.inl 2, s0)))
def rm_6_needSaveSlot : Room := { frames := 0, cells := 0, slots := 0, locals := 0 }
set_option maxHeartbeats 4000000 in
set_option maxRecDepth 100000 in
theorem kz6_needSaveSlot {κ : Kx} {τ : Nat → Int64} {a1 : Int32} {s0 sR : Mem}  (hf : f6_needSaveSlot a1 s0 = some (.inr (), sR)) : CtV κ yX6_needSaveSlot cX6_needSaveSlot 2 none rm_6_needSaveSlot (NV κ τ) (NV κ τ) [.ref (ad κ.1 0 0), .int a1] s0 sR := by
  refine ct_V (by decide +kernel) (Nat.le_of_ble_eq_true rfl) (fun φ hc hr => ?_)
  have hc : Cx κ φ RX6 cX6_needSaveSlot 2 rm_6_needSaveSlot := hc
  show G κ φ (QV κ φ (NV κ τ) sR rm_6_needSaveSlot.cells rm_6_needSaveSlot.slots) (NV κ τ) 0 0 s0 [(0, .ref (ad κ.1 0 0)), (1, .int a1)] 0 []
  unfold f6_needSaveSlot at hf
  refine g_iload_n (i := 1) hc 1 rfl rfl dX6_needSaveSlot_0 (pc2 := 1) rfl ?_
  refine g_if_lt hc 9 (by decide) dX6_needSaveSlot_1 (pc2 := 4) rfl (fun q => ?_) (fun q => ?_)
  · have hf := ite_t hf q
    cases hf
  · have hf := ite_f hf q
    refine g_iload_n (i := 1) hc 1 rfl rfl dX6_needSaveSlot_4 (pc2 := 5) rfl ?_
    refine g_iconst (v := (2 : Int32)) hc (by decide) dX6_needSaveSlot_5 (pc2 := 6) rfl ?_
    refine g_icmp_lt hc 20 (by decide) dX6_needSaveSlot_6 (pc2 := 9) rfl (fun q => ?_) (fun q => ?_)
    · have hf := ite_t hf q
      exact g_vret hc (ni_v hf) hr (by decide) (by decide) dX6_needSaveSlot_20
    · have hf := ite_f hf q
      cases hf
def f6_save (a1 : Int32) (s0 : Mem) : Option ((Nat ⊕ Int32) × Mem) :=
  bx (f6_needSaveSlot a1 s0) (fun e s1 => some (.inl e, s1)) fun _ s1 => gd (ib a1 2) (bv (f2_copyFrom (a1.toNatClampNeg + 17) 0 s1) fun s2 => gd (ib a1 2) (nm (ms s2 18 0 a1.toNatClampNeg (zb (1 : Int32))) fun s3 => some (.inr (s3 32 0 0), s3)))
def rm_6_save : Room := { frames := 3, cells := 0, slots := 0, locals := 66 }
set_option maxHeartbeats 4000000 in
set_option maxRecDepth 100000 in
theorem kz6_save {κ : Kx} {τ : Nat → Int64} {a1 : Int32} {s0 sR : Mem} {rR : Int32}  (hf : f6_save a1 s0 = some (.inr rR, sR)) : CtI κ yX6_save cX6_save 2 (some .int) rm_6_save (NV κ τ) (NV κ τ) [.ref (ad κ.1 0 0), .int a1] s0 sR rR := by
  refine ct_I (by decide +kernel) (Nat.le_of_ble_eq_true rfl) (fun φ hc hr => ?_)
  have hc : Cx κ φ RX6 cX6_save 2 rm_6_save := hc
  show G κ φ (QI κ φ (NV κ τ) sR rR rm_6_save.cells rm_6_save.slots) (NV κ τ) 0 0 s0 [(0, .ref (ad κ.1 0 0)), (1, .int a1)] 0 []
  unfold f6_save at hf
  refine g_aload_n (i := 0) hc 0 rfl rfl dX6_save_0 (pc2 := 1) rfl ?_
  refine g_iload_n (i := 1) hc 1 rfl rfl dX6_save_1 (pc2 := 2) rfl ?_
  obtain ⟨s1, hp, hf⟩ := bx_in2 hf
  refine g_vV hc (kz6_needSaveSlot hp) co_X6_267 (u0 (by decide)) rfl rfl (by decide) (by decide) (Nat.le_of_ble_eq_true rfl) dX6_save_2 (pc2 := 5) rfl ?_
  refine g_aload_n (i := 0) hc 0 rfl rfl dX6_save_5 (pc2 := 6) rfl ?_
  refine g_getr (q := ad κ.1 17 0) hc fo_X6_30 (u0 (by decide)) rfl dX6_save_6 (pc2 := 9) rfl ?_
  refine g_iload_n (i := 1) hc 1 rfl rfl dX6_save_9 (pc2 := 10) rfl ?_
  obtain ⟨hg1, hf⟩ := gd_some hf
  have ihg1 := ib_lt hg1
  refine g_aldr (q := ad κ.1 3 (a1.toNatClampNeg + 17)) hc 17 0 (by decide) (by decide) (u17 (by decide)) hg1 rfl dX6_save_10 (pc2 := 11) rfl ?_
  refine g_aload_n (i := 0) hc 0 rfl rfl dX6_save_11 (pc2 := 12) rfl ?_
  refine g_getr (q := ad κ.1 3 0) hc fo_X6_19 (u0 (by decide)) rfl dX6_save_12 (pc2 := 15) rfl ?_
  obtain ⟨s2, hp, hf⟩ := bv_some hf
  refine g_vV hc (k2_copyFrom (by omega) (by decide) hp) co_X6_74 (u3 (by omega)) rfl rfl (by decide) (by decide) (Nat.le_of_ble_eq_true rfl) dX6_save_15 (pc2 := 18) rfl ?_
  refine g_aload_n (i := 0) hc 0 rfl rfl dX6_save_18 (pc2 := 19) rfl ?_
  refine g_getr (q := ad κ.1 18 0) hc fo_X6_34 (u0 (by decide)) rfl dX6_save_19 (pc2 := 22) rfl ?_
  refine g_iload_n (i := 1) hc 1 rfl rfl dX6_save_22 (pc2 := 23) rfl ?_
  refine g_iconst (v := (1 : Int32)) hc (by decide) dX6_save_23 (pc2 := 24) rfl ?_
  obtain ⟨hg2, hf⟩ := gd_some hf
  obtain ⟨s3, hs3, hf⟩ := nm_ex hf
  refine g_astz hc 18 0 rfl (u18 (by decide)) hg2 dX6_save_24 (pc2 := 25) rfl ?_
  refine g_nms hs3 ?_
  refine g_aload_n (i := 0) hc 0 rfl rfl dX6_save_25 (pc2 := 26) rfl ?_
  refine g_getr (q := ad κ.1 3 0) hc fo_X6_19 (u0 (by decide)) rfl dX6_save_26 (pc2 := 29) rfl ?_
  refine g_geti hc fo_X6_90 (u3 (by decide)) dX6_save_29 (pc2 := 32) rfl ?_
  exact g_iret hc (ni_r hf) hr rfl (by decide) (by decide) dX6_save_32
def f6_restore (a1 : Int32) (s0 : Mem) : Option ((Nat ⊕ Int32) × Mem) :=
  bx (f6_needSaveSlot a1 s0) (fun e s1 => some (.inl e, s1)) fun _ s1 => gd (ib a1 2) ((if (s1 18 0 a1.toNatClampNeg) = (0 : Int32) then some (.inl 1, s1) else gd (ib a1 2) (bv (f2_copyFrom 0 (a1.toNatClampNeg + 17) s1) fun s2 => bv (f4_empty s2) fun s3 => some (.inr (s3 32 0 0), s3))))
def rm_6_restore : Room := { frames := 3, cells := 0, slots := 0, locals := 66 }
set_option maxHeartbeats 4000000 in
set_option maxRecDepth 100000 in
theorem kz6_restore {κ : Kx} {τ : Nat → Int64} {a1 : Int32} {s0 sR : Mem} {rR : Int32}  (hf : f6_restore a1 s0 = some (.inr rR, sR)) : CtI κ yX6_restore cX6_restore 2 (some .int) rm_6_restore (NV κ τ) (NV κ τ) [.ref (ad κ.1 0 0), .int a1] s0 sR rR := by
  refine ct_I (by decide +kernel) (Nat.le_of_ble_eq_true rfl) (fun φ hc hr => ?_)
  have hc : Cx κ φ RX6 cX6_restore 2 rm_6_restore := hc
  show G κ φ (QI κ φ (NV κ τ) sR rR rm_6_restore.cells rm_6_restore.slots) (NV κ τ) 0 0 s0 [(0, .ref (ad κ.1 0 0)), (1, .int a1)] 0 []
  unfold f6_restore at hf
  refine g_aload_n (i := 0) hc 0 rfl rfl dX6_restore_0 (pc2 := 1) rfl ?_
  refine g_iload_n (i := 1) hc 1 rfl rfl dX6_restore_1 (pc2 := 2) rfl ?_
  obtain ⟨s1, hp, hf⟩ := bx_in2 hf
  refine g_vV hc (kz6_needSaveSlot hp) co_X6_267 (u0 (by decide)) rfl rfl (by decide) (by decide) (Nat.le_of_ble_eq_true rfl) dX6_restore_2 (pc2 := 5) rfl ?_
  refine g_aload_n (i := 0) hc 0 rfl rfl dX6_restore_5 (pc2 := 6) rfl ?_
  refine g_getr (q := ad κ.1 18 0) hc fo_X6_34 (u0 (by decide)) rfl dX6_restore_6 (pc2 := 9) rfl ?_
  refine g_iload_n (i := 1) hc 1 rfl rfl dX6_restore_9 (pc2 := 10) rfl ?_
  obtain ⟨hg1, hf⟩ := gd_some hf
  refine g_aldz hc 18 0 rfl (u18 (by decide)) hg1 dX6_restore_10 (pc2 := 11) rfl ?_
  refine g_if_ne hc 25 (by decide) dX6_restore_11 (pc2 := 14) rfl (fun q => ?_) (fun q => ?_)
  · have hf := ite_f hf q
    refine g_aload_n (i := 0) hc 0 rfl rfl dX6_restore_25 (pc2 := 26) rfl ?_
    refine g_getr (q := ad κ.1 3 0) hc fo_X6_19 (u0 (by decide)) rfl dX6_restore_26 (pc2 := 29) rfl ?_
    refine g_aload_n (i := 0) hc 0 rfl rfl dX6_restore_29 (pc2 := 30) rfl ?_
    refine g_getr (q := ad κ.1 17 0) hc fo_X6_30 (u0 (by decide)) rfl dX6_restore_30 (pc2 := 33) rfl ?_
    refine g_iload_n (i := 1) hc 1 rfl rfl dX6_restore_33 (pc2 := 34) rfl ?_
    obtain ⟨hg2, hf⟩ := gd_some hf
    have ihg2 := ib_lt hg2
    refine g_aldr (q := ad κ.1 3 (a1.toNatClampNeg + 17)) hc 17 0 (by decide) (by decide) (u17 (by decide)) hg2 rfl dX6_restore_34 (pc2 := 35) rfl ?_
    obtain ⟨s2, hp, hf⟩ := bv_some hf
    refine g_vV hc (k2_copyFrom (by decide) (by omega) hp) co_X6_74 (u3 (by decide)) rfl rfl (by decide) (by decide) (Nat.le_of_ble_eq_true rfl) dX6_restore_35 (pc2 := 38) rfl ?_
    refine g_aload_n (i := 0) hc 0 rfl rfl dX6_restore_38 (pc2 := 39) rfl ?_
    refine g_getr (q := ad κ.1 15 0) hc fo_X6_26 (u0 (by decide)) rfl dX6_restore_39 (pc2 := 42) rfl ?_
    obtain ⟨s3, hp, hf⟩ := bv_some hf
    refine g_vV hc (k4_empty hp) co_X6_78 (u15 (by decide)) rfl rfl (by decide) (by decide) (Nat.le_of_ble_eq_true rfl) dX6_restore_42 (pc2 := 45) rfl ?_
    refine g_aload_n (i := 0) hc 0 rfl rfl dX6_restore_45 (pc2 := 46) rfl ?_
    refine g_getr (q := ad κ.1 3 0) hc fo_X6_19 (u0 (by decide)) rfl dX6_restore_46 (pc2 := 49) rfl ?_
    refine g_geti hc fo_X6_90 (u3 (by decide)) dX6_restore_49 (pc2 := 52) rfl ?_
    exact g_iret hc (ni_r hf) hr rfl (by decide) (by decide) dX6_restore_52
  · have hf := ite_t hf q
    cases hf
