def fL_sound_l456  (k2 : Int32 → Mem → Option (Int32 × Mem)) : Nat → Int32 → Int32 → Mem → Option (Int32 × Mem)
  | 0, _, _, _ => none
  | n1 + 1, m1, m2, s11 => bd (ni (f6_about (0 : Int32) s11)) fun r8 s12 => (if r8 ≤ m2 then k2 m1 s12 else (if m1 = (0 : Int32) then k2 m1 s12 else bd (ni (f6_order (m2 - (1 : Int32)) s12)) fun r9 s13 => bd (ni (f6_order m2 s13)) fun r10 s14 => bd (ni (f6_master r9 (1 : Int32) s14)) fun r11 s15 => bd (ni (f6_master r10 (1 : Int32) s15)) fun r12 s16 => nm (fun (y10 : Int32) (s17 : Mem) => nm (m2 + (1 : Int32)) fun x1 => fL_sound_l456 k2 n1 y10 x1 s17) fun j2 => nm (fun (s18 : Mem) => j2 (1 : Int32) s18) fun j3 => (if r12 < r11 then j3 s16 else bd (ni (f6_master r9 (1 : Int32) s16)) fun r13 s19 => bd (ni (f6_master r10 (1 : Int32) s19)) fun r14 s20 => nm (fun (s21 : Mem) => j2 (0 : Int32) s21) fun j4 => (if r13 = r14 then (if r10 ≤ r9 then j4 s20 else j3 s20) else j4 s20))))
def fL_sound_l195 (m11 : Int32) (k4 : Int32 → Int32 → Mem → Option (Int32 × Mem)) : Nat → Int32 → Int32 → Int32 → Mem → Option (Int32 × Mem)
  | 0, _, _, _, _ => none
  | n3 + 1, m12, m13, m14, s54 => bd (ni (f6_burst m11 m14 (0 : Int32) s54)) fun r38 s55 => (if r38 < (0 : Int32) then k4 m12 m13 s55 else bd (ni (f6_burst m11 m14 (1 : Int32) s55)) fun r39 s56 => nm (m13 + r39) fun x10 => nm (fun (y18 : Int32) (s57 : Mem) => nm (m14 + (1 : Int32)) fun x11 => fL_sound_l195 m11 k4 n3 y18 x10 x11 s57) fun j11 => nm (fun (s58 : Mem) => j11 (0 : Int32) s58) fun j12 => (if m12 = (0 : Int32) then j12 s56 else bd (ni (f6_master m11 (3 : Int32) s56)) fun r40 s59 => (if r40 ≤ m14 then j12 s59 else bd (ni (f6_burst m11 m14 (1 : Int32) s59)) fun r41 s60 => (if r41 ≤ (0 : Int32) then j12 s60 else bd (ni (f6_burst m11 m14 (1 : Int32) s60)) fun r42 s61 => (if (9 : Int32) ≤ r42 then j12 s61 else j11 (1 : Int32) s61)))))
def fL_sound_l147 (m11 : Int32) (k3 : Int32 → Int32 → Mem → Option (Int32 × Mem)) : Nat → Int32 → Int32 → Int32 → Mem → Option (Int32 × Mem)
  | 0, _, _, _, _ => none
  | n4 + 1, m15, m16, m17, s62 => bd (ni (f6_about (0 : Int32) s62)) fun r43 s63 => (if r43 ≤ m17 then k3 m15 m16 s63 else bd (ni (f6_owes m11 m17 s63)) fun r44 s64 => nm (m15 + r44) fun x12 => bd (ni (f6_owes m17 m11 s64)) fun r45 s65 => nm (m16 + r45) fun x13 => nm (m17 + (1 : Int32)) fun x14 => fL_sound_l147 m11 k3 n4 x12 x13 x14 s65)
def fL_sound_l24  (k1 : Int32 → Int32 → Int32 → Int32 → Int32 → Int32 → Int32 → Int32 → Mem → Option (Int32 × Mem)) : Nat → Int32 → Int32 → Int32 → Int32 → Int32 → Int32 → Int32 → Int32 → Int32 → Mem → Option (Int32 × Mem)
  | 0, _, _, _, _, _, _, _, _, _, _ => none
  | n2 + 1, m3, m4, m5, m6, m7, m8, m9, m10, m11, s22 => bd (ni (f6_about (0 : Int32) s22)) fun r15 s23 => (if r15 ≤ m11 then k1 m3 m4 m5 m6 m7 m8 m9 m10 s23 else (if m10 = (0 : Int32) then k1 m3 m4 m5 m6 m7 m8 m9 m10 s23 else bd (ni (f6_master m11 (7 : Int32) s23)) fun r16 s24 => bd (ni (f6_master m11 (8 : Int32) s24)) fun r17 s25 => bd (ni (f6_master m11 (9 : Int32) s25)) fun r18 s26 => nm (m3 + ((r16 + r17) + r18)) fun x2 => bd (ni (f6_master m11 (8 : Int32) s26)) fun r19 s27 => nm (m4 + r19) fun x3 => bd (ni (f6_master m11 (9 : Int32) s27)) fun r20 s28 => nm (m5 + r20) fun x4 => bd (ni (f6_master m11 (0 : Int32) s28)) fun r21 s29 => nm (m6 + r21) fun x5 => bd (ni (f6_master m11 (1 : Int32) s29)) fun r22 s30 => nm (m7 + r22) fun x6 => bd (ni (f6_master m11 (2 : Int32) s30)) fun r23 s31 => nm (m8 + r23) fun x7 => bd (ni (f6_master m11 (3 : Int32) s31)) fun r24 s32 => nm (m9 + r24) fun x8 => nm (fun (y11 : Int32) (y12 : Int32) (s33 : Mem) => nm (fun (y13 : Int32) (y14 : Int32) (s34 : Mem) => nm (fun (y15 : Int32) (s35 : Mem) => bd (ni (f6_about (9 : Int32) s35)) fun r25 s36 => nm (fun (y16 : Int32) (s37 : Mem) => nm (fun (y17 : Int32) (s38 : Mem) => nm (m11 + (1 : Int32)) fun x9 => fL_sound_l24 k1 n2 x2 x3 x4 x5 x6 x7 x8 y17 x9 s38) fun j7 => nm (fun (s39 : Mem) => j7 (0 : Int32) s39) fun j8 => (if y15 = (0 : Int32) then j8 s37 else nm (fun (s40 : Mem) => j7 (1 : Int32) s40) fun j9 => (if y16 = (0 : Int32) then j9 s37 else bd (ni (f6_master m11 (0 : Int32) s37)) fun r26 s41 => bd (ni (f6_master m11 (1 : Int32) s41)) fun r27 s42 => bd (ni (f6_master m11 (2 : Int32) s42)) fun r28 s43 => bd (ni (f6_master m11 (3 : Int32) s43)) fun r29 s44 => (if (((r26 + r27) + r28) + r29) = (0 : Int32) then bd (ni (f6_doneIn m11 s44)) fun r30 s45 => (if r30 = (0 : Int32) then bd (ni (f6_bestSlot m11 s45)) fun r31 s46 => (if r31 = (-9 : Int32) then j9 s46 else j8 s46) else j8 s45) else j8 s44)))) fun j6 => (if ((r25 >>> (m11 &&& 31)) &&& (1 : Int32)) = (1 : Int32) then j6 (1 : Int32) s36 else j6 (0 : Int32) s36)) fun j5 => nm (fun (s47 : Mem) => j5 (0 : Int32) s47) fun j10 => (if y13 = (0 : Int32) then j10 s34 else bd (ni (f6_master m11 (1 : Int32) s34)) fun r32 s48 => (if y11 = r32 then bd (ni (f6_master m11 (2 : Int32) s48)) fun r33 s49 => (if y12 = r33 then bd (ni (f6_owes m11 m11 s49)) fun r34 s50 => (if r34 = (0 : Int32) then bd (ni (f6_master m11 (4 : Int32) s50)) fun r35 s51 => (if y14 = r35 then bd (ni (f6_master m11 (5 : Int32) s51)) fun r36 s52 => bd (ni (f6_master m11 (6 : Int32) s52)) fun r37 s53 => (if r37 < r36 then j10 s53 else j5 (1 : Int32) s53) else j10 s51) else j10 s50) else j10 s49) else j10 s48))) fun k4 => fL_sound_l195 m11 k4 FU m10 (0 : Int32) (0 : Int32) s33) fun k3 => fL_sound_l147 m11 k3 FU (0 : Int32) (0 : Int32) (0 : Int32) s32))
def fL_sound  (s0 : Mem) : Option (Int32 × Mem) :=
  nm (fun (y1 : Int32) (y2 : Int32) (y3 : Int32) (y4 : Int32) (y5 : Int32) (y6 : Int32) (y7 : Int32) (y8 : Int32) (s1 : Mem) => nm (fun (y9 : Int32) (s2 : Mem) => nm (fun (s3 : Mem) => some ((0 : Int32), s3)) fun j1 => (if y9 = (0 : Int32) then j1 s2 else bd (ni (f6_about (3 : Int32) s2)) fun r1 s4 => bd (ni (f6_about (2 : Int32) s4)) fun r2 s5 => (if (y1 + r1) = r2 then bd (ni (f6_about (1 : Int32) s5)) fun r3 s6 => (if y4 = r3 then bd (ni (f6_about (5 : Int32) s6)) fun r4 s7 => (if y5 = r4 then (if y6 = y5 then bd (ni (f6_about (6 : Int32) s7)) fun r5 s8 => (if y7 = r5 then (if (y3 - y2) < y5 then j1 s8 else bd (ni (f6_about (0 : Int32) s8)) fun r6 s9 => bd (ni (f6_order r6 s9)) fun r7 s10 => (if r7 = (-9 : Int32) then some ((1 : Int32), s10) else j1 s10)) else j1 s8) else j1 s7) else j1 s7) else j1 s6) else j1 s5))) fun k2 => fL_sound_l456 k2 FU y8 (1 : Int32) s1) fun k1 => fL_sound_l24 k1 FU (0 : Int32) (0 : Int32) (0 : Int32) (0 : Int32) (0 : Int32) (0 : Int32) (0 : Int32) (1 : Int32) (0 : Int32) s0
def rm_L_sound : Room := { frames := 6, cells := 0, slots := 0, locals := 142 }
set_option maxHeartbeats 4000000 in
set_option maxRecDepth 100000 in
theorem kL_sound {κ : Kx} {τ : Nat → Int64}  {s0 sR : Mem} {rR : Int32}  (hf : fL_sound s0 = some (rR, sR)) : CtI κ yL_sound cL_sound 14 (some .boolean) rm_L_sound (NV κ τ) (NV κ τ) [.ref (ad κ.1 0 0)] s0 sR rR := by
  refine ct_I (by decide +kernel) (Nat.le_of_ble_eq_true rfl) (fun φ hc hr => ?_)
  have hc : Cx κ φ RL cL_sound 14 rm_L_sound := hc
  show G κ φ (QI κ φ (NV κ τ) sR rR rm_L_sound.cells rm_L_sound.slots) (NV κ τ) 0 0 s0 [(0, .ref (ad κ.1 0 0))] 0 []
  unfold fL_sound at hf
  refine g_iconst (v := (0 : Int32)) hc (by decide) dL_sound_0 (pc2 := 1) rfl ?_
  refine g_istore_n (i := 1) (L1 := [(1, .int (0 : Int32)), (0, .ref (ad κ.1 0 0))]) hc rfl (by decide) rfl dL_sound_1 (pc2 := 2) rfl ?_
  refine g_iconst (v := (0 : Int32)) hc (by decide) dL_sound_2 (pc2 := 3) rfl ?_
  refine g_istore_n (i := 2) (L1 := [(2, .int (0 : Int32)), (1, .int (0 : Int32)), (0, .ref (ad κ.1 0 0))]) hc rfl (by decide) rfl dL_sound_3 (pc2 := 4) rfl ?_
  refine g_iconst (v := (0 : Int32)) hc (by decide) dL_sound_4 (pc2 := 5) rfl ?_
  refine g_istore_n (i := 3) (L1 := [(3, .int (0 : Int32)), (2, .int (0 : Int32)), (1, .int (0 : Int32)), (0, .ref (ad κ.1 0 0))]) hc rfl (by decide) rfl dL_sound_5 (pc2 := 6) rfl ?_
  refine g_iconst (v := (0 : Int32)) hc (by decide) dL_sound_6 (pc2 := 7) rfl ?_
  refine g_istore (L1 := [(4, .int (0 : Int32)), (3, .int (0 : Int32)), (2, .int (0 : Int32)), (1, .int (0 : Int32)), (0, .ref (ad κ.1 0 0))]) hc (by decide) rfl dL_sound_7 (pc2 := 9) rfl ?_
  refine g_iconst (v := (0 : Int32)) hc (by decide) dL_sound_9 (pc2 := 10) rfl ?_
  refine g_istore (L1 := [(5, .int (0 : Int32)), (4, .int (0 : Int32)), (3, .int (0 : Int32)), (2, .int (0 : Int32)), (1, .int (0 : Int32)), (0, .ref (ad κ.1 0 0))]) hc (by decide) rfl dL_sound_10 (pc2 := 12) rfl ?_
  refine g_iconst (v := (0 : Int32)) hc (by decide) dL_sound_12 (pc2 := 13) rfl ?_
  refine g_istore (L1 := [(6, .int (0 : Int32)), (5, .int (0 : Int32)), (4, .int (0 : Int32)), (3, .int (0 : Int32)), (2, .int (0 : Int32)), (1, .int (0 : Int32)), (0, .ref (ad κ.1 0 0))]) hc (by decide) rfl dL_sound_13 (pc2 := 15) rfl ?_
  refine g_iconst (v := (0 : Int32)) hc (by decide) dL_sound_15 (pc2 := 16) rfl ?_
  refine g_istore (L1 := [(7, .int (0 : Int32)), (6, .int (0 : Int32)), (5, .int (0 : Int32)), (4, .int (0 : Int32)), (3, .int (0 : Int32)), (2, .int (0 : Int32)), (1, .int (0 : Int32)), (0, .ref (ad κ.1 0 0))]) hc (by decide) rfl dL_sound_16 (pc2 := 18) rfl ?_
  refine g_iconst (v := (1 : Int32)) hc (by decide) dL_sound_18 (pc2 := 19) rfl ?_
  refine g_istore (L1 := [(8, .int (1 : Int32)), (7, .int (0 : Int32)), (6, .int (0 : Int32)), (5, .int (0 : Int32)), (4, .int (0 : Int32)), (3, .int (0 : Int32)), (2, .int (0 : Int32)), (1, .int (0 : Int32)), (0, .ref (ad κ.1 0 0))]) hc (by decide) rfl dL_sound_19 (pc2 := 21) rfl ?_
  refine g_iconst (v := (0 : Int32)) hc (by decide) dL_sound_21 (pc2 := 22) rfl ?_
  refine g_istore (L1 := [(9, .int (0 : Int32)), (8, .int (1 : Int32)), (7, .int (0 : Int32)), (6, .int (0 : Int32)), (5, .int (0 : Int32)), (4, .int (0 : Int32)), (3, .int (0 : Int32)), (2, .int (0 : Int32)), (1, .int (0 : Int32)), (0, .ref (ad κ.1 0 0))]) hc (by decide) rfl dL_sound_22 (pc2 := 24) rfl ?_
  obtain ⟨k1, hk1, hf⟩ := nm_ex hf
  have Hk1 : ∀ (y1 : Int32) (y2 : Int32) (y3 : Int32) (y4 : Int32) (y5 : Int32) (y6 : Int32) (y7 : Int32) (y8 : Int32) (s1 : Mem), k1 y1 y2 y3 y4 y5 y6 y7 y8 s1 = some (rR, sR) → G κ φ (QI κ φ (NV κ τ) sR rR rm_L_sound.cells rm_L_sound.slots) (NV κ τ) 0 0 s1 [(0, .ref (ad κ.1 0 0)), (1, .int y1), (2, .int y2), (3, .int y3), (4, .int y4), (5, .int y5), (6, .int y6), (7, .int y7), (8, .int y8)] 453 [] := by
    intro y1 y2 y3 y4 y5 y6 y7 y8 s1 hf
    rw [hk1] at hf
    refine g_iconst (v := (1 : Int32)) hc (by decide) dL_sound_453 (pc2 := 454) rfl ?_
    refine g_istore (L1 := [(9, .int (1 : Int32)), (0, .ref (ad κ.1 0 0)), (1, .int y1), (2, .int y2), (3, .int y3), (4, .int y4), (5, .int y5), (6, .int y6), (7, .int y7), (8, .int y8)]) hc (by decide) rfl dL_sound_454 (pc2 := 456) rfl ?_
    obtain ⟨k2, hk2, hf⟩ := nm_ex hf
    have Hk2 : ∀ (y9 : Int32) (s2 : Mem), k2 y9 s2 = some (rR, sR) → G κ φ (QI κ φ (NV κ τ) sR rR rm_L_sound.cells rm_L_sound.slots) (NV κ τ) 0 0 s2 [(0, .ref (ad κ.1 0 0)), (1, .int y1), (2, .int y2), (3, .int y3), (4, .int y4), (5, .int y5), (6, .int y6), (7, .int y7), (8, .int y9)] 543 [] := by
      intro y9 s2 hf
      rw [hk2] at hf
      refine g_iload hc 8 rfl dL_sound_543 (pc2 := 545) rfl ?_
      obtain ⟨j1, hj1, hf⟩ := nm_ex hf
      have Hj1 : ∀ (s3 : Mem), j1 s3 = some (rR, sR) → G κ φ (QI κ φ (NV κ τ) sR rR rm_L_sound.cells rm_L_sound.slots) (NV κ τ) 0 0 s3 [] 627 [] := by
        intro s3 hf
        rw [hj1] at hf
        refine g_iconst (v := (0 : Int32)) hc (by decide) dL_sound_627 (pc2 := 628) rfl ?_
        exact g_iret hc hf hr rfl (by decide) (by decide) dL_sound_628
      refine g_if_eq hc 627 (by decide) dL_sound_545 (pc2 := 548) rfl (fun q => ?_) (fun q => ?_)
      · have hf := ite_t hf q
        refine g_sub [] rfl ?_
        exact Hj1 _ hf
      · have hf := ite_f hf q
        refine g_iload_n (i := 1) hc 1 rfl rfl dL_sound_548 (pc2 := 549) rfl ?_
        refine g_aload_n (i := 0) hc 0 rfl rfl dL_sound_549 (pc2 := 550) rfl ?_
        refine g_iconst (v := (3 : Int32)) hc (by decide) dL_sound_550 (pc2 := 551) rfl ?_
        obtain ⟨r1, s4, hp, hf⟩ := bd_some hf
        refine g_vI hc (kz6_about (ni_some hp)) co_L_9 (u0 (by decide)) rfl rfl (by decide) (by decide) (Nat.le_of_ble_eq_true rfl) dL_sound_551 (pc2 := 554) rfl ?_
        refine g_iadd hc dL_sound_554 (pc2 := 555) rfl ?_
        refine g_aload_n (i := 0) hc 0 rfl rfl dL_sound_555 (pc2 := 556) rfl ?_
        refine g_iconst (v := (2 : Int32)) hc (by decide) dL_sound_556 (pc2 := 557) rfl ?_
        obtain ⟨r2, s5, hp, hf⟩ := bd_some hf
        refine g_vI hc (kz6_about (ni_some hp)) co_L_9 (u0 (by decide)) rfl rfl (by decide) (by decide) (Nat.le_of_ble_eq_true rfl) dL_sound_557 (pc2 := 560) rfl ?_
        refine g_icmp_ne hc 627 (by decide) dL_sound_560 (pc2 := 563) rfl (fun q => ?_) (fun q => ?_)
        · have hf := ite_f hf q
          refine g_sub [] rfl ?_
          exact Hj1 _ hf
        · have hf := ite_t hf q
          refine g_iload hc 4 rfl dL_sound_563 (pc2 := 565) rfl ?_
          refine g_aload_n (i := 0) hc 0 rfl rfl dL_sound_565 (pc2 := 566) rfl ?_
          refine g_iconst (v := (1 : Int32)) hc (by decide) dL_sound_566 (pc2 := 567) rfl ?_
          obtain ⟨r3, s6, hp, hf⟩ := bd_some hf
          refine g_vI hc (kz6_about (ni_some hp)) co_L_9 (u0 (by decide)) rfl rfl (by decide) (by decide) (Nat.le_of_ble_eq_true rfl) dL_sound_567 (pc2 := 570) rfl ?_
          refine g_icmp_ne hc 627 (by decide) dL_sound_570 (pc2 := 573) rfl (fun q => ?_) (fun q => ?_)
          · have hf := ite_f hf q
            refine g_sub [] rfl ?_
            exact Hj1 _ hf
          · have hf := ite_t hf q
            refine g_iload hc 5 rfl dL_sound_573 (pc2 := 575) rfl ?_
            refine g_aload_n (i := 0) hc 0 rfl rfl dL_sound_575 (pc2 := 576) rfl ?_
            refine g_iconst (v := (5 : Int32)) hc (by decide) dL_sound_576 (pc2 := 577) rfl ?_
            obtain ⟨r4, s7, hp, hf⟩ := bd_some hf
            refine g_vI hc (kz6_about (ni_some hp)) co_L_9 (u0 (by decide)) rfl rfl (by decide) (by decide) (Nat.le_of_ble_eq_true rfl) dL_sound_577 (pc2 := 580) rfl ?_
            refine g_icmp_ne hc 627 (by decide) dL_sound_580 (pc2 := 583) rfl (fun q => ?_) (fun q => ?_)
            · have hf := ite_f hf q
              refine g_sub [] rfl ?_
              exact Hj1 _ hf
            · have hf := ite_t hf q
              refine g_iload hc 6 rfl dL_sound_583 (pc2 := 585) rfl ?_
              refine g_iload hc 5 rfl dL_sound_585 (pc2 := 587) rfl ?_
              refine g_icmp_ne hc 627 (by decide) dL_sound_587 (pc2 := 590) rfl (fun q => ?_) (fun q => ?_)
              · have hf := ite_f hf q
                refine g_sub [] rfl ?_
                exact Hj1 _ hf
              · have hf := ite_t hf q
                refine g_iload hc 7 rfl dL_sound_590 (pc2 := 592) rfl ?_
                refine g_aload_n (i := 0) hc 0 rfl rfl dL_sound_592 (pc2 := 593) rfl ?_
                refine g_bipush (v := (6 : Int32)) hc (by decide) dL_sound_593 (pc2 := 595) rfl ?_
                obtain ⟨r5, s8, hp, hf⟩ := bd_some hf
                refine g_vI hc (kz6_about (ni_some hp)) co_L_9 (u0 (by decide)) rfl rfl (by decide) (by decide) (Nat.le_of_ble_eq_true rfl) dL_sound_595 (pc2 := 598) rfl ?_
                refine g_icmp_ne hc 627 (by decide) dL_sound_598 (pc2 := 601) rfl (fun q => ?_) (fun q => ?_)
                · have hf := ite_f hf q
                  refine g_sub [] rfl ?_
                  exact Hj1 _ hf
                · have hf := ite_t hf q
                  refine g_iload_n (i := 3) hc 3 rfl rfl dL_sound_601 (pc2 := 602) rfl ?_
                  refine g_iload_n (i := 2) hc 2 rfl rfl dL_sound_602 (pc2 := 603) rfl ?_
                  refine g_isub hc dL_sound_603 (pc2 := 604) rfl ?_
                  refine g_iload hc 5 rfl dL_sound_604 (pc2 := 606) rfl ?_
                  refine g_icmp_lt hc 627 (by decide) dL_sound_606 (pc2 := 609) rfl (fun q => ?_) (fun q => ?_)
                  · have hf := ite_t hf q
                    refine g_sub [] rfl ?_
                    exact Hj1 _ hf
                  · have hf := ite_f hf q
                    refine g_aload_n (i := 0) hc 0 rfl rfl dL_sound_609 (pc2 := 610) rfl ?_
                    refine g_aload_n (i := 0) hc 0 rfl rfl dL_sound_610 (pc2 := 611) rfl ?_
                    refine g_iconst (v := (0 : Int32)) hc (by decide) dL_sound_611 (pc2 := 612) rfl ?_
                    obtain ⟨r6, s9, hp, hf⟩ := bd_some hf
                    refine g_vI hc (kz6_about (ni_some hp)) co_L_9 (u0 (by decide)) rfl rfl (by decide) (by decide) (Nat.le_of_ble_eq_true rfl) dL_sound_612 (pc2 := 615) rfl ?_
                    obtain ⟨r7, s10, hp, hf⟩ := bd_some hf
                    refine g_vI hc (kz6_order (ni_some hp)) co_L_32 (u0 (by decide)) rfl rfl (by decide) (by decide) (Nat.le_of_ble_eq_true rfl) dL_sound_615 (pc2 := 618) rfl ?_
                    refine g_bipush (v := (-9 : Int32)) hc (by decide) dL_sound_618 (pc2 := 620) rfl ?_
                    refine g_icmp_ne hc 627 (by decide) dL_sound_620 (pc2 := 623) rfl (fun q => ?_) (fun q => ?_)
                    · have hf := ite_f hf q
                      refine g_sub [] rfl ?_
                      exact Hj1 _ hf
                    · have hf := ite_t hf q
                      refine g_iconst (v := (1 : Int32)) hc (by decide) dL_sound_623 (pc2 := 624) rfl ?_
                      refine g_goto hc 628 (by decide) dL_sound_624 ?_
                      exact g_iret hc hf hr rfl (by decide) (by decide) dL_sound_628
    have LP_n1 : ∀ (n1 : Nat) (m1 : Int32) (m2 : Int32) (s11 : Mem), fL_sound_l456 k2 n1 m1 m2 s11 = some (rR, sR) → G κ φ (QI κ φ (NV κ τ) sR rR rm_L_sound.cells rm_L_sound.slots) (NV κ τ) 0 0 s11 [(0, .ref (ad κ.1 0 0)), (1, .int y1), (2, .int y2), (3, .int y3), (4, .int y4), (5, .int y5), (6, .int y6), (7, .int y7), (8, .int m1), (9, .int m2)] 456 [] := by
      intro n1
      induction n1 with
      | zero => intro m1 m2 s11 hf; rw [fL_sound_l456] at hf; cases hf
      | succ n1 ih_n1 =>
        intro m1 m2 s11 hf
        rw [fL_sound_l456] at hf
        refine g_iload hc 9 rfl dL_sound_456 (pc2 := 458) rfl ?_
        refine g_aload_n (i := 0) hc 0 rfl rfl dL_sound_458 (pc2 := 459) rfl ?_
        refine g_iconst (v := (0 : Int32)) hc (by decide) dL_sound_459 (pc2 := 460) rfl ?_
        obtain ⟨r8, s12, hp, hf⟩ := bd_some hf
        refine g_vI hc (kz6_about (ni_some hp)) co_L_9 (u0 (by decide)) rfl rfl (by decide) (by decide) (Nat.le_of_ble_eq_true rfl) dL_sound_460 (pc2 := 463) rfl ?_
        refine g_icmp_ge hc 543 (by decide) dL_sound_463 (pc2 := 466) rfl (fun q => ?_) (fun q => ?_)
        · have hf := ite_t hf q
          refine g_sub [0, 1, 2, 3, 4, 5, 6, 7, 8] rfl ?_
          exact Hk2 _ _ hf
        · have hf := ite_f hf q
          refine g_iload hc 8 rfl dL_sound_466 (pc2 := 468) rfl ?_
          refine g_if_eq hc 543 (by decide) dL_sound_468 (pc2 := 471) rfl (fun q => ?_) (fun q => ?_)
          · have hf := ite_t hf q
            refine g_sub [0, 1, 2, 3, 4, 5, 6, 7, 8] rfl ?_
            exact Hk2 _ _ hf
          · have hf := ite_f hf q
            refine g_aload_n (i := 0) hc 0 rfl rfl dL_sound_471 (pc2 := 472) rfl ?_
            refine g_iload hc 9 rfl dL_sound_472 (pc2 := 474) rfl ?_
            refine g_iconst (v := (1 : Int32)) hc (by decide) dL_sound_474 (pc2 := 475) rfl ?_
            refine g_isub hc dL_sound_475 (pc2 := 476) rfl ?_
            obtain ⟨r9, s13, hp, hf⟩ := bd_some hf
            refine g_vI hc (kz6_order (ni_some hp)) co_L_32 (u0 (by decide)) rfl rfl (by decide) (by decide) (Nat.le_of_ble_eq_true rfl) dL_sound_476 (pc2 := 479) rfl ?_
            refine g_istore (L1 := [(10, .int r9), (0, .ref (ad κ.1 0 0)), (1, .int y1), (2, .int y2), (3, .int y3), (4, .int y4), (5, .int y5), (6, .int y6), (7, .int y7), (8, .int m1), (9, .int m2)]) hc (by decide) rfl dL_sound_479 (pc2 := 481) rfl ?_
            refine g_aload_n (i := 0) hc 1 rfl rfl dL_sound_481 (pc2 := 482) rfl ?_
            refine g_iload hc 10 rfl dL_sound_482 (pc2 := 484) rfl ?_
            obtain ⟨r10, s14, hp, hf⟩ := bd_some hf
            refine g_vI hc (kz6_order (ni_some hp)) co_L_32 (u0 (by decide)) rfl rfl (by decide) (by decide) (Nat.le_of_ble_eq_true rfl) dL_sound_484 (pc2 := 487) rfl ?_
            refine g_istore (L1 := [(11, .int r10), (10, .int r9), (0, .ref (ad κ.1 0 0)), (1, .int y1), (2, .int y2), (3, .int y3), (4, .int y4), (5, .int y5), (6, .int y6), (7, .int y7), (8, .int m1), (9, .int m2)]) hc (by decide) rfl dL_sound_487 (pc2 := 489) rfl ?_
            refine g_aload_n (i := 0) hc 2 rfl rfl dL_sound_489 (pc2 := 490) rfl ?_
            refine g_iload hc 1 rfl dL_sound_490 (pc2 := 492) rfl ?_
            refine g_iconst (v := (1 : Int32)) hc (by decide) dL_sound_492 (pc2 := 493) rfl ?_
            obtain ⟨r11, s15, hp, hf⟩ := bd_some hf
            refine g_vI hc (kz6_master (ni_some hp)) co_L_15 (u0 (by decide)) rfl rfl (by decide) (by decide) (Nat.le_of_ble_eq_true rfl) dL_sound_493 (pc2 := 496) rfl ?_
            refine g_aload_n (i := 0) hc 2 rfl rfl dL_sound_496 (pc2 := 497) rfl ?_
            refine g_iload hc 0 rfl dL_sound_497 (pc2 := 499) rfl ?_
            refine g_iconst (v := (1 : Int32)) hc (by decide) dL_sound_499 (pc2 := 500) rfl ?_
            obtain ⟨r12, s16, hp, hf⟩ := bd_some hf
            refine g_vI hc (kz6_master (ni_some hp)) co_L_15 (u0 (by decide)) rfl rfl (by decide) (by decide) (Nat.le_of_ble_eq_true rfl) dL_sound_500 (pc2 := 503) rfl ?_
            obtain ⟨j2, hj2, hf⟩ := nm_ex hf
            have Hj2 : ∀ (y10 : Int32) (s17 : Mem), j2 y10 s17 = some (rR, sR) → G κ φ (QI κ φ (NV κ τ) sR rR rm_L_sound.cells rm_L_sound.slots) (NV κ τ) 0 0 s17 [(0, .ref (ad κ.1 0 0)), (1, .int y1), (2, .int y2), (3, .int y3), (4, .int y4), (5, .int y5), (6, .int y6), (7, .int y7), (9, .int m2)] 535 [.int y10] := by
              intro y10 s17 hf
              rw [hj2] at hf
              refine g_istore (L1 := [(8, .int y10), (0, .ref (ad κ.1 0 0)), (1, .int y1), (2, .int y2), (3, .int y3), (4, .int y4), (5, .int y5), (6, .int y6), (7, .int y7), (9, .int m2)]) hc (by decide) rfl dL_sound_535 (pc2 := 537) rfl ?_
              obtain ⟨x1, hx1, hf⟩ := nm_ex hf
              refine g_iinc (v := x1) (L1 := [(9, .int x1), (8, .int y10), (0, .ref (ad κ.1 0 0)), (1, .int y1), (2, .int y2), (3, .int y3), (4, .int y4), (5, .int y5), (6, .int y6), (7, .int y7)]) hc 9 rfl (by rw [hx1]; rfl) (by decide) rfl dL_sound_537 (pc2 := 540) rfl ?_
              refine g_goto hc 456 (by decide) dL_sound_540 ?_
              refine g_sub [2, 3, 4, 5, 6, 7, 8, 9, 1, 0] rfl ?_
              exact ih_n1 _ _ _ hf
            obtain ⟨j3, hj3, hf⟩ := nm_ex hf
            have Hj3 : ∀ (s18 : Mem), j3 s18 = some (rR, sR) → G κ φ (QI κ φ (NV κ τ) sR rR rm_L_sound.cells rm_L_sound.slots) (NV κ τ) 0 0 s18 [(0, .ref (ad κ.1 0 0)), (1, .int y1), (2, .int y2), (3, .int y3), (4, .int y4), (5, .int y5), (6, .int y6), (7, .int y7), (9, .int m2)] 530 [] := by
              intro s18 hf
              rw [hj3] at hf
              refine g_iconst (v := (1 : Int32)) hc (by decide) dL_sound_530 (pc2 := 531) rfl ?_
              refine g_goto hc 535 (by decide) dL_sound_531 ?_
              exact Hj2 _ _ hf
            refine g_icmp_gt hc 530 (by decide) dL_sound_503 (pc2 := 506) rfl (fun q => ?_) (fun q => ?_)
            · have hf := ite_t hf q
              refine g_sub [2, 3, 4, 5, 6, 7, 8, 9, 11] rfl ?_
              exact Hj3 _ hf
            · have hf := ite_f hf q
              refine g_aload_n (i := 0) hc 2 rfl rfl dL_sound_506 (pc2 := 507) rfl ?_
              refine g_iload hc 1 rfl dL_sound_507 (pc2 := 509) rfl ?_
              refine g_iconst (v := (1 : Int32)) hc (by decide) dL_sound_509 (pc2 := 510) rfl ?_
              obtain ⟨r13, s19, hp, hf⟩ := bd_some hf
              refine g_vI hc (kz6_master (ni_some hp)) co_L_15 (u0 (by decide)) rfl rfl (by decide) (by decide) (Nat.le_of_ble_eq_true rfl) dL_sound_510 (pc2 := 513) rfl ?_
              refine g_aload_n (i := 0) hc 2 rfl rfl dL_sound_513 (pc2 := 514) rfl ?_
              refine g_iload hc 0 rfl dL_sound_514 (pc2 := 516) rfl ?_
              refine g_iconst (v := (1 : Int32)) hc (by decide) dL_sound_516 (pc2 := 517) rfl ?_
              obtain ⟨r14, s20, hp, hf⟩ := bd_some hf
              refine g_vI hc (kz6_master (ni_some hp)) co_L_15 (u0 (by decide)) rfl rfl (by decide) (by decide) (Nat.le_of_ble_eq_true rfl) dL_sound_517 (pc2 := 520) rfl ?_
              obtain ⟨j4, hj4, hf⟩ := nm_ex hf
              have Hj4 : ∀ (s21 : Mem), j4 s21 = some (rR, sR) → G κ φ (QI κ φ (NV κ τ) sR rR rm_L_sound.cells rm_L_sound.slots) (NV κ τ) 0 0 s21 [(0, .ref (ad κ.1 0 0)), (1, .int y1), (2, .int y2), (3, .int y3), (4, .int y4), (5, .int y5), (6, .int y6), (7, .int y7), (9, .int m2)] 534 [] := by
                intro s21 hf
                rw [hj4] at hf
                refine g_iconst (v := (0 : Int32)) hc (by decide) dL_sound_534 (pc2 := 535) rfl ?_
                exact Hj2 _ _ hf
              refine g_icmp_ne hc 534 (by decide) dL_sound_520 (pc2 := 523) rfl (fun q => ?_) (fun q => ?_)
              · have hf := ite_f hf q
                refine g_sub [2, 3, 4, 5, 6, 7, 8, 9, 11] rfl ?_
                exact Hj4 _ hf
              · have hf := ite_t hf q
                refine g_iload hc 1 rfl dL_sound_523 (pc2 := 525) rfl ?_
                refine g_iload hc 0 rfl dL_sound_525 (pc2 := 527) rfl ?_
                refine g_icmp_ge hc 534 (by decide) dL_sound_527 (pc2 := 530) rfl (fun q => ?_) (fun q => ?_)
                · have hf := ite_t hf q
                  refine g_sub [2, 3, 4, 5, 6, 7, 8, 9, 11] rfl ?_
                  exact Hj4 _ hf
                · have hf := ite_f hf q
                  refine g_sub [2, 3, 4, 5, 6, 7, 8, 9, 11] rfl ?_
                  exact Hj3 _ hf
    refine g_sub [1, 2, 3, 4, 5, 6, 7, 8, 9, 0] rfl ?_
    exact LP_n1 _ _ _ _ hf
  have LP_n2 : ∀ (n2 : Nat) (m3 : Int32) (m4 : Int32) (m5 : Int32) (m6 : Int32) (m7 : Int32) (m8 : Int32) (m9 : Int32) (m10 : Int32) (m11 : Int32) (s22 : Mem), fL_sound_l24 k1 n2 m3 m4 m5 m6 m7 m8 m9 m10 m11 s22 = some (rR, sR) → G κ φ (QI κ φ (NV κ τ) sR rR rm_L_sound.cells rm_L_sound.slots) (NV κ τ) 0 0 s22 [(0, .ref (ad κ.1 0 0)), (1, .int m3), (2, .int m4), (3, .int m5), (4, .int m6), (5, .int m7), (6, .int m8), (7, .int m9), (8, .int m10), (9, .int m11)] 24 [] := by
    intro n2
    induction n2 with
    | zero => intro m3 m4 m5 m6 m7 m8 m9 m10 m11 s22 hf; rw [fL_sound_l24] at hf; cases hf
    | succ n2 ih_n2 =>
      intro m3 m4 m5 m6 m7 m8 m9 m10 m11 s22 hf
      rw [fL_sound_l24] at hf
      refine g_iload hc 9 rfl dL_sound_24 (pc2 := 26) rfl ?_
      refine g_aload_n (i := 0) hc 0 rfl rfl dL_sound_26 (pc2 := 27) rfl ?_
      refine g_iconst (v := (0 : Int32)) hc (by decide) dL_sound_27 (pc2 := 28) rfl ?_
      obtain ⟨r15, s23, hp, hf⟩ := bd_some hf
      refine g_vI hc (kz6_about (ni_some hp)) co_L_9 (u0 (by decide)) rfl rfl (by decide) (by decide) (Nat.le_of_ble_eq_true rfl) dL_sound_28 (pc2 := 31) rfl ?_
      refine g_icmp_ge hc 453 (by decide) dL_sound_31 (pc2 := 34) rfl (fun q => ?_) (fun q => ?_)
      · have hf := ite_t hf q
        refine g_sub [0, 1, 2, 3, 4, 5, 6, 7, 8] rfl ?_
        exact Hk1 _ _ _ _ _ _ _ _ _ hf
      · have hf := ite_f hf q
        refine g_iload hc 8 rfl dL_sound_34 (pc2 := 36) rfl ?_
        refine g_if_eq hc 453 (by decide) dL_sound_36 (pc2 := 39) rfl (fun q => ?_) (fun q => ?_)
        · have hf := ite_t hf q
          refine g_sub [0, 1, 2, 3, 4, 5, 6, 7, 8] rfl ?_
          exact Hk1 _ _ _ _ _ _ _ _ _ hf
        · have hf := ite_f hf q
          refine g_iload_n (i := 1) hc 1 rfl rfl dL_sound_39 (pc2 := 40) rfl ?_
          refine g_aload_n (i := 0) hc 0 rfl rfl dL_sound_40 (pc2 := 41) rfl ?_
          refine g_iload hc 9 rfl dL_sound_41 (pc2 := 43) rfl ?_
          refine g_bipush (v := (7 : Int32)) hc (by decide) dL_sound_43 (pc2 := 45) rfl ?_
          obtain ⟨r16, s24, hp, hf⟩ := bd_some hf
          refine g_vI hc (kz6_master (ni_some hp)) co_L_15 (u0 (by decide)) rfl rfl (by decide) (by decide) (Nat.le_of_ble_eq_true rfl) dL_sound_45 (pc2 := 48) rfl ?_
          refine g_aload_n (i := 0) hc 0 rfl rfl dL_sound_48 (pc2 := 49) rfl ?_
          refine g_iload hc 9 rfl dL_sound_49 (pc2 := 51) rfl ?_
          refine g_bipush (v := (8 : Int32)) hc (by decide) dL_sound_51 (pc2 := 53) rfl ?_
          obtain ⟨r17, s25, hp, hf⟩ := bd_some hf
          refine g_vI hc (kz6_master (ni_some hp)) co_L_15 (u0 (by decide)) rfl rfl (by decide) (by decide) (Nat.le_of_ble_eq_true rfl) dL_sound_53 (pc2 := 56) rfl ?_
          refine g_iadd hc dL_sound_56 (pc2 := 57) rfl ?_
          refine g_aload_n (i := 0) hc 0 rfl rfl dL_sound_57 (pc2 := 58) rfl ?_
          refine g_iload hc 9 rfl dL_sound_58 (pc2 := 60) rfl ?_
          refine g_bipush (v := (9 : Int32)) hc (by decide) dL_sound_60 (pc2 := 62) rfl ?_
          obtain ⟨r18, s26, hp, hf⟩ := bd_some hf
          refine g_vI hc (kz6_master (ni_some hp)) co_L_15 (u0 (by decide)) rfl rfl (by decide) (by decide) (Nat.le_of_ble_eq_true rfl) dL_sound_62 (pc2 := 65) rfl ?_
          refine g_iadd hc dL_sound_65 (pc2 := 66) rfl ?_
          refine g_iadd hc dL_sound_66 (pc2 := 67) rfl ?_
          obtain ⟨x2, hx2, hf⟩ := nm_ex hf
          refine g_nmi hx2 ?_
          refine g_istore_n (i := 1) (L1 := [(1, .int x2), (0, .ref (ad κ.1 0 0)), (2, .int m4), (3, .int m5), (4, .int m6), (5, .int m7), (6, .int m8), (7, .int m9), (8, .int m10), (9, .int m11)]) hc rfl (by decide) rfl dL_sound_67 (pc2 := 68) rfl ?_
          refine g_iload_n (i := 2) hc 2 rfl rfl dL_sound_68 (pc2 := 69) rfl ?_
          refine g_aload_n (i := 0) hc 1 rfl rfl dL_sound_69 (pc2 := 70) rfl ?_
          refine g_iload hc 9 rfl dL_sound_70 (pc2 := 72) rfl ?_
          refine g_bipush (v := (8 : Int32)) hc (by decide) dL_sound_72 (pc2 := 74) rfl ?_
          obtain ⟨r19, s27, hp, hf⟩ := bd_some hf
          refine g_vI hc (kz6_master (ni_some hp)) co_L_15 (u0 (by decide)) rfl rfl (by decide) (by decide) (Nat.le_of_ble_eq_true rfl) dL_sound_74 (pc2 := 77) rfl ?_
          refine g_iadd hc dL_sound_77 (pc2 := 78) rfl ?_
          obtain ⟨x3, hx3, hf⟩ := nm_ex hf
          refine g_nmi hx3 ?_
          refine g_istore_n (i := 2) (L1 := [(2, .int x3), (1, .int x2), (0, .ref (ad κ.1 0 0)), (3, .int m5), (4, .int m6), (5, .int m7), (6, .int m8), (7, .int m9), (8, .int m10), (9, .int m11)]) hc rfl (by decide) rfl dL_sound_78 (pc2 := 79) rfl ?_
          refine g_iload_n (i := 3) hc 3 rfl rfl dL_sound_79 (pc2 := 80) rfl ?_
          refine g_aload_n (i := 0) hc 2 rfl rfl dL_sound_80 (pc2 := 81) rfl ?_
          refine g_iload hc 9 rfl dL_sound_81 (pc2 := 83) rfl ?_
          refine g_bipush (v := (9 : Int32)) hc (by decide) dL_sound_83 (pc2 := 85) rfl ?_
          obtain ⟨r20, s28, hp, hf⟩ := bd_some hf
          refine g_vI hc (kz6_master (ni_some hp)) co_L_15 (u0 (by decide)) rfl rfl (by decide) (by decide) (Nat.le_of_ble_eq_true rfl) dL_sound_85 (pc2 := 88) rfl ?_
          refine g_iadd hc dL_sound_88 (pc2 := 89) rfl ?_
          obtain ⟨x4, hx4, hf⟩ := nm_ex hf
          refine g_nmi hx4 ?_
          refine g_istore_n (i := 3) (L1 := [(3, .int x4), (2, .int x3), (1, .int x2), (0, .ref (ad κ.1 0 0)), (4, .int m6), (5, .int m7), (6, .int m8), (7, .int m9), (8, .int m10), (9, .int m11)]) hc rfl (by decide) rfl dL_sound_89 (pc2 := 90) rfl ?_
          refine g_iload hc 4 rfl dL_sound_90 (pc2 := 92) rfl ?_
          refine g_aload_n (i := 0) hc 3 rfl rfl dL_sound_92 (pc2 := 93) rfl ?_
          refine g_iload hc 9 rfl dL_sound_93 (pc2 := 95) rfl ?_
          refine g_iconst (v := (0 : Int32)) hc (by decide) dL_sound_95 (pc2 := 96) rfl ?_
          obtain ⟨r21, s29, hp, hf⟩ := bd_some hf
          refine g_vI hc (kz6_master (ni_some hp)) co_L_15 (u0 (by decide)) rfl rfl (by decide) (by decide) (Nat.le_of_ble_eq_true rfl) dL_sound_96 (pc2 := 99) rfl ?_
          refine g_iadd hc dL_sound_99 (pc2 := 100) rfl ?_
          obtain ⟨x5, hx5, hf⟩ := nm_ex hf
          refine g_nmi hx5 ?_
          refine g_istore (L1 := [(4, .int x5), (3, .int x4), (2, .int x3), (1, .int x2), (0, .ref (ad κ.1 0 0)), (5, .int m7), (6, .int m8), (7, .int m9), (8, .int m10), (9, .int m11)]) hc (by decide) rfl dL_sound_100 (pc2 := 102) rfl ?_
          refine g_iload hc 5 rfl dL_sound_102 (pc2 := 104) rfl ?_
          refine g_aload_n (i := 0) hc 4 rfl rfl dL_sound_104 (pc2 := 105) rfl ?_
          refine g_iload hc 9 rfl dL_sound_105 (pc2 := 107) rfl ?_
          refine g_iconst (v := (1 : Int32)) hc (by decide) dL_sound_107 (pc2 := 108) rfl ?_
          obtain ⟨r22, s30, hp, hf⟩ := bd_some hf
          refine g_vI hc (kz6_master (ni_some hp)) co_L_15 (u0 (by decide)) rfl rfl (by decide) (by decide) (Nat.le_of_ble_eq_true rfl) dL_sound_108 (pc2 := 111) rfl ?_
          refine g_iadd hc dL_sound_111 (pc2 := 112) rfl ?_
          obtain ⟨x6, hx6, hf⟩ := nm_ex hf
          refine g_nmi hx6 ?_
          refine g_istore (L1 := [(5, .int x6), (4, .int x5), (3, .int x4), (2, .int x3), (1, .int x2), (0, .ref (ad κ.1 0 0)), (6, .int m8), (7, .int m9), (8, .int m10), (9, .int m11)]) hc (by decide) rfl dL_sound_112 (pc2 := 114) rfl ?_
          refine g_iload hc 6 rfl dL_sound_114 (pc2 := 116) rfl ?_
          refine g_aload_n (i := 0) hc 5 rfl rfl dL_sound_116 (pc2 := 117) rfl ?_
          refine g_iload hc 9 rfl dL_sound_117 (pc2 := 119) rfl ?_
          refine g_iconst (v := (2 : Int32)) hc (by decide) dL_sound_119 (pc2 := 120) rfl ?_
          obtain ⟨r23, s31, hp, hf⟩ := bd_some hf
          refine g_vI hc (kz6_master (ni_some hp)) co_L_15 (u0 (by decide)) rfl rfl (by decide) (by decide) (Nat.le_of_ble_eq_true rfl) dL_sound_120 (pc2 := 123) rfl ?_
          refine g_iadd hc dL_sound_123 (pc2 := 124) rfl ?_
          obtain ⟨x7, hx7, hf⟩ := nm_ex hf
          refine g_nmi hx7 ?_
          refine g_istore (L1 := [(6, .int x7), (5, .int x6), (4, .int x5), (3, .int x4), (2, .int x3), (1, .int x2), (0, .ref (ad κ.1 0 0)), (7, .int m9), (8, .int m10), (9, .int m11)]) hc (by decide) rfl dL_sound_124 (pc2 := 126) rfl ?_
          refine g_iload hc 7 rfl dL_sound_126 (pc2 := 128) rfl ?_
          refine g_aload_n (i := 0) hc 6 rfl rfl dL_sound_128 (pc2 := 129) rfl ?_
          refine g_iload hc 9 rfl dL_sound_129 (pc2 := 131) rfl ?_
          refine g_iconst (v := (3 : Int32)) hc (by decide) dL_sound_131 (pc2 := 132) rfl ?_
          obtain ⟨r24, s32, hp, hf⟩ := bd_some hf
          refine g_vI hc (kz6_master (ni_some hp)) co_L_15 (u0 (by decide)) rfl rfl (by decide) (by decide) (Nat.le_of_ble_eq_true rfl) dL_sound_132 (pc2 := 135) rfl ?_
          refine g_iadd hc dL_sound_135 (pc2 := 136) rfl ?_
          obtain ⟨x8, hx8, hf⟩ := nm_ex hf
          refine g_nmi hx8 ?_
          refine g_istore (L1 := [(7, .int x8), (6, .int x7), (5, .int x6), (4, .int x5), (3, .int x4), (2, .int x3), (1, .int x2), (0, .ref (ad κ.1 0 0)), (8, .int m10), (9, .int m11)]) hc (by decide) rfl dL_sound_136 (pc2 := 138) rfl ?_
          refine g_iconst (v := (0 : Int32)) hc (by decide) dL_sound_138 (pc2 := 139) rfl ?_
          refine g_istore (L1 := [(10, .int (0 : Int32)), (7, .int x8), (6, .int x7), (5, .int x6), (4, .int x5), (3, .int x4), (2, .int x3), (1, .int x2), (0, .ref (ad κ.1 0 0)), (8, .int m10), (9, .int m11)]) hc (by decide) rfl dL_sound_139 (pc2 := 141) rfl ?_
          refine g_iconst (v := (0 : Int32)) hc (by decide) dL_sound_141 (pc2 := 142) rfl ?_
          refine g_istore (L1 := [(11, .int (0 : Int32)), (10, .int (0 : Int32)), (7, .int x8), (6, .int x7), (5, .int x6), (4, .int x5), (3, .int x4), (2, .int x3), (1, .int x2), (0, .ref (ad κ.1 0 0)), (8, .int m10), (9, .int m11)]) hc (by decide) rfl dL_sound_142 (pc2 := 144) rfl ?_
          refine g_iconst (v := (0 : Int32)) hc (by decide) dL_sound_144 (pc2 := 145) rfl ?_
          refine g_istore (L1 := [(12, .int (0 : Int32)), (11, .int (0 : Int32)), (10, .int (0 : Int32)), (7, .int x8), (6, .int x7), (5, .int x6), (4, .int x5), (3, .int x4), (2, .int x3), (1, .int x2), (0, .ref (ad κ.1 0 0)), (8, .int m10), (9, .int m11)]) hc (by decide) rfl dL_sound_145 (pc2 := 147) rfl ?_
          obtain ⟨k3, hk3, hf⟩ := nm_ex hf
          have Hk3 : ∀ (y11 : Int32) (y12 : Int32) (s33 : Mem), k3 y11 y12 s33 = some (rR, sR) → G κ φ (QI κ φ (NV κ τ) sR rR rm_L_sound.cells rm_L_sound.slots) (NV κ τ) 0 0 s33 [(0, .ref (ad κ.1 0 0)), (1, .int x2), (2, .int x3), (3, .int x4), (4, .int x5), (5, .int x6), (6, .int x7), (7, .int x8), (8, .int m10), (9, .int m11), (10, .int y11), (11, .int y12)] 189 [] := by
            intro y11 y12 s33 hf
            rw [hk3] at hf
            refine g_iconst (v := (0 : Int32)) hc (by decide) dL_sound_189 (pc2 := 190) rfl ?_
            refine g_istore (L1 := [(12, .int (0 : Int32)), (0, .ref (ad κ.1 0 0)), (1, .int x2), (2, .int x3), (3, .int x4), (4, .int x5), (5, .int x6), (6, .int x7), (7, .int x8), (8, .int m10), (9, .int m11), (10, .int y11), (11, .int y12)]) hc (by decide) rfl dL_sound_190 (pc2 := 192) rfl ?_
            refine g_iconst (v := (0 : Int32)) hc (by decide) dL_sound_192 (pc2 := 193) rfl ?_
            refine g_istore (L1 := [(13, .int (0 : Int32)), (12, .int (0 : Int32)), (0, .ref (ad κ.1 0 0)), (1, .int x2), (2, .int x3), (3, .int x4), (4, .int x5), (5, .int x6), (6, .int x7), (7, .int x8), (8, .int m10), (9, .int m11), (10, .int y11), (11, .int y12)]) hc (by decide) rfl dL_sound_193 (pc2 := 195) rfl ?_
            obtain ⟨k4, hk4, hf⟩ := nm_ex hf
            have Hk4 : ∀ (y13 : Int32) (y14 : Int32) (s34 : Mem), k4 y13 y14 s34 = some (rR, sR) → G κ φ (QI κ φ (NV κ τ) sR rR rm_L_sound.cells rm_L_sound.slots) (NV κ τ) 0 0 s34 [(0, .ref (ad κ.1 0 0)), (1, .int x2), (2, .int x3), (3, .int x4), (4, .int x5), (5, .int x6), (6, .int x7), (7, .int x8), (8, .int y13), (9, .int m11), (10, .int y11), (11, .int y12), (12, .int y14)] 277 [] := by
              intro y13 y14 s34 hf
              rw [hk4] at hf
              refine g_iload hc 8 rfl dL_sound_277 (pc2 := 279) rfl ?_
              obtain ⟨j5, hj5, hf⟩ := nm_ex hf
              have Hj5 : ∀ (y15 : Int32) (s35 : Mem), j5 y15 s35 = some (rR, sR) → G κ φ (QI κ φ (NV κ τ) sR rR rm_L_sound.cells rm_L_sound.slots) (NV κ τ) 0 0 s35 [(0, .ref (ad κ.1 0 0)), (1, .int x2), (2, .int x3), (3, .int x4), (4, .int x5), (5, .int x6), (6, .int x7), (7, .int x8), (9, .int m11)] 352 [.int y15] := by
                intro y15 s35 hf
                rw [hj5] at hf
                refine g_istore (L1 := [(8, .int y15), (0, .ref (ad κ.1 0 0)), (1, .int x2), (2, .int x3), (3, .int x4), (4, .int x5), (5, .int x6), (6, .int x7), (7, .int x8), (9, .int m11)]) hc (by decide) rfl dL_sound_352 (pc2 := 354) rfl ?_
                refine g_aload_n (i := 0) hc 1 rfl rfl dL_sound_354 (pc2 := 355) rfl ?_
                refine g_bipush (v := (9 : Int32)) hc (by decide) dL_sound_355 (pc2 := 357) rfl ?_
                obtain ⟨r25, s36, hp, hf⟩ := bd_some hf
                refine g_vI hc (kz6_about (ni_some hp)) co_L_9 (u0 (by decide)) rfl rfl (by decide) (by decide) (Nat.le_of_ble_eq_true rfl) dL_sound_357 (pc2 := 360) rfl ?_
                refine g_iload hc 9 rfl dL_sound_360 (pc2 := 362) rfl ?_
                refine g_ishr hc dL_sound_362 (pc2 := 363) rfl ?_
                refine g_iconst (v := (1 : Int32)) hc (by decide) dL_sound_363 (pc2 := 364) rfl ?_
                refine g_iand hc dL_sound_364 (pc2 := 365) rfl ?_
                refine g_iconst (v := (1 : Int32)) hc (by decide) dL_sound_365 (pc2 := 366) rfl ?_
                obtain ⟨j6, hj6, hf⟩ := nm_ex hf
                have Hj6 : ∀ (y16 : Int32) (s37 : Mem), j6 y16 s37 = some (rR, sR) → G κ φ (QI κ φ (NV κ τ) sR rR rm_L_sound.cells rm_L_sound.slots) (NV κ τ) 0 0 s37 [(0, .ref (ad κ.1 0 0)), (1, .int x2), (2, .int x3), (3, .int x4), (4, .int x5), (5, .int x6), (6, .int x7), (7, .int x8), (8, .int y15), (9, .int m11)] 374 [.int y16] := by
                  intro y16 s37 hf
                  rw [hj6] at hf
                  refine g_istore (L1 := [(13, .int y16), (0, .ref (ad κ.1 0 0)), (1, .int x2), (2, .int x3), (3, .int x4), (4, .int x5), (5, .int x6), (6, .int x7), (7, .int x8), (8, .int y15), (9, .int m11)]) hc (by decide) rfl dL_sound_374 (pc2 := 376) rfl ?_
                  refine g_iload hc 9 rfl dL_sound_376 (pc2 := 378) rfl ?_
                  obtain ⟨j7, hj7, hf⟩ := nm_ex hf
                  have Hj7 : ∀ (y17 : Int32) (s38 : Mem), j7 y17 s38 = some (rR, sR) → G κ φ (QI κ φ (NV κ τ) sR rR rm_L_sound.cells rm_L_sound.slots) (NV κ τ) 0 0 s38 [(0, .ref (ad κ.1 0 0)), (1, .int x2), (2, .int x3), (3, .int x4), (4, .int x5), (5, .int x6), (6, .int x7), (7, .int x8), (9, .int m11)] 445 [.int y17] := by
                    intro y17 s38 hf
                    rw [hj7] at hf
                    refine g_istore (L1 := [(8, .int y17), (0, .ref (ad κ.1 0 0)), (1, .int x2), (2, .int x3), (3, .int x4), (4, .int x5), (5, .int x6), (6, .int x7), (7, .int x8), (9, .int m11)]) hc (by decide) rfl dL_sound_445 (pc2 := 447) rfl ?_
                    obtain ⟨x9, hx9, hf⟩ := nm_ex hf
                    refine g_iinc (v := x9) (L1 := [(9, .int x9), (8, .int y17), (0, .ref (ad κ.1 0 0)), (1, .int x2), (2, .int x3), (3, .int x4), (4, .int x5), (5, .int x6), (6, .int x7), (7, .int x8)]) hc 9 rfl (by rw [hx9]; rfl) (by decide) rfl dL_sound_447 (pc2 := 450) rfl ?_
                    refine g_goto hc 24 (by decide) dL_sound_450 ?_
                    refine g_sub [2, 3, 4, 5, 6, 7, 8, 9, 1, 0] rfl ?_
                    exact ih_n2 _ _ _ _ _ _ _ _ _ _ hf
                  obtain ⟨j8, hj8, hf⟩ := nm_ex hf
                  have Hj8 : ∀ (s39 : Mem), j8 s39 = some (rR, sR) → G κ φ (QI κ φ (NV κ τ) sR rR rm_L_sound.cells rm_L_sound.slots) (NV κ τ) 0 0 s39 [(0, .ref (ad κ.1 0 0)), (1, .int x2), (2, .int x3), (3, .int x4), (4, .int x5), (5, .int x6), (6, .int x7), (7, .int x8), (9, .int m11)] 444 [] := by
                    intro s39 hf
                    rw [hj8] at hf
                    refine g_iconst (v := (0 : Int32)) hc (by decide) dL_sound_444 (pc2 := 445) rfl ?_
                    exact Hj7 _ _ hf
                  refine g_if_eq hc 444 (by decide) dL_sound_378 (pc2 := 381) rfl (fun q => ?_) (fun q => ?_)
                  · have hf := ite_t hf q
                    refine g_sub [1, 2, 3, 4, 5, 6, 7, 8, 10] rfl ?_
                    exact Hj8 _ hf
                  · have hf := ite_f hf q
                    refine g_iload hc 0 rfl dL_sound_381 (pc2 := 383) rfl ?_
                    obtain ⟨j9, hj9, hf⟩ := nm_ex hf
                    have Hj9 : ∀ (s40 : Mem), j9 s40 = some (rR, sR) → G κ φ (QI κ φ (NV κ τ) sR rR rm_L_sound.cells rm_L_sound.slots) (NV κ τ) 0 0 s40 [(0, .ref (ad κ.1 0 0)), (1, .int x2), (2, .int x3), (3, .int x4), (4, .int x5), (5, .int x6), (6, .int x7), (7, .int x8), (9, .int m11)] 440 [] := by
                      intro s40 hf
                      rw [hj9] at hf
                      refine g_iconst (v := (1 : Int32)) hc (by decide) dL_sound_440 (pc2 := 441) rfl ?_
                      refine g_goto hc 445 (by decide) dL_sound_441 ?_
                      exact Hj7 _ _ hf
                    refine g_if_eq hc 440 (by decide) dL_sound_383 (pc2 := 386) rfl (fun q => ?_) (fun q => ?_)
                    · have hf := ite_t hf q
                      refine g_sub [1, 2, 3, 4, 5, 6, 7, 8, 10] rfl ?_
                      exact Hj9 _ hf
                    · have hf := ite_f hf q
                      refine g_aload_n (i := 0) hc 1 rfl rfl dL_sound_386 (pc2 := 387) rfl ?_
                      refine g_iload hc 10 rfl dL_sound_387 (pc2 := 389) rfl ?_
                      refine g_iconst (v := (0 : Int32)) hc (by decide) dL_sound_389 (pc2 := 390) rfl ?_
                      obtain ⟨r26, s41, hp, hf⟩ := bd_some hf
                      refine g_vI hc (kz6_master (ni_some hp)) co_L_15 (u0 (by decide)) rfl rfl (by decide) (by decide) (Nat.le_of_ble_eq_true rfl) dL_sound_390 (pc2 := 393) rfl ?_
                      refine g_aload_n (i := 0) hc 1 rfl rfl dL_sound_393 (pc2 := 394) rfl ?_
                      refine g_iload hc 10 rfl dL_sound_394 (pc2 := 396) rfl ?_
                      refine g_iconst (v := (1 : Int32)) hc (by decide) dL_sound_396 (pc2 := 397) rfl ?_
                      obtain ⟨r27, s42, hp, hf⟩ := bd_some hf
                      refine g_vI hc (kz6_master (ni_some hp)) co_L_15 (u0 (by decide)) rfl rfl (by decide) (by decide) (Nat.le_of_ble_eq_true rfl) dL_sound_397 (pc2 := 400) rfl ?_
                      refine g_iadd hc dL_sound_400 (pc2 := 401) rfl ?_
                      refine g_aload_n (i := 0) hc 1 rfl rfl dL_sound_401 (pc2 := 402) rfl ?_
                      refine g_iload hc 10 rfl dL_sound_402 (pc2 := 404) rfl ?_
                      refine g_iconst (v := (2 : Int32)) hc (by decide) dL_sound_404 (pc2 := 405) rfl ?_
                      obtain ⟨r28, s43, hp, hf⟩ := bd_some hf
                      refine g_vI hc (kz6_master (ni_some hp)) co_L_15 (u0 (by decide)) rfl rfl (by decide) (by decide) (Nat.le_of_ble_eq_true rfl) dL_sound_405 (pc2 := 408) rfl ?_
                      refine g_iadd hc dL_sound_408 (pc2 := 409) rfl ?_
                      refine g_aload_n (i := 0) hc 1 rfl rfl dL_sound_409 (pc2 := 410) rfl ?_
                      refine g_iload hc 10 rfl dL_sound_410 (pc2 := 412) rfl ?_
                      refine g_iconst (v := (3 : Int32)) hc (by decide) dL_sound_412 (pc2 := 413) rfl ?_
                      obtain ⟨r29, s44, hp, hf⟩ := bd_some hf
                      refine g_vI hc (kz6_master (ni_some hp)) co_L_15 (u0 (by decide)) rfl rfl (by decide) (by decide) (Nat.le_of_ble_eq_true rfl) dL_sound_413 (pc2 := 416) rfl ?_
                      refine g_iadd hc dL_sound_416 (pc2 := 417) rfl ?_
                      refine g_if_ne hc 444 (by decide) dL_sound_417 (pc2 := 420) rfl (fun q => ?_) (fun q => ?_)
                      · have hf := ite_f hf q
                        refine g_sub [1, 2, 3, 4, 5, 6, 7, 8, 10] rfl ?_
                        exact Hj8 _ hf
                      · have hf := ite_t hf q
                        refine g_aload_n (i := 0) hc 1 rfl rfl dL_sound_420 (pc2 := 421) rfl ?_
                        refine g_iload hc 10 rfl dL_sound_421 (pc2 := 423) rfl ?_
                        obtain ⟨r30, s45, hp, hf⟩ := bd_some hf
                        refine g_vI hc (kz6_doneIn (ni_some hp)) co_L_26 (u0 (by decide)) rfl rfl (by decide) (by decide) (Nat.le_of_ble_eq_true rfl) dL_sound_423 (pc2 := 426) rfl ?_
                        refine g_if_ne hc 444 (by decide) dL_sound_426 (pc2 := 429) rfl (fun q => ?_) (fun q => ?_)
                        · have hf := ite_f hf q
                          refine g_sub [1, 2, 3, 4, 5, 6, 7, 8, 10] rfl ?_
                          exact Hj8 _ hf
                        · have hf := ite_t hf q
                          refine g_aload_n (i := 0) hc 1 rfl rfl dL_sound_429 (pc2 := 430) rfl ?_
                          refine g_iload hc 10 rfl dL_sound_430 (pc2 := 432) rfl ?_
                          obtain ⟨r31, s46, hp, hf⟩ := bd_some hf
                          refine g_vI hc (kz6_bestSlot (ni_some hp)) co_L_29 (u0 (by decide)) rfl rfl (by decide) (by decide) (Nat.le_of_ble_eq_true rfl) dL_sound_432 (pc2 := 435) rfl ?_
                          refine g_bipush (v := (-9 : Int32)) hc (by decide) dL_sound_435 (pc2 := 437) rfl ?_
                          refine g_icmp_ne hc 444 (by decide) dL_sound_437 (pc2 := 440) rfl (fun q => ?_) (fun q => ?_)
                          · have hf := ite_f hf q
                            refine g_sub [1, 2, 3, 4, 5, 6, 7, 8, 10] rfl ?_
                            exact Hj8 _ hf
                          · have hf := ite_t hf q
                            refine g_sub [1, 2, 3, 4, 5, 6, 7, 8, 10] rfl ?_
                            exact Hj9 _ hf
                refine g_icmp_ne hc 373 (by decide) dL_sound_366 (pc2 := 369) rfl (fun q => ?_) (fun q => ?_)
                · have hf := ite_f hf q
                  refine g_iconst (v := (0 : Int32)) hc (by decide) dL_sound_373 (pc2 := 374) rfl ?_
                  refine g_sub [1, 2, 3, 4, 5, 6, 7, 8, 0, 9] rfl ?_
                  exact Hj6 _ _ hf
                · have hf := ite_t hf q
                  refine g_iconst (v := (1 : Int32)) hc (by decide) dL_sound_369 (pc2 := 370) rfl ?_
                  refine g_goto hc 374 (by decide) dL_sound_370 ?_
                  refine g_sub [1, 2, 3, 4, 5, 6, 7, 8, 0, 9] rfl ?_
                  exact Hj6 _ _ hf
              obtain ⟨j10, hj10, hf⟩ := nm_ex hf
              have Hj10 : ∀ (s47 : Mem), j10 s47 = some (rR, sR) → G κ φ (QI κ φ (NV κ τ) sR rR rm_L_sound.cells rm_L_sound.slots) (NV κ τ) 0 0 s47 [(0, .ref (ad κ.1 0 0)), (1, .int x2), (2, .int x3), (3, .int x4), (4, .int x5), (5, .int x6), (6, .int x7), (7, .int x8), (9, .int m11)] 351 [] := by
                intro s47 hf
                rw [hj10] at hf
                refine g_iconst (v := (0 : Int32)) hc (by decide) dL_sound_351 (pc2 := 352) rfl ?_
                exact Hj5 _ _ hf
              refine g_if_eq hc 351 (by decide) dL_sound_279 (pc2 := 282) rfl (fun q => ?_) (fun q => ?_)
              · have hf := ite_t hf q
                refine g_sub [0, 1, 2, 3, 4, 5, 6, 7, 9] rfl ?_
                exact Hj10 _ hf
              · have hf := ite_f hf q
                refine g_iload hc 10 rfl dL_sound_282 (pc2 := 284) rfl ?_
                refine g_aload_n (i := 0) hc 0 rfl rfl dL_sound_284 (pc2 := 285) rfl ?_
                refine g_iload hc 9 rfl dL_sound_285 (pc2 := 287) rfl ?_
                refine g_iconst (v := (1 : Int32)) hc (by decide) dL_sound_287 (pc2 := 288) rfl ?_
                obtain ⟨r32, s48, hp, hf⟩ := bd_some hf
                refine g_vI hc (kz6_master (ni_some hp)) co_L_15 (u0 (by decide)) rfl rfl (by decide) (by decide) (Nat.le_of_ble_eq_true rfl) dL_sound_288 (pc2 := 291) rfl ?_
                refine g_icmp_ne hc 351 (by decide) dL_sound_291 (pc2 := 294) rfl (fun q => ?_) (fun q => ?_)
                · have hf := ite_f hf q
                  refine g_sub [0, 1, 2, 3, 4, 5, 6, 7, 9] rfl ?_
                  exact Hj10 _ hf
                · have hf := ite_t hf q
                  refine g_iload hc 11 rfl dL_sound_294 (pc2 := 296) rfl ?_
                  refine g_aload_n (i := 0) hc 0 rfl rfl dL_sound_296 (pc2 := 297) rfl ?_
                  refine g_iload hc 9 rfl dL_sound_297 (pc2 := 299) rfl ?_
                  refine g_iconst (v := (2 : Int32)) hc (by decide) dL_sound_299 (pc2 := 300) rfl ?_
                  obtain ⟨r33, s49, hp, hf⟩ := bd_some hf
                  refine g_vI hc (kz6_master (ni_some hp)) co_L_15 (u0 (by decide)) rfl rfl (by decide) (by decide) (Nat.le_of_ble_eq_true rfl) dL_sound_300 (pc2 := 303) rfl ?_
                  refine g_icmp_ne hc 351 (by decide) dL_sound_303 (pc2 := 306) rfl (fun q => ?_) (fun q => ?_)
                  · have hf := ite_f hf q
                    refine g_sub [0, 1, 2, 3, 4, 5, 6, 7, 9] rfl ?_
                    exact Hj10 _ hf
                  · have hf := ite_t hf q
                    refine g_aload_n (i := 0) hc 0 rfl rfl dL_sound_306 (pc2 := 307) rfl ?_
                    refine g_iload hc 9 rfl dL_sound_307 (pc2 := 309) rfl ?_
                    refine g_iload hc 9 rfl dL_sound_309 (pc2 := 311) rfl ?_
                    obtain ⟨r34, s50, hp, hf⟩ := bd_some hf
                    refine g_vI hc (kz6_owes (ni_some hp)) co_L_19 (u0 (by decide)) rfl rfl (by decide) (by decide) (Nat.le_of_ble_eq_true rfl) dL_sound_311 (pc2 := 314) rfl ?_
                    refine g_if_ne hc 351 (by decide) dL_sound_314 (pc2 := 317) rfl (fun q => ?_) (fun q => ?_)
                    · have hf := ite_f hf q
                      refine g_sub [0, 1, 2, 3, 4, 5, 6, 7, 9] rfl ?_
                      exact Hj10 _ hf
                    · have hf := ite_t hf q
                      refine g_iload hc 12 rfl dL_sound_317 (pc2 := 319) rfl ?_
                      refine g_aload_n (i := 0) hc 0 rfl rfl dL_sound_319 (pc2 := 320) rfl ?_
                      refine g_iload hc 9 rfl dL_sound_320 (pc2 := 322) rfl ?_
                      refine g_iconst (v := (4 : Int32)) hc (by decide) dL_sound_322 (pc2 := 323) rfl ?_
                      obtain ⟨r35, s51, hp, hf⟩ := bd_some hf
                      refine g_vI hc (kz6_master (ni_some hp)) co_L_15 (u0 (by decide)) rfl rfl (by decide) (by decide) (Nat.le_of_ble_eq_true rfl) dL_sound_323 (pc2 := 326) rfl ?_
                      refine g_icmp_ne hc 351 (by decide) dL_sound_326 (pc2 := 329) rfl (fun q => ?_) (fun q => ?_)
                      · have hf := ite_f hf q
                        refine g_sub [0, 1, 2, 3, 4, 5, 6, 7, 9] rfl ?_
                        exact Hj10 _ hf
                      · have hf := ite_t hf q
                        refine g_aload_n (i := 0) hc 0 rfl rfl dL_sound_329 (pc2 := 330) rfl ?_
                        refine g_iload hc 9 rfl dL_sound_330 (pc2 := 332) rfl ?_
                        refine g_iconst (v := (5 : Int32)) hc (by decide) dL_sound_332 (pc2 := 333) rfl ?_
                        obtain ⟨r36, s52, hp, hf⟩ := bd_some hf
                        refine g_vI hc (kz6_master (ni_some hp)) co_L_15 (u0 (by decide)) rfl rfl (by decide) (by decide) (Nat.le_of_ble_eq_true rfl) dL_sound_333 (pc2 := 336) rfl ?_
                        refine g_aload_n (i := 0) hc 0 rfl rfl dL_sound_336 (pc2 := 337) rfl ?_
                        refine g_iload hc 9 rfl dL_sound_337 (pc2 := 339) rfl ?_
                        refine g_bipush (v := (6 : Int32)) hc (by decide) dL_sound_339 (pc2 := 341) rfl ?_
                        obtain ⟨r37, s53, hp, hf⟩ := bd_some hf
                        refine g_vI hc (kz6_master (ni_some hp)) co_L_15 (u0 (by decide)) rfl rfl (by decide) (by decide) (Nat.le_of_ble_eq_true rfl) dL_sound_341 (pc2 := 344) rfl ?_
                        refine g_icmp_gt hc 351 (by decide) dL_sound_344 (pc2 := 347) rfl (fun q => ?_) (fun q => ?_)
                        · have hf := ite_t hf q
                          refine g_sub [0, 1, 2, 3, 4, 5, 6, 7, 9] rfl ?_
                          exact Hj10 _ hf
                        · have hf := ite_f hf q
                          refine g_iconst (v := (1 : Int32)) hc (by decide) dL_sound_347 (pc2 := 348) rfl ?_
                          refine g_goto hc 352 (by decide) dL_sound_348 ?_
                          refine g_sub [0, 1, 2, 3, 4, 5, 6, 7, 9] rfl ?_
                          exact Hj5 _ _ hf
            have LP_n3 : ∀ (n3 : Nat) (m12 : Int32) (m13 : Int32) (m14 : Int32) (s54 : Mem), fL_sound_l195 m11 k4 n3 m12 m13 m14 s54 = some (rR, sR) → G κ φ (QI κ φ (NV κ τ) sR rR rm_L_sound.cells rm_L_sound.slots) (NV κ τ) 0 0 s54 [(0, .ref (ad κ.1 0 0)), (1, .int x2), (2, .int x3), (3, .int x4), (4, .int x5), (5, .int x6), (6, .int x7), (7, .int x8), (8, .int m12), (9, .int m11), (10, .int y11), (11, .int y12), (12, .int m13), (13, .int m14)] 195 [] := by
              intro n3
              induction n3 with
              | zero => intro m12 m13 m14 s54 hf; rw [fL_sound_l195] at hf; cases hf
              | succ n3 ih_n3 =>
                intro m12 m13 m14 s54 hf
                rw [fL_sound_l195] at hf
                refine g_aload_n (i := 0) hc 0 rfl rfl dL_sound_195 (pc2 := 196) rfl ?_
                refine g_iload hc 9 rfl dL_sound_196 (pc2 := 198) rfl ?_
                refine g_iload hc 13 rfl dL_sound_198 (pc2 := 200) rfl ?_
                refine g_iconst (v := (0 : Int32)) hc (by decide) dL_sound_200 (pc2 := 201) rfl ?_
                obtain ⟨r38, s55, hp, hf⟩ := bd_some hf
                refine g_vI hc (kz6_burst (ni_some hp)) co_L_22 (u0 (by decide)) rfl rfl (by decide) (by decide) (Nat.le_of_ble_eq_true rfl) dL_sound_201 (pc2 := 204) rfl ?_
                refine g_if_lt hc 277 (by decide) dL_sound_204 (pc2 := 207) rfl (fun q => ?_) (fun q => ?_)
                · have hf := ite_t hf q
                  refine g_sub [0, 1, 2, 3, 4, 5, 6, 7, 8, 9, 10, 11, 12] rfl ?_
                  exact Hk4 _ _ _ hf
                · have hf := ite_f hf q
                  refine g_iload hc 12 rfl dL_sound_207 (pc2 := 209) rfl ?_
                  refine g_aload_n (i := 0) hc 0 rfl rfl dL_sound_209 (pc2 := 210) rfl ?_
                  refine g_iload hc 9 rfl dL_sound_210 (pc2 := 212) rfl ?_
                  refine g_iload hc 13 rfl dL_sound_212 (pc2 := 214) rfl ?_
                  refine g_iconst (v := (1 : Int32)) hc (by decide) dL_sound_214 (pc2 := 215) rfl ?_
                  obtain ⟨r39, s56, hp, hf⟩ := bd_some hf
                  refine g_vI hc (kz6_burst (ni_some hp)) co_L_22 (u0 (by decide)) rfl rfl (by decide) (by decide) (Nat.le_of_ble_eq_true rfl) dL_sound_215 (pc2 := 218) rfl ?_
                  refine g_iadd hc dL_sound_218 (pc2 := 219) rfl ?_
                  obtain ⟨x10, hx10, hf⟩ := nm_ex hf
                  refine g_nmi hx10 ?_
                  refine g_istore (L1 := [(12, .int x10), (0, .ref (ad κ.1 0 0)), (1, .int x2), (2, .int x3), (3, .int x4), (4, .int x5), (5, .int x6), (6, .int x7), (7, .int x8), (8, .int m12), (9, .int m11), (10, .int y11), (11, .int y12), (13, .int m14)]) hc (by decide) rfl dL_sound_219 (pc2 := 221) rfl ?_
                  refine g_iload hc 9 rfl dL_sound_221 (pc2 := 223) rfl ?_
                  obtain ⟨j11, hj11, hf⟩ := nm_ex hf
                  have Hj11 : ∀ (y18 : Int32) (s57 : Mem), j11 y18 s57 = some (rR, sR) → G κ φ (QI κ φ (NV κ τ) sR rR rm_L_sound.cells rm_L_sound.slots) (NV κ τ) 0 0 s57 [(0, .ref (ad κ.1 0 0)), (1, .int x2), (2, .int x3), (3, .int x4), (4, .int x5), (5, .int x6), (6, .int x7), (7, .int x8), (9, .int m11), (10, .int y11), (11, .int y12), (12, .int x10), (13, .int m14)] 269 [.int y18] := by
                    intro y18 s57 hf
                    rw [hj11] at hf
                    refine g_istore (L1 := [(8, .int y18), (0, .ref (ad κ.1 0 0)), (1, .int x2), (2, .int x3), (3, .int x4), (4, .int x5), (5, .int x6), (6, .int x7), (7, .int x8), (9, .int m11), (10, .int y11), (11, .int y12), (12, .int x10), (13, .int m14)]) hc (by decide) rfl dL_sound_269 (pc2 := 271) rfl ?_
                    obtain ⟨x11, hx11, hf⟩ := nm_ex hf
                    refine g_iinc (v := x11) (L1 := [(13, .int x11), (8, .int y18), (0, .ref (ad κ.1 0 0)), (1, .int x2), (2, .int x3), (3, .int x4), (4, .int x5), (5, .int x6), (6, .int x7), (7, .int x8), (9, .int m11), (10, .int y11), (11, .int y12), (12, .int x10)]) hc 13 rfl (by rw [hx11]; rfl) (by decide) rfl dL_sound_271 (pc2 := 274) rfl ?_
                    refine g_goto hc 195 (by decide) dL_sound_274 ?_
                    refine g_sub [2, 3, 4, 5, 6, 7, 8, 9, 1, 10, 11, 12, 13, 0] rfl ?_
                    exact ih_n3 _ _ _ _ hf
                  obtain ⟨j12, hj12, hf⟩ := nm_ex hf
                  have Hj12 : ∀ (s58 : Mem), j12 s58 = some (rR, sR) → G κ φ (QI κ φ (NV κ τ) sR rR rm_L_sound.cells rm_L_sound.slots) (NV κ τ) 0 0 s58 [(0, .ref (ad κ.1 0 0)), (1, .int x2), (2, .int x3), (3, .int x4), (4, .int x5), (5, .int x6), (6, .int x7), (7, .int x8), (9, .int m11), (10, .int y11), (11, .int y12), (12, .int x10), (13, .int m14)] 268 [] := by
                    intro s58 hf
                    rw [hj12] at hf
                    refine g_iconst (v := (0 : Int32)) hc (by decide) dL_sound_268 (pc2 := 269) rfl ?_
                    exact Hj11 _ _ hf
                  refine g_if_eq hc 268 (by decide) dL_sound_223 (pc2 := 226) rfl (fun q => ?_) (fun q => ?_)
                  · have hf := ite_t hf q
                    refine g_sub [1, 2, 3, 4, 5, 6, 7, 8, 10, 11, 12, 0, 13] rfl ?_
                    exact Hj12 _ hf
                  · have hf := ite_f hf q
                    refine g_iload hc 13 rfl dL_sound_226 (pc2 := 228) rfl ?_
                    refine g_aload_n (i := 0) hc 1 rfl rfl dL_sound_228 (pc2 := 229) rfl ?_
                    refine g_iload hc 10 rfl dL_sound_229 (pc2 := 231) rfl ?_
                    refine g_iconst (v := (3 : Int32)) hc (by decide) dL_sound_231 (pc2 := 232) rfl ?_
                    obtain ⟨r40, s59, hp, hf⟩ := bd_some hf
                    refine g_vI hc (kz6_master (ni_some hp)) co_L_15 (u0 (by decide)) rfl rfl (by decide) (by decide) (Nat.le_of_ble_eq_true rfl) dL_sound_232 (pc2 := 235) rfl ?_
                    refine g_icmp_ge hc 268 (by decide) dL_sound_235 (pc2 := 238) rfl (fun q => ?_) (fun q => ?_)
                    · have hf := ite_t hf q
                      refine g_sub [1, 2, 3, 4, 5, 6, 7, 8, 10, 11, 12, 0, 13] rfl ?_
                      exact Hj12 _ hf
                    · have hf := ite_f hf q
                      refine g_aload_n (i := 0) hc 1 rfl rfl dL_sound_238 (pc2 := 239) rfl ?_
                      refine g_iload hc 10 rfl dL_sound_239 (pc2 := 241) rfl ?_
                      refine g_iload hc 13 rfl dL_sound_241 (pc2 := 243) rfl ?_
                      refine g_iconst (v := (1 : Int32)) hc (by decide) dL_sound_243 (pc2 := 244) rfl ?_
                      obtain ⟨r41, s60, hp, hf⟩ := bd_some hf
                      refine g_vI hc (kz6_burst (ni_some hp)) co_L_22 (u0 (by decide)) rfl rfl (by decide) (by decide) (Nat.le_of_ble_eq_true rfl) dL_sound_244 (pc2 := 247) rfl ?_
                      refine g_if_le hc 268 (by decide) dL_sound_247 (pc2 := 250) rfl (fun q => ?_) (fun q => ?_)
                      · have hf := ite_t hf q
                        refine g_sub [1, 2, 3, 4, 5, 6, 7, 8, 10, 11, 12, 0, 13] rfl ?_
                        exact Hj12 _ hf
                      · have hf := ite_f hf q
                        refine g_aload_n (i := 0) hc 1 rfl rfl dL_sound_250 (pc2 := 251) rfl ?_
                        refine g_iload hc 10 rfl dL_sound_251 (pc2 := 253) rfl ?_
                        refine g_iload hc 13 rfl dL_sound_253 (pc2 := 255) rfl ?_
                        refine g_iconst (v := (1 : Int32)) hc (by decide) dL_sound_255 (pc2 := 256) rfl ?_
                        obtain ⟨r42, s61, hp, hf⟩ := bd_some hf
                        refine g_vI hc (kz6_burst (ni_some hp)) co_L_22 (u0 (by decide)) rfl rfl (by decide) (by decide) (Nat.le_of_ble_eq_true rfl) dL_sound_256 (pc2 := 259) rfl ?_
                        refine g_bipush (v := (9 : Int32)) hc (by decide) dL_sound_259 (pc2 := 261) rfl ?_
                        refine g_icmp_ge hc 268 (by decide) dL_sound_261 (pc2 := 264) rfl (fun q => ?_) (fun q => ?_)
                        · have hf := ite_t hf q
                          refine g_sub [1, 2, 3, 4, 5, 6, 7, 8, 10, 11, 12, 0, 13] rfl ?_
                          exact Hj12 _ hf
                        · have hf := ite_f hf q
                          refine g_iconst (v := (1 : Int32)) hc (by decide) dL_sound_264 (pc2 := 265) rfl ?_
                          refine g_goto hc 269 (by decide) dL_sound_265 ?_
                          refine g_sub [1, 2, 3, 4, 5, 6, 7, 8, 10, 11, 12, 0, 13] rfl ?_
                          exact Hj11 _ _ hf
            refine g_sub [2, 3, 4, 5, 6, 7, 8, 9, 10, 11, 12, 13, 1, 0] rfl ?_
            exact LP_n3 _ _ _ _ _ hf
          have LP_n4 : ∀ (n4 : Nat) (m15 : Int32) (m16 : Int32) (m17 : Int32) (s62 : Mem), fL_sound_l147 m11 k3 n4 m15 m16 m17 s62 = some (rR, sR) → G κ φ (QI κ φ (NV κ τ) sR rR rm_L_sound.cells rm_L_sound.slots) (NV κ τ) 0 0 s62 [(0, .ref (ad κ.1 0 0)), (1, .int x2), (2, .int x3), (3, .int x4), (4, .int x5), (5, .int x6), (6, .int x7), (7, .int x8), (8, .int m10), (9, .int m11), (10, .int m15), (11, .int m16), (12, .int m17)] 147 [] := by
            intro n4
            induction n4 with
            | zero => intro m15 m16 m17 s62 hf; rw [fL_sound_l147] at hf; cases hf
            | succ n4 ih_n4 =>
              intro m15 m16 m17 s62 hf
              rw [fL_sound_l147] at hf
              refine g_iload hc 12 rfl dL_sound_147 (pc2 := 149) rfl ?_
              refine g_aload_n (i := 0) hc 0 rfl rfl dL_sound_149 (pc2 := 150) rfl ?_
              refine g_iconst (v := (0 : Int32)) hc (by decide) dL_sound_150 (pc2 := 151) rfl ?_
              obtain ⟨r43, s63, hp, hf⟩ := bd_some hf
              refine g_vI hc (kz6_about (ni_some hp)) co_L_9 (u0 (by decide)) rfl rfl (by decide) (by decide) (Nat.le_of_ble_eq_true rfl) dL_sound_151 (pc2 := 154) rfl ?_
              refine g_icmp_ge hc 189 (by decide) dL_sound_154 (pc2 := 157) rfl (fun q => ?_) (fun q => ?_)
              · have hf := ite_t hf q
                refine g_sub [0, 1, 2, 3, 4, 5, 6, 7, 8, 9, 10, 11] rfl ?_
                exact Hk3 _ _ _ hf
              · have hf := ite_f hf q
                refine g_iload hc 10 rfl dL_sound_157 (pc2 := 159) rfl ?_
                refine g_aload_n (i := 0) hc 0 rfl rfl dL_sound_159 (pc2 := 160) rfl ?_
                refine g_iload hc 9 rfl dL_sound_160 (pc2 := 162) rfl ?_
                refine g_iload hc 12 rfl dL_sound_162 (pc2 := 164) rfl ?_
                obtain ⟨r44, s64, hp, hf⟩ := bd_some hf
                refine g_vI hc (kz6_owes (ni_some hp)) co_L_19 (u0 (by decide)) rfl rfl (by decide) (by decide) (Nat.le_of_ble_eq_true rfl) dL_sound_164 (pc2 := 167) rfl ?_
                refine g_iadd hc dL_sound_167 (pc2 := 168) rfl ?_
                obtain ⟨x12, hx12, hf⟩ := nm_ex hf
                refine g_nmi hx12 ?_
                refine g_istore (L1 := [(10, .int x12), (0, .ref (ad κ.1 0 0)), (1, .int x2), (2, .int x3), (3, .int x4), (4, .int x5), (5, .int x6), (6, .int x7), (7, .int x8), (8, .int m10), (9, .int m11), (11, .int m16), (12, .int m17)]) hc (by decide) rfl dL_sound_168 (pc2 := 170) rfl ?_
                refine g_iload hc 11 rfl dL_sound_170 (pc2 := 172) rfl ?_
                refine g_aload_n (i := 0) hc 1 rfl rfl dL_sound_172 (pc2 := 173) rfl ?_
                refine g_iload hc 12 rfl dL_sound_173 (pc2 := 175) rfl ?_
                refine g_iload hc 10 rfl dL_sound_175 (pc2 := 177) rfl ?_
                obtain ⟨r45, s65, hp, hf⟩ := bd_some hf
                refine g_vI hc (kz6_owes (ni_some hp)) co_L_19 (u0 (by decide)) rfl rfl (by decide) (by decide) (Nat.le_of_ble_eq_true rfl) dL_sound_177 (pc2 := 180) rfl ?_
                refine g_iadd hc dL_sound_180 (pc2 := 181) rfl ?_
                obtain ⟨x13, hx13, hf⟩ := nm_ex hf
                refine g_nmi hx13 ?_
                refine g_istore (L1 := [(11, .int x13), (10, .int x12), (0, .ref (ad κ.1 0 0)), (1, .int x2), (2, .int x3), (3, .int x4), (4, .int x5), (5, .int x6), (6, .int x7), (7, .int x8), (8, .int m10), (9, .int m11), (12, .int m17)]) hc (by decide) rfl dL_sound_181 (pc2 := 183) rfl ?_
                obtain ⟨x14, hx14, hf⟩ := nm_ex hf
                refine g_iinc (v := x14) (L1 := [(12, .int x14), (11, .int x13), (10, .int x12), (0, .ref (ad κ.1 0 0)), (1, .int x2), (2, .int x3), (3, .int x4), (4, .int x5), (5, .int x6), (6, .int x7), (7, .int x8), (8, .int m10), (9, .int m11)]) hc 12 rfl (by rw [hx14]; rfl) (by decide) rfl dL_sound_183 (pc2 := 186) rfl ?_
                refine g_goto hc 147 (by decide) dL_sound_186 ?_
                refine g_sub [3, 4, 5, 6, 7, 8, 9, 10, 11, 12, 2, 1, 0] rfl ?_
                exact ih_n4 _ _ _ _ hf
          refine g_sub [10, 9, 8, 7, 6, 5, 4, 3, 11, 12, 2, 1, 0] rfl ?_
          exact LP_n4 _ _ _ _ _ hf
  refine g_sub [9, 8, 7, 6, 5, 4, 3, 2, 1, 0] rfl ?_
  exact LP_n2 _ _ _ _ _ _ _ _ _ _ _ hf
def fL_tick_l212  (k1 : Int32 → Mem → Option (Int32 × Mem)) : Nat → Int32 → Int32 → Mem → Option (Int32 × Mem)
  | 0, _, _, _ => none
  | n1 + 1, m1, m2, s13 => bd (ni (f6_about (0 : Int32) s13)) fun r8 s14 => (if r8 ≤ m2 then k1 m1 s14 else (if m1 = (0 : Int32) then k1 m1 s14 else bd (ni (f6_master m2 (1 : Int32) s14)) fun r9 s15 => bd (ni (f6_master m2 (0 : Int32) s15)) fun r10 s16 => nm (fun (y6 : Int32) (s17 : Mem) => nm (m2 + (1 : Int32)) fun x1 => fL_tick_l212 k1 n1 y6 x1 s17) fun j5 => (if ((4 : Int32) * r10) < r9 then j5 (0 : Int32) s16 else j5 (1 : Int32) s16)))
def fL_tick (a2 : Int32) (s0 : Mem) : Option (Int32 × Mem) :=
  bd (ni (f6_turnIn (0 : Int32) s0)) fun r1 s1 => bd (ni (f6_turnIn (3 : Int32) s1)) fun r2 s2 => bd (ni (f6_doneIn a2 s2)) fun r3 s3 => bd (ni (f6_about (3 : Int32) s3)) fun r4 s4 => bd (ni (f6_master a2 (10 : Int32) s4)) fun r5 s5 => bd (ni (f6_master a2 (4 : Int32) s5)) fun r6 s6 => bd (ni (f6_pass (1 : Int32) s6)) fun r7 s7 => nm (fun (y1 : Int32) (s8 : Mem) => nm (fun (y2 : Int32) (s9 : Mem) => nm (fun (y3 : Int32) (s10 : Mem) => nm (fun (y4 : Int32) (s11 : Mem) => nm (fun (y5 : Int32) (s12 : Mem) => gd (zok y5) (some (y5, s12))) fun k1 => fL_tick_l212 k1 FU y4 (0 : Int32) s11) fun j4 => nm (fun (s18 : Mem) => j4 (0 : Int32) s18) fun j6 => (if y3 = (0 : Int32) then j6 s10 else bd (ni (f6_about (9 : Int32) s10)) fun r11 s19 => nm (fun (s20 : Mem) => j4 (1 : Int32) s20) fun j7 => (if ((r11 >>> (a2 &&& 31)) &&& (1 : Int32)) = (1 : Int32) then j7 s19 else bd (ni (f6_master a2 (10 : Int32) s19)) fun r12 s21 => bd (ni (f6_master a2 (4 : Int32) s21)) fun r13 s22 => nm (fun (y7 : Int32) (s23 : Mem) => (if (((r12 - r5) + r6) - r13) = y7 then j7 s23 else j6 s23)) fun j8 => (if r1 = a2 then j8 (1 : Int32) s22 else j8 (0 : Int32) s22)))) fun j3 => nm (fun (s24 : Mem) => j3 (0 : Int32) s24) fun j9 => (if y2 = (0 : Int32) then j9 s9 else nm (fun (s25 : Mem) => j3 (1 : Int32) s25) fun j10 => (if r3 < (1 : Int32) then j10 s9 else bd (ni (f6_doneIn a2 s9)) fun r14 s26 => (if r14 = (r3 - (1 : Int32)) then j10 s26 else bd (ni (f6_about (9 : Int32) s26)) fun r15 s27 => (if ((r15 >>> (a2 &&& 31)) &&& (1 : Int32)) = (1 : Int32) then j10 s27 else j9 s27))))) fun j2 => nm (fun (s28 : Mem) => j2 (0 : Int32) s28) fun j11 => (if r7 = y1 then bd (ni (f6_about (8 : Int32) s8)) fun r16 s29 => (if r16 = r1 then bd (ni (f6_about (3 : Int32) s29)) fun r17 s30 => nm (fun (y8 : Int32) (s31 : Mem) => (if r17 = (r4 + y8) then bd (ni (f6_turnIn (2 : Int32) s31)) fun r18 s32 => (if r18 = r2 then j2 (1 : Int32) s32 else j11 s32) else j11 s31)) fun j12 => (if (0 : Int32) ≤ r1 then j12 (0 : Int32) s30 else j12 (1 : Int32) s30) else j11 s29) else j11 s8)) fun j1 => (if (0 : Int32) ≤ r1 then j1 (1 : Int32) s7 else j1 (0 : Int32) s7)
def rm_L_tick : Room := { frames := 6, cells := 0, slots := 0, locals := 139 }
set_option maxHeartbeats 4000000 in
set_option maxRecDepth 100000 in
theorem kL_tick {κ : Kx} {τ : Nat → Int64} {a2 : Int32} {s0 sR : Mem} {rR : Int32}  (hf : fL_tick a2 s0 = some (rR, sR)) : CtI κ yL_tick cL_tick 10 (some .boolean) rm_L_tick (NV κ τ) (NV κ τ) [.ref (ad κ.1 0 0), .int a2] s0 sR rR := by
  refine ct_I (by decide +kernel) (Nat.le_of_ble_eq_true rfl) (fun φ hc hr => ?_)
  have hc : Cx κ φ RL cL_tick 10 rm_L_tick := hc
  show G κ φ (QI κ φ (NV κ τ) sR rR rm_L_tick.cells rm_L_tick.slots) (NV κ τ) 0 0 s0 [(0, .ref (ad κ.1 0 0)), (1, .int a2)] 0 []
  unfold fL_tick at hf
  refine g_aload_n (i := 0) hc 0 rfl rfl dL_tick_0 (pc2 := 1) rfl ?_
  refine g_iconst (v := (0 : Int32)) hc (by decide) dL_tick_1 (pc2 := 2) rfl ?_
  obtain ⟨r1, s1, hp, hf⟩ := bd_some hf
  refine g_vI hc (kz6_turnIn (ni_some hp)) co_L_35 (u0 (by decide)) rfl rfl (by decide) (by decide) (Nat.le_of_ble_eq_true rfl) dL_tick_2 (pc2 := 5) rfl ?_
  refine g_istore_n (i := 2) (L1 := [(2, .int r1), (0, .ref (ad κ.1 0 0)), (1, .int a2)]) hc rfl (by decide) rfl dL_tick_5 (pc2 := 6) rfl ?_
  refine g_aload_n (i := 0) hc 1 rfl rfl dL_tick_6 (pc2 := 7) rfl ?_
  refine g_iconst (v := (3 : Int32)) hc (by decide) dL_tick_7 (pc2 := 8) rfl ?_
  obtain ⟨r2, s2, hp, hf⟩ := bd_some hf
  refine g_vI hc (kz6_turnIn (ni_some hp)) co_L_35 (u0 (by decide)) rfl rfl (by decide) (by decide) (Nat.le_of_ble_eq_true rfl) dL_tick_8 (pc2 := 11) rfl ?_
  refine g_istore_n (i := 3) (L1 := [(3, .int r2), (2, .int r1), (0, .ref (ad κ.1 0 0)), (1, .int a2)]) hc rfl (by decide) rfl dL_tick_11 (pc2 := 12) rfl ?_
  refine g_aload_n (i := 0) hc 2 rfl rfl dL_tick_12 (pc2 := 13) rfl ?_
  refine g_iload_n (i := 1) hc 3 rfl rfl dL_tick_13 (pc2 := 14) rfl ?_
  obtain ⟨r3, s3, hp, hf⟩ := bd_some hf
  refine g_vI hc (kz6_doneIn (ni_some hp)) co_L_26 (u0 (by decide)) rfl rfl (by decide) (by decide) (Nat.le_of_ble_eq_true rfl) dL_tick_14 (pc2 := 17) rfl ?_
  refine g_istore (L1 := [(4, .int r3), (3, .int r2), (2, .int r1), (0, .ref (ad κ.1 0 0)), (1, .int a2)]) hc (by decide) rfl dL_tick_17 (pc2 := 19) rfl ?_
  refine g_aload_n (i := 0) hc 3 rfl rfl dL_tick_19 (pc2 := 20) rfl ?_
  refine g_iconst (v := (3 : Int32)) hc (by decide) dL_tick_20 (pc2 := 21) rfl ?_
  obtain ⟨r4, s4, hp, hf⟩ := bd_some hf
  refine g_vI hc (kz6_about (ni_some hp)) co_L_9 (u0 (by decide)) rfl rfl (by decide) (by decide) (Nat.le_of_ble_eq_true rfl) dL_tick_21 (pc2 := 24) rfl ?_
  refine g_istore (L1 := [(5, .int r4), (4, .int r3), (3, .int r2), (2, .int r1), (0, .ref (ad κ.1 0 0)), (1, .int a2)]) hc (by decide) rfl dL_tick_24 (pc2 := 26) rfl ?_
  refine g_aload_n (i := 0) hc 4 rfl rfl dL_tick_26 (pc2 := 27) rfl ?_
  refine g_iload_n (i := 1) hc 5 rfl rfl dL_tick_27 (pc2 := 28) rfl ?_
  refine g_bipush (v := (10 : Int32)) hc (by decide) dL_tick_28 (pc2 := 30) rfl ?_
  obtain ⟨r5, s5, hp, hf⟩ := bd_some hf
  refine g_vI hc (kz6_master (ni_some hp)) co_L_15 (u0 (by decide)) rfl rfl (by decide) (by decide) (Nat.le_of_ble_eq_true rfl) dL_tick_30 (pc2 := 33) rfl ?_
  refine g_istore (L1 := [(6, .int r5), (5, .int r4), (4, .int r3), (3, .int r2), (2, .int r1), (0, .ref (ad κ.1 0 0)), (1, .int a2)]) hc (by decide) rfl dL_tick_33 (pc2 := 35) rfl ?_
  refine g_aload_n (i := 0) hc 5 rfl rfl dL_tick_35 (pc2 := 36) rfl ?_
  refine g_iload_n (i := 1) hc 6 rfl rfl dL_tick_36 (pc2 := 37) rfl ?_
  refine g_iconst (v := (4 : Int32)) hc (by decide) dL_tick_37 (pc2 := 38) rfl ?_
  obtain ⟨r6, s6, hp, hf⟩ := bd_some hf
  refine g_vI hc (kz6_master (ni_some hp)) co_L_15 (u0 (by decide)) rfl rfl (by decide) (by decide) (Nat.le_of_ble_eq_true rfl) dL_tick_38 (pc2 := 41) rfl ?_
  refine g_istore (L1 := [(7, .int r6), (6, .int r5), (5, .int r4), (4, .int r3), (3, .int r2), (2, .int r1), (0, .ref (ad κ.1 0 0)), (1, .int a2)]) hc (by decide) rfl dL_tick_41 (pc2 := 43) rfl ?_
  refine g_aload_n (i := 0) hc 6 rfl rfl dL_tick_43 (pc2 := 44) rfl ?_
  refine g_iconst (v := (1 : Int32)) hc (by decide) dL_tick_44 (pc2 := 45) rfl ?_
  obtain ⟨r7, s7, hp, hf⟩ := bd_some hf
  refine g_vI hc (kz6_pass (ni_some hp)) co_L_38 (u0 (by decide)) rfl rfl (by decide) (by decide) (Nat.le_of_ble_eq_true rfl) dL_tick_45 (pc2 := 48) rfl ?_
  refine g_iload_n (i := 2) hc 5 rfl rfl dL_tick_48 (pc2 := 49) rfl ?_
  obtain ⟨j1, hj1, hf⟩ := nm_ex hf
  have Hj1 : ∀ (y1 : Int32) (s8 : Mem), j1 y1 s8 = some (rR, sR) → G κ φ (QI κ φ (NV κ τ) sR rR rm_L_tick.cells rm_L_tick.slots) (NV κ τ) 0 0 s8 [(0, .ref (ad κ.1 0 0)), (1, .int a2), (2, .int r1), (3, .int r2), (4, .int r3), (5, .int r4), (6, .int r5), (7, .int r6)] 57 [.int y1, .int r7] := by
    intro y1 s8 hf
    rw [hj1] at hf
    obtain ⟨j2, hj2, hf⟩ := nm_ex hf
    have Hj2 : ∀ (y2 : Int32) (s9 : Mem), j2 y2 s9 = some (rR, sR) → G κ φ (QI κ φ (NV κ τ) sR rR rm_L_tick.cells rm_L_tick.slots) (NV κ τ) 0 0 s9 [(0, .ref (ad κ.1 0 0)), (1, .int a2), (2, .int r1), (4, .int r3), (6, .int r5), (7, .int r6)] 104 [.int y2] := by
      intro y2 s9 hf
      rw [hj2] at hf
      refine g_istore (L1 := [(8, .int y2), (0, .ref (ad κ.1 0 0)), (1, .int a2), (2, .int r1), (4, .int r3), (6, .int r5), (7, .int r6)]) hc (by decide) rfl dL_tick_104 (pc2 := 106) rfl ?_
      refine g_iload hc 0 rfl dL_tick_106 (pc2 := 108) rfl ?_
      obtain ⟨j3, hj3, hf⟩ := nm_ex hf
      have Hj3 : ∀ (y3 : Int32) (s10 : Mem), j3 y3 s10 = some (rR, sR) → G κ φ (QI κ φ (NV κ τ) sR rR rm_L_tick.cells rm_L_tick.slots) (NV κ τ) 0 0 s10 [(0, .ref (ad κ.1 0 0)), (1, .int a2), (2, .int r1), (6, .int r5), (7, .int r6)] 148 [.int y3] := by
        intro y3 s10 hf
        rw [hj3] at hf
        refine g_istore (L1 := [(8, .int y3), (0, .ref (ad κ.1 0 0)), (1, .int a2), (2, .int r1), (6, .int r5), (7, .int r6)]) hc (by decide) rfl dL_tick_148 (pc2 := 150) rfl ?_
        refine g_iload hc 0 rfl dL_tick_150 (pc2 := 152) rfl ?_
        obtain ⟨j4, hj4, hf⟩ := nm_ex hf
        have Hj4 : ∀ (y4 : Int32) (s11 : Mem), j4 y4 s11 = some (rR, sR) → G κ φ (QI κ φ (NV κ τ) sR rR rm_L_tick.cells rm_L_tick.slots) (NV κ τ) 0 0 s11 [(0, .ref (ad κ.1 0 0))] 207 [.int y4] := by
          intro y4 s11 hf
          rw [hj4] at hf
          refine g_istore (L1 := [(8, .int y4), (0, .ref (ad κ.1 0 0))]) hc (by decide) rfl dL_tick_207 (pc2 := 209) rfl ?_
          refine g_iconst (v := (0 : Int32)) hc (by decide) dL_tick_209 (pc2 := 210) rfl ?_
          refine g_istore (L1 := [(9, .int (0 : Int32)), (8, .int y4), (0, .ref (ad κ.1 0 0))]) hc (by decide) rfl dL_tick_210 (pc2 := 212) rfl ?_
          obtain ⟨k1, hk1, hf⟩ := nm_ex hf
          have Hk1 : ∀ (y5 : Int32) (s12 : Mem), k1 y5 s12 = some (rR, sR) → G κ φ (QI κ φ (NV κ τ) sR rR rm_L_tick.cells rm_L_tick.slots) (NV κ τ) 0 0 s12 [(8, .int y5)] 259 [] := by
            intro y5 s12 hf
            rw [hk1] at hf
            refine g_iload hc 0 rfl dL_tick_259 (pc2 := 261) rfl ?_
            obtain ⟨hg1, hf⟩ := gd_some hf
            exact g_iret hc hf hr (zok_n hg1) (by decide) (by decide) dL_tick_261
          have LP_n1 : ∀ (n1 : Nat) (m1 : Int32) (m2 : Int32) (s13 : Mem), fL_tick_l212 k1 n1 m1 m2 s13 = some (rR, sR) → G κ φ (QI κ φ (NV κ τ) sR rR rm_L_tick.cells rm_L_tick.slots) (NV κ τ) 0 0 s13 [(0, .ref (ad κ.1 0 0)), (8, .int m1), (9, .int m2)] 212 [] := by
            intro n1
            induction n1 with
            | zero => intro m1 m2 s13 hf; rw [fL_tick_l212] at hf; cases hf
            | succ n1 ih_n1 =>
              intro m1 m2 s13 hf
              rw [fL_tick_l212] at hf
              refine g_iload hc 2 rfl dL_tick_212 (pc2 := 214) rfl ?_
              refine g_aload_n (i := 0) hc 0 rfl rfl dL_tick_214 (pc2 := 215) rfl ?_
              refine g_iconst (v := (0 : Int32)) hc (by decide) dL_tick_215 (pc2 := 216) rfl ?_
              obtain ⟨r8, s14, hp, hf⟩ := bd_some hf
              refine g_vI hc (kz6_about (ni_some hp)) co_L_9 (u0 (by decide)) rfl rfl (by decide) (by decide) (Nat.le_of_ble_eq_true rfl) dL_tick_216 (pc2 := 219) rfl ?_
              refine g_icmp_ge hc 259 (by decide) dL_tick_219 (pc2 := 222) rfl (fun q => ?_) (fun q => ?_)
              · have hf := ite_t hf q
                refine g_sub [1] rfl ?_
                exact Hk1 _ _ hf
              · have hf := ite_f hf q
                refine g_iload hc 1 rfl dL_tick_222 (pc2 := 224) rfl ?_
                refine g_if_eq hc 259 (by decide) dL_tick_224 (pc2 := 227) rfl (fun q => ?_) (fun q => ?_)
                · have hf := ite_t hf q
                  refine g_sub [1] rfl ?_
                  exact Hk1 _ _ hf
                · have hf := ite_f hf q
                  refine g_aload_n (i := 0) hc 0 rfl rfl dL_tick_227 (pc2 := 228) rfl ?_
                  refine g_iload hc 2 rfl dL_tick_228 (pc2 := 230) rfl ?_
                  refine g_iconst (v := (1 : Int32)) hc (by decide) dL_tick_230 (pc2 := 231) rfl ?_
                  obtain ⟨r9, s15, hp, hf⟩ := bd_some hf
                  refine g_vI hc (kz6_master (ni_some hp)) co_L_15 (u0 (by decide)) rfl rfl (by decide) (by decide) (Nat.le_of_ble_eq_true rfl) dL_tick_231 (pc2 := 234) rfl ?_
                  refine g_iconst (v := (4 : Int32)) hc (by decide) dL_tick_234 (pc2 := 235) rfl ?_
                  refine g_aload_n (i := 0) hc 0 rfl rfl dL_tick_235 (pc2 := 236) rfl ?_
                  refine g_iload hc 2 rfl dL_tick_236 (pc2 := 238) rfl ?_
                  refine g_iconst (v := (0 : Int32)) hc (by decide) dL_tick_238 (pc2 := 239) rfl ?_
                  obtain ⟨r10, s16, hp, hf⟩ := bd_some hf
                  refine g_vI hc (kz6_master (ni_some hp)) co_L_15 (u0 (by decide)) rfl rfl (by decide) (by decide) (Nat.le_of_ble_eq_true rfl) dL_tick_239 (pc2 := 242) rfl ?_
                  refine g_imul hc dL_tick_242 (pc2 := 243) rfl ?_
                  obtain ⟨j5, hj5, hf⟩ := nm_ex hf
                  have Hj5 : ∀ (y6 : Int32) (s17 : Mem), j5 y6 s17 = some (rR, sR) → G κ φ (QI κ φ (NV κ τ) sR rR rm_L_tick.cells rm_L_tick.slots) (NV κ τ) 0 0 s17 [(0, .ref (ad κ.1 0 0)), (9, .int m2)] 251 [.int y6] := by
                    intro y6 s17 hf
                    rw [hj5] at hf
                    refine g_istore (L1 := [(8, .int y6), (0, .ref (ad κ.1 0 0)), (9, .int m2)]) hc (by decide) rfl dL_tick_251 (pc2 := 253) rfl ?_
                    obtain ⟨x1, hx1, hf⟩ := nm_ex hf
                    refine g_iinc (v := x1) (L1 := [(9, .int x1), (8, .int y6), (0, .ref (ad κ.1 0 0))]) hc 2 rfl (by rw [hx1]; rfl) (by decide) rfl dL_tick_253 (pc2 := 256) rfl ?_
                    refine g_goto hc 212 (by decide) dL_tick_256 ?_
                    refine g_sub [2, 1, 0] rfl ?_
                    exact ih_n1 _ _ _ hf
                  refine g_icmp_gt hc 250 (by decide) dL_tick_243 (pc2 := 246) rfl (fun q => ?_) (fun q => ?_)
                  · have hf := ite_t hf q
                    refine g_iconst (v := (0 : Int32)) hc (by decide) dL_tick_250 (pc2 := 251) rfl ?_
                    refine g_sub [0, 2] rfl ?_
                    exact Hj5 _ _ hf
                  · have hf := ite_f hf q
                    refine g_iconst (v := (1 : Int32)) hc (by decide) dL_tick_246 (pc2 := 247) rfl ?_
                    refine g_goto hc 251 (by decide) dL_tick_247 ?_
                    refine g_sub [0, 2] rfl ?_
                    exact Hj5 _ _ hf
          refine g_sub [2, 1, 0] rfl ?_
          exact LP_n1 _ _ _ _ hf
        obtain ⟨j6, hj6, hf⟩ := nm_ex hf
        have Hj6 : ∀ (s18 : Mem), j6 s18 = some (rR, sR) → G κ φ (QI κ φ (NV κ τ) sR rR rm_L_tick.cells rm_L_tick.slots) (NV κ τ) 0 0 s18 [(0, .ref (ad κ.1 0 0))] 206 [] := by
          intro s18 hf
          rw [hj6] at hf
          refine g_iconst (v := (0 : Int32)) hc (by decide) dL_tick_206 (pc2 := 207) rfl ?_
          exact Hj4 _ _ hf
        refine g_if_eq hc 206 (by decide) dL_tick_152 (pc2 := 155) rfl (fun q => ?_) (fun q => ?_)
        · have hf := ite_t hf q
          refine g_sub [1] rfl ?_
          exact Hj6 _ hf
        · have hf := ite_f hf q
          refine g_aload_n (i := 0) hc 1 rfl rfl dL_tick_155 (pc2 := 156) rfl ?_
          refine g_bipush (v := (9 : Int32)) hc (by decide) dL_tick_156 (pc2 := 158) rfl ?_
          obtain ⟨r11, s19, hp, hf⟩ := bd_some hf
          refine g_vI hc (kz6_about (ni_some hp)) co_L_9 (u0 (by decide)) rfl rfl (by decide) (by decide) (Nat.le_of_ble_eq_true rfl) dL_tick_158 (pc2 := 161) rfl ?_
          refine g_iload_n (i := 1) hc 2 rfl rfl dL_tick_161 (pc2 := 162) rfl ?_
          refine g_ishr hc dL_tick_162 (pc2 := 163) rfl ?_
          refine g_iconst (v := (1 : Int32)) hc (by decide) dL_tick_163 (pc2 := 164) rfl ?_
          refine g_iand hc dL_tick_164 (pc2 := 165) rfl ?_
          refine g_iconst (v := (1 : Int32)) hc (by decide) dL_tick_165 (pc2 := 166) rfl ?_
          obtain ⟨j7, hj7, hf⟩ := nm_ex hf
          have Hj7 : ∀ (s20 : Mem), j7 s20 = some (rR, sR) → G κ φ (QI κ φ (NV κ τ) sR rR rm_L_tick.cells rm_L_tick.slots) (NV κ τ) 0 0 s20 [(0, .ref (ad κ.1 0 0))] 202 [] := by
            intro s20 hf
            rw [hj7] at hf
            refine g_iconst (v := (1 : Int32)) hc (by decide) dL_tick_202 (pc2 := 203) rfl ?_
            refine g_goto hc 207 (by decide) dL_tick_203 ?_
            exact Hj4 _ _ hf
          refine g_icmp_eq hc 202 (by decide) dL_tick_166 (pc2 := 169) rfl (fun q => ?_) (fun q => ?_)
          · have hf := ite_t hf q
            refine g_sub [1] rfl ?_
            exact Hj7 _ hf
          · have hf := ite_f hf q
            refine g_aload_n (i := 0) hc 1 rfl rfl dL_tick_169 (pc2 := 170) rfl ?_
            refine g_iload_n (i := 1) hc 2 rfl rfl dL_tick_170 (pc2 := 171) rfl ?_
            refine g_bipush (v := (10 : Int32)) hc (by decide) dL_tick_171 (pc2 := 173) rfl ?_
            obtain ⟨r12, s21, hp, hf⟩ := bd_some hf
            refine g_vI hc (kz6_master (ni_some hp)) co_L_15 (u0 (by decide)) rfl rfl (by decide) (by decide) (Nat.le_of_ble_eq_true rfl) dL_tick_173 (pc2 := 176) rfl ?_
            refine g_iload hc 4 rfl dL_tick_176 (pc2 := 178) rfl ?_
            refine g_isub hc dL_tick_178 (pc2 := 179) rfl ?_
            refine g_iload hc 5 rfl dL_tick_179 (pc2 := 181) rfl ?_
            refine g_iadd hc dL_tick_181 (pc2 := 182) rfl ?_
            refine g_aload_n (i := 0) hc 1 rfl rfl dL_tick_182 (pc2 := 183) rfl ?_
            refine g_iload_n (i := 1) hc 2 rfl rfl dL_tick_183 (pc2 := 184) rfl ?_
            refine g_iconst (v := (4 : Int32)) hc (by decide) dL_tick_184 (pc2 := 185) rfl ?_
            obtain ⟨r13, s22, hp, hf⟩ := bd_some hf
            refine g_vI hc (kz6_master (ni_some hp)) co_L_15 (u0 (by decide)) rfl rfl (by decide) (by decide) (Nat.le_of_ble_eq_true rfl) dL_tick_185 (pc2 := 188) rfl ?_
            refine g_isub hc dL_tick_188 (pc2 := 189) rfl ?_
            refine g_iload_n (i := 2) hc 3 rfl rfl dL_tick_189 (pc2 := 190) rfl ?_
            refine g_iload_n (i := 1) hc 2 rfl rfl dL_tick_190 (pc2 := 191) rfl ?_
            obtain ⟨j8, hj8, hf⟩ := nm_ex hf
            have Hj8 : ∀ (y7 : Int32) (s23 : Mem), j8 y7 s23 = some (rR, sR) → G κ φ (QI κ φ (NV κ τ) sR rR rm_L_tick.cells rm_L_tick.slots) (NV κ τ) 0 0 s23 [(0, .ref (ad κ.1 0 0))] 199 [.int y7, .int (((r12 - r5) + r6) - r13)] := by
              intro y7 s23 hf
              rw [hj8] at hf
              refine g_icmp_ne hc 206 (by decide) dL_tick_199 (pc2 := 202) rfl (fun q => ?_) (fun q => ?_)
              · have hf := ite_f hf q
                exact Hj6 _ hf
              · have hf := ite_t hf q
                exact Hj7 _ hf
            refine g_icmp_ne hc 198 (by decide) dL_tick_191 (pc2 := 194) rfl (fun q => ?_) (fun q => ?_)
            · have hf := ite_f hf q
              refine g_iconst (v := (0 : Int32)) hc (by decide) dL_tick_198 (pc2 := 199) rfl ?_
              refine g_sub [1] rfl ?_
              exact Hj8 _ _ hf
            · have hf := ite_t hf q
              refine g_iconst (v := (1 : Int32)) hc (by decide) dL_tick_194 (pc2 := 195) rfl ?_
              refine g_goto hc 199 (by decide) dL_tick_195 ?_
              refine g_sub [1] rfl ?_
              exact Hj8 _ _ hf
      obtain ⟨j9, hj9, hf⟩ := nm_ex hf
      have Hj9 : ∀ (s24 : Mem), j9 s24 = some (rR, sR) → G κ φ (QI κ φ (NV κ τ) sR rR rm_L_tick.cells rm_L_tick.slots) (NV κ τ) 0 0 s24 [(0, .ref (ad κ.1 0 0)), (1, .int a2), (2, .int r1), (6, .int r5), (7, .int r6)] 147 [] := by
        intro s24 hf
        rw [hj9] at hf
        refine g_iconst (v := (0 : Int32)) hc (by decide) dL_tick_147 (pc2 := 148) rfl ?_
        exact Hj3 _ _ hf
      refine g_if_eq hc 147 (by decide) dL_tick_108 (pc2 := 111) rfl (fun q => ?_) (fun q => ?_)
      · have hf := ite_t hf q
        refine g_sub [1, 2, 3, 5, 6] rfl ?_
        exact Hj9 _ hf
      · have hf := ite_f hf q
        refine g_iload hc 4 rfl dL_tick_111 (pc2 := 113) rfl ?_
        refine g_iconst (v := (1 : Int32)) hc (by decide) dL_tick_113 (pc2 := 114) rfl ?_
        obtain ⟨j10, hj10, hf⟩ := nm_ex hf
        have Hj10 : ∀ (s25 : Mem), j10 s25 = some (rR, sR) → G κ φ (QI κ φ (NV κ τ) sR rR rm_L_tick.cells rm_L_tick.slots) (NV κ τ) 0 0 s25 [(0, .ref (ad κ.1 0 0)), (1, .int a2), (2, .int r1), (6, .int r5), (7, .int r6)] 143 [] := by
          intro s25 hf
          rw [hj10] at hf
          refine g_iconst (v := (1 : Int32)) hc (by decide) dL_tick_143 (pc2 := 144) rfl ?_
          refine g_goto hc 148 (by decide) dL_tick_144 ?_
          exact Hj3 _ _ hf
        refine g_icmp_lt hc 143 (by decide) dL_tick_114 (pc2 := 117) rfl (fun q => ?_) (fun q => ?_)
        · have hf := ite_t hf q
          refine g_sub [1, 2, 3, 5, 6] rfl ?_
          exact Hj10 _ hf
        · have hf := ite_f hf q
          refine g_aload_n (i := 0) hc 1 rfl rfl dL_tick_117 (pc2 := 118) rfl ?_
          refine g_iload_n (i := 1) hc 2 rfl rfl dL_tick_118 (pc2 := 119) rfl ?_
          obtain ⟨r14, s26, hp, hf⟩ := bd_some hf
          refine g_vI hc (kz6_doneIn (ni_some hp)) co_L_26 (u0 (by decide)) rfl rfl (by decide) (by decide) (Nat.le_of_ble_eq_true rfl) dL_tick_119 (pc2 := 122) rfl ?_
          refine g_iload hc 4 rfl dL_tick_122 (pc2 := 124) rfl ?_
          refine g_iconst (v := (1 : Int32)) hc (by decide) dL_tick_124 (pc2 := 125) rfl ?_
          refine g_isub hc dL_tick_125 (pc2 := 126) rfl ?_
          refine g_icmp_eq hc 143 (by decide) dL_tick_126 (pc2 := 129) rfl (fun q => ?_) (fun q => ?_)
          · have hf := ite_t hf q
            refine g_sub [1, 2, 3, 5, 6] rfl ?_
            exact Hj10 _ hf
          · have hf := ite_f hf q
            refine g_aload_n (i := 0) hc 1 rfl rfl dL_tick_129 (pc2 := 130) rfl ?_
            refine g_bipush (v := (9 : Int32)) hc (by decide) dL_tick_130 (pc2 := 132) rfl ?_
            obtain ⟨r15, s27, hp, hf⟩ := bd_some hf
            refine g_vI hc (kz6_about (ni_some hp)) co_L_9 (u0 (by decide)) rfl rfl (by decide) (by decide) (Nat.le_of_ble_eq_true rfl) dL_tick_132 (pc2 := 135) rfl ?_
            refine g_iload_n (i := 1) hc 2 rfl rfl dL_tick_135 (pc2 := 136) rfl ?_
            refine g_ishr hc dL_tick_136 (pc2 := 137) rfl ?_
            refine g_iconst (v := (1 : Int32)) hc (by decide) dL_tick_137 (pc2 := 138) rfl ?_
            refine g_iand hc dL_tick_138 (pc2 := 139) rfl ?_
            refine g_iconst (v := (1 : Int32)) hc (by decide) dL_tick_139 (pc2 := 140) rfl ?_
            refine g_icmp_ne hc 147 (by decide) dL_tick_140 (pc2 := 143) rfl (fun q => ?_) (fun q => ?_)
            · have hf := ite_f hf q
              refine g_sub [1, 2, 3, 5, 6] rfl ?_
              exact Hj9 _ hf
            · have hf := ite_t hf q
              refine g_sub [1, 2, 3, 5, 6] rfl ?_
              exact Hj10 _ hf
    obtain ⟨j11, hj11, hf⟩ := nm_ex hf
    have Hj11 : ∀ (s28 : Mem), j11 s28 = some (rR, sR) → G κ φ (QI κ φ (NV κ τ) sR rR rm_L_tick.cells rm_L_tick.slots) (NV κ τ) 0 0 s28 [(0, .ref (ad κ.1 0 0)), (1, .int a2), (2, .int r1), (4, .int r3), (6, .int r5), (7, .int r6)] 103 [] := by
      intro s28 hf
      rw [hj11] at hf
      refine g_iconst (v := (0 : Int32)) hc (by decide) dL_tick_103 (pc2 := 104) rfl ?_
      exact Hj2 _ _ hf
    refine g_icmp_ne hc 103 (by decide) dL_tick_57 (pc2 := 60) rfl (fun q => ?_) (fun q => ?_)
    · have hf := ite_f hf q
      refine g_sub [0, 1, 2, 4, 6, 7] rfl ?_
      exact Hj11 _ hf
    · have hf := ite_t hf q
      refine g_aload_n (i := 0) hc 0 rfl rfl dL_tick_60 (pc2 := 61) rfl ?_
      refine g_bipush (v := (8 : Int32)) hc (by decide) dL_tick_61 (pc2 := 63) rfl ?_
      obtain ⟨r16, s29, hp, hf⟩ := bd_some hf
      refine g_vI hc (kz6_about (ni_some hp)) co_L_9 (u0 (by decide)) rfl rfl (by decide) (by decide) (Nat.le_of_ble_eq_true rfl) dL_tick_63 (pc2 := 66) rfl ?_
      refine g_iload_n (i := 2) hc 2 rfl rfl dL_tick_66 (pc2 := 67) rfl ?_
      refine g_icmp_ne hc 103 (by decide) dL_tick_67 (pc2 := 70) rfl (fun q => ?_) (fun q => ?_)
      · have hf := ite_f hf q
        refine g_sub [0, 1, 2, 4, 6, 7] rfl ?_
        exact Hj11 _ hf
      · have hf := ite_t hf q
        refine g_aload_n (i := 0) hc 0 rfl rfl dL_tick_70 (pc2 := 71) rfl ?_
        refine g_iconst (v := (3 : Int32)) hc (by decide) dL_tick_71 (pc2 := 72) rfl ?_
        obtain ⟨r17, s30, hp, hf⟩ := bd_some hf
        refine g_vI hc (kz6_about (ni_some hp)) co_L_9 (u0 (by decide)) rfl rfl (by decide) (by decide) (Nat.le_of_ble_eq_true rfl) dL_tick_72 (pc2 := 75) rfl ?_
        refine g_iload hc 5 rfl dL_tick_75 (pc2 := 77) rfl ?_
        refine g_iload_n (i := 2) hc 2 rfl rfl dL_tick_77 (pc2 := 78) rfl ?_
        obtain ⟨j12, hj12, hf⟩ := nm_ex hf
        have Hj12 : ∀ (y8 : Int32) (s31 : Mem), j12 y8 s31 = some (rR, sR) → G κ φ (QI κ φ (NV κ τ) sR rR rm_L_tick.cells rm_L_tick.slots) (NV κ τ) 0 0 s31 [(0, .ref (ad κ.1 0 0)), (1, .int a2), (2, .int r1), (3, .int r2), (4, .int r3), (6, .int r5), (7, .int r6)] 86 [.int y8, .int r4, .int r17] := by
          intro y8 s31 hf
          rw [hj12] at hf
          refine g_iadd hc dL_tick_86 (pc2 := 87) rfl ?_
          refine g_icmp_ne hc 103 (by decide) dL_tick_87 (pc2 := 90) rfl (fun q => ?_) (fun q => ?_)
          · have hf := ite_f hf q
            refine g_sub [0, 1, 2, 4, 5, 6] rfl ?_
            exact Hj11 _ hf
          · have hf := ite_t hf q
            refine g_aload_n (i := 0) hc 0 rfl rfl dL_tick_90 (pc2 := 91) rfl ?_
            refine g_iconst (v := (2 : Int32)) hc (by decide) dL_tick_91 (pc2 := 92) rfl ?_
            obtain ⟨r18, s32, hp, hf⟩ := bd_some hf
            refine g_vI hc (kz6_turnIn (ni_some hp)) co_L_35 (u0 (by decide)) rfl rfl (by decide) (by decide) (Nat.le_of_ble_eq_true rfl) dL_tick_92 (pc2 := 95) rfl ?_
            refine g_iload_n (i := 3) hc 3 rfl rfl dL_tick_95 (pc2 := 96) rfl ?_
            refine g_icmp_ne hc 103 (by decide) dL_tick_96 (pc2 := 99) rfl (fun q => ?_) (fun q => ?_)
            · have hf := ite_f hf q
              refine g_sub [0, 1, 2, 4, 5, 6] rfl ?_
              exact Hj11 _ hf
            · have hf := ite_t hf q
              refine g_iconst (v := (1 : Int32)) hc (by decide) dL_tick_99 (pc2 := 100) rfl ?_
              refine g_goto hc 104 (by decide) dL_tick_100 ?_
              refine g_sub [0, 1, 2, 4, 5, 6] rfl ?_
              exact Hj2 _ _ hf
        refine g_if_ge hc 85 (by decide) dL_tick_78 (pc2 := 81) rfl (fun q => ?_) (fun q => ?_)
        · have hf := ite_t hf q
          refine g_iconst (v := (0 : Int32)) hc (by decide) dL_tick_85 (pc2 := 86) rfl ?_
          refine g_sub [0, 1, 2, 3, 4, 6, 7] rfl ?_
          exact Hj12 _ _ hf
        · have hf := ite_f hf q
          refine g_iconst (v := (1 : Int32)) hc (by decide) dL_tick_81 (pc2 := 82) rfl ?_
          refine g_goto hc 86 (by decide) dL_tick_82 ?_
          refine g_sub [0, 1, 2, 3, 4, 6, 7] rfl ?_
          exact Hj12 _ _ hf
  refine g_if_ge hc 56 (by decide) dL_tick_49 (pc2 := 52) rfl (fun q => ?_) (fun q => ?_)
  · have hf := ite_t hf q
    refine g_iconst (v := (1 : Int32)) hc (by decide) dL_tick_56 (pc2 := 57) rfl ?_
    refine g_sub [6, 7, 5, 4, 3, 2, 1, 0] rfl ?_
    exact Hj1 _ _ hf
  · have hf := ite_f hf q
    refine g_iconst (v := (0 : Int32)) hc (by decide) dL_tick_52 (pc2 := 53) rfl ?_
    refine g_goto hc 57 (by decide) dL_tick_53 ?_
    refine g_sub [6, 7, 5, 4, 3, 2, 1, 0] rfl ?_
    exact Hj1 _ _ hf
def fL_acts (a2 : Int32) (s0 : Mem) : Option (Int32 × Mem) :=
  nm (a2 >>> ((3 : Int32) &&& 31)) fun x1 => bd (ni (f6_about (0 : Int32) s0)) fun r1 s1 => gd (nz r1) (nm (x1 - x1 / r1 * r1) fun x2 => bd (ni (f6_about (0 : Int32) s1)) fun r2 s2 => gd (nz r2) (nm ((x1 >>> ((3 : Int32) &&& 31)) - (x1 >>> ((3 : Int32) &&& 31)) / r2 * r2) fun x3 => nm (fun (s3 : Mem) => bd (ni (f6_master x2 (3 : Int32) s3)) fun r3 s4 => nm (fun (y1 : Int32) (s5 : Mem) => nm ((1 : Int32) + ((x1 >>> ((6 : Int32) &&& 31)) - (x1 >>> ((6 : Int32) &&& 31)) / (8 : Int32) * (8 : Int32))) fun x4 => nm ((x1 >>> ((9 : Int32) &&& 31)) - (x1 >>> ((9 : Int32) &&& 31)) / (4 : Int32) * (4 : Int32)) fun x5 => nm (fun (s6 : Mem) => some ((1 : Int32), s6)) fun j3 => (if y1 = (0 : Int32) then j3 s5 else nm (fun (y2 : Int32) (s7 : Mem) => bd (ni (f6_send x2 x5 x4 y2 s7)) fun r4 s8 => nm (fun (s9 : Mem) => some ((0 : Int32), s9)) fun j5 => (if r4 = (r3 + (1 : Int32)) then bd (ni (f6_burst x2 r3 (0 : Int32) s8)) fun r5 s10 => (if r5 = x5 then bd (ni (f6_burst x2 r3 (1 : Int32) s10)) fun r6 s11 => (if r6 = x4 then bd (ni (f6_burst x2 r3 (2 : Int32) s11)) fun r7 s12 => (if r7 = ((x1 >>> ((11 : Int32) &&& 31)) &&& (1 : Int32)) then j3 s12 else j5 s12) else j5 s11) else j5 s10) else j5 s8)) fun j4 => (if ((x1 >>> ((11 : Int32) &&& 31)) &&& (1 : Int32)) = (1 : Int32) then j4 (1 : Int32) s5 else j4 (0 : Int32) s5))) fun j2 => nm (fun (s13 : Mem) => j2 (0 : Int32) s13) fun j6 => (if (6 : Int32) ≤ r3 then j6 s4 else bd (ni (f6_about (9 : Int32) s4)) fun r8 s14 => (if ((r8 >>> (x2 &&& 31)) &&& (1 : Int32)) = (0 : Int32) then j2 (1 : Int32) s14 else j6 s14))) fun j1 => nm (fun (s15 : Mem) => bd (fL_tick x2 s15) fun r9 s16 => gd (zok r9) (some (r9, s16))) fun j7 => (if (a2 &&& (7 : Int32)) = (0 : Int32) then j1 s2 else (if (a2 &&& (7 : Int32)) = (1 : Int32) then j1 s2 else (if (a2 &&& (7 : Int32)) = (2 : Int32) then j1 s2 else (if (a2 &&& (7 : Int32)) = (3 : Int32) then j7 s2 else (if (a2 &&& (7 : Int32)) = (4 : Int32) then j7 s2 else (if (a2 &&& (7 : Int32)) = (5 : Int32) then nm ((1 : Int32) + ((x1 >>> ((4 : Int32) &&& 31)) - (x1 >>> ((4 : Int32) &&& 31)) / (20 : Int32) * (20 : Int32))) fun x6 => bd (ni (f6_about (2 : Int32) s2)) fun r10 s17 => bd (ni (f6_about (3 : Int32) s17)) fun r11 s18 => bd (ni (f6_pass x6 s18)) fun r12 s19 => bd (ni (f6_about (3 : Int32) s19)) fun r13 s20 => nm (fun (s21 : Mem) => some ((0 : Int32), s21)) fun j8 => (if r12 = (x6 - (r13 - r11)) then bd (ni (f6_about (2 : Int32) s20)) fun r14 s22 => (if r14 = (r10 + x6) then some ((1 : Int32), s22) else j8 s22) else j8 s20) else (if (a2 &&& (7 : Int32)) = (6 : Int32) then bd (ni (f6_about (1 : Int32) s2)) fun r15 s23 => gd (nz r15) (nm ((x1 >>> ((3 : Int32) &&& 31)) - (x1 >>> ((3 : Int32) &&& 31)) / r15 * r15) fun x7 => bd (ni (f6_owner x7 s23)) fun r16 s24 => (if ((x1 >>> ((8 : Int32) &&& 31)) &&& (1 : Int32)) = (1 : Int32) then bd (ni (f6_setLatency (x1 - x1 / (4 : Int32) * (4 : Int32)) ((x1 >>> ((9 : Int32) &&& 31)) - (x1 >>> ((9 : Int32) &&& 31)) / (10 : Int32) * (10 : Int32)) s24)) fun r20 s30 => (if r20 < (0 : Int32) then some ((0 : Int32), s30) else some ((1 : Int32), s30)) else bd (ni (f6_about (9 : Int32) s24)) fun r17 s25 => nm (fun (s26 : Mem) => some ((1 : Int32), s26)) fun j9 => (if ((r17 >>> (x2 &&& 31)) &&& (1 : Int32)) = (1 : Int32) then j9 s25 else bd (ni (f6_give x7 x2 s25)) fun r18 s27 => nm (fun (s28 : Mem) => some ((0 : Int32), s28)) fun j10 => (if r18 = r16 then bd (ni (f6_owner x7 s27)) fun r19 s29 => (if r19 = x2 then j9 s29 else j10 s29) else j10 s27)))) else bd (ni (f6_owes x2 x3 s2)) fun r21 s31 => (if (x1 &&& (12 : Int32)) = (0 : Int32) then bd (ni (f6_forgive x2 x3 s31)) fun r27 s39 => nm (fun (s40 : Mem) => some ((0 : Int32), s40)) fun j13 => (if r27 = r21 then bd (ni (f6_owes x2 x3 s39)) fun r28 s41 => (if r28 = (0 : Int32) then some ((1 : Int32), s41) else j13 s41) else j13 s39) else nm (fun (s32 : Mem) => bd (ni (f6_setCredit ((x1 >>> ((5 : Int32) &&& 31)) - (x1 >>> ((5 : Int32) &&& 31)) / (10 : Int32) * (10 : Int32)) s32)) fun r22 s33 => nm (fun (s34 : Mem) => some ((0 : Int32), s34)) fun j12 => (if r22 < (0 : Int32) then j12 s33 else bd (ni (f6_about (4 : Int32) s33)) fun r23 s35 => (if r23 = ((x1 >>> ((5 : Int32) &&& 31)) - (x1 >>> ((5 : Int32) &&& 31)) / (10 : Int32) * (10 : Int32)) then some ((1 : Int32), s35) else j12 s35))) fun j11 => (if (x1 &&& (12 : Int32)) = (4 : Int32) then bd (ni (f6_about (0 : Int32) s31)) fun r24 s36 => (if (6 : Int32) ≤ r24 then j11 s36 else bd (ni (f6_addMaster s36)) fun r25 s37 => bd (ni (f6_about (0 : Int32) s37)) fun r26 s38 => (if r25 = (r26 - (1 : Int32)) then some ((1 : Int32), s38) else some ((0 : Int32), s38))) else j11 s31)))))))))))
def rm_L_acts : Room := { frames := 7, cells := 0, slots := 0, locals := 168 }
set_option maxHeartbeats 4000000 in
set_option maxRecDepth 100000 in
theorem kL_acts {κ : Kx} {τ : Nat → Int64} {a2 : Int32} {s0 sR : Mem} {rR : Int32}  (hf : fL_acts a2 s0 = some (rR, sR)) : CtI κ yL_acts cL_acts 15 (some .boolean) rm_L_acts (NV κ τ) (NV κ τ) [.ref (ad κ.1 0 0), .int a2] s0 sR rR := by
  refine ct_I (by decide +kernel) (Nat.le_of_ble_eq_true rfl) (fun φ hc hr => ?_)
  have hc : Cx κ φ RL cL_acts 15 rm_L_acts := hc
  show G κ φ (QI κ φ (NV κ τ) sR rR rm_L_acts.cells rm_L_acts.slots) (NV κ τ) 0 0 s0 [(0, .ref (ad κ.1 0 0)), (1, .int a2)] 0 []
  unfold fL_acts at hf
  refine g_iload_n (i := 1) hc 1 rfl rfl dL_acts_0 (pc2 := 1) rfl ?_
  refine g_iconst (v := (3 : Int32)) hc (by decide) dL_acts_1 (pc2 := 2) rfl ?_
  refine g_ishr hc dL_acts_2 (pc2 := 3) rfl ?_
  obtain ⟨x1, hx1, hf⟩ := nm_ex hf
  refine g_nmi hx1 ?_
  refine g_istore_n (i := 2) (L1 := [(2, .int x1), (0, .ref (ad κ.1 0 0)), (1, .int a2)]) hc rfl (by decide) rfl dL_acts_3 (pc2 := 4) rfl ?_
  refine g_iload_n (i := 2) hc 0 rfl rfl dL_acts_4 (pc2 := 5) rfl ?_
  refine g_aload_n (i := 0) hc 1 rfl rfl dL_acts_5 (pc2 := 6) rfl ?_
  refine g_iconst (v := (0 : Int32)) hc (by decide) dL_acts_6 (pc2 := 7) rfl ?_
  obtain ⟨r1, s1, hp, hf⟩ := bd_some hf
  refine g_vI hc (kz6_about (ni_some hp)) co_L_9 (u0 (by decide)) rfl rfl (by decide) (by decide) (Nat.le_of_ble_eq_true rfl) dL_acts_7 (pc2 := 10) rfl ?_
  obtain ⟨hg1, hf⟩ := gd_some hf
  refine g_irem hc (nz_of hg1) dL_acts_10 (pc2 := 11) rfl ?_
  obtain ⟨x2, hx2, hf⟩ := nm_ex hf
  refine g_nmi hx2 ?_
  refine g_istore_n (i := 3) (L1 := [(3, .int x2), (2, .int x1), (0, .ref (ad κ.1 0 0)), (1, .int a2)]) hc rfl (by decide) rfl dL_acts_11 (pc2 := 12) rfl ?_
  refine g_iload_n (i := 2) hc 1 rfl rfl dL_acts_12 (pc2 := 13) rfl ?_
  refine g_iconst (v := (3 : Int32)) hc (by decide) dL_acts_13 (pc2 := 14) rfl ?_
  refine g_ishr hc dL_acts_14 (pc2 := 15) rfl ?_
  refine g_aload_n (i := 0) hc 2 rfl rfl dL_acts_15 (pc2 := 16) rfl ?_
  refine g_iconst (v := (0 : Int32)) hc (by decide) dL_acts_16 (pc2 := 17) rfl ?_
  obtain ⟨r2, s2, hp, hf⟩ := bd_some hf
  refine g_vI hc (kz6_about (ni_some hp)) co_L_9 (u0 (by decide)) rfl rfl (by decide) (by decide) (Nat.le_of_ble_eq_true rfl) dL_acts_17 (pc2 := 20) rfl ?_
  obtain ⟨hg2, hf⟩ := gd_some hf
  refine g_irem hc (nz_of hg2) dL_acts_20 (pc2 := 21) rfl ?_
  obtain ⟨x3, hx3, hf⟩ := nm_ex hf
  refine g_nmi hx3 ?_
  refine g_istore (L1 := [(4, .int x3), (3, .int x2), (2, .int x1), (0, .ref (ad κ.1 0 0)), (1, .int a2)]) hc (by decide) rfl dL_acts_21 (pc2 := 23) rfl ?_
  refine g_iload_n (i := 1) hc 4 rfl rfl dL_acts_23 (pc2 := 24) rfl ?_
  refine g_bipush (v := (7 : Int32)) hc (by decide) dL_acts_24 (pc2 := 26) rfl ?_
  refine g_iand hc dL_acts_26 (pc2 := 27) rfl ?_
  obtain ⟨j1, hj1, hf⟩ := nm_ex hf
  have Hj1 : ∀ (s3 : Mem), j1 s3 = some (rR, sR) → G κ φ (QI κ φ (NV κ τ) sR rR rm_L_acts.cells rm_L_acts.slots) (NV κ τ) 0 0 s3 [(0, .ref (ad κ.1 0 0)), (2, .int x1), (3, .int x2)] 68 [] := by
    intro s3 hf
    rw [hj1] at hf
    refine g_aload_n (i := 0) hc 0 rfl rfl dL_acts_68 (pc2 := 69) rfl ?_
    refine g_iload_n (i := 3) hc 2 rfl rfl dL_acts_69 (pc2 := 70) rfl ?_
    refine g_iconst (v := (3 : Int32)) hc (by decide) dL_acts_70 (pc2 := 71) rfl ?_
    obtain ⟨r3, s4, hp, hf⟩ := bd_some hf
    refine g_vI hc (kz6_master (ni_some hp)) co_L_15 (u0 (by decide)) rfl rfl (by decide) (by decide) (Nat.le_of_ble_eq_true rfl) dL_acts_71 (pc2 := 74) rfl ?_
    refine g_istore (L1 := [(5, .int r3), (0, .ref (ad κ.1 0 0)), (2, .int x1), (3, .int x2)]) hc (by decide) rfl dL_acts_74 (pc2 := 76) rfl ?_
    refine g_iload hc 0 rfl dL_acts_76 (pc2 := 78) rfl ?_
    refine g_bipush (v := (6 : Int32)) hc (by decide) dL_acts_78 (pc2 := 80) rfl ?_
    obtain ⟨j2, hj2, hf⟩ := nm_ex hf
    have Hj2 : ∀ (y1 : Int32) (s5 : Mem), j2 y1 s5 = some (rR, sR) → G κ φ (QI κ φ (NV κ τ) sR rR rm_L_acts.cells rm_L_acts.slots) (NV κ τ) 0 0 s5 [(0, .ref (ad κ.1 0 0)), (2, .int x1), (3, .int x2), (5, .int r3)] 101 [.int y1] := by
      intro y1 s5 hf
      rw [hj2] at hf
      refine g_istore (L1 := [(6, .int y1), (0, .ref (ad κ.1 0 0)), (2, .int x1), (3, .int x2), (5, .int r3)]) hc (by decide) rfl dL_acts_101 (pc2 := 103) rfl ?_
      refine g_iconst (v := (1 : Int32)) hc (by decide) dL_acts_103 (pc2 := 104) rfl ?_
      refine g_iload_n (i := 2) hc 2 rfl rfl dL_acts_104 (pc2 := 105) rfl ?_
      refine g_bipush (v := (6 : Int32)) hc (by decide) dL_acts_105 (pc2 := 107) rfl ?_
      refine g_ishr hc dL_acts_107 (pc2 := 108) rfl ?_
      refine g_bipush (v := (8 : Int32)) hc (by decide) dL_acts_108 (pc2 := 110) rfl ?_
      refine g_irem hc (by decide) dL_acts_110 (pc2 := 111) rfl ?_
      refine g_iadd hc dL_acts_111 (pc2 := 112) rfl ?_
      obtain ⟨x4, hx4, hf⟩ := nm_ex hf
      refine g_nmi hx4 ?_
      refine g_istore (L1 := [(7, .int x4), (6, .int y1), (0, .ref (ad κ.1 0 0)), (2, .int x1), (3, .int x2), (5, .int r3)]) hc (by decide) rfl dL_acts_112 (pc2 := 114) rfl ?_
      refine g_iload_n (i := 2) hc 3 rfl rfl dL_acts_114 (pc2 := 115) rfl ?_
      refine g_bipush (v := (9 : Int32)) hc (by decide) dL_acts_115 (pc2 := 117) rfl ?_
      refine g_ishr hc dL_acts_117 (pc2 := 118) rfl ?_
      refine g_iconst (v := (4 : Int32)) hc (by decide) dL_acts_118 (pc2 := 119) rfl ?_
      refine g_irem hc (by decide) dL_acts_119 (pc2 := 120) rfl ?_
      obtain ⟨x5, hx5, hf⟩ := nm_ex hf
      refine g_nmi hx5 ?_
      refine g_istore (L1 := [(8, .int x5), (7, .int x4), (6, .int y1), (0, .ref (ad κ.1 0 0)), (2, .int x1), (3, .int x2), (5, .int r3)]) hc (by decide) rfl dL_acts_120 (pc2 := 122) rfl ?_
      refine g_iload hc 2 rfl dL_acts_122 (pc2 := 124) rfl ?_
      obtain ⟨j3, hj3, hf⟩ := nm_ex hf
      have Hj3 : ∀ (s6 : Mem), j3 s6 = some (rR, sR) → G κ φ (QI κ φ (NV κ τ) sR rR rm_L_acts.cells rm_L_acts.slots) (NV κ τ) 0 0 s6 [] 201 [] := by
        intro s6 hf
        rw [hj3] at hf
        refine g_iconst (v := (1 : Int32)) hc (by decide) dL_acts_201 (pc2 := 202) rfl ?_
        refine g_goto hc 206 (by decide) dL_acts_202 ?_
        exact g_iret hc hf hr rfl (by decide) (by decide) dL_acts_206
      refine g_if_eq hc 201 (by decide) dL_acts_124 (pc2 := 127) rfl (fun q => ?_) (fun q => ?_)
      · have hf := ite_t hf q
        refine g_sub [] rfl ?_
        exact Hj3 _ hf
      · have hf := ite_f hf q
        refine g_aload_n (i := 0) hc 3 rfl rfl dL_acts_127 (pc2 := 128) rfl ?_
        refine g_iload_n (i := 3) hc 5 rfl rfl dL_acts_128 (pc2 := 129) rfl ?_
        refine g_iload hc 0 rfl dL_acts_129 (pc2 := 131) rfl ?_
        refine g_iload hc 1 rfl dL_acts_131 (pc2 := 133) rfl ?_
        refine g_iload_n (i := 2) hc 4 rfl rfl dL_acts_133 (pc2 := 134) rfl ?_
        refine g_bipush (v := (11 : Int32)) hc (by decide) dL_acts_134 (pc2 := 136) rfl ?_
        refine g_ishr hc dL_acts_136 (pc2 := 137) rfl ?_
        refine g_iconst (v := (1 : Int32)) hc (by decide) dL_acts_137 (pc2 := 138) rfl ?_
        refine g_iand hc dL_acts_138 (pc2 := 139) rfl ?_
        refine g_iconst (v := (1 : Int32)) hc (by decide) dL_acts_139 (pc2 := 140) rfl ?_
        obtain ⟨j4, hj4, hf⟩ := nm_ex hf
        have Hj4 : ∀ (y2 : Int32) (s7 : Mem), j4 y2 s7 = some (rR, sR) → G κ φ (QI κ φ (NV κ τ) sR rR rm_L_acts.cells rm_L_acts.slots) (NV κ τ) 0 0 s7 [(0, .ref (ad κ.1 0 0)), (2, .int x1), (3, .int x2), (5, .int r3), (7, .int x4), (8, .int x5)] 148 [.int y2, .int x4, .int x5, .int x2, .ref (ad κ.1 0 0)] := by
          intro y2 s7 hf
          rw [hj4] at hf
          obtain ⟨r4, s8, hp, hf⟩ := bd_some hf
          refine g_vI hc (kz6_send (ni_some hp)) co_L_41 (u0 (by decide)) rfl rfl (by decide) (by decide) (Nat.le_of_ble_eq_true rfl) dL_acts_148 (pc2 := 151) rfl ?_
          refine g_iload hc 3 rfl dL_acts_151 (pc2 := 153) rfl ?_
          refine g_iconst (v := (1 : Int32)) hc (by decide) dL_acts_153 (pc2 := 154) rfl ?_
          refine g_iadd hc dL_acts_154 (pc2 := 155) rfl ?_
          obtain ⟨j5, hj5, hf⟩ := nm_ex hf
          have Hj5 : ∀ (s9 : Mem), j5 s9 = some (rR, sR) → G κ φ (QI κ φ (NV κ τ) sR rR rm_L_acts.cells rm_L_acts.slots) (NV κ τ) 0 0 s9 [] 205 [] := by
            intro s9 hf
            rw [hj5] at hf
            refine g_iconst (v := (0 : Int32)) hc (by decide) dL_acts_205 (pc2 := 206) rfl ?_
            exact g_iret hc hf hr rfl (by decide) (by decide) dL_acts_206
          refine g_icmp_ne hc 205 (by decide) dL_acts_155 (pc2 := 158) rfl (fun q => ?_) (fun q => ?_)
          · have hf := ite_f hf q
            refine g_sub [] rfl ?_
            exact Hj5 _ hf
          · have hf := ite_t hf q
            refine g_aload_n (i := 0) hc 0 rfl rfl dL_acts_158 (pc2 := 159) rfl ?_
            refine g_iload_n (i := 3) hc 2 rfl rfl dL_acts_159 (pc2 := 160) rfl ?_
            refine g_iload hc 3 rfl dL_acts_160 (pc2 := 162) rfl ?_
            refine g_iconst (v := (0 : Int32)) hc (by decide) dL_acts_162 (pc2 := 163) rfl ?_
            obtain ⟨r5, s10, hp, hf⟩ := bd_some hf
            refine g_vI hc (kz6_burst (ni_some hp)) co_L_22 (u0 (by decide)) rfl rfl (by decide) (by decide) (Nat.le_of_ble_eq_true rfl) dL_acts_163 (pc2 := 166) rfl ?_
            refine g_iload hc 5 rfl dL_acts_166 (pc2 := 168) rfl ?_
            refine g_icmp_ne hc 205 (by decide) dL_acts_168 (pc2 := 171) rfl (fun q => ?_) (fun q => ?_)
            · have hf := ite_f hf q
              refine g_sub [] rfl ?_
              exact Hj5 _ hf
            · have hf := ite_t hf q
              refine g_aload_n (i := 0) hc 0 rfl rfl dL_acts_171 (pc2 := 172) rfl ?_
              refine g_iload_n (i := 3) hc 2 rfl rfl dL_acts_172 (pc2 := 173) rfl ?_
              refine g_iload hc 3 rfl dL_acts_173 (pc2 := 175) rfl ?_
              refine g_iconst (v := (1 : Int32)) hc (by decide) dL_acts_175 (pc2 := 176) rfl ?_
              obtain ⟨r6, s11, hp, hf⟩ := bd_some hf
              refine g_vI hc (kz6_burst (ni_some hp)) co_L_22 (u0 (by decide)) rfl rfl (by decide) (by decide) (Nat.le_of_ble_eq_true rfl) dL_acts_176 (pc2 := 179) rfl ?_
              refine g_iload hc 4 rfl dL_acts_179 (pc2 := 181) rfl ?_
              refine g_icmp_ne hc 205 (by decide) dL_acts_181 (pc2 := 184) rfl (fun q => ?_) (fun q => ?_)
              · have hf := ite_f hf q
                refine g_sub [] rfl ?_
                exact Hj5 _ hf
              · have hf := ite_t hf q
                refine g_aload_n (i := 0) hc 0 rfl rfl dL_acts_184 (pc2 := 185) rfl ?_
                refine g_iload_n (i := 3) hc 2 rfl rfl dL_acts_185 (pc2 := 186) rfl ?_
                refine g_iload hc 3 rfl dL_acts_186 (pc2 := 188) rfl ?_
                refine g_iconst (v := (2 : Int32)) hc (by decide) dL_acts_188 (pc2 := 189) rfl ?_
                obtain ⟨r7, s12, hp, hf⟩ := bd_some hf
                refine g_vI hc (kz6_burst (ni_some hp)) co_L_22 (u0 (by decide)) rfl rfl (by decide) (by decide) (Nat.le_of_ble_eq_true rfl) dL_acts_189 (pc2 := 192) rfl ?_
                refine g_iload_n (i := 2) hc 1 rfl rfl dL_acts_192 (pc2 := 193) rfl ?_
                refine g_bipush (v := (11 : Int32)) hc (by decide) dL_acts_193 (pc2 := 195) rfl ?_
                refine g_ishr hc dL_acts_195 (pc2 := 196) rfl ?_
                refine g_iconst (v := (1 : Int32)) hc (by decide) dL_acts_196 (pc2 := 197) rfl ?_
                refine g_iand hc dL_acts_197 (pc2 := 198) rfl ?_
                refine g_icmp_ne hc 205 (by decide) dL_acts_198 (pc2 := 201) rfl (fun q => ?_) (fun q => ?_)
                · have hf := ite_f hf q
                  refine g_sub [] rfl ?_
                  exact Hj5 _ hf
                · have hf := ite_t hf q
                  refine g_sub [] rfl ?_
                  exact Hj3 _ hf
        refine g_icmp_ne hc 147 (by decide) dL_acts_140 (pc2 := 143) rfl (fun q => ?_) (fun q => ?_)
        · have hf := ite_f hf q
          refine g_iconst (v := (0 : Int32)) hc (by decide) dL_acts_147 (pc2 := 148) rfl ?_
          refine g_sub [3, 4, 5, 6, 1, 0] rfl ?_
          exact Hj4 _ _ hf
        · have hf := ite_t hf q
          refine g_iconst (v := (1 : Int32)) hc (by decide) dL_acts_143 (pc2 := 144) rfl ?_
          refine g_goto hc 148 (by decide) dL_acts_144 ?_
          refine g_sub [3, 4, 5, 6, 1, 0] rfl ?_
          exact Hj4 _ _ hf
    obtain ⟨j6, hj6, hf⟩ := nm_ex hf
    have Hj6 : ∀ (s13 : Mem), j6 s13 = some (rR, sR) → G κ φ (QI κ φ (NV κ τ) sR rR rm_L_acts.cells rm_L_acts.slots) (NV κ τ) 0 0 s13 [(0, .ref (ad κ.1 0 0)), (2, .int x1), (3, .int x2), (5, .int r3)] 100 [] := by
      intro s13 hf
      rw [hj6] at hf
      refine g_iconst (v := (0 : Int32)) hc (by decide) dL_acts_100 (pc2 := 101) rfl ?_
      exact Hj2 _ _ hf
    refine g_icmp_ge hc 100 (by decide) dL_acts_80 (pc2 := 83) rfl (fun q => ?_) (fun q => ?_)
    · have hf := ite_t hf q
      refine g_sub [1, 2, 3, 0] rfl ?_
      exact Hj6 _ hf
    · have hf := ite_f hf q
      refine g_aload_n (i := 0) hc 1 rfl rfl dL_acts_83 (pc2 := 84) rfl ?_
      refine g_bipush (v := (9 : Int32)) hc (by decide) dL_acts_84 (pc2 := 86) rfl ?_
      obtain ⟨r8, s14, hp, hf⟩ := bd_some hf
      refine g_vI hc (kz6_about (ni_some hp)) co_L_9 (u0 (by decide)) rfl rfl (by decide) (by decide) (Nat.le_of_ble_eq_true rfl) dL_acts_86 (pc2 := 89) rfl ?_
      refine g_iload_n (i := 3) hc 3 rfl rfl dL_acts_89 (pc2 := 90) rfl ?_
      refine g_ishr hc dL_acts_90 (pc2 := 91) rfl ?_
      refine g_iconst (v := (1 : Int32)) hc (by decide) dL_acts_91 (pc2 := 92) rfl ?_
      refine g_iand hc dL_acts_92 (pc2 := 93) rfl ?_
      refine g_if_ne hc 100 (by decide) dL_acts_93 (pc2 := 96) rfl (fun q => ?_) (fun q => ?_)
      · have hf := ite_f hf q
        refine g_sub [1, 2, 3, 0] rfl ?_
        exact Hj6 _ hf
      · have hf := ite_t hf q
        refine g_iconst (v := (1 : Int32)) hc (by decide) dL_acts_96 (pc2 := 97) rfl ?_
        refine g_goto hc 101 (by decide) dL_acts_97 ?_
        refine g_sub [1, 2, 3, 0] rfl ?_
        exact Hj2 _ _ hf
  obtain ⟨j7, hj7, hf⟩ := nm_ex hf
  have Hj7 : ∀ (s15 : Mem), j7 s15 = some (rR, sR) → G κ φ (QI κ φ (NV κ τ) sR rR rm_L_acts.cells rm_L_acts.slots) (NV κ τ) 0 0 s15 [(0, .ref (ad κ.1 0 0)), (3, .int x2)] 207 [] := by
    intro s15 hf
    rw [hj7] at hf
    refine g_aload_n (i := 0) hc 0 rfl rfl dL_acts_207 (pc2 := 208) rfl ?_
    refine g_iload_n (i := 3) hc 1 rfl rfl dL_acts_208 (pc2 := 209) rfl ?_
    obtain ⟨r9, s16, hp, hf⟩ := bd_some hf
    refine g_sI hc (kL_tick hp) co_L_45 rfl rfl (by decide) (by decide) (Nat.le_of_ble_eq_true rfl) dL_acts_209 (pc2 := 212) rfl ?_
    obtain ⟨hg3, hf⟩ := gd_some hf
    exact g_iret hc hf hr (zok_n hg3) (by decide) (by decide) dL_acts_212
  by_cases q0 : a2 &&& (7 : Int32) = (0 : Int32)
  · have hf := ite_t hf q0
    refine g_case hc 68 (0 : Int32) q0 (by decide) (by decide) rfl (by decide) dL_acts_27 ?_
    refine g_sub [3, 2, 1] rfl ?_
    exact Hj1 _ hf
  · have hf := ite_f hf q0
    by_cases q1 : a2 &&& (7 : Int32) = (1 : Int32)
    · have hf := ite_t hf q1
      refine g_case hc 68 (1 : Int32) q1 (by decide) (by decide) rfl (by decide) dL_acts_27 ?_
      refine g_sub [3, 2, 1] rfl ?_
      exact Hj1 _ hf
    · have hf := ite_f hf q1
      by_cases q2 : a2 &&& (7 : Int32) = (2 : Int32)
      · have hf := ite_t hf q2
        refine g_case hc 68 (2 : Int32) q2 (by decide) (by decide) rfl (by decide) dL_acts_27 ?_
        refine g_sub [3, 2, 1] rfl ?_
        exact Hj1 _ hf
      · have hf := ite_f hf q2
        by_cases q3 : a2 &&& (7 : Int32) = (3 : Int32)
        · have hf := ite_t hf q3
          refine g_case hc 207 (3 : Int32) q3 (by decide) (by decide) rfl (by decide) dL_acts_27 ?_
          refine g_sub [3, 1] rfl ?_
          exact Hj7 _ hf
        · have hf := ite_f hf q3
          by_cases q4 : a2 &&& (7 : Int32) = (4 : Int32)
          · have hf := ite_t hf q4
            refine g_case hc 207 (4 : Int32) q4 (by decide) (by decide) rfl (by decide) dL_acts_27 ?_
            refine g_sub [3, 1] rfl ?_
            exact Hj7 _ hf
          · have hf := ite_f hf q4
            by_cases q5 : a2 &&& (7 : Int32) = (5 : Int32)
            · have hf := ite_t hf q5
              refine g_case hc 213 (5 : Int32) q5 (by decide) (by decide) rfl (by decide) dL_acts_27 ?_
              refine g_iconst (v := (1 : Int32)) hc (by decide) dL_acts_213 (pc2 := 214) rfl ?_
              refine g_iload_n (i := 2) hc 2 rfl rfl dL_acts_214 (pc2 := 215) rfl ?_
              refine g_iconst (v := (4 : Int32)) hc (by decide) dL_acts_215 (pc2 := 216) rfl ?_
              refine g_ishr hc dL_acts_216 (pc2 := 217) rfl ?_
              refine g_bipush (v := (20 : Int32)) hc (by decide) dL_acts_217 (pc2 := 219) rfl ?_
              refine g_irem hc (by decide) dL_acts_219 (pc2 := 220) rfl ?_
              refine g_iadd hc dL_acts_220 (pc2 := 221) rfl ?_
              obtain ⟨x6, hx6, hf⟩ := nm_ex hf
              refine g_nmi hx6 ?_
              refine g_istore (L1 := [(9, .int x6), (4, .int x3), (3, .int x2), (2, .int x1), (0, .ref (ad κ.1 0 0)), (1, .int a2)]) hc (by decide) rfl dL_acts_221 (pc2 := 223) rfl ?_
              refine g_aload_n (i := 0) hc 4 rfl rfl dL_acts_223 (pc2 := 224) rfl ?_
              refine g_iconst (v := (2 : Int32)) hc (by decide) dL_acts_224 (pc2 := 225) rfl ?_
              obtain ⟨r10, s17, hp, hf⟩ := bd_some hf
              refine g_vI hc (kz6_about (ni_some hp)) co_L_9 (u0 (by decide)) rfl rfl (by decide) (by decide) (Nat.le_of_ble_eq_true rfl) dL_acts_225 (pc2 := 228) rfl ?_
              refine g_istore (L1 := [(10, .int r10), (9, .int x6), (4, .int x3), (3, .int x2), (2, .int x1), (0, .ref (ad κ.1 0 0)), (1, .int a2)]) hc (by decide) rfl dL_acts_228 (pc2 := 230) rfl ?_
              refine g_aload_n (i := 0) hc 5 rfl rfl dL_acts_230 (pc2 := 231) rfl ?_
              refine g_iconst (v := (3 : Int32)) hc (by decide) dL_acts_231 (pc2 := 232) rfl ?_
              obtain ⟨r11, s18, hp, hf⟩ := bd_some hf
              refine g_vI hc (kz6_about (ni_some hp)) co_L_9 (u0 (by decide)) rfl rfl (by decide) (by decide) (Nat.le_of_ble_eq_true rfl) dL_acts_232 (pc2 := 235) rfl ?_
              refine g_istore (L1 := [(11, .int r11), (10, .int r10), (9, .int x6), (4, .int x3), (3, .int x2), (2, .int x1), (0, .ref (ad κ.1 0 0)), (1, .int a2)]) hc (by decide) rfl dL_acts_235 (pc2 := 237) rfl ?_
              refine g_aload_n (i := 0) hc 6 rfl rfl dL_acts_237 (pc2 := 238) rfl ?_
              refine g_iload hc 2 rfl dL_acts_238 (pc2 := 240) rfl ?_
              obtain ⟨r12, s19, hp, hf⟩ := bd_some hf
              refine g_vI hc (kz6_pass (ni_some hp)) co_L_38 (u0 (by decide)) rfl rfl (by decide) (by decide) (Nat.le_of_ble_eq_true rfl) dL_acts_240 (pc2 := 243) rfl ?_
              refine g_iload hc 2 rfl dL_acts_243 (pc2 := 245) rfl ?_
              refine g_aload_n (i := 0) hc 6 rfl rfl dL_acts_245 (pc2 := 246) rfl ?_
              refine g_iconst (v := (3 : Int32)) hc (by decide) dL_acts_246 (pc2 := 247) rfl ?_
              obtain ⟨r13, s20, hp, hf⟩ := bd_some hf
              refine g_vI hc (kz6_about (ni_some hp)) co_L_9 (u0 (by decide)) rfl rfl (by decide) (by decide) (Nat.le_of_ble_eq_true rfl) dL_acts_247 (pc2 := 250) rfl ?_
              refine g_iload hc 0 rfl dL_acts_250 (pc2 := 252) rfl ?_
              refine g_isub hc dL_acts_252 (pc2 := 253) rfl ?_
              refine g_isub hc dL_acts_253 (pc2 := 254) rfl ?_
              obtain ⟨j8, hj8, hf⟩ := nm_ex hf
              have Hj8 : ∀ (s21 : Mem), j8 s21 = some (rR, sR) → G κ φ (QI κ φ (NV κ τ) sR rR rm_L_acts.cells rm_L_acts.slots) (NV κ τ) 0 0 s21 [] 274 [] := by
                intro s21 hf
                rw [hj8] at hf
                refine g_iconst (v := (0 : Int32)) hc (by decide) dL_acts_274 (pc2 := 275) rfl ?_
                exact g_iret hc hf hr rfl (by decide) (by decide) dL_acts_275
              refine g_icmp_ne hc 274 (by decide) dL_acts_254 (pc2 := 257) rfl (fun q => ?_) (fun q => ?_)
              · have hf := ite_f hf q
                refine g_sub [] rfl ?_
                exact Hj8 _ hf
              · have hf := ite_t hf q
                refine g_aload_n (i := 0) hc 6 rfl rfl dL_acts_257 (pc2 := 258) rfl ?_
                refine g_iconst (v := (2 : Int32)) hc (by decide) dL_acts_258 (pc2 := 259) rfl ?_
                obtain ⟨r14, s22, hp, hf⟩ := bd_some hf
                refine g_vI hc (kz6_about (ni_some hp)) co_L_9 (u0 (by decide)) rfl rfl (by decide) (by decide) (Nat.le_of_ble_eq_true rfl) dL_acts_259 (pc2 := 262) rfl ?_
                refine g_iload hc 1 rfl dL_acts_262 (pc2 := 264) rfl ?_
                refine g_iload hc 2 rfl dL_acts_264 (pc2 := 266) rfl ?_
                refine g_iadd hc dL_acts_266 (pc2 := 267) rfl ?_
                refine g_icmp_ne hc 274 (by decide) dL_acts_267 (pc2 := 270) rfl (fun q => ?_) (fun q => ?_)
                · have hf := ite_f hf q
                  refine g_sub [] rfl ?_
                  exact Hj8 _ hf
                · have hf := ite_t hf q
                  refine g_iconst (v := (1 : Int32)) hc (by decide) dL_acts_270 (pc2 := 271) rfl ?_
                  refine g_goto hc 275 (by decide) dL_acts_271 ?_
                  exact g_iret hc hf hr rfl (by decide) (by decide) dL_acts_275
            · have hf := ite_f hf q5
              by_cases q6 : a2 &&& (7 : Int32) = (6 : Int32)
              · have hf := ite_t hf q6
                refine g_case hc 276 (6 : Int32) q6 (by decide) (by decide) rfl (by decide) dL_acts_27 ?_
                refine g_iload_n (i := 2) hc 2 rfl rfl dL_acts_276 (pc2 := 277) rfl ?_
                refine g_iconst (v := (3 : Int32)) hc (by decide) dL_acts_277 (pc2 := 278) rfl ?_
                refine g_ishr hc dL_acts_278 (pc2 := 279) rfl ?_
                refine g_aload_n (i := 0) hc 3 rfl rfl dL_acts_279 (pc2 := 280) rfl ?_
                refine g_iconst (v := (1 : Int32)) hc (by decide) dL_acts_280 (pc2 := 281) rfl ?_
                obtain ⟨r15, s23, hp, hf⟩ := bd_some hf
                refine g_vI hc (kz6_about (ni_some hp)) co_L_9 (u0 (by decide)) rfl rfl (by decide) (by decide) (Nat.le_of_ble_eq_true rfl) dL_acts_281 (pc2 := 284) rfl ?_
                obtain ⟨hg4, hf⟩ := gd_some hf
                refine g_irem hc (nz_of hg4) dL_acts_284 (pc2 := 285) rfl ?_
                obtain ⟨x7, hx7, hf⟩ := nm_ex hf
                refine g_nmi hx7 ?_
                refine g_istore (L1 := [(12, .int x7), (4, .int x3), (3, .int x2), (2, .int x1), (0, .ref (ad κ.1 0 0)), (1, .int a2)]) hc (by decide) rfl dL_acts_285 (pc2 := 287) rfl ?_
                refine g_aload_n (i := 0) hc 4 rfl rfl dL_acts_287 (pc2 := 288) rfl ?_
                refine g_iload hc 0 rfl dL_acts_288 (pc2 := 290) rfl ?_
                obtain ⟨r16, s24, hp, hf⟩ := bd_some hf
                refine g_vI hc (kz6_owner (ni_some hp)) co_L_51 (u0 (by decide)) rfl rfl (by decide) (by decide) (Nat.le_of_ble_eq_true rfl) dL_acts_290 (pc2 := 293) rfl ?_
                refine g_istore (L1 := [(13, .int r16), (12, .int x7), (4, .int x3), (3, .int x2), (2, .int x1), (0, .ref (ad κ.1 0 0)), (1, .int a2)]) hc (by decide) rfl dL_acts_293 (pc2 := 295) rfl ?_
                refine g_iload_n (i := 2) hc 4 rfl rfl dL_acts_295 (pc2 := 296) rfl ?_
                refine g_bipush (v := (8 : Int32)) hc (by decide) dL_acts_296 (pc2 := 298) rfl ?_
                refine g_ishr hc dL_acts_298 (pc2 := 299) rfl ?_
                refine g_iconst (v := (1 : Int32)) hc (by decide) dL_acts_299 (pc2 := 300) rfl ?_
                refine g_iand hc dL_acts_300 (pc2 := 301) rfl ?_
                refine g_iconst (v := (1 : Int32)) hc (by decide) dL_acts_301 (pc2 := 302) rfl ?_
                refine g_icmp_ne hc 330 (by decide) dL_acts_302 (pc2 := 305) rfl (fun q => ?_) (fun q => ?_)
                · have hf := ite_f hf q
                  refine g_aload_n (i := 0) hc 5 rfl rfl dL_acts_330 (pc2 := 331) rfl ?_
                  refine g_bipush (v := (9 : Int32)) hc (by decide) dL_acts_331 (pc2 := 333) rfl ?_
                  obtain ⟨r17, s25, hp, hf⟩ := bd_some hf
                  refine g_vI hc (kz6_about (ni_some hp)) co_L_9 (u0 (by decide)) rfl rfl (by decide) (by decide) (Nat.le_of_ble_eq_true rfl) dL_acts_333 (pc2 := 336) rfl ?_
                  refine g_iload_n (i := 3) hc 3 rfl rfl dL_acts_336 (pc2 := 337) rfl ?_
                  refine g_ishr hc dL_acts_337 (pc2 := 338) rfl ?_
                  refine g_iconst (v := (1 : Int32)) hc (by decide) dL_acts_338 (pc2 := 339) rfl ?_
                  refine g_iand hc dL_acts_339 (pc2 := 340) rfl ?_
                  refine g_iconst (v := (1 : Int32)) hc (by decide) dL_acts_340 (pc2 := 341) rfl ?_
                  obtain ⟨j9, hj9, hf⟩ := nm_ex hf
                  have Hj9 : ∀ (s26 : Mem), j9 s26 = some (rR, sR) → G κ φ (QI κ φ (NV κ τ) sR rR rm_L_acts.cells rm_L_acts.slots) (NV κ τ) 0 0 s26 [] 366 [] := by
                    intro s26 hf
                    rw [hj9] at hf
                    refine g_iconst (v := (1 : Int32)) hc (by decide) dL_acts_366 (pc2 := 367) rfl ?_
                    refine g_goto hc 371 (by decide) dL_acts_367 ?_
                    exact g_iret hc hf hr rfl (by decide) (by decide) dL_acts_371
                  refine g_icmp_eq hc 366 (by decide) dL_acts_341 (pc2 := 344) rfl (fun q => ?_) (fun q => ?_)
                  · have hf := ite_t hf q
                    refine g_sub [] rfl ?_
                    exact Hj9 _ hf
                  · have hf := ite_f hf q
                    refine g_aload_n (i := 0) hc 5 rfl rfl dL_acts_344 (pc2 := 345) rfl ?_
                    refine g_iload hc 1 rfl dL_acts_345 (pc2 := 347) rfl ?_
                    refine g_iload_n (i := 3) hc 3 rfl rfl dL_acts_347 (pc2 := 348) rfl ?_
                    obtain ⟨r18, s27, hp, hf⟩ := bd_some hf
                    refine g_vI hc (kz6_give (ni_some hp)) co_L_57 (u0 (by decide)) rfl rfl (by decide) (by decide) (Nat.le_of_ble_eq_true rfl) dL_acts_348 (pc2 := 351) rfl ?_
                    refine g_iload hc 0 rfl dL_acts_351 (pc2 := 353) rfl ?_
                    obtain ⟨j10, hj10, hf⟩ := nm_ex hf
                    have Hj10 : ∀ (s28 : Mem), j10 s28 = some (rR, sR) → G κ φ (QI κ φ (NV κ τ) sR rR rm_L_acts.cells rm_L_acts.slots) (NV κ τ) 0 0 s28 [] 370 [] := by
                      intro s28 hf
                      rw [hj10] at hf
                      refine g_iconst (v := (0 : Int32)) hc (by decide) dL_acts_370 (pc2 := 371) rfl ?_
                      exact g_iret hc hf hr rfl (by decide) (by decide) dL_acts_371
                    refine g_icmp_ne hc 370 (by decide) dL_acts_353 (pc2 := 356) rfl (fun q => ?_) (fun q => ?_)
                    · have hf := ite_f hf q
                      refine g_sub [] rfl ?_
                      exact Hj10 _ hf
                    · have hf := ite_t hf q
                      refine g_aload_n (i := 0) hc 5 rfl rfl dL_acts_356 (pc2 := 357) rfl ?_
                      refine g_iload hc 1 rfl dL_acts_357 (pc2 := 359) rfl ?_
                      obtain ⟨r19, s29, hp, hf⟩ := bd_some hf
                      refine g_vI hc (kz6_owner (ni_some hp)) co_L_51 (u0 (by decide)) rfl rfl (by decide) (by decide) (Nat.le_of_ble_eq_true rfl) dL_acts_359 (pc2 := 362) rfl ?_
                      refine g_iload_n (i := 3) hc 3 rfl rfl dL_acts_362 (pc2 := 363) rfl ?_
                      refine g_icmp_ne hc 370 (by decide) dL_acts_363 (pc2 := 366) rfl (fun q => ?_) (fun q => ?_)
                      · have hf := ite_f hf q
                        refine g_sub [] rfl ?_
                        exact Hj10 _ hf
                      · have hf := ite_t hf q
                        refine g_sub [] rfl ?_
                        exact Hj9 _ hf
                · have hf := ite_t hf q
                  refine g_aload_n (i := 0) hc 5 rfl rfl dL_acts_305 (pc2 := 306) rfl ?_
                  refine g_iload_n (i := 2) hc 4 rfl rfl dL_acts_306 (pc2 := 307) rfl ?_
                  refine g_iconst (v := (4 : Int32)) hc (by decide) dL_acts_307 (pc2 := 308) rfl ?_
                  refine g_irem hc (by decide) dL_acts_308 (pc2 := 309) rfl ?_
                  refine g_iload_n (i := 2) hc 4 rfl rfl dL_acts_309 (pc2 := 310) rfl ?_
                  refine g_bipush (v := (9 : Int32)) hc (by decide) dL_acts_310 (pc2 := 312) rfl ?_
                  refine g_ishr hc dL_acts_312 (pc2 := 313) rfl ?_
                  refine g_bipush (v := (10 : Int32)) hc (by decide) dL_acts_313 (pc2 := 315) rfl ?_
                  refine g_irem hc (by decide) dL_acts_315 (pc2 := 316) rfl ?_
                  obtain ⟨r20, s30, hp, hf⟩ := bd_some hf
                  refine g_vI hc (kz6_setLatency (ni_some hp)) co_L_54 (u0 (by decide)) rfl rfl (by decide) (by decide) (Nat.le_of_ble_eq_true rfl) dL_acts_316 (pc2 := 319) rfl ?_
                  refine g_if_lt hc 326 (by decide) dL_acts_319 (pc2 := 322) rfl (fun q => ?_) (fun q => ?_)
                  · have hf := ite_t hf q
                    refine g_iconst (v := (0 : Int32)) hc (by decide) dL_acts_326 (pc2 := 327) rfl ?_
                    refine g_goto hc 371 (by decide) dL_acts_327 ?_
                    exact g_iret hc hf hr rfl (by decide) (by decide) dL_acts_371
                  · have hf := ite_f hf q
                    refine g_iconst (v := (1 : Int32)) hc (by decide) dL_acts_322 (pc2 := 323) rfl ?_
                    refine g_goto hc 371 (by decide) dL_acts_323 ?_
                    exact g_iret hc hf hr rfl (by decide) (by decide) dL_acts_371
              · have hf := ite_f hf q6
                refine g_tableOut hc 372 ?_ (by decide) dL_acts_27 ?_
                · have z0 := ne_i q0 (z := 0) (by decide) ; have z1 := ne_i q1 (z := 1) (by decide) ; have z2 := ne_i q2 (z := 2) (by decide) ; have z3 := ne_i q3 (z := 3) (by decide) ; have z4 := ne_i q4 (z := 4) (by decide) ; have z5 := ne_i q5 (z := 5) (by decide) ; have z6 := ne_i q6 (z := 6) (by decide) ; omega
                refine g_aload_n (i := 0) hc 3 rfl rfl dL_acts_372 (pc2 := 373) rfl ?_
                refine g_iload_n (i := 3) hc 1 rfl rfl dL_acts_373 (pc2 := 374) rfl ?_
                refine g_iload hc 0 rfl dL_acts_374 (pc2 := 376) rfl ?_
                obtain ⟨r21, s31, hp, hf⟩ := bd_some hf
                refine g_vI hc (kz6_owes (ni_some hp)) co_L_19 (u0 (by decide)) rfl rfl (by decide) (by decide) (Nat.le_of_ble_eq_true rfl) dL_acts_376 (pc2 := 379) rfl ?_
                refine g_istore (L1 := [(14, .int r21), (4, .int x3), (3, .int x2), (2, .int x1), (0, .ref (ad κ.1 0 0)), (1, .int a2)]) hc (by decide) rfl dL_acts_379 (pc2 := 381) rfl ?_
                refine g_iload_n (i := 2) hc 3 rfl rfl dL_acts_381 (pc2 := 382) rfl ?_
                refine g_bipush (v := (12 : Int32)) hc (by decide) dL_acts_382 (pc2 := 384) rfl ?_
                refine g_iand hc dL_acts_384 (pc2 := 385) rfl ?_
                refine g_if_ne hc 418 (by decide) dL_acts_385 (pc2 := 388) rfl (fun q => ?_) (fun q => ?_)
                · have hf := ite_f hf q
                  refine g_iload_n (i := 2) hc 3 rfl rfl dL_acts_418 (pc2 := 419) rfl ?_
                  refine g_bipush (v := (12 : Int32)) hc (by decide) dL_acts_419 (pc2 := 421) rfl ?_
                  refine g_iand hc dL_acts_421 (pc2 := 422) rfl ?_
                  refine g_iconst (v := (4 : Int32)) hc (by decide) dL_acts_422 (pc2 := 423) rfl ?_
                  obtain ⟨j11, hj11, hf⟩ := nm_ex hf
                  have Hj11 : ∀ (s32 : Mem), j11 s32 = some (rR, sR) → G κ φ (QI κ φ (NV κ τ) sR rR rm_L_acts.cells rm_L_acts.slots) (NV κ τ) 0 0 s32 [(0, .ref (ad κ.1 0 0)), (2, .int x1)] 458 [] := by
                    intro s32 hf
                    rw [hj11] at hf
                    refine g_aload_n (i := 0) hc 0 rfl rfl dL_acts_458 (pc2 := 459) rfl ?_
                    refine g_iload_n (i := 2) hc 1 rfl rfl dL_acts_459 (pc2 := 460) rfl ?_
                    refine g_iconst (v := (5 : Int32)) hc (by decide) dL_acts_460 (pc2 := 461) rfl ?_
                    refine g_ishr hc dL_acts_461 (pc2 := 462) rfl ?_
                    refine g_bipush (v := (10 : Int32)) hc (by decide) dL_acts_462 (pc2 := 464) rfl ?_
                    refine g_irem hc (by decide) dL_acts_464 (pc2 := 465) rfl ?_
                    obtain ⟨r22, s33, hp, hf⟩ := bd_some hf
                    refine g_vI hc (kz6_setCredit (ni_some hp)) co_L_67 (u0 (by decide)) rfl rfl (by decide) (by decide) (Nat.le_of_ble_eq_true rfl) dL_acts_465 (pc2 := 468) rfl ?_
                    obtain ⟨j12, hj12, hf⟩ := nm_ex hf
                    have Hj12 : ∀ (s34 : Mem), j12 s34 = some (rR, sR) → G κ φ (QI κ φ (NV κ τ) sR rR rm_L_acts.cells rm_L_acts.slots) (NV κ τ) 0 0 s34 [] 489 [] := by
                      intro s34 hf
                      rw [hj12] at hf
                      refine g_iconst (v := (0 : Int32)) hc (by decide) dL_acts_489 (pc2 := 490) rfl ?_
                      exact g_iret hc hf hr rfl (by decide) (by decide) dL_acts_490
                    refine g_if_lt hc 489 (by decide) dL_acts_468 (pc2 := 471) rfl (fun q => ?_) (fun q => ?_)
                    · have hf := ite_t hf q
                      refine g_sub [] rfl ?_
                      exact Hj12 _ hf
                    · have hf := ite_f hf q
                      refine g_aload_n (i := 0) hc 0 rfl rfl dL_acts_471 (pc2 := 472) rfl ?_
                      refine g_iconst (v := (4 : Int32)) hc (by decide) dL_acts_472 (pc2 := 473) rfl ?_
                      obtain ⟨r23, s35, hp, hf⟩ := bd_some hf
                      refine g_vI hc (kz6_about (ni_some hp)) co_L_9 (u0 (by decide)) rfl rfl (by decide) (by decide) (Nat.le_of_ble_eq_true rfl) dL_acts_473 (pc2 := 476) rfl ?_
                      refine g_iload_n (i := 2) hc 1 rfl rfl dL_acts_476 (pc2 := 477) rfl ?_
                      refine g_iconst (v := (5 : Int32)) hc (by decide) dL_acts_477 (pc2 := 478) rfl ?_
                      refine g_ishr hc dL_acts_478 (pc2 := 479) rfl ?_
                      refine g_bipush (v := (10 : Int32)) hc (by decide) dL_acts_479 (pc2 := 481) rfl ?_
                      refine g_irem hc (by decide) dL_acts_481 (pc2 := 482) rfl ?_
                      refine g_icmp_ne hc 489 (by decide) dL_acts_482 (pc2 := 485) rfl (fun q => ?_) (fun q => ?_)
                      · have hf := ite_f hf q
                        refine g_sub [] rfl ?_
                        exact Hj12 _ hf
                      · have hf := ite_t hf q
                        refine g_iconst (v := (1 : Int32)) hc (by decide) dL_acts_485 (pc2 := 486) rfl ?_
                        refine g_goto hc 490 (by decide) dL_acts_486 ?_
                        exact g_iret hc hf hr rfl (by decide) (by decide) dL_acts_490
                  refine g_icmp_ne hc 458 (by decide) dL_acts_423 (pc2 := 426) rfl (fun q => ?_) (fun q => ?_)
                  · have hf := ite_f hf q
                    refine g_sub [4, 3] rfl ?_
                    exact Hj11 _ hf
                  · have hf := ite_t hf q
                    refine g_aload_n (i := 0) hc 4 rfl rfl dL_acts_426 (pc2 := 427) rfl ?_
                    refine g_iconst (v := (0 : Int32)) hc (by decide) dL_acts_427 (pc2 := 428) rfl ?_
                    obtain ⟨r24, s36, hp, hf⟩ := bd_some hf
                    refine g_vI hc (kz6_about (ni_some hp)) co_L_9 (u0 (by decide)) rfl rfl (by decide) (by decide) (Nat.le_of_ble_eq_true rfl) dL_acts_428 (pc2 := 431) rfl ?_
                    refine g_bipush (v := (6 : Int32)) hc (by decide) dL_acts_431 (pc2 := 433) rfl ?_
                    refine g_icmp_ge hc 458 (by decide) dL_acts_433 (pc2 := 436) rfl (fun q => ?_) (fun q => ?_)
                    · have hf := ite_t hf q
                      refine g_sub [4, 3] rfl ?_
                      exact Hj11 _ hf
                    · have hf := ite_f hf q
                      refine g_aload_n (i := 0) hc 4 rfl rfl dL_acts_436 (pc2 := 437) rfl ?_
                      obtain ⟨r25, s37, hp, hf⟩ := bd_some hf
                      refine g_vI hc (kz6_addMaster (ni_some hp)) co_L_63 (u0 (by decide)) rfl rfl (by decide) (by decide) (Nat.le_of_ble_eq_true rfl) dL_acts_437 (pc2 := 440) rfl ?_
                      refine g_aload_n (i := 0) hc 4 rfl rfl dL_acts_440 (pc2 := 441) rfl ?_
                      refine g_iconst (v := (0 : Int32)) hc (by decide) dL_acts_441 (pc2 := 442) rfl ?_
                      obtain ⟨r26, s38, hp, hf⟩ := bd_some hf
                      refine g_vI hc (kz6_about (ni_some hp)) co_L_9 (u0 (by decide)) rfl rfl (by decide) (by decide) (Nat.le_of_ble_eq_true rfl) dL_acts_442 (pc2 := 445) rfl ?_
                      refine g_iconst (v := (1 : Int32)) hc (by decide) dL_acts_445 (pc2 := 446) rfl ?_
                      refine g_isub hc dL_acts_446 (pc2 := 447) rfl ?_
                      refine g_icmp_ne hc 454 (by decide) dL_acts_447 (pc2 := 450) rfl (fun q => ?_) (fun q => ?_)
                      · have hf := ite_f hf q
                        refine g_iconst (v := (0 : Int32)) hc (by decide) dL_acts_454 (pc2 := 455) rfl ?_
                        refine g_goto hc 490 (by decide) dL_acts_455 ?_
                        exact g_iret hc hf hr rfl (by decide) (by decide) dL_acts_490
                      · have hf := ite_t hf q
                        refine g_iconst (v := (1 : Int32)) hc (by decide) dL_acts_450 (pc2 := 451) rfl ?_
                        refine g_goto hc 490 (by decide) dL_acts_451 ?_
                        exact g_iret hc hf hr rfl (by decide) (by decide) dL_acts_490
                · have hf := ite_t hf q
                  refine g_aload_n (i := 0) hc 4 rfl rfl dL_acts_388 (pc2 := 389) rfl ?_
                  refine g_iload_n (i := 3) hc 2 rfl rfl dL_acts_389 (pc2 := 390) rfl ?_
                  refine g_iload hc 1 rfl dL_acts_390 (pc2 := 392) rfl ?_
                  obtain ⟨r27, s39, hp, hf⟩ := bd_some hf
                  refine g_vI hc (kz6_forgive (ni_some hp)) co_L_60 (u0 (by decide)) rfl rfl (by decide) (by decide) (Nat.le_of_ble_eq_true rfl) dL_acts_392 (pc2 := 395) rfl ?_
                  refine g_iload hc 0 rfl dL_acts_395 (pc2 := 397) rfl ?_
                  obtain ⟨j13, hj13, hf⟩ := nm_ex hf
                  have Hj13 : ∀ (s40 : Mem), j13 s40 = some (rR, sR) → G κ φ (QI κ φ (NV κ τ) sR rR rm_L_acts.cells rm_L_acts.slots) (NV κ τ) 0 0 s40 [] 414 [] := by
                    intro s40 hf
                    rw [hj13] at hf
                    refine g_iconst (v := (0 : Int32)) hc (by decide) dL_acts_414 (pc2 := 415) rfl ?_
                    refine g_goto hc 490 (by decide) dL_acts_415 ?_
                    exact g_iret hc hf hr rfl (by decide) (by decide) dL_acts_490
                  refine g_icmp_ne hc 414 (by decide) dL_acts_397 (pc2 := 400) rfl (fun q => ?_) (fun q => ?_)
                  · have hf := ite_f hf q
                    refine g_sub [] rfl ?_
                    exact Hj13 _ hf
                  · have hf := ite_t hf q
                    refine g_aload_n (i := 0) hc 4 rfl rfl dL_acts_400 (pc2 := 401) rfl ?_
                    refine g_iload_n (i := 3) hc 2 rfl rfl dL_acts_401 (pc2 := 402) rfl ?_
                    refine g_iload hc 1 rfl dL_acts_402 (pc2 := 404) rfl ?_
                    obtain ⟨r28, s41, hp, hf⟩ := bd_some hf
                    refine g_vI hc (kz6_owes (ni_some hp)) co_L_19 (u0 (by decide)) rfl rfl (by decide) (by decide) (Nat.le_of_ble_eq_true rfl) dL_acts_404 (pc2 := 407) rfl ?_
                    refine g_if_ne hc 414 (by decide) dL_acts_407 (pc2 := 410) rfl (fun q => ?_) (fun q => ?_)
                    · have hf := ite_f hf q
                      refine g_sub [] rfl ?_
                      exact Hj13 _ hf
                    · have hf := ite_t hf q
                      refine g_iconst (v := (1 : Int32)) hc (by decide) dL_acts_410 (pc2 := 411) rfl ?_
                      refine g_goto hc 490 (by decide) dL_acts_411 ?_
                      exact g_iret hc hf hr rfl (by decide) (by decide) dL_acts_490
def fL_law_l77 (Ls : Nat) (xs : Nat → Int32) (k1 : Int32 → Mem → Option (Int32 × Mem)) : Nat → Int32 → Int32 → Mem → Option (Int32 × Mem)
  | 0, _, _, _ => none
  | n1 + 1, m1, m2, s20 => (if (44 : Int32) ≤ m2 then k1 m1 s20 else (if m1 = (0 : Int32) then k1 m1 s20 else bd (fL_cell Ls xs m2 s20) fun r15 s21 => bd (fL_acts r15 s21) fun r16 s22 => nm (fun (y4 : Int32) (s23 : Mem) => nm (m2 + (1 : Int32)) fun x1 => fL_law_l77 Ls xs k1 n1 y4 x1 s23) fun j5 => nm (fun (s24 : Mem) => j5 (0 : Int32) s24) fun j6 => (if r16 = (0 : Int32) then j6 s22 else bd (fL_sound s22) fun r17 s25 => (if r17 = (0 : Int32) then j6 s25 else j5 (1 : Int32) s25))))
def fL_law (Ls : Nat) (xs : Nat → Int32) (s0 : Mem) : Option (Int32 × Mem) :=
  bd (ni (f6_about (0 : Int32) s0)) fun r1 s1 => nm (fun (y1 : Int32) (s2 : Mem) => nm (fun (y2 : Int32) (s3 : Mem) => bd (ni (f6_about (2 : Int32) s3)) fun r2 s4 => bd (ni (f6_about (5 : Int32) s4)) fun r3 s5 => bd (ni (f6_turnIn (7 : Int32) s5)) fun r4 s6 => nm (fun (y3 : Int32) (s7 : Mem) => nm (fun (s8 : Mem) => gd (zok (0 : Int32)) (some ((0 : Int32), s8))) fun j3 => (if y3 = (0 : Int32) then j3 s7 else bd (ni (f6_pass (9 : Int32) s7)) fun r5 s9 => (if r5 < (0 : Int32) then j3 s9 else bd (ni (f6_restore (0 : Int32) s9)) fun r6 s10 => (if r6 = r2 then bd (ni (f6_turnIn (7 : Int32) s10)) fun r7 s11 => (if r7 = r4 then bd (fL_sound s11) fun r8 s12 => (if r8 = (0 : Int32) then j3 s12 else gd (zok (1 : Int32)) (some ((1 : Int32), s12))) else j3 s11) else j3 s10)))) fun j2 => nm (fun (s13 : Mem) => j2 (0 : Int32) s13) fun j4 => (if y2 = (0 : Int32) then j4 s6 else bd (ni (f6_save (0 : Int32) s6)) fun r9 s14 => (if r9 = r2 then bd (ni (f6_pass (40 : Int32) s14)) fun r10 s15 => (if r10 < (0 : Int32) then j4 s15 else bd (ni (f6_undo s15)) fun r11 s16 => (if r11 < (0 : Int32) then j4 s16 else bd (ni (f6_about (2 : Int32) s16)) fun r12 s17 => (if r12 = r2 then bd (ni (f6_about (5 : Int32) s17)) fun r13 s18 => (if r13 = r3 then bd (ni (f6_turnIn (7 : Int32) s18)) fun r14 s19 => (if r14 = r4 then j2 (1 : Int32) s19 else j4 s19) else j4 s18) else j4 s17))) else j4 s14))) fun k1 => fL_law_l77 Ls xs k1 FU y1 (0 : Int32) s2) fun j1 => nm (fun (s26 : Mem) => j1 (0 : Int32) s26) fun j7 => (if r1 = (2 : Int32) then bd (ni (f6_about (1 : Int32) s1)) fun r18 s27 => (if r18 = (4 : Int32) then bd (ni (f6_about (4 : Int32) s27)) fun r19 s28 => (if r19 = (4 : Int32) then bd (ni (f6_about (8 : Int32) s28)) fun r20 s29 => (if r20 = (-9 : Int32) then bd (fL_sound s29) fun r21 s30 => (if r21 = (0 : Int32) then j7 s30 else bd (f6_errorPosition s30) fun r22 s31 => (if r22 = (0 : Int32) then bd (ni (f6_owner (3 : Int32) s31)) fun r23 s32 => (if r23 = (1 : Int32) then j1 (1 : Int32) s32 else j7 s32) else j7 s31)) else j7 s29) else j7 s28) else j7 s27) else j7 s1)
def rm_L_law : Room := { frames := 8, cells := 0, slots := 0, locals := 202 }
set_option maxHeartbeats 4000000 in
set_option maxRecDepth 100000 in
theorem kL_law {κ : Kx} {φ : Fr} {τ : Nat → Int64} {Q : State → Prop} {b Ls : Nat} {xs : Nat → Int32} {s0 sR : Mem} (hc : Cx κ φ RL cL_law 6 room_1) (hX : Xs κ φ b Ls xs) (hend : ∀ (V : Wv) (k n : Nat) (σ : Mem) (L : List (Nat × Value)), k ≤ 676151 → n ≤ 7073171 → G κ φ Q V k n σ L 249 [.int 1]) (hf : fL_law Ls xs s0 = some (1, sR)) : G κ φ Q (NV κ τ) 995 12304 s0 [(0, .ref b), (1, .ref (ad κ.1 0 0))] 8 [] := by
  unfold fL_law at hf
  refine g_aload_n (i := 1) hc 1 rfl rfl dL_law_8 (pc2 := 9) rfl ?_
  refine g_iconst (v := (0 : Int32)) hc (by decide) dL_law_9 (pc2 := 10) rfl ?_
  obtain ⟨r1, s1, hp, hf⟩ := bd_some hf
  refine g_vI hc (kz6_about (ni_some hp)) co_L_9 (u0 (by decide)) rfl rfl (by decide) (by decide) (Nat.le_of_ble_eq_true rfl) dL_law_10 (pc2 := 13) rfl ?_
  refine g_iconst (v := (2 : Int32)) hc (by decide) dL_law_13 (pc2 := 14) rfl ?_
  obtain ⟨j1, hj1, hf⟩ := nm_ex hf
  have Hj1 : ∀ (y1 : Int32) (s2 : Mem), j1 y1 s2 = some (1, sR) → G κ φ Q (NV κ τ) 995 12304 s2 [(0, .ref b), (1, .ref (ad κ.1 0 0))] 74 [.int y1] := by
    intro y1 s2 hf
    rw [hj1] at hf
    refine g_istore_n (i := 2) (L1 := [(2, .int y1), (0, .ref b), (1, .ref (ad κ.1 0 0))]) hc rfl (by decide) rfl dL_law_74 (pc2 := 75) rfl ?_
    refine g_iconst (v := (0 : Int32)) hc (by decide) dL_law_75 (pc2 := 76) rfl ?_
    refine g_istore_n (i := 3) (L1 := [(3, .int (0 : Int32)), (2, .int y1), (0, .ref b), (1, .ref (ad κ.1 0 0))]) hc rfl (by decide) rfl dL_law_76 (pc2 := 77) rfl ?_
    obtain ⟨k1, hk1, hf⟩ := nm_ex hf
    have Hk1 : ∀ (y2 : Int32) (s3 : Mem), k1 y2 s3 = some (1, sR) → G κ φ Q (NV κ τ) 995 12304 s3 [(1, .ref (ad κ.1 0 0)), (2, .int y2)] 118 [] := by
      intro y2 s3 hf
      rw [hk1] at hf
      refine g_aload_n (i := 1) hc 0 rfl rfl dL_law_118 (pc2 := 119) rfl ?_
      refine g_iconst (v := (2 : Int32)) hc (by decide) dL_law_119 (pc2 := 120) rfl ?_
      obtain ⟨r2, s4, hp, hf⟩ := bd_some hf
      refine g_vI hc (kz6_about (ni_some hp)) co_L_9 (u0 (by decide)) rfl rfl (by decide) (by decide) (Nat.le_of_ble_eq_true rfl) dL_law_120 (pc2 := 123) rfl ?_
      refine g_istore_n (i := 3) (L1 := [(3, .int r2), (1, .ref (ad κ.1 0 0)), (2, .int y2)]) hc rfl (by decide) rfl dL_law_123 (pc2 := 124) rfl ?_
      refine g_aload_n (i := 1) hc 1 rfl rfl dL_law_124 (pc2 := 125) rfl ?_
      refine g_iconst (v := (5 : Int32)) hc (by decide) dL_law_125 (pc2 := 126) rfl ?_
      obtain ⟨r3, s5, hp, hf⟩ := bd_some hf
      refine g_vI hc (kz6_about (ni_some hp)) co_L_9 (u0 (by decide)) rfl rfl (by decide) (by decide) (Nat.le_of_ble_eq_true rfl) dL_law_126 (pc2 := 129) rfl ?_
      refine g_istore (L1 := [(4, .int r3), (3, .int r2), (1, .ref (ad κ.1 0 0)), (2, .int y2)]) hc (by decide) rfl dL_law_129 (pc2 := 131) rfl ?_
      refine g_aload_n (i := 1) hc 2 rfl rfl dL_law_131 (pc2 := 132) rfl ?_
      refine g_bipush (v := (7 : Int32)) hc (by decide) dL_law_132 (pc2 := 134) rfl ?_
      obtain ⟨r4, s6, hp, hf⟩ := bd_some hf
      refine g_vI hc (kz6_turnIn (ni_some hp)) co_L_35 (u0 (by decide)) rfl rfl (by decide) (by decide) (Nat.le_of_ble_eq_true rfl) dL_law_134 (pc2 := 137) rfl ?_
      refine g_istore (L1 := [(5, .int r4), (4, .int r3), (3, .int r2), (1, .ref (ad κ.1 0 0)), (2, .int y2)]) hc (by decide) rfl dL_law_137 (pc2 := 139) rfl ?_
      refine g_iload_n (i := 2) hc 4 rfl rfl dL_law_139 (pc2 := 140) rfl ?_
      obtain ⟨j2, hj2, hf⟩ := nm_ex hf
      have Hj2 : ∀ (y3 : Int32) (s7 : Mem), j2 y3 s7 = some (1, sR) → G κ φ Q (NV κ τ) 995 12304 s7 [(1, .ref (ad κ.1 0 0)), (3, .int r2), (5, .int r4)] 203 [.int y3] := by
        intro y3 s7 hf
        rw [hj2] at hf
        refine g_istore_n (i := 2) (L1 := [(2, .int y3), (1, .ref (ad κ.1 0 0)), (3, .int r2), (5, .int r4)]) hc rfl (by decide) rfl dL_law_203 (pc2 := 204) rfl ?_
        refine g_iload_n (i := 2) hc 0 rfl rfl dL_law_204 (pc2 := 205) rfl ?_
        obtain ⟨j3, hj3, hf⟩ := nm_ex hf
        have Hj3 : ∀ (s8 : Mem), j3 s8 = some (1, sR) → G κ φ Q (NV κ τ) 995 12304 s8 [] 248 [] := by
          intro s8 hf
          rw [hj3] at hf
          refine g_iconst (v := (0 : Int32)) hc (by decide) dL_law_248 (pc2 := 249) rfl ?_
          obtain ⟨hg1, hf⟩ := gd_some hf
          cases hf <;> exact hend _ _ _ _ _ (by decide) (by decide)
        refine g_if_eq hc 248 (by decide) dL_law_205 (pc2 := 208) rfl (fun q => ?_) (fun q => ?_)
        · have hf := ite_t hf q
          refine g_sub [] rfl ?_
          exact Hj3 _ hf
        · have hf := ite_f hf q
          refine g_aload_n (i := 1) hc 1 rfl rfl dL_law_208 (pc2 := 209) rfl ?_
          refine g_bipush (v := (9 : Int32)) hc (by decide) dL_law_209 (pc2 := 211) rfl ?_
          obtain ⟨r5, s9, hp, hf⟩ := bd_some hf
          refine g_vI hc (kz6_pass (ni_some hp)) co_L_38 (u0 (by decide)) rfl rfl (by decide) (by decide) (Nat.le_of_ble_eq_true rfl) dL_law_211 (pc2 := 214) rfl ?_
          refine g_if_lt hc 248 (by decide) dL_law_214 (pc2 := 217) rfl (fun q => ?_) (fun q => ?_)
          · have hf := ite_t hf q
            refine g_sub [] rfl ?_
            exact Hj3 _ hf
          · have hf := ite_f hf q
            refine g_aload_n (i := 1) hc 1 rfl rfl dL_law_217 (pc2 := 218) rfl ?_
            refine g_iconst (v := (0 : Int32)) hc (by decide) dL_law_218 (pc2 := 219) rfl ?_
            obtain ⟨r6, s10, hp, hf⟩ := bd_some hf
            refine g_vI hc (kz6_restore (ni_some hp)) co_L_91 (u0 (by decide)) rfl rfl (by decide) (by decide) (Nat.le_of_ble_eq_true rfl) dL_law_219 (pc2 := 222) rfl ?_
            refine g_iload_n (i := 3) hc 2 rfl rfl dL_law_222 (pc2 := 223) rfl ?_
            refine g_icmp_ne hc 248 (by decide) dL_law_223 (pc2 := 226) rfl (fun q => ?_) (fun q => ?_)
            · have hf := ite_f hf q
              refine g_sub [] rfl ?_
              exact Hj3 _ hf
            · have hf := ite_t hf q
              refine g_aload_n (i := 1) hc 1 rfl rfl dL_law_226 (pc2 := 227) rfl ?_
              refine g_bipush (v := (7 : Int32)) hc (by decide) dL_law_227 (pc2 := 229) rfl ?_
              obtain ⟨r7, s11, hp, hf⟩ := bd_some hf
              refine g_vI hc (kz6_turnIn (ni_some hp)) co_L_35 (u0 (by decide)) rfl rfl (by decide) (by decide) (Nat.le_of_ble_eq_true rfl) dL_law_229 (pc2 := 232) rfl ?_
              refine g_iload hc 3 rfl dL_law_232 (pc2 := 234) rfl ?_
              refine g_icmp_ne hc 248 (by decide) dL_law_234 (pc2 := 237) rfl (fun q => ?_) (fun q => ?_)
              · have hf := ite_f hf q
                refine g_sub [] rfl ?_
                exact Hj3 _ hf
              · have hf := ite_t hf q
                refine g_aload_n (i := 1) hc 1 rfl rfl dL_law_237 (pc2 := 238) rfl ?_
                obtain ⟨r8, s12, hp, hf⟩ := bd_some hf
                refine g_sI hc (kL_sound hp) co_L_71 rfl rfl (by decide) (by decide) (Nat.le_of_ble_eq_true rfl) dL_law_238 (pc2 := 241) rfl ?_
                refine g_if_eq hc 248 (by decide) dL_law_241 (pc2 := 244) rfl (fun q => ?_) (fun q => ?_)
                · have hf := ite_t hf q
                  refine g_sub [] rfl ?_
                  exact Hj3 _ hf
                · have hf := ite_f hf q
                  refine g_iconst (v := (1 : Int32)) hc (by decide) dL_law_244 (pc2 := 245) rfl ?_
                  refine g_goto hc 249 (by decide) dL_law_245 ?_
                  obtain ⟨hg2, hf⟩ := gd_some hf
                  cases hf <;> exact hend _ _ _ _ _ (by decide) (by decide)
      obtain ⟨j4, hj4, hf⟩ := nm_ex hf
      have Hj4 : ∀ (s13 : Mem), j4 s13 = some (1, sR) → G κ φ Q (NV κ τ) 995 12304 s13 [(1, .ref (ad κ.1 0 0)), (3, .int r2), (5, .int r4)] 202 [] := by
        intro s13 hf
        rw [hj4] at hf
        refine g_iconst (v := (0 : Int32)) hc (by decide) dL_law_202 (pc2 := 203) rfl ?_
        exact Hj2 _ _ hf
      refine g_if_eq hc 202 (by decide) dL_law_140 (pc2 := 143) rfl (fun q => ?_) (fun q => ?_)
      · have hf := ite_t hf q
        refine g_sub [3, 2, 0] rfl ?_
        exact Hj4 _ hf
      · have hf := ite_f hf q
        refine g_aload_n (i := 1) hc 3 rfl rfl dL_law_143 (pc2 := 144) rfl ?_
        refine g_iconst (v := (0 : Int32)) hc (by decide) dL_law_144 (pc2 := 145) rfl ?_
        obtain ⟨r9, s14, hp, hf⟩ := bd_some hf
        refine g_vI hc (kz6_save (ni_some hp)) co_L_85 (u0 (by decide)) rfl rfl (by decide) (by decide) (Nat.le_of_ble_eq_true rfl) dL_law_145 (pc2 := 148) rfl ?_
        refine g_iload_n (i := 3) hc 2 rfl rfl dL_law_148 (pc2 := 149) rfl ?_
        refine g_icmp_ne hc 202 (by decide) dL_law_149 (pc2 := 152) rfl (fun q => ?_) (fun q => ?_)
        · have hf := ite_f hf q
          refine g_sub [3, 2, 0] rfl ?_
          exact Hj4 _ hf
        · have hf := ite_t hf q
          refine g_aload_n (i := 1) hc 3 rfl rfl dL_law_152 (pc2 := 153) rfl ?_
          refine g_bipush (v := (40 : Int32)) hc (by decide) dL_law_153 (pc2 := 155) rfl ?_
          obtain ⟨r10, s15, hp, hf⟩ := bd_some hf
          refine g_vI hc (kz6_pass (ni_some hp)) co_L_38 (u0 (by decide)) rfl rfl (by decide) (by decide) (Nat.le_of_ble_eq_true rfl) dL_law_155 (pc2 := 158) rfl ?_
          refine g_if_lt hc 202 (by decide) dL_law_158 (pc2 := 161) rfl (fun q => ?_) (fun q => ?_)
          · have hf := ite_t hf q
            refine g_sub [3, 2, 0] rfl ?_
            exact Hj4 _ hf
          · have hf := ite_f hf q
            refine g_aload_n (i := 1) hc 3 rfl rfl dL_law_161 (pc2 := 162) rfl ?_
            obtain ⟨r11, s16, hp, hf⟩ := bd_some hf
            refine g_vI hc (kz6_undo (ni_some hp)) co_L_88 (u0 (by decide)) rfl rfl (by decide) (by decide) (Nat.le_of_ble_eq_true rfl) dL_law_162 (pc2 := 165) rfl ?_
            refine g_if_lt hc 202 (by decide) dL_law_165 (pc2 := 168) rfl (fun q => ?_) (fun q => ?_)
            · have hf := ite_t hf q
              refine g_sub [3, 2, 0] rfl ?_
              exact Hj4 _ hf
            · have hf := ite_f hf q
              refine g_aload_n (i := 1) hc 3 rfl rfl dL_law_168 (pc2 := 169) rfl ?_
              refine g_iconst (v := (2 : Int32)) hc (by decide) dL_law_169 (pc2 := 170) rfl ?_
              obtain ⟨r12, s17, hp, hf⟩ := bd_some hf
              refine g_vI hc (kz6_about (ni_some hp)) co_L_9 (u0 (by decide)) rfl rfl (by decide) (by decide) (Nat.le_of_ble_eq_true rfl) dL_law_170 (pc2 := 173) rfl ?_
              refine g_iload_n (i := 3) hc 2 rfl rfl dL_law_173 (pc2 := 174) rfl ?_
              refine g_icmp_ne hc 202 (by decide) dL_law_174 (pc2 := 177) rfl (fun q => ?_) (fun q => ?_)
              · have hf := ite_f hf q
                refine g_sub [3, 2, 0] rfl ?_
                exact Hj4 _ hf
              · have hf := ite_t hf q
                refine g_aload_n (i := 1) hc 3 rfl rfl dL_law_177 (pc2 := 178) rfl ?_
                refine g_iconst (v := (5 : Int32)) hc (by decide) dL_law_178 (pc2 := 179) rfl ?_
                obtain ⟨r13, s18, hp, hf⟩ := bd_some hf
                refine g_vI hc (kz6_about (ni_some hp)) co_L_9 (u0 (by decide)) rfl rfl (by decide) (by decide) (Nat.le_of_ble_eq_true rfl) dL_law_179 (pc2 := 182) rfl ?_
                refine g_iload hc 1 rfl dL_law_182 (pc2 := 184) rfl ?_
                refine g_icmp_ne hc 202 (by decide) dL_law_184 (pc2 := 187) rfl (fun q => ?_) (fun q => ?_)
                · have hf := ite_f hf q
                  refine g_sub [3, 2, 0] rfl ?_
                  exact Hj4 _ hf
                · have hf := ite_t hf q
                  refine g_aload_n (i := 1) hc 3 rfl rfl dL_law_187 (pc2 := 188) rfl ?_
                  refine g_bipush (v := (7 : Int32)) hc (by decide) dL_law_188 (pc2 := 190) rfl ?_
                  obtain ⟨r14, s19, hp, hf⟩ := bd_some hf
                  refine g_vI hc (kz6_turnIn (ni_some hp)) co_L_35 (u0 (by decide)) rfl rfl (by decide) (by decide) (Nat.le_of_ble_eq_true rfl) dL_law_190 (pc2 := 193) rfl ?_
                  refine g_iload hc 0 rfl dL_law_193 (pc2 := 195) rfl ?_
                  refine g_icmp_ne hc 202 (by decide) dL_law_195 (pc2 := 198) rfl (fun q => ?_) (fun q => ?_)
                  · have hf := ite_f hf q
                    refine g_sub [3, 2, 0] rfl ?_
                    exact Hj4 _ hf
                  · have hf := ite_t hf q
                    refine g_iconst (v := (1 : Int32)) hc (by decide) dL_law_198 (pc2 := 199) rfl ?_
                    refine g_goto hc 203 (by decide) dL_law_199 ?_
                    refine g_sub [3, 2, 0] rfl ?_
                    exact Hj2 _ _ hf
    have LP_n1 : ∀ (n1 : Nat) (m1 : Int32) (m2 : Int32) (s20 : Mem), fL_law_l77 Ls xs k1 n1 m1 m2 s20 = some (1, sR) → G κ φ Q (NV κ τ) 995 12304 s20 [(0, .ref b), (1, .ref (ad κ.1 0 0)), (2, .int m1), (3, .int m2)] 77 [] := by
      intro n1
      induction n1 with
      | zero => intro m1 m2 s20 hf; rw [fL_law_l77] at hf; cases hf
      | succ n1 ih_n1 =>
        intro m1 m2 s20 hf
        rw [fL_law_l77] at hf
        refine g_iload_n (i := 3) hc 3 rfl rfl dL_law_77 (pc2 := 78) rfl ?_
        refine g_bipush (v := (44 : Int32)) hc (by decide) dL_law_78 (pc2 := 80) rfl ?_
        refine g_icmp_ge hc 118 (by decide) dL_law_80 (pc2 := 83) rfl (fun q => ?_) (fun q => ?_)
        · have hf := ite_t hf q
          refine g_sub [1, 2] rfl ?_
          exact Hk1 _ _ hf
        · have hf := ite_f hf q
          refine g_iload_n (i := 2) hc 2 rfl rfl dL_law_83 (pc2 := 84) rfl ?_
          refine g_if_eq hc 118 (by decide) dL_law_84 (pc2 := 87) rfl (fun q => ?_) (fun q => ?_)
          · have hf := ite_t hf q
            refine g_sub [1, 2] rfl ?_
            exact Hk1 _ _ hf
          · have hf := ite_f hf q
            refine g_aload_n (i := 1) hc 1 rfl rfl dL_law_87 (pc2 := 88) rfl ?_
            refine g_aload_n (i := 0) hc 0 rfl rfl dL_law_88 (pc2 := 89) rfl ?_
            refine g_iload_n (i := 3) hc 3 rfl rfl dL_law_89 (pc2 := 90) rfl ?_
            obtain ⟨r15, s21, hp, hf⟩ := bd_some hf
            refine g_cell hc hX hp rfl dL_law_90 (pc2 := 93) rfl (by decide) (by decide) (by decide) ?_
            obtain ⟨r16, s22, hp, hf⟩ := bd_some hf
            refine g_sI hc (kL_acts hp) co_L_82 rfl rfl (by decide) (by decide) (Nat.le_of_ble_eq_true rfl) dL_law_93 (pc2 := 96) rfl ?_
            obtain ⟨j5, hj5, hf⟩ := nm_ex hf
            have Hj5 : ∀ (y4 : Int32) (s23 : Mem), j5 y4 s23 = some (1, sR) → G κ φ Q (NV κ τ) 995 12304 s23 [(0, .ref b), (1, .ref (ad κ.1 0 0)), (3, .int m2)] 111 [.int y4] := by
              intro y4 s23 hf
              rw [hj5] at hf
              refine g_istore_n (i := 2) (L1 := [(2, .int y4), (0, .ref b), (1, .ref (ad κ.1 0 0)), (3, .int m2)]) hc rfl (by decide) rfl dL_law_111 (pc2 := 112) rfl ?_
              obtain ⟨x1, hx1, hf⟩ := nm_ex hf
              refine g_iinc (v := x1) (L1 := [(3, .int x1), (2, .int y4), (0, .ref b), (1, .ref (ad κ.1 0 0))]) hc 3 rfl (by rw [hx1]; rfl) (by decide) rfl dL_law_112 (pc2 := 115) rfl ?_
              refine g_goto hc 77 (by decide) dL_law_115 ?_
              refine g_sub [2, 3, 1, 0] rfl ?_
              exact ih_n1 _ _ _ hf
            obtain ⟨j6, hj6, hf⟩ := nm_ex hf
            have Hj6 : ∀ (s24 : Mem), j6 s24 = some (1, sR) → G κ φ Q (NV κ τ) 995 12304 s24 [(0, .ref b), (1, .ref (ad κ.1 0 0)), (3, .int m2)] 110 [] := by
              intro s24 hf
              rw [hj6] at hf
              refine g_iconst (v := (0 : Int32)) hc (by decide) dL_law_110 (pc2 := 111) rfl ?_
              exact Hj5 _ _ hf
            refine g_if_eq hc 110 (by decide) dL_law_96 (pc2 := 99) rfl (fun q => ?_) (fun q => ?_)
            · have hf := ite_t hf q
              refine g_sub [0, 1, 3] rfl ?_
              exact Hj6 _ hf
            · have hf := ite_f hf q
              refine g_aload_n (i := 1) hc 1 rfl rfl dL_law_99 (pc2 := 100) rfl ?_
              obtain ⟨r17, s25, hp, hf⟩ := bd_some hf
              refine g_sI hc (kL_sound hp) co_L_71 rfl rfl (by decide) (by decide) (Nat.le_of_ble_eq_true rfl) dL_law_100 (pc2 := 103) rfl ?_
              refine g_if_eq hc 110 (by decide) dL_law_103 (pc2 := 106) rfl (fun q => ?_) (fun q => ?_)
              · have hf := ite_t hf q
                refine g_sub [0, 1, 3] rfl ?_
                exact Hj6 _ hf
              · have hf := ite_f hf q
                refine g_iconst (v := (1 : Int32)) hc (by decide) dL_law_106 (pc2 := 107) rfl ?_
                refine g_goto hc 111 (by decide) dL_law_107 ?_
                refine g_sub [0, 1, 3] rfl ?_
                exact Hj5 _ _ hf
    refine g_sub [2, 3, 1, 0] rfl ?_
    exact LP_n1 _ _ _ _ hf
  obtain ⟨j7, hj7, hf⟩ := nm_ex hf
  have Hj7 : ∀ (s26 : Mem), j7 s26 = some (1, sR) → G κ φ Q (NV κ τ) 995 12304 s26 [(0, .ref b), (1, .ref (ad κ.1 0 0))] 73 [] := by
    intro s26 hf
    rw [hj7] at hf
    refine g_iconst (v := (0 : Int32)) hc (by decide) dL_law_73 (pc2 := 74) rfl ?_
    exact Hj1 _ _ hf
  refine g_icmp_ne hc 73 (by decide) dL_law_14 (pc2 := 17) rfl (fun q => ?_) (fun q => ?_)
  · have hf := ite_f hf q
    exact Hj7 _ hf
  · have hf := ite_t hf q
    refine g_aload_n (i := 1) hc 1 rfl rfl dL_law_17 (pc2 := 18) rfl ?_
    refine g_iconst (v := (1 : Int32)) hc (by decide) dL_law_18 (pc2 := 19) rfl ?_
    obtain ⟨r18, s27, hp, hf⟩ := bd_some hf
    refine g_vI hc (kz6_about (ni_some hp)) co_L_9 (u0 (by decide)) rfl rfl (by decide) (by decide) (Nat.le_of_ble_eq_true rfl) dL_law_19 (pc2 := 22) rfl ?_
    refine g_iconst (v := (4 : Int32)) hc (by decide) dL_law_22 (pc2 := 23) rfl ?_
    refine g_icmp_ne hc 73 (by decide) dL_law_23 (pc2 := 26) rfl (fun q => ?_) (fun q => ?_)
    · have hf := ite_f hf q
      exact Hj7 _ hf
    · have hf := ite_t hf q
      refine g_aload_n (i := 1) hc 1 rfl rfl dL_law_26 (pc2 := 27) rfl ?_
      refine g_iconst (v := (4 : Int32)) hc (by decide) dL_law_27 (pc2 := 28) rfl ?_
      obtain ⟨r19, s28, hp, hf⟩ := bd_some hf
      refine g_vI hc (kz6_about (ni_some hp)) co_L_9 (u0 (by decide)) rfl rfl (by decide) (by decide) (Nat.le_of_ble_eq_true rfl) dL_law_28 (pc2 := 31) rfl ?_
      refine g_iconst (v := (4 : Int32)) hc (by decide) dL_law_31 (pc2 := 32) rfl ?_
      refine g_icmp_ne hc 73 (by decide) dL_law_32 (pc2 := 35) rfl (fun q => ?_) (fun q => ?_)
      · have hf := ite_f hf q
        exact Hj7 _ hf
      · have hf := ite_t hf q
        refine g_aload_n (i := 1) hc 1 rfl rfl dL_law_35 (pc2 := 36) rfl ?_
        refine g_bipush (v := (8 : Int32)) hc (by decide) dL_law_36 (pc2 := 38) rfl ?_
        obtain ⟨r20, s29, hp, hf⟩ := bd_some hf
        refine g_vI hc (kz6_about (ni_some hp)) co_L_9 (u0 (by decide)) rfl rfl (by decide) (by decide) (Nat.le_of_ble_eq_true rfl) dL_law_38 (pc2 := 41) rfl ?_
        refine g_bipush (v := (-9 : Int32)) hc (by decide) dL_law_41 (pc2 := 43) rfl ?_
        refine g_icmp_ne hc 73 (by decide) dL_law_43 (pc2 := 46) rfl (fun q => ?_) (fun q => ?_)
        · have hf := ite_f hf q
          exact Hj7 _ hf
        · have hf := ite_t hf q
          refine g_aload_n (i := 1) hc 1 rfl rfl dL_law_46 (pc2 := 47) rfl ?_
          obtain ⟨r21, s30, hp, hf⟩ := bd_some hf
          refine g_sI hc (kL_sound hp) co_L_71 rfl rfl (by decide) (by decide) (Nat.le_of_ble_eq_true rfl) dL_law_47 (pc2 := 50) rfl ?_
          refine g_if_eq hc 73 (by decide) dL_law_50 (pc2 := 53) rfl (fun q => ?_) (fun q => ?_)
          · have hf := ite_t hf q
            exact Hj7 _ hf
          · have hf := ite_f hf q
            refine g_aload_n (i := 1) hc 1 rfl rfl dL_law_53 (pc2 := 54) rfl ?_
            obtain ⟨r22, s31, hp, hf⟩ := bd_some hf
            refine g_vI hc (k6_errorPosition hp) co_L_75 (u0 (by decide)) rfl rfl (by decide) (by decide) (Nat.le_of_ble_eq_true rfl) dL_law_54 (pc2 := 57) rfl ?_
            refine g_if_ne hc 73 (by decide) dL_law_57 (pc2 := 60) rfl (fun q => ?_) (fun q => ?_)
            · have hf := ite_f hf q
              exact Hj7 _ hf
            · have hf := ite_t hf q
              refine g_aload_n (i := 1) hc 1 rfl rfl dL_law_60 (pc2 := 61) rfl ?_
              refine g_iconst (v := (3 : Int32)) hc (by decide) dL_law_61 (pc2 := 62) rfl ?_
              obtain ⟨r23, s32, hp, hf⟩ := bd_some hf
              refine g_vI hc (kz6_owner (ni_some hp)) co_L_51 (u0 (by decide)) rfl rfl (by decide) (by decide) (Nat.le_of_ble_eq_true rfl) dL_law_62 (pc2 := 65) rfl ?_
              refine g_iconst (v := (1 : Int32)) hc (by decide) dL_law_65 (pc2 := 66) rfl ?_
              refine g_icmp_ne hc 73 (by decide) dL_law_66 (pc2 := 69) rfl (fun q => ?_) (fun q => ?_)
              · have hf := ite_f hf q
                exact Hj7 _ hf
              · have hf := ite_t hf q
                refine g_iconst (v := (1 : Int32)) hc (by decide) dL_law_69 (pc2 := 70) rfl ?_
                refine g_goto hc 74 (by decide) dL_law_70 ?_
                exact Hj1 _ _ hf
