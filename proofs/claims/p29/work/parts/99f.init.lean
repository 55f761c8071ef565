/-! THE CONSTRUCTORS -/
section INITS
variable {κ : Kx} {g : Gr} {σ : Mem} {o b : Nat}
def rm_i0 : Room := { frames := 1, cells := 1, slots := 10, locals := 12 }
def rm_i1 : Room := { frames := 1, cells := 3, slots := 18, locals := 12 }
def rm_i3 : Room := { frames := 1, cells := 1, slots := 120, locals := 12 }
def rm_i5 : Room := { frames := 2, cells := 7, slots := 40, locals := 32 }
def rm_i2 : Room := { frames := 3, cells := 51, slots := 332, locals := 64 }
def rm_i4 : Room := { frames := 4, cells := 729, slots := 4788, locals := 85 }
def rm_i6 : Room := { frames := 5, cells := 994, slots := 6624, locals := 106 }
def rm_i7 : Room := { frames := 1, cells := 8, slots := 5657, locals := 23 }
def M0 (o : Nat) : Nat := bb (o / 6) + 4 + 8 * (o % 6)
theorem M0_of {m : Nat} (hm : m < 6) : M0 (6 * b + m) = bb b + 4 + 8 * m := by
  unfold M0
  rw [show (6 * b + m) / 6 = b by omega, show (6 * b + m) % 6 = m by omega]
theorem ucM {c K d : Nat} (h : o < 114) (h1 : kCnt K = 114) (h2 : off K o = M0 o + d) (h3 : M0 o + d < c) : Uc c K o := ⟨by rw [h1]; exact h, by rw [h2]; exact h3⟩
theorem ucB {c K d : Nat} (h : b < 19) (h1 : kCnt K = 19) (h2 : off K b = bb b + d) (h3 : bb b + d < c) : Uc c K b := ⟨by rw [h1]; exact h, by rw [h2]; exact h3⟩
def PN (n0 c : Nat) (S : Nat → Nat → Nat → Prop) (g : Gr) (σ : Mem) (V2 : Wv) (σ2 : Mem) : Prop := σ2 = σ ∧ ∃ g2, V2 = Vc c g2 ∧ Zr c σ g2 ∧ Up n0 S g g2

set_option maxHeartbeats 4000000 in
theorem i_X0 (ho : o < 114) (hz : Zr (M0 o + 7) σ g) : CtN κ yX0_init cX0_init 1 rm_i0 (Vc (M0 o + 7) g) [.ref (ad κ.1 13 o)] σ (PN κ.1 (M0 o + 8) (fun k o1 i => k = 87 ∧ o1 = o ∧ i = 0) g σ) := by
  refine ct_N (by decide +kernel) rfl (Nat.le_of_ble_eq_true rfl) (fun φ hc hr hn hi => ?_)
  have hc : Cx κ φ RX0 cX0_init 1 rm_i0 := hc
  show G κ φ _ _ 0 0 σ [(0, .ref (ad κ.1 13 o))] 0 []
  refine g_aload_n (i := 0) hc 0 rfl rfl dX0_init_0 (pc2 := 1) rfl ?_
  refine g_objI hc ob_X0 (by decide) (by decide) dX0_init_1 (pc2 := 4) rfl ?_
  refine g_aload_n (i := 0) hc 0 rfl rfl dX0_init_4 (pc2 := 5) rfl ?_
  refine g_bipush (v := (10 : Int32)) hc (by decide) dX0_init_5 (pc2 := 7) rfl ?_
  refine g_newA (atype := .int) hc 14 o (by decide) rfl aw_int (by decide) (by decide) rfl (by decide) (ho) (rfl) (hz) (by decide) (by decide) dX0_init_7 (pc2 := 9) rfl ?_
  refine g_putF hc hi (by decide) fo_X0_9 clO_13 pf_13_1 rfl (ucM (d := 6) ho rfl rfl (by omega)) dX0_init_9 (pc2 := 12) rfl ?_
  exact g_nret hc ⟨rfl, _, rfl, (hz.up (by omega)).gs (show off 13 o < _ from (show M0 o + 6 < M0 o + 8 by omega)), Up.gs _ rfl⟩ hr (by decide) (by decide) dX0_init_12
set_option maxHeartbeats 4000000 in
theorem i_X1 (ho : o < 114) (hz : Zr (M0 o + 3) σ g) : CtN κ yX1_init cX1_init 1 rm_i1 (Vc (M0 o + 3) g) [.ref (ad κ.1 9 o)] σ (PN κ.1 (M0 o + 6) (fun k o1 i => 84 ≤ k ∧ k ≤ 86 ∧ o1 = o ∧ i = 0) g σ) := by
  refine ct_N (by decide +kernel) rfl (Nat.le_of_ble_eq_true rfl) (fun φ hc hr hn hi => ?_)
  have hc : Cx κ φ RX1 cX1_init 1 rm_i1 := hc
  show G κ φ _ _ 0 0 σ [(0, .ref (ad κ.1 9 o))] 0 []
  have hlt : ∀ d, 3 ≤ d → off 9 o < M0 o + d := fun d h => (show M0 o + 2 < M0 o + d by omega)
  have z1 : Zr (M0 o + 4) σ (gs g 84 o 0 (some (ad κ.1 10 o))) := (hz.up (by omega)).gs (hlt 4 (by omega))
  have z2 : Zr (M0 o + 5) σ (gs (gs g 84 o 0 (some (ad κ.1 10 o))) 85 o 0 (some (ad κ.1 11 o))) := (z1.up (by omega)).gs (hlt 5 (by omega))
  refine g_aload_n (i := 0) hc 0 rfl rfl dX1_init_0 (pc2 := 1) rfl ?_
  refine g_objI hc ob_X1 (by decide) (by decide) dX1_init_1 (pc2 := 4) rfl ?_
  refine g_aload_n (i := 0) hc 0 rfl rfl dX1_init_4 (pc2 := 5) rfl ?_
  refine g_bipush (v := (6 : Int32)) hc (by decide) dX1_init_5 (pc2 := 7) rfl ?_
  refine g_newA (atype := .int) hc 10 o (by decide) rfl aw_int (by decide) (by decide) rfl (by decide) (ho) (rfl) (hz) (by decide) (by decide) dX1_init_7 (pc2 := 9) rfl ?_
  refine g_putF hc hi (by decide) fo_X1_9 clO_9 pf_9_1 rfl (ucM (d := 2) ho rfl rfl (by omega)) dX1_init_9 (pc2 := 12) rfl ?_
  refine g_aload_n (i := 0) hc 0 rfl rfl dX1_init_12 (pc2 := 13) rfl ?_
  refine g_bipush (v := (6 : Int32)) hc (by decide) dX1_init_13 (pc2 := 15) rfl ?_
  refine g_newA (atype := .int) hc 11 o (by decide) rfl aw_int (by decide) (by decide) rfl (by decide) (ho) (rfl) (z1) (by decide) (by decide) dX1_init_15 (pc2 := 17) rfl ?_
  refine g_putF hc hi (by decide) fo_X1_15 clO_9 pf_9_2 rfl (ucM (d := 2) ho rfl rfl (by omega)) dX1_init_17 (pc2 := 20) rfl ?_
  refine g_aload_n (i := 0) hc 0 rfl rfl dX1_init_20 (pc2 := 21) rfl ?_
  refine g_bipush (v := (6 : Int32)) hc (by decide) dX1_init_21 (pc2 := 23) rfl ?_
  refine g_newA (atype := .boolean) hc 12 o (by decide) rfl aw_boolean (by decide) (by decide) rfl (by decide) (ho) (rfl) (z2) (by decide) (by decide) dX1_init_23 (pc2 := 25) rfl ?_
  refine g_putF hc hi (by decide) fo_X1_18 clO_9 pf_9_3 rfl (ucM (d := 2) ho rfl rfl (by omega)) dX1_init_25 (pc2 := 28) rfl ?_
  exact g_nret hc ⟨rfl, _, rfl, (z2.up (by omega)).gs (hlt 6 (by omega)), (((Up.gs _ rfl).tr (Up.gs _ rfl)).tr (Up.gs _ rfl)).less fun k o1 i h => by omega⟩ hr (by decide) (by decide) dX1_init_28
set_option maxHeartbeats 4000000 in
theorem i_X3 (hz : Zr 2 σ g) : CtN κ yX3_init cX3_init 1 rm_i3 (Vc 2 g) [.ref (ad κ.1 1 0)] σ (PN κ.1 3 (fun k o1 i => k = 77 ∧ o1 = 0 ∧ i = 0) g σ) := by
  refine ct_N (by decide +kernel) rfl (Nat.le_of_ble_eq_true rfl) (fun φ hc hr hn hi => ?_)
  have hc : Cx κ φ RX3 cX3_init 1 rm_i3 := hc
  show G κ φ _ _ 0 0 σ [(0, .ref (ad κ.1 1 0))] 0 []
  refine g_aload_n (i := 0) hc 0 rfl rfl dX3_init_0 (pc2 := 1) rfl ?_
  refine g_objI hc ob_X3 (by decide) (by decide) dX3_init_1 (pc2 := 4) rfl ?_
  refine g_aload_n (i := 0) hc 0 rfl rfl dX3_init_4 (pc2 := 5) rfl ?_
  refine g_bipush (v := (120 : Int32)) hc (by decide) dX3_init_5 (pc2 := 7) rfl ?_
  refine g_newA (atype := .char) hc 2 0 (by decide) rfl aw_char (by decide) (by decide) rfl (by decide) (by decide) (rfl) (hz) (by decide) (by decide) dX3_init_7 (pc2 := 9) rfl ?_
  refine g_putF hc hi (by decide) fo_X3_9 clO_1 pf_1_1 rfl (⟨by decide, by decide⟩) dX3_init_9 (pc2 := 12) rfl ?_
  exact g_nret hc ⟨rfl, _, rfl, (hz.up (by omega)).gs (by decide), Up.gs _ rfl⟩ hr (by decide) (by decide) dX3_init_12
set_option maxHeartbeats 4000000 in
theorem i_X5 (ho : o < 114) (hz : Zr (M0 o + 1) σ g) : CtN κ yX5_init cX5_init 1 rm_i5 (Vc (M0 o + 1) g) [.ref (ad κ.1 7 o)] σ (PN κ.1 (M0 o + 8) (fun k o1 i => 81 ≤ k ∧ k ≤ 87 ∧ o1 = o ∧ i = 0) g σ) := by
  refine ct_N (by decide +kernel) rfl (Nat.le_of_ble_eq_true rfl) (fun φ hc hr hn hi => ?_)
  have hc : Cx κ φ RX5 cX5_init 1 rm_i5 := hc
  show G κ φ _ _ 0 0 σ [(0, .ref (ad κ.1 7 o))] 0 []
  have hlt : ∀ d, 1 ≤ d → off 7 o < M0 o + d := fun d h => (show M0 o < M0 o + d by omega)
  have z1 : Zr (M0 o + 2) σ (gs g 81 o 0 (some (ad κ.1 8 o))) := (hz.up (by omega)).gs (hlt 2 (by omega))
  refine g_aload_n (i := 0) hc 0 rfl rfl dX5_init_0 (pc2 := 1) rfl ?_
  refine g_objI hc ob_X5 (by decide) (by decide) dX5_init_1 (pc2 := 4) rfl ?_
  refine g_aload_n (i := 0) hc 0 rfl rfl dX5_init_4 (pc2 := 5) rfl ?_
  refine g_bipush (v := (6 : Int32)) hc (by decide) dX5_init_5 (pc2 := 7) rfl ?_
  refine g_newA (atype := .int) hc 8 o (by decide) rfl aw_int (by decide) (by decide) rfl (by decide) (ho) (rfl) (hz) (by decide) (by decide) dX5_init_7 (pc2 := 9) rfl ?_
  refine g_putF hc hi (by decide) fo_X5_9 clO_7 pf_7_0 rfl (ucM (d := 0) ho rfl rfl (by omega)) dX5_init_9 (pc2 := 12) rfl ?_
  refine g_aload_n (i := 0) hc 0 rfl rfl dX5_init_12 (pc2 := 13) rfl ?_
  refine g_newO (K := 9) (o := o) hc nw_X5_15 ho rfl z1 (by decide) (by decide) dX5_init_13 (pc2 := 16) rfl ?_
  refine g_dup hc rfl dX5_init_16 (pc2 := 17) rfl ?_
  refine g_cN (As := []) hc hn (i_X1 ho (z1.up (by omega))) cn_X1 (fun s h => h.2.2.2.2.1) rfl rfl (by decide) (by decide) (Nat.le_of_ble_eq_true rfl) dX5_init_17 (pc2 := 20) rfl fun V2 σ2 hP => ?_
  obtain ⟨rfl, g2, rfl, z3, u3⟩ := hP
  refine g_putF hc hi (by decide) fo_X5_18 clO_7 pf_7_1 rfl (ucM (d := 0) ho rfl rfl (by omega)) dX5_init_20 (pc2 := 23) rfl ?_
  have z4 : Zr (M0 o + 6) σ2 (gs g2 82 o 0 (some (ad κ.1 9 o))) := z3.gs (hlt 6 (by omega))
  refine g_aload_n (i := 0) hc 0 rfl rfl dX5_init_23 (pc2 := 24) rfl ?_
  refine g_newO (K := 13) (o := o) hc nw_X5_22 ho rfl z4 (by decide) (by decide) dX5_init_24 (pc2 := 27) rfl ?_
  refine g_dup hc rfl dX5_init_27 (pc2 := 28) rfl ?_
  refine g_cN (As := []) hc hn (i_X0 ho (z4.up (by omega))) cn_X0 (fun s h => h.2.2.2.2.2) rfl rfl (by decide) (by decide) (Nat.le_of_ble_eq_true rfl) dX5_init_28 (pc2 := 31) rfl fun V2 σ3 hP => ?_
  obtain ⟨rfl, g3, rfl, z5, u5⟩ := hP
  refine g_putF hc hi (by decide) fo_X5_25 clO_7 pf_7_2 rfl (ucM (d := 0) ho rfl rfl (by omega)) dX5_init_31 (pc2 := 34) rfl ?_
  exact g_nret hc ⟨rfl, _, rfl, z5.gs (hlt 8 (by omega)), (((((Up.gs _ rfl).tr u3).tr (Up.gs _ rfl)).tr u5).tr (Up.gs _ rfl)).less fun k o1 i h => by omega⟩ hr (by decide) (by decide) dX5_init_34
end INITS
