/-! THE CONSTRUCTORS OF THE WHOLE: History, TurnBus, the reference -/
section INITH
variable {κ : Kx} {g : Gr} {σ σ' τ : Mem} {b : Nat}
/-- nothing but the buses from 1 on has changed -/
def KM (σ σ2 : Mem) : Prop := ∀ k o i, (isB k = true → o = 0) → (isB k = false → isM k = true → o < 6) → σ2 k o i = σ k o i
theorem KM.rf : KM σ σ := fun _ _ _ _ _ => rfl
theorem KM.tr (h : KM σ σ') (h2 : KM σ' τ) : KM σ τ := fun k o i a b => (h2 k o i a b).trans (h k o i a b)
theorem KM.ofw (σ : Mem) (c : Mem) (hb : 1 ≤ b) : KM σ (wc σ b c) := by
  intro k o i h1 h2
  unfold wc
  by_cases e : isB k = true
  · rw [if_pos e, if_neg (by have := h1 e; omega)]
  · rw [if_neg e]
    by_cases e2 : isM k = true
    · rw [if_pos e2, if_neg (by have := h2 (Bool.eq_false_iff.mpr e) e2; omega)]
    · rw [if_neg e2]
def SHm (m : Nat) : Nat → Nat → Nat → Prop := fun k o i => (k = 88 ∧ o = 0 ∧ i = 0) ∨ (k = 16 ∧ o = 0 ∧ i < m) ∨ ∃ b, 1 ≤ b ∧ b ≤ m ∧ SBm b 6 k o i
def PH (n0 : Nat) (g : Gr) (σ : Mem) (V2 : Wv) (σ2 : Mem) : Prop := ∃ g2, V2 = Vc 785 g2 ∧ KM σ σ2 ∧ Zr 785 σ2 g2 ∧ Up n0 (SHm 14) g g2
theorem bb_h {m : Nat} (hm : m < 14) : bb (m + 1) = 57 + 52 * m := by
  unfold bb
  rw [if_neg (by omega), if_pos (by omega)]
  omega
theorem bb_s {m : Nat} : bb (17 + m) = 891 + 52 * m := by
  unfold bb
  rw [if_neg (by omega), if_neg (by omega)]
  omega

set_option maxHeartbeats 4000000 in
theorem i_X4 (hz : Zr 56 σ g) : CtN κ yX4_init cX4_init 2 rm_i4 (Vc 56 g) [.ref (ad κ.1 15 0)] σ (PH κ.1 g σ) := by
  refine ct_N (by decide +kernel) rfl (Nat.le_of_ble_eq_true rfl) (fun φ hc hr hn hi => ?_)
  have hc : Cx κ φ RX4 cX4_init 2 rm_i4 := hc
  show G κ φ _ _ 0 0 σ [(0, .ref (ad κ.1 15 0))] 0 []
  refine g_aload_n (i := 0) hc 0 rfl rfl dX4_init_0 (pc2 := 1) rfl ?_
  refine g_objI hc ob_X4 (by decide) (by decide) dX4_init_1 (pc2 := 4) rfl ?_
  refine g_aload_n (i := 0) hc 0 rfl rfl dX4_init_4 (pc2 := 5) rfl ?_
  refine g_bipush (v := (14 : Int32)) hc (by decide) dX4_init_5 (pc2 := 7) rfl ?_
  refine g_newQ hc hn 16 0 (Or.inr ⟨rfl, rfl⟩) cw_X4_9 (by decide) (by decide) rfl (by decide) (by decide) (by decide) hz (by decide) (by decide) dX4_init_7 (pc2 := 10) rfl ?_
  refine g_putF hc hi (by decide) fo_X4_11 clO_15 pf_15_2 rfl (⟨by decide, by decide⟩) dX4_init_10 (pc2 := 13) rfl ?_
  obtain ⟨g3, hg3⟩ : ∃ g3, g3 = gs g 88 0 0 (some (ad κ.1 16 0)) := ⟨_, rfl⟩
  have z3 : Zr 57 σ g3 := by
    rw [hg3]
    exact (hz.up (by omega)).gs (by decide)
  have u3 : Up κ.1 (SHm 0) g g3 := by
    rw [hg3]
    refine (Up.gs _ rfl).less fun k o i h => ?_
    unfold SHm at h
    rcases h with h | h | ⟨b, h1, h2, h⟩
    · exact h
    · omega
    · omega
  rw [← hg3]
  refine g_iconst (v := (0 : Int32)) hc (by decide) dX4_init_13 (pc2 := 14) rfl ?_
  refine g_istore_n (i := 1) (L1 := [(1, .int (0 : Int32)), (0, .ref (ad κ.1 15 0))]) hc rfl (by decide) rfl dX4_init_14 (pc2 := 15) rfl ?_
  have LP : ∀ (j m : Nat) (g' : Gr) (σ' : Mem), m + j = 14 → KM σ σ' → Zr (57 + 52 * m) σ' g' → Up κ.1 (SHm m) g g' → G κ φ (QN κ φ (PH κ.1 g σ) rm_i4.cells rm_i4.slots) (Vc (57 + 52 * m) g') (1 + 52 * m) (14 + 341 * m) σ' [(1, .int (nI m)), (0, .ref (ad κ.1 15 0))] 15 [] := by
    intro j
    induction j with
    | zero =>
      intro m g' σ' hm hk hz' hu
      obtain rfl : m = 14 := hm
      refine g_iload_n (i := 1) hc 0 rfl rfl dX4_init_15 (pc2 := 16) rfl ?_
      refine g_bipush (v := (14 : Int32)) hc (by decide) dX4_init_16 (pc2 := 18) rfl ?_
      refine g_icmp_ge hc 40 (by decide) dX4_init_18 (pc2 := 21) rfl (fun q => ?_) (fun q => absurd (show (14 : Int32) ≤ nI 14 by decide) q)
      exact g_nret hc ⟨g', rfl, hk, hz', hu⟩ hr (by decide) (by decide) dX4_init_40
    | succ j ih =>
      intro m g' σ' hm hk hz' hu
      have hm6 : m < 14 := by omega
      have e := bb_h hm6
      have hb : m + 1 < 19 := by omega
      have hu0 : Uc (57 + 52 * m) 15 0 := ⟨by decide, by show 55 < 57 + 52 * m; omega⟩
      refine g_iload_n (i := 1) hc 0 rfl rfl dX4_init_15 (pc2 := 16) rfl ?_
      refine g_bipush (v := (14 : Int32)) hc (by decide) dX4_init_16 (pc2 := 18) rfl ?_
      refine g_icmp_ge hc 40 (by decide) dX4_init_18 (pc2 := 21) rfl (fun q => absurd (show nI 14 ≤ nI m from q) (nI_ge hm6 (by decide))) (fun q => ?_)
      refine g_aload_n (i := 0) hc 1 rfl rfl dX4_init_21 (pc2 := 22) rfl ?_
      refine g_getr (q := ad κ.1 16 0) hc fo_X4_11 hu0 (hu.at (Or.inl ⟨rfl, rfl, rfl⟩)) dX4_init_22 (pc2 := 25) rfl ?_
      refine g_iload_n (i := 1) hc 0 rfl rfl dX4_init_25 (pc2 := 26) rfl ?_
      refine g_newO (K := 3) (o := m + 1) hc nw_X4_9 hb e hz' (by show 1 + 52 * m + 1 ≤ 729; omega) (by show 14 + 341 * m + 9 ≤ 4788; omega) dX4_init_26 (pc2 := 29) rfl ?_
      refine g_dup hc rfl dX4_init_29 (pc2 := 30) rfl ?_
      have hcM := i_X2 (κ := κ) (g := g') (σ := σ') hb (by rw [e]; exact hz'.up (by omega))
      rw [e] at hcM
      refine g_cP (As := []) hc hn hcM ci_X4_17 rfl rfl (by decide) ⟨by show 1 + 52 * m + 1 + 51 ≤ 729; omega, by show 14 + 341 * m + 9 + 332 ≤ 4788; omega⟩ (Nat.le_of_ble_eq_true rfl) dX4_init_30 (pc2 := 33) rfl fun V2 σ2 hP => ?_
      unfold PB at hP
      rw [e, show 57 + 52 * m + 52 = 57 + 52 * (m + 1) by omega] at hP
      obtain ⟨g2, c', rfl, rfl, -, z4, u4⟩ := hP
      refine g_astR hc 16 0 3 (m + 1) (by decide) (by decide) rfl rfl rfl ⟨by decide, by show 56 < 57 + 52 * (m + 1); omega⟩ ⟨hb, by show bb (m + 1) < 57 + 52 * (m + 1); omega⟩ (ib_nI hm6 (by decide)) dX4_init_33 (pc2 := 34) rfl ?_
      rw [nI_clamp (by omega)]
      refine g_iinc (v := nI (m + 1)) (L1 := [(1, .int (nI (m + 1))), (0, .ref (ad κ.1 15 0))]) hc 0 rfl (inc1 m) (by decide) rfl dX4_init_34 (pc2 := 37) rfl ?_
      refine g_goto hc 15 (by decide) dX4_init_37 ?_
      refine g_widen (k2 := 1 + 52 * (m + 1)) (n2 := 14 + 341 * (m + 1)) (by show 1 + 52 * m + 1 + 51 ≤ _; omega) (by show 14 + 341 * m + 9 + 332 ≤ _; omega) ?_
      refine ih (m + 1) _ _ (by omega) (hk.tr (KM.ofw _ _ (by omega))) (z4.gs (show 56 < 57 + 52 * (m + 1) by omega)) (((hu.tr u4).tr (Up.gs _ rfl)).less fun k o i h => ?_)
      unfold SHm at h ⊢
      rcases h with h | h | ⟨b, h1, h2, h⟩
      · exact Or.inl (Or.inl (Or.inl h))
      · by_cases h6 : i = m
        · exact Or.inr ⟨h.1, h.2.1, h6⟩
        · exact Or.inl (Or.inl (Or.inr (Or.inl ⟨h.1, h.2.1, by omega⟩)))
      · by_cases h6 : b = m + 1
        · subst h6
          exact Or.inl (Or.inr h)
        · exact Or.inl (Or.inl (Or.inr (Or.inr ⟨b, h1, by omega, h⟩)))
  exact LP 14 0 g3 σ rfl KM.rf z3 u3

def STm (m : Nat) : Nat → Nat → Nat → Prop := fun k o i => (70 ≤ k ∧ k ≤ 76 ∧ o = 0 ∧ i = 0) ∨ (k = 77 ∧ o = 0 ∧ i = 0) ∨ (k = 88 ∧ o = 0 ∧ i = 0) ∨ (k = 16 ∧ o = 0 ∧ i < 14) ∨ (k = 17 ∧ o = 0 ∧ i < m) ∨ ∃ b, b < 17 + m ∧ SBm b 6 k o i
def PT (n0 : Nat) (g : Gr) (σ : Mem) (V2 : Wv) (σ2 : Mem) : Prop := ∃ g2 c0, V2 = Vc 995 g2 ∧ Zr 995 σ2 g2 ∧ Up n0 (STm 2) g g2 ∧ Bus (anQ 2 4) c0 0 ∧ KM (wc σ 0 c0) σ2
set_option maxHeartbeats 8000000 in
theorem i_X6 (hz : Zr 1 σ g) : CtN κ yX6_init cX6_init 2 rm_i6 (Vc 1 g) [.ref (ad κ.1 0 0)] σ (PT κ.1 g σ) := by
  refine ct_N (by decide +kernel) rfl (Nat.le_of_ble_eq_true rfl) (fun φ hc hr hn hi => ?_)
  have hc : Cx κ φ RX6 cX6_init 2 rm_i6 := hc
  show G κ φ _ _ 0 0 σ [(0, .ref (ad κ.1 0 0))] 0 []
  refine g_aload_n (i := 0) hc 0 rfl rfl dX6_init_0 (pc2 := 1) rfl ?_
  refine g_objI hc ob_X6 (by decide) (by decide) dX6_init_1 (pc2 := 4) rfl ?_
  refine g_aload_n (i := 0) hc 0 rfl rfl dX6_init_4 (pc2 := 5) rfl ?_
  refine g_newO (K := 1) (o := 0) hc nw_X6_9 (by decide) (by decide) hz (by decide) (by decide) dX6_init_5 (pc2 := 8) rfl ?_
  refine g_dup hc rfl dX6_init_8 (pc2 := 9) rfl ?_
  refine g_cN (As := []) hc hn (i_X3 (hz.up (by omega))) cn_X3 (fun s h => h.2.2.1) rfl rfl (by decide) (by decide) (Nat.le_of_ble_eq_true rfl) dX6_init_9 (pc2 := 12) rfl fun V2 σ1 hP => ?_
  obtain ⟨rfl, g1, rfl, z1, u1⟩ := hP
  refine g_putF hc hi (by decide) fo_X6_12 clO_0 pf_0_0 rfl (⟨by decide, by decide⟩) dX6_init_12 (pc2 := 15) rfl ?_
  have z1 := Zr.gs (key := 70) (o := 0) (i := 0) (v := some (ad κ.1 1 0)) z1 (by decide)
  have u1 := u1.tr (Up.gs g1 (key := 70) (o := 0) (i := 0) (v := some (ad κ.1 1 0)) rfl)
  refine g_aload_n (i := 0) hc 0 rfl rfl dX6_init_15 (pc2 := 16) rfl ?_
  refine g_newO (K := 3) (o := 0) hc nw_X6_16 (by decide) (by decide) z1 (by decide) (by decide) dX6_init_16 (pc2 := 19) rfl ?_
  refine g_dup hc rfl dX6_init_19 (pc2 := 20) rfl ?_
  refine g_cP (As := []) hc hn (i_X2 (b := 0) (by decide) (z1.up (by decide))) ci_X6_18 rfl rfl (by decide) (by decide) (Nat.le_of_ble_eq_true rfl) dX6_init_20 (pc2 := 23) rfl fun V2 σ2 hP => ?_
  obtain ⟨g2, c0, hV, rfl, hB0, z2, u9⟩ := hP
  obtain rfl : V2 = Vc 55 g2 := hV
  have z2 : Zr 55 _ g2 := z2
  have u2 := u1.tr u9
  refine g_putF hc hi (by decide) fo_X6_19 clO_0 pf_0_1 rfl (⟨by decide, by decide⟩) dX6_init_23 (pc2 := 26) rfl ?_
  have z2 := Zr.gs (key := 71) (o := 0) (i := 0) (v := some (ad κ.1 3 0)) z2 (by decide)
  have u2 := u2.tr (Up.gs g2 (key := 71) (o := 0) (i := 0) (v := some (ad κ.1 3 0)) rfl)
  refine g_aload_n (i := 0) hc 0 rfl rfl dX6_init_26 (pc2 := 27) rfl ?_
  refine g_newO (K := 15) (o := 0) hc nw_X6_23 (by decide) (by decide) z2 (by decide) (by decide) dX6_init_27 (pc2 := 30) rfl ?_
  refine g_dup hc rfl dX6_init_30 (pc2 := 31) rfl ?_
  refine g_cP (As := []) hc hn (i_X4 (z2.up (by decide))) ci_X6_25 rfl rfl (by decide) (by decide) (Nat.le_of_ble_eq_true rfl) dX6_init_31 (pc2 := 34) rfl fun V2 σ3 hP => ?_
  obtain ⟨g3, rfl, km, z3, u9⟩ := hP
  have u3 := u2.tr u9
  refine g_putF hc hi (by decide) fo_X6_26 clO_0 pf_0_2 rfl (⟨by decide, by decide⟩) dX6_init_34 (pc2 := 37) rfl ?_
  have z3 := Zr.gs (key := 72) (o := 0) (i := 0) (v := some (ad κ.1 15 0)) z3 (by decide)
  have u3 := u3.tr (Up.gs g3 (key := 72) (o := 0) (i := 0) (v := some (ad κ.1 15 0)) rfl)
  refine g_aload_n (i := 0) hc 0 rfl rfl dX6_init_37 (pc2 := 38) rfl ?_
  refine g_iconst (v := (2 : Int32)) hc (by decide) dX6_init_38 (pc2 := 39) rfl ?_
  refine g_newQ hc hn 17 0 (Or.inr ⟨rfl, rfl⟩) cw_X6_16 (by decide) (by decide) rfl (by decide) (by decide) (by decide) z3 (by decide) (by decide) dX6_init_39 (pc2 := 42) rfl ?_
  refine g_putF hc hi (by decide) fo_X6_30 clO_0 pf_0_3 rfl (⟨by decide, by decide⟩) dX6_init_42 (pc2 := 45) rfl ?_
  have z3 := z3.up (show 785 ≤ 786 by omega)
  have z3 := Zr.gs (key := 73) (o := 0) (i := 0) (v := some (ad κ.1 17 0)) z3 (by decide)
  have u3 := u3.tr (Up.gs _ (key := 73) (o := 0) (i := 0) (v := some (ad κ.1 17 0)) rfl)
  refine g_aload_n (i := 0) hc 0 rfl rfl dX6_init_45 (pc2 := 46) rfl ?_
  refine g_iconst (v := (2 : Int32)) hc (by decide) dX6_init_46 (pc2 := 47) rfl ?_
  refine g_newA (atype := .boolean) hc 18 0 (by decide) rfl aw_boolean (by decide) (by decide) rfl (by decide) (by decide) (by decide) (z3) (by decide) (by decide) dX6_init_47 (pc2 := 49) rfl ?_
  refine g_putF hc hi (by decide) fo_X6_34 clO_0 pf_0_4 rfl (⟨by decide, by decide⟩) dX6_init_49 (pc2 := 52) rfl ?_
  have z3 := z3.up (show 786 ≤ 787 by omega)
  have z3 := Zr.gs (key := 74) (o := 0) (i := 0) (v := some (ad κ.1 18 0)) z3 (by decide)
  have u3 := u3.tr (Up.gs _ (key := 74) (o := 0) (i := 0) (v := some (ad κ.1 18 0)) rfl)
  refine g_aload_n (i := 0) hc 0 rfl rfl dX6_init_52 (pc2 := 53) rfl ?_
  refine g_newO (K := 3) (o := 15) hc nw_X6_16 (by decide) (by decide) z3 (by decide) (by decide) dX6_init_53 (pc2 := 56) rfl ?_
  refine g_dup hc rfl dX6_init_56 (pc2 := 57) rfl ?_
  refine g_cP (As := []) hc hn (i_X2 (b := 15) (by decide) (z3.up (by decide))) ci_X6_18 rfl rfl (by decide) (by decide) (Nat.le_of_ble_eq_true rfl) dX6_init_57 (pc2 := 60) rfl fun V2 σ4 hP => ?_
  obtain ⟨g4, c4, hV, rfl, hB15, z4, u9⟩ := hP
  obtain rfl : V2 = Vc 839 g4 := hV
  have z4 : Zr 839 _ g4 := z4
  have u4 := u3.tr u9
  refine g_putF hc hi (by decide) fo_X6_38 clO_0 pf_0_5 rfl (⟨by decide, by decide⟩) dX6_init_60 (pc2 := 63) rfl ?_
  have z4 := Zr.gs (key := 75) (o := 0) (i := 0) (v := some (ad κ.1 3 15)) z4 (by decide)
  have u4 := u4.tr (Up.gs g4 (key := 75) (o := 0) (i := 0) (v := some (ad κ.1 3 15)) rfl)
  refine g_aload_n (i := 0) hc 0 rfl rfl dX6_init_63 (pc2 := 64) rfl ?_
  refine g_newO (K := 3) (o := 16) hc nw_X6_16 (by decide) (by decide) z4 (by decide) (by decide) dX6_init_64 (pc2 := 67) rfl ?_
  refine g_dup hc rfl dX6_init_67 (pc2 := 68) rfl ?_
  refine g_cP (As := []) hc hn (i_X2 (b := 16) (by decide) (z4.up (by decide))) ci_X6_18 rfl rfl (by decide) (by decide) (Nat.le_of_ble_eq_true rfl) dX6_init_68 (pc2 := 71) rfl fun V2 σ5 hP => ?_
  obtain ⟨g5, c5, hV, rfl, hB16, z5, u9⟩ := hP
  obtain rfl : V2 = Vc 891 g5 := hV
  have z5 : Zr 891 _ g5 := z5
  have u5 := u4.tr u9
  refine g_putF hc hi (by decide) fo_X6_41 clO_0 pf_0_6 rfl (⟨by decide, by decide⟩) dX6_init_71 (pc2 := 74) rfl ?_
  have z5 := Zr.gs (key := 76) (o := 0) (i := 0) (v := some (ad κ.1 3 16)) z5 (by decide)
  have u5 := u5.tr (Up.gs g5 (key := 76) (o := 0) (i := 0) (v := some (ad κ.1 3 16)) rfl)
  have km5 : KM (wc σ1 0 c0) (wc (wc σ3 15 c4) 16 c5) := (km.tr (KM.ofw _ _ (by decide))).tr (KM.ofw _ _ (by decide))
  have u6 := u5.less (S2 := STm 0) (fun k o i h => by
    unfold STm at h
    rcases h with h | h | h | h | h | ⟨b, hb, h⟩
    · obtain ⟨h1, h2, rfl, rfl⟩ := h
      rcases (show k = 70 ∨ k = 71 ∨ k = 72 ∨ k = 73 ∨ k = 74 ∨ k = 75 ∨ k = 76 by omega) with rfl | rfl | rfl | rfl | rfl | rfl | rfl
      all_goals repeat (first | exact Or.inr ⟨rfl, rfl, rfl⟩ | apply Or.inl)
    · repeat (first | exact h | apply Or.inl)
    · repeat (first | exact Or.inr (Or.inl h) | apply Or.inl)
    · repeat (first | exact Or.inr (Or.inr (Or.inl h)) | apply Or.inl)
    · omega
    · by_cases e0 : b = 0
      · subst e0
        repeat (first | exact Or.inr h | apply Or.inl)
      · by_cases e15 : b = 15
        · subst e15
          repeat (first | exact Or.inr h | apply Or.inl)
        · by_cases e16 : b = 16
          · subst e16
            repeat (first | exact Or.inr h | apply Or.inl)
          · have hh : SHm 14 k o i := Or.inr (Or.inr ⟨b, by omega, by omega, h⟩)
            repeat (first | exact Or.inr hh | apply Or.inl))
  generalize gs g5 76 0 0 (some (ad κ.1 3 16)) = g6 at z5 u6 ⊢
  generalize wc (wc σ3 15 c4) 16 c5 = σ6 at z5 km5 ⊢
  refine g_iconst (v := (0 : Int32)) hc (by decide) dX6_init_74 (pc2 := 75) rfl ?_
  refine g_istore_n (i := 1) (L1 := [(1, .int (0 : Int32)), (0, .ref (ad κ.1 0 0))]) hc rfl (by decide) rfl dX6_init_75 (pc2 := 76) rfl ?_
  have LP : ∀ (j m : Nat) (g' : Gr) (σ' : Mem), m + j = 2 → KM (wc σ1 0 c0) σ' → Zr (891 + 52 * m) σ' g' → Up κ.1 (STm m) g g' → G κ φ (QN κ φ (PT κ.1 g σ1) rm_i6.cells rm_i6.slots) (Vc (891 + 52 * m) g') (890 + 52 * m) (5942 + 341 * m) σ' [(1, .int (nI m)), (0, .ref (ad κ.1 0 0))] 76 [] := by
    intro j
    induction j with
    | zero =>
      intro m g' σ' hm hk hz' hu
      obtain rfl : m = 2 := hm
      refine g_iload_n (i := 1) hc 0 rfl rfl dX6_init_76 (pc2 := 77) rfl ?_
      refine g_iconst (v := (2 : Int32)) hc (by decide) dX6_init_77 (pc2 := 78) rfl ?_
      refine g_icmp_ge hc 100 (by decide) dX6_init_78 (pc2 := 81) rfl (fun q => ?_) (fun q => absurd (show (2 : Int32) ≤ nI 2 by decide) q)
      exact g_nret hc ⟨g', c0, rfl, hz', hu, hB0, hk⟩ hr (by decide) (by decide) dX6_init_100
    | succ j ih =>
      intro m g' σ' hm hk hz' hu
      have hm6 : m < 2 := by omega
      have e := bb_s (m := m)
      have hb : 17 + m < 19 := by omega
      have hu0 : Uc (891 + 52 * m) 0 0 := ⟨by decide, by show 0 < 891 + 52 * m; omega⟩
      refine g_iload_n (i := 1) hc 0 rfl rfl dX6_init_76 (pc2 := 77) rfl ?_
      refine g_iconst (v := (2 : Int32)) hc (by decide) dX6_init_77 (pc2 := 78) rfl ?_
      refine g_icmp_ge hc 100 (by decide) dX6_init_78 (pc2 := 81) rfl (fun q => absurd (show nI 2 ≤ nI m from q) (nI_ge hm6 (by decide))) (fun q => ?_)
      refine g_aload_n (i := 0) hc 1 rfl rfl dX6_init_81 (pc2 := 82) rfl ?_
      refine g_getr (q := ad κ.1 17 0) hc fo_X6_30 hu0 (hu.at (Or.inl ⟨by omega, by omega, rfl, rfl⟩)) dX6_init_82 (pc2 := 85) rfl ?_
      refine g_iload_n (i := 1) hc 0 rfl rfl dX6_init_85 (pc2 := 86) rfl ?_
      refine g_newO (K := 3) (o := 17 + m) hc nw_X6_16 hb e hz' (by show 890 + 52 * m + 1 ≤ 994; omega) (by show 5942 + 341 * m + 9 ≤ 6624; omega) dX6_init_86 (pc2 := 89) rfl ?_
      refine g_dup hc rfl dX6_init_89 (pc2 := 90) rfl ?_
      have hcM := i_X2 (κ := κ) (g := g') (σ := σ') hb (by rw [e]; exact hz'.up (by omega))
      rw [e] at hcM
      refine g_cP (As := []) hc hn hcM ci_X6_18 rfl rfl (by decide) ⟨by show 890 + 52 * m + 1 + 51 ≤ 994; omega, by show 5942 + 341 * m + 9 + 332 ≤ 6624; omega⟩ (Nat.le_of_ble_eq_true rfl) dX6_init_90 (pc2 := 93) rfl fun V2 σ2 hP => ?_
      unfold PB at hP
      rw [e, show 891 + 52 * m + 52 = 891 + 52 * (m + 1) by omega] at hP
      obtain ⟨g2, c', rfl, rfl, -, z4, u4⟩ := hP
      refine g_astR hc 17 0 3 (17 + m) (by decide) (by decide) rfl rfl rfl ⟨by decide, by show 785 < 891 + 52 * (m + 1); omega⟩ ⟨hb, by show bb (17 + m) < 891 + 52 * (m + 1); omega⟩ (ib_nI hm6 (by decide)) dX6_init_93 (pc2 := 94) rfl ?_
      rw [nI_clamp (by omega)]
      refine g_iinc (v := nI (m + 1)) (L1 := [(1, .int (nI (m + 1))), (0, .ref (ad κ.1 0 0))]) hc 0 rfl (inc1 m) (by decide) rfl dX6_init_94 (pc2 := 97) rfl ?_
      refine g_goto hc 76 (by decide) dX6_init_97 ?_
      refine g_widen (k2 := 890 + 52 * (m + 1)) (n2 := 5942 + 341 * (m + 1)) (by show 890 + 52 * m + 1 + 51 ≤ _; omega) (by show 5942 + 341 * m + 9 + 332 ≤ _; omega) ?_
      refine ih (m + 1) _ _ (by omega) (hk.tr (KM.ofw _ _ (by omega))) (z4.gs (show 785 < 891 + 52 * (m + 1) by omega)) (((hu.tr u4).tr (Up.gs _ (by show some (ad κ.1 3 (m + 17)) = _; rw [Nat.add_comm m 17]))).less fun k o i h => ?_)
      unfold STm at h ⊢
      rcases h with h | h | h | h | h | ⟨b, h1, h⟩
      · exact Or.inl (Or.inl (Or.inl h))
      · exact Or.inl (Or.inl (Or.inr (Or.inl h)))
      · exact Or.inl (Or.inl (Or.inr (Or.inr (Or.inl h))))
      · exact Or.inl (Or.inl (Or.inr (Or.inr (Or.inr (Or.inl h)))))
      · by_cases h6 : i = m
        · exact Or.inr ⟨h.1, h.2.1, h6⟩
        · exact Or.inl (Or.inl (Or.inr (Or.inr (Or.inr (Or.inr (Or.inl ⟨h.1, h.2.1, by omega⟩))))))
      · by_cases h6 : b = 17 + m
        · subst h6
          exact Or.inl (Or.inr h)
        · exact Or.inl (Or.inl (Or.inr (Or.inr (Or.inr (Or.inr (Or.inr ⟨b, by omega, h⟩))))))
  exact LP 2 0 g6 σ6 rfl km5 z5 u6

end INITH
