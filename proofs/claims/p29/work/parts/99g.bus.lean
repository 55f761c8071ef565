/-! THE CONSTRUCTOR OF A BUS -/
section INITB
variable {κ : Kx} {g : Gr} {σ : Mem} {b : Nat}
def SBm (b m : Nat) : Nat → Nat → Nat → Prop := fun k o i => (78 ≤ k ∧ k ≤ 80 ∧ o = b ∧ i = 0) ∨ (81 ≤ k ∧ k ≤ 87 ∧ o / 6 = b ∧ o % 6 < m ∧ i = 0) ∨ (k = 6 ∧ o = b ∧ i < m)
def PB (n0 b : Nat) (g : Gr) (σ : Mem) (V2 : Wv) (σ2 : Mem) : Prop := ∃ g2 c', V2 = Vc (bb b + 52) g2 ∧ σ2 = wc σ b c' ∧ Bus (anQ 2 4) c' 0 ∧ Zr (bb b + 52) σ2 g2 ∧ Up n0 (SBm b 6) g g2
theorem inc1 (m : Nat) : nI m + Int32.ofInt 1 = nI (m + 1) := (nI_add m 1)
/-- cells that a bus doesn't reach -/
theorem wc_far (σ : Mem) (c : Mem) {k o : Nat} (h : bb b + 52 ≤ off (kOwn k) o) (i : Nat) : wc σ b c k o i = σ k o i := by
  unfold wc
  by_cases h1 : isB k = true
  · rw [if_pos h1]
    have h2 := isB_is h1
    refine if_neg fun e => ?_
    subst e
    have h3 : off (kOwn k) o < bb o + 52 := by
      rcases (show k = 4 ∨ k = 5 ∨ k = 30 ∨ k = 31 ∨ k = 32 ∨ k = 33 ∨ k = 34 ∨ k = 35 by omega) with rfl | rfl | rfl | rfl | rfl | rfl | rfl | rfl
      · exact (show bb o + 1 < bb o + 52 by omega)
      · exact (show bb o + 2 < bb o + 52 by omega)
      all_goals exact (show bb o + 0 < bb o + 52 by omega)
    omega
  · rw [if_neg h1]
    by_cases h3 : isM k = true
    · rw [if_pos h3]
      have h2 := isM_is h3
      refine if_neg fun e => ?_
      subst e
      have h4 : ∃ d, d < 8 ∧ off (kOwn k) o = M0 o + d := by
        rcases (show k = 8 ∨ k = 10 ∨ k = 11 ∨ k = 12 ∨ k = 14 ∨ (k = 40 ∨ k = 41 ∨ k = 42 ∨ k = 43 ∨ k = 44 ∨ k = 45 ∨ k = 46 ∨ k = 47) ∨ k = 50 ∨ k = 51 by omega) with rfl | rfl | rfl | rfl | rfl | (rfl | rfl | rfl | rfl | rfl | rfl | rfl | rfl) | rfl | rfl
        · exact ⟨1, by omega, rfl⟩
        · exact ⟨3, by omega, rfl⟩
        · exact ⟨4, by omega, rfl⟩
        · exact ⟨5, by omega, rfl⟩
        · exact ⟨7, by omega, rfl⟩
        · exact ⟨0, by omega, rfl⟩
        · exact ⟨0, by omega, rfl⟩
        · exact ⟨0, by omega, rfl⟩
        · exact ⟨0, by omega, rfl⟩
        · exact ⟨0, by omega, rfl⟩
        · exact ⟨0, by omega, rfl⟩
        · exact ⟨0, by omega, rfl⟩
        · exact ⟨0, by omega, rfl⟩
        · exact ⟨2, by omega, rfl⟩
        · exact ⟨6, by omega, rfl⟩
      obtain ⟨d, hd, he⟩ := h4
      rw [he] at h
      unfold M0 at h
      omega
    · rw [if_neg h3]
set_option maxHeartbeats 4000000 in
theorem i_X2 (hb : b < 19) (hz : Zr (bb b + 1) σ g) : CtN κ yX2_init cX2_init 2 rm_i2 (Vc (bb b + 1) g) [.ref (ad κ.1 3 b)] σ (PB κ.1 b g σ) := by
  refine ct_N (by decide +kernel) rfl (Nat.le_of_ble_eq_true rfl) (fun φ hc hr hn hi => ?_)
  have hc : Cx κ φ RX2 cX2_init 2 rm_i2 := hc
  show G κ φ _ _ 0 0 σ [(0, .ref (ad κ.1 3 b))] 0 []
  have hlt : ∀ d, 1 ≤ d → off 3 b < bb b + d := fun d h => (show bb b < bb b + d by omega)
  have z1 : Zr (bb b + 2) σ (gs g 78 b 0 (some (ad κ.1 4 b))) := (hz.up (by omega)).gs (hlt 2 (by omega))
  have z2 : Zr (bb b + 3) σ (gs (gs g 78 b 0 (some (ad κ.1 4 b))) 79 b 0 (some (ad κ.1 5 b))) := (z1.up (by omega)).gs (hlt 3 (by omega))
  refine g_aload_n (i := 0) hc 0 rfl rfl dX2_init_0 (pc2 := 1) rfl ?_
  refine g_objI hc ob_X2 (by decide) (by decide) dX2_init_1 (pc2 := 4) rfl ?_
  refine g_aload_n (i := 0) hc 0 rfl rfl dX2_init_4 (pc2 := 5) rfl ?_
  refine g_bipush (v := (16 : Int32)) hc (by decide) dX2_init_5 (pc2 := 7) rfl ?_
  refine g_newA (atype := .int) hc 4 b (by decide) rfl aw_int (by decide) (by decide) rfl (by decide) hb rfl hz (by decide) (by decide) dX2_init_7 (pc2 := 9) rfl ?_
  refine g_putF hc hi (by decide) fo_X2_9 clO_3 pf_3_6 rfl (ucB (d := 0) hb rfl rfl (by omega)) dX2_init_9 (pc2 := 12) rfl ?_
  refine g_aload_n (i := 0) hc 0 rfl rfl dX2_init_12 (pc2 := 13) rfl ?_
  refine g_iconst (v := (4 : Int32)) hc (by decide) dX2_init_13 (pc2 := 14) rfl ?_
  refine g_newA (atype := .int) hc 5 b (by decide) rfl aw_int (by decide) (by decide) rfl (by decide) hb rfl z1 (by decide) (by decide) dX2_init_14 (pc2 := 16) rfl ?_
  refine g_putF hc hi (by decide) fo_X2_15 clO_3 pf_3_7 rfl (ucB (d := 0) hb rfl rfl (by omega)) dX2_init_16 (pc2 := 19) rfl ?_
  refine g_aload_n (i := 0) hc 0 rfl rfl dX2_init_19 (pc2 := 20) rfl ?_
  refine g_bipush (v := (6 : Int32)) hc (by decide) dX2_init_20 (pc2 := 22) rfl ?_
  refine g_newQ hc hn 6 b (Or.inl ⟨rfl, rfl⟩) cw_X2_18 (by decide) (by decide) rfl (by decide) hb rfl z2 (by decide) (by decide) dX2_init_22 (pc2 := 25) rfl ?_
  refine g_putF hc hi (by decide) fo_X2_20 clO_3 pf_3_8 rfl (ucB (d := 0) hb rfl rfl (by omega)) dX2_init_25 (pc2 := 28) rfl ?_
  obtain ⟨g3, hg3⟩ : ∃ g3, g3 = gs (gs (gs g 78 b 0 (some (ad κ.1 4 b))) 79 b 0 (some (ad κ.1 5 b))) 80 b 0 (some (ad κ.1 6 b)) := ⟨_, rfl⟩
  have z3 : Zr (bb b + 4) σ g3 := by
    rw [hg3]
    exact (z2.up (by omega)).gs (hlt 4 (by omega))
  have u3 : Up κ.1 (SBm b 0) g g3 := by
    rw [hg3]
    refine (((Up.gs _ rfl).tr (Up.gs _ rfl)).tr (Up.gs _ rfl)).less fun k o i h => ?_
    unfold SBm at h
    omega
  rw [← hg3]
  refine g_iconst (v := (0 : Int32)) hc (by decide) dX2_init_28 (pc2 := 29) rfl ?_
  refine g_istore_n (i := 1) (L1 := [(1, .int (0 : Int32)), (0, .ref (ad κ.1 3 b))]) hc rfl (by decide) rfl dX2_init_29 (pc2 := 30) rfl ?_
  have LP : ∀ (j m : Nat) (g' : Gr), m + j = 6 → Zr (bb b + 4 + 8 * m) σ g' → Up κ.1 (SBm b m) g g' → G κ φ (QN κ φ (PB κ.1 b g σ) rm_i2.cells rm_i2.slots) (Vc (bb b + 4 + 8 * m) g') (3 + 8 * m) (26 + 51 * m) σ [(1, .int (nI m)), (0, .ref (ad κ.1 3 b))] 30 [] := by
    intro j
    induction j with
    | zero =>
      intro m g' hm hz' hu
      obtain rfl : m = 6 := hm
      refine g_iload_n (i := 1) hc 0 rfl rfl dX2_init_30 (pc2 := 31) rfl ?_
      refine g_bipush (v := (6 : Int32)) hc (by decide) dX2_init_31 (pc2 := 33) rfl ?_
      refine g_icmp_ge hc 55 (by decide) dX2_init_33 (pc2 := 36) rfl (fun q => ?_) (fun q => absurd (show (6 : Int32) ≤ nI 6 by decide) q)
      obtain ⟨c', h1, h2⟩ := c_makeNew σ b (cOf σ b) (M := 2) (S := 4) (by omega) (by omega) (by omega) (by omega)
      rw [wc_self] at h1
      have h1 : f2_makeNew b 2 4 σ = some (wc σ b c') := h1
      have hM : ∀ m, m < 6 → MOk κ (Vc (bb b + 4 + 8 * 6) g') (6 * b + m) := fun m hm => by
        have e := M0_of (b := b) hm
        have ho : 6 * b + m < 114 := by omega
        have hs : ∀ k, 81 ≤ k → k ≤ 87 → SBm b 6 k (6 * b + m) 0 := fun k h1 h2 => Or.inr (Or.inl ⟨h1, h2, by omega, by omega, rfl⟩)
        exact ⟨ucM (d := 0) ho rfl rfl (by omega), ucM (d := 1) ho rfl rfl (by omega), ucM (d := 2) ho rfl rfl (by omega), ucM (d := 6) ho rfl rfl (by omega), hu.at (hs 81 (by omega) (by omega)), hu.at (hs 82 (by omega) (by omega)), hu.at (hs 83 (by omega) (by omega))⟩
      have hU : BOk κ (Vc (bb b + 4 + 8 * 6) g') b := ⟨ucB (d := 0) hb rfl rfl (by omega), ucB (d := 1) hb rfl rfl (by omega), ucB (d := 2) hb rfl rfl (by omega), ucB (d := 3) hb rfl rfl (by omega), hu.at (Or.inl ⟨by omega, by omega, rfl, rfl⟩), hu.at (Or.inl ⟨by omega, by omega, rfl, rfl⟩), hu.at (Or.inl ⟨by omega, by omega, rfl, rfl⟩), fun m hm => hu.at (Or.inr (Or.inr ⟨rfl, rfl, hm⟩)), hM⟩
      refine g_aload_n (i := 0) hc 1 rfl rfl dX2_init_55 (pc2 := 56) rfl ?_
      refine g_iconst (v := (2 : Int32)) hc (by decide) dX2_init_56 (pc2 := 57) rfl ?_
      refine g_iconst (v := (4 : Int32)) hc (by decide) dX2_init_57 (pc2 := 58) rfl ?_
      refine g_vV hc (kv2_makeNew hU h1) co_X2_25 hU.1 rfl rfl (by decide) (by decide) (Nat.le_of_ble_eq_true rfl) dX2_init_58 (pc2 := 61) rfl ?_
      refine g_nret hc ⟨g', c', by rw [show bb b + 4 + 8 * 6 = bb b + 52 by omega], rfl, h2, fun k o i z => ?_, hu⟩ hr (by decide) (by decide) dX2_init_61
      have hz0 := hz' k o i (by omega)
      exact ⟨(wc_far σ c' z i).trans hz0.1, hz0.2⟩
    | succ j ih =>
      intro m g' hm hz' hu
      have hm6 : m < 6 := by omega
      have e := M0_of (b := b) hm6
      have ho : 6 * b + m < 114 := by omega
      refine g_iload_n (i := 1) hc 0 rfl rfl dX2_init_30 (pc2 := 31) rfl ?_
      refine g_bipush (v := (6 : Int32)) hc (by decide) dX2_init_31 (pc2 := 33) rfl ?_
      refine g_icmp_ge hc 55 (by decide) dX2_init_33 (pc2 := 36) rfl (fun q => absurd (show nI 6 ≤ nI m from q) (nI_ge hm6 (by decide))) (fun q => ?_)
      refine g_aload_n (i := 0) hc 1 rfl rfl dX2_init_36 (pc2 := 37) rfl ?_
      refine g_getr (q := ad κ.1 6 b) hc fo_X2_20 (ucB (d := 0) hb rfl rfl (by omega)) (hu.at (Or.inl ⟨by omega, by omega, rfl, rfl⟩)) dX2_init_37 (pc2 := 40) rfl ?_
      refine g_iload_n (i := 1) hc 0 rfl rfl dX2_init_40 (pc2 := 41) rfl ?_
      refine g_newO (K := 7) (o := 6 * b + m) hc nw_X2_18 ho e hz' (by show 3 + 8 * m + 1 ≤ 51; omega) (by show 26 + 51 * m + 11 ≤ 332; omega) dX2_init_41 (pc2 := 44) rfl ?_
      refine g_dup hc rfl dX2_init_44 (pc2 := 45) rfl ?_
      have hcM := i_X5 (κ := κ) (g := g') (σ := σ) ho (by rw [e]; exact hz'.up (by omega))
      rw [e] at hcM
      refine g_cN (As := []) hc hn hcM cn_X5 (fun s h => h.2.2.2.1) rfl rfl (by decide) ⟨by show 3 + 8 * m + 1 + 7 ≤ 51; omega, by show 26 + 51 * m + 11 + 40 ≤ 332; omega⟩ (Nat.le_of_ble_eq_true rfl) dX2_init_45 (pc2 := 48) rfl fun V2 σ2 hP => ?_
      rw [show bb b + 4 + 8 * m + 8 = bb b + 4 + 8 * (m + 1) by omega] at hP
      obtain ⟨rfl, g2, rfl, z4, u4⟩ := hP
      refine g_astR hc 6 b 7 (6 * b + m) (by decide) (by decide) rfl rfl rfl (ucB (d := 3) hb rfl rfl (by omega)) (ucM (d := 0) ho rfl rfl (by omega)) (ib_nI hm6 (by decide)) dX2_init_48 (pc2 := 49) rfl ?_
      rw [nI_clamp (by omega)]
      refine g_iinc (v := nI (m + 1)) (L1 := [(1, .int (nI (m + 1))), (0, .ref (ad κ.1 3 b))]) hc 0 rfl (inc1 m) (by decide) rfl dX2_init_49 (pc2 := 52) rfl ?_
      refine g_goto hc 30 (by decide) dX2_init_52 ?_
      refine g_widen (k2 := 3 + 8 * (m + 1)) (n2 := 26 + 51 * (m + 1)) (by show 3 + 8 * m + 1 + 7 ≤ _; omega) (by show 26 + 51 * m + 11 + 40 ≤ _; omega) ?_
      refine ih (m + 1) _ (by omega) (z4.gs (show bb b + 3 < _ by omega)) (((hu.tr u4).tr (Up.gs _ rfl)).less fun k o i h => ?_)
      unfold SBm at h ⊢
      rcases h with h | h | h
      · exact Or.inl (Or.inl (Or.inl h))
      · by_cases h6 : o % 6 = m
        · exact Or.inl (Or.inr ⟨h.1, h.2.1, by omega, h.2.2.2.2⟩)
        · exact Or.inl (Or.inl (Or.inr (Or.inl ⟨h.1, h.2.1, h.2.2.1, by omega, h.2.2.2.2⟩)))
      · by_cases h6 : i = m
        · exact Or.inr ⟨h.1, h.2.1, h6⟩
        · exact Or.inl (Or.inl (Or.inr (Or.inr ⟨h.1, h.2.1, by omega⟩)))
  exact LP 6 0 g3 rfl z3 u3
end INITB
