/-! THE CLASS'S CALLS: those that change something, those that tell what would be -/
section CALLA
variable {q r : QS} {c d : Mem} {T B : Nat} {σ σ' τ : Mem}
theorem a_setCredit (h : Bus q (cOf σ 0) T) (hr : RI σ) {k : Nat} (hk : k ≤ 9) : ∃ σ', ni (f6_setCredit (nI k) σ) = some (q 4, σ') ∧ After σ q T σ' (qs q 4 (nI k)) T := by
  obtain ⟨σa, s1, s2, s3⟩ := pushed h hr
  obtain ⟨f, hE⟩ := s2.1
  refine ⟨_, ni_of (s := wc σa 0 (ms (cOf σa 0) 34 0 0 (nI k))) ?_, s3 _ _ _ (s2.credit (nI k))⟩
  unfold f6_setCredit
  simp only [lit, nmS]
  rw [if_neg (show ¬ nI k < nI 0 from nI_pos (by omega)), if_pos (nI_le hk (by decide)), s1, bvS]
  rw [← hE.t4, ← wc_sb σa _ (by decide), wc_self]
  rfl
theorem a_setLatency (h : Bus q (cOf σ 0) T) (hr : RI σ) {s k : Nat} (hs : s < 4) (hk : k ≤ 9) : ∃ σ', ni (f6_setLatency (nI s) (nI k) σ) = some (q (7 + s), σ') ∧ After σ q T σ' (qs q (7 + s) (nI k)) T := by
  obtain ⟨σa, s1, s2, s3⟩ := pushed h hr
  obtain ⟨f, hE⟩ := s2.1
  refine ⟨_, ni_of (s := wc σa 0 (ms (cOf σa 0) 5 0 s (nI k))) ?_, s3 _ _ _ (s2.lat hs hk)⟩
  unfold f6_setLatency
  simp only [lit, nmS]
  rw [p_slave hs, bxR, if_neg (show ¬ nI k < nI 0 from nI_pos (by omega)), if_pos (nI_le hk (by decide)), s1, bvS, gd_ib hs (by decide), gd_ib hs (by decide), clI (by omega)]
  rw [← hE.lat hs, ← wc_sb σa _ (by decide), wc_self]
  rfl
theorem a_addMaster (h : Bus q (cOf σ 0) T) (hr : RI σ) (e : nM q < 6) : ∃ σ', ni (f6_addMaster σ) = some (nI (nM q), σ') ∧ After σ q T σ' (qs q 0 (nI (nM q + 1))) T := by
  have hM := h.2.1.sz.M
  obtain ⟨f0, hE0⟩ := h.1
  have e30 : σ 30 0 0 = nI (nM q) := hE0.t0.trans hM.1
  obtain ⟨σa, s1, s2, s3⟩ := pushed h hr
  obtain ⟨c', j1, j2⟩ := c_join σa 0 s2 e
  rw [wc_self] at j1
  refine ⟨_, ni_of (s := wc σa 0 c') ?_, s3 _ _ _ j2⟩
  unfold f6_addMaster
  simp only [lit]
  rw [e30, if_pos (nI_lt e (by decide)), s1, bvS, j1, bdS]
theorem a_give (h : Bus q (cOf σ 0) T) (hr : RI σ) {s m : Nat} (hs : s < nS q) (hm : m < nM q) (hb : bkQ q m = false) : ∃ σ', ni (f6_give (nI s) (nI m) σ) = some (q (11 + s), σ') ∧ After σ q T σ' (qs q (11 + s) (nI m)) T := by
  have hM := h.2.1.sz.M
  have hS := h.2.1.sz.S
  obtain ⟨f0, hE0⟩ := h.1
  have hm6 : m < 6 := by omega
  have e40 : σ 40 (6 * 0 + m) 0 = bI (bkQ q m) := hE0.bk hm6
  rw [hb] at e40
  obtain ⟨σa, s1, s2, s3⟩ := pushed h hr
  obtain ⟨f, hE⟩ := s2.1
  refine ⟨_, ni_of (s := wc σa 0 (ms (cOf σa 0) 4 0 s (nI m))) ?_, s3 _ _ _ (s2.give hs hm)⟩
  unfold f6_give
  simp only [lit, nmS]
  rw [p_yesS h hs, bxR, p_yes h hm, bxR, gd_ib hm6 (by decide), clI (show m < 2 ^ 31 by omega), e40, if_pos (show bI false = nI 0 by decide), s1, bvS, gd_ib (show s < 16 by omega) (by decide), gd_ib (show s < 16 by omega) (by decide), clI (show s < 2 ^ 31 by omega)]
  rw [← hE.own hs (by omega), ← wc_sb σa _ (by decide), wc_self]
  rfl
theorem a_forgive (h : Bus q (cOf σ 0) T) (hr : RI σ) {m k : Nat} (hm : m < nM q) (hk : k < nM q) : ∃ σ', ni (f6_forgive (nI m) (nI k) σ) = some (owQ q m k, σ') ∧ After σ q T σ' (qs q (27 + 6 * m + k) (nI 0)) T := by
  have hM := h.2.1.sz.M
  have hm6 : m < 6 := by omega
  have hk6 : k < 6 := by omega
  obtain ⟨σa, s1, s2, s3⟩ := pushed h hr
  obtain ⟨f, hE⟩ := s2.1
  refine ⟨_, ni_of (s := wc σa 0 (ms (cOf σa 0) 8 m k (nI 0))) ?_, s3 _ _ _ (s2.forgive hm hk)⟩
  unfold f6_forgive
  simp only [lit, nmS]
  rw [p_yes h hm, bxR, p_yes h hk, bxR, s1, bvS, gd_ib hm6 (by decide), gd_ib hk6 (by decide), gd_ib hm6 (by decide), gd_ib hk6 (by decide), clI (show m < 2 ^ 31 by omega), clI (show k < 2 ^ 31 by omega)]
  rw [← hE.ow hm6 hk6, ← wc_sm σa _ (by decide) (by decide) hm6, wc_self]
  rfl
def sdQ (q : QS) (m s w : Nat) (v : Int32) : QS := qs (qs (qs (qs q (63 + 38 * m + (8 + 3 * nB q m)) (nI s)) (63 + 38 * m + (9 + 3 * nB q m)) (nI w)) (63 + 38 * m + (10 + 3 * nB q m)) v) (63 + 38 * m + 0) (nI (nB q m + 1))
theorem a_send (h : Bus q (cOf σ 0) T) (hr : RI σ) {m s w : Nat} {v : Int32} (hm : m < nM q) (hs : s < 4) (hw : 1 ≤ w) (hw2 : w ≤ 8) (hv : v = 0 ∨ v = 1) (hb : bkQ q m = false) (hB6 : nB q m < 6) : ∃ σ', ni (f6_send (nI m) (nI s) (nI w) v σ) = some (nI (nB q m + 1), σ') ∧ After σ q T σ' (sdQ q m s w v) T := by
  have hM := h.2.1.sz.M
  obtain ⟨f0, hE0⟩ := h.1
  have hm6 : m < 6 := by omega
  have htk := c_takes σ 0 hE0 h.2.1.sz hm6
  rw [wc_self, hb, decide_eq_true hB6] at htk
  obtain ⟨σa, s1, s2, s3⟩ := pushed h hr
  obtain ⟨c', j1, j2, j3⟩ := c_addB σa 0 s2 hm hB6 hs hw hw2 hv
  rw [wc_self] at j1
  refine ⟨_, ni_of (s := wc σa 0 c') ?_, s3 _ _ _ j2⟩
  unfold f6_send
  simp only [lit]
  rw [p_yes h hm, bxR, p_slave hs, bxR, if_neg (show ¬ nI w < nI 1 from fun z => by
    have := (nI_ltI (by omega) (by omega)).mp z
    omega), if_pos (nI_le hw2 (by decide)), gd_ib hm6 (by decide), clI (show m < 2 ^ 31 by omega), htk, bdS, if_neg (show ¬ bI (!false && true) = nI 0 by decide), s1, bvS, j1, bvS, wc_m _ _ (by decide) (by decide) hm6, j3]
theorem a_pass (h : Bus q (cOf σ 0) T) (hr : RI σ) {n : Nat} (hn : 1 ≤ n) (hn2 : n ≤ 99) (hT : T + 3000 < 2 ^ 27) : ∃ σ', ni (f6_pass (nI n) σ) = some (nI (wkN q n), σ') ∧ After σ q T σ' (tkN q n) (T + n) := by
  obtain ⟨σa, s1, s2, s3⟩ := pushed h hr
  obtain ⟨f, hE⟩ := s2.1
  obtain ⟨c', j1, j2⟩ := s2.steps (n := n) (by omega) (by omega) σa 0
  rw [wc_self] at j1
  obtain ⟨f2, hE2⟩ := j2.1
  have hid := tkN_idle h.2.1 h.2.2 n (by omega)
  refine ⟨_, ni_of (s := wc σa 0 c') ?_, s3 _ _ _ j2⟩
  unfold f6_pass
  simp only [lit, nmS]
  have e33 : σa 33 0 0 = q 3 := hE.tx
  rw [if_neg (show ¬ nI n < nI 1 from fun z => by
    have := (nI_ltI (by omega) (by omega)).mp z
    omega), if_pos (nI_le hn2 (by decide)), s1, bvS, j1, bvS, wc_b _ _ (by decide), hE2.tx, e33, hid.2, Int32.add_comm (q 3), Int32.add_sub_cancel, pk_sub (by omega), show n - (n - wkN q n) = wkN q n by omega]
theorem a_undo (h : Top σ q T) : ∃ σ' k, k < 14 ∧ ni (f6_undo σ) = some (nI k, σ') ∧ Bus q (cOf σ' 0) T ∧ RI σ' ∧ ∀ s ts, Sav σ s ts → Sav σ' s ts := by
  obtain ⟨n, c, hn, hc0, hc, h53, h52, g2⟩ := h
  obtain ⟨c1, rfl⟩ : ∃ c1, c = c1 + 1 := ⟨c - 1, by omega⟩
  generalize hb : (n + 13) % 14 = b at g2
  have hb14 : b < 14 := by omega
  obtain ⟨d, hd1, hd2⟩ := c_copy σ (o := 0) (a := b + 1) (by omega) g2 (cOf σ 0)
  rw [wc_self] at hd1
  have e52d : wc σ 0 d 52 0 0 = nI (c1 + 1) := (wc_out _ _ _ (by decide) (by decide) _ _).trans h52
  have hcls : f6_undo σ = some (.inr (nI c1), ms (ms (wc σ 0 d) 53 0 0 (nI b)) 52 0 0 (nI c1)) := by
    have hj : ∀ y : Int32, y = nI b → (if (σ 52 0 0) < nI 1 then some σ else if y < nI 14 then gd (ib y 14) (bv (f2_copyFrom 0 (y.toNatClampNeg + 1) σ) fun s2 => some (ms (ms s2 53 0 0 y) 52 0 0 (ms s2 53 0 0 y 52 0 0 - nI 1))) else some σ) = some (ms (ms (wc σ 0 d) 53 0 0 (nI b)) 52 0 0 (nI c1)) := by
      intro y hy
      subst hy
      rw [h52, if_neg (show ¬ nI (c1 + 1) < nI 1 from fun z => by
        have := (nI_ltI (by omega) (by omega)).mp z
        omega), if_pos (nI_lt hb14 (by decide)), gd_ib hb14 (by decide), clI (by omega), hd1, bvS, ms_ne _ _ (by omega), e52d, show nI (c1 + 1) - nI 1 = nI c1 from nI_pred c1]
    unfold f6_undo f4_takeBack
    simp only [lit, nmS]
    rw [h52, h53, if_pos (nI_le (by omega) (by omega))]
    rw [h52] at hj
    by_cases e0 : n = 0
    · subst e0
      rw [if_pos (show nI 0 ≤ nI 0 by decide), hj (nI 13) (by rw [← hb]), bvS, ms_eq]
    · rw [if_neg (show ¬ nI n ≤ nI 0 from nI_ge (by omega) (by omega)), hj (nI n - nI 1) (by rw [pk_sub (by omega), ← hb, show (n + 13) % 14 = n - 1 by omega]), bvS, ms_eq]
  refine ⟨_, c1, by omega, ni_of hcls, ((hd2.put σ).msx _ (by decide) (by decide)).msx _ (by decide) (by decide), ⟨b, c1, hb14, by omega, ?_, ms_eq _ _ _ _ _⟩, fun s ts hs => ⟨?_, ?_⟩⟩
  · rw [ms_ne _ _ (by omega), ms_eq]
  · rw [ms_ne _ _ (by omega), ms_ne _ _ (by omega), wc_out _ _ _ (by decide) (by decide)]; exact hs.1
  · exact ((hs.2.other d (by omega)).msx _ (by decide) (by decide)).msx _ (by decide) (by decide)
theorem zb_1 : zb (nI 1) = nI 1 := zb_01 (Or.inr rfl)
theorem a_save (h : Bus q (cOf σ 0) T) (hr : RI σ) : ∃ σ', ni (f6_save (nI 0) σ) = some (q 2, σ') ∧ Bus q (cOf σ' 0) T ∧ RI σ' ∧ Sav σ' q T := by
  obtain ⟨d, hd1, hd2⟩ := c_copy σ (o := 0 + 17) (a := 0) (by omega) h (cOf σ (0 + 17))
  rw [wc_self] at hd1
  obtain ⟨f, hE⟩ := h.1
  have hcls : f6_save (nI 0) σ = some (.inr (q 2), ms (wc σ (0 + 17) d) 18 0 0 (nI 1)) := by
    unfold f6_save
    simp only [lit, nmS]
    have e32 : wc σ (0 + 17) d 32 0 0 = q 2 := (rd_b σ d (k := 32) (by decide) (show 0 ≠ 0 + 17 by omega) 0).trans hE.t2
    rw [p_save (s := 0) (by omega), bxR, gd_ib (show 0 < 2 by omega) (by decide), clI (by omega), hd1, bvS, gd_ib (show 0 < 2 by omega) (by decide), zb_1, ms_ne _ _ (by omega), e32]
  obtain ⟨n, c, g1, g2, g3, g4⟩ := hr
  refine ⟨_, ni_of hcls, (h.other d (by omega)).msx _ (by decide) (by decide), ⟨n, c, g1, g2, ?_, ?_⟩, ms_eq _ _ _ _ _, (hd2.put σ).msx _ (by decide) (by decide)⟩
  · rw [ms_ne _ _ (by omega), wc_out _ _ _ (by decide) (by decide)]; exact g3
  · rw [ms_ne _ _ (by omega), wc_out _ _ _ (by decide) (by decide)]; exact g4
theorem a_restore (h : Sav σ q T) (hr : RI σ) : ∃ σ', ni (f6_restore (nI 0) σ) = some (q 2, σ') ∧ Bus q (cOf σ' 0) T ∧ RI σ' := by
  obtain ⟨x1, g2⟩ := h
  obtain ⟨d, hd1, hd2⟩ := c_copy σ (o := 0) (a := 0 + 17) (by omega) g2 (cOf σ 0)
  rw [wc_self] at hd1
  obtain ⟨f, hE⟩ := hd2.1
  have hcls : f6_restore (nI 0) σ = some (.inr (q 2), ms (wc σ 0 d) 52 0 0 (nI 0)) := by
    unfold f6_restore f4_empty
    simp only [lit, nmS]
    rw [p_save (s := 0) (by omega), bxR, gd_ib (show 0 < 2 by omega) (by decide), gd_ib (show 0 < 2 by omega) (by decide), clI (by omega), x1, if_neg (show ¬ nI 1 = nI 0 by decide), hd1, bvS, bvS, ms_ne _ _ (by omega), wc_b _ _ (by decide), hE.t2]
  obtain ⟨n, c, g1, g3, g4, g5⟩ := hr
  refine ⟨_, ni_of hcls, (hd2.put σ).msx _ (by decide) (by decide), ⟨n, 0, g1, by omega, ?_, ms_eq _ _ _ _ _⟩⟩
  rw [ms_ne _ _ (by omega), wc_out _ _ _ (by decide) (by decide)]; exact g4
/-! what would be -/
theorem a_turnIn (h : Bus q (cOf σ 0) T) (hT : T + 3000 < 2 ^ 27) {n : Nat} (hn : n ≤ 99) : ∃ σ', ni (f6_turnIn (nI n) σ) = some (oN (tk1 (tkN q n)).1, σ') ∧ T15 σ σ' := by
  obtain ⟨c1, hc1, hc2⟩ := c_copy σ (o := 15) (a := 0) (by omega) h (cOf σ 15)
  rw [wc_self] at hc1
  obtain ⟨c2, hs1, hs2⟩ := hc2.steps (n := n + 1) (by omega) (by omega) σ 15
  obtain ⟨f, hE⟩ := hs2.1
  have e5 : c2 35 0 0 = oN (tk1 (tkN q n)).1 := hE.ty.trans (tkQ_5 _)
  refine ⟨_, ni_of (s := wc σ 15 c2) ?_, t15_wc σ c2 (Or.inl rfl)⟩
  unfold f6_turnIn
  simp only [lit]
  rw [if_neg (show ¬ nI n < nI 0 from nI_pos (by omega)), if_pos (nI_le hn (by decide)), hc1, bvS, nI_add, hs1, bvS, wc_b _ _ (by decide), e5]
theorem one_P {M m : Nat} (j : Nat) (_ : j < M) : ((fun i => decide (i = m)) j = true ↔ (m ≤ j ∧ j ≤ m)) := by
  rw [decide_eq_true_iff]; omega
def dnI (q : QS) (m : Nat) : Int32 := if dnT (fun i => decide (i = m)) q 401 ≤ 400 then nI (dnT (fun i => decide (i = m)) q 401) else -9
theorem a_doneIn (h : Bus q (cOf σ 0) T) (hT : T + 3000 < 2 ^ 27) {m : Nat} (hm : m < nM q) : ∃ σ', ni (f6_doneIn (nI m) σ) = some (dnI q m, σ') ∧ T15 σ σ' := by
  have hM := h.2.1.sz.M
  obtain ⟨c1, hc1, hc2⟩ := c_copy σ (o := 15) (a := 0) (by omega) h (cOf σ 15)
  rw [wc_self] at hc1
  obtain ⟨c2, hs⟩ := c_till σ 15 (P := fun i => decide (i = m)) (a := m) (z := m) (N := 401) (a3 := nI 400) hc2 hm (Nat.le_refl _) (fun j hj => one_P j hj) (by decide) (fun i hi => by rw [nI_ltI (by omega) (by omega)]; omega) (by omega) (by omega)
  have hle := dnT_le (fun i => decide (i = m)) q 401
  refine ⟨_, ni_of (s := wc σ 15 c2) ?_, t15_wc σ c2 (Or.inl rfl)⟩
  unfold f6_doneIn dnI
  simp only [lit]
  rw [p_yes h hm, bxR, hc1, bvS, hs, bdS]
  by_cases e : dnT (fun i => decide (i = m)) q 401 ≤ 400
  · rw [if_pos (nI_le e (by decide)), if_pos e]
  · rw [if_neg (nI_ge (by omega) (by omega)), if_neg e]
theorem a_bestSlot (h : Bus q (cOf σ 0) T) {m : Nat} (hm : m < nM q) (hb : bkQ q m = true) : ni (f6_bestSlot (nI m) σ) = some (-9, σ) := by
  have hM := h.2.1.sz.M
  obtain ⟨f0, hE0⟩ := h.1
  have hm6 : m < 6 := by omega
  have e40 : σ 40 (6 * 0 + m) 0 = bI (bkQ q m) := hE0.bk hm6
  rw [hb] at e40
  refine ni_of ?_
  unfold f6_bestSlot
  simp only [lit, nmS]
  rw [p_yes h hm, bxR, gd_ib hm6 (by decide), clI (show m < 2 ^ 31 by omega), e40, if_neg (show ¬ bI true = nI 0 by decide)]
/-! an empty text -/
theorem a_error (h : σ 54 0 0 = 0) : ∃ σ', f6_errorPosition σ = some (0, σ') ∧ T15 σ σ' := by
  have hs0 : ∀ ρ : Mem, ρ 54 0 0 = 0 → f3_signAt (nI 0) ρ = some (nI 0, ρ) := fun ρ h => by
    unfold f3_signAt
    simp only [lit, nmS]
    rw [if_neg (show ¬ nI 0 < nI 0 by decide), h, if_pos (show (0 : Int32) ≤ nI 0 by decide), gdI (show cok (nI 0) = true by decide)]
  generalize hρ : ms (ms (ms σ 55 0 0 (nI 0)) 56 0 0 (nI 0)) 56 0 0 (nI 1) = ρ
  have e54 : ρ 54 0 0 = 0 := by rw [← hρ, ms_ne _ _ (by omega), ms_ne _ _ (by omega), ms_ne _ _ (by omega)]; exact h
  have e55 : ρ 55 0 0 = nI 0 := by rw [← hρ, ms_ne _ _ (by omega), ms_ne _ _ (by omega), ms_eq]
  have e56 : ρ 56 0 0 = nI 1 := by rw [← hρ, ms_eq]
  have hset : ms ρ 56 0 0 (nI 1) = ρ := by
    funext k o i
    unfold ms
    by_cases e : k = 56 ∧ o = 0 ∧ i = 0
    · rw [if_pos e, e.1, e.2.1, e.2.2, e56]
    · rw [if_neg e]
  have hdig : ∀ a b : Int32, f3_readDigit a b ρ = some (a, ρ) := fun a b => by
    unfold f3_readDigit
    simp only [lit, nmS]
    rw [e55, hs0 ρ e54, bdS, e56, if_neg (show ¬ nI 1 = nI 0 by decide), hset]
  have hone : f3_readOneOf (nI 85) (nI 85) (ms (ms σ 55 0 0 (nI 0)) 56 0 0 (nI 0)) = some (nI 0, ρ) := by
    unfold f3_readOneOf
    simp only [lit, nmS]
    rw [ms_ne (ms σ 55 0 0 (nI 0)) (k := 56) (k1 := 55) _ (by omega), ms_eq, hs0 _ (by rw [ms_ne _ _ (by omega), ms_ne _ _ (by omega)]; exact h), bdS, ms_eq, if_pos rfl, ms_ne (ms σ 55 0 0 (nI 0)) (k := 56) (k1 := 54) _ (by omega), ms_ne σ (k := 55) (k1 := 54) _ (by omega), ms_ne (ms σ 55 0 0 (nI 0)) (k := 56) (k1 := 55) _ (by omega), ms_eq, h, if_pos (show (0 : Int32) ≤ nI 0 by decide), gdI (show cok (nI 0) = true by decide), hρ]
  refine ⟨ρ, ?_, fun k o i h1 h2 _ _ => ?_⟩
  · have htwo : ∃ v, f3_readTwoDigits (nI 2) (nI 16) ρ = some (v, ρ) := by
      unfold f3_readTwoDigits
      simp only [lit, nmS, hdig, bdS]
      rw [if_pos trivial]
      by_cases z2 : nI 2 / nI 10 = nI 16 / nI 10
      · rw [if_pos z2]; exact ⟨_, rfl⟩
      · rw [if_neg z2]; exact ⟨_, rfl⟩
    obtain ⟨v, hv⟩ := htwo
    have hl : ∀ k, f3_readInto_l51 15 k FU (nI 0) ρ = k ρ := fun k => by
      show f3_readInto_l51 15 k (5999 + 1) (nI 0) ρ = k ρ
      rw [f3_readInto_l51]
      simp only [lit]
      rw [if_neg (show ¬ nI 120 ≤ nI 0 by decide), e56, if_neg (show ¬ nI 1 = nI 0 by decide)]
    unfold f6_errorPosition f3_readInto
    simp only [lit, nmS]
    rw [hone, bdS, hdig, bdS, hv, bdS, e56, if_neg (show ¬ nI 1 = nI 0 by decide), hl, e56, if_neg (show ¬ nI 1 = nI 0 by decide), e55, bdS]
  · rw [← hρ, ms_ne _ _ (by omega), ms_ne _ _ (by omega), ms_ne _ _ (by omega)]
end CALLA
