/-! THE LAW'S FIRST CHECK: sound -/
section SOUND
variable {q : QS} {T : Nat} {σ : Mem}
theorem ab_M (h : Bus q (cOf σ 0) T) : ni (f6_about (nI 0) σ) = some (nI (nM q), σ) := by
  rw [a_about h (by omega), show abV q 0 = q 0 from rfl, h.2.1.sz.M.1]
theorem l147_run (h : Bus q (cOf σ 0) T) {m : Nat} (hm : m < nM q) (k3 : Int32 → Int32 → Mem → Option (Int32 × Mem)) : fL_sound_l147 (nI m) k3 FU (nI 0) (nI 0) (nI 0) σ = k3 (sumF (fun b => owQ q m b) (nM q)) (sumF (fun b => owQ q b m) (nM q)) σ := by
  have hM := h.2.1.sz.M
  have h9 := lup (fun n (z : Int32 × Int32 × Int32) => fL_sound_l147 (nI m) k3 n z.1 z.2.1 z.2.2 σ) (fun i => (sumF (fun b => owQ q m b) i, sumF (fun b => owQ q b m) i, nI i)) (nM q) (k3 (sumF (fun b => owQ q m b) (nM q)) (sumF (fun b => owQ q b m) (nM q)) σ) ?_ ?_ (nM q) 0 FU (by omega) (Nat.lt_of_le_of_lt hM.2.1 (by decide))
  · exact h9
  · intro n i hi
    show fL_sound_l147 (nI m) k3 (n + 1) (sumF (fun b => owQ q m b) i) (sumF (fun b => owQ q b m) i) (nI i) σ = fL_sound_l147 (nI m) k3 n (sumF (fun b => owQ q m b) i + owQ q m i) (sumF (fun b => owQ q b m) i + owQ q i m) (nI (i + 1)) σ
    rw [fL_sound_l147]
    simp only [lit, nmS]
    rw [ab_M h, bdS, if_neg (nI_ge hi (by omega)), a_owes h hm hi, bdS, a_owes h hi hm, bdS, nI_add]
  · intro n
    show fL_sound_l147 (nI m) k3 (n + 1) (sumF (fun b => owQ q m b) (nM q)) (sumF (fun b => owQ q b m) (nM q)) (nI (nM q)) σ = _
    rw [fL_sound_l147]
    simp only [lit]
    rw [ab_M h, bdS, if_pos (nI_le (Nat.le_refl _) (by omega))]
theorem l195_run (h : Bus q (cOf σ 0) T) {m : Nat} (hm : m < nM q) (k4 : Int32 → Int32 → Mem → Option (Int32 × Mem)) : fL_sound_l195 (nI m) k4 FU (nI 1) (nI 0) (nI 0) σ = k4 (nI 1) (wd q m) σ := by
  have hM := h.2.1.sz.M
  have hm6 : m < 6 := by omega
  have hB := h.2.1.sz.B hm6
  have h9 := lup (fun n (z : Int32 × Int32) => fL_sound_l195 (nI m) k4 n (nI 1) z.1 z.2 σ) (fun i => (sumF (fun k => mQ q m (9 + 3 * k)) i, nI i)) (nB q m) (k4 (nI 1) (wd q m) σ) ?_ ?_ (nB q m) 0 FU (by omega) (Nat.lt_of_le_of_lt hB.2 (by decide))
  · exact h9
  · intro n i hi
    show fL_sound_l195 (nI m) k4 (n + 1) (nI 1) (sumF (fun k => mQ q m (9 + 3 * k)) i) (nI i) σ = fL_sound_l195 (nI m) k4 n (nI 1) (sumF (fun k => mQ q m (9 + 3 * k)) i + mQ q m (9 + 3 * i)) (nI (i + 1)) σ
    obtain ⟨⟨s, hs, hs2⟩, ⟨w, hw1, hw8, hww⟩, -⟩ := h.2.1.burst m i hm6 hi
    have b0 : ni (f6_burst (nI m) (nI i) (nI 0) σ) = some (nI s, σ) := by
      rw [a_burst h hm (by omega) (by omega), if_pos hi, show mQ q m (8 + 3 * i + 0) = nI s from hs2]
    have b1 : ni (f6_burst (nI m) (nI i) (nI 1) σ) = some (nI w, σ) := by
      rw [a_burst h hm (by omega) (by omega), if_pos hi, show 8 + 3 * i + 1 = 9 + 3 * i by omega, hww]
    have b3 : ni (f6_master (nI m) (nI 3) σ) = some (nI (nB q m), σ) := by
      rw [a_master h hm (by omega), show msV q m 3 = nI (nB q m) from hB.1]
    rw [fL_sound_l195]
    simp only [lit, nmS]
    rw [b0, bdS, if_neg (show ¬ nI s < nI 0 from nI_pos (by omega)), b1, bdS, if_neg (show ¬ nI 1 = nI 0 by decide), b3, bdS, if_neg (nI_ge hi (by omega)), b1, bdS, if_neg (show ¬ nI w ≤ nI 0 from nI_nle (by omega) (by omega)), b1, bdS, if_neg (nI_ge (show w < 9 by omega) (by omega)), nI_add, hww]
  · intro n
    show fL_sound_l195 (nI m) k4 (n + 1) (nI 1) (sumF (fun k => mQ q m (9 + 3 * k)) (nB q m)) (nI (nB q m)) σ = _
    rw [fL_sound_l195]
    simp only [lit, nmS]
    rw [a_burst h hm (by omega) (by omega), if_neg (Nat.lt_irrefl _), bdS, if_pos (show (-9 : Int32) < nI 0 by decide)]
    rfl
theorem nul_sums (hw : Wb T T T q) {m : Nat} (hm : m < 6) (h : Nul q m) : msV q m 0 = 0 ∧ msV q m 1 = 0 ∧ msV q m 2 = 0 ∧ msV q m 3 = 0 := by
  have hM := hw.sz.M
  refine ⟨?_, ?_, ?_, h.2.2.1⟩
  · show sumF (fun s => if q (11 + s) = nI m then 1 else 0) (nS q) = 0
    rw [sumF_congr (g := fun _ => 0) fun s hs => if_neg (h.1 s hs), sumF_zero]
  · show sumF (owQ q m) 6 = 0
    rw [sumF_congr (g := fun _ => 0) fun b hb => (h.2.1 b hb).1, sumF_zero]
  · show sumF (fun a => owQ q a m) (nM q) = 0
    rw [sumF_congr (g := fun _ => 0) fun b hb => (h.2.1 b (by omega)).2, sumF_zero]
theorem wa_le (h : Wa T q) (hT : T < 2 ^ 28) {m : Nat} (hm : m < 6) : ¬ msV q m 6 < msV q m 5 := by
  obtain ⟨w, l, h1, h2, h3, h4⟩ := h m hm
  show ¬ mQ q m 2 < mQ q m 1
  rw [h3, h4]
  exact nI_nlt h1 (by omega)
set_option maxHeartbeats 4000000 in
theorem l24_step (h : Bus q (cOf σ 0) T) (hI : Iv T q) (hT : T + 3000 < 2 ^ 27) {m : Nat} (hm : m < nM q) (k1 : Int32 → Int32 → Int32 → Int32 → Int32 → Int32 → Int32 → Int32 → Mem → Option (Int32 × Mem)) (n : Nat) (x3 x4 x5 x6 x7 x8 x9 : Int32) :
    ∃ σ', T15 σ σ' ∧ fL_sound_l24 k1 (n + 1) x3 x4 x5 x6 x7 x8 x9 (nI 1) (nI m) σ = fL_sound_l24 k1 n (x3 + (msV q m 7 + msV q m 8 + msV q m 9)) (x4 + msV q m 8) (x5 + msV q m 9) (x6 + msV q m 0) (x7 + msV q m 1) (x8 + msV q m 2) (x9 + msV q m 3) (nI 1) (nI (m + 1)) σ' := by
  have hM := h.2.1.sz.M
  have hm6 : m < 6 := by omega
  have hms : ∀ k, k < 11 → ni (f6_master (nI m) (nI k) σ) = some (msV q m k, σ) := fun k hk => a_master h hm hk
  rw [fL_sound_l24]
  simp only [lit, nmS]
  rw [ab_M h, bdS, if_neg (nI_ge hm (by omega)), if_neg (show ¬ nI 1 = nI 0 by decide), hms 7 (by omega), bdS, hms 8 (by omega), bdS, hms 9 (by omega), bdS, hms 8 (by omega), bdS, hms 9 (by omega), bdS, hms 0 (by omega), bdS, hms 1 (by omega), bdS, hms 2 (by omega), bdS, hms 3 (by omega), bdS,
    l147_run h hm, l195_run h hm, if_neg (show ¬ nI 1 = nI 0 by decide), hms 1 (by omega), bdS, if_pos (show sumF (fun b => owQ q m b) (nM q) = msV q m 1 from s_to h.2.1 hm6), hms 2 (by omega), bdS, if_pos (show sumF (fun b => owQ q b m) (nM q) = msV q m 2 from rfl), a_owes h hm hm, bdS, if_pos (show owQ q m m = nI 0 from hI.2.2.1.1 m hm6), hms 4 (by omega), bdS, if_pos (show wd q m = msV q m 4 from rfl), hms 5 (by omega), bdS, hms 6 (by omega), bdS, if_neg (wa_le hI.2.1 (by omega) hm6), a_about h (by omega), bdS]
  cases hb : bkQ q m with
  | false =>
    have hc : ¬ ((abV q 9 >>> (nI m &&& nI 31)) &&& nI 1) = nI 1 := of_decide_eq_false hb
    refine ⟨σ, T15.refl σ, ?_⟩
    rw [if_neg hc, if_neg (show ¬ nI 1 = nI 0 by decide), if_pos trivial, nI_add]
  | true =>
    have hc : ((abV q 9 >>> (nI m &&& nI 31)) &&& nI 1) = nI 1 := of_decide_eq_true hb
    have hN := hI.2.2.1.2 m hm6 hb
    obtain ⟨z0, z1, z2, z3⟩ := nul_sums h.2.1 hm6 hN
    obtain ⟨σ', d1, d2⟩ := a_doneIn h (by omega) hm
    have hd := dnI_s (dnF_0 hN.2.2.1 hN.2.2.2)
    refine ⟨σ', d2, ?_⟩
    rw [if_pos hc, if_neg (show ¬ nI 1 = nI 0 by decide), if_neg (show ¬ nI 1 = nI 0 by decide), hms 0 (by omega), bdS, hms 1 (by omega), bdS, hms 2 (by omega), bdS, hms 3 (by omega), bdS, if_pos (show msV q m 0 + msV q m 1 + msV q m 2 + msV q m 3 = nI 0 by rw [z0, z1, z2, z3]; decide), d1, bdS, if_pos hd.2, a_bestSlot (d2.bus (by omega) h) hm hb, bdS, if_pos (show (-9 : Int32) = -nI 9 from rfl), nI_add]
theorem l24_run (hI : Iv T q) (hT : T + 3000 < 2 ^ 27) (k1 : Int32 → Int32 → Int32 → Int32 → Int32 → Int32 → Int32 → Int32 → Mem → Option (Int32 × Mem)) : ∀ d i n (σ : Mem), i + d = nM q → d < n → Bus q (cOf σ 0) T →
    ∃ σ', T15 σ σ' ∧ fL_sound_l24 k1 n (sumF (fun m => msV q m 7 + msV q m 8 + msV q m 9) i) (sumF (fun m => msV q m 8) i) (sumF (fun m => msV q m 9) i) (sumF (fun m => msV q m 0) i) (sumF (fun m => msV q m 1) i) (sumF (fun m => msV q m 2) i) (sumF (fun m => msV q m 3) i) (nI 1) (nI i) σ =
      k1 (sumF (fun m => msV q m 7 + msV q m 8 + msV q m 9) (nM q)) (sumF (fun m => msV q m 8) (nM q)) (sumF (fun m => msV q m 9) (nM q)) (sumF (fun m => msV q m 0) (nM q)) (sumF (fun m => msV q m 1) (nM q)) (sumF (fun m => msV q m 2) (nM q)) (sumF (fun m => msV q m 3) (nM q)) (nI 1) σ' := by
  intro d
  induction d with
  | zero =>
    intro i n σ h1 h2 h
    have hM := h.2.1.sz.M
    obtain rfl : i = nM q := h1
    obtain ⟨z, rfl⟩ : ∃ z, n = z + 1 := ⟨n - 1, by omega⟩
    refine ⟨σ, T15.refl σ, ?_⟩
    rw [fL_sound_l24]
    simp only [lit]
    rw [ab_M h, bdS, if_pos (nI_le (Nat.le_refl _) (by omega))]
  | succ d ih =>
    intro i n σ h1 h2 h
    obtain ⟨z, rfl⟩ : ∃ z, n = z + 1 := ⟨n - 1, by omega⟩
    obtain ⟨σ1, t1, e1⟩ := l24_step h hI hT (show i < nM q by omega) k1 z (sumF (fun m => msV q m 7 + msV q m 8 + msV q m 9) i) (sumF (fun m => msV q m 8) i) (sumF (fun m => msV q m 9) i) (sumF (fun m => msV q m 0) i) (sumF (fun m => msV q m 1) i) (sumF (fun m => msV q m 2) i) (sumF (fun m => msV q m 3) i)
    obtain ⟨σ2, t2, e2⟩ := ih (i + 1) z σ1 (by omega) (by omega) (t1.bus (by omega) h)
    exact ⟨σ2, t1.trans t2, e1.trans e2⟩
theorem l456_run (h : Bus q (cOf σ 0) T) (hT : T < 2 ^ 27) (k2 : Int32 → Mem → Option (Int32 × Mem)) : ∀ d i n, i + d = nM q → d < n → 1 ≤ i → fL_sound_l456 k2 n (nI 1) (nI i) σ = k2 (nI 1) σ := by
  have hM := h.2.1.sz.M
  intro d
  induction d with
  | zero =>
    intro i n h1 h2 h3
    obtain rfl : i = nM q := h1
    obtain ⟨z, rfl⟩ : ∃ z, n = z + 1 := ⟨n - 1, by omega⟩
    rw [fL_sound_l456]
    simp only [lit, nmS]
    rw [ab_M h, bdS, if_pos (nI_le (Nat.le_refl _) (by omega))]
  | succ d ih =>
    intro i n h1 h2 h3
    obtain ⟨z, rfl⟩ : ∃ z, n = z + 1 := ⟨n - 1, by omega⟩
    obtain ⟨a, ha, ra, fa⟩ := ord_at h.2.1 (by omega) (show i - 1 < nM q by omega)
    obtain ⟨b, hb, rb, fb⟩ := ord_at h.2.1 (by omega) (show i < nM q by omega)
    have oa : ni (f6_order (nI i - nI 1) σ) = some (nI a, σ) := by
      rw [pk_sub (by omega), a_order h (by omega), fa]
      rfl
    have ob : ni (f6_order (nI i) σ) = some (nI b, σ) := by
      rw [a_order h (by omega), fb]
      rfl
    have da := h.2.1.dN (m := a) (by omega) (by omega)
    have db := h.2.1.dN (m := b) (by omega) (by omega)
    have ma : ni (f6_master (nI a) (nI 1) σ) = some (nI (dN q a), σ) := by
      rw [a_master h ha (by omega), show msV q a 1 = nI (dN q a) from da.1]
    have mb : ni (f6_master (nI b) (nI 1) σ) = some (nI (dN q b), σ) := by
      rw [a_master h hb (by omega), show msV q b 1 = nI (dN q b) from db.1]
    have two := ord_two h.2.1 (by omega) ha hb ra (by rw [rb]; omega)
    have ih2 := ih (i + 1) z (by omega) (by omega) (by omega)
    rw [fL_sound_l456]
    simp only [lit, nmS]
    rw [ab_M h, bdS, if_neg (nI_ge (show i < nM q by omega) (by omega)), if_neg (show ¬ nI 1 = nI 0 by decide), oa, bdS, ob, bdS, ma, bdS, mb, bdS, nI_add, ih2]
    by_cases e : dN q b < dN q a
    · rw [if_pos (nI_lt e da.2)]
    · rw [if_neg (nI_nlt (by omega) db.2), ma, bdS, mb, bdS, if_pos (show nI (dN q a) = nI (dN q b) by rw [show dN q a = dN q b by omega]), if_neg (nI_ge (show a < b by omega) (by omega)), ih2]
theorem snd (h : Bus q (cOf σ 0) T) (hI : Iv T q) (hT : T + 3000 < 2 ^ 27) : ∃ σ', T15 σ σ' ∧ fL_sound σ = some (1, σ') := by
  have hM := h.2.1.sz.M
  have hw := h.2.1
  unfold fL_sound
  simp only [lit, nmS]
  obtain ⟨σ', t, e⟩ := l24_run hI hT (fun y1 y2 y3 y4 y5 y6 y7 y8 s1 => fL_sound_l456 (fun y9 s2 => if y9 = nI 0 then some (nI 0, s2) else bd (ni (f6_about (nI 3) s2)) fun r1 s4 => bd (ni (f6_about (nI 2) s4)) fun r2 s5 => if y1 + r1 = r2 then bd (ni (f6_about (nI 1) s5)) fun r3 s6 => if y4 = r3 then bd (ni (f6_about (nI 5) s6)) fun r4 s7 => if y5 = r4 then (if y6 = y5 then bd (ni (f6_about (nI 6) s7)) fun r5 s8 => if y7 = r5 then (if y3 - y2 < y5 then some (nI 0, s8) else bd (ni (f6_about (nI 0) s8)) fun r6 s9 => bd (ni (f6_order r6 s9)) fun r7 s10 => if r7 = -nI 9 then some (nI 1, s10) else some (nI 0, s10)) else some (nI 0, s8) else some (nI 0, s7)) else some (nI 0, s7) else some (nI 0, s6) else some (nI 0, s5)) FU y8 (nI 1) s1) (nM q) 0 FU σ (by omega) (Nat.lt_of_le_of_lt hM.2.1 (by decide)) h
  have h' := t.bus (b := 0) (by omega) h
  refine ⟨σ', t, Eq.trans e ?_⟩
  rw [l456_run h' (by omega) _ (nM q - 1) 1 FU (by omega) (Nat.lt_of_le_of_lt (show nM q - 1 ≤ 6 by omega) (by decide)) (Nat.le_refl 1), if_neg (show ¬ nI 1 = nI 0 by decide), a_about h' (k := 3) (by omega), bdS, a_about h' (k := 2) (by omega), bdS, if_pos (show sumF (fun m => msV q m 7 + msV q m 8 + msV q m 9) (nM q) + abV q 3 = abV q 2 from s_turns hI.1 hw h.2.2 (by omega)), a_about h' (k := 1) (by omega), bdS, if_pos (show sumF (fun m => msV q m 0) (nM q) = abV q 1 from s_slots hw), a_about h' (k := 5) (by omega), bdS, if_pos (show sumF (fun m => msV q m 1) (nM q) = abV q 5 from rfl), if_pos (s_owed hw), a_about h' (k := 6) (by omega), bdS, if_pos (show sumF (fun m => msV q m 3) (nM q) = abV q 6 from rfl), if_neg (show ¬ sumF (fun m => msV q m 9) (nM q) - sumF (fun m => msV q m 8) (nM q) < sumF (fun m => msV q m 1) (nM q) from s_debts hI.1 hw (by omega)), ab_M h', bdS, a_order h' (k := nM q) (by omega), ord_end hw (by omega), bdS, if_pos (show oN none = -nI 9 from rfl)]
end SOUND
