/-! PARTS OF A TEXT, read by the reference -/
section PARTM
variable {x : Nat → Nat} {L : Nat} {ρ : Mem} {q r : QS} {T : Nat} {c : Mem}
def uS (ρ : Mem) (p : Nat) (v : Int32) : Mem := ms (ms ρ 63 0 0 (nI p)) 64 0 0 v
theorem uS_out (ρ : Mem) (p : Nat) (v : Int32) {k : Nat} (o i : Nat) (h : k ≠ 63 ∧ k ≠ 64) : uS ρ p v k o i = ρ k o i := by
  unfold uS
  rw [ms_ne _ _ (by omega), ms_ne _ _ (by omega)]
theorem uS_p (ρ : Mem) (p p' : Nat) (v : Int32) : ms (uS ρ p v) 63 0 0 (nI p') = uS ρ p' v := by
  funext k o i
  unfold uS ms
  by_cases e : k = 63 ∧ o = 0 ∧ i = 0
  · rw [if_pos e, if_neg (by omega), if_pos e]
  · rw [if_neg e]
    by_cases e2 : k = 64 ∧ o = 0 ∧ i = 0
    · rw [if_pos e2, if_pos e2]
    · rw [if_neg e2, if_neg e, if_neg e2, if_neg e]
theorem uS_v (ρ : Mem) (p : Nat) (v w : Int32) : ms (uS ρ p v) 64 0 0 w = uS ρ p w := ms_ms _ _ _ _ _ _
/-- the reference while it reads -/
def xS (ρ : Mem) (q : QS) (p : Nat) (v : Int32) : Mem := wq (uS ρ p v) q
theorem xS_p (ρ : Mem) (q : QS) (p p' : Nat) (v : Int32) : ms (xS ρ q p v) 63 0 0 (nI p') = xS ρ q p' v := by
  unfold xS
  rw [wq_ms _ _ _ _ (by omega), uS_p]
theorem xS_v (ρ : Mem) (q : QS) (p : Nat) (v w : Int32) : ms (xS ρ q p v) 64 0 0 w = xS ρ q p w := by
  unfold xS
  rw [wq_ms _ _ _ _ (by omega), uS_v]
theorem xS_q (ρ : Mem) (q : QS) (p : Nat) (v : Int32) (i : Nat) (w : Int32) : ms (xS ρ q p v) 20 0 i w = xS ρ (qs q i w) p v := wq_set _ _ _ _
theorem xS_20 (ρ : Mem) (q : QS) (p : Nat) (v : Int32) (i : Nat) : xS ρ q p v 20 0 i = q i := wq_get _ _ _
theorem xS_63 (ρ : Mem) (q : QS) (p : Nat) (v : Int32) : xS ρ q p v 63 0 0 = nI p := by
  unfold xS uS
  rw [wq_other _ _ _ (by omega), ms_ne _ _ (by omega), ms_eq]
theorem xS_64 (ρ : Mem) (q : QS) (p : Nat) (v : Int32) : xS ρ q p v 64 0 0 = v := by
  unfold xS uS
  rw [wq_other _ _ _ (by omega), ms_eq]
theorem xS_o (ρ : Mem) (q : QS) (p : Nat) (v : Int32) {k : Nat} (o i : Nat) (h : k ≠ 63 ∧ k ≠ 64 ∧ k ≠ 20) : xS ρ q p v k o i = ρ k o i := by
  unfold xS
  rw [wq_other _ _ _ (by omega), uS_out _ _ _ _ _ (by omega)]
theorem xS_25 (ρ : Mem) (q : QS) (p : Nat) (v : Int32) (i : Nat) (w : Int32) : ms (xS ρ q p v) 25 0 i w = xS (ms ρ 25 0 i w) q p v := by
  unfold xS uS
  rw [wq_ms _ _ _ _ (by omega)]
  congr 1
  funext k o j
  unfold ms
  by_cases e : k = 25 ∧ o = 0 ∧ j = i
  · rw [if_pos e, if_neg (by omega), if_neg (by omega), if_pos e]
  · rw [if_neg e, if_neg e]
theorem xS_61 (h : TxM ρ x L) (q : QS) (p : Nat) (v : Int32) : xS ρ q p v 61 0 0 = nI L := (xS_o _ _ _ _ _ _ (by omega)).trans h.2.1
theorem xS_24 (h : TxM ρ x L) (q : QS) (p : Nat) (v : Int32) {i : Nat} (hi : i < L) : xS ρ q p v 24 0 i = nI (x i) := (xS_o _ _ _ _ _ _ (by omega)).trans (h.2.2 i hi).2
theorem m_sign (h : TxM ρ x L) (q : QS) {p a : Nat} (hp : p < 2 ^ 20) (ha : a ≤ 255) (v : Int32) : f7_sign (nI a) (xS ρ q p v) = if p < L ∧ x p = a then some (nI 1, xS ρ q (p + 1) v) else some (nI 0, xS ρ q p v) := by
  have hL := h.1
  unfold f7_sign
  simp only [lit, nmS]
  rw [xS_61 h, xS_63]
  have z0 : zok (nI 0) = true := by decide
  have z1 : zok (nI 1) = true := by decide
  by_cases e : p < L
  · have hx := (h.2.2 p e).1
    rw [if_neg (nI_ge e (by omega)), gd_ib (show p < 120 by omega) (by decide), clI (by omega), xS_24 h _ _ _ e]
    by_cases e2 : x p = a
    · rw [if_pos (show nI (x p) = nI a by rw [e2]), if_neg (show ¬ nI 1 = nI 0 by decide), gdI z1, nI_add, xS_p, if_pos ⟨e, e2⟩]
    · rw [if_neg (show ¬ nI (x p) = nI a from fun z => e2 ((nI_eq (by omega) (by omega)).mp z)), if_pos trivial, gdI z0, nI_add, Nat.add_zero, xS_p, if_neg (show ¬ (p < L ∧ x p = a) from fun z => e2 z.2)]
  · rw [if_pos (show nI L ≤ nI p from nI_le (by omega) (by omega)), if_pos trivial, gdI z0, nI_add, Nat.add_zero, xS_p, if_neg (show ¬ (p < L ∧ x p = a) from fun z => e z.1)]
theorem dg_in {a lo hi : Nat} (ha : a ≤ 255) (hl : lo < 100) (hh : hi < 100) : (decide (nI lo ≤ nI a - nI 48) && decide (nI a - nI 48 ≤ nI hi)) = (decide (48 + lo ≤ a) && decide (a ≤ 48 + hi)) := by
  have h1 : (nI lo ≤ nI a - nI 48) ↔ 48 + lo ≤ a := by
    rw [Int32.le_iff_toInt_le, pk_sub_toInt (by omega) (by omega), nI_toInt (by omega)]
    omega
  have h2 : (nI a - nI 48 ≤ nI hi) ↔ a ≤ 48 + hi := by
    rw [Int32.le_iff_toInt_le, pk_sub_toInt (by omega) (by omega), nI_toInt (by omega)]
    omega
  rw [decide_eq_decide.mpr h1, decide_eq_decide.mpr h2]
theorem m_digit_y (h : TxM ρ x L) (q : QS) {p lo hi : Nat} (hl : lo < 100) (hh : hi < 100) (e : okD x L p lo hi = true) (v : Int32) : f7_digitTo (nI lo) (nI hi) (xS ρ q p v) = some (nI 1, xS ρ q (p + 1) (nI (x p - 48))) := by
  obtain ⟨e1, e2, e3⟩ := okD_iff.mp e
  have hL := h.1
  have hx := (h.2.2 p e1).1
  unfold f7_digitTo
  simp only [lit, nmS]
  rw [xS_61 h, xS_63, if_neg (nI_ge e1 (by omega)), gd_ib (show p < 120 by omega) (by decide), clI (by omega), xS_24 h _ _ _ e1, xS_v, xS_64, m_in _ (nI lo) (nI hi) rfl rfl, bdS, dg_in hx hl hh, decide_eq_true e2, decide_eq_true e3, if_neg (show ¬ bI (true && true) = nI 0 by decide), gdI (zok_b _), xS_63, nI_add, xS_p, pk_sub (by omega)]
  rfl
theorem m_digit_n (h : TxM ρ x L) (q : QS) {p lo hi : Nat} (hp : p < 2 ^ 20) (hl : lo < 100) (hh : hi < 100) (e : okD x L p lo hi = false) (v : Int32) : ∃ w, f7_digitTo (nI lo) (nI hi) (xS ρ q p v) = some (nI 0, xS ρ q p w) := by
  have hL := h.1
  unfold f7_digitTo
  simp only [lit, nmS]
  rw [xS_61 h, xS_63]
  by_cases e1 : p < L
  · have hx := (h.2.2 p e1).1
    unfold okD at e
    rw [decide_eq_true e1, Bool.true_and] at e
    refine ⟨nI (x p) - nI 48, ?_⟩
    rw [if_neg (nI_ge e1 (by omega)), gd_ib (show p < 120 by omega) (by decide), clI (by omega), xS_24 h _ _ _ e1, xS_v, xS_64, m_in _ (nI lo) (nI hi) rfl rfl, bdS, dg_in hx hl hh, e, if_pos (show bI false = nI 0 from rfl), gdI (zok_b _), xS_63, nI_add, Nat.add_zero, xS_p]
    rfl
  · refine ⟨-nI 1, ?_⟩
    rw [if_pos (nI_le (by omega) (by omega)), xS_v, xS_64, m_in _ (nI lo) (nI hi) rfl rfl, bdS, show decide (nI lo ≤ -nI 1) = false from decide_eq_false (fun z => by
      have h9 := Int32.le_iff_toInt_le.mp z
      rw [nI_toInt (by omega), show (-nI 1).toInt = -1 by decide] at h9
      omega), Bool.false_and, if_pos (show bI false = nI 0 from rfl), gdI (zok_b _), xS_63, nI_add, Nat.add_zero, xS_p]
    rfl
theorem m_two (h : TxM ρ x L) (q : QS) {p lo hi : Nat} (hp : p < 2 ^ 19) (hl : lo < 10) (hh : hi < 100) (v : Int32) : ∃ w, f7_twoTo (nI lo) (nI hi) (xS ρ q p v) = some (bI (two x L p lo hi).2.isSome, xS ρ q (two x L p lo hi).1 w) ∧ ∀ n, (two x L p lo hi).2 = some n → w = nI n := by
  have hL := h.1
  have e2 : nI hi / nI 10 = nI (hi / 10) := pk_div (d := 10) (by omega) (by decide) (by decide)
  have e4 : nI hi - nI hi / nI 10 * nI 10 = nI (hi % 10) := pk_rem (d := 10) (by omega) (by decide) (by decide)
  unfold f7_twoTo two
  simp only [lit, nmS]
  rw [e4, e2]
  by_cases o1 : okD x L p 0 (hi / 10) = true
  · obtain ⟨z1, z2, z3⟩ := okD_iff.mp o1
    have hx := (h.2.2 p z1).1
    rw [if_pos o1, m_digit_y h q (by omega) (by omega) o1, bdS, if_neg (show ¬ nI 1 = nI 0 by decide), xS_64]
    have hsel : ∀ K : Int32 → Int32 → Option (Int32 × Mem), (if nI (x p - 48) = nI 0 then (if nI (x p - 48) = nI (hi / 10) then K (nI lo) (nI (hi % 10)) else K (nI lo) (nI 9)) else (if nI (x p - 48) = nI (hi / 10) then K (nI 0) (nI (hi % 10)) else K (nI 0) (nI 9))) = K (nI (lo2 (x p - 48) lo)) (nI (hi2 (x p - 48) hi)) := fun K => by
      unfold lo2 hi2
      by_cases y : x p - 48 = 0
      · rw [if_pos (show nI (x p - 48) = nI 0 by rw [y]), if_pos y]
        by_cases y2 : x p - 48 = hi / 10
        · rw [if_pos (show nI (x p - 48) = nI (hi / 10) by rw [y2]), if_pos y2]
        · rw [if_neg (fun z => y2 ((nI_eq (by omega) (by omega)).mp z)), if_neg y2]
      · rw [if_neg (fun z => y ((nI_eq (by omega) (by omega)).mp z)), if_neg y]
        by_cases y2 : x p - 48 = hi / 10
        · rw [if_pos (show nI (x p - 48) = nI (hi / 10) by rw [y2]), if_pos y2]
        · rw [if_neg (fun z => y2 ((nI_eq (by omega) (by omega)).mp z)), if_neg y2]
    have hs := hsel (fun lo hi => bd (f7_digitTo lo hi (xS ρ q (p + 1) (nI (x p - 48)))) fun r2 s4 => gd (zok r2) (some (r2, ms s4 64 0 0 ((s4 64 0 0) + (nI 10 * nI (x p - 48))))))
    have hl2 := lo2_lt (t := x p - 48) hl
    have hh2 := hi2_lt (x p - 48) hi
    by_cases o2 : okD x L (p + 1) (lo2 (x p - 48) lo) (hi2 (x p - 48) hi) = true
    · rw [if_pos o2]
      refine ⟨nI (10 * (x p - 48) + (x (p + 1) - 48)), hs.trans ?_, fun n hn => by cases hn; rfl⟩
      rw [m_digit_y h q (by omega) (by omega) o2, bdS, gdI (show zok (nI 1) = true by decide), xS_64, pk_mul, nI_add, xS_v, Nat.add_comm (x (p + 1) - 48)]
      rfl
    · obtain ⟨w, hw⟩ := m_digit_n h q (p := p + 1) (by omega) (show lo2 (x p - 48) lo < 100 by omega) (show hi2 (x p - 48) hi < 100 by omega) (Bool.eq_false_iff.mpr o2) (nI (x p - 48))
      rw [if_neg o2]
      refine ⟨w + nI 10 * nI (x p - 48), hs.trans ?_, fun n hn => by cases hn⟩
      rw [hw, bdS, gdI (show zok (nI 0) = true by decide), xS_64, xS_v]
      rfl
  · obtain ⟨w, hw⟩ := m_digit_n h q (p := p) (by omega) (show 0 < 100 by omega) (show hi / 10 < 100 by omega) (Bool.eq_false_iff.mpr o1) v
    rw [if_neg o1, hw, bdS, if_pos rfl]
    exact ⟨w, rfl, fun n hn => by cases hn⟩
end PARTM
