/-! TEXTS: signs, digits, what both sides read off one place -/
section TEXTS
variable {x : Nat → Nat} {L : Nat} {σ : Mem} {c : Mem}
theorem cok_t : ∀ v : Fin 256, cok (nI v.val) = true ∧ cb (nI v.val) = nI v.val := by decide +kernel
theorem cok_s {v : Nat} (h : v ≤ 255) : cok (nI v) = true := (cok_t ⟨v, by omega⟩).1
theorem cb_s {v : Nat} (h : v ≤ 255) : cb (nI v) = nI v := (cok_t ⟨v, by omega⟩).2
/-- a text, as the class and as the reference hold it -/
def TxC (σ : Mem) (x : Nat → Nat) (L : Nat) : Prop := L ≤ 120 ∧ σ 54 0 0 = nI L ∧ ∀ i, i < L → x i ≤ 255 ∧ σ 2 0 i = nI (x i)
def TxM (ρ : Mem) (x : Nat → Nat) (L : Nat) : Prop := L ≤ 120 ∧ ρ 61 0 0 = nI L ∧ ∀ i, i < L → x i ≤ 255 ∧ ρ 24 0 i = nI (x i)
def tS (σ : Mem) (p : Nat) (b : Bool) : Mem := ms (ms σ 55 0 0 (nI p)) 56 0 0 (bI b)
theorem tS_out (σ : Mem) (p : Nat) (b : Bool) {k : Nat} (o i : Nat) (h : k ≠ 55 ∧ k ≠ 56) : tS σ p b k o i = σ k o i := by
  unfold tS
  rw [ms_ne _ _ (by omega), ms_ne _ _ (by omega)]
theorem tS_p (σ : Mem) (p p' : Nat) (b : Bool) : ms (tS σ p b) 55 0 0 (nI p') = tS σ p' b := by
  funext k o i
  unfold tS ms
  by_cases e : k = 55 ∧ o = 0 ∧ i = 0
  · rw [if_pos e, if_neg (by omega), if_pos e]
  · rw [if_neg e]
    by_cases e2 : k = 56 ∧ o = 0 ∧ i = 0
    · rw [if_pos e2, if_pos e2]
    · rw [if_neg e2, if_neg e, if_neg e2, if_neg e]
theorem tS_b (σ : Mem) (p : Nat) (b b' : Bool) : ms (tS σ p b) 56 0 0 (bI b') = tS σ p b' := ms_ms _ _ _ _ _ _
theorem wc_ms (σ : Mem) (b : Nat) (c : Mem) {k : Nat} (o i : Nat) (v : Int32) (h1 : isB k = false) (h2 : isM k = false) : ms (wc σ b c) k o i v = wc (ms σ k o i v) b c := by
  funext k1 o1 i1
  by_cases e : k1 = k ∧ o1 = o ∧ i1 = i
  · obtain ⟨rfl, rfl, rfl⟩ := e
    rw [ms_eq, wc_out _ _ _ h1 h2, ms_eq]
  · rw [ms_ne _ _ e]
    unfold wc
    rw [ms_ne _ _ e]
/-- the state while a text is read into the trial -/
def rS (σ : Mem) (c : Mem) (p : Nat) (b : Bool) : Mem := wc (tS σ p b) 15 c
theorem rS_p (σ c : Mem) (p p' : Nat) (b : Bool) : ms (rS σ c p b) 55 0 0 (nI p') = rS σ c p' b := by
  unfold rS
  rw [wc_ms _ _ _ _ _ _ (by decide) (by decide), tS_p]
theorem rS_b (σ c : Mem) (p : Nat) (b b' : Bool) : ms (rS σ c p b) 56 0 0 (bI b') = rS σ c p b' := by
  unfold rS
  rw [wc_ms _ _ _ _ _ _ (by decide) (by decide), tS_b]
theorem rS_55 (σ c : Mem) (p : Nat) (b : Bool) : rS σ c p b 55 0 0 = nI p := by
  unfold rS tS
  rw [wc_out _ _ _ (by decide) (by decide), ms_ne _ _ (by omega), ms_eq]
theorem rS_56 (σ c : Mem) (p : Nat) (b : Bool) : rS σ c p b 56 0 0 = bI b := by
  unfold rS tS
  rw [wc_out _ _ _ (by decide) (by decide), ms_eq]
theorem rS_54 (h : TxC σ x L) (c : Mem) (p : Nat) (b : Bool) : rS σ c p b 54 0 0 = nI L := by
  unfold rS
  rw [wc_out _ _ _ (by decide) (by decide), tS_out _ _ _ _ _ (by omega)]; exact h.2.1
theorem rS_2 (h : TxC σ x L) (c : Mem) (p : Nat) (b : Bool) {i : Nat} (hi : i < L) : rS σ c p b 2 0 i = nI (x i) := by
  unfold rS
  rw [wc_out _ _ _ (by decide) (by decide), tS_out _ _ _ _ _ (by omega)]; exact (h.2.2 i hi).2
def sgn (x : Nat → Nat) (L p : Nat) : Nat := if p < L then x p else 0
theorem sgn_le (h : TxC σ x L) (p : Nat) : sgn x L p ≤ 255 := by
  unfold sgn
  by_cases e : p < L
  · rw [if_pos e]; exact (h.2.2 p e).1
  · rw [if_neg e]; exact Nat.zero_le _
theorem c_sign (h : TxC σ x L) (c : Mem) (p : Nat) (b : Bool) {i : Nat} (hi : i < 2 ^ 31) : f3_signAt (nI i) (rS σ c p b) = some (nI (sgn x L i), rS σ c p b) := by
  unfold f3_signAt sgn
  simp only [lit, nmS]
  rw [if_neg (show ¬ nI i < nI 0 from nI_pos hi), rS_54 h]
  by_cases e : i < L
  · have hL := h.1
    rw [if_neg (nI_ge e (by omega)), if_neg (show ¬ nI 120 ≤ nI i from nI_ge (by omega) (by omega)), gd_ib (show i < 120 by omega) (by decide), clI hi, rS_2 h c p b e, gdI (cok_s (h.2.2 i e).1), if_pos e]
  · rw [if_pos (nI_le (by omega) (by omega)), gdI (cok_s (v := 0) (by omega)), if_neg e]
def okD (x : Nat → Nat) (L p lo hi : Nat) : Bool := decide (p < L) && (decide (48 + lo ≤ x p) && decide (x p ≤ 48 + hi))
theorem okD_iff {p lo hi : Nat} : okD x L p lo hi = true ↔ (p < L ∧ 48 + lo ≤ x p ∧ x p ≤ 48 + hi) := by
  unfold okD
  rw [Bool.and_eq_true, Bool.and_eq_true, decide_eq_true_iff, decide_eq_true_iff, decide_eq_true_iff]
theorem okD_no {p lo hi : Nat} : okD x L p lo hi = false ↔ ¬ (p < L ∧ 48 + lo ≤ x p ∧ x p ≤ 48 + hi) := by
  rw [← okD_iff]; exact (Bool.not_eq_true _).symm ▸ Iff.rfl
theorem dg_lt {a lo : Nat} (ha : a ≤ 255) (hl : lo < 100) : (nI a - nI 48 < nI lo) ↔ a < 48 + lo := by
  rw [Int32.lt_iff_toInt_lt, pk_sub_toInt (by omega) (by omega), nI_toInt (by omega)]
  omega
theorem dg_gt {a hi : Nat} (ha : a ≤ 255) (hl : hi < 100) : (nI hi < nI a - nI 48) ↔ 48 + hi < a := by
  rw [Int32.lt_iff_toInt_lt, pk_sub_toInt (by omega) (by omega), nI_toInt (by omega)]
  omega
theorem c_digit_y (h : TxC σ x L) (c : Mem) {p lo hi : Nat} (hl : lo < 100) (hh : hi < 100) (e : okD x L p lo hi = true) : f3_readDigit (nI lo) (nI hi) (rS σ c p false) = some (nI (x p - 48), rS σ c (p + 1) false) := by
  obtain ⟨e1, e2, e3⟩ := okD_iff.mp e
  have hL := h.1
  have hx := (h.2.2 p e1).1
  unfold f3_readDigit
  simp only [lit, nmS]
  rw [rS_55, c_sign h c p false (by omega), bdS, rS_56, rS_54 h, rS_55, if_pos (show bI false = nI 0 from rfl), if_neg (nI_ge e1 (by omega)), show sgn x L p = x p from if_pos e1, if_neg (fun z => by have := (dg_lt hx hl).mp z; omega), if_neg (fun z => by have := (dg_gt hx hh).mp z; omega), nI_add, rS_p, pk_sub (by omega)]
theorem c_digit_n (h : TxC σ x L) (c : Mem) {p lo hi : Nat} (hp : p < 2 ^ 31) (hl : lo < 100) (hh : hi < 100) (e : okD x L p lo hi = false) : f3_readDigit (nI lo) (nI hi) (rS σ c p false) = some (nI lo, rS σ c p true) := by
  have e := okD_no.mp e
  have hL := h.1
  unfold f3_readDigit
  simp only [lit, nmS]
  rw [rS_55, c_sign h c p false hp, bdS, rS_56, rS_54 h, rS_55, if_pos (show bI false = nI 0 from rfl), show nI 1 = bI true from rfl, rS_b]
  by_cases e1 : p < L
  · have hx := (h.2.2 p e1).1
    rw [if_neg (nI_ge e1 (by omega)), show sgn x L p = x p from if_pos e1]
    by_cases e2 : 48 + lo ≤ x p
    · rw [if_neg (fun z => by have := (dg_lt hx hl).mp z; omega), if_pos ((dg_gt hx hh).mpr (by omega))]
    · rw [if_pos ((dg_lt hx hl).mpr (by omega))]
  · rw [if_pos (nI_le (by omega) hp)]
theorem c_digit_b (h : TxC σ x L) (c : Mem) {p : Nat} (hp : p < 2 ^ 31) (lo hi : Int32) : f3_readDigit lo hi (rS σ c p true) = some (lo, rS σ c p true) := by
  unfold f3_readDigit
  simp only [lit, nmS]
  rw [rS_55, c_sign h c p true hp, bdS, rS_56, if_neg (show ¬ bI true = nI 0 by decide), show nI 1 = bI true from rfl, rS_b]
theorem c_one_y (h : TxC σ x L) (c : Mem) {p a b : Nat} (ha : a ≤ 255) (hb : b ≤ 255) (e1 : p < L) (e : x p = a ∨ x p = b) : f3_readOneOf (nI a) (nI b) (rS σ c p false) = some (nI (x p), rS σ c (p + 1) false) := by
  have hL := h.1
  have hx := (h.2.2 p e1).1
  unfold f3_readOneOf
  simp only [lit, nmS]
  rw [rS_55, c_sign h c p false (by omega), bdS, rS_56, rS_54 h, rS_55, if_pos (show bI false = nI 0 from rfl), if_neg (nI_ge e1 (by omega)), show sgn x L p = x p from if_pos e1, nI_add, rS_p, gdI (cok_s hx)]
  by_cases e2 : x p = a
  · rw [if_pos (by rw [e2])]
  · rw [if_neg (fun z => e2 ((nI_eq (by omega) (by omega)).mp z)), if_pos (by rw [e.resolve_left e2])]
theorem c_one_n (h : TxC σ x L) (c : Mem) {p a b : Nat} (hp : p < 2 ^ 31) (ha : a ≤ 255) (hb : b ≤ 255) (e : ¬ (p < L ∧ (x p = a ∨ x p = b))) : f3_readOneOf (nI a) (nI b) (rS σ c p false) = some (nI (sgn x L p), rS σ c p true) := by
  have hL := h.1
  unfold f3_readOneOf
  simp only [lit, nmS]
  rw [rS_55, c_sign h c p false hp, bdS, rS_56, rS_54 h, rS_55, if_pos (show bI false = nI 0 from rfl), show nI 1 = bI true from rfl, rS_b, gdI (cok_s (sgn_le h p))]
  by_cases e1 : p < L
  · have hx := (h.2.2 p e1).1
    rw [if_neg (nI_ge e1 (by omega)), show sgn x L p = x p from if_pos e1, if_neg (fun z => e ⟨e1, Or.inl ((nI_eq (by omega) (by omega)).mp z)⟩), if_neg (fun z => e ⟨e1, Or.inr ((nI_eq (by omega) (by omega)).mp z)⟩)]
  · rw [if_pos (nI_le (by omega) hp)]
theorem c_one_b (h : TxC σ x L) (c : Mem) {p : Nat} (hp : p < 2 ^ 31) (a b : Int32) : f3_readOneOf a b (rS σ c p true) = some (nI (sgn x L p), rS σ c p true) := by
  unfold f3_readOneOf
  simp only [lit, nmS]
  rw [rS_55, c_sign h c p true hp, bdS, rS_56, if_neg (show ¬ bI true = nI 0 by decide), show nI 1 = bI true from rfl, rS_b, gdI (cok_s (sgn_le h p))]
/-- two digits -/
def lo2 (t lo : Nat) : Nat := if t = 0 then lo else 0
def hi2 (t hi : Nat) : Nat := if t = hi / 10 then hi % 10 else 9
def two (x : Nat → Nat) (L p lo hi : Nat) : Nat × Option Nat := if okD x L p 0 (hi / 10) = true then (if okD x L (p + 1) (lo2 (x p - 48) lo) (hi2 (x p - 48) hi) = true then (p + 2, some (10 * (x p - 48) + (x (p + 1) - 48))) else (p + 1, none)) else (p, none)
theorem hi2_lt (t hi : Nat) : hi2 t hi < 10 := by
  unfold hi2
  by_cases e : t = hi / 10
  · rw [if_pos e]; exact Nat.mod_lt _ (by omega)
  · rw [if_neg e]; omega
theorem lo2_lt {t lo : Nat} (h : lo < 10) : lo2 t lo < 10 := by
  unfold lo2
  by_cases e : t = 0
  · rw [if_pos e]; exact h
  · rw [if_neg e]; omega
theorem c_two (h : TxC σ x L) (c : Mem) {p lo hi : Nat} (hp : p < 2 ^ 30) (hl : lo < 10) (hh : hi < 100) : ∃ v, f3_readTwoDigits (nI lo) (nI hi) (rS σ c p false) = some (v, rS σ c (two x L p lo hi).1 (two x L p lo hi).2.isNone) ∧ ∀ n, (two x L p lo hi).2 = some n → v = nI n := by
  have hL := h.1
  have e1 : nI lo / 10 = nI 0 := (pk_div (d := 10) (by omega) (by decide) (by decide)).trans (by rw [show lo / 10 = 0 by omega])
  have e2 : nI hi / 10 = nI (hi / 10) := pk_div (d := 10) (by omega) (by decide) (by decide)
  have e3 : nI lo - nI lo / 10 * 10 = nI lo := (pk_rem (d := 10) (by omega) (by decide) (by decide)).trans (by rw [show lo % 10 = lo by omega])
  have e4 : nI hi - nI hi / 10 * 10 = nI (hi % 10) := pk_rem (d := 10) (by omega) (by decide) (by decide)
  unfold f3_readTwoDigits two
  rw [e4, e3, e2, e1]
  by_cases o1 : okD x L p 0 (hi / 10) = true
  · obtain ⟨z1, z2, z3⟩ := okD_iff.mp o1
    have hx := (h.2.2 p z1).1
    rw [if_pos o1, c_digit_y h c (by omega) (by omega) o1, bdS]
    simp only [nmS]
    have e5 : (if nI (x p - 48) = nI 0 then (if nI (x p - 48) = nI (hi / 10) then bd (f3_readDigit (nI lo) (nI (hi % 10)) (rS σ c (p + 1) false)) (fun r2 s4 => some (10 * nI (x p - 48) + r2, s4)) else bd (f3_readDigit (nI lo) 9 (rS σ c (p + 1) false)) (fun r2 s4 => some (10 * nI (x p - 48) + r2, s4))) else (if nI (x p - 48) = nI (hi / 10) then bd (f3_readDigit 0 (nI (hi % 10)) (rS σ c (p + 1) false)) (fun r2 s4 => some (10 * nI (x p - 48) + r2, s4)) else bd (f3_readDigit 0 9 (rS σ c (p + 1) false)) (fun r2 s4 => some (10 * nI (x p - 48) + r2, s4)))) = bd (f3_readDigit (nI (lo2 (x p - 48) lo)) (nI (hi2 (x p - 48) hi)) (rS σ c (p + 1) false)) (fun r2 s4 => some (10 * nI (x p - 48) + r2, s4)) := by
      unfold lo2 hi2
      by_cases y : x p - 48 = 0
      · rw [if_pos (show nI (x p - 48) = nI 0 by rw [y]), if_pos y]
        by_cases y2 : x p - 48 = hi / 10
        · rw [if_pos (show nI (x p - 48) = nI (hi / 10) by rw [y2]), if_pos y2]
        · rw [if_neg (fun z => y2 ((nI_eq (by omega) (by omega)).mp z)), if_neg y2]; rfl
      · rw [if_neg (fun z => y ((nI_eq (by omega) (by omega)).mp z)), if_neg y]
        by_cases y2 : x p - 48 = hi / 10
        · rw [if_pos (show nI (x p - 48) = nI (hi / 10) by rw [y2]), if_pos y2]; rfl
        · rw [if_neg (fun z => y2 ((nI_eq (by omega) (by omega)).mp z)), if_neg y2]; rfl
    rw [e5]
    by_cases o2 : okD x L (p + 1) (lo2 (x p - 48) lo) (hi2 (x p - 48) hi) = true
    · have hl2 := lo2_lt (t := x p - 48) hl
      have hh2 := hi2_lt (x p - 48) hi
      rw [if_pos o2, c_digit_y h c (by omega) (by omega) o2, bdS, show (10 : Int32) = nI 10 from rfl, pk_mul, nI_add]
      exact ⟨_, rfl, fun n hn => by cases hn; rfl⟩
    · have hl2 := lo2_lt (t := x p - 48) hl
      have hh2 := hi2_lt (x p - 48) hi
      rw [if_neg o2, c_digit_n h c (by omega) (by omega) (by omega) (Bool.eq_false_iff.mpr o2), bdS]
      exact ⟨_, rfl, fun n hn => by cases hn⟩
  · rw [if_neg o1, c_digit_n h c (by omega) (by omega) (by omega) (Bool.eq_false_iff.mpr o1), bdS]
    simp only [nmS]
    refine ⟨10 * nI 0 + nI lo, ?_, fun n hn => by cases hn⟩
    rw [if_pos trivial]
    by_cases y : nI 0 = nI (hi / 10)
    · rw [if_pos y, c_digit_b h c (by omega), bdS]; rfl
    · rw [if_neg y, c_digit_b h c (by omega), bdS]; rfl
theorem c_two_b (h : TxC σ x L) (c : Mem) {p : Nat} (hp : p < 2 ^ 30) (lo hi : Int32) : ∃ v, f3_readTwoDigits lo hi (rS σ c p true) = some (v, rS σ c p true) := by
  unfold f3_readTwoDigits
  rw [c_digit_b h c (by omega), bdS]
  simp only [nmS]
  rw [if_pos trivial]
  by_cases y : lo / 10 = hi / 10
  · exact ⟨10 * (lo / 10) + (lo - lo / 10 * 10), by rw [if_pos y, c_digit_b h c (by omega), bdS]⟩
  · exact ⟨10 * (lo / 10) + (lo - lo / 10 * 10), by rw [if_neg y, c_digit_b h c (by omega), bdS]⟩
end TEXTS
