/-! WHAT HOLDS OF THE WHOLE MEMORY BETWEEN CALLS -/
section SYS
variable {q r : QS} {c d : Mem} {T B : Nat} {σ σ' τ : Mem}
theorem isB_is {k : Nat} (h : isB k = true) : k = 4 ∨ k = 5 ∨ (30 ≤ k ∧ k ≤ 35) := by
  unfold isB at h
  simp only [Bool.or_eq_true, Bool.and_eq_true, beq_iff_eq, Nat.ble_eq] at h
  omega
theorem isM_is {k : Nat} (h : isM k = true) : k = 8 ∨ k = 10 ∨ k = 11 ∨ k = 12 ∨ k = 14 ∨ (40 ≤ k ∧ k ≤ 47) ∨ k = 50 ∨ k = 51 := by
  unfold isM at h
  simp only [Bool.or_eq_true, Bool.and_eq_true, beq_iff_eq, Nat.ble_eq] at h
  omega
/-- the cells that a call may change which leaves the ring, the saves and the text -/
def Ch (k o : Nat) : Prop := k = 20 ∨ k = 25 ∨ k = 55 ∨ k = 56 ∨ (62 ≤ k ∧ k ≤ 66) ∨ (isB k = true ∧ (o = 0 ∨ o = 15 ∨ o = 16)) ∨ (isB k = false ∧ isM k = true ∧ (o / 6 = 0 ∨ o / 6 = 15 ∨ o / 6 = 16))
theorem ch_20 (o : Nat) : Ch 20 o := Or.inl rfl
theorem ch_25 (o : Nat) : Ch 25 o := Or.inr (Or.inl rfl)
theorem ch_55 (o : Nat) : Ch 55 o := Or.inr (Or.inr (Or.inl rfl))
theorem ch_56 (o : Nat) : Ch 56 o := Or.inr (Or.inr (Or.inr (Or.inl rfl)))
theorem ch_t {k : Nat} (h1 : 62 ≤ k) (h2 : k ≤ 66) (o : Nat) : Ch k o := Or.inr (Or.inr (Or.inr (Or.inr (Or.inl ⟨h1, h2⟩))))
theorem ch_b {k o : Nat} (h : isB k = true) (h2 : o = 0 ∨ o = 15 ∨ o = 16) : Ch k o := Or.inr (Or.inr (Or.inr (Or.inr (Or.inr (Or.inl ⟨h, h2⟩)))))
theorem ch_m {k o : Nat} (h : isB k = false) (h1 : isM k = true) (h2 : o / 6 = 0 ∨ o / 6 = 15 ∨ o / 6 = 16) : Ch k o := Or.inr (Or.inr (Or.inr (Or.inr (Or.inr (Or.inr ⟨h, h1, h2⟩)))))
theorem ch_nb {k b : Nat} (h : isB k = true) (hb : b ≠ 0 ∧ b ≠ 15 ∧ b ≠ 16) : ¬ Ch k b := by
  have h1 := isB_is h
  intro z
  rcases z with z | z | z | z | z | z | z
  · omega
  · omega
  · omega
  · omega
  · omega
  · omega
  · rw [h] at z; cases z.1
theorem ch_nm {k b m : Nat} (h : isB k = false) (h2 : isM k = true) (hm : m < 6) (hb : b ≠ 0 ∧ b ≠ 15 ∧ b ≠ 16) : ¬ Ch k (6 * b + m) := by
  have h1 := isM_is h2
  intro z
  rcases z with z | z | z | z | z | z | z
  · omega
  · omega
  · omega
  · omega
  · omega
  · rw [h] at z; cases z.1
  · omega
def Keep (σ σ' : Mem) : Prop := ∀ k o i, ¬ Ch k o → σ' k o i = σ k o i
theorem Keep.refl (σ : Mem) : Keep σ σ := fun _ _ _ _ => rfl
theorem Keep.trans (h : Keep σ σ') (g : Keep σ' τ) : Keep σ τ := fun k o i z => (g k o i z).trans (h k o i z)
theorem keep_wc (σ : Mem) {b : Nat} (c : Mem) (hb : b = 0 ∨ b = 15 ∨ b = 16) : Keep σ (wc σ b c) := by
  intro k o i h
  unfold wc
  by_cases h1 : isB k = true
  · rw [if_pos h1]
    by_cases h2 : o = b
    · exact absurd (ch_b h1 (by omega)) h
    · rw [if_neg h2]
  · rw [if_neg h1]
    by_cases h3 : isM k = true
    · rw [if_pos h3]
      by_cases h2 : o / 6 = b
      · exact absurd (ch_m (Bool.eq_false_iff.mpr h1) h3 (by omega)) h
      · rw [if_neg h2]
    · rw [if_neg h3]
theorem keep_wq (σ : Mem) (q : QS) : Keep σ (wq σ q) := fun k o i h => wq_other σ q i fun z => h (by rw [z.1]; exact ch_20 o)
theorem keep_w2 (σ : Mem) (a : Nat) (q : QS) : Keep σ (w2 σ a q) := fun k o i h => w2_out σ q i fun z => h (by rw [z.1]; exact ch_20 o)
theorem keep_ms (σ : Mem) {k o : Nat} (i : Nat) (v : Int32) (h : Ch k o) : Keep σ (ms σ k o i v) := fun k1 o1 i1 h1 => ms_ne σ v fun z => h1 (by rw [z.1, z.2.1]; exact h)
theorem Bus.mv0 {b : Nat} (h : Bus q (cOf σ b) T) (e : ∀ k i, isB k = true → σ' k b i = σ k b i) (e2 : ∀ k o i, isB k = false → isM k = true → o < 6 → σ' k (6 * b + o) i = σ k (6 * b + o) i) : Bus q (cOf σ' b) T :=
  h.cells (fun k i hk => by
    show (if isB k = true then σ' k b i else _) = (if isB k = true then σ k b i else _)
    rw [if_pos hk, if_pos hk]; exact e k i hk) (fun k o i hk hk2 ho => by
    show (if isB k = true then _ else σ' k (6 * b + o) i) = (if isB k = true then _ else σ k (6 * b + o) i)
    rw [if_neg (by rw [hk]; exact fun z => nomatch z), if_neg (by rw [hk]; exact fun z => nomatch z)]; exact e2 k o i hk hk2 ho)
theorem Bus.mv {b : Nat} (h : Bus q (cOf σ b) T) (hk : Keep σ σ') (hb : b ≠ 0 ∧ b ≠ 15 ∧ b ≠ 16) : Bus q (cOf σ' b) T :=
  h.mv0 (fun k i h1 => hk _ _ _ (ch_nb h1 hb)) (fun k o i h1 h2 ho => hk _ _ _ (ch_nm h1 h2 ho hb))
theorem Bus.put {b : Nat} (h : Bus q c T) (σ : Mem) : Bus q (cOf (wc σ b c) b) T :=
  h.cells (fun k i hk => by
    show (if isB k = true then wc σ b c k b i else _) = _
    rw [if_pos hk, wc_b _ _ hk]) (fun k o i hk hk2 ho => by
    show (if isB k = true then _ else wc σ b c k (6 * b + o) i) = _
    rw [if_neg (by rw [hk]; exact fun z => nomatch z), wc_m _ _ hk hk2 ho])
/-- a bus's overlay and another bus -/
theorem Bus.other {a b : Nat} (h : Bus q (cOf σ b) T) (c : Mem) (hab : b ≠ a) : Bus q (cOf (wc σ a c) b) T :=
  h.mv0 (fun k i hk => (rd_b σ c hk hab i).trans (by show (if isB k = true then σ k b i else _) = _; rw [if_pos hk])) (fun k o i hk hk2 ho => (rd_m σ c hk hk2 hab ho i).trans (by
    show (if isB k = true then _ else σ k (6 * b + o) i) = _
    rw [if_neg (by rw [hk]; exact fun z => nomatch z)]))
theorem wc_out (σ : Mem) (b : Nat) (c : Mem) {k : Nat} (h1 : isB k = false) (h2 : isM k = false) (o i : Nat) : wc σ b c k o i = σ k o i := by
  unfold wc
  rw [if_neg (by rw [h1]; exact fun z => nomatch z), if_neg (by rw [h2]; exact fun z => nomatch z)]
theorem wc_row (σ : Mem) (b : Nat) (c : Mem) : wc σ b c 20 0 = σ 20 0 := by
  funext i
  exact wc_out σ b c (by decide) (by decide) 0 i
def Ring (σ : Mem) (B : Nat) : Prop := ∃ n c, n < 14 ∧ c ≤ 14 ∧ σ 53 0 0 = nI n ∧ σ 52 0 0 = nI c ∧ σ 60 0 0 = nI c ∧ ∀ i, i < c → ∃ T, T ≤ B ∧ Bus (fun j => σ 21 0 (291 * i + j)) (cOf σ (1 + (n + 14 - c + i) % 14)) T
def Saves (σ : Mem) (B : Nat) : Prop := ∀ a, a < 2 → ∃ t : Bool, σ 18 0 a = bI t ∧ σ 23 0 a = bI t ∧ (t = true → ∃ T, T ≤ B ∧ Bus (fun j => σ 22 0 (291 * a + j)) (cOf σ (17 + a)) T)
def Text (σ : Mem) : Prop := ∃ L, L ≤ 120 ∧ σ 54 0 0 = nI L ∧ σ 61 0 0 = nI L ∧ ∀ i, i < L → ∃ x, x ≤ 255 ∧ σ 2 0 i = nI x ∧ σ 24 0 i = nI x
def Rest (σ : Mem) (B : Nat) : Prop := Ring σ B ∧ Saves σ B ∧ Text σ
def Pres (σ : Mem) (B : Nat) : Prop := ∃ T, T ≤ B ∧ Bus (σ 20 0) (cOf σ 0) T
def Inv (σ : Mem) (B : Nat) : Prop := Pres σ B ∧ Rest σ B
theorem Ring.keep (h : Ring σ B) (k : Keep σ σ') {B2 : Nat} (hB : B ≤ B2) : Ring σ' B2 := by
  obtain ⟨n, c, h1, h2, h3, h4, h5, h6⟩ := h
  refine ⟨n, c, h1, h2, (k 53 0 0 (by unfold Ch; decide)).trans h3, (k 52 0 0 (by unfold Ch; decide)).trans h4, (k 60 0 0 (by unfold Ch; decide)).trans h5, fun i hi => ?_⟩
  obtain ⟨T, g1, g2⟩ := h6 i hi
  exact ⟨T, by omega, (g2.mv k (by omega)).rows fun j _ => k 21 0 _ (by unfold Ch; decide)⟩
theorem Saves.keep (h : Saves σ B) (k : Keep σ σ') {B2 : Nat} (hB : B ≤ B2) : Saves σ' B2 := by
  intro a ha
  obtain ⟨t, h1, h2, h3⟩ := h a ha
  refine ⟨t, (k 18 0 a (by unfold Ch; decide)).trans h1, (k 23 0 a (by unfold Ch; decide)).trans h2, fun ht => ?_⟩
  obtain ⟨T, g1, g2⟩ := h3 ht
  exact ⟨T, by omega, (g2.mv k (by omega)).rows fun j _ => k 22 0 _ (by unfold Ch; decide)⟩
theorem Text.keep (h : Text σ) (k : Keep σ σ') : Text σ' := by
  obtain ⟨L, h1, h2, h3, h4⟩ := h
  refine ⟨L, h1, (k 54 0 0 (by unfold Ch; decide)).trans h2, (k 61 0 0 (by unfold Ch; decide)).trans h3, fun i hi => ?_⟩
  obtain ⟨x, g1, g2, g3⟩ := h4 i hi
  exact ⟨x, g1, (k 2 0 i (by unfold Ch; decide)).trans g2, (k 24 0 i (by unfold Ch; decide)).trans g3⟩
theorem Rest.keep (h : Rest σ B) (k : Keep σ σ') {B2 : Nat} (hB : B ≤ B2) : Rest σ' B2 := ⟨h.1.keep k hB, h.2.1.keep k hB, h.2.2.keep k⟩
/-! ### remembering -/
def shR (σ : Mem) (n : Nat) : Mem := fun k o j => if k = 21 ∧ o = 0 ∧ j < n then σ 21 0 (j + 291) else σ k o j
theorem shR_0 (σ : Mem) : shR σ 0 = σ := by
  funext k o j
  exact if_neg fun z => absurd z.2.2 (Nat.not_lt_zero j)
theorem shR_s (σ : Mem) (n : Nat) : ms (shR σ n) 21 0 n (σ 21 0 (n + 291)) = shR σ (n + 1) := by
  funext k o j
  unfold ms shR
  by_cases e : k = 21 ∧ o = 0 ∧ j = n
  · obtain ⟨rfl, rfl, rfl⟩ := e
    rw [if_pos ⟨rfl, rfl, rfl⟩, if_pos ⟨rfl, rfl, by omega⟩]
  · rw [if_neg e]
    by_cases e2 : k = 21 ∧ o = 0 ∧ j < n
    · rw [if_pos e2, if_pos ⟨e2.1, e2.2.1, by omega⟩]
    · rw [if_neg e2, if_neg fun z => e2 ⟨z.1, z.2.1, by
        have : ¬ j = n := fun w => e ⟨z.1, z.2.1, w⟩
        omega⟩]
theorem shR_out (σ : Mem) {n k o j : Nat} (h : ¬ (k = 21 ∧ o = 0 ∧ j < n)) : shR σ n k o j = σ k o j := if_neg h
theorem shR_in (σ : Mem) {n j : Nat} (h : j < n) : shR σ n 21 0 j = σ 21 0 (j + 291) := if_pos ⟨rfl, rfl, h⟩
def puR (σ : Mem) (a n : Nat) : Mem := fun k o j => if k = 21 ∧ o = 0 ∧ a ≤ j ∧ j < a + n then σ 20 0 (j - a) else σ k o j
theorem puR_0 (σ : Mem) (a : Nat) : puR σ a 0 = σ := by
  funext k o j
  exact if_neg fun z => by omega
theorem puR_s (σ : Mem) (a n : Nat) : ms (puR σ a n) 21 0 (a + n) (σ 20 0 n) = puR σ a (n + 1) := by
  funext k o j
  unfold ms puR
  by_cases e : k = 21 ∧ o = 0 ∧ j = a + n
  · obtain ⟨rfl, rfl, rfl⟩ := e
    rw [if_pos ⟨rfl, rfl, rfl⟩, if_pos ⟨rfl, rfl, by omega, by omega⟩, show a + n - a = n by omega]
  · rw [if_neg e]
    by_cases e2 : k = 21 ∧ o = 0 ∧ a ≤ j ∧ j < a + n
    · rw [if_pos e2, if_pos ⟨e2.1, e2.2.1, e2.2.2.1, by omega⟩]
    · rw [if_neg e2, if_neg fun z => e2 ⟨z.1, z.2.1, z.2.2.1, by
        have : ¬ j = a + n := fun w => e ⟨z.1, z.2.1, w⟩
        omega⟩]
theorem puR_out (σ : Mem) {a n k o j : Nat} (h : ¬ (k = 21 ∧ o = 0 ∧ a ≤ j ∧ j < a + n)) : puR σ a n k o j = σ k o j := if_neg h
theorem puR_in (σ : Mem) {a n j : Nat} (h : j < n) : puR σ a n 21 0 (a + j) = σ 20 0 j := (if_pos ⟨rfl, rfl, by omega, by omega⟩).trans (by rw [show a + j - a = j by omega])
theorem m_rem52 (σ : Mem) {c : Nat} (hc : c ≤ 13) (h60 : σ 60 0 0 = nI c) (k : Mem → Option Mem) : f7_remember_l52 k FU (nI 0) σ = k (puR σ (291 * c) 291) := by
  have h9 := lup (fun n (z : Int32 × Mem) => f7_remember_l52 k n z.1 z.2) (fun i => (nI i, puR σ (291 * c) i)) 291 (k (puR σ (291 * c) 291)) ?_ ?_ 291 0 FU rfl (by decide)
  · rw [puR_0] at h9; exact h9
  · intro n i hi
    show f7_remember_l52 k (n + 1) (nI i) (puR σ (291 * c) i) = f7_remember_l52 k n (nI (i + 1)) (puR σ (291 * c) (i + 1))
    have e60 : puR σ (291 * c) i 60 0 0 = nI c := (puR_out σ (by omega)).trans h60
    rw [f7_remember_l52]
    simp (disch := first | omega | decide) only [lit, nmS, e60, pk_mul, nI_add, gd_ib, clI]
    rw [if_neg (nI_ge hi (by decide)), puR_out σ (k := 20) (by omega), puR_s]
  · intro n
    show f7_remember_l52 k (n + 1) (nI 291) _ = _
    rw [f7_remember_l52]
    simp only [lit]
    rw [if_pos (nI_le (Nat.le_refl _) (by decide))]
theorem m_rem11 (σ : Mem) (k : Mem → Option Mem) : f7_remember_l11 k FU (nI 0) σ = k (shR σ 3783) := by
  have h9 := lup (fun n (z : Int32 × Mem) => f7_remember_l11 k n z.1 z.2) (fun i => (nI i, shR σ i)) 3783 (k (shR σ 3783)) ?_ ?_ 3783 0 FU rfl (by decide)
  · rw [shR_0] at h9; exact h9
  · intro n i hi
    show f7_remember_l11 k (n + 1) (nI i) (shR σ i) = f7_remember_l11 k n (nI (i + 1)) (shR σ (i + 1))
    rw [f7_remember_l11]
    simp (disch := first | omega | decide) only [lit, nmS, nI_add, gd_ib, clI]
    rw [if_neg (nI_ge hi (by decide)), shR_out σ (k := 21) (by omega), shR_s]
  · intro n
    show f7_remember_l11 k (n + 1) (nI 3783) _ = _
    rw [f7_remember_l11]
    simp only [lit]
    rw [if_pos (nI_le (Nat.le_refl _) (by decide))]
theorem m_remember (σ : Mem) {c : Nat} (hc : c ≤ 14) (h60 : σ 60 0 0 = nI c) : ∃ τ, f7_remember σ = some τ ∧ τ 60 0 0 = nI (if c = 14 then 14 else c + 1) ∧ (∀ k o i, k ≠ 21 → k ≠ 60 → τ k o i = σ k o i) ∧
    ∀ i j, j < 291 → i < 14 → τ 21 0 (291 * i + j) = if c = 14 then (if i = 13 then σ 20 0 j else σ 21 0 (291 * (i + 1) + j)) else (if i = c then σ 20 0 j else σ 21 0 (291 * i + j)) := by
  unfold f7_remember
  simp only [lit, nmS, h60]
  by_cases e : c = 14
  · subst e
    have e60 : ms (shR σ 3783) 60 0 0 (shR σ 3783 60 0 0 - nI 1) 60 0 0 = nI 13 := by
      rw [ms_eq, shR_out σ (by omega), h60]; decide
    rw [if_pos rfl, m_rem11 σ, m_rem52 _ (c := 13) (by omega) e60]
    refine ⟨_, rfl, ?_, ?_, ?_⟩
    · rw [ms_eq, puR_out _ (by omega), e60, nI_add, if_pos rfl]
    · intro k o i h1 h2
      rw [ms_ne _ _ (by omega), puR_out _ (by omega), ms_ne _ _ (by omega), shR_out _ (by omega)]
    · intro i j hj hi
      rw [if_pos rfl, ms_ne _ _ (by omega)]
      by_cases e2 : i = 13
      · subst e2
        rw [if_pos rfl, puR_in _ hj, ms_ne _ _ (by omega), shR_out _ (by omega)]
      · rw [if_neg e2, puR_out _ (by omega), ms_ne _ _ (by omega), shR_in _ (by omega), show 291 * i + j + 291 = 291 * (i + 1) + j by omega]
  · rw [if_neg (show ¬ nI c = nI 14 from fun z => e ((nI_eq (by omega) (by decide)).mp z)), m_rem52 _ (c := c) (by omega) h60]
    refine ⟨_, rfl, ?_, ?_, ?_⟩
    · rw [ms_eq, puR_out _ (by omega), h60, nI_add, if_neg e]
    · intro k o i h1 h2
      rw [ms_ne _ _ (by omega), puR_out _ (by omega)]
    · intro i j hj hi
      rw [if_neg e, ms_ne _ _ (by omega)]
      by_cases e2 : i = c
      · subst e2
        rw [if_pos rfl, puR_in _ hj]
      · rw [if_neg e2, puR_out _ (by omega)]
theorem c_remember (σ : Mem) {n c T : Nat} (hn : n < 14) (hc : c ≤ 14) (h53 : σ 53 0 0 = nI n) (h52 : σ 52 0 0 = nI c) (h : Bus q (cOf σ 0) T) : ∃ d, Bus q d T ∧ f4_remember 0 σ = some (ms (ms (wc σ (n + 1) d) 53 0 0 (nI (if n = 13 then 0 else n + 1))) 52 0 0 (nI (if c = 14 then 14 else c + 1))) := by
  obtain ⟨d, hd1, hd2⟩ := c_copy σ (o := n + 1) (a := 0) (by omega) h (cOf σ (n + 1))
  rw [wc_self] at hd1
  refine ⟨d, hd2, ?_⟩
  have e53 : wc σ (n + 1) d 53 0 0 = nI n := (wc_out _ _ _ (by decide) (by decide) _ _).trans h53
  have e52 : wc σ (n + 1) d 52 0 0 = nI c := (wc_out _ _ _ (by decide) (by decide) _ _).trans h52
  have e52' : ∀ v, ms (wc σ (n + 1) d) 53 0 0 v 52 0 0 = nI c := fun v => (ms_ne _ _ (by omega)).trans e52
  unfold f4_remember fJ_min
  simp (disch := first | omega | decide) only [lit, nmS, h53, gd_ib, clI, hd1, bvS, e53, nI_add, e52']
  rw [if_neg (show ¬ nI n < nI 0 from nI_pos (by omega)), if_pos (nI_lt hn (by decide))]
  have hfin : ∀ v, bd (if nI 14 < nI (c + 1) then some (nI 14, ms (wc σ (n + 1) d) 53 0 0 v) else some (nI (c + 1), ms (wc σ (n + 1) d) 53 0 0 v)) (fun r1 s4 => some (ms s4 52 0 0 r1)) = some (ms (ms (wc σ (n + 1) d) 53 0 0 v) 52 0 0 (nI (if c = 14 then 14 else c + 1))) := by
    intro v
    by_cases e : c = 14
    · rw [if_pos (nI_lt (by omega) (by omega)), bdS, if_pos e]
    · rw [if_neg (show ¬ nI 14 < nI (c + 1) from fun z => by
        have := (nI_ltI (by omega) (by omega)).mp z
        omega), bdS, if_neg e]
  by_cases e : n = 13
  · rw [if_pos (show nI 14 ≤ nI (n + 1) from nI_le (by omega) (by omega)), hfin, if_pos e]
  · rw [if_neg (show ¬ nI 14 ≤ nI (n + 1) from nI_ge (by omega) (by omega)), hfin, if_neg e]
/-- both remember -/
theorem push (h : Inv σ B) : ∃ σa, f4_remember 0 σ = some σa ∧ (∀ k o i, k ≠ 52 → k ≠ 53 → ¬ (isB k = true ∧ o ≠ 0) → ¬ (isM k = true ∧ o ≥ 6) → σa k o i = σ k o i) ∧
    ∀ σ1, Keep σa σ1 → (∀ j, j < 291 → σ1 20 0 j = σ 20 0 j) → ∃ τ, f7_remember σ1 = some τ ∧ (∀ k o i, k ≠ 21 → k ≠ 60 → τ k o i = σ1 k o i) ∧ Rest τ B := by
  obtain ⟨⟨T, hT, hp⟩, ⟨n, c, hn, hc, h53, h52, h60, hR⟩, hS, hX⟩ := h
  obtain ⟨d, hd, hrem⟩ := c_remember σ hn hc h53 h52 hp
  have hout : ∀ k o i, k ≠ 52 → k ≠ 53 → ms (ms (wc σ (n + 1) d) 53 0 0 (nI (if n = 13 then 0 else n + 1))) 52 0 0 (nI (if c = 14 then 14 else c + 1)) k o i = wc σ (n + 1) d k o i := fun k o i h1 h2 => by
    rw [ms_ne _ _ (by omega), ms_ne _ _ (by omega)]
  refine ⟨_, hrem, fun k o i h1 h2 h3 h4 => ?_, fun σ1 hk hrow => ?_⟩
  · rw [hout k o i h1 h2]
    unfold wc
    by_cases e : isB k = true
    · rw [if_pos e, if_neg (fun z => h3 ⟨e, by omega⟩)]
    · rw [if_neg e]
      by_cases e2 : isM k = true
      · rw [if_pos e2, if_neg (fun z => h4 ⟨e2, by omega⟩)]
      · rw [if_neg e2]
  · have k0 : ∀ k o i, k ≠ 52 → k ≠ 53 → isB k = false → isM k = false → ¬ Ch k o → σ1 k o i = σ k o i := fun k o i h1 h2 h3 h4 h5 => by
      rw [hk k o i h5, hout k o i h1 h2, wc_out _ _ _ h3 h4]
    have e60 : σ1 60 0 0 = nI c := (k0 60 0 0 (by decide) (by decide) (by decide) (by decide) (by unfold Ch; decide)).trans h60
    obtain ⟨τ, t1, t2, t3, t4⟩ := m_remember σ1 hc e60
    have e53 : τ 53 0 0 = nI (if n = 13 then 0 else n + 1) := by
      rw [t3 53 0 0 (by decide) (by decide), hk 53 0 0 (by unfold Ch; decide), ms_ne _ _ (by omega), ms_eq]
    have e52 : τ 52 0 0 = nI (if c = 14 then 14 else c + 1) := by
      rw [t3 52 0 0 (by decide) (by decide), hk 52 0 0 (by unfold Ch; decide), ms_eq]
    -- a bus that isn't among those that changed
    have hold : ∀ {q : QS} {b T : Nat}, b ≠ 0 ∧ b ≠ 15 ∧ b ≠ 16 → b ≠ n + 1 → Bus q (cOf σ b) T → Bus q (cOf τ b) T := by
      intro q b T hb hb2 hq
      have h1 : Bus q (cOf (wc σ (n + 1) d) b) T := hq.other d hb2
      refine h1.mv0 (fun k i e => ?_) (fun k o i e e2 ho => ?_)
      · have := isB_is e
        rw [t3 k b i (by omega) (by omega), hk k b i (ch_nb e hb), hout k b i (by omega) (by omega)]
      · have := isM_is e2
        rw [t3 k _ i (by omega) (by omega), hk k _ i (ch_nm e e2 ho hb), hout k _ i (by omega) (by omega)]
    have hnew : Bus (σ 20 0) (cOf τ (n + 1)) T := by
      have h1 : Bus (σ 20 0) (cOf (wc σ (n + 1) d) (n + 1)) T := hd.put σ
      have hb : n + 1 ≠ 0 ∧ n + 1 ≠ 15 ∧ n + 1 ≠ 16 := by omega
      refine h1.mv0 (fun k i e => ?_) (fun k o i e e2 ho => ?_)
      · have := isB_is e
        rw [t3 k _ i (by omega) (by omega), hk k _ i (ch_nb e hb), hout k _ i (by omega) (by omega)]
      · have := isM_is e2
        rw [t3 k _ i (by omega) (by omega), hk k _ i (ch_nm e e2 ho hb), hout k _ i (by omega) (by omega)]
    have k1 : ∀ k o i, k ≠ 52 → k ≠ 53 → k ≠ 21 → k ≠ 60 → isB k = false → isM k = false → ¬ Ch k o → τ k o i = σ k o i := fun k o i h1 h2 h3 h4 h5 h6 h7 => (t3 k o i h3 h4).trans (k0 k o i h1 h2 h5 h6 h7)
    have e21 : ∀ i, σ1 21 0 i = σ 21 0 i := fun i => k0 21 0 i (by decide) (by decide) (by decide) (by decide) (by unfold Ch; decide)
    refine ⟨τ, t1, t3, ⟨(if n = 13 then 0 else n + 1), (if c = 14 then 14 else c + 1), by split <;> omega, by split <;> omega, e53, e52, t2, fun i hi => ?_⟩, fun a ha => ?_, ?_⟩
    · by_cases ec : c = 14
      · rw [if_pos ec] at hi ⊢
        by_cases ei : i = 13
        · refine ⟨T, hT, ?_⟩
          rw [show 1 + ((if n = 13 then 0 else n + 1) + 14 - 14 + i) % 14 = n + 1 by split <;> omega]
          refine hnew.rows fun j hj => ?_
          show τ 21 0 (291 * i + j) = _
          rw [t4 i j hj hi, if_pos ec, if_pos ei, hrow j hj]
        · obtain ⟨T2, g1, g2⟩ := hR (i + 1) (by omega)
          refine ⟨T2, g1, ?_⟩
          rw [show 1 + ((if n = 13 then 0 else n + 1) + 14 - 14 + i) % 14 = 1 + (n + 14 - c + (i + 1)) % 14 by split <;> omega]
          refine (hold (by omega) (by omega) g2).rows fun j hj => ?_
          show τ 21 0 (291 * i + j) = _
          rw [t4 i j hj hi, if_pos ec, if_neg ei, e21]
      · rw [if_neg ec] at hi ⊢
        by_cases ei : i = c
        · refine ⟨T, hT, ?_⟩
          rw [show 1 + ((if n = 13 then 0 else n + 1) + 14 - (c + 1) + i) % 14 = n + 1 by split <;> omega]
          refine hnew.rows fun j hj => ?_
          show τ 21 0 (291 * i + j) = _
          rw [t4 i j hj (by omega), if_neg ec, if_pos ei, hrow j hj]
        · obtain ⟨T2, g1, g2⟩ := hR i (by omega)
          refine ⟨T2, g1, ?_⟩
          rw [show 1 + ((if n = 13 then 0 else n + 1) + 14 - (c + 1) + i) % 14 = 1 + (n + 14 - c + i) % 14 by split <;> omega]
          refine (hold (by omega) (by omega) g2).rows fun j hj => ?_
          show τ 21 0 (291 * i + j) = _
          rw [t4 i j hj (by omega), if_neg ec, if_neg ei, e21]
    · obtain ⟨t, s1, s2, s3⟩ := hS a ha
      refine ⟨t, (k1 18 0 a (by decide) (by decide) (by decide) (by decide) (by decide) (by decide) (by unfold Ch; decide)).trans s1, (k1 23 0 a (by decide) (by decide) (by decide) (by decide) (by decide) (by decide) (by unfold Ch; decide)).trans s2, fun ht => ?_⟩
      obtain ⟨T2, g1, g2⟩ := s3 ht
      exact ⟨T2, g1, (hold (by omega) (by omega) g2).rows fun j _ => k1 22 0 _ (by decide) (by decide) (by decide) (by decide) (by decide) (by decide) (by unfold Ch; decide)⟩
    · obtain ⟨L, x1, x2, x3, x4⟩ := hX
      refine ⟨L, x1, (k1 54 0 0 (by decide) (by decide) (by decide) (by decide) (by decide) (by decide) (by unfold Ch; decide)).trans x2, (k1 61 0 0 (by decide) (by decide) (by decide) (by decide) (by decide) (by decide) (by unfold Ch; decide)).trans x3, fun i hi => ?_⟩
      obtain ⟨x, y1, y2, y3⟩ := x4 i hi
      exact ⟨x, y1, (k1 2 0 i (by decide) (by decide) (by decide) (by decide) (by decide) (by decide) (by unfold Ch; decide)).trans y2, (k1 24 0 i (by decide) (by decide) (by decide) (by decide) (by decide) (by decide) (by unfold Ch; decide)).trans y3⟩
end SYS
