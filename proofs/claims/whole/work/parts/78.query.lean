/-! CALLS THAT ONLY LOOK -/
section QUERY
variable {q : QS} {c : Mem} {T : Nat}
def AnsV (cf : Nat → Nat) (r6 : Nat ⊕ Int32) (r7 v : Int32) : Prop := match r6 with
  | .inl e => cf e ≠ 0 ∧ v = nI (cf e)
  | .inr x => v = 0 ∧ x = r7
def Good (cf : Nat → Nat) (F6 : Mem → Option ((Nat ⊕ Int32) × Mem)) (F7 : Mem → Option (Int32 × Mem)) : Prop := ∀ σ B, Inv σ B → B + 3000 < 2 ^ 27 → ∃ r6 σ1 r7 σ2, F6 σ = some (r6, σ1) ∧ F7 σ1 = some (r7, σ2) ∧ Inv σ2 (B + 100) ∧ AnsV cf r6 r7 (σ2 62 0 0)
theorem ms_ms (σ : Mem) (k o i : Nat) (v w : Int32) : ms (ms σ k o i v) k o i w = ms σ k o i w := by
  funext k1 o1 i1
  unfold ms
  by_cases e : k1 = k ∧ o1 = o ∧ i1 = i
  · rw [if_pos e, if_pos e]
  · rw [if_neg e, if_neg e, if_neg e]
theorem w62 (τ : Mem) (q : QS) (v : Int32) : ms (wq τ q) 62 0 0 v = wq (ms τ 62 0 0 v) q := wq_ms τ q 0 v (by decide)
theorem row62 (σ : Mem) (v : Int32) : ms σ 62 0 0 v 20 0 = σ 20 0 := by
  funext i
  exact ms_ne _ _ (by omega)
theorem inv62 {σ : Mem} {B : Nat} (h : Inv σ B) (v : Int32) {B2 : Nat} (hB : B ≤ B2) : Inv (ms σ 62 0 0 v) B2 := by
  obtain ⟨⟨T, hT, hp⟩, hr⟩ := h
  refine ⟨⟨T, by omega, ?_⟩, hr.keep (keep_ms σ 0 v (ch_t (by omega) (by omega) 0)) hB⟩
  rw [row62]
  exact hp.mv0 (fun k i hk => by
    have := isB_is hk
    exact ms_ne _ _ (by omega)) (fun k o i hk hk2 ho => by
    have := isM_is hk2
    exact ms_ne _ _ (by omega))
theorem query {cf : Nat → Nat} {F6 : Mem → Option ((Nat ⊕ Int32) × Mem)} {F7 : Mem → Option (Int32 × Mem)} (t : ∀ (q : QS) (c : Mem) (T : Nat) (σ τ : Mem), Bus q c T → ∃ r6 r7 v, F6 (wc σ 0 c) = some (r6, wc σ 0 c) ∧ F7 (wq τ q) = some (r7, wq (ms τ 62 0 0 v) q) ∧ AnsV cf r6 r7 v) : Good cf F6 F7 := by
  intro σ B h hB
  obtain ⟨T, hT, hp⟩ := h.1
  obtain ⟨r6, r7, v, h1, h2, h3⟩ := t (σ 20 0) (cOf σ 0) T σ σ hp
  rw [wc_self] at h1
  rw [wq_self, ← w62, wq_self] at h2
  exact ⟨r6, σ, r7, _, h1, h2, inv62 h v (by omega), by rw [ms_eq]; exact h3⟩
theorem m_fails (τ : Mem) (q : QS) (a v : Int32) : f7_fails a (wq (ms τ 62 0 0 v) q) = some (nI 0, wq (ms τ 62 0 0 a) q) := by
  unfold f7_fails
  simp only [lit, nmS, w62, ms_ms]
theorem c_need (σ : Mem) (h : Bus q c T) (a : Int32) : f6_needMaster a (wc σ 0 c) = some (if (decide (0 ≤ a) && decide (a < q 0)) = true then .inr () else .inl 2, wc σ 0 c) := by
  obtain ⟨f, hE⟩ := h.1
  unfold f6_needMaster
  rw [c_has σ 0 hE h.2.1.sz, bdS]
  cases (decide (0 ≤ a) && decide (a < q 0)) with
  | true => rw [if_neg (show ¬ bI true = 0 by decide), if_pos rfl]
  | false => rw [if_pos (show bI false = 0 by decide), if_neg (fun z => nomatch z)]
theorem c_needS (σ : Mem) (h : Bus q c T) (a : Int32) : f6_needSlot a (wc σ 0 c) = some (if (decide (0 ≤ a) && decide (a < q 1)) = true then .inr () else .inl 2, wc σ 0 c) := by
  obtain ⟨f, hE⟩ := h.1
  unfold f6_needSlot
  rw [c_hasS σ 0 hE h.2.1.sz, bdS]
  cases (decide (0 ≤ a) && decide (a < q 1)) with
  | true => rw [if_neg (show ¬ bI true = 0 by decide), if_pos rfl]
  | false => rw [if_pos (show bI false = 0 by decide), if_neg (fun z => nomatch z)]
theorem isM_in (h : Bus q c T) {m : Nat} (hm : m < nM q) : (decide (0 ≤ nI m) && decide (nI m < q 0)) = true := by
  have hM := h.2.1.sz.M
  rw [hM.1, decide_eq_true (nI_pos' (by omega)), decide_eq_true (nI_lt hm (by omega))]; rfl
theorem isS_in (h : Bus q c T) {s : Nat} (hs : s < nS q) : (decide (0 ≤ nI s) && decide (nI s < q 1)) = true := by
  have hM := h.2.1.sz.S
  rw [hM.1, decide_eq_true (nI_pos' (by omega)), decide_eq_true (nI_lt hs (by omega))]; rfl
/-- a master, or none -/
theorem isM_or (h : Bus q c T) (a : Int32) : (∃ m, m < nM q ∧ a = nI m) ∨ (decide (0 ≤ a) && decide (a < q 0)) = false := by
  have hM := h.2.1.sz.M
  cases e : (decide (0 ≤ a) && decide (a < q 0)) with
  | false => exact Or.inr rfl
  | true => rw [hM.1] at e; exact Or.inl (in_nI (by omega) e)
theorem isS_or (h : Bus q c T) (a : Int32) : (∃ s, s < nS q ∧ a = nI s) ∨ (decide (0 ≤ a) && decide (a < q 1)) = false := by
  have hM := h.2.1.sz.S
  cases e : (decide (0 ≤ a) && decide (a < q 1)) with
  | false => exact Or.inr rfl
  | true => rw [hM.1] at e; exact Or.inl (in_nI (by omega) e)
theorem c_no (σ : Mem) (h : Bus q c T) {a : Int32} (e : (decide (0 ≤ a) && decide (a < q 0)) = false) : f6_needMaster a (wc σ 0 c) = some (.inl 2, wc σ 0 c) := by
  rw [c_need σ h, if_neg (by rw [e]; exact fun z => nomatch z)]
theorem c_yes (σ : Mem) (h : Bus q c T) {m : Nat} (hm : m < nM q) : f6_needMaster (nI m) (wc σ 0 c) = some (.inr (), wc σ 0 c) := by
  rw [c_need σ h, if_pos (isM_in h hm)]
theorem c_noS (σ : Mem) (h : Bus q c T) {a : Int32} (e : (decide (0 ≤ a) && decide (a < q 1)) = false) : f6_needSlot a (wc σ 0 c) = some (.inl 2, wc σ 0 c) := by
  rw [c_needS σ h, if_neg (by rw [e]; exact fun z => nomatch z)]
theorem c_yesS (σ : Mem) (h : Bus q c T) {s : Nat} (hs : s < nS q) : f6_needSlot (nI s) (wc σ 0 c) = some (.inr (), wc σ 0 c) := by
  rw [c_needS σ h, if_pos (isS_in h hs)]
theorem m_no (τ : Mem) (h : Bus q c T) {a : Int32} (e : (decide (0 ≤ a) && decide (a < q 0)) = false) : f7_isMaster a (wq τ q) = some (nI 0, wq τ q) := by
  rw [m_isM τ h.2.1.sz, e]; rfl
theorem m_yes (τ : Mem) (h : Bus q c T) {m : Nat} (hm : m < nM q) : f7_isMaster (nI m) (wq τ q) = some (nI 1, wq τ q) := by
  rw [m_isM τ h.2.1.sz, isM_in h hm]; rfl
theorem m_noS (τ : Mem) (h : Bus q c T) {a : Int32} (e : (decide (0 ≤ a) && decide (a < q 1)) = false) : f7_isSlot a (wq τ q) = some (nI 0, wq τ q) := by
  rw [m_isS τ h.2.1.sz, e]; rfl
theorem m_yesS (τ : Mem) (h : Bus q c T) {s : Nat} (hs : s < nS q) : f7_isSlot (nI s) (wq τ q) = some (nI 1, wq τ q) := by
  rw [m_isS τ h.2.1.sz, isS_in h hs]; rfl
theorem numb (N : Nat) (a : Int32) : (∃ k, k < N ∧ a = nI k) ∨ ∀ k, k < N → ¬ a = nI k := by
  by_cases h : ∃ k, k < N ∧ a = nI k
  · exact Or.inl h
  · exact Or.inr fun k hk e => h ⟨k, hk, e⟩
/-! about -/
def abV (q : QS) : Nat → Int32
  | 5 => sumF (dbQ q) (nM q)
  | 6 => sumF (fun m => mQ q m 0) (nM q)
  | 7 => sumF (fun m => mQ q m 7) (nM q)
  | 8 => q 5
  | 9 => q 6
  | n => q n
def cf1 (a : Nat) : Nat → Nat := fun e => if e = a then 1 else 0
def cf2 (a b : Nat) : Nat → Nat := fun e => if e = a then 1 else if e = b then 2 else 0
set_option maxHeartbeats 2000000 in
theorem g_about (a : Int32) : Good (cf1 0) (f6_about a) (f7_about a) := by
  refine query fun q c T σ τ h => ?_
  obtain ⟨f, hE⟩ := h.1
  have hz := h.2.1.sz
  have hb := bits_is h.2.1
  have hN : 20 < FU := by decide
  have c9 := c_bits σ 0 hE hz
  rw [hb] at c9
  have ha7 : f7_about a (wq τ q) = (if a = nI 0 then gd (ib a 291) (some (q a.toNatClampNeg, wq (ms τ 62 0 0 (nI 0)) q)) else if a = nI 1 then gd (ib a 291) (some (q a.toNatClampNeg, wq (ms τ 62 0 0 (nI 0)) q)) else if a = nI 2 then gd (ib a 291) (some (q a.toNatClampNeg, wq (ms τ 62 0 0 (nI 0)) q)) else if a = nI 3 then gd (ib a 291) (some (q a.toNatClampNeg, wq (ms τ 62 0 0 (nI 0)) q)) else if a = nI 4 then gd (ib a 291) (some (q a.toNatClampNeg, wq (ms τ 62 0 0 (nI 0)) q)) else
      if a = nI 5 then some (abV q 5, wq (ms τ 62 0 0 (nI 0)) q) else if a = nI 6 then some (abV q 6, wq (ms τ 62 0 0 (nI 0)) q) else if a = nI 7 then some (abV q 7, wq (ms τ 62 0 0 (nI 0)) q) else if a = nI 8 then some (q 5, wq (ms τ 62 0 0 (nI 0)) q) else if a = nI 9 then some (q 6, wq (ms τ 62 0 0 (nI 0)) q) else some (nI 0, wq (ms τ 62 0 0 (nI 1)) q)) := by
    unfold f7_about
    generalize FU = N at hN ⊢
    simp only [lit, nmS]
    rw [w62, m_about9 _ hz hN]
    rw [show f7_allOf (nI 0) (wq (ms τ 62 0 0 (nI 0)) q) = some (abV q 6, wq (ms τ 62 0 0 (nI 0)) q) from m_allOf _ hz (by omega), show f7_allOf (nI 7) (wq (ms τ 62 0 0 (nI 0)) q) = some (abV q 7, wq (ms τ 62 0 0 (nI 0)) q) from m_allOf _ hz (by omega), bdS, bdS, m_fails, bdS]
    simp only [wq_get]
    rfl
  have ha6 : f6_about a (wc σ 0 c) = (if a = nI 0 then some (.inr (q 0), wc σ 0 c) else if a = nI 1 then some (.inr (q 1), wc σ 0 c) else if a = nI 2 then some (.inr (q 2), wc σ 0 c) else if a = nI 3 then some (.inr (q 3), wc σ 0 c) else if a = nI 4 then some (.inr (q 4), wc σ 0 c) else
      if a = nI 5 then some (.inr (abV q 5), wc σ 0 c) else if a = nI 6 then some (.inr (abV q 6), wc σ 0 c) else if a = nI 7 then some (.inr (abV q 7), wc σ 0 c) else if a = nI 8 then some (.inr (q 5), wc σ 0 c) else if a = nI 9 then some (.inr (q 6), wc σ 0 c) else some (.inl 0, wc σ 0 c)) := by
    unfold f6_about
    simp only [lit]
    rw [wc_b σ c (k := 30) (by decide), wc_b σ c (k := 31) (by decide), wc_b σ c (k := 32) (by decide), wc_b σ c (k := 33) (by decide), wc_b σ c (k := 34) (by decide), wc_b σ c (k := 35) (by decide), hE.t0, hE.t1, hE.t2, hE.t4, hE.tx, hE.ty, c_allDebts σ 0 hE hz, c_waiting σ 0 hE hz, c_open σ 0 hE hz, c9, bdS, bdS, bdS, bdS]
    rfl
  rcases numb 10 a with ⟨k, hk, rfl⟩ | hno
  · refine ⟨.inr (abV q k), abV q k, 0, ?_, ?_, rfl, rfl⟩
    · rw [ha6]
      have : k = 0 ∨ k = 1 ∨ k = 2 ∨ k = 3 ∨ k = 4 ∨ k = 5 ∨ k = 6 ∨ k = 7 ∨ k = 8 ∨ k = 9 := by omega
      rcases this with rfl | rfl | rfl | rfl | rfl | rfl | rfl | rfl | rfl | rfl <;> simp (decide := true) only [↓reduceIte] <;> rfl
    · rw [ha7]
      have : k = 0 ∨ k = 1 ∨ k = 2 ∨ k = 3 ∨ k = 4 ∨ k = 5 ∨ k = 6 ∨ k = 7 ∨ k = 8 ∨ k = 9 := by omega
      rcases this with rfl | rfl | rfl | rfl | rfl | rfl | rfl | rfl | rfl | rfl <;> simp (decide := true) only [↓reduceIte] <;> rfl
  · refine ⟨.inl 0, nI 0, nI 1, ?_, ?_, by decide, rfl⟩
    · rw [ha6, if_neg (hno 0 (by omega)), if_neg (hno 1 (by omega)), if_neg (hno 2 (by omega)), if_neg (hno 3 (by omega)), if_neg (hno 4 (by omega)), if_neg (hno 5 (by omega)), if_neg (hno 6 (by omega)), if_neg (hno 7 (by omega)), if_neg (hno 8 (by omega)), if_neg (hno 9 (by omega))]
    · rw [ha7, if_neg (hno 0 (by omega)), if_neg (hno 1 (by omega)), if_neg (hno 2 (by omega)), if_neg (hno 3 (by omega)), if_neg (hno 4 (by omega)), if_neg (hno 5 (by omega)), if_neg (hno 6 (by omega)), if_neg (hno 7 (by omega)), if_neg (hno 8 (by omega)), if_neg (hno 9 (by omega))]
/-! owner, owes -/
theorem g_owner (a : Int32) : Good (cf1 2) (f6_owner a) (f7_owner a) := by
  refine query fun q c T σ τ h => ?_
  obtain ⟨f, hE⟩ := h.1
  have hS := h.2.1.sz.S
  unfold f6_owner f7_owner
  simp only [lit, nmS, w62]
  rcases isS_or h a with ⟨s, hs, rfl⟩ | hno
  · refine ⟨.inr (q (11 + s)), q (11 + s), 0, ?_, ?_, rfl, rfl⟩
    · simp (disch := first | omega | decide) only [c_yesS σ h hs, bxR, gd_ib, wc_b, clI, hE.own]
    · simp (disch := first | omega | decide) only [m_yesS _ h hs, bdS, nI_add, gd_ib, clI, wq_get]
      rw [if_neg (show ¬ nI 1 = nI 0 by decide)]; rfl
  · refine ⟨.inl 2, nI 0, nI 1, ?_, ?_, by decide, rfl⟩
    · rw [c_noS σ h hno, bxL]
    · rw [m_noS _ h hno, bdS, if_pos rfl, m_fails, bdS]
theorem g_owes (a b : Int32) : Good (cf1 2) (f6_owes a b) (f7_owes a b) := by
  refine query fun q c T σ τ h => ?_
  obtain ⟨f, hE⟩ := h.1
  have hM := h.2.1.sz.M
  unfold f6_owes f7_owes
  simp only [lit, nmS, w62]
  rcases isM_or h a with ⟨m, hm, rfl⟩ | hno
  · rcases isM_or h b with ⟨k, hk, rfl⟩ | hno
    · refine ⟨.inr (owQ q m k), owQ q m k, 0, ?_, ?_, rfl, rfl⟩
      · simp (disch := first | omega | decide) only [c_yes σ h hm, c_yes σ h hk, bxR, gd_ib, wc_m, clI, hE.ow]
      · simp (disch := first | omega | decide) only [m_yes _ h hm, m_yes _ h hk, bdS, f7_owed_s]
        rw [if_neg (show ¬ nI 1 = nI 0 by decide), if_neg (show ¬ nI 1 = nI 0 by decide)]; rfl
    · refine ⟨.inl 2, nI 0, nI 1, ?_, ?_, by decide, rfl⟩
      · rw [c_yes σ h hm, bxR, c_no σ h hno, bxL]
      · rw [m_yes _ h hm, bdS, if_neg (show ¬ nI 1 = nI 0 by decide), m_no _ h hno, bdS, if_pos rfl, m_fails, bdS]
  · refine ⟨.inl 2, nI 0, nI 1, ?_, ?_, by decide, rfl⟩
    · rw [c_no σ h hno, bxL]
    · rw [m_no _ h hno, bdS, if_pos rfl, m_fails, bdS]
end QUERY
