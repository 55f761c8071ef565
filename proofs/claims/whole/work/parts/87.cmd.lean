/-! ONE COMMAND OF A SCRIPT: both sides by its digits -/
section CMD
def cmd6 (e x1 x2 x3 x4 x5 : Int32) (s0 : Mem) : Option (Int32 × Mem) :=
  (if e = (1 : Int32) then (if x1 = (0 : Int32) then (if x2 = (0 : Int32) then (if (1 : Int32) ≤ x5 then bv (f2_stepTimes 15 x5 s0) fun s1 => some ((1 : Int32), s1) else some ((0 : Int32), s0)) else some ((0 : Int32), s0)) else some ((0 : Int32), s0)) else (if e = (2 : Int32) then nm (fun (s2 : Mem) => some ((0 : Int32), s2)) fun j1 => (if (1 : Int32) < x4 then j1 s0 else nm (fun (y1 : Int32) (s3 : Mem) => bd (f6_runsSend x1 x2 x3 y1 s3) fun r1 s4 => (if r1 = (0 : Int32) then j1 s4 else some ((1 : Int32), s4))) fun j2 => (if x4 = (1 : Int32) then j2 (1 : Int32) s0 else j2 (0 : Int32) s0)) else (if e = (3 : Int32) then nm (fun (s5 : Mem) => some ((0 : Int32), s5)) fun j3 => (if x4 = (0 : Int32) then bd (f6_runsGive (((10 : Int32) * x1) + x2) x3 s0) fun r2 s6 => (if r2 = (0 : Int32) then j3 s6 else some ((1 : Int32), s6)) else j3 s0) else (if e = (4 : Int32) then nm (fun (s7 : Mem) => some ((0 : Int32), s7)) fun j4 => (if x5 = (0 : Int32) then bd (f6_runsForgive x1 x2 s0) fun r3 s8 => (if r3 = (0 : Int32) then j4 s8 else some ((1 : Int32), s8)) else j4 s0) else (if e = (5 : Int32) then (if x2 = (0 : Int32) then (if x5 = (0 : Int32) then nm (ms s0 34 15 0 x1) fun s9 => some ((1 : Int32), s9) else some ((0 : Int32), s0)) else some ((0 : Int32), s0)) else (if e = (6 : Int32) then nm (fun (s10 : Mem) => some ((0 : Int32), s10)) fun j5 => (if x2 = (0 : Int32) then bd (f2_hasMaster 15 x1 s0) fun r4 s11 => (if r4 = (0 : Int32) then j5 s11 else gd (ib x1 6) (bd (f5_debts (6 * 15 + x1.toNatClampNeg) s11) fun r5 s12 => (if x5 < r5 then j5 s12 else some ((1 : Int32), s12)))) else j5 s0) else (if e = (7 : Int32) then nm (fun (s13 : Mem) => some ((0 : Int32), s13)) fun j6 => (if x2 = (0 : Int32) then bd (f2_hasMaster 15 x1 s0) fun r6 s14 => (if r6 = (0 : Int32) then j6 s14 else gd (ib x1 6) ((if x5 < (s14 42 (6 * 15 + x1.toNatClampNeg) 0) then j6 s14 else some ((1 : Int32), s14)))) else j6 s0) else (if e = (8 : Int32) then nm (fun (s15 : Mem) => some ((0 : Int32), s15)) fun j7 => (if x2 = (0 : Int32) then (if x3 = (0 : Int32) then (if (1 : Int32) < x4 then j7 s0 else bd (f2_hasMaster 15 x1 s0) fun r7 s16 => (if r7 = (0 : Int32) then j7 s16 else gd (ib x1 6) (nm (fun (y2 : Int32) (s17 : Mem) => (if (s16 40 (6 * 15 + x1.toNatClampNeg) 0) = y2 then some ((1 : Int32), s17) else j7 s17)) fun j8 => (if x4 = (1 : Int32) then j8 (1 : Int32) s16 else j8 (0 : Int32) s16)))) else j7 s0) else j7 s0) else (if e = (9 : Int32) then (if x2 = (0 : Int32) then bd (f2_hasMaster 15 x1 s0) fun r8 s18 => (if r8 = (0 : Int32) then some ((0 : Int32), s18) else bv (f2_copyFrom 16 15 s18) fun s19 => bd (f2_stepsTillDone 16 x1 x1 x5 s19) fun r9 s20 => (if x5 < r9 then some ((0 : Int32), s20) else some ((1 : Int32), s20))) else some ((0 : Int32), s0)) else some ((0 : Int32), s0))))))))))
def cmd7 (x1 x2 x3 x4 : Int32) (s0 : Mem) : Option (Int32 × Mem) :=
  bd (f7_in (x1.toInt64) (1 : Int64) (5 : Int64) s0) fun r1 s1 => (if r1 = (0 : Int32) then (if x1 = (0 : Int32) then some ((0 : Int32), s1) else bd (f7_isMaster x2 s1) fun r2 s2 => (if r2 = (0 : Int32) then some ((0 : Int32), s2) else (if x3 ≤ (0 : Int32) then (if x1 = (6 : Int32) then bd (f7_debts x2 s2) fun r3 s3 => (if x4 < r3 then some ((0 : Int32), s3) else some ((1 : Int32), s3)) else (if x1 = (7 : Int32) then bd (f7_of x2 (1 : Int32) s2) fun r4 s4 => (if x4 < r4 then some ((0 : Int32), s4) else some ((1 : Int32), s4)) else (if x1 = (8 : Int32) then bd (f7_isBankrupt x2 s2) fun r5 s5 => nm (fun (y1 : Int32) (s6 : Mem) => (if y1 = x4 then some ((1 : Int32), s6) else some ((0 : Int32), s6))) fun j1 => (if r5 = (0 : Int32) then j1 (0 : Int32) s5 else j1 (1 : Int32) s5) else bd (f7_doneWith ((1 : Int32) <<< (x2 &&& 31)) s2) fun r6 s7 => (if x4 < r6 then some ((0 : Int32), s7) else some ((1 : Int32), s7))))) else some ((0 : Int32), s2)))) else bd (f7_acts x1 x2 x3 (x4 / (10 : Int32)) (x4 - x4 / (10 : Int32) * (10 : Int32)) s1) fun r7 s8 => gd (zok r7) (some (r7, s8)))
theorem suc6 {g : Nat} (hg : g < 100000) (s : Mem) : f6_succeeds (nI g) s = cmd6 (nI (g / 10000)) (nI (g / 1000 % 10)) (nI (g / 100 % 10)) (nI (g / 10 % 10)) (nI (g % 10)) (nI (10 * (g / 10 % 10) + g % 10)) s := by
  unfold f6_succeeds
  have e1 : nI g / 10000 = nI (g / 10000) := pk_div (d := 10000) (by omega) (by decide) (by decide)
  have e2 : nI g / 1000 - nI g / 1000 / 10 * 10 = nI (g / 1000 % 10) := by
    rw [show nI g / 1000 = nI (g / 1000) from pk_div (d := 1000) (by omega) (by decide) (by decide)]
    exact pk_rem (d := 10) (by omega) (by decide) (by decide)
  have e3 : nI g / 100 - nI g / 100 / 10 * 10 = nI (g / 100 % 10) := by
    rw [show nI g / 100 = nI (g / 100) from pk_div (d := 100) (by omega) (by decide) (by decide)]
    exact pk_rem (d := 10) (by omega) (by decide) (by decide)
  have e4 : nI g / 10 - nI g / 10 / 10 * 10 = nI (g / 10 % 10) := by
    rw [show nI g / 10 = nI (g / 10) from pk_div (d := 10) (by omega) (by decide) (by decide)]
    exact pk_rem (d := 10) (by omega) (by decide) (by decide)
  have e5 : nI g - nI g / 10 * 10 = nI (g % 10) := pk_rem (d := 10) (by omega) (by decide) (by decide)
  rw [nmS, nmS, nmS, nmS, nmS, e1, e2, e3, e4, e5, show 10 * nI (g / 10 % 10) + nI (g % 10) = nI (10 * (g / 10 % 10) + g % 10) by rw [show (10 : Int32) = nI 10 from rfl, pk_mul, nI_add]]
  rfl
theorem suc7 {g : Nat} (hg : g < 100000) (s : Mem) : f7_succeeds (nI g) s = cmd7 (nI (g / 10000)) (nI (g / 1000 % 10)) (nI (g / 100 % 10)) (nI (10 * (g / 10 % 10) + g % 10)) s := by
  unfold f7_succeeds
  have e1 : nI g / 10000 = nI (g / 10000) := pk_div (d := 10000) (by omega) (by decide) (by decide)
  have e2 : nI g / 1000 - nI g / 1000 / 10 * 10 = nI (g / 1000 % 10) := by
    rw [show nI g / 1000 = nI (g / 1000) from pk_div (d := 1000) (by omega) (by decide) (by decide)]
    exact pk_rem (d := 10) (by omega) (by decide) (by decide)
  have e3 : nI g / 100 - nI g / 100 / 10 * 10 = nI (g / 100 % 10) := by
    rw [show nI g / 100 = nI (g / 100) from pk_div (d := 100) (by omega) (by decide) (by decide)]
    exact pk_rem (d := 10) (by omega) (by decide) (by decide)
  have e4 : nI g - nI g / 100 * 100 = nI (10 * (g / 10 % 10) + g % 10) := by
    rw [show 10 * (g / 10 % 10) + g % 10 = g % 100 by omega]
    exact pk_rem (d := 100) (by omega) (by decide) (by decide)
  rw [nmS, nmS, nmS, nmS, e1, e2, e3, e4]
  rfl
/-- the digits of the rest -/
theorem dig45 {d4 d5 : Nat} (h4 : d4 < 10) (h5 : d5 < 10) : nI (10 * d4 + d5) / 10 = nI d4 ∧ nI (10 * d4 + d5) - nI (10 * d4 + d5) / 10 * 10 = nI d5 := by
  have e1 : nI (10 * d4 + d5) / 10 = nI ((10 * d4 + d5) / 10) := pk_div (d := 10) (by omega) (by decide) (by decide)
  have e2 : nI (10 * d4 + d5) - nI (10 * d4 + d5) / 10 * 10 = nI ((10 * d4 + d5) % 10) := pk_rem (d := 10) (by omega) (by decide) (by decide)
  rw [e2, e1, show (10 * d4 + d5) / 10 = d4 by omega, show (10 * d4 + d5) % 10 = d5 by omega]
  exact ⟨rfl, rfl⟩
variable {r : QS} {T : Nat} {σ : Mem}
def SucR (r : QS) (T : Nat) (σ : Mem) (F6 F7 : Mem → Option (Int32 × Mem)) : Prop := ∀ ρ, ∃ (b : Bool) (σ' : Mem) (r' : QS) (T' : Nat) (ρ' : Mem), F6 σ = some (bI b, σ') ∧ F7 (wq ρ r) = some (bI b, wq ρ' r') ∧ T15 σ σ' ∧ Bus r' (cOf σ' 15) T' ∧ T' ≤ T + 99 ∧ ∀ k o x, ¬ (k = 20 ∧ o = 2) → ρ' k o x = ρ k o x
/-- no change -/
theorem sucSame (h : Bus r (cOf σ 15) T) {F6 F7 : Mem → Option (Int32 × Mem)} (b : Bool) (h6 : F6 σ = some (bI b, σ)) (h7 : ∀ ρ, F7 (wq ρ r) = some (bI b, wq ρ r)) : SucR r T σ F6 F7 := fun ρ => ⟨b, σ, r, T, ρ, h6, h7 ρ, T15.refl σ, h, by omega, fun _ _ _ _ => rfl⟩
/-- a change of the trial -/
theorem sucCh {F6 F7 : Mem → Option (Int32 × Mem)} {c' : Mem} {r' : QS} {T' : Nat} (h6 : F6 σ = some (nI 1, wc σ 15 c')) (h7 : ∀ ρ, F7 (wq ρ r) = some (nI 1, wq ρ r')) (hb : Bus r' c' T') (hT : T' ≤ T + 99) : SucR r T σ F6 F7 := fun ρ => ⟨true, wc σ 15 c', r', T', ρ, h6, h7 ρ, t15_wc σ c' (Or.inl rfl), hb.put σ, hT, fun _ _ _ _ => rfl⟩
theorem t_has (h : Bus r (cOf σ 15) T) {m : Nat} (hm : m < 2 ^ 31) : f2_hasMaster 15 (nI m) σ = some (bI (decide (m < nM r)), σ) := by
  obtain ⟨f, hE⟩ := h.1
  have hM := h.2.1.sz.M
  have := c_has σ 15 hE h.2.1.sz (nI m)
  rw [wc_self, decide_eq_true (nI_pos' hm), Bool.true_and, hM.1, decide_eq_decide.mpr (nI_ltI hm (by omega))] at this
  exact this
theorem t_hasS (h : Bus r (cOf σ 15) T) {m : Nat} (hm : m < 2 ^ 31) : f2_hasSlot 15 (nI m) σ = some (bI (decide (m < nS r)), σ) := by
  obtain ⟨f, hE⟩ := h.1
  have hM := h.2.1.sz.S
  have := c_hasS σ 15 hE h.2.1.sz (nI m)
  rw [wc_self, decide_eq_true (nI_pos' hm), Bool.true_and, hM.1, decide_eq_decide.mpr (nI_ltI hm (by omega))] at this
  exact this
theorem u_has (h : Bus r (cOf σ 15) T) (ρ : Mem) {m : Nat} (hm : m < 2 ^ 31) : f7_isMaster (nI m) (wq ρ r) = some (bI (decide (m < nM r)), wq ρ r) := by
  have hM := h.2.1.sz.M
  have := m_isM ρ h.2.1.sz (nI m)
  rw [decide_eq_true (nI_pos' hm), Bool.true_and, hM.1, decide_eq_decide.mpr (nI_ltI hm (by omega))] at this
  exact this
theorem u_hasS (h : Bus r (cOf σ 15) T) (ρ : Mem) {m : Nat} (hm : m < 2 ^ 31) : f7_isSlot (nI m) (wq ρ r) = some (bI (decide (m < nS r)), wq ρ r) := by
  have hM := h.2.1.sz.S
  have := m_isS ρ h.2.1.sz (nI m)
  rw [decide_eq_true (nI_pos' hm), Bool.true_and, hM.1, decide_eq_decide.mpr (nI_ltI hm (by omega))] at this
  exact this
theorem bI_0 {b : Bool} : (bI b = nI 0) ↔ b = false := by cases b <;> decide
theorem in_15 {n : Nat} (h : n < 2 ^ 31) (s : Mem) : f7_in (nI n).toInt64 (1 : Int64) (5 : Int64) s = some (bI (decide (1 ≤ n) && decide (n ≤ 5)), s) := by
  rw [m_in (nI n) (nI 1) (nI 5) (by decide) (by decide), decide_eq_decide.mpr (nI_leI (by omega) h), decide_eq_decide.mpr (nI_leI h (by omega))]
end CMD
