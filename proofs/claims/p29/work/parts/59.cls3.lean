/-! THE CLASS's TURN AND WORK -/
section CLS3
variable {S : Nat} {nb na : Nat → Nat} {q : QS} {x y : Int32} {f : Nat → Int32} {c : Mem}
theorem lupR {α β : Type _} (L : Nat → Nat → α → β) (P : Nat → α → Prop) (N : Nat) (res : α → β) (hs : ∀ n i x, i < N → P i x → ∃ x', P (i + 1) x' ∧ L (n + 1) i x = L n (i + 1) x') (he : ∀ n x, P N x → L (n + 1) N x = res x) : ∀ d i n x, i + d = N → d < n → P i x → ∃ x', P N x' ∧ L n i x = res x' := by
  intro d
  induction d with
  | zero =>
    intro i n x h1 h2 h3
    obtain rfl : i = N := h1
    obtain ⟨k, rfl⟩ : ∃ k, n = k + 1 := ⟨n - 1, by omega⟩
    exact ⟨x, h3, he k x h3⟩
  | succ d ih =>
    intro i n x h1 h2 h3
    obtain ⟨k, rfl⟩ : ∃ k, n = k + 1 := ⟨n - 1, by omega⟩
    obtain ⟨x2, h4, h5⟩ := hs k i x (by omega) h3
    obtain ⟨x3, h6, h7⟩ := ih (i + 1) k x2 (by omega) (by omega) h4
    exact ⟨x3, h6, h5.trans h7⟩
theorem xor_nI (a b : Nat) : nI a ^^^ nI b = nI (a ^^^ b) := by
  unfold nI
  apply Int32.toBitVec_inj.mp
  simp
theorem xor_nn {a b : Nat} (ha : a < 2 ^ 31) (hb : b < 2 ^ 31) : nI 0 ≤ nI a ^^^ nI b := by
  rw [xor_nI]
  exact nI_pos' (Nat.xor_lt_two_pow ha hb)
theorem c_mod (σ : Mem) {a d : Nat} (ha : a < 2 ^ 31) (h0 : 0 < d) (hd : d < 2 ^ 31) : fJ_floorMod (nI a) (nI d) σ = some (nI (a % d), σ) := by
  unfold fJ_floorMod
  simp (disch := omega) only [lit, nmS, gd_nz, pk_rem]
  rw [if_pos (xor_nn ha hd)]
theorem c_now (σ : Mem) (b : Nat) (h : E S nb na q x y f c) (hz : Sz q) (hS : nS q ≤ S) {T o : Nat} (hT : q 2 = nI T) (hT2 : T < 2 ^ 30) (ho : q (11 + T % nS q) = nI o) : f2_ownerNow b (wc σ b c) = some (nI o, wc σ b c) := by
  obtain ⟨g1, g2, g3⟩ := hz.S
  have hr : T % nS q < nS q := Nat.mod_lt _ (by omega)
  unfold f2_ownerNow
  simp (disch := first | omega | decide) only [lit, nmS, wc_b, h.t1, h.t2, g1, hT]
  rw [if_neg (nI_ge (show 0 < nS q by omega) (by omega)), c_mod _ (by omega) (by omega) (by omega), bdS, if_neg (nI_ge (show T % nS q < 16 by omega) (by omega))]
  simp (disch := first | omega | decide) only [clI, gd_ib, wc_b, h.own, ho]
theorem Ok.m {S : Nat} {nb na : Nat → Nat} {k o : Nat} (h1 : 42 ≤ k) (h2 : k < 48) (h3 : o < 6) : Ok S nb na k o 0 := Or.inr (Or.inr (Or.inr (Or.inr (Or.inr (Or.inr (Or.inl ⟨h1, h2, h3, rfl⟩))))))
theorem Ok.d {S : Nat} {nb na : Nat → Nat} {o i : Nat} (h1 : o < 6) (h2 : i < 6) : Ok S nb na 8 o i := Or.inr (Or.inr (Or.inl ⟨rfl, h1, h2⟩))
theorem c_take (σ : Mem) (b : Nat) (h : E S nb na q x y f c) (hz : Sz q) {o : Nat} (ho : o < nM q) (p : Nat → Bool) (hf : ∀ m, m < nM q → f m = bI (p m)) (hw : ∀ m, m < 6 → ∃ w, w < 2 ^ 31 ∧ mQ q m 1 = nI w) :
    ∃ c', f2_takeTurn b (nI o) (wc σ b c) = some (oN (turnQ q o p).1, wc σ b c') ∧ E S nb na (turnQ q o p).2 x y f c' := by
  obtain ⟨g1, g2, g3⟩ := hz.M
  have hb : ∀ t : Bool, ¬ bI t = 0 ↔ t = true := by intro t; cases t <;> decide
  have e1 : f2_creditorOf b (6 * b + o) (nI 1) (wc σ b c) = some (oN (crQ q o p), wc σ b c) := c_cred σ b h hz (by omega) (nI 1) p fun m hm => by
    rw [hf m hm]
    exact ⟨fun z => (hb _).mp (z.resolve_left (by decide)), fun z => Or.inr ((hb _).mpr z)⟩
  have e2 := c_borr σ b h hz p (fun m hm => by rw [hf m hm]; exact hb _) hw
  have e3 := c_has_o σ b h hz (w := crQ q o p) (fun k hk => bestN_lt hk)
  have e4 := c_has_o σ b h hz (w := boQ q p) (fun k hk => bestN_lt hk)
  unfold f2_takeTurn
  simp (disch := first | omega | decide) only [lit, nmS, c_has_in σ b h hz ho, bdS, gd_ib, clI, e1, e3]
  rw [if_neg (show ¬ nI 1 = nI 0 by decide)]
  unfold turnQ
  cases hcr : crQ q o p with
  | some k =>
    have hk : k < nM q := bestN_lt hcr
    rw [if_neg (show ¬ bI (some k).isSome = nI 0 from (by decide : ¬ bI true = nI 0))]
    simp (disch := first | omega | decide) only [oN, gd_ib, clI, nmS, wc_m, wc_sm, h.ow]
    have v2 : ms c 8 o k (owQ q o k - nI 1) 45 k 0 = q (63 + 38 * k + 4) := (ms_ne _ _ (by omega)).trans (h.cnt (j := 4) (by omega) (by omega) (by omega))
    rw [v2]
    refine ⟨_, rfl, ?_⟩
    have h2 := (h.set (Ok.d (o := o) (i := k) (by omega) (by omega)) (owQ q o k - nI 1)).set (Ok.m (k := 45) (o := k) (by omega) (by omega) (by omega)) (q (63 + 38 * k + 4) + nI 1)
    exact h2
  | none =>
    rw [if_pos (show bI (none : Option Nat).isSome = nI 0 by decide)]
    simp (disch := first | omega | decide) only [wc_m, h.fl]
    rw [hf o ho]
    cases hp : p o with
    | true =>
      rw [if_neg (show ¬ bI true = nI 0 by decide)]
      simp (disch := first | omega | decide) only [wc_m, wc_sm]
      rw [if_pos trivial, show c 44 o 0 = q (63 + 38 * o + 3) from h.cnt (j := 3) (by omega) (by omega) (by omega)]
      exact ⟨_, rfl, h.set (Ok.m (k := 44) (o := o) (by omega) (by omega) (by omega)) (q (63 + 38 * o + 3) + nI 1)⟩
    | false =>
      rw [if_pos (show bI false = nI 0 by decide), if_neg (by decide), e2, bdS, e4, bdS]
      cases hbo : boQ q p with
      | none =>
        rw [if_pos (show bI (none : Option Nat).isSome = nI 0 by decide)]
        exact ⟨c, rfl, h⟩
      | some m =>
        have hm : m < nM q := bestN_lt hbo
        rw [if_neg (show ¬ bI (some m).isSome = nI 0 from (by decide : ¬ bI true = nI 0))]
        simp (disch := first | omega | decide) only [oN, gd_ib, clI, nmS, wc_m, wc_sm, h.ow]
        have v2 : ms c 8 m o (owQ q m o + nI 1) 46 m 0 = q (63 + 38 * m + 5) := (ms_ne _ _ (by omega)).trans (h.cnt (j := 5) (by omega) (by omega) (by omega))
        rw [v2]
        refine ⟨_, rfl, ?_⟩
        have h2 := (h.set (Ok.d (o := m) (i := o) (by omega) (by omega)) (owQ q m o + nI 1)).set (Ok.m (k := 46) (o := m) (by omega) (by omega) (by omega)) (q (63 + 38 * m + 5) + nI 1)
        exact h2
/-- answers that move down -/
def shA (c : Mem) (w a n : Nat) : Mem := fun k o j => if k = 14 ∧ o = w ∧ a ≤ j ∧ j < a + n then c 14 w (j + 1) else c k o j
theorem shA_0 (c : Mem) (w a : Nat) : shA c w a 0 = c := by
  funext k o j
  exact if_neg fun z => by omega
theorem shA_out (c : Mem) {w a n k o j : Nat} (h : ¬ (k = 14 ∧ o = w ∧ a ≤ j ∧ j < a + n)) : shA c w a n k o j = c k o j := if_neg h
theorem shA_in (c : Mem) {w a n j : Nat} (h1 : a ≤ j) (h2 : j < a + n) : shA c w a n 14 w j = c 14 w (j + 1) := if_pos ⟨rfl, rfl, h1, h2⟩
theorem shA_s (c : Mem) (w a n : Nat) : ms (shA c w a n) 14 w (a + n) (c 14 w (a + n + 1)) = shA c w a (n + 1) := by
  funext k o j
  by_cases e : k = 14 ∧ o = w ∧ j = a + n
  · obtain ⟨rfl, rfl, rfl⟩ := e
    rw [ms_eq, shA_in _ (by omega) (by omega)]
  · rw [ms_ne _ _ e]
    by_cases e2 : k = 14 ∧ o = w ∧ a ≤ j ∧ j < a + n
    · obtain ⟨rfl, rfl, h1, h2⟩ := e2
      rw [shA_in _ h1 h2, shA_in _ h1 (by omega)]
    · rw [shA_out _ e2, shA_out _ (by omega)]
/-- bursts that move down -/
def shB (c : Mem) (w n : Nat) : Mem := fun k o j => if (k = 10 ∨ k = 11 ∨ k = 12) ∧ o = w ∧ j < n then c k w (j + 1) else c k o j
theorem shB_0 (c : Mem) (w : Nat) : shB c w 0 = c := by
  funext k o j
  exact if_neg fun z => by omega
theorem shB_out (c : Mem) {w n k o j : Nat} (h : ¬ ((k = 10 ∨ k = 11 ∨ k = 12) ∧ o = w ∧ j < n)) : shB c w n k o j = c k o j := if_neg h
theorem shB_in (c : Mem) {w n k j : Nat} (h0 : k = 10 ∨ k = 11 ∨ k = 12) (h2 : j < n) : shB c w n k w j = c k w (j + 1) := if_pos ⟨h0, rfl, h2⟩
theorem shB_s (c : Mem) (w n : Nat) : ms (ms (ms (shB c w n) 10 w n (c 10 w (n + 1))) 11 w n (c 11 w (n + 1))) 12 w n (c 12 w (n + 1)) = shB c w (n + 1) := by
  funext k o j
  by_cases e : (k = 10 ∨ k = 11 ∨ k = 12) ∧ o = w ∧ j = n
  · obtain ⟨h0, rfl, rfl⟩ := e
    rw [shB_in _ h0 (by omega)]
    rcases h0 with rfl | rfl | rfl
    · rw [ms_ne _ _ (by omega), ms_ne _ _ (by omega), ms_eq]
    · rw [ms_ne _ _ (by omega), ms_eq]
    · rw [ms_eq]
  · rw [ms_ne _ _ (by omega), ms_ne _ _ (by omega), ms_ne _ _ (by omega)]
    by_cases e2 : (k = 10 ∨ k = 11 ∨ k = 12) ∧ o = w ∧ j < n
    · obtain ⟨h0, rfl, h2⟩ := e2
      rw [shB_in _ h0 h2, shB_in _ h0 (by omega)]
    · rw [shB_out _ e2, shB_out _ (by omega)]
theorem c_rem (σ : Mem) (b : Nat) {w a A : Nat} (hw : w < 6) (hA : c 51 w 0 = nI A) (hA2 : A ≤ 10) (ha : a < A) : f0_remove (6 * b + w) (nI a) (wc σ b c) = some (wc σ b (ms (shA c w a (A - 1 - a)) 51 w 0 (nI (A - 1)))) := by
  have hN : 20 < FU := by decide
  unfold f0_remove
  generalize FU = N at hN ⊢
  simp (disch := first | omega | decide) only [lit, nmS, wc_m, hA, nI_add]
  rw [if_neg (show ¬ nI a < nI 0 from nI_pos (by omega)), if_pos (nI_lt ha (by omega))]
  have hA9 : ∀ n, shA c w a n 51 w 0 = nI A := fun n => (shA_out _ (by omega)).trans hA
  have h9 := lup (fun n (z : Int32 × Mem) => f0_remove_l17 (6 * b + w) (fun s1 => some (ms s1 51 (6 * b + w) 0 (s1 51 (6 * b + w) 0 - nI 1))) n z.1 (wc σ b z.2)) (fun i => (nI (a + 1 + i), shA c w a i)) (A - 1 - a) (some (wc σ b (ms (shA c w a (A - 1 - a)) 51 w 0 (nI (A - 1))))) ?_ ?_ (A - 1 - a) 0 N (by omega) (by omega)
  · rw [shA_0] at h9; exact h9
  · intro n i hi
    show f0_remove_l17 _ _ (n + 1) (nI (a + 1 + i)) (wc σ b (shA c w a i)) = f0_remove_l17 _ _ n (nI (a + 1 + (i + 1))) (wc σ b (shA c w a (i + 1)))
    rw [f0_remove_l17]
    have e1 : nI (a + 1 + i) - nI 1 = nI (a + i) := by rw [show a + 1 + i = a + i + 1 by omega]; exact nI_s1 _
    simp (disch := first | omega | decide) only [lit, nmS, wc_m, wc_sm, hA9, e1, clI, gd_ib, nI_add]
    rw [if_neg (nI_ge (show a + 1 + i < A by omega) (by omega)), if_neg (nI_ge (show a + 1 + i < 10 by omega) (by omega)), shA_out _ (by omega), show a + 1 + i = a + i + 1 by omega, shA_s, show a + i + 1 + 1 = a + 1 + (i + 1) by omega]
  · intro n
    show f0_remove_l17 _ _ (n + 1) (nI (a + 1 + (A - 1 - a))) (wc σ b (shA c w a (A - 1 - a))) = _
    rw [f0_remove_l17]
    simp (disch := first | omega | decide) only [lit, wc_m, wc_sm, hA9]
    rw [if_pos (nI_le (show A ≤ a + 1 + (A - 1 - a) by omega) (by omega)), show nI A - nI 1 = nI (A - 1) by
      obtain ⟨z, rfl⟩ : ∃ z, A = z + 1 := ⟨A - 1, by omega⟩
      exact nI_s1 _]
theorem zb_01 {v : Int32} (h : v = 0 ∨ v = 1) : zb v = v := by
  rcases h with rfl | rfl <;> decide
theorem c_remB (σ : Mem) (b : Nat) {w B : Nat} (hw : w < 6) (hB : c 50 w 0 = nI B) (hB2 : B ≤ 6) (hB0 : 0 < B) (h12 : ∀ k, k < B → c 12 w k = 0 ∨ c 12 w k = 1) : f1_removeFirst (6 * b + w) (wc σ b c) = some (wc σ b (ms (shB c w (B - 1)) 50 w 0 (nI (B - 1)))) := by
  have hN : 20 < FU := by decide
  unfold f1_removeFirst
  generalize FU = N at hN ⊢
  simp only [lit, nmS]
  have hB9 : ∀ n, shB c w n 50 w 0 = nI B := fun n => (shB_out _ (by omega)).trans hB
  have h9 := lup (fun n (z : Int32 × Mem) => f1_removeFirst_l2 (6 * b + w) (fun s1 => some (ms s1 50 (6 * b + w) 0 (s1 50 (6 * b + w) 0 - nI 1))) n z.1 (wc σ b z.2)) (fun i => (nI (1 + i), shB c w i)) (B - 1) (some (wc σ b (ms (shB c w (B - 1)) 50 w 0 (nI (B - 1))))) ?_ ?_ (B - 1) 0 N (by omega) (by omega)
  · rw [shB_0] at h9; exact h9
  · intro n i hi
    show f1_removeFirst_l2 _ _ (n + 1) (nI (1 + i)) (wc σ b (shB c w i)) = f1_removeFirst_l2 _ _ n (nI (1 + (i + 1))) (wc σ b (shB c w (i + 1)))
    rw [f1_removeFirst_l2]
    have e1 : nI (1 + i) - nI 1 = nI i := by rw [show 1 + i = i + 1 by omega]; exact nI_s1 _
    simp (disch := first | omega | decide) only [lit, nmS, wc_m, wc_sm, hB9, e1, clI, gd_ib, nI_add]
    rw [if_neg (nI_ge (show 1 + i < B by omega) (by omega)), if_neg (nI_ge (show 1 + i < 6 by omega) (by omega))]
    rw [ms_ne (ms (shB c w i) 10 w i _) _ (by omega), ms_ne (shB c w i) _ (by omega), ms_ne (shB c w i) _ (by omega), shB_out c (by omega), shB_out c (by omega), shB_out c (by omega), zb_01 (h12 _ (by omega)), show 1 + i = i + 1 by omega, shB_s, show i + 1 + 1 = 1 + (i + 1) by omega]
  · intro n
    show f1_removeFirst_l2 _ _ (n + 1) (nI (1 + (B - 1))) (wc σ b (shB c w (B - 1))) = _
    rw [f1_removeFirst_l2]
    simp (disch := first | omega | decide) only [lit, wc_m, wc_sm, hB9]
    rw [if_pos (nI_le (show B ≤ 1 + (B - 1) by omega) (by omega)), show nI B - nI 1 = nI (B - 1) by
      obtain ⟨z, rfl⟩ : ∃ z, B = z + 1 := ⟨B - 1, by omega⟩
      exact nI_s1 _]
end CLS3
