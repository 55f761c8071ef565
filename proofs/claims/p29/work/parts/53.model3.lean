/-! THE REFERENCE's TICK: bankruptcy, waiting, the tick -/
section MODEL3
def hdQ (q : QS) (m : Nat) : Nat → Nat
  | 0 => 0
  | n + 1 => if owQ q m (n + 1) ≤ owQ q m (hdQ q m n) then hdQ q m n else n + 1
theorem hdQ_le (q : QS) (m : Nat) : ∀ n, hdQ q m n ≤ n
  | 0 => Nat.le_refl 0
  | n + 1 => by
    unfold hdQ
    have := hdQ_le q m n
    by_cases e : owQ q m (n + 1) ≤ owQ q m (hdQ q m n)
    · rw [if_pos e]; omega
    · rw [if_neg e]; omega
def ow1Q (q : QS) (m to n : Nat) : QS := fun j => if (11 ≤ j ∧ j < 11 + n) ∧ q j = nI m then nI to else q j
def ow2Q (q : QS) (m n : Nat) : QS := fun j => if (27 ≤ j ∧ j < 63) ∧ (((j - 27) / 6 = m ∧ (j - 27) % 6 < n) ∨ ((j - 27) % 6 = m ∧ (j - 27) / 6 < n)) then 0 else q j
def brQ (q : QS) (m : Nat) : QS :=
  let q2 := ow2Q (ow1Q q m (hdQ q m (nM q - 1)) (nS q)) m 6
  qs (qs (qs q2 (63 + 38 * m + 0) 0) (63 + 38 * m + 7) 0) 6 (q 6 ||| (1 <<< (nI m &&& 31)))
theorem ow1Q_0 (q : QS) (m to : Nat) : ow1Q q m to 0 = q := by
  funext j
  exact if_neg fun h => by omega
theorem ow1Q_s (q : QS) (m to n : Nat) : qs (ow1Q q m to n) (11 + n) (if q (11 + n) = nI m then nI to else q (11 + n)) = ow1Q q m to (n + 1) := by
  funext j
  unfold qs ow1Q
  by_cases e : j = 11 + n
  · subst e
    rw [if_pos rfl]
    by_cases e2 : q (11 + n) = nI m
    · rw [if_pos e2, if_pos ⟨by omega, e2⟩]
    · rw [if_neg e2, if_neg (fun h => e2 h.2)]
  · rw [if_neg e]
    by_cases e2 : (11 ≤ j ∧ j < 11 + n) ∧ q j = nI m
    · rw [if_pos e2, if_pos ⟨by omega, e2.2⟩]
    · rw [if_neg e2, if_neg (fun h => e2 ⟨by omega, h.2⟩)]
theorem ow1Q_ge (q : QS) (m to n j : Nat) (h : ¬ (11 ≤ j ∧ j < 11 + n)) : ow1Q q m to n j = q j := if_neg fun z => h z.1
theorem ow2Q_0 (q : QS) (m : Nat) : ow2Q q m 0 = q := by
  funext j
  exact if_neg fun h => by omega
theorem ow2Q_s (q : QS) {m n : Nat} (hm : m < 6) (hn : n < 6) : qs (qs (ow2Q q m n) (27 + 6 * m + n) 0) (27 + 6 * n + m) 0 = ow2Q q m (n + 1) := by
  funext j
  unfold qs ow2Q
  by_cases e1 : j = 27 + 6 * n + m
  · rw [if_pos e1, if_pos (by omega)]
  · rw [if_neg e1]
    by_cases e2 : j = 27 + 6 * m + n
    · rw [if_pos e2, if_pos (by omega)]
    · rw [if_neg e2]
      by_cases e3 : (27 ≤ j ∧ j < 63) ∧ (((j - 27) / 6 = m ∧ (j - 27) % 6 < n) ∨ ((j - 27) % 6 = m ∧ (j - 27) / 6 < n))
      · rw [if_pos e3, if_pos (by omega)]
      · rw [if_neg e3, if_neg (by omega)]
theorem ow2Q_out (q : QS) (m n j : Nat) (h : ¬ (27 ≤ j ∧ j < 63)) : ow2Q q m n j = q j := if_neg fun z => h z.1
theorem br_l4 (σ : Mem) (q : QS) (hz : Sz q) {m N : Nat} (hm : m < 6) (hN : 20 < N) (k : Int32 → Mem → Option Mem) : f7_breaks_l4 (nI m) k N (nI 0) (nI 1) (wq σ q) = k (nI (hdQ q m (nM q - 1))) (wq σ q) := by
  obtain ⟨g1, g2, g3⟩ := hz.M
  refine lup (fun n (z : Int32 × Int32) => f7_breaks_l4 (nI m) k n z.1 z.2 (wq σ q)) (fun i => (nI (hdQ q m i), nI (i + 1))) (nM q - 1) _ ?_ ?_ (nM q - 1) 0 N (by omega) (by omega)
  · intro n i hi
    show f7_breaks_l4 _ _ (n + 1) (nI (hdQ q m i)) (nI (i + 1)) _ = f7_breaks_l4 _ _ n (nI (if owQ q m (i + 1) ≤ owQ q m (hdQ q m i) then hdQ q m i else i + 1)) (nI (i + 1 + 1)) _
    have hle := hdQ_le q m i
    rw [f7_breaks_l4]
    simp (disch := omega) only [lit, nmS, wq_get, clI, g1, f7_owed_s, bdS, nI_add]
    rw [if_neg (nI_ge (by omega) (by omega))]
    by_cases e : owQ q m (i + 1) ≤ owQ q m (hdQ q m i)
    · rw [if_pos e, if_pos e]
    · rw [if_neg e, if_neg e]
  · intro n
    show f7_breaks_l4 _ _ (n + 1) _ (nI (nM q - 1 + 1)) _ = _
    rw [f7_breaks_l4]
    simp (disch := omega) only [lit, wq_get, clI, g1]
    rw [if_pos (nI_le (by omega) (by omega))]
theorem br_l43 (σ : Mem) (q : QS) (hz : Sz q) {m to N : Nat} (hN : 20 < N) (k : Mem → Option Mem) : f7_breaks_l43 (nI m) (nI to) k N (nI 0) (wq σ q) = k (wq σ (ow1Q q m to (nS q))) := by
  obtain ⟨g1, g2, g3⟩ := hz.S
  have h9 := lup (fun n (z : Int32 × QS) => f7_breaks_l43 (nI m) (nI to) k n z.1 (wq σ z.2)) (fun i => (nI i, ow1Q q m to i)) (nS q) (k (wq σ (ow1Q q m to (nS q)))) ?_ ?_ (nS q) 0 N (by omega) (by omega)
  · rw [ow1Q_0] at h9; exact h9
  · intro n i hi
    show f7_breaks_l43 _ _ _ (n + 1) (nI i) (wq σ (ow1Q q m to i)) = f7_breaks_l43 _ _ _ n (nI (i + 1)) (wq σ (ow1Q q m to (i + 1)))
    rw [f7_breaks_l43]
    have e1 : ow1Q q m to i 1 = nI (nS q) := (ow1Q_ge q m to i 1 (by omega)).trans g1
    have e2 : ow1Q q m to i (11 + i) = q (11 + i) := ow1Q_ge q m to i (11 + i) (by omega)
    simp (disch := omega) only [lit, nmS, wq_get, clI, e1, nI_add, gd_ib, e2, wq_set]
    rw [if_neg (nI_ge hi (by omega)), ← ow1Q_s]
    by_cases e : q (11 + i) = nI m
    · rw [if_pos e, if_pos e]
    · rw [if_neg e, if_neg e]
  · intro n
    show f7_breaks_l43 _ _ _ (n + 1) (nI (nS q)) _ = _
    rw [f7_breaks_l43]
    have e1 : ow1Q q m to (nS q) 1 = nI (nS q) := (ow1Q_ge q m to (nS q) 1 (by omega)).trans g1
    simp (disch := omega) only [lit, wq_get, clI, e1]
    rw [if_pos (nI_le (Nat.le_refl _) (by omega))]
theorem br_l96 (σ : Mem) (q : QS) {m N : Nat} (hm : m < 6) (hN : 20 < N) (k : Mem → Option Mem) : f7_breaks_l96 (nI m) k N (nI 0) (wq σ q) = k (wq σ (ow2Q q m 6)) := by
  have h9 := lup (fun n (z : Int32 × QS) => f7_breaks_l96 (nI m) k n z.1 (wq σ z.2)) (fun i => (nI i, ow2Q q m i)) 6 (k (wq σ (ow2Q q m 6))) ?_ ?_ 6 0 N (by omega) (by omega)
  · rw [ow2Q_0] at h9; exact h9
  · intro n i hi
    show f7_breaks_l96 _ _ (n + 1) (nI i) (wq σ (ow2Q q m i)) = f7_breaks_l96 _ _ n (nI (i + 1)) (wq σ (ow2Q q m (i + 1)))
    rw [f7_breaks_l96]
    simp (disch := omega) only [lit, nmS, clI, pk_mul, nI_add, gd_ib, wq_set]
    rw [if_neg (nI_ge hi (by omega)), ← ow2Q_s q hm hi]
    rfl
  · intro n
    show f7_breaks_l96 _ _ (n + 1) (nI 6) _ = _
    rw [f7_breaks_l96]
    simp only [lit]
    rw [if_pos (nI_le (Nat.le_refl _) (by omega))]
theorem f7_breaks_s (σ : Mem) (q : QS) (hz : Sz q) {m : Nat} (hm : m < 6) : f7_breaks (nI m) (wq σ q) = some (wq σ (brQ q m)) := by
  have hN : 20 < FU := by decide
  unfold f7_breaks
  generalize FU = N at hN ⊢
  simp (disch := omega) only [lit, nmS, br_l4 σ q hz hm hN, br_l43 σ q hz hN, br_l96 σ _ hm hN, f7_at_s, bdS, gd_ib, clI, wq_get, wq_set]
  unfold brQ
  rw [qs_ne _ _ (show 6 ≠ 63 + 38 * m + 7 by omega), qs_ne _ _ (show 6 ≠ 63 + 38 * m + 0 by omega), ow2Q_out _ _ _ _ (by omega), ow1Q_ge _ _ _ _ _ (by omega)]
  rfl
/-- who had something to do, but not the turn, has waited longer -/
def wtV (q : QS) (p : Nat → Bool) (w : Option Nat) (m : Nat) : Int32 := if p m = true ∧ w ≠ some m then q (63 + 38 * m + 1) + 1 else 0
def wt1 (q : QS) (p : Nat → Bool) (w : Option Nat) (m : Nat) : QS :=
  qs (qs q (63 + 38 * m + 1) (wtV q p w m)) (63 + 38 * m + 2) (if wtV q p w m ≤ q (63 + 38 * m + 2) then q (63 + 38 * m + 2) else wtV q p w m)
def wtN (q : QS) (p : Nat → Bool) (w : Option Nat) : Nat → QS
  | 0 => q
  | n + 1 => wt1 (wtN q p w n) p w n
theorem wtN_at (q : QS) (p : Nat → Bool) (w : Option Nat) {j : Nat} : ∀ n, (∀ m, m < n → j ≠ 63 + 38 * m + 1 ∧ j ≠ 63 + 38 * m + 2) → wtN q p w n j = q j
  | 0, _ => rfl
  | n + 1, h => by
    show wt1 (wtN q p w n) p w n j = _
    unfold wt1
    rw [qs_ne _ _ (h n (by omega)).2, qs_ne _ _ (h n (by omega)).1]
    exact wtN_at q p w n fun m hm => h m (by omega)
theorem tk_l55 (σ : Mem) (q : QS) {M N : Nat} (hM : q 0 = nI M) (hM2 : M ≤ 6) (hN : 20 < N) (p : Nat → Bool) (w : Option Nat) (hw : ∀ k, w = some k → k < 6) (k : Mem → Option (Int32 × Mem)) :
    f7_tick_l55 (mk p M) (oI w) k N (nI 0) (wq σ q) = k (wq σ (wtN q p w M)) := by
  refine lup (fun n (z : Int32 × QS) => f7_tick_l55 (mk p M) (oI w) k n z.1 (wq σ z.2)) (fun i => (nI i, wtN q p w i)) M _ ?_ ?_ M 0 N (by omega) (by omega)
  · intro n i hi
    show f7_tick_l55 _ _ _ (n + 1) (nI i) (wq σ (wtN q p w i)) = f7_tick_l55 _ _ _ n (nI (i + 1)) (wq σ (wt1 (wtN q p w i) p w i))
    generalize hr : wtN q p w i = r
    have hr0 : r 0 = nI M := by rw [← hr, wtN_at q p w i (fun m hm => by omega)]; exact hM
    rw [f7_tick_l55]
    simp (disch := omega) only [lit, nmS, wq_get, clI, hr0, f7_at_s, f7_of_s, bdS, gd_ib, wq_set, nI_add]
    rw [if_neg (nI_ge hi (by omega))]
    have hz : ∀ v : Int32, (if mQ (qs r (63 + 38 * i + 1) v) i 1 ≤ mQ (qs r (63 + 38 * i + 1) v) i 2 then f7_tick_l55 (mk p M) (oI w) k n (nI (i + 1)) (wq σ (qs (qs r (63 + 38 * i + 1) v) (63 + 38 * i + 2) (mQ (qs r (63 + 38 * i + 1) v) i 2))) else f7_tick_l55 (mk p M) (oI w) k n (nI (i + 1)) (wq σ (qs (qs r (63 + 38 * i + 1) v) (63 + 38 * i + 2) (mQ (qs r (63 + 38 * i + 1) v) i 1))))
        = f7_tick_l55 (mk p M) (oI w) k n (nI (i + 1)) (wq σ (qs (qs r (63 + 38 * i + 1) v) (63 + 38 * i + 2) (if v ≤ r (63 + 38 * i + 2) then r (63 + 38 * i + 2) else v))) := by
      intro v
      have e1 : mQ (qs r (63 + 38 * i + 1) v) i 1 = v := qs_same r _ v
      have e2 : mQ (qs r (63 + 38 * i + 1) v) i 2 = r (63 + 38 * i + 2) := qs_ne r v (by omega)
      rw [e1, e2]
      by_cases e : v ≤ r (63 + 38 * i + 2)
      · rw [if_pos e, if_pos e]
      · rw [if_neg e, if_neg e]
    simp only [hz]
    unfold wt1
    by_cases e : p i = true
    · have hb := (mk_bit (p := p) hM2 (show i < 6 by omega)).mpr ⟨hi, e⟩
      simp only [lit] at hb
      rw [if_pos hb]
      by_cases e2 : w = some i
      · rw [if_pos (show nI i = oI w by rw [e2]; rfl), show wtV r p w i = nI 0 from if_neg (fun z => z.2 e2)]
      · have e3 : ¬ nI i = oI w := by
          intro z
          cases w with
          | none => exact absurd z (by
              have : oI none < 0 := by decide
              intro y
              rw [← y] at this
              exact nI_pos (show i < 2 ^ 31 by omega) this)
          | some j =>
            have := hw j rfl
            exact e2 (congrArg some ((nI_eq (by omega) (by omega)).mp z.symm))
        rw [if_neg e3, show wtV r p w i = mQ r i 1 + nI 1 from if_pos ⟨e, e2⟩]
    · have hb : ¬ ((mk p M >>> (nI i &&& 31)) &&& 1 = 1) := fun z => e ((mk_bit hM2 (by omega)).mp z).2
      simp only [lit] at hb
      rw [if_neg hb, show wtV r p w i = nI 0 from if_neg (fun z => e z.1)]
  · intro n
    show f7_tick_l55 _ _ _ (n + 1) (nI M) (wq σ (wtN q p w M)) = _
    have hr0 : wtN q p w M 0 = nI M := by rw [wtN_at q p w M (fun m hm => by omega)]; exact hM
    rw [f7_tick_l55]
    simp (disch := omega) only [lit, wq_get, clI, hr0]
    rw [if_pos (nI_le (Nat.le_refl _) (by omega))]
/-- the bankruptcies of a tick -/
def bkN (q : QS) : Nat → QS
  | 0 => q
  | n + 1 => if bkQ (bkN q n) n = false ∧ ¬ dbQ (bkN q n) n ≤ nI 4 * slQ (bkN q n) (nS (bkN q n)) n then brQ (bkN q n) n else bkN q n
theorem tk_l149 (σ : Mem) (q : QS) {M N : Nat} (hM2 : M ≤ 6) (hN : 20 < N) (hz : ∀ i, i ≤ M → Sz (bkN q i) ∧ bkN q i 0 = nI M) (k : Mem → Option (Int32 × Mem)) : f7_tick_l149 k N (nI 0) (wq σ q) = k (wq σ (bkN q M)) := by
  refine lup (fun n (z : Int32 × QS) => f7_tick_l149 k n z.1 (wq σ z.2)) (fun i => (nI i, bkN q i)) M _ ?_ ?_ M 0 N (by omega) (by omega)
  · intro n i hi
    show f7_tick_l149 _ (n + 1) (nI i) (wq σ (bkN q i)) = f7_tick_l149 _ n (nI (i + 1)) (wq σ (if bkQ (bkN q i) i = false ∧ ¬ dbQ (bkN q i) i ≤ nI 4 * slQ (bkN q i) (nS (bkN q i)) i then brQ (bkN q i) i else bkN q i))
    obtain ⟨hz1, h0⟩ := hz i (by omega)
    generalize bkN q i = r at hz1 h0 ⊢
    rw [f7_tick_l149]
    simp (disch := omega) only [lit, nmS, wq_get, clI, h0, f7_isBankrupt_s, bdS, nI_add]
    rw [if_neg (nI_ge hi (by omega))]
    cases hb : bkQ r i with
    | true =>
      rw [if_neg (show ¬ bI true = nI 0 by decide), if_neg (fun z => by cases z.1)]
    | false =>
      rw [if_pos (show bI false = nI 0 by decide), f7_debts_s σ r (by omega), bdS, f7_slotsOf_s σ r hz1, bdS]
      by_cases e : dbQ r i ≤ nI 4 * slQ r (nS r) i
      · rw [if_pos e, if_neg (fun z => z.2 e)]
      · rw [if_neg e, if_pos ⟨rfl, e⟩, f7_breaks_s σ r hz1 (by omega), bvS]
  · intro n
    show f7_tick_l149 _ (n + 1) (nI M) (wq σ (bkN q M)) = _
    obtain ⟨hz1, h0⟩ := hz M (Nat.le_refl M)
    rw [f7_tick_l149]
    simp (disch := omega) only [lit, wq_get, clI, h0]
    rw [if_pos (nI_le (Nat.le_refl _) (by omega))]
theorem tk_l4 (σ : Mem) (q : QS) (hz : Sz q) {N : Nat} (hN : 20 < N) (k : Int32 → Mem → Option (Int32 × Mem)) : f7_tick_l4 k N (nI 0) (nI 0) (wq σ q) = k (mk (busyQ q) (nM q)) (wq σ q) := by
  obtain ⟨g1, g2, g3⟩ := hz.M
  refine lup (fun n (z : Int32 × Int32) => f7_tick_l4 k n z.1 z.2 (wq σ q)) (fun i => (mk (busyQ q) i, nI i)) (nM q) _ ?_ ?_ (nM q) 0 N (by omega) (by omega)
  · intro n i hi
    show f7_tick_l4 _ (n + 1) (mk (busyQ q) i) (nI i) _ = f7_tick_l4 _ n (mk (busyQ q) i ||| (if busyQ q i = true then 1 <<< (nI i &&& 31) else 0)) (nI (i + 1)) _
    rw [f7_tick_l4]
    simp (disch := omega) only [lit, nmS, wq_get, clI, g1, f7_hasToDo_s σ q hz, bdS, nI_add]
    rw [if_neg (nI_ge hi (by omega))]
    cases hb : busyQ q i with
    | true => rw [if_neg (show ¬ bI true = nI 0 by decide), if_pos rfl]
    | false => rw [if_pos (show bI false = nI 0 by decide), if_neg (fun z => by cases z)]
  · intro n
    show f7_tick_l4 _ (n + 1) _ (nI (nM q)) _ = _
    rw [f7_tick_l4]
    simp (disch := omega) only [lit, wq_get, clI, g1]
    rw [if_pos (nI_le (Nat.le_refl _) (by omega))]
def ownT (q : QS) : Nat := (q (11 + (q 2).toNatClampNeg % nS q)).toNatClampNeg
def tk1 (q : QS) : Option Nat × QS := turnQ q (ownT q) (busyQ q)
def tk2 (q : QS) : QS := match (tk1 q).1 with
  | some w => usQ (tk1 q).2 w
  | none => (tk1 q).2
def tk3 (q : QS) : QS := wtN (tk2 q) (busyQ q) (tk1 q).1 (nM q)
def tk4 (q : QS) : QS := bkN (tk3 q) (nM q)
def tkQ (q : QS) : QS := qs (qs (qs (tk4 q) 3 (tk4 q 3 + if (tk1 q).1 = none then 1 else 0)) 5 (oN (tk1 q).1)) 2 (tk4 q 2 + 1)
theorem f7_tick_s (σ : Mem) (q : QS) (hz : Sz q) {T : Nat} (hT : q 2 = nI T) (hT2 : T < 2 ^ 30) (ho : ∃ o, o < nM q ∧ q (11 + T % nS q) = nI o) (hw : ∀ k, (tk1 q).1 = some k → k < 6 ∧ (rdQ (tk1 q).2 k (nA (tk1 q).2 k) = none → ∃ s, s < 4 ∧ (tk1 q).2 (63 + 38 * k + 8) = nI s)) (hz1 : Sz (tk1 q).2) (h2 : tk2 q 0 = q 0)
    (h4 : ∀ i, i ≤ nM q → Sz (bkN (tk3 q) i) ∧ bkN (tk3 q) i 0 = nI (nM q)) : f7_tick (wq σ q) = some (oI (tk1 q).1, wq σ (tkQ q)) := by
  obtain ⟨g1, g2, g3⟩ := hz.M
  obtain ⟨o, ho1, ho2⟩ := ho
  have hoT : ownT q = o := by
    unfold ownT
    rw [hT, clI (by omega), ho2, clI (by omega)]
  have ht := f7_turn_s σ q hz hT hT2 ho2 ho1 (busyQ q)
  have ht2 : turnQ q o (busyQ q) = tk1 q := by unfold tk1; rw [hoT]
  rw [ht2] at ht
  have hN : 20 < FU := by decide
  unfold f7_tick
  generalize FU = N at hN ⊢
  simp only [lit, nmS]
  rw [tk_l4 σ q hz hN, ht, bdS]
  have hfin : ∀ r : QS, r = tk2 q → f7_tick_l55 (mk (busyQ q) (nM q)) (oI (tk1 q).1) (fun s4 => f7_tick_l149 (fun s5 => if nI 0 ≤ oI (tk1 q).1 then (if nI 0 ≤ oI (tk1 q).1 then some (oI (tk1 q).1, ms (ms (ms s5 20 0 (nI 3).toNatClampNeg (s5 20 0 (nI 3).toNatClampNeg + nI 0)) 20 0 (nI 5).toNatClampNeg (oI (tk1 q).1)) 20 0 (nI 2).toNatClampNeg (ms (ms s5 20 0 (nI 3).toNatClampNeg (s5 20 0 (nI 3).toNatClampNeg + nI 0)) 20 0 (nI 5).toNatClampNeg (oI (tk1 q).1) 20 0 (nI 2).toNatClampNeg + nI 1)) else some (oI (tk1 q).1, ms (ms (ms s5 20 0 (nI 3).toNatClampNeg (s5 20 0 (nI 3).toNatClampNeg + nI 0)) 20 0 (nI 5).toNatClampNeg (-nI 9)) 20 0 (nI 2).toNatClampNeg (ms (ms s5 20 0 (nI 3).toNatClampNeg (s5 20 0 (nI 3).toNatClampNeg + nI 0)) 20 0 (nI 5).toNatClampNeg (-nI 9) 20 0 (nI 2).toNatClampNeg + nI 1))) else (if nI 0 ≤ oI (tk1 q).1 then some (oI (tk1 q).1, ms (ms (ms s5 20 0 (nI 3).toNatClampNeg (s5 20 0 (nI 3).toNatClampNeg + nI 1)) 20 0 (nI 5).toNatClampNeg (oI (tk1 q).1)) 20 0 (nI 2).toNatClampNeg (ms (ms s5 20 0 (nI 3).toNatClampNeg (s5 20 0 (nI 3).toNatClampNeg + nI 1)) 20 0 (nI 5).toNatClampNeg (oI (tk1 q).1) 20 0 (nI 2).toNatClampNeg + nI 1)) else some (oI (tk1 q).1, ms (ms (ms s5 20 0 (nI 3).toNatClampNeg (s5 20 0 (nI 3).toNatClampNeg + nI 1)) 20 0 (nI 5).toNatClampNeg (-nI 9)) 20 0 (nI 2).toNatClampNeg (ms (ms s5 20 0 (nI 3).toNatClampNeg (s5 20 0 (nI 3).toNatClampNeg + nI 1)) 20 0 (nI 5).toNatClampNeg (-nI 9) 20 0 (nI 2).toNatClampNeg + nI 1)))) N (nI 0) s4) N (nI 0) (wq σ r) = some (oI (tk1 q).1, wq σ (tkQ q)) := by
    intro r hr
    subst hr
    rw [tk_l55 σ (tk2 q) (h2.trans g1) g2 hN _ _ (fun k hk => (hw k hk).1)]
    change f7_tick_l149 _ N (nI 0) (wq σ (tk3 q)) = _
    rw [tk_l149 σ (tk3 q) g2 hN h4]
    change (if nI 0 ≤ oI (tk1 q).1 then _ else _) = _
    unfold tkQ
    change _ = some (oI (tk1 q).1, wq σ (qs (qs (qs (tk4 q) 3 (tk4 q 3 + if (tk1 q).1 = none then 1 else 0)) 5 (oN (tk1 q).1)) 2 (tk4 q 2 + 1)))
    have hx : bkN (tk3 q) (nM q) = tk4 q := rfl
    rw [hx]
    generalize tk4 q = r
    simp (disch := omega) only [clI, wq_get, wq_set]
    cases hq : (tk1 q).1 with
    | none =>
      rw [if_neg (show ¬ nI 0 ≤ oI none by decide), if_neg (show ¬ nI 0 ≤ oI none by decide), if_pos rfl, qs_ne _ _ (show 2 ≠ 5 by decide), qs_ne _ _ (show 2 ≠ 3 by decide)]
      rfl
    | some k =>
      have hk := (hw k hq).1
      have hle : nI 0 ≤ oI (some k) := nI_le (Nat.zero_le k) (by omega)
      rw [if_pos hle, if_pos hle, if_neg (fun z => by cases z), qs_ne _ _ (show 2 ≠ 5 by decide), qs_ne _ _ (show 2 ≠ 3 by decide)]
      rfl
  cases hq : (tk1 q).1 with
  | none =>
    rw [if_pos (show oI none < nI 0 by decide)]
    have h9 := hfin (tk1 q).2 (by unfold tk2; rw [hq])
    rw [hq] at h9
    exact h9
  | some k =>
    obtain ⟨hk, hs⟩ := hw k hq
    rw [if_neg (show ¬ oI (some k) < nI 0 from nI_pos (by omega))]
    have hu := f7_uses_s σ (tk1 q).2 hz1 hk hs
    have hu2 : f7_uses (oI (some k)) (wq σ (tk1 q).2) = some (wq σ (usQ (tk1 q).2 k)) := hu
    rw [hu2, bvS]
    have h9 := hfin (usQ (tk1 q).2 k) (by unfold tk2; rw [hq])
    rw [hq] at h9
    exact h9
end MODEL3
