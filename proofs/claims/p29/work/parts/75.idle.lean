/-! A BUS THAT IDLES FOR GOOD -/
section IDLE
variable {T : Nat} {q r : QS}
def brks (q : QS) (m : Nat) : Prop := bkQ q m = false ∧ ¬ dbQ q m ≤ nI 4 * slQ q (nS q) m
def NB (q : QS) : Prop := ∀ m, m < nM q → ¬ brks q m
def sumN (f : Nat → Nat) : Nat → Nat
  | 0 => 0
  | n + 1 => sumN f n + f n
theorem sumN_le {f g : Nat → Nat} : ∀ {n : Nat}, (∀ i, i < n → f i ≤ g i) → sumN f n ≤ sumN g n
  | 0, _ => Nat.le_refl 0
  | n + 1, h => Nat.add_le_add (sumN_le fun i hi => h i (by omega)) (h n (by omega))
theorem sumN_max {f : Nat → Nat} {B : Nat} : ∀ {n : Nat}, (∀ i, i < n → f i ≤ B) → sumN f n ≤ n * B
  | 0, _ => Nat.zero_le _
  | n + 1, h => by
    have h1 := sumN_max (n := n) fun i hi => h i (by omega)
    have h2 := h n (by omega)
    rw [Nat.succ_mul]; exact Nat.add_le_add h1 h2
theorem sumF_nI {f : Nat → Int32} {g : Nat → Nat} : ∀ {n : Nat}, (∀ i, i < n → f i = nI (g i)) → sumF f n = nI (sumN g n)
  | 0, _ => rfl
  | n + 1, h => by
    show sumF f n + f n = nI (sumN g n + g n)
    rw [sumF_nI fun i hi => h i (by omega), h n (by omega), nI_add]
def dN (q : QS) (m : Nat) : Nat := sumN (fun b => (owQ q m b).toNatClampNeg) 6
def slN (q : QS) (m n : Nat) : Nat := sumN (fun s => if q (11 + s) = nI m then 1 else 0) n
theorem Wb.dn {Bd Ba Bw : Nat} (h : Wb Bd Ba Bw q) (hB : Bd < 2 ^ 28) {a b : Nat} (ha : a < 6) (hb : b < 6) : owQ q a b = nI (owQ q a b).toNatClampNeg ∧ (owQ q a b).toNatClampNeg ≤ Bd := by
  obtain ⟨d, h1, h2⟩ := h.debt a b ha hb
  rw [h2, clI (by omega)]
  exact ⟨rfl, h1⟩
theorem Wb.dN {Bd Ba Bw m : Nat} (h : Wb Bd Ba Bw q) (hB : Bd < 2 ^ 28) (hm : m < 6) : dbQ q m = nI (dN q m) ∧ dN q m < 2 ^ 31 :=
  ⟨sumF_nI fun i hi => (h.dn hB hm hi).1, by
    have h9 := sumN_max (n := 6) (f := fun b => (owQ q m b).toNatClampNeg) (B := Bd) (fun i hi => (h.dn hB hm hi).2)
    show sumN (fun b => (owQ q m b).toNatClampNeg) 6 < _
    omega⟩
theorem slN_is (q : QS) (m n : Nat) : slQ q n m = nI (slN q m n) := sumF_nI (f := fun s => if q (11 + s) = nI m then 1 else 0) (g := fun s => if q (11 + s) = nI m then 1 else 0) fun s _ => by
  by_cases e : q (11 + s) = nI m
  · rw [if_pos e, if_pos e]; rfl
  · rw [if_neg e, if_neg e]; rfl
theorem slN_le (q : QS) (m n : Nat) : slN q m n ≤ n := by
  have h9 := sumN_max (n := n) (f := fun s => if q (11 + s) = nI m then 1 else 0) (B := 1) (fun i _ => by
    by_cases e : q (11 + i) = nI m
    · rw [if_pos e]; omega
    · rw [if_neg e]; omega)
  show sumN _ n ≤ n
  omega
theorem brks_iff {Bd Ba Bw m : Nat} (h : Wb Bd Ba Bw q) (hB : Bd < 2 ^ 28) (hm : m < 6) : brks q m ↔ bkQ q m = false ∧ 4 * slN q m (nS q) < dN q m := by
  have h1 := h.dN hB hm
  have h2 := slN_le q m (nS q)
  have h3 := h.sz.S
  unfold brks
  rw [h1.1, slN_is, pk_mul, nI_leI h1.2 (by omega), Nat.not_le]
theorem brQ_ow (q : QS) {m a b : Nat} (hS : nS q ≤ 16) (hm : m < 6) (ha : a < 6) (hb : b < 6) : owQ (brQ q m) a b = if a = m ∨ b = m then 0 else owQ q a b := by
  show brQ q m (27 + 6 * a + b) = _
  unfold brQ
  rw [qs_ne _ _ (by omega), qs_ne _ _ (by omega), qs_ne _ _ (by omega)]
  unfold ow2Q
  by_cases z : a = m ∨ b = m
  · rw [if_pos z, if_pos (by omega)]
  · rw [if_neg z, if_neg (by omega), ow1Q_ge _ _ _ _ _ (by omega)]
    rfl
theorem brQ_own (q : QS) {m s : Nat} (hS : nS q ≤ 16) (hs : s < nS q) : brQ q m (11 + s) = if q (11 + s) = nI m then nI (hdQ q m (nM q - 1)) else q (11 + s) := by
  unfold brQ
  rw [qs_ne _ _ (by omega), qs_ne _ _ (by omega), qs_ne _ _ (by omega), ow2Q_out _ _ _ _ (by omega)]
  unfold ow1Q
  by_cases z : q (11 + s) = nI m
  · rw [if_pos z, if_pos ⟨by omega, z⟩]
  · rw [if_neg z, if_neg (fun y => z y.2)]
theorem bk_nb {Bd Ba Bw : Nat} (h : Wb Bd Ba Bw r) (hB : Bd < 2 ^ 28) : ∀ n, n ≤ nM r → ∀ m, m < n → ¬ brks (bkN r n) m
  | 0, _, m, hm => absurd hm (Nat.not_lt_zero m)
  | n + 1, hn, m, hm => by
    have hM := h.sz.M
    obtain ⟨hu, e0⟩ := h.bks n (by omega)
    obtain ⟨hv, ev⟩ := h.bks (n + 1) hn
    have ih := bk_nb h hB n (by omega)
    have hS := hu.sz.S
    have eM : nM (bkN r n) = nM r := nM_of e0
    by_cases z : bkQ (bkN r n) n = false ∧ ¬ dbQ (bkN r n) n ≤ nI 4 * slQ (bkN r n) (nS (bkN r n)) n
    · have eN : bkN r (n + 1) = brQ (bkN r n) n := if_pos z
      rw [eN] at hv ⊢
      generalize bkN r n = u at hu hv ih hS eM z
      obtain ⟨p, hp⟩ := hu.bank
      intro hb
      have hb1 := hb.1
      rw [bkQ_br (r := brQ u n) (m := n) (m2 := m) hp (by omega) (by omega) (by omega) (by unfold brQ; exact qs_same _ _ _), Bool.or_eq_false_iff] at hb1
      have hmn : m < n := by
        have := of_decide_eq_false hb1.2
        omega
      apply ih m hmn
      have hb2 := ((brks_iff hv hB (by omega)).mp hb).2
      refine (brks_iff hu hB (by omega)).mpr ⟨hb1.1, ?_⟩
      have h1 : dN (brQ u n) m ≤ dN u m := sumN_le fun b hb => by
        rw [brQ_ow u hS.2.1 (by omega) (by omega) hb]
        by_cases y : m = n ∨ b = n
        · rw [if_pos y]; exact Nat.zero_le _
        · rw [if_neg y]; exact Nat.le_refl _
      have eS : nS (brQ u n) = nS u := nS_of (brQ_out u n (by omega))
      have h2 : slN u m (nS u) ≤ slN (brQ u n) m (nS (brQ u n)) := by
        rw [eS]
        refine sumN_le fun s hs => ?_
        rw [brQ_own u hS.2.1 hs]
        by_cases y : u (11 + s) = nI m
        · have y2 : ¬ u (11 + s) = nI n := fun w => by
            rw [y] at w
            have := (nI_eq (by omega) (by omega)).mp w
            omega
          rw [if_pos y, if_neg y2, if_pos y]
          exact Nat.le_refl _
        · rw [if_neg y]; exact Nat.zero_le _
      omega
    · have eN : bkN r (n + 1) = bkN r n := if_neg z
      rw [eN]
      rcases Nat.lt_or_ge m n with y | y
      · exact ih m y
      · obtain rfl : m = n := by omega
        exact z
theorem bk_no (h : NB r) : ∀ n, n ≤ nM r → bkN r n = r
  | 0, _ => rfl
  | n + 1, hn => by
    have ih := bk_no h n (by omega)
    have z : ¬ (bkQ (bkN r n) n = false ∧ ¬ dbQ (bkN r n) n ≤ nI 4 * slQ (bkN r n) (nS (bkN r n)) n) := by
      rw [ih]; exact h n (by omega)
    exact (if_neg z).trans ih
/-- alike but for ticks, idle ticks, the last turn, counts of turns, waits -/
def Co (q r : QS) : Prop := St q r ∧ r 4 = q 4 ∧ ∀ a b, a < 6 → b < 6 → owQ r a b = owQ q a b
theorem Co.refl (q : QS) : Co q q := ⟨⟨rfl, rfl, rfl, fun _ _ _ => rfl, fun _ _ _ _ => rfl⟩, rfl, fun _ _ _ _ => rfl⟩
theorem Co.trans {s : QS} (h : Co q r) (g : Co r s) : Co q s :=
  ⟨⟨g.1.1.trans h.1.1, g.1.2.1.trans h.1.2.1, g.1.2.2.1.trans h.1.2.2.1, fun i h1 h2 => (g.1.2.2.2.1 i h1 h2).trans (h.1.2.2.2.1 i h1 h2), fun m j h1 h2 => (g.1.2.2.2.2 m j h1 h2).trans (h.1.2.2.2.2 m j h1 h2)⟩, g.2.1.trans h.2.1, fun a b h1 h2 => (g.2.2 a b h1 h2).trans (h.2.2 a b h1 h2)⟩
theorem Co.symm (h : Co q r) : Co r q :=
  ⟨⟨h.1.1.symm, h.1.2.1.symm, h.1.2.2.1.symm, fun i h1 h2 => (h.1.2.2.2.1 i h1 h2).symm, fun m j h1 h2 => (h.1.2.2.2.2 m j h1 h2).symm⟩, h.2.1.symm, fun a b h1 h2 => (h.2.2 a b h1 h2).symm⟩
theorem Co.M (h : Co q r) : nM r = nM q := nM_of h.1.1
theorem Co.S (h : Co q r) : nS r = nS q := nS_of h.1.2.1
theorem Co.A (h : Co q r) {m : Nat} (hm : m < 6) : nA r m = nA q m := nA_of (h.1.2.2.2.2 m 7 hm (Or.inr (by omega)))
theorem Co.db (h : Co q r) {m : Nat} (hm : m < 6) : dbQ r m = dbQ q m := sumF_congr fun i hi => h.2.2 m i hm hi
theorem Co.sl (h : Co q r) (hS : nS q ≤ 16) (m : Nat) : slQ r (nS r) m = slQ q (nS q) m := by
  rw [h.S]
  exact sumF_congr fun s hs => by rw [h.1.2.2.2.1 (11 + s) (by omega) (by omega)]
theorem Co.nb (h : Co q r) (hS : nS q ≤ 16) (hM : nM q ≤ 6) (hn : NB q) : NB r := by
  intro m hm hb
  rw [h.M] at hm
  apply hn m hm
  have h1 := hb.1
  have h2 := hb.2
  rw [bkQ_of h.1.2.2.1] at h1
  rw [h.db (by omega), h.sl hS] at h2
  exact ⟨h1, h2⟩
theorem Co.tk (q : QS) : Co (tk4 q) (tkQ q) := by
  have e : ∀ i, i ≠ 2 → i ≠ 3 → i ≠ 5 → tkQ q i = tk4 q i := fun i h1 h2 h3 => (qs_ne _ _ h1).trans ((qs_ne _ _ h3).trans (qs_ne _ _ h2))
  exact ⟨⟨e 0 (by omega) (by omega) (by omega), e 1 (by omega) (by omega) (by omega), e 6 (by omega) (by omega) (by omega), fun i h1 h2 => e i (by omega) (by omega) (by omega), fun m j h1 h2 => e _ (by omega) (by omega) (by omega)⟩, e 4 (by omega) (by omega) (by omega), fun a b h1 h2 => e _ (by omega) (by omega) (by omega)⟩
theorem idle_iff (q : QS) (o : Nat) (p : Nat → Bool) : (turnQ q o p).1 = none ↔ (crQ q o p = none ∧ p o = false ∧ boQ q p = none) := by
  unfold turnQ
  cases hc : crQ q o p with
  | some c => exact ⟨fun z => (nomatch z), fun z => (nomatch z.1)⟩
  | none =>
    dsimp only
    cases hp : p o with
    | true => exact ⟨fun z => (nomatch z), fun z => (nomatch z.2.1)⟩
    | false =>
      rw [if_neg (fun z => nomatch z)]
      cases hb : boQ q p with
      | some m => exact ⟨fun z => (nomatch z), fun z => (nomatch z.2.2)⟩
      | none => exact ⟨fun _ => ⟨rfl, rfl, rfl⟩, fun _ => rfl⟩
theorem idle_same {q : QS} {o : Nat} {p : Nat → Bool} (h : (turnQ q o p).1 = none) : (turnQ q o p).2 = q := by
  obtain ⟨h1, h2, h3⟩ := (idle_iff q o p).mp h
  unfold turnQ
  rw [h1]
  dsimp only
  rw [if_neg (by rw [h2]; exact fun z => nomatch z), h3]
theorem idle_tk3 (hM : nM q ≤ 6) (hi : (tk1 q).1 = none) : Co q (tk3 q) := by
  have e2 : tk2 q = q := by
    unfold tk2
    rw [hi]
    exact idle_same hi
  have e : ∀ i, (∀ m, m < nM q → i ≠ 63 + 38 * m + 1 ∧ i ≠ 63 + 38 * m + 2) → tk3 q i = q i := fun i h => by
    unfold tk3
    rw [e2]
    exact wtN_at _ _ _ _ h
  exact ⟨⟨e 0 (fun m hm => by omega), e 1 (fun m hm => by omega), e 6 (fun m hm => by omega), fun i h1 h2 => e i (fun m hm => by omega), fun m j h1 h2 => e _ (fun m hm => by omega)⟩, e 4 (fun m hm => by omega), fun a b h1 h2 => e _ (fun m hm => by omega)⟩
theorem idle_co (hz : Sz q) (hn : NB q) (hi : (tk1 q).1 = none) : Co q (tkQ q) := by
  have hM := hz.M
  have hS := hz.S
  have h3 := idle_tk3 hM.2.1 hi
  have h4 : tk4 q = tk3 q := bk_no (h3.nb hS.2.1 hM.2.1 hn) (nM q) (by rw [h3.M]; exact Nat.le_refl _)
  exact (h4 ▸ h3 : Co q (tk4 q)).trans (Co.tk q)
theorem nb_tick (h : Wb T T T q) (hT : q 2 = nI T) (hT2 : T < 2 ^ 27) : NB (tkQ q) := by
  have ht := h.tick hT (by omega)
  have hM := h.sz.M
  have e3 : nM (tk3 q) = nM q := nM_of (tk4_out h hT (by omega) (i := 0) (by omega)).2.1
  have h4 := (ht.wb4 (nM q) (Nat.le_refl _)).1
  have e4 : nM (tk4 q) = nM q := nM_of (tk4_out h hT (by omega) (i := 0) (by omega)).1
  exact (Co.tk q).nb h4.sz.S.2.1 h4.sz.M.2.1 (fun m hm => bk_nb ht.wb3 (by omega) (nM q) (by omega) m (by rw [e4] at hm; exact hm))
theorem bestN_no {may : Nat → Bool} {f : Nat → Int32} : ∀ {n : Nat}, (∀ j, j < n → may j = false) → bestN may f n = none
  | 0, _ => rfl
  | n + 1, h => by
    have e : bestN may f (n + 1) = bestN may f n := if_neg (by rw [h n (by omega)]; exact fun z => nomatch z)
    rw [e]
    exact bestN_no fun j hj => h j (by omega)
/-- all answers are ready -/
def Rd (q : QS) : Prop := ∀ m k, m < 6 → k < nA q m → mQ q m (26 + k) ≤ q 2
theorem Rd.busy (h : Rd q) {m : Nat} (hm : m < 6) : busyQ q m = (decide (0 < mQ q m 0) || decide (0 < nA q m)) := by
  unfold busyQ
  congr 1
  rcases Nat.eq_zero_or_pos (nA q m) with z | z
  · rw [z]; rfl
  · have e : rdQ q m (nA q m) = some 0 := firstN_is z (decide_eq_true (h m 0 hm z)) (fun j hj => absurd hj (Nat.not_lt_zero j))
    rw [e, decide_eq_true z]; rfl
theorem Co.idle (h : Co q r) (hz : Sz q) (hq : Rd q) (hr : Rd r) (ho : ownT r = ownT q) (ho2 : ownT q < 6) (hi : (tk1 q).1 = none) : (tk1 r).1 = none := by
  have hM := hz.M
  have eb : ∀ m, m < 6 → busyQ r m = busyQ q m := fun m hm => by
    rw [hr.busy hm, hq.busy hm, h.A hm, h.1.2.2.2.2 m 0 hm (Or.inl rfl)]
  obtain ⟨h1, h2, h3⟩ := (idle_iff _ _ _).mp hi
  refine (idle_iff _ _ _).mpr ⟨?_, ?_, ?_⟩
  · rw [← h1, ho]
    unfold crQ
    rw [h.M]
    exact bestN_congr (fun i hi => by rw [h.2.2 _ i ho2 (by omega), eb i (by omega)]) (fun i hi => h.2.2 _ i ho2 (by omega))
  · rw [ho, eb _ ho2]; exact h2
  · refine bestN_no fun j hj => ?_
    rw [h.M] at hj
    have h4 := bestN_none h3 j hj
    rw [eb j (by omega), bkQ_of h.1.2.2.1, h.db (by omega), h.2.1]
    exact h4
/-- after so many idle ticks all others are idle -/
theorem frozen (h : Wb T T T q) (hT : q 2 = nI T) {K N : Nat} (hK : nS q + 11 ≤ K) (hKN : K ≤ N) (hN : T + N < 2 ^ 27) (hid : ∀ i, i < K → (tk1 (tkN q i)).1 = none) : ∀ j, j ≤ N → (∀ i, i < j → (tk1 (tkN q i)).1 = none) ∧ ∀ i, 1 ≤ i → i ≤ j → Co (tkN q 1) (tkN q i) := by
  have hS := h.sz.S
  have hw := fun n (hn : n ≤ N) => tkN_wb h hT n (by omega)
  intro j
  induction j with
  | zero => exact fun _ => ⟨fun i hi => absurd hi (Nat.not_lt_zero i), fun i h1 h2 => by omega⟩
  | succ j ih =>
    intro hj
    obtain ⟨ih1, ih2⟩ := ih (by omega)
    have hrd : ∀ i, 10 ≤ i → i ≤ j → Rd (tkN q i) := by
      intro i h1 h2 m k hm hk
      have hc := ih2 i (by omega) h2
      rw [hc.A hm] at hk
      obtain ⟨x, hx1, hx2⟩ := (hw 1 (by omega)).1.answer m k hm hk
      have hA := ((hw 1 (by omega)).1.sz.A hm).2
      rw [hc.1.2.2.2.2 m (26 + k) hm (Or.inr (by omega)), hx2, (hw i (by omega)).2, nI_leI (by omega) (by omega)]
      omega
    have hidle : (tk1 (tkN q j)).1 = none := by
      by_cases z : j < K
      · exact hid j z
      · have hc := (ih2 (j - nS q) (by omega) (by omega)).symm.trans (ih2 j (by omega) (Nat.le_refl _))
        have e1 : nS (tkN q 1) = nS q := nS_of ((h.tick hT (by omega)).out 1 (by omega))
        have e2 : nS (tkN q (j - nS q)) = nS q := (ih2 (j - nS q) (by omega) (by omega)).S.trans e1
        have hw1 := hw (j - nS q) (by omega)
        have hw2 := hw j (by omega)
        have hM1 := hw1.1.sz.M
        have ho1 := ownT_is hw1.1 hw1.2 (by omega)
        have ho2 := ownT_is hw2.1 hw2.2 (by omega)
        refine hc.idle hw1.1.sz (hrd _ (by omega) (by omega)) (hrd _ (by omega) (by omega)) ?_ (by omega) (ih1 _ (by omega))
        unfold ownT
        rw [hw1.2, hw2.2, clI (by omega), clI (by omega), hc.S, e2, show T + j = T + (j - nS q) + nS q by omega, Nat.add_mod_right, hc.1.2.2.2.1 _ (by omega) (by
          have := Nat.mod_lt (T + (j - nS q)) (show 0 < nS q by omega)
          omega)]
    refine ⟨fun i hi => ?_, fun i h1 h2 => ?_⟩
    · by_cases z : i = j
      · rw [z]; exact hidle
      · exact ih1 i (by omega)
    · by_cases z : i = j + 1
      · rw [z]
        by_cases y : j = 0
        · rw [y]; exact Co.refl _
        · obtain ⟨k, rfl⟩ : ∃ k, j = k + 1 := ⟨j - 1, by omega⟩
          have hk := hw k (by omega)
          exact (ih2 (k + 1) (by omega) (Nat.le_refl _)).trans (idle_co (hw (k + 1) (by omega)).1.sz (nb_tick hk.1 hk.2 (by omega)) hidle)
      · exact ih2 i h1 (by omega)
/-- who is done -/
def dn1 (q : QS) (m : Nat) : Bool := decide (mQ q m 0 = 0) && decide (mQ q m 7 = 0)
def dnU (P : Nat → Bool) (q : QS) : Nat → Bool
  | 0 => true
  | n + 1 => dnU P q n && (!P n || dn1 q n)
def dnQ (P : Nat → Bool) (q : QS) : Bool := dnU P q (nM q)
theorem dnU_iff (P : Nat → Bool) (q : QS) : ∀ n, dnU P q n = true ↔ ∀ m, m < n → P m = true → dn1 q m = true
  | 0 => ⟨fun _ m hm => absurd hm (Nat.not_lt_zero m), fun _ => rfl⟩
  | n + 1 => by
    show (dnU P q n && (!P n || dn1 q n)) = true ↔ _
    rw [Bool.and_eq_true, dnU_iff P q n, Bool.or_eq_true]
    constructor
    · intro z m hm hp
      rcases Nat.lt_or_ge m n with y | y
      · exact z.1 m y hp
      · obtain rfl : m = n := by omega
        rcases z.2 with w | w
        · rw [hp] at w; cases w
        · exact w
    · intro z
      refine ⟨fun m hm => z m (by omega), ?_⟩
      cases hp : P n with
      | false => exact Or.inl rfl
      | true => exact Or.inr (z n (by omega) hp)
theorem Co.dn (h : Co q r) (hM : nM q ≤ 6) (P : Nat → Bool) : dnQ P r = dnQ P q := by
  unfold dnQ
  rw [h.M]
  apply Bool.eq_iff_iff.mpr
  rw [dnU_iff, dnU_iff]
  have e : ∀ m, m < nM q → dn1 r m = dn1 q m := fun m hm => by
    unfold dn1
    rw [h.1.2.2.2.2 m 0 (by omega) (Or.inl rfl), h.1.2.2.2.2 m 7 (by omega) (Or.inr (by omega))]
  exact ⟨fun z m hm hp => by rw [← e m hm]; exact z m hm hp, fun z m hm hp => by rw [e m hm]; exact z m hm hp⟩
/-- the ticks until they are done, or N if these aren't fewer -/
def dnT (P : Nat → Bool) (q : QS) (N : Nat) : Nat := match firstN (fun n => dnQ P (tkN q n)) N with
  | some k => k
  | none => N
theorem dnT_le (P : Nat → Bool) (q : QS) (N : Nat) : dnT P q N ≤ N := by
  unfold dnT
  cases e : firstN (fun n => dnQ P (tkN q n)) N with
  | none => exact Nat.le_refl _
  | some k => exact Nat.le_of_lt (firstN_some e).1
end IDLE
