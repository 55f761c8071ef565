/-! PARTS OF A TEXT, read by the class -/
section PARTS
variable {x : Nat → Nat} {L : Nat} {σ : Mem} {c : Mem} {r : QS} {T : Nat}
abbrev Cmd : Type := Nat × Nat × Nat × Nat × Nat
def pO (x : Nat → Nat) (L M S p : Nat) : Nat × Option Cmd := if (two x L p 0 (S - 1)).2.isNone = true then ((two x L p 0 (S - 1)).1, none) else if okD x L (two x L p 0 (S - 1)).1 0 (M - 1) = true then ((two x L p 0 (S - 1)).1 + 1, some (0, (two x L p 0 (S - 1)).2.getD 0, x (two x L p 0 (S - 1)).1 - 48, 0, 0)) else ((two x L p 0 (S - 1)).1, none)
def pL (x : Nat → Nat) (L p : Nat) : Nat × Option Cmd := if okD x L p 0 3 = true then (if okD x L (p + 1) 0 9 = true then (p + 2, some (1, x p - 48, x (p + 1) - 48, 0, 0)) else (p + 1, none)) else (p, none)
def pC (x : Nat → Nat) (L p : Nat) : Nat × Option Cmd := if okD x L p 0 9 = true then (p + 1, some (2, x p - 48, 0, 0, 0)) else (p, none)
def mrk (x : Nat → Nat) (L p : Nat) : Bool := decide (p < L) && (decide (x p = 43) || decide (x p = 45))
def pB (x : Nat → Nat) (L M : Nat) (nb : Nat → Nat) (p : Nat) : Nat × Option Cmd :=
  if okD x L p 0 (M - 1) = true then (if nb (x p - 48) = 6 then (p, none) else if okD x L (p + 1) 0 3 = true then (if okD x L (p + 2) 1 8 = true then (if mrk x L (p + 3) = true then (p + 4, some (3, x p - 48, x (p + 1) - 48, x (p + 2) - 48, if x (p + 3) = 43 then 1 else 0)) else (p + 3, none)) else (p + 2, none)) else (p + 1, none)) else (p, none)
def prt (x : Nat → Nat) (L M S : Nat) (nb : Nat → Nat) (p : Nat) : Nat × Option Cmd :=
  if x p = 111 then pO x L M S (p + 1) else if x p = 108 then pL x L (p + 1) else if x p = 99 then pC x L (p + 1) else if x p = 98 then pB x L M nb (p + 1) else (p, none)
def ef (r : QS) (m : Cmd) : QS := if m.1 = 0 then qs r (11 + m.2.1) (nI m.2.2.1) else if m.1 = 1 then qs r (7 + m.2.1) (nI m.2.2.1) else if m.1 = 2 then qs r 4 (nI m.2.1) else
  qs (qs (qs (qs r (63 + 38 * m.2.1 + (8 + 3 * nB r m.2.1)) (nI m.2.2.1)) (63 + 38 * m.2.1 + (9 + 3 * nB r m.2.1)) (nI m.2.2.2.1)) (63 + 38 * m.2.1 + (10 + 3 * nB r m.2.1)) (nI m.2.2.2.2)) (63 + 38 * m.2.1 + 0) (nI (nB r m.2.1 + 1))
/-- what a command may hold -/
def Fit (r : QS) (m : Cmd) : Prop := (m.1 = 0 ∧ m.2.1 < nS r ∧ m.2.2.1 < nM r) ∨ (m.1 = 1 ∧ m.2.1 < 4 ∧ m.2.2.1 ≤ 9) ∨ (m.1 = 2 ∧ m.2.1 ≤ 9) ∨ (m.1 = 3 ∧ m.2.1 < nM r ∧ nB r m.2.1 < 6 ∧ m.2.2.1 < 4 ∧ 1 ≤ m.2.2.2.1 ∧ m.2.2.2.1 ≤ 8 ∧ m.2.2.2.2 ≤ 1)
theorem two_le {p hi n : Nat} (hh : hi < 100) (h : (two x L p 0 hi).2 = some n) : n ≤ hi := by
  unfold two at h
  by_cases o1 : okD x L p 0 (hi / 10) = true
  · rw [if_pos o1] at h
    by_cases o2 : okD x L (p + 1) (lo2 (x p - 48) 0) (hi2 (x p - 48) hi) = true
    · rw [if_pos o2] at h
      obtain ⟨-, a1, a2⟩ := okD_iff.mp o1
      obtain ⟨-, b1, b2⟩ := okD_iff.mp o2
      have h : some (10 * (x p - 48) + (x (p + 1) - 48)) = some n := h
      have h := Option.some.inj h
      unfold hi2 at b2
      by_cases y : x p - 48 = hi / 10
      · rw [if_pos y] at b2; omega
      · rw [if_neg y] at b2; omega
    · rw [if_neg o2] at h; cases h
  · rw [if_neg o1] at h; cases h
theorem two_p {p lo hi : Nat} : p ≤ (two x L p lo hi).1 ∧ (two x L p lo hi).1 ≤ p + 2 := by
  unfold two
  by_cases o1 : okD x L p 0 (hi / 10) = true
  · rw [if_pos o1]
    by_cases o2 : okD x L (p + 1) (lo2 (x p - 48) lo) (hi2 (x p - 48) hi) = true
    · rw [if_pos o2]; dsimp only; omega
    · rw [if_neg o2]; dsimp only; omega
  · rw [if_neg o1]; dsimp only; omega
theorem rS_31 (h : Bus r c T) (p : Nat) (b : Bool) : rS σ c p b 31 15 0 = nI (nS r) := by
  obtain ⟨f, hE⟩ := h.1
  exact (wc_b _ _ (by decide) _).trans (hE.t1.trans h.2.1.sz.S.1)
theorem rS_30 (h : Bus r c T) (p : Nat) (b : Bool) : rS σ c p b 30 15 0 = nI (nM r) := by
  obtain ⟨f, hE⟩ := h.1
  exact (wc_b _ _ (by decide) _).trans (hE.t0.trans h.2.1.sz.M.1)
theorem rS_hasS (h : Bus r c T) (p : Nat) (b : Bool) {s : Nat} (hs : s < nS r) : f2_hasSlot 15 (nI s) (rS σ c p b) = some (nI 1, rS σ c p b) := by
  obtain ⟨f, hE⟩ := h.1
  unfold rS
  rw [c_hasS _ 15 hE h.2.1.sz, isS_in h hs]; rfl
theorem rS_has (h : Bus r c T) (p : Nat) (b : Bool) {m : Nat} (hm : m < nM r) : f2_hasMaster 15 (nI m) (rS σ c p b) = some (nI 1, rS σ c p b) := by
  obtain ⟨f, hE⟩ := h.1
  unfold rS
  rw [c_has _ 15 hE h.2.1.sz, isM_in h hm]; rfl
theorem c_owner (h : TxC σ x L) (hb : Bus r c T) {p : Nat} (hp : p < 2 ^ 20) : ∃ c', f3_readOwner 15 (rS σ c p false) = some (rS σ c' (pO x L (nM r) (nS r) p).1 (pO x L (nM r) (nS r) p).2.isNone) ∧ ∀ m, (pO x L (nM r) (nS r) p).2 = some m → Bus (ef r m) c' T ∧ Fit r m := by
  have hM := hb.2.1.sz.M
  have hS := hb.2.1.sz.S
  obtain ⟨v, t1, t2⟩ := c_two h c (p := p) (lo := 0) (hi := nS r - 1) (by omega) (by omega) (by omega)
  have tp := two_p (x := x) (L := L) (p := p) (lo := 0) (hi := nS r - 1)
  have e31 : rS σ c p false 31 15 0 - 1 = nI (nS r - 1) := by
    rw [rS_31 hb]
    obtain ⟨k, hk⟩ : ∃ k, nS r = k + 1 := ⟨nS r - 1, by omega⟩
    rw [hk, nI_pred]; rfl
  have e30 : ∀ p b, rS σ c p b 30 15 0 - 1 = nI (nM r - 1) := fun p b => by
    rw [rS_30 hb]
    obtain ⟨k, hk⟩ : ∃ k, nM r = k + 1 := ⟨nM r - 1, by omega⟩
    rw [hk, nI_pred]; rfl
  unfold f3_readOwner pO
  rw [e31, show (0 : Int32) = nI 0 from rfl, t1, bdS, e30]
  cases ht : (two x L p 0 (nS r - 1)).2 with
  | none =>
    rw [show (none : Option Nat).isNone = true from rfl, c_digit_b h c (by omega), bdS, rS_56, if_neg (show ¬ bI true = nI 0 by decide), if_pos rfl]
    exact ⟨c, rfl, fun m hm => by cases hm⟩
  | some s =>
    have hv := t2 s ht
    have hs := two_le (x := x) (L := L) (p := p) (by omega) ht
    subst hv
    rw [show (some s).isNone = false from rfl, if_neg (fun z => nomatch z)]
    generalize (two x L p 0 (nS r - 1)).1 = p1 at tp ⊢
    by_cases o : okD x L p1 0 (nM r - 1) = true
    · obtain ⟨z1, z2, z3⟩ := okD_iff.mp o
      rw [if_pos o, c_digit_y h c (by omega) (by omega) o, bdS, rS_56, if_pos (show bI false = nI 0 from rfl), rS_hasS hb _ _ (show s < nS r by omega), bdS, if_neg (show ¬ nI 1 = nI 0 by decide), gd_ib (show s < 16 by omega) (by decide), nmS, clI (by omega)]
      refine ⟨ms c 4 0 s (nI (x p1 - 48)), ?_, fun m hm => ?_⟩
      · unfold rS
        rw [wc_sb _ _ (by decide)]; rfl
      · cases hm
        exact ⟨hb.give (s := s) (m := x p1 - 48) (by omega) (by omega), Or.inl ⟨rfl, by show s < _; omega, by show x p1 - 48 < _; omega⟩⟩
    · rw [if_neg o, c_digit_n h c (by omega) (by omega) (by omega) (Bool.eq_false_iff.mpr o), bdS, rS_56, if_neg (show ¬ bI true = nI 0 by decide)]
      exact ⟨c, rfl, fun m hm => by cases hm⟩
theorem c_latency (h : TxC σ x L) (hb : Bus r c T) {p : Nat} (hp : p < 2 ^ 20) : ∃ c', f3_readLatency 15 (rS σ c p false) = some (rS σ c' (pL x L p).1 (pL x L p).2.isNone) ∧ ∀ m, (pL x L p).2 = some m → Bus (ef r m) c' T ∧ Fit r m := by
  unfold f3_readLatency pL
  simp only [lit, nmS]
  by_cases o : okD x L p 0 3 = true
  · obtain ⟨z1, z2, z3⟩ := okD_iff.mp o
    have hL := h.1
    rw [if_pos o, c_digit_y h c (by omega) (by omega) o, bdS]
    by_cases o2 : okD x L (p + 1) 0 9 = true
    · obtain ⟨y1, y2, y3⟩ := okD_iff.mp o2
      rw [if_pos o2, c_digit_y h c (by omega) (by omega) o2, bdS, rS_56, if_pos (show bI false = nI 0 from rfl), if_neg (show ¬ nI (x p - 48) < nI 0 from nI_pos (by omega)), if_neg (show ¬ nI 4 ≤ nI (x p - 48) from nI_ge (by omega) (by omega)), gd_ib (show x p - 48 < 4 by omega) (by decide), clI (by omega)]
      refine ⟨ms c 5 0 (x p - 48) (nI (x (p + 1) - 48)), ?_, fun m hm => ?_⟩
      · unfold rS
        rw [wc_sb _ _ (by decide)]; rfl
      · cases hm
        exact ⟨hb.lat (s := x p - 48) (l := x (p + 1) - 48) (by omega) (by omega), Or.inr (Or.inl ⟨rfl, by show x p - 48 < 4; omega, by show x (p + 1) - 48 ≤ 9; omega⟩)⟩
    · rw [if_neg o2, c_digit_n h c (by omega) (by omega) (by omega) (Bool.eq_false_iff.mpr o2), bdS, rS_56, if_neg (show ¬ bI true = nI 0 by decide)]
      exact ⟨c, rfl, fun m hm => by cases hm⟩
  · rw [if_neg o, c_digit_n h c (by omega) (by omega) (by omega) (Bool.eq_false_iff.mpr o), bdS, c_digit_b h c (by omega), bdS, rS_56, if_neg (show ¬ bI true = nI 0 by decide)]
    exact ⟨c, rfl, fun m hm => by cases hm⟩
theorem c_credit (h : TxC σ x L) (hb : Bus r c T) {p : Nat} (hp : p < 2 ^ 20) : ∃ c', f3_readCredit 15 (rS σ c p false) = some (rS σ c' (pC x L p).1 (pC x L p).2.isNone) ∧ ∀ m, (pC x L p).2 = some m → Bus (ef r m) c' T ∧ Fit r m := by
  unfold f3_readCredit pC
  simp only [lit, nmS]
  by_cases o : okD x L p 0 9 = true
  · obtain ⟨z1, z2, z3⟩ := okD_iff.mp o
    have hL := h.1
    rw [if_pos o, c_digit_y h c (by omega) (by omega) o, bdS, rS_56, if_pos (show bI false = nI 0 from rfl)]
    refine ⟨ms c 34 0 0 (nI (x p - 48)), ?_, fun m hm => ?_⟩
    · unfold rS
      rw [wc_sb _ _ (by decide)]; rfl
    · cases hm
      exact ⟨hb.credit _, Or.inr (Or.inr (Or.inl ⟨rfl, by show x p - 48 ≤ 9; omega⟩))⟩
  · rw [if_neg o, c_digit_n h c (by omega) (by omega) (by omega) (Bool.eq_false_iff.mpr o), bdS, rS_56, if_neg (show ¬ bI true = nI 0 by decide)]
    exact ⟨c, rfl, fun m hm => by cases hm⟩
set_option maxHeartbeats 1000000 in
theorem c_burst (h : TxC σ x L) (hb : Bus r c T) {p : Nat} (hp : p < 2 ^ 20) : ∃ c', f3_readBurst 15 (rS σ c p false) = some (rS σ c' (pB x L (nM r) (nB r) p).1 (pB x L (nM r) (nB r) p).2.isNone) ∧ ∀ m, (pB x L (nM r) (nB r) p).2 = some m → Bus (ef r m) c' T ∧ Fit r m := by
  have hM := hb.2.1.sz.M
  obtain ⟨f, hE⟩ := hb.1
  have e30 : ∀ p b, rS σ c p b 30 15 0 - nI 1 = nI (nM r - 1) := fun p b => by
    rw [rS_30 hb]
    obtain ⟨k, hk⟩ : ∃ k, nM r = k + 1 := ⟨nM r - 1, by omega⟩
    rw [hk, show nI (k + 1) - nI 1 = nI k from nI_pred k]; rfl
  unfold f3_readBurst pB f1_isFull f3_refuseLast
  simp only [lit, nmS]
  rw [e30]
  by_cases o : okD x L p 0 (nM r - 1) = true
  · obtain ⟨z1, z2, z3⟩ := okD_iff.mp o
    have hL := h.1
    have hm : x p - 48 < nM r := by omega
    have hm6 : x p - 48 < 6 := by omega
    have hB := hb.2.1.sz.B hm6
    have e50 : rS σ c (p + 1) false 50 (6 * 15 + (x p - 48)) 0 = nI (nB r (x p - 48)) := (wc_m _ _ (by decide) (by decide) hm6 _).trans ((hE.tnb hm6).trans hB.1)
    rw [if_pos o, c_digit_y h c (by omega) (by omega) o, bdS, rS_56, if_pos (show bI false = nI 0 from rfl), rS_has hb _ _ hm, bdS, if_neg (show ¬ nI 1 = nI 0 by decide), gd_ib hm6 (by decide), clI (by omega), e50]
    by_cases o0 : nB r (x p - 48) = 6
    · rw [if_pos o0, if_neg (show ¬ nI (nB r (x p - 48)) < nI 6 from fun z => by
        have := (nI_ltI (by omega) (by omega)).mp z
        omega), bdS, if_neg (show ¬ nI 1 = nI 0 by decide), bvS, rS_55, show nI (p + 1) - nI 1 = nI p from nI_pred p, rS_p, show nI 1 = bI true from rfl, rS_b, c_digit_b h c (by omega), bdS, c_digit_b h c (by omega), bdS, c_one_b h c (by omega), bdS, rS_56, if_neg (show ¬ bI true = nI 0 by decide)]
      exact ⟨c, rfl, fun m hm => by cases hm⟩
    · have hB6 : nB r (x p - 48) < 6 := by omega
      rw [if_neg o0, if_pos (nI_lt hB6 (by decide)), bdS, if_pos rfl]
      by_cases o1 : okD x L (p + 1) 0 3 = true
      · obtain ⟨a1, a2, a3⟩ := okD_iff.mp o1
        rw [if_pos o1, c_digit_y h c (by omega) (by omega) o1, bdS]
        by_cases o2 : okD x L (p + 2) 1 8 = true
        · obtain ⟨b1, b2, b3⟩ := okD_iff.mp o2
          rw [if_pos o2, c_digit_y h c (by omega) (by omega) o2, bdS]
          by_cases o3 : mrk x L (p + 3) = true
          · have o3' := o3
            unfold mrk at o3'
            rw [Bool.and_eq_true, Bool.or_eq_true, decide_eq_true_iff, decide_eq_true_iff, decide_eq_true_iff] at o3'
            obtain ⟨c1, c2⟩ := o3'
            rw [if_pos o3, c_one_y h c (a := 43) (b := 45) (by omega) (by omega) c1 c2, bdS, rS_56, if_pos (show bI false = nI 0 from rfl)]
            have hv : ∀ v, v = 0 ∨ v = 1 → ∃ c', f1_add (6 * 15 + (x p - 48)) (nI (x (p + 1) - 48)) (nI (x (p + 2) - 48)) (nI v) (rS σ c (p + 3 + 1) false) = some (rS σ c' (p + 4) false) ∧ Bus (ef r (3, x p - 48, x (p + 1) - 48, x (p + 2) - 48, v)) c' T := fun v hv => by
              obtain ⟨c', j1, j2, j3⟩ := c_addB (tS σ (p + 3 + 1) false) 15 hb hm hB6 (show x (p + 1) - 48 < 4 by omega) (show 1 ≤ x (p + 2) - 48 by omega) (by omega) (v := nI v) (by
                rcases hv with rfl | rfl
                · exact Or.inl rfl
                · exact Or.inr rfl)
              exact ⟨c', j1, j2⟩
            by_cases y : x (p + 3) = 43
            · obtain ⟨c', j1, j2⟩ := hv 1 (Or.inr rfl)
              rw [if_pos (show nI (x (p + 3)) = nI 43 by rw [y]), if_pos y, j1, bvS]
              exact ⟨c', rfl, fun m hm2 => by
                cases hm2
                exact ⟨j2, Or.inr (Or.inr (Or.inr ⟨rfl, hm, hB6, by show x (p + 1) - 48 < 4; omega, by show 1 ≤ x (p + 2) - 48; omega, by show x (p + 2) - 48 ≤ 8; omega, Nat.le_refl 1⟩))⟩⟩
            · obtain ⟨c', j1, j2⟩ := hv 0 (Or.inl rfl)
              have hx3 := (h.2.2 _ c1).1
              rw [if_neg (show ¬ nI (x (p + 3)) = nI 43 from fun z => y ((nI_eq (by omega) (by omega)).mp z)), if_neg y, j1, bvS]
              exact ⟨c', rfl, fun m hm2 => by
                cases hm2
                exact ⟨j2, Or.inr (Or.inr (Or.inr ⟨rfl, hm, hB6, by show x (p + 1) - 48 < 4; omega, by show 1 ≤ x (p + 2) - 48; omega, by show x (p + 2) - 48 ≤ 8; omega, Nat.zero_le 1⟩))⟩⟩
          · have o3' : ¬ (p + 3 < L ∧ (x (p + 3) = 43 ∨ x (p + 3) = 45)) := fun z => o3 (by
              unfold mrk
              rw [Bool.and_eq_true, Bool.or_eq_true, decide_eq_true_iff, decide_eq_true_iff, decide_eq_true_iff]
              exact z)
            rw [if_neg o3, c_one_n h c (p := p + 2 + 1) (a := 43) (b := 45) (by omega) (by omega) (by omega) o3', bdS, rS_56, if_neg (show ¬ bI true = nI 0 by decide)]
            exact ⟨c, rfl, fun m hm => by cases hm⟩
        · rw [if_neg o2, c_digit_n h c (p := p + 1 + 1) (by omega) (by omega) (by omega) (Bool.eq_false_iff.mpr o2), bdS, c_one_b h c (by omega), bdS, rS_56, if_neg (show ¬ bI true = nI 0 by decide)]
          exact ⟨c, rfl, fun m hm => by cases hm⟩
      · rw [if_neg o1, c_digit_n h c (by omega) (by omega) (by omega) (Bool.eq_false_iff.mpr o1), bdS, c_digit_b h c (by omega), bdS, c_one_b h c (by omega), bdS, rS_56, if_neg (show ¬ bI true = nI 0 by decide)]
        exact ⟨c, rfl, fun m hm => by cases hm⟩
  · rw [if_neg o, c_digit_n h c (by omega) (by omega) (by omega) (Bool.eq_false_iff.mpr o), bdS, rS_56, if_neg (show ¬ bI true = nI 0 by decide)]
    exact ⟨c, rfl, fun m hm => by cases hm⟩
theorem c_part (h : TxC σ x L) (hb : Bus r c T) {p : Nat} (hpL : p < L) : ∃ c', f3_readPart 15 (rS σ c p false) = some (rS σ c' (prt x L (nM r) (nS r) (nB r) p).1 (prt x L (nM r) (nS r) (nB r) p).2.isNone) ∧ ∀ m, (prt x L (nM r) (nS r) (nB r) p).2 = some m → Bus (ef r m) c' T ∧ Fit r m := by
  have hL := h.1
  have hx := (h.2.2 p hpL).1
  unfold f3_readPart prt
  simp only [lit, nmS]
  rw [rS_55, c_sign h c p false (by omega), bdS, rS_55, nI_add, rS_p, show sgn x L p = x p from if_pos hpL]
  by_cases e1 : x p = 111
  · obtain ⟨c', h1, h2⟩ := c_owner h hb (p := p + 1) (by omega)
    rw [if_pos (show nI (x p) = nI 111 by rw [e1]), if_pos e1, h1, bvS]
    exact ⟨c', rfl, h2⟩
  · rw [if_neg (show ¬ nI (x p) = nI 111 from fun z => e1 ((nI_eq (by omega) (by omega)).mp z)), if_neg e1]
    by_cases e2 : x p = 108
    · obtain ⟨c', h1, h2⟩ := c_latency h hb (p := p + 1) (by omega)
      rw [if_pos (show nI (x p) = nI 108 by rw [e2]), if_pos e2, h1, bvS]
      exact ⟨c', rfl, h2⟩
    · rw [if_neg (show ¬ nI (x p) = nI 108 from fun z => e2 ((nI_eq (by omega) (by omega)).mp z)), if_neg e2]
      by_cases e3 : x p = 99
      · obtain ⟨c', h1, h2⟩ := c_credit h hb (p := p + 1) (by omega)
        rw [if_pos (show nI (x p) = nI 99 by rw [e3]), if_pos e3, h1, bvS]
        exact ⟨c', rfl, h2⟩
      · rw [if_neg (show ¬ nI (x p) = nI 99 from fun z => e3 ((nI_eq (by omega) (by omega)).mp z)), if_neg e3]
        by_cases e4 : x p = 98
        · obtain ⟨c', h1, h2⟩ := c_burst h hb (p := p + 1) (by omega)
          rw [if_pos (show nI (x p) = nI 98 by rw [e4]), if_pos e4, h1, bvS]
          exact ⟨c', rfl, h2⟩
        · rw [if_neg (show ¬ nI (x p) = nI 98 from fun z => e4 ((nI_eq (by omega) (by omega)).mp z)), if_neg e4]
          unfold f3_refuseLast
          simp only [lit, nmS]
          rw [rS_55, show nI (p + 1) - nI 1 = nI p from nI_pred p, rS_p, show nI 1 = bI true from rfl, rS_b, bvS]
          exact ⟨c, rfl, fun m hm => by cases hm⟩
end PARTS
