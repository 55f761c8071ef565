/-! THE HEAD OF A TEXT; the calls that read or write it -/
section HEAD
variable {x : Nat → Nat} {L : Nat} {σ ρ : Mem} {q r : QS} {T B : Nat} {c : Mem}
def hdr (x : Nat → Nat) (L : Nat) : Nat × Option (Nat × Nat) := if 0 < L ∧ x 0 = 85 then (if okD x L 1 2 6 = true then ((two x L 2 2 16).1, (two x L 2 2 16).2.map fun S => (x 1 - 48, S)) else (1, none)) else (0, none)
theorem two_ge {p lo hi n : Nat} (hl : lo < 10) (h : (two x L p lo hi).2 = some n) (h2 : lo ≤ 9) : (x p - 48 = 0 → lo ≤ n) ∧ (0 < x p - 48 → 10 ≤ n) := by
  unfold two at h
  by_cases o1 : okD x L p 0 (hi / 10) = true
  · rw [if_pos o1] at h
    by_cases o2 : okD x L (p + 1) (lo2 (x p - 48) lo) (hi2 (x p - 48) hi) = true
    · rw [if_pos o2] at h
      obtain ⟨-, b1, b2⟩ := okD_iff.mp o2
      have h := Option.some.inj (show some (10 * (x p - 48) + (x (p + 1) - 48)) = some n from h)
      refine ⟨fun z => ?_, fun z => by omega⟩
      unfold lo2 at b1
      rw [if_pos z] at b1
      omega
    · rw [if_neg o2] at h; cases h
  · rw [if_neg o1] at h; cases h
theorem hdr_ok {M S : Nat} (h : (hdr x L).2 = some (M, S)) : (2 ≤ M ∧ M ≤ 6) ∧ (2 ≤ S ∧ S ≤ 16) ∧ (hdr x L).1 = 4 ∧ 4 ≤ L := by
  unfold hdr at h ⊢
  by_cases e : 0 < L ∧ x 0 = 85
  · rw [if_pos e] at h ⊢
    by_cases o : okD x L 1 2 6 = true
    · rw [if_pos o] at h ⊢
      obtain ⟨o1, o2, o3⟩ := okD_iff.mp o
      cases ht : (two x L 2 2 16).2 with
      | none => rw [ht] at h; cases h
      | some S' =>
        rw [ht] at h
        have h := Option.some.inj (show some (x 1 - 48, S') = some (M, S) from h)
        obtain ⟨z1, z2⟩ := Prod.mk.inj h
        have t2 := two_ok ht
        have t3 := two_ge (x := x) (L := L) (by omega) ht (by omega)
        have t4 : S' ≤ 16 := by
          unfold two at ht
          by_cases p1 : okD x L 2 0 (16 / 10) = true
          · rw [if_pos p1] at ht
            by_cases p2 : okD x L (2 + 1) (lo2 (x 2 - 48) 2) (hi2 (x 2 - 48) 16) = true
            · rw [if_pos p2] at ht
              obtain ⟨-, a1, a2⟩ := okD_iff.mp p1
              obtain ⟨-, b1, b2⟩ := okD_iff.mp p2
              have ht := Option.some.inj (show some (10 * (x 2 - 48) + (x (2 + 1) - 48)) = some S' from ht)
              unfold hi2 at b2
              by_cases y : x 2 - 48 = 16 / 10
              · rw [if_pos y] at b2; omega
              · rw [if_neg y] at b2; omega
            · rw [if_neg p2] at ht; cases ht
          · rw [if_neg p1] at ht; cases ht
        refine ⟨by omega, ⟨?_, by omega⟩, t2.1, by omega⟩
        rcases Nat.eq_zero_or_pos (x 2 - 48) with y | y
        · have := t3.1 y; omega
        · have := t3.2 y; omega
    · rw [if_neg o] at h; cases h
  · rw [if_neg e] at h; cases h
theorem hdr_p : (hdr x L).1 ≤ 4 := by
  have tp := two_p (x := x) (L := L) (p := 2) (lo := 2) (hi := 16)
  unfold hdr
  by_cases e : 0 < L ∧ x 0 = 85
  · rw [if_pos e]
    by_cases o : okD x L 1 2 6 = true
    · rw [if_pos o]; dsimp only; omega
    · rw [if_neg o]; dsimp only; omega
  · rw [if_neg e]; dsimp only; omega
/-- the class reads the head -/
theorem c_head (h : TxC σ x L) (c : Mem) : ∃ r2 r3, (∀ f : Int32 → Int32 → Mem → Option (Int32 × Mem), (bd (f3_readOneOf (85 : Int32) (85 : Int32) (rS σ c 0 false)) fun _ s3 => bd (f3_readDigit (2 : Int32) (6 : Int32) s3) fun r2 s4 => bd (f3_readTwoDigits (2 : Int32) (16 : Int32) s4) fun r3 s5 => f r2 r3 s5) = f r2 r3 (rS σ c (hdr x L).1 (hdr x L).2.isNone)) ∧ ∀ M S, (hdr x L).2 = some (M, S) → r2 = nI M ∧ r3 = nI S := by
  unfold hdr
  by_cases e : 0 < L ∧ x 0 = 85
  · rw [if_pos e]
    have d0 : f3_readOneOf (85 : Int32) (85 : Int32) (rS σ c 0 false) = some (nI (x 0), rS σ c 1 false) := c_one_y h c (a := 85) (b := 85) (by omega) (by omega) e.1 (Or.inl e.2)
    by_cases o : okD x L 1 2 6 = true
    · rw [if_pos o]
      have d1 : f3_readDigit (2 : Int32) (6 : Int32) (rS σ c 1 false) = some (nI (x 1 - 48), rS σ c 2 false) := c_digit_y h c (lo := 2) (hi := 6) (by omega) (by omega) o
      obtain ⟨v, t1, t2⟩ := c_two h c (p := 2) (lo := 2) (hi := 16) (by omega) (by omega) (by omega)
      have t1 : f3_readTwoDigits (2 : Int32) (16 : Int32) (rS σ c 2 false) = some (v, rS σ c (two x L 2 2 16).1 (two x L 2 2 16).2.isNone) := t1
      refine ⟨nI (x 1 - 48), v, fun f => ?_, fun M S hMS => ?_⟩
      · rw [d0, bdS, d1, bdS, t1, bdS]
        cases (two x L 2 2 16).2 <;> rfl
      · cases ht : (two x L 2 2 16).2 with
        | none => rw [ht] at hMS; cases hMS
        | some S' =>
          rw [ht] at hMS
          have hMS := Option.some.inj (show some (x 1 - 48, S') = some (M, S) from hMS)
          obtain ⟨z1, z2⟩ := Prod.mk.inj hMS
          exact ⟨by rw [z1], by rw [t2 S' ht, z2]⟩
    · rw [if_neg o]
      have d1 : f3_readDigit (2 : Int32) (6 : Int32) (rS σ c 1 false) = some (nI 2, rS σ c 1 true) := c_digit_n h c (p := 1) (lo := 2) (hi := 6) (by omega) (by omega) (by omega) (Bool.eq_false_iff.mpr o)
      obtain ⟨v, t1⟩ := c_two_b h c (p := 1) (by omega) (2 : Int32) (16 : Int32)
      exact ⟨nI 2, v, fun f => by rw [d0, bdS, d1, bdS, t1, bdS]; rfl, fun M S z => by cases z⟩
  · rw [if_neg e]
    have d0 : f3_readOneOf (85 : Int32) (85 : Int32) (rS σ c 0 false) = some (nI (sgn x L 0), rS σ c 0 true) := c_one_n h c (p := 0) (a := 85) (b := 85) (by omega) (by omega) (by omega) (fun z => e ⟨z.1, by have := z.2; omega⟩)
    obtain ⟨v, t1⟩ := c_two_b h c (p := 0) (by omega) (2 : Int32) (16 : Int32)
    exact ⟨2, v, fun f => by rw [d0, bdS, c_digit_b h c (by omega), bdS, t1, bdS]; rfl, fun M S z => by cases z⟩
theorem xS_ms (ρ : Mem) (q : QS) (p : Nat) (v : Int32) {k : Nat} (o i : Nat) (w : Int32) (h : k ≠ 63 ∧ k ≠ 64 ∧ k ≠ 20) : ms (xS ρ q p v) k o i w = xS (ms ρ k o i w) q p v := by
  unfold xS uS
  rw [wq_ms _ _ _ _ (by omega)]
  congr 1
  funext k1 o1 j
  unfold ms
  by_cases e : k1 = k ∧ o1 = o ∧ j = i
  · rw [if_pos e, if_neg (by omega), if_neg (by omega), if_pos e]
  · rw [if_neg e, if_neg e]
def c25 (ρ : Mem) (n : Nat) : Mem := fun k o j => if k = 25 ∧ o = 0 ∧ j < n then 0 else ρ k o j
theorem c25_0 (ρ : Mem) : c25 ρ 0 = ρ := by
  funext k o j
  exact if_neg fun z => absurd z.2.2 (Nat.not_lt_zero j)
theorem c25_s (ρ : Mem) (n : Nat) : ms (c25 ρ n) 25 0 n (nI 0) = c25 ρ (n + 1) := by
  funext k o j
  unfold ms c25
  by_cases e : k = 25 ∧ o = 0 ∧ j = n
  · rw [if_pos e, if_pos ⟨e.1, e.2.1, by omega⟩]; rfl
  · rw [if_neg e]
    by_cases e2 : k = 25 ∧ o = 0 ∧ j < n
    · rw [if_pos e2, if_pos ⟨e2.1, e2.2.1, by omega⟩]
    · rw [if_neg e2, if_neg fun z => e2 ⟨z.1, z.2.1, by
        have : ¬ j = n := fun w => e ⟨z.1, z.2.1, w⟩
        omega⟩]
theorem m_clear (ρ : Mem) (q : QS) (p : Nat) (v : Int32) (k1 : Mem → Option (Int32 × Mem)) : f7_reads_l7 k1 FU (nI 0) (xS ρ q p v) = k1 (xS (c25 ρ 6) q p v) := by
  have h9 := lup (fun n (z : Int32 × Mem) => f7_reads_l7 k1 n z.1 (xS z.2 q p v)) (fun i => (nI i, c25 ρ i)) 6 (k1 (xS (c25 ρ 6) q p v)) ?_ ?_ 6 0 FU rfl (by decide)
  · rw [c25_0] at h9; exact h9
  · intro n i hi
    show f7_reads_l7 k1 (n + 1) (nI i) (xS (c25 ρ i) q p v) = f7_reads_l7 k1 n (nI (i + 1)) (xS (c25 ρ (i + 1)) q p v)
    rw [f7_reads_l7]
    simp only [lit, nmS]
    rw [if_neg (nI_ge hi (by decide)), gd_ib hi (by decide), clI (by omega), xS_ms _ _ _ _ _ _ _ (show 25 ≠ 63 ∧ 25 ≠ 64 ∧ 25 ≠ 20 by omega), c25_s, nI_add]
  · intro n
    show f7_reads_l7 k1 (n + 1) (nI 6) _ = _
    rw [f7_reads_l7]
    simp only [lit]
    rw [if_pos (nI_le (Nat.le_refl _) (by decide))]
/-- only the reader's own numbers have changed -/
def Kr (ρ ρ' : Mem) : Prop := ∀ k o i, k ≠ 25 → ¬ (63 ≤ k ∧ k ≤ 66) → ρ' k o i = ρ k o i
theorem start63 (ρ : Mem) (q : QS) : ms (wq ρ q) 63 0 0 (nI 0) = xS ρ q 0 (ρ 64 0 0) := by
  unfold xS uS
  rw [wq_ms _ _ _ _ (by omega)]
  congr 1
  funext k o i
  by_cases e : k = 64 ∧ o = 0 ∧ i = 0
  · obtain ⟨rfl, rfl, rfl⟩ := e
    rw [ms_eq, ms_ne _ _ (by omega)]
  · rw [ms_ne _ _ e]
/-- the reference reads the head -/
theorem m_head (h : TxM ρ x L) (q : QS) (a : Bool) : ∃ ρ1 v1, Kr ρ ρ1 ∧ (∀ j, j < 6 → ρ1 25 0 j = 0) ∧ ((hdr x L).2 = none → f7_reads (bI a) (wq ρ q) = some (nI 0, xS ρ1 q (hdr x L).1 v1)) ∧
    ∀ M S, (hdr x L).2 = some (M, S) → ρ1 65 0 0 = nI M ∧ ρ1 66 0 0 = nI S ∧ f7_reads (bI a) (wq ρ q) = (if a = true then bv (f7_anew (nI M) (nI S) (xS ρ1 q 4 v1)) (fun s12 => f7_reads_l107 (bI a) (fun y3 s9 => gd (zok y3) (some (y3, s9))) FU (nI 1) s12) else f7_reads_l107 (bI a) (fun y3 s9 => gd (zok y3) (some (y3, s9))) FU (nI 1) (xS ρ1 q 4 v1)) := by
  have hL := h.1
  have z0 : zok (0 : Int32) = true := by decide
  have hc : ∀ k o i, k ≠ 25 → c25 ρ 6 k o i = ρ k o i := fun k o i hk => if_neg fun z => hk z.1
  have h1 : TxM (c25 ρ 6) x L := h.out hc
  have l0 : ∀ (a1 : Int32) (k : Int32 → Mem → Option (Int32 × Mem)) (s : Mem), f7_reads_l107 a1 k FU 0 s = k 0 s := fun a1 k s => by
    obtain ⟨n, hn⟩ : ∃ n, FU = n + 1 := ⟨5999, rfl⟩
    rw [hn, f7_reads_l107, if_pos rfl]
  have w5 : ∀ (ρ : Mem) (p : Nat) (v w : Int32), ms (xS ρ q p v) 65 0 0 w = xS (ms ρ 65 0 0 w) q p v := fun ρ p v w => xS_ms _ _ _ _ _ _ _ (by omega)
  have w6 : ∀ (ρ : Mem) (p : Nat) (v w : Int32), ms (xS ρ q p v) 66 0 0 w = xS (ms ρ 66 0 0 w) q p v := fun ρ p v w => xS_ms _ _ _ _ _ _ _ (by omega)
  have hk : ∀ A B, Kr ρ (ms (ms (c25 ρ 6) 65 0 0 A) 66 0 0 B) := fun A B k o i h1 h2 => by
    rw [ms_ne _ _ (by omega), ms_ne _ _ (by omega), hc k o i h1]
  have h25 : ∀ A B j, j < 6 → ms (ms (c25 ρ 6) 65 0 0 A) 66 0 0 B 25 0 j = 0 := fun A B j hj => by
    rw [ms_ne _ _ (by omega), ms_ne _ _ (by omega)]
    exact if_pos ⟨rfl, rfl, hj⟩
  have st : ms (wq ρ q) 63 0 0 0 = xS ρ q 0 (ρ 64 0 0) := start63 ρ q
  have cl : ∀ k1, f7_reads_l7 k1 FU 0 (xS ρ q 0 (ρ 64 0 0)) = k1 (xS (c25 ρ 6) q 0 (ρ 64 0 0)) := fun k1 => m_clear ρ q 0 _ k1
  have g0 := m_sign h1 q (p := 0) (a := 85) (by omega) (by omega) (ρ 64 0 0)
  generalize ρ 64 0 0 = v0 at st cl g0
  unfold hdr
  by_cases e : 0 < L ∧ x 0 = 85
  · rw [if_pos e]
    have g0 : f7_sign 85 (xS (c25 ρ 6) q 0 v0) = some (1, xS (c25 ρ 6) q 1 v0) := g0.trans (if_pos e)
    by_cases o : okD x L 1 2 6 = true
    · rw [if_pos o]
      have d1 : f7_digitTo 2 6 (xS (c25 ρ 6) q 1 v0) = some (1, xS (c25 ρ 6) q 2 (nI (x 1 - 48))) := m_digit_y h1 q (lo := 2) (hi := 6) (by omega) (by omega) o v0
      have h2 : TxM (ms (c25 ρ 6) 65 0 0 (nI (x 1 - 48))) x L := ⟨h1.1, (ms_ne _ _ (by omega)).trans h1.2.1, fun i hi => ⟨(h1.2.2 i hi).1, (ms_ne _ _ (by omega)).trans (h1.2.2 i hi).2⟩⟩
      obtain ⟨w, t1, t2⟩ := m_two h2 q (p := 2) (lo := 2) (hi := 16) (by omega) (by omega) (by omega) (nI (x 1 - 48))
      have t1 : f7_twoTo 2 16 (xS (ms (c25 ρ 6) 65 0 0 (nI (x 1 - 48))) q 2 (nI (x 1 - 48))) = some (bI (two x L 2 2 16).2.isSome, xS (ms (c25 ρ 6) 65 0 0 (nI (x 1 - 48))) q (two x L 2 2 16).1 w) := t1
      refine ⟨ms (ms (c25 ρ 6) 65 0 0 (nI (x 1 - 48))) 66 0 0 w, w, hk _ _, h25 _ _, fun hn => ?_, fun M S hMS => ?_⟩
      · cases ht : (two x L 2 2 16).2 with
        | some S' => rw [ht] at hn; cases hn
        | none =>
          rw [ht] at t1
          have t1 : f7_twoTo 2 16 (xS (ms (c25 ρ 6) 65 0 0 (nI (x 1 - 48))) q 2 (nI (x 1 - 48))) = some (0, xS (ms (c25 ρ 6) 65 0 0 (nI (x 1 - 48))) q (two x L 2 2 16).1 w) := t1
          unfold f7_reads
          simp only [nmS, st, cl, g0, bdS, d1, w5, xS_64, t1, w6, l0, gdI z0, show ¬ (1 : Int32) = 0 by decide, if_false, if_true]
          rfl
      · cases ht : (two x L 2 2 16).2 with
        | none => rw [ht] at hMS; cases hMS
        | some S' =>
          rw [ht] at hMS
          obtain ⟨z1, z2⟩ := Prod.mk.inj (Option.some.inj (show some (x 1 - 48, S') = some (M, S) from hMS))
          have hw := t2 S' ht
          have ht2 := (two_ok ht).1
          rw [ht, ht2] at t1
          subst hw z1 z2
          have t1 : f7_twoTo 2 16 (xS (ms (c25 ρ 6) 65 0 0 (nI (x 1 - 48))) q 2 (nI (x 1 - 48))) = some (1, xS (ms (c25 ρ 6) 65 0 0 (nI (x 1 - 48))) q 4 (nI S')) := t1
          have e65 : xS (ms (ms (c25 ρ 6) 65 0 0 (nI (x 1 - 48))) 66 0 0 (nI S')) q 4 (nI S') 65 0 0 = nI (x 1 - 48) := by
            rw [xS_o _ _ _ _ _ _ (by omega), ms_ne _ _ (by omega), ms_eq]
          have e66 : xS (ms (ms (c25 ρ 6) 65 0 0 (nI (x 1 - 48))) 66 0 0 (nI S')) q 4 (nI S') 66 0 0 = nI S' := by
            rw [xS_o _ _ _ _ _ _ (by omega), ms_eq]
          refine ⟨by rw [ms_ne _ _ (by omega), ms_eq], ms_eq _ _ _ _ _, ?_⟩
          unfold f7_reads
          simp only [nmS, st, cl, g0, bdS, d1, w5, xS_64, t1, w6, e65, e66, show ¬ (1 : Int32) = 0 by decide, if_false]
          cases a with
          | true => rw [if_neg (show ¬ bI true = 0 by decide), if_pos rfl]; rfl
          | false => rw [if_pos (show bI false = 0 by decide), if_neg (fun z => nomatch z)]; rfl
    · rw [if_neg o]
      obtain ⟨w, hw⟩ := m_digit_n h1 q (p := 1) (lo := 2) (hi := 6) (by omega) (by omega) (by omega) (Bool.eq_false_iff.mpr o) v0
      have d1 : f7_digitTo 2 6 (xS (c25 ρ 6) q 1 v0) = some (0, xS (c25 ρ 6) q 1 w) := hw
      refine ⟨ms (ms (c25 ρ 6) 65 0 0 w) 66 0 0 w, w, hk _ _, h25 _ _, fun hn => ?_, fun M S hMS => by cases hMS⟩
      unfold f7_reads
      simp only [nmS, st, cl, g0, bdS, d1, w5, xS_64, w6, l0, gdI z0, show ¬ (1 : Int32) = 0 by decide, if_false, if_true]
      rfl
  · rw [if_neg e]
    have g0 : f7_sign 85 (xS (c25 ρ 6) q 0 v0) = some (0, xS (c25 ρ 6) q 0 v0) := g0.trans (if_neg e)
    refine ⟨ms (ms (c25 ρ 6) 65 0 0 v0) 66 0 0 v0, v0, hk _ _, h25 _ _, fun hn => ?_, fun M S hMS => by cases hMS⟩
    unfold f7_reads
    simp only [nmS, st, cl, g0, bdS, w5, xS_64, w6, l0, gdI z0, if_true]
    rfl
end HEAD
