/-! PARTS OF A TEXT, read by the reference: the four kinds -/
section PARTM2
variable {x : Nat → Nat} {L : Nat} {ρ : Mem} {q r : QS} {T : Nat} {c : Mem}
theorem nB_ef (hz : Sz r) {m : Cmd} (hf : Fit r m) (h3 : m.1 < 3) {j : Nat} (hj : j < 6) : nB (ef r m) j = nB r j := by
  have hS := hz.S
  apply nB_of
  show ef r m (63 + 38 * j + 0) = _
  unfold ef
  rcases hf with ⟨z, h1, h2⟩ | ⟨z, h1, h2⟩ | ⟨z, h1⟩ | ⟨z, h1⟩
  · rw [if_pos z, qs_ne _ _ (by omega)]; rfl
  · rw [if_neg (by omega), if_pos z, qs_ne _ _ (by omega)]; rfl
  · rw [if_neg (by omega), if_neg (by omega), if_pos z, qs_ne _ _ (by omega)]; rfl
  · omega
theorem nB_ef3 (hz : Sz r) {m : Cmd} (hf : Fit r m) (h3 : m.1 = 3) {j : Nat} (hj : j < 6) : nB (ef r m) j = if j = m.2.1 then nB r j + 1 else nB r j := by
  have hM := hz.M
  rcases hf with ⟨z, h1, h2⟩ | ⟨z, h1, h2⟩ | ⟨z, h1⟩ | ⟨z, h1, h2, -⟩
  · omega
  · omega
  · omega
  · have e : ∀ i, ef r m i = qs (qs (qs (qs r (63 + 38 * m.2.1 + (8 + 3 * nB r m.2.1)) (nI m.2.2.1)) (63 + 38 * m.2.1 + (9 + 3 * nB r m.2.1)) (nI m.2.2.2.1)) (63 + 38 * m.2.1 + (10 + 3 * nB r m.2.1)) (nI m.2.2.2.2)) (63 + 38 * m.2.1 + 0) (nI (nB r m.2.1 + 1)) i := fun i => by
      unfold ef
      rw [if_neg (by omega), if_neg (by omega), if_neg (by omega)]
    by_cases y : j = m.2.1
    · rw [if_pos y]
      unfold nB
      rw [show mQ (ef r m) j 0 = nI (nB r m.2.1 + 1) by
        show ef r m (63 + 38 * j + 0) = _
        rw [e, y, qs_same], clI (by omega), ← y]
      rfl
    · rw [if_neg y]
      apply nB_of
      show ef r m (63 + 38 * j + 0) = _
      rw [e, qs_ne _ _ (by omega), qs_ne _ _ (by omega), qs_ne _ _ (by omega), qs_ne _ _ (by omega)]
      rfl
def PartM (ρ : Mem) (q r : QS) (a : Bool) (res : Option (Int32 × Mem)) (o : Nat × Option Cmd) : Prop := ∃ ρ' v' q', res = some (bI o.2.isSome, xS ρ' q' o.1 v') ∧ (∀ k o i, k ≠ 25 → ρ' k o i = ρ k o i) ∧ (o.2 = none → q' = q) ∧ ∀ m, o.2 = some m → q' = (if a = true then ef r m else q) ∧ ∀ j, j < 6 → ρ' 25 0 j = nI (nB (ef r m) j)
theorem partNo {a : Bool} {res : Option (Int32 × Mem)} {p : Nat} (w : Int32) (h : res = some (nI 0, xS ρ q p w)) : PartM ρ q r a res (p, none) := ⟨ρ, w, q, h, fun _ _ _ _ => rfl, fun _ => rfl, fun m hm => by cases hm⟩
theorem partYes {a : Bool} {res : Option (Int32 × Mem)} {p : Nat} {m : Cmd} (hz : Sz r) (hc : ∀ j, j < 6 → ρ 25 0 j = nI (nB r j)) (hf : Fit r m) (h3 : m.1 < 3) (w : Int32) (h : res = some (nI 1, xS ρ (if a = true then ef r m else q) p w)) : PartM ρ q r a res (p, some m) :=
  ⟨ρ, w, _, h, fun _ _ _ _ => rfl, fun z => (nomatch z), fun m' hm => by
    cases hm
    exact ⟨rfl, fun j hj => by rw [nB_ef hz hf h3 hj]; exact hc j hj⟩⟩
/-- owners -/
theorem m_owner (h : TxM ρ x L) (hz : Sz r) (h65 : ρ 65 0 0 = nI (nM r)) (h66 : ρ 66 0 0 = nI (nS r)) (hc : ∀ j, j < 6 → ρ 25 0 j = nI (nB r j)) {p : Nat} (hpL : p < L) (hx : x p = 111) (a : Bool) (ha : a = true → q = r) (v : Int32) (hfit : ∀ m, (pO x L (nM r) (nS r) (p + 1)).2 = some m → Fit r m) :
    PartM ρ q r a (f7_part (bI a) (xS ρ q p v)) (pO x L (nM r) (nS r) (p + 1)) := by
  have hM := hz.M
  have hS := hz.S
  have hL := h.1
  have s1 : f7_sign 111 (xS ρ q p v) = some (nI 1, xS ρ q (p + 1) v) := (m_sign h q (a := 111) (by omega) (by omega) v).trans (if_pos ⟨hpL, hx⟩)
  have e66 : ∀ p v, xS ρ q p v 66 0 0 - 1 = nI (nS r - 1) := fun p v => by
    rw [xS_o _ _ _ _ _ _ (by omega), h66]
    obtain ⟨k, hk⟩ : ∃ k, nS r = k + 1 := ⟨nS r - 1, by omega⟩
    rw [hk, nI_pred]; rfl
  have e65 : ∀ p v, xS ρ q p v 65 0 0 - 1 = nI (nM r - 1) := fun p v => by
    rw [xS_o _ _ _ _ _ _ (by omega), h65]
    obtain ⟨k, hk⟩ : ∃ k, nM r = k + 1 := ⟨nM r - 1, by omega⟩
    rw [hk, nI_pred]; rfl
  obtain ⟨w, t1, t2⟩ := m_two h q (p := p + 1) (lo := 0) (hi := nS r - 1) (by omega) (by omega) (by omega) v
  have tp := two_p (x := x) (L := L) (p := p + 1) (lo := 0) (hi := nS r - 1)
  unfold f7_part
  rw [s1, bdS, if_neg (show ¬ nI 1 = 0 by decide), e66, show f7_twoTo 0 (nI (nS r - 1)) (xS ρ q (p + 1) v) = _ from t1, bdS]
  unfold pO at hfit ⊢
  have z0 : zok (0 : Int32) = true := by decide
  have z1 : zok (1 : Int32) = true := by decide
  have fail : ∀ p w, gd (ib (11 + 0) 291) (some ((0 : Int32), ms (xS ρ q p w) 20 0 (11 + (0 : Int32)).toNatClampNeg (xS ρ q p w 20 0 (11 : Int32).toNatClampNeg))) = some (nI 0, xS ρ q p w) := fun p w => by
    rw [gdI (by decide), show (11 + (0 : Int32)).toNatClampNeg = 11 by decide, show (11 : Int32).toNatClampNeg = 11 by decide, xS_20, xS_q, qs_self]; rfl
  cases ht : (two x L (p + 1) 0 (nS r - 1)).2 with
  | none =>
    generalize (two x L (p + 1) 0 (nS r - 1)).1 = p1 at tp ⊢
    rw [show (none : Option Nat).isNone = true from rfl, if_pos rfl]
    refine partNo w ?_
    simp only [nmS, show bI (none : Option Nat).isSome = 0 from rfl, if_true, gdI z0]
    exact fail p1 w
  | some s =>
    have hw := t2 s ht
    have hs := two_le (x := x) (L := L) (p := p + 1) (by omega) ht
    rw [ht] at hfit
    subst hw
    generalize (two x L (p + 1) 0 (nS r - 1)).1 = p1 at tp hfit ⊢
    rw [show (some s).isNone = false from rfl, if_neg (fun z => nomatch z)] at hfit ⊢
    rw [show bI (some s).isSome = 1 from rfl]
    by_cases o : okD x L p1 0 (nM r - 1) = true
    · rw [if_pos o] at hfit ⊢
      have hfit := hfit _ rfl
      refine partYes hz hc hfit (show 0 < 3 by omega) (nI (x p1 - 48)) ?_
      obtain ⟨o1, o2, o3⟩ := okD_iff.mp o
      have d1 : f7_digitTo 0 (nI (nM r - 1)) (xS ρ q p1 (nI s)) = some (1, xS ρ q (p1 + 1) (nI (x p1 - 48))) := m_digit_y h q (lo := 0) (by omega) (by omega) o (nI s)
      simp only [nmS, e65, d1, bdS, xS_64, show ¬ (1 : Int32) = 0 by decide, if_false, gdI z1]
      cases a with
      | true =>
        have hq := ha rfl
        subst hq
        rw [if_neg (show ¬ bI true = 0 by decide), if_neg (show ¬ bI true = 0 by decide), show 11 + nI s = nI (11 + s) from nI_add 11 s, gd_ib (by omega) (by decide), clI (by omega), xS_q]
        rfl
      | false =>
        rw [if_pos (show bI false = 0 by decide), if_pos (show bI false = 0 by decide), gdI (show ib (11 + 0) 291 = true by decide), show (11 + (0 : Int32)).toNatClampNeg = 11 by decide, show (11 : Int32).toNatClampNeg = 11 by decide, xS_20, xS_q, qs_self]
        rfl
    · rw [if_neg o]
      obtain ⟨w2, hw2⟩ := m_digit_n h q (p := p1) (lo := 0) (hi := nM r - 1) (by omega) (by omega) (by omega) (Bool.eq_false_iff.mpr o) (nI s)
      have d1 : f7_digitTo 0 (nI (nM r - 1)) (xS ρ q p1 (nI s)) = some (0, xS ρ q p1 w2) := hw2
      refine partNo w2 ?_
      simp only [nmS, e65, d1, bdS, show ¬ (1 : Int32) = 0 by decide, if_false, if_true, gdI z0]
      exact fail p1 w2
/-- latencies -/
theorem m_latency (h : TxM ρ x L) (hz : Sz r) (hc : ∀ j, j < 6 → ρ 25 0 j = nI (nB r j)) {p : Nat} (hpL : p < L) (hx : x p = 108) (a : Bool) (ha : a = true → q = r) (v : Int32) (hfit : ∀ m, (pL x L (p + 1)).2 = some m → Fit r m) :
    PartM ρ q r a (f7_part (bI a) (xS ρ q p v)) (pL x L (p + 1)) := by
  have hL := h.1
  have s1 : f7_sign 111 (xS ρ q p v) = some (nI 0, xS ρ q p v) := (m_sign h q (a := 111) (by omega) (by omega) v).trans (if_neg (fun z => by omega))
  have s2 : f7_sign 108 (xS ρ q p v) = some (nI 1, xS ρ q (p + 1) v) := (m_sign h q (a := 108) (by omega) (by omega) v).trans (if_pos ⟨hpL, hx⟩)
  unfold f7_part
  rw [s1, bdS, if_pos (show nI 0 = 0 from rfl), s2, bdS, if_neg (show ¬ nI 1 = 0 by decide)]
  unfold pL at hfit ⊢
  have z0 : zok (0 : Int32) = true := by decide
  have z1 : zok (1 : Int32) = true := by decide
  have fail : ∀ p w, gd (ib (7 + 0) 291) (some ((0 : Int32), ms (xS ρ q p w) 20 0 (7 + (0 : Int32)).toNatClampNeg (xS ρ q p w 20 0 (7 : Int32).toNatClampNeg))) = some (nI 0, xS ρ q p w) := fun p w => by
    rw [gdI (by decide), show (7 + (0 : Int32)).toNatClampNeg = 7 by decide, show (7 : Int32).toNatClampNeg = 7 by decide, xS_20, xS_q, qs_self]; rfl
  by_cases o : okD x L (p + 1) 0 3 = true
  · rw [if_pos o] at hfit ⊢
    have d1 : f7_digitTo 0 3 (xS ρ q (p + 1) v) = some (1, xS ρ q (p + 1 + 1) (nI (x (p + 1) - 48))) := m_digit_y h q (lo := 0) (hi := 3) (by omega) (by omega) o v
    obtain ⟨o1, o2, o3⟩ := okD_iff.mp o
    by_cases oo : okD x L (p + 1 + 1) 0 9 = true
    · rw [if_pos oo] at hfit ⊢
      have hfit := hfit _ rfl
      have d2 : f7_digitTo 0 9 (xS ρ q (p + 1 + 1) (nI (x (p + 1) - 48))) = some (1, xS ρ q (p + 1 + 1 + 1) (nI (x (p + 1 + 1) - 48))) := m_digit_y h q (lo := 0) (hi := 9) (by omega) (by omega) oo _
      refine partYes hz hc hfit (show 1 < 3 by omega) (nI (x (p + 1 + 1) - 48)) ?_
      simp only [nmS, d1, d2, bdS, xS_64, show ¬ (1 : Int32) = 0 by decide, if_false, gdI z1]
      cases a with
      | true =>
        have hq := ha rfl
        subst hq
        rw [if_neg (show ¬ bI true = 0 by decide), if_neg (show ¬ bI true = 0 by decide), show 7 + nI (x (p + 1) - 48) = nI (7 + (x (p + 1) - 48)) from nI_add 7 _, gd_ib (by omega) (by decide), clI (by omega), xS_q]
        rfl
      | false =>
        rw [if_pos (show bI false = 0 by decide), if_pos (show bI false = 0 by decide), gdI (show ib (7 + 0) 291 = true by decide), show (7 + (0 : Int32)).toNatClampNeg = 7 by decide, show (7 : Int32).toNatClampNeg = 7 by decide, xS_20, xS_q, qs_self]
        rfl
    · rw [if_neg oo]
      obtain ⟨w2, hw2⟩ := m_digit_n h q (p := p + 1 + 1) (lo := 0) (hi := 9) (by omega) (by omega) (by omega) (Bool.eq_false_iff.mpr oo) (nI (x (p + 1) - 48))
      have d2 : f7_digitTo 0 9 (xS ρ q (p + 1 + 1) (nI (x (p + 1) - 48))) = some (0, xS ρ q (p + 1 + 1) w2) := hw2
      refine partNo w2 ?_
      simp only [nmS, d1, d2, bdS, show ¬ (1 : Int32) = 0 by decide, if_false, if_true, gdI z0]
      exact fail _ w2
  · rw [if_neg o]
    obtain ⟨w2, hw2⟩ := m_digit_n h q (p := p + 1) (lo := 0) (hi := 3) (by omega) (by omega) (by omega) (Bool.eq_false_iff.mpr o) v
    have d1 : f7_digitTo 0 3 (xS ρ q (p + 1) v) = some (0, xS ρ q (p + 1) w2) := hw2
    refine partNo w2 ?_
    simp only [nmS, d1, bdS, if_true, gdI z0]
    exact fail _ w2
/-- the credit -/
theorem m_creditP (h : TxM ρ x L) (hz : Sz r) (hc : ∀ j, j < 6 → ρ 25 0 j = nI (nB r j)) {p : Nat} (hpL : p < L) (hx : x p = 99) (a : Bool) (ha : a = true → q = r) (v : Int32) (hfit : ∀ m, (pC x L (p + 1)).2 = some m → Fit r m) :
    PartM ρ q r a (f7_part (bI a) (xS ρ q p v)) (pC x L (p + 1)) := by
  have hL := h.1
  have s1 : f7_sign 111 (xS ρ q p v) = some (nI 0, xS ρ q p v) := (m_sign h q (a := 111) (by omega) (by omega) v).trans (if_neg (fun z => by omega))
  have s2 : f7_sign 108 (xS ρ q p v) = some (nI 0, xS ρ q p v) := (m_sign h q (a := 108) (by omega) (by omega) v).trans (if_neg (fun z => by omega))
  have s3 : f7_sign 99 (xS ρ q p v) = some (nI 1, xS ρ q (p + 1) v) := (m_sign h q (a := 99) (by omega) (by omega) v).trans (if_pos ⟨hpL, hx⟩)
  unfold f7_part
  rw [s1, bdS, if_pos (show nI 0 = 0 from rfl), s2, bdS, if_pos (show nI 0 = 0 from rfl), s3, bdS, if_neg (show ¬ nI 1 = 0 by decide)]
  unfold pC at hfit ⊢
  have z0 : zok (0 : Int32) = true := by decide
  have z1 : zok (1 : Int32) = true := by decide
  by_cases o : okD x L (p + 1) 0 9 = true
  · rw [if_pos o] at hfit ⊢
    have d1 : f7_digitTo 0 9 (xS ρ q (p + 1) v) = some (1, xS ρ q (p + 1 + 1) (nI (x (p + 1) - 48))) := m_digit_y h q (lo := 0) (hi := 9) (by omega) (by omega) o v
    have hfit := hfit _ rfl
    refine partYes hz hc hfit (show 2 < 3 by omega) (nI (x (p + 1) - 48)) ?_
    simp only [nmS, d1, bdS, xS_64, show ¬ (1 : Int32) = 0 by decide, if_false, gdI z1, show (4 : Int32).toNatClampNeg = 4 by decide, xS_q, xS_20]
    cases a with
    | true =>
      have hq := ha rfl
      subst hq
      rw [if_neg (show ¬ bI true = 0 by decide)]
      rfl
    | false =>
      rw [if_pos (show bI false = 0 by decide), qs_self]
      rfl
  · rw [if_neg o]
    obtain ⟨w2, hw2⟩ := m_digit_n h q (p := p + 1) (lo := 0) (hi := 9) (by omega) (by omega) (by omega) (Bool.eq_false_iff.mpr o) v
    have d1 : f7_digitTo 0 9 (xS ρ q (p + 1) v) = some (0, xS ρ q (p + 1) w2) := hw2
    refine partNo w2 ?_
    simp only [nmS, d1, bdS, if_true, gdI z0, show (4 : Int32).toNatClampNeg = 4 by decide, xS_q, xS_20, qs_self]
    rfl
end PARTM2
