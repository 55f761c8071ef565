/-! THE LAW'S SECOND CHECK: a tick goes by as it was told -/
section TICKL
variable {q : QS} {T : Nat} {σ σ' : Mem}
theorem n10 : (nI 1 = nI 0) = False := eq_false (by decide)
theorem l212_run (h : Bus q (cOf σ 0) T) (hn : NB q) (hB : Bk q) (k1 : Int32 → Mem → Option (Int32 × Mem)) : fL_tick_l212 k1 FU (nI 1) (nI 0) σ = k1 (nI 1) σ := by
  have hM := h.2.1.sz.M
  have h9 := lup (fun n (z : Int32) => fL_tick_l212 k1 n (nI 1) z σ) (fun i => nI i) (nM q) (k1 (nI 1) σ) ?_ ?_ (nM q) 0 FU (by omega) (Nat.lt_of_le_of_lt hM.2.1 (by decide))
  · exact h9
  · intro n i hi
    show fL_tick_l212 k1 (n + 1) (nI 1) (nI i) σ = fL_tick_l212 k1 n (nI 1) (nI (i + 1)) σ
    have hle : ¬ nI 4 * msV q i 0 < msV q i 1 := by
      cases hb : bkQ q i with
      | true =>
        obtain ⟨z0, z1, -, -⟩ := nul_sums h.2.1 (by omega) (hB.2 i (by omega) hb)
        rw [z0, z1]
        decide
      | false =>
        intro z
        exact hn i hi ⟨hb, fun y => not_lt_le.mpr y z⟩
    rw [fL_tick_l212]
    simp only [lit, nmS]
    rw [ab_M h, bdS, if_neg (nI_ge hi (by omega)), if_neg (show ¬ nI 1 = nI 0 by decide), a_master h hi (by omega), bdS, a_master h hi (by omega), bdS, if_neg hle, nI_add]
  · intro n
    show fL_tick_l212 k1 (n + 1) (nI 1) (nI (nM q)) σ = _
    rw [fL_tick_l212]
    simp only [lit]
    rw [ab_M h, bdS, if_pos (nI_le (Nat.le_refl _) (by omega))]
def tkK (y : Int32) (s : Mem) : Option (Int32 × Mem) := fL_tick_l212 (fun y5 s12 => gd (zok y5) (some (y5, s12))) FU y (nI 0) s
def tkJ3 (w : Int32) (m : Nat) (t6 t4 : Int32) (s : Mem) : Option (Int32 × Mem) := bd (ni (f6_about (nI 9) s)) fun r11 s19 => if (r11 >>> (nI m &&& nI 31)) &&& nI 1 = nI 1 then tkK (nI 1) s19 else bd (ni (f6_master (nI m) (nI 10) s19)) fun r12 s21 => bd (ni (f6_master (nI m) (nI 4) s21)) fun r13 s22 =>
  if w = nI m then (if r12 - t6 + t4 - r13 = nI 1 then tkK (nI 1) s22 else tkK (nI 0) s22) else (if r12 - t6 + t4 - r13 = nI 0 then tkK (nI 1) s22 else tkK (nI 0) s22)
def tkJ2 (w : Int32) (m : Nat) (dn t6 t4 : Int32) (s : Mem) : Option (Int32 × Mem) := if dn < nI 1 then tkJ3 w m t6 t4 s else bd (ni (f6_doneIn (nI m) s)) fun r14 s26 => if r14 = dn - nI 1 then tkJ3 w m t6 t4 s26 else bd (ni (f6_about (nI 9) s26)) fun r15 s27 => if (r15 >>> (nI m &&& nI 31)) &&& nI 1 = nI 1 then tkJ3 w m t6 t4 s27 else tkK (nI 0) s27
theorem K_ok (h : Bus q (cOf σ 0) T) (hn : NB q) (hB : Bk q) : tkK (nI 1) σ = some (nI 1, σ) := by
  unfold tkK
  rw [l212_run h hn hB, gdI (show zok (nI 1) = true by decide)]
theorem who_is {w : Option Nat} {m : Nat} (hw : ∀ k, w = some k → k < 6) (hm : m < 6) : oN w = nI m ↔ w = some m := by
  cases w with
  | none => exact ⟨fun z => absurd z.symm (oN_ne (by omega)), fun z => nomatch z⟩
  | some k =>
    have := hw k rfl
    exact ⟨fun z => by rw [(nI_eq (by omega) (by omega)).mp (show nI k = nI m from z)], fun z => by cases z; rfl⟩
theorem J3_ok (hI : Iv T q) (hw : Wb T T T q) (hT : q 2 = nI T) (hT2 : T < 2 ^ 27) {m : Nat} (hm : m < nM q) (h : Bus (tkQ q) (cOf σ 0) (T + 1)) : tkJ3 (oN (tk1 q).1) m (msV q m 10) (msV q m 4) σ = some (nI 1, σ) := by
  have hM := hw.sz.M
  have ht := hw.tick hT (by omega)
  have hn := nb_tick hw hT hT2
  have hB := (hI.tick hw hT hT2).1.2.2.1
  have eM : nM (tkQ q) = nM q := nM_of (ht.out 0 (by omega))
  have hK := K_ok h hn hB
  unfold tkJ3
  rw [a_about h (by omega), bdS]
  cases hb : bkQ (tkQ q) m with
  | true =>
    rw [if_pos (show (abV (tkQ q) 9 >>> (nI m &&& nI 31)) &&& nI 1 = nI 1 from of_decide_eq_true hb), hK]
  | false =>
    have hk := tick_work hI hw hT hT2 hm hb
    have hwho := who_is (w := (tk1 q).1) (m := m) (fun k hk => by have := (ht.who k hk).1; omega) (by omega)
    rw [if_neg (show ¬ (abV (tkQ q) 9 >>> (nI m &&& nI 31)) &&& nI 1 = nI 1 from of_decide_eq_false hb), a_master h (by omega) (by omega), bdS, a_master h (by omega) (by omega), bdS]
    by_cases e : (tk1 q).1 = some m
    · rw [if_pos e] at hk
      rw [if_pos (hwho.mpr e), if_pos (show msV (tkQ q) m 10 - msV q m 10 + msV q m 4 - msV (tkQ q) m 4 = nI 1 from hk), hK]
    · rw [if_neg e] at hk
      rw [if_neg (fun z => e (hwho.mp z)), if_pos (show msV (tkQ q) m 10 - msV q m 10 + msV q m 4 - msV (tkQ q) m 4 = nI 0 from hk), hK]
theorem J2_ok (hI : Iv T q) (hw : Wb T T T q) (hT : q 2 = nI T) (hT2 : T + 3001 < 2 ^ 27) {m : Nat} (hm : m < nM q) (h : Bus (tkQ q) (cOf σ 0) (T + 1)) : ∃ σ', T15 σ σ' ∧ tkJ2 (oN (tk1 q).1) m (dnI q m) (msV q m 10) (msV q m 4) σ = some (nI 1, σ') := by
  have ht := hw.tick hT (by omega)
  have eM : nM (tkQ q) = nM q := nM_of (ht.out 0 (by omega))
  have h3 : ∀ {ρ}, Bus (tkQ q) (cOf ρ 0) (T + 1) → tkJ3 (oN (tk1 q).1) m (msV q m 10) (msV q m 4) ρ = some (nI 1, ρ) := fun hρ => J3_ok hI hw hT (by omega) hm hρ
  unfold tkJ2
  cases hd : dnF q m with
  | none =>
    rw [dnI_n hd, if_pos (show (-9 : Int32) < nI 1 by decide)]
    exact ⟨σ, T15.refl σ, h3 h⟩
  | some d =>
    have hs := dnI_s hd
    rw [hs.2]
    cases d with
    | zero =>
      rw [if_pos (show nI 0 < nI 1 by decide)]
      exact ⟨σ, T15.refl σ, h3 h⟩
    | succ d =>
      obtain ⟨σ', d1, d2⟩ := a_doneIn h (by omega) (m := m) (by omega)
      have hs2 := dnI_s (dnF_tick hd)
      rw [if_neg (nI_nlt (show 1 ≤ d + 1 by omega) (by omega)), d1, bdS, if_pos (show dnI (tkQ q) m = nI (d + 1) - nI 1 by rw [hs2.2]; exact (nI_pred d).symm)]
      exact ⟨σ', d2, h3 (d2.bus (by omega) h)⟩
theorem tck (h : Bus q (cOf σ 0) T) (hr : RI σ) (hI : Iv T q) (hT : T + 3001 < 2 ^ 27) {m : Nat} (hm : m < nM q) : ∃ σ', fL_tick (nI m) σ = some (nI 1, σ') ∧ Bus (tkQ q) (cOf σ' 0) (T + 1) ∧ RI σ' ∧ Iv (T + 1) (tkQ q) := by
  have hw := h.2.1
  have hT2 := h.2.2
  obtain ⟨σ1, a1, t1⟩ := a_turnIn h (by omega) (n := 0) (by omega)
  have h1 := t1.bus (b := 0) (by omega) h
  obtain ⟨σ2, a2, t2⟩ := a_turnIn h1 (by omega) (n := 3) (by omega)
  have h2 := t2.bus (b := 0) (by omega) h1
  obtain ⟨σ3, a3, t3⟩ := a_doneIn h2 (by omega) hm
  have h3 := t3.bus (b := 0) (by omega) h2
  obtain ⟨σ4, a4, A⟩ := a_pass h3 (t3.ri (t2.ri (t1.ri hr))) (n := 1) (by omega) (by omega) (by omega)
  have h4 : Bus (tkQ q) (cOf σ4 0) (T + 1) := A.1
  obtain ⟨σ5, a5, t5⟩ := a_turnIn h4 (by omega) (n := 2) (by omega)
  have h5 := t5.bus (b := 0) (by omega) h4
  obtain ⟨σ6, t6, a6⟩ := J2_ok hI hw hT2 hT hm h5
  have hid := tkN_idle hw hT2 1 (by omega)
  have e3 : (tk1 (tkN (tkQ q) 2)).1 = (tk1 (tkN q 3)).1 := by
    have := tkN_add q 1 2
    rw [show tkN q 1 = tkQ q from rfl] at this
    rw [this]
  rw [e3] at a5
  refine ⟨σ6, ?_, t6.bus (by omega) h5, t6.ri (t5.ri A.2.1.ri), (hI.tick hw hT2 (by omega)).1⟩
  unfold fL_tick
  simp only [lit, nmS, n10, ↓reduceIte]
  rw [a1, bdS, a2, bdS, a3, bdS, a_about h3 (by omega), bdS, a_master h3 hm (by omega), bdS, a_master h3 hm (by omega), bdS, a4, bdS]
  have e5 : abV (tkQ q) 8 = oN (tk1 (tkN q 0)).1 := tkQ_5 q
  have e33 : abV (tkQ q) 3 = abV q 3 + nI (1 - wkN q 1) := hid.2
  have ewk : wkN q 1 = 0 + if (tk1 q).1 = none then 0 else 1 := rfl
  cases hk : (tk1 q).1 with
  | none =>
    have c : ¬ nI 0 ≤ oN (tk1 (tkN q 0)).1 := by
      rw [show (tk1 (tkN q 0)).1 = none from hk]
      decide
    rw [hk, if_pos rfl] at ewk
    rw [ewk] at e33
    rw [if_neg c, if_pos (show nI (wkN q 1) = nI 0 by rw [ewk]), a_about h4 (by omega), bdS, if_pos e5, a_about h4 (by omega), bdS, if_neg c, if_pos e33, a5, bdS, if_pos rfl]
    exact a6
  | some k =>
    have := (hw.tick hT2 (by omega)).who k hk
    have hM := hw.sz.M
    have c : nI 0 ≤ oN (tk1 (tkN q 0)).1 := by
      rw [show (tk1 (tkN q 0)).1 = some k from hk]
      exact nI_le (Nat.zero_le k) (by omega)
    rw [hk, if_neg (fun z => nomatch z)] at ewk
    rw [ewk] at e33
    rw [if_pos c, if_pos (show nI (wkN q 1) = nI 1 by rw [ewk]), a_about h4 (by omega), bdS, if_pos e5, a_about h4 (by omega), bdS, if_pos c, if_pos e33, a5, bdS, if_pos rfl]
    exact a6
end TICKL
