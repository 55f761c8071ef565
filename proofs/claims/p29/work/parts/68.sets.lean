/-! SINGLE CELLS SET ON BOTH SIDES -/
section SETS
variable {q r : QS} {c d : Mem} {T : Nat}
theorem Wb.low {Bd Ba Bw : Nat} (h : Wb Bd Ba Bw q) (e : ∀ i, ¬ (7 ≤ i ∧ i < 27) → r i = q i) (hl : ∀ s, s < 4 → ∃ l, l ≤ 9 ∧ r (7 + s) = nI l) (ho : ∀ s, s < nS q → ∃ o, o < nM q ∧ r (11 + s) = nI o) : Wb Bd Ba Bw r := by
  have eM : nM r = nM q := nM_of (e 0 (by omega))
  have eS : nS r = nS q := nS_of (e 1 (by omega))
  have em : ∀ m j, mQ r m j = mQ q m j := fun m j => e _ (by omega)
  have eo : ∀ a b, owQ r a b = owQ q a b := fun a b => e _ (by omega)
  refine ⟨⟨?_, ?_, fun m hm => ⟨?_, ?_⟩⟩, fun s hs => ?_, hl, fun a b ha hb => ?_, fun a b ha hb hx => ?_, fun m hm => ?_, fun m k hm hk => ?_, fun m k hm hk => ?_, fun m j h1 h2 h3 => ?_, ?_⟩
  · rw [e 0 (by omega)]; exact h.sz.1
  · rw [e 1 (by omega)]; exact h.sz.2.1
  · rw [em]; exact (h.sz.2.2 m hm).1
  · rw [em]; exact (h.sz.2.2 m hm).2
  · rw [eS] at hs; rw [eM]; exact ho s hs
  · rw [eo]; exact h.debt a b ha hb
  · rw [eM] at hx; rw [eo]; exact h.debt0 a b ha hb hx
  · rw [em]; exact h.wait m hm
  · rw [nB_of (em m 0)] at hk
    rw [em, em, em]
    exact h.burst m k hm hk
  · rw [nA_of (em m 7)] at hk ⊢
    rw [em]
    exact h.answer m k hm hk
  · rw [eM] at h1; rw [em]; exact h.rest m j h1 h2 h3
  · rw [e 6 (by omega), eM]; exact h.bank
theorem Wb.setOwn {Bd Ba Bw : Nat} (h : Wb Bd Ba Bw q) {s m : Nat} (hs : s < nS q) (hm : m < nM q) : Wb Bd Ba Bw (qs q (11 + s) (nI m)) := by
  have hS := h.sz.S
  refine h.low (fun i hi => qs_ne _ _ (by omega)) (fun s2 h2 => ?_) (fun s2 h2 => ?_)
  · rw [qs_ne _ _ (by omega)]; exact h.lat s2 h2
  · by_cases z : s2 = s
    · rw [z, qs_same]; exact ⟨m, hm, rfl⟩
    · rw [qs_ne _ _ (by omega)]; exact h.own s2 h2
theorem Wb.setLat {Bd Ba Bw : Nat} (h : Wb Bd Ba Bw q) {s l : Nat} (hs : s < 4) (hl : l ≤ 9) : Wb Bd Ba Bw (qs q (7 + s) (nI l)) := by
  refine h.low (fun i hi => qs_ne _ _ (by omega)) (fun s2 h2 => ?_) (fun s2 h2 => ?_)
  · by_cases z : s2 = s
    · rw [z, qs_same]; exact ⟨l, hl, rfl⟩
    · rw [qs_ne _ _ (by omega)]; exact h.lat s2 h2
  · rw [qs_ne _ _ (by omega)]; exact h.own s2 h2
theorem Bus.set {k o i : Nat} (h : Bus q c T) (hk : Ok (nS q) (nB q) (nA q) k o i) (v : Int32) (hw : Wb T T T (qs q (cj k o i) v)) (h1 : cj k o i ≠ 1) (h2 : cj k o i ≠ 2) (hb : ∀ m, m < 6 → cj k o i ≠ 63 + 38 * m + 0) (ha : ∀ m, m < 6 → cj k o i ≠ 63 + 38 * m + 7) : Bus (qs q (cj k o i) v) (ms c k o i v) T := by
  obtain ⟨⟨f, hE⟩, hwb, hT⟩ := h
  have hn := hk.ne
  refine ⟨⟨f, ?_⟩, hw, (qs_ne _ _ (fun z => h2 z.symm)).trans hT⟩
  rw [nS_of (qs_ne _ _ (fun z => h1 z.symm)), qs_ne _ _ (show 3 ≠ cj k o i from fun z => hn.2.2.2.2.1 z.symm), qs_ne _ _ (show 5 ≠ cj k o i from fun z => hn.2.2.2.2.2.1 z.symm)]
  refine (hE.set hk v).less (fun m hm => ?_) (fun m hm => ?_)
  · rw [show nB (qs q (cj k o i) v) m = nB q m from nB_of (qs_ne _ _ (fun z => hb m hm z.symm))]; exact Nat.le_refl _
  · rw [show nA (qs q (cj k o i) v) m = nA q m from nA_of (qs_ne _ _ (fun z => ha m hm z.symm))]; exact Nat.le_refl _
theorem Bus.credit (h : Bus q c T) (v : Int32) : Bus (qs q 4 v) (ms c 34 0 0 v) T :=
  Bus.set (k := 34) (o := 0) (i := 0) h (Or.inr (Or.inr (Or.inr (Or.inr (Or.inr (Or.inl ⟨by omega, rfl, rfl⟩)))))) v (h.2.1.free (i := 4) (by omega) (by omega) v) (by decide) (by decide) (fun m hm => by show 34 - 30 ≠ _; omega) (fun m hm => by show 34 - 30 ≠ _; omega)
theorem Bus.lat (h : Bus q c T) {s l : Nat} (hs : s < 4) (hl : l ≤ 9) : Bus (qs q (7 + s) (nI l)) (ms c 5 0 s (nI l)) T :=
  Bus.set (k := 5) (o := 0) (i := s) h (Or.inl ⟨rfl, rfl, hs⟩) (nI l) (h.2.1.setLat hs hl) (by rw [cj_5]; omega) (by rw [cj_5]; omega) (fun m hm => by rw [cj_5]; omega) (fun m hm => by rw [cj_5]; omega)
theorem Bus.give (h : Bus q c T) {s m : Nat} (hs : s < nS q) (hm : m < nM q) : Bus (qs q (11 + s) (nI m)) (ms c 4 0 s (nI m)) T :=
  Bus.set (k := 4) (o := 0) (i := s) h (Or.inr (Or.inl ⟨rfl, rfl, hs, by have := h.2.1.sz.S; omega⟩)) (nI m) (h.2.1.setOwn hs hm) (by rw [cj_4]; omega) (by rw [cj_4]; omega) (fun m hm => by have := h.2.1.sz.S; rw [cj_4]; omega) (fun m hm => by have := h.2.1.sz.S; rw [cj_4]; omega)
theorem Bus.forgive (h : Bus q c T) {a b : Nat} (ha : a < nM q) (hb : b < nM q) : Bus (qs q (27 + 6 * a + b) (nI 0)) (ms c 8 a b (nI 0)) T :=
  have hM := h.2.1.sz.M
  Bus.set (k := 8) (o := a) (i := b) h (Or.inr (Or.inr (Or.inl ⟨rfl, by omega, by omega⟩))) (nI 0) (h.2.1.setDebt ha hb (Nat.le_refl _) (Nat.zero_le _)) (by rw [cj_8]; omega) (by rw [cj_8]; omega) (fun m hm => by rw [cj_8]; omega) (fun m hm => by rw [cj_8]; omega)
/-- a burst comes in -/
theorem Wb.sends {Bd Ba Bw : Nat} (h : Wb Bd Ba Bw q) {m s w : Nat} {v : Int32} (hm : m < nM q) (hB : nB q m < 6) (hs : s < 4) (hw : 1 ≤ w) (hw2 : w ≤ 8) (hv : v = 0 ∨ v = 1) :
    Wb Bd Ba Bw (qs (qs (qs (qs q (63 + 38 * m + (8 + 3 * nB q m)) (nI s)) (63 + 38 * m + (9 + 3 * nB q m)) (nI w)) (63 + 38 * m + (10 + 3 * nB q m)) v) (63 + 38 * m + 0) (nI (nB q m + 1))) := by
  have hM := h.sz.M
  obtain ⟨hA1, hA2⟩ := h.sz.A (m := m) (by omega)
  have ej : ∀ j, j < 38 → j ≠ 0 → ¬ (8 + 3 * nB q m ≤ j ∧ j < 11 + 3 * nB q m) → mQ (qs (qs (qs (qs q (63 + 38 * m + (8 + 3 * nB q m)) (nI s)) (63 + 38 * m + (9 + 3 * nB q m)) (nI w)) (63 + 38 * m + (10 + 3 * nB q m)) v) (63 + 38 * m + 0) (nI (nB q m + 1))) m j = mQ q m j := by
    intro j h1 h2 h3
    show qs _ _ _ (63 + 38 * m + j) = _
    rw [qs_ne _ _ (by omega), qs_ne _ _ (by omega), qs_ne _ _ (by omega), qs_ne _ _ (by omega)]
    rfl
  refine h.within (a := nA q m) (b := nB q m + 1) (Nat.le_refl _) hm ?_ (ej 1 (by omega) (by omega) (by omega)) ((ej 7 (by omega) (by omega) (by omega)).trans hA1) hA2 (qs_same _ _ _) (by omega) ?_ ?_
  · intro i hi
    rw [qs_ne _ _ (by omega), qs_ne _ _ (by omega), qs_ne _ _ (by omega), qs_ne _ _ (by omega)]
  · intro k hk
    by_cases z : k = nB q m
    · subst z
      refine ⟨⟨s, hs, ?_⟩, ⟨w, hw, hw2, ?_⟩, ?_⟩
      · show qs _ _ _ (63 + 38 * m + (8 + 3 * nB q m)) = _
        rw [qs_ne _ _ (by omega), qs_ne _ _ (by omega), qs_ne _ _ (by omega), qs_same]
      · show qs _ _ _ (63 + 38 * m + (9 + 3 * nB q m)) = _
        rw [qs_ne _ _ (by omega), qs_ne _ _ (by omega), qs_same]
      · have e9 : mQ (qs (qs (qs (qs q (63 + 38 * m + (8 + 3 * nB q m)) (nI s)) (63 + 38 * m + (9 + 3 * nB q m)) (nI w)) (63 + 38 * m + (10 + 3 * nB q m)) v) (63 + 38 * m + 0) (nI (nB q m + 1))) m (10 + 3 * nB q m) = v := by
          show qs _ _ _ (63 + 38 * m + (10 + 3 * nB q m)) = _
          rw [qs_ne _ _ (by omega), qs_same]
        rw [e9]; exact hv
    · rw [ej _ (by omega) (by omega) (by omega), ej _ (by omega) (by omega) (by omega), ej _ (by omega) (by omega) (by omega)]
      exact h.burst m k (by omega) (by omega)
  · intro k hk
    obtain ⟨x, h1, h2⟩ := h.answer m k (by omega) hk
    rw [ej _ (by omega) (by omega) (by omega)]
    exact ⟨x, by omega, h2⟩
end SETS
