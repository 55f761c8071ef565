/-! THE INVARIANT BEHIND THE OTHER CALLS, and of a new object -/
section IVACTS
variable {q r u : QS} {T N Bd Ba Bw : Nat}
theorem Iv.fr (h : Iv T q) (hm : ∀ m j, m < 6 → 1 ≤ j → j < 6 → mQ r m j = mQ q m j) (h3 : r 3 = q 3) (h6 : r 6 = q 6) (hS : r 1 = q 1) (ho : ∀ s, s < nS q → ∀ m, m < 6 → bkQ q m = true → r (11 + s) ≠ nI m) (hd : ∀ a b, a < 6 → b < 6 → (owQ r a b = owQ q a b ∨ owQ r a b = 0))
    (h07 : ∀ m, m < 6 → bkQ q m = true → mQ r m 0 = mQ q m 0 ∧ mQ r m 7 = mQ q m 7) (hC : ∃ k, k ≤ 9 ∧ r 4 = nI k) : Iv T r := by
  obtain ⟨hA, hW, hB, -⟩ := h
  refine ⟨hA.fr (fun m j h1 h2 h3 => hm m j h1 (by omega) h3) h3 fun a b ha hb => ?_, hW.fr fun m j h1 h2 h3 => hm m j h1 h2 (by omega), ⟨fun m hm6 => ?_, fun m hm6 hb => ?_⟩, hC⟩
  · rcases hd a b ha hb with e | e
    · rw [e]; exact Nat.le_refl _
    · rw [e]; exact Nat.zero_le _
  · rcases hd m m hm6 hm6 with e | e
    · rw [e]; exact hB.1 m hm6
    · exact e
  · rw [bkQ_of h6] at hb
    obtain ⟨g1, g2, g3, g4⟩ := hB.2 m hm6 hb
    refine ⟨fun s hs => ho s (by rw [nS_of hS] at hs; exact hs) m hm6 hb, fun b hb6 => ⟨?_, ?_⟩, (h07 m hm6 hb).1.trans g3, (h07 m hm6 hb).2.trans g4⟩
    · rcases hd m b hm6 hb6 with e | e
      · rw [e]; exact (g2 b hb6).1
      · exact e
    · rcases hd b m hb6 hm6 with e | e
      · rw [e]; exact (g2 b hb6).2
      · exact e
theorem Iv.own (h : Iv T q) : ∀ s, s < nS q → ∀ m, m < 6 → bkQ q m = true → q (11 + s) ≠ nI m := fun s hs m hm hb => (h.2.2.1.2 m hm hb).1 s hs
theorem Iv.credit (h : Iv T q) {k : Nat} (hk : k ≤ 9) : Iv T (qs q 4 (nI k)) := by
  have e : ∀ i, i ≠ 4 → qs q 4 (nI k) i = q i := fun i hi => qs_ne _ _ hi
  exact h.fr (fun m j hm h1 h2 => e _ (by omega)) (e 3 (by omega)) (e 6 (by omega)) (e 1 (by omega)) (fun s hs m hm hb => by rw [e _ (by omega)]; exact h.own s hs m hm hb) (fun a b ha hb => Or.inl (e _ (by omega))) (fun m hm _ => ⟨e _ (by omega), e _ (by omega)⟩) ⟨k, hk, qs_same _ _ _⟩
theorem Iv.lat (h : Iv T q) {s : Nat} (hs : s < 4) (v : Int32) : Iv T (qs q (7 + s) v) := by
  have e : ∀ i, i ≠ 7 + s → qs q (7 + s) v i = q i := fun i hi => qs_ne _ _ hi
  obtain ⟨k, hk, hk2⟩ := h.2.2.2
  exact h.fr (fun m j hm h1 h2 => e _ (by omega)) (e 3 (by omega)) (e 6 (by omega)) (e 1 (by omega)) (fun s hs m hm hb => by rw [e _ (by omega)]; exact h.own s hs m hm hb) (fun a b ha hb => Or.inl (e _ (by omega))) (fun m hm _ => ⟨e _ (by omega), e _ (by omega)⟩) ⟨k, hk, (e 4 (by omega)).trans hk2⟩
theorem Iv.give (h : Iv T q) (hS : nS q ≤ 16) {s m : Nat} (hs : s < nS q) (hm : m < 6) (hb : bkQ q m = false) : Iv T (qs q (11 + s) (nI m)) := by
  have e : ∀ i, i ≠ 11 + s → qs q (11 + s) (nI m) i = q i := fun i hi => qs_ne _ _ hi
  obtain ⟨k, hk, hk2⟩ := h.2.2.2
  refine h.fr (fun m j hm h1 h2 => e _ (by omega)) (e 3 (by omega)) (e 6 (by omega)) (e 1 (by omega)) (fun t ht x hx hbx => ?_) (fun a b ha hb => Or.inl (e _ (by omega))) (fun m hm _ => ⟨e _ (by omega), e _ (by omega)⟩) ⟨k, hk, (e 4 (by omega)).trans hk2⟩
  by_cases z : t = s
  · rw [z, qs_same]
    intro y
    have := (nI_eq (by omega) (by omega)).mp y
    rw [← this, hb] at hbx
    cases hbx
  · rw [e _ (by omega)]; exact h.own t ht x hx hbx
theorem Iv.forgive (h : Iv T q) (hS : nS q ≤ 16) {a b : Nat} (ha : a < 6) (hb : b < 6) : Iv T (qs q (27 + 6 * a + b) (nI 0)) := by
  have e : ∀ i, i ≠ 27 + 6 * a + b → qs q (27 + 6 * a + b) (nI 0) i = q i := fun i hi => qs_ne _ _ hi
  obtain ⟨k, hk, hk2⟩ := h.2.2.2
  refine h.fr (fun m j hm h1 h2 => e _ (by omega)) (e 3 (by omega)) (e 6 (by omega)) (e 1 (by omega)) (fun s hs m hm hb => by rw [e _ (by omega)]; exact h.own s hs m hm hb) (fun x y hx hy => ?_) (fun m hm _ => ⟨e _ (by omega), e _ (by omega)⟩) ⟨k, hk, (e 4 (by omega)).trans hk2⟩
  by_cases z : x = a ∧ y = b
  · refine Or.inr ?_
    show qs q (27 + 6 * a + b) (nI 0) (27 + 6 * x + y) = 0
    rw [z.1, z.2, qs_same]
    rfl
  · exact Or.inl (e _ (by omega))
theorem Iv.send (h : Iv T q) (hS : nS q ≤ 16) {m s w : Nat} {v : Int32} (hm : m < 6) (hB : nB q m < 6) (hb : bkQ q m = false) : Iv T (sdQ q m s w v) := by
  have e : ∀ i, (i < 63 + 38 * m ∨ 63 + 38 * m + 38 ≤ i ∨ (63 + 38 * m + 0 < i ∧ i < 63 + 38 * m + 8)) → sdQ q m s w v i = q i := fun i hi => by
    unfold sdQ
    rw [qs_ne _ _ (by omega), qs_ne _ _ (by omega), qs_ne _ _ (by omega), qs_ne _ _ (by omega)]
  obtain ⟨k, hk, hk2⟩ := h.2.2.2
  refine h.fr (fun x j hx h1 h2 => e _ ?_) (e 3 (by omega)) (e 6 (by omega)) (e 1 (by omega)) (fun s hs m hm hb => by rw [e _ (by omega)]; exact h.own s hs m hm hb) (fun a b ha hb => Or.inl (e _ (by omega))) (fun x hx hbx => ?_) ⟨k, hk, (e 4 (by omega)).trans hk2⟩
  · by_cases z : x = m
    · subst z; omega
    · omega
  · have hne : x ≠ m := fun z => by
      rw [z, hb] at hbx; cases hbx
    exact ⟨e _ (by omega), e _ (by omega)⟩
theorem Iv.join (h : Iv T q) (v : Int32) : Iv T (qs q 0 v) := by
  have e : ∀ i, i ≠ 0 → qs q 0 v i = q i := fun i hi => qs_ne _ _ hi
  obtain ⟨k, hk, hk2⟩ := h.2.2.2
  exact h.fr (fun m j hm h1 h2 => e _ (by omega)) (e 3 (by omega)) (e 6 (by omega)) (e 1 (by omega)) (fun s hs m hm hb => by rw [e _ (by omega)]; exact h.own s hs m hm hb) (fun a b ha hb => Or.inl (e _ (by omega))) (fun m hm _ => ⟨e _ (by omega), e _ (by omega)⟩) ⟨k, hk, (e 4 (by omega)).trans hk2⟩
theorem Iv.start : Iv 0 (anQ 2 4) := by
  have z : ∀ j, 15 ≤ j → anQ 2 4 j = 0 := fun j hj => anQ_0 2 4 (by omega) (by omega)
  have z3 : anQ 2 4 3 = 0 := anQ_0 2 4 (by omega) (by omega)
  have hd : ∀ a, dN (anQ 2 4) a = 0 := fun a => by
    show sumN (fun b => (owQ (anQ 2 4) a b).toNatClampNeg) 6 = 0
    rw [sumN_eq (f := fun _ => 0) fun b _ => by rw [show owQ (anQ 2 4) a b = 0 from z _ (by omega)]; decide]
    rfl
  refine ⟨⟨fun _ => 0, fun _ => 0, fun _ => 0, 0, fun m _ => ⟨z _ (by omega), z _ (by omega), z _ (by omega)⟩, z3, rfl, ?_⟩, fun m _ => ⟨0, 0, Nat.le_refl _, Nat.le_refl _, z _ (by omega), z _ (by omega)⟩, ⟨fun m _ => z _ (by omega), fun m hm hb => ?_⟩, 4, by omega, rfl⟩
  · rw [sumN_eq (f := fun _ => 0) fun a _ => hd a]
    decide
  · exfalso
    unfold bkQ at hb
    rw [anQ_0 2 4 (j := 6) (by omega) (by omega)] at hb
    have : m = 0 ∨ m = 1 ∨ m = 2 ∨ m = 3 ∨ m = 4 ∨ m = 5 := by omega
    rcases this with rfl | rfl | rfl | rfl | rfl | rfl <;> exact absurd hb (by decide)
theorem Iv.ticks (h : Iv T q) (hw : Wb T T T q) (hT : q 2 = nI T) : ∀ n, T + n < 2 ^ 27 → Iv (T + n) (tkN q n)
  | 0, _ => h
  | n + 1, hn => by
    have hw2 := tkN_wb hw hT n (by omega)
    exact ((Iv.ticks h hw hT n (by omega)).tick hw2.1 hw2.2 (by omega)).1
end IVACTS
