/-! MANY TICKS -/
section RUN
variable {q r : QS} {c d : Mem}
theorem Wb.congr {Bd Ba Bw : Nat} (h : Wb Bd Ba Bw q) (e : ∀ i, i < 291 → r i = q i) : Wb Bd Ba Bw r := by
  have hM := h.sz.M
  have hS := h.sz.S
  have eM : nM r = nM q := nM_of (e 0 (by omega))
  have eS : nS r = nS q := nS_of (e 1 (by omega))
  have em : ∀ m j, m < 6 → j < 38 → mQ r m j = mQ q m j := fun m j h1 h2 => e _ (by omega)
  have eo : ∀ a b, a < 6 → b < 6 → owQ r a b = owQ q a b := fun a b h1 h2 => e _ (by omega)
  refine ⟨⟨?_, ?_, fun m hm => ⟨?_, ?_⟩⟩, fun s hs => ?_, fun s hs => ?_, fun a b ha hb => ?_, fun a b ha hb hx => ?_, fun m hm => ?_, fun m k hm hk => ?_, fun m k hm hk => ?_, fun m j h1 h2 h3 => ?_, ?_⟩
  · rw [e 0 (by omega)]; exact h.sz.1
  · rw [e 1 (by omega)]; exact h.sz.2.1
  · rw [em m 7 hm (by omega)]; exact (h.sz.2.2 m hm).1
  · rw [em m 0 hm (by omega)]; exact (h.sz.2.2 m hm).2
  · rw [eS] at hs; rw [eM, e (11 + s) (by omega)]; exact h.own s hs
  · rw [e (7 + s) (by omega)]; exact h.lat s hs
  · rw [eo a b ha hb]; exact h.debt a b ha hb
  · rw [eM] at hx; rw [eo a b ha hb]; exact h.debt0 a b ha hb hx
  · rw [em m 1 hm (by omega)]; exact h.wait m hm
  · rw [nB_of (em m 0 hm (by omega))] at hk
    have := (h.sz.B hm).2
    rw [em m _ hm (by omega), em m _ hm (by omega), em m _ hm (by omega)]
    exact h.burst m k hm hk
  · rw [nA_of (em m 7 hm (by omega))] at hk ⊢
    have := (h.sz.A hm).2
    rw [em m _ hm (by omega)]
    exact h.answer m k hm hk
  · rw [eM] at h1; rw [em m j h2 (by omega)]; exact h.rest m j h1 h2 h3
  · rw [e 6 (by omega), eM]; exact h.bank
theorem Ok.lt {S : Nat} {nb na : Nat → Nat} {k o i : Nat} (h : Ok S nb na k o i) : cj k o i < 291 := by
  rcases h.off with h1 | ⟨r, h1, h2, h3, -⟩ <;> omega
theorem E.congr {S : Nat} {nb na : Nat → Nat} {x y : Int32} {f : Nat → Int32} (h : E S nb na q x y f c) (e : ∀ k i, isB k = true → d k 0 i = c k 0 i) (e2 : ∀ k o i, isB k = false → isM k = true → o < 6 → d k o i = c k o i) : E S nb na q x y (fun m => d 41 m 0) d := by
  refine ⟨fun k o i hk => ?_, ?_, ?_, fun m => rfl, fun m hm => ?_⟩
  · rw [← h.1 k o i hk]
    rcases hk.cases with ⟨rfl, rfl, h3⟩ | ⟨rfl, rfl, h3⟩ | ⟨rfl, h2, h3⟩ | ⟨h1, h2, h3⟩ | ⟨rfl, h2, h3⟩ | ⟨h1, rfl, h3⟩ | ⟨h1, h2, h3, h4⟩ | ⟨rfl, h2, h3⟩ | ⟨rfl, h2, h3⟩
    · exact e _ _ (by decide)
    · exact e _ _ (by decide)
    · exact e2 _ _ _ (by decide) (by decide) h2
    · rcases h1 with rfl | rfl | rfl <;> exact e2 _ _ _ (by decide) (by decide) h2
    · exact e2 _ _ _ (by decide) (by decide) h2
    · rcases h1 with rfl | rfl | rfl | rfl <;> exact e _ _ (by decide)
    · have h9 : ∀ k, k < 48 → 42 ≤ k → isB k = false ∧ isM k = true := by decide
      exact e2 _ _ _ (h9 k h2 h1).1 (h9 k h2 h1).2 h3
    · exact e2 _ _ _ (by decide) (by decide) h2
    · exact e2 _ _ _ (by decide) (by decide) h2
  · rw [e 33 0 (by decide)]; exact h.2.1
  · rw [e 35 0 (by decide)]; exact h.2.2.1
  · rw [e2 40 m 0 (by decide) (by decide) hm]; exact h.2.2.2.2 m hm
theorem EQ.cells (h : EQ q c) (e : ∀ k i, isB k = true → d k 0 i = c k 0 i) (e2 : ∀ k o i, isB k = false → isM k = true → o < 6 → d k o i = c k o i) : EQ q d := by
  obtain ⟨f, h⟩ := h
  exact ⟨_, h.congr e e2⟩
theorem EQ.rows (h : EQ q c) (e : ∀ i, i < 291 → r i = q i) : EQ r c := by
  obtain ⟨f, h⟩ := h
  refine ⟨f, ?_⟩
  rw [nS_of (e 1 (by omega)), e 3 (by omega), e 5 (by omega)]
  refine (h.row (r := r) (fun k o i hk => e _ hk.lt) (e 6 (by omega))).less (fun m hm => ?_) (fun m hm => ?_)
  · rw [show nB r m = nB q m from nB_of (e _ (by omega))]; exact Nat.le_refl _
  · rw [show nA r m = nA q m from nA_of (e _ (by omega))]; exact Nat.le_refl _
/-- a bus stands as a row at tick T -/
def Bus (q : QS) (c : Mem) (T : Nat) : Prop := EQ q c ∧ Wb T T T q ∧ q 2 = nI T
theorem Bus.cells {T : Nat} (h : Bus q c T) (e : ∀ k i, isB k = true → d k 0 i = c k 0 i) (e2 : ∀ k o i, isB k = false → isM k = true → o < 6 → d k o i = c k o i) : Bus q d T := ⟨h.1.cells e e2, h.2⟩
theorem Bus.rows {T : Nat} (h : Bus q c T) (e : ∀ i, i < 291 → r i = q i) : Bus r c T := ⟨h.1.rows e, h.2.1.congr e, (e 2 (by omega)).trans h.2.2⟩
theorem Bus.step {T : Nat} (h : Bus q c T) (hT : T < 2 ^ 28) (σ : Mem) (b : Nat) : ∃ c', f2_step b (wc σ b c) = some (wc σ b c') ∧ Bus (tkQ q) c' (T + 1) := by
  obtain ⟨c', h1, h2⟩ := c_step σ b h.1 h.2.1 h.2.2 hT
  have ht := h.2.1.tick h.2.2 (by omega)
  exact ⟨c', h1, h2, ht.wb, ht.tick⟩
def tkN (q : QS) : Nat → QS
  | 0 => q
  | n + 1 => tkQ (tkN q n)
def wkN (q : QS) : Nat → Nat
  | 0 => 0
  | n + 1 => wkN q n + if (tk1 (tkN q n)).1 = none then 0 else 1
theorem tkN_wb {T : Nat} (h : Wb T T T q) (hT : q 2 = nI T) : ∀ n, T + n < 2 ^ 28 → Wb (T + n) (T + n) (T + n) (tkN q n) ∧ tkN q n 2 = nI (T + n)
  | 0, _ => ⟨h, hT⟩
  | n + 1, hn => by
    obtain ⟨h1, h2⟩ := tkN_wb h hT n (by omega)
    have ht := h1.tick h2 (by omega)
    exact ⟨ht.wb, ht.tick⟩
theorem tkN_idle {T : Nat} (h : Wb T T T q) (hT : q 2 = nI T) : ∀ n, T + n < 2 ^ 28 → wkN q n ≤ n ∧ tkN q n 3 = q 3 + nI (n - wkN q n)
  | 0, _ => ⟨Nat.le_refl 0, (Int32.add_zero _).symm⟩
  | n + 1, hn => by
    obtain ⟨h1, h2⟩ := tkN_idle h hT n (by omega)
    obtain ⟨h3, h4⟩ := tkN_wb h hT n (by omega)
    have e3 : tkN q (n + 1) 3 = tkN q n 3 + if (tk1 (tkN q n)).1 = none then 1 else 0 := by
      show tkQ (tkN q n) 3 = _
      have etk : tkQ (tkN q n) = qs (qs (qs (tk4 (tkN q n)) 3 (tk4 (tkN q n) 3 + if (tk1 (tkN q n)).1 = none then 1 else 0)) 5 (oN (tk1 (tkN q n)).1)) 2 (tk4 (tkN q n) 2 + 1) := rfl
      rw [etk, qs_ne _ _ (by decide), qs_ne _ _ (by decide), qs_same, (tk4_out h3 h4 (by omega) (i := 3) (by omega)).1]
    show wkN q n + (if _ then _ else _) ≤ n + 1 ∧ tkN q (n + 1) 3 = q 3 + nI (n + 1 - (wkN q n + if _ then _ else _))
    rw [e3, h2]
    by_cases e : (tk1 (tkN q n)).1 = none
    · rw [if_pos e, if_pos e]
      refine ⟨by omega, ?_⟩
      rw [Int32.add_assoc, nI_1, show n + 1 - (wkN q n + 0) = n - wkN q n + 1 by omega]
    · rw [if_neg e, if_neg e]
      refine ⟨by omega, ?_⟩
      rw [show n + 1 - (wkN q n + 1) = n - wkN q n by omega]
      exact Int32.add_zero _
theorem Bus.steps {T : Nat} (h : Bus q c T) {n : Nat} (hT : T + n < 2 ^ 28) (hn : n < 1000) (σ : Mem) (b : Nat) : ∃ c', f2_stepTimes b (nI n) (wc σ b c) = some (wc σ b c') ∧ Bus (tkN q n) c' (T + n) := by
  have hN : 1000 < FU := by decide
  unfold f2_stepTimes
  generalize FU = N at hN ⊢
  simp only [lit, nmS]
  obtain ⟨c', h1, h2⟩ := lupR (fun k i (c : Mem) => f2_stepTimes_l2 b (nI n) (fun s1 => some s1) k (nI i) (wc σ b c)) (fun i c => Bus (tkN q i) c (T + i)) n (fun c => some (wc σ b c)) (by
    intro k i c1 hi h1
    obtain ⟨c2, h2, h3⟩ := h1.step (by omega) σ b
    refine ⟨c2, h3, ?_⟩
    rw [f2_stepTimes_l2]
    simp only [lit, nmS, h2, bvS, nI_add]
    rw [if_neg (nI_ge hi (by omega))]) (by
    intro k c1 h1
    rw [f2_stepTimes_l2]
    rw [if_pos (nI_le (Nat.le_refl _) (by omega))]) n 0 N c (by omega) (by omega) h
  exact ⟨c', h2, h1⟩
end RUN
