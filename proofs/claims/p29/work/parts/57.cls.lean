/-! THE CLASS's BUS: an overlay of one bus's cells, and how it stands to the reference's row -/
section CLS
def isB (k : Nat) : Bool := k == 4 || k == 5 || (Nat.ble 30 k && Nat.ble k 35)
def isM (k : Nat) : Bool := k == 8 || k == 10 || k == 11 || k == 12 || k == 14 || (Nat.ble 40 k && Nat.ble k 47) || k == 50 || k == 51
def wc (σ : Mem) (b : Nat) (c : Mem) : Mem := fun k o i => if isB k = true then (if o = b then c k 0 i else σ k o i) else if isM k = true then (if o / 6 = b then c k (o % 6) i else σ k o i) else σ k o i
theorem ms_eq (c : Mem) (k o i : Nat) (v : Int32) : ms c k o i v k o i = v := if_pos ⟨rfl, rfl, rfl⟩
theorem ms_ne (c : Mem) {k o i k1 o1 i1 : Nat} (v : Int32) (h : ¬ (k1 = k ∧ o1 = o ∧ i1 = i)) : ms c k o i v k1 o1 i1 = c k1 o1 i1 := if_neg h
theorem wc_b (σ : Mem) {b : Nat} (c : Mem) {k : Nat} (hk : isB k = true) (i : Nat) : wc σ b c k b i = c k 0 i := by
  unfold wc
  rw [if_pos hk, if_pos rfl]
theorem wc_m (σ : Mem) {b : Nat} (c : Mem) {k m : Nat} (hk : isB k = false) (hk2 : isM k = true) (hm : m < 6) (i : Nat) : wc σ b c k (6 * b + m) i = c k m i := by
  unfold wc
  rw [if_neg (by rw [hk]; decide), if_pos hk2, if_pos (by omega)]
  rw [show (6 * b + m) % 6 = m by omega]
theorem wc_sb (σ : Mem) {b : Nat} (c : Mem) {k : Nat} (hk : isB k = true) (i : Nat) (v : Int32) : ms (wc σ b c) k b i v = wc σ b (ms c k 0 i v) := by
  funext k1 o1 i1
  by_cases e : k1 = k ∧ o1 = b ∧ i1 = i
  · obtain ⟨rfl, rfl, rfl⟩ := e
    rw [ms_eq, wc_b _ _ hk, ms_eq]
  · rw [ms_ne _ _ e]
    unfold wc
    by_cases h1 : isB k1 = true
    · rw [if_pos h1, if_pos h1]
      by_cases h2 : o1 = b
      · rw [if_pos h2, if_pos h2, ms_ne _ _ (fun z => e ⟨z.1, h2, z.2.2⟩)]
      · rw [if_neg h2, if_neg h2]
    · have h9 : k1 ≠ k := fun z => h1 (z ▸ hk)
      rw [if_neg h1, if_neg h1, ms_ne _ _ (fun z => h9 z.1)]
theorem wc_sm (σ : Mem) {b : Nat} (c : Mem) {k m : Nat} (hk : isB k = false) (hk2 : isM k = true) (hm : m < 6) (i : Nat) (v : Int32) : ms (wc σ b c) k (6 * b + m) i v = wc σ b (ms c k m i v) := by
  funext k1 o1 i1
  by_cases e : k1 = k ∧ o1 = 6 * b + m ∧ i1 = i
  · obtain ⟨rfl, rfl, rfl⟩ := e
    rw [ms_eq, wc_m _ _ hk hk2 hm, ms_eq]
  · rw [ms_ne _ _ e]
    unfold wc
    by_cases h1 : isB k1 = true
    · have h9 : k1 ≠ k := fun z => by rw [z, hk] at h1; cases h1
      rw [if_pos h1, if_pos h1, ms_ne _ _ (fun z => h9 z.1)]
    · rw [if_neg h1, if_neg h1]
      by_cases h3 : isM k1 = true
      · rw [if_pos h3, if_pos h3]
        by_cases h2 : o1 / 6 = b
        · rw [if_pos h2, if_pos h2, ms_ne _ _ (fun z => e ⟨z.1, by omega, z.2.2⟩)]
        · rw [if_neg h2, if_neg h2]
      · rw [if_neg h3, if_neg h3]
/-- a bus as it lies in the memory -/
def cOf (σ : Mem) (b : Nat) : Mem := fun k o i => if isB k = true then σ k b i else σ k (6 * b + o) i
theorem wc_self (σ : Mem) (b : Nat) : wc σ b (cOf σ b) = σ := by
  funext k o i
  unfold wc
  by_cases h1 : isB k = true
  · rw [if_pos h1]
    by_cases h2 : o = b
    · rw [if_pos h2]
      show (if isB k = true then σ k b i else _) = _
      rw [if_pos h1, h2]
    · rw [if_neg h2]
  · rw [if_neg h1]
    by_cases h3 : isM k = true
    · rw [if_pos h3]
      by_cases h2 : o / 6 = b
      · rw [if_pos h2]
        show (if isB k = true then _ else σ k (6 * b + o % 6) i) = _
        rw [if_neg h1, show 6 * b + o % 6 = o by omega]
      · rw [if_neg h2]
    · rw [if_neg h3]
theorem wc_wc (σ : Mem) (b : Nat) (c d : Mem) : wc (wc σ b c) b d = wc σ b d := by
  funext k o i
  show (if isB k = true then (if o = b then d k 0 i else wc σ b c k o i) else if isM k = true then (if o / 6 = b then d k (o % 6) i else wc σ b c k o i) else wc σ b c k o i) = wc σ b d k o i
  unfold wc
  by_cases h1 : isB k = true
  · by_cases h2 : o = b
    · simp only [if_pos h1, if_pos h2]
    · simp only [if_pos h1, if_neg h2]
  · by_cases h3 : isM k = true
    · by_cases h2 : o / 6 = b
      · simp only [if_neg h1, if_pos h3, if_pos h2]
      · simp only [if_neg h1, if_pos h3, if_neg h2]
    · simp only [if_neg h1, if_neg h3]
/-- the row's place of a cell of the class -/
def cj (k o i : Nat) : Nat := if k = 5 then 7 + i else if k = 4 then 11 + i else if k = 8 then 27 + 6 * o + i else if k < 13 then 63 + 38 * o + (8 + 3 * i + (k - 10)) else if k = 14 then 63 + 38 * o + (26 + i) else if k < 36 then k - 30 else if k < 48 then 63 + 38 * o + (k - 41) else if k = 50 then 63 + 38 * o + 0 else 63 + 38 * o + 7
/-- the cells that count -/
def Ok (S : Nat) (nb na : Nat → Nat) (k o i : Nat) : Prop :=
  (k = 5 ∧ o = 0 ∧ i < 4) ∨ (k = 4 ∧ o = 0 ∧ i < S ∧ i < 16) ∨ (k = 8 ∧ o < 6 ∧ i < 6) ∨ ((k = 10 ∨ k = 11 ∨ k = 12) ∧ o < 6 ∧ i < nb o ∧ i < 6) ∨ (k = 14 ∧ o < 6 ∧ i < na o ∧ i < 12) ∨ ((k = 30 ∨ k = 31 ∨ k = 32 ∨ k = 34) ∧ o = 0 ∧ i = 0) ∨ (42 ≤ k ∧ k < 48 ∧ o < 6 ∧ i = 0) ∨ ((k = 50 ∨ k = 51) ∧ o < 6 ∧ i = 0)
theorem cj_5 (o i : Nat) : cj 5 o i = 7 + i := Eq.trans rfl rfl
theorem cj_4 (o i : Nat) : cj 4 o i = 11 + i := Eq.trans rfl rfl
theorem cj_8 (o i : Nat) : cj 8 o i = 27 + 6 * o + i := Eq.trans rfl rfl
theorem cj_b (k o i : Nat) (h : k = 10 ∨ k = 11 ∨ k = 12) : cj k o i = 63 + 38 * o + (8 + 3 * i + (k - 10)) := by
  rcases h with rfl | rfl | rfl <;> rfl
theorem cj_14 (o i : Nat) : cj 14 o i = 63 + 38 * o + (26 + i) := Eq.trans rfl rfl
theorem cj_t (k o i : Nat) (h : k = 30 ∨ k = 31 ∨ k = 32 ∨ k = 34) : cj k o i = k - 30 := by
  rcases h with rfl | rfl | rfl | rfl <;> rfl
theorem cj_m (k o i : Nat) (h : 42 ≤ k) (h2 : k < 48) : cj k o i = 63 + 38 * o + (k - 41) := by
  unfold cj
  rw [if_neg (by omega), if_neg (by omega), if_neg (by omega), if_neg (by omega), if_neg (by omega), if_neg (by omega), if_pos h2]
theorem cj_50 (o i : Nat) : cj 50 o i = 63 + 38 * o + 0 := Eq.trans rfl rfl
theorem cj_51 (o i : Nat) : cj 51 o i = 63 + 38 * o + 7 := Eq.trans rfl rfl
/-- each kind of cell has its own stretch of the row -/
theorem Ok.cases {S : Nat} {nb na : Nat → Nat} {k o i : Nat} (h : Ok S nb na k o i) :
    (k = 5 ∧ o = 0 ∧ i < 4 ∧ cj k o i = 7 + i) ∨ (k = 4 ∧ o = 0 ∧ i < S ∧ i < 16 ∧ cj k o i = 11 + i) ∨ (k = 8 ∧ o < 6 ∧ i < 6 ∧ cj k o i = 27 + 6 * o + i) ∨ ((k = 10 ∨ k = 11 ∨ k = 12) ∧ o < 6 ∧ i < nb o ∧ i < 6 ∧ cj k o i = 63 + 38 * o + (8 + 3 * i + (k - 10))) ∨ (k = 14 ∧ o < 6 ∧ i < na o ∧ i < 12 ∧ cj k o i = 63 + 38 * o + (26 + i)) ∨
      ((k = 30 ∨ k = 31 ∨ k = 32 ∨ k = 34) ∧ o = 0 ∧ i = 0 ∧ cj k o i = k - 30) ∨ (42 ≤ k ∧ k < 48 ∧ o < 6 ∧ i = 0 ∧ cj k o i = 63 + 38 * o + (k - 41)) ∨ (k = 50 ∧ o < 6 ∧ i = 0 ∧ cj k o i = 63 + 38 * o + 0) ∨ (k = 51 ∧ o < 6 ∧ i = 0 ∧ cj k o i = 63 + 38 * o + 7) := by
  rcases h with ⟨rfl, h⟩ | ⟨rfl, h⟩ | ⟨rfl, h⟩ | ⟨h1, h⟩ | ⟨rfl, h⟩ | ⟨h1, h⟩ | ⟨h1, h2, h⟩ | ⟨h1, h⟩
  · exact Or.inl ⟨rfl, h.1, h.2, cj_5 _ _⟩
  · exact Or.inr (Or.inl ⟨rfl, h.1, h.2.1, h.2.2, cj_4 _ _⟩)
  · exact Or.inr (Or.inr (Or.inl ⟨rfl, h.1, h.2, cj_8 _ _⟩))
  · exact Or.inr (Or.inr (Or.inr (Or.inl ⟨h1, h.1, h.2.1, h.2.2, cj_b _ _ _ h1⟩)))
  · exact Or.inr (Or.inr (Or.inr (Or.inr (Or.inl ⟨rfl, h.1, h.2.1, h.2.2, cj_14 _ _⟩))))
  · exact Or.inr (Or.inr (Or.inr (Or.inr (Or.inr (Or.inl ⟨h1, h.1, h.2, cj_t _ _ _ h1⟩)))))
  · exact Or.inr (Or.inr (Or.inr (Or.inr (Or.inr (Or.inr (Or.inl ⟨h1, h2, h.1, h.2, cj_m _ _ _ h1 h2⟩))))))
  · rcases h1 with rfl | rfl
    · exact Or.inr (Or.inr (Or.inr (Or.inr (Or.inr (Or.inr (Or.inr (Or.inl ⟨rfl, h.1, h.2, cj_50 _ _⟩)))))))
    · exact Or.inr (Or.inr (Or.inr (Or.inr (Or.inr (Or.inr (Or.inr (Or.inr ⟨rfl, h.1, h.2, cj_51 _ _⟩)))))))
/-- what a cell is not, and its place is not -/
theorem Ok.ne {S : Nat} {nb na : Nat → Nat} {k o i : Nat} (h : Ok S nb na k o i) : k ≠ 33 ∧ k ≠ 35 ∧ k ≠ 40 ∧ k ≠ 41 ∧ cj k o i ≠ 3 ∧ cj k o i ≠ 5 ∧ cj k o i ≠ 6 := by
  have := h.cases
  omega
theorem sep38 {o r o1 r1 : Nat} (h : 63 + 38 * o + r = 63 + 38 * o1 + r1) (hr : r < 38) (h1 : r1 < 38) : o = o1 ∧ r = r1 := by omega
set_option maxHeartbeats 4000000 in
theorem Ok.inj {S S2 : Nat} {nb na nb2 na2 : Nat → Nat} {k o i k1 o1 i1 : Nat} (h : Ok S nb na k o i) (h1 : Ok S2 nb2 na2 k1 o1 i1) (e : cj k o i = cj k1 o1 i1) : k = k1 ∧ o = o1 ∧ i = i1 := by
  rcases h.cases with h | h | h | h | h | h | h | h | h <;> rcases h1.cases with h2 | h2 | h2 | h2 | h2 | h2 | h2 | h2 | h2 <;> first | omega | (have := sep38 (h.2.2.2.2.symm.trans (e.trans h2.2.2.2.2)) (by omega) (by omega); omega)
def E (S : Nat) (nb na : Nat → Nat) (q : QS) (x y : Int32) (f : Nat → Int32) (c : Mem) : Prop :=
  (∀ k o i, Ok S nb na k o i → c k o i = q (cj k o i)) ∧ c 33 0 0 = x ∧ c 35 0 0 = y ∧ (∀ m, c 41 m 0 = f m) ∧ ∀ m, m < 6 → c 40 m 0 = bI (bkQ q m)
variable {S : Nat} {nb na : Nat → Nat} {q : QS} {x y : Int32} {f : Nat → Int32} {c : Mem}
theorem bkQ_of {q r : QS} (h : r 6 = q 6) (m : Nat) : bkQ r m = bkQ q m := by unfold bkQ; rw [h]
theorem E.set (h : E S nb na q x y f c) {k o i : Nat} (hk : Ok S nb na k o i) (v : Int32) : E S nb na (qs q (cj k o i) v) x y f (ms c k o i v) := by
  have hn := hk.ne
  refine ⟨fun k1 o1 i1 h1 => ?_, ?_, ?_, fun m => ?_, fun m hm => ?_⟩
  · by_cases e : k1 = k ∧ o1 = o ∧ i1 = i
    · obtain ⟨rfl, rfl, rfl⟩ := e
      rw [ms_eq, qs_same]
    · rw [ms_ne _ _ e, qs_ne _ _ (fun z => e (h1.inj hk z))]
      exact h.1 k1 o1 i1 h1
  · rw [ms_ne _ _ (by omega)]; exact h.2.1
  · rw [ms_ne _ _ (by omega)]; exact h.2.2.1
  · rw [ms_ne _ _ (by omega)]; exact h.2.2.2.1 m
  · rw [ms_ne _ _ (by omega), bkQ_of (qs_ne _ _ (fun z => hn.2.2.2.2.2.2 z.symm))]; exact h.2.2.2.2 m hm
theorem E.less {nb2 na2 : Nat → Nat} (h : E S nb na q x y f c) (h1 : ∀ m, m < 6 → nb2 m ≤ nb m) (h2 : ∀ m, m < 6 → na2 m ≤ na m) : E S nb2 na2 q x y f c :=
  ⟨fun k o i hk => h.1 k o i (by
    rcases hk with h3 | h3 | h3 | h3 | h3 | h3
    · exact Or.inl h3
    · exact Or.inr (Or.inl h3)
    · exact Or.inr (Or.inr (Or.inl h3))
    · exact Or.inr (Or.inr (Or.inr (Or.inl ⟨h3.1, h3.2.1, Nat.lt_of_lt_of_le h3.2.2.1 (h1 o h3.2.1), h3.2.2.2⟩)))
    · exact Or.inr (Or.inr (Or.inr (Or.inr (Or.inl ⟨h3.1, h3.2.1, Nat.lt_of_lt_of_le h3.2.2.1 (h2 o h3.2.1), h3.2.2.2⟩))))
    · exact Or.inr (Or.inr (Or.inr (Or.inr (Or.inr h3))))), h.2⟩
/-- a row that differs only where nothing counts -/
theorem E.row (h : E S nb na q x y f c) {r : QS} (e : ∀ k o i, Ok S nb na k o i → r (cj k o i) = q (cj k o i)) (e6 : r 6 = q 6) : E S nb na r x y f c :=
  ⟨fun k o i hk => (h.1 k o i hk).trans (e k o i hk).symm, h.2.1, h.2.2.1, h.2.2.2.1, fun m hm => by rw [bkQ_of e6]; exact h.2.2.2.2 m hm⟩
theorem E.sx (h : E S nb na q x y f c) (v : Int32) : E S nb na q v y f (ms c 33 0 0 v) :=
  ⟨fun k o i hk => by have := hk.ne; rw [ms_ne _ _ (by omega)]; exact h.1 k o i hk, ms_eq _ _ _ _ _, by rw [ms_ne _ _ (by omega)]; exact h.2.2.1, fun m => by rw [ms_ne _ _ (by omega)]; exact h.2.2.2.1 m, fun m hm => by rw [ms_ne _ _ (by omega)]; exact h.2.2.2.2 m hm⟩
theorem E.sy (h : E S nb na q x y f c) (v : Int32) : E S nb na q x v f (ms c 35 0 0 v) :=
  ⟨fun k o i hk => by have := hk.ne; rw [ms_ne _ _ (by omega)]; exact h.1 k o i hk, by rw [ms_ne _ _ (by omega)]; exact h.2.1, ms_eq _ _ _ _ _, fun m => by rw [ms_ne _ _ (by omega)]; exact h.2.2.2.1 m, fun m hm => by rw [ms_ne _ _ (by omega)]; exact h.2.2.2.2 m hm⟩
theorem E.sf (h : E S nb na q x y f c) (m : Nat) (v : Int32) : E S nb na q x y (fun i => if i = m then v else f i) (ms c 41 m 0 v) :=
  ⟨fun k o i hk => by have := hk.ne; rw [ms_ne _ _ (by omega)]; exact h.1 k o i hk, by rw [ms_ne _ _ (by omega)]; exact h.2.1, by rw [ms_ne _ _ (by omega)]; exact h.2.2.1, fun i => by
    by_cases e : i = m
    · subst e; rw [ms_eq]; exact (if_pos rfl).symm
    · rw [ms_ne _ _ (by omega)]; exact (h.2.2.2.1 i).trans (if_neg e).symm, fun m2 hm => by rw [ms_ne _ _ (by omega)]; exact h.2.2.2.2 m2 hm⟩
theorem E.t0 (h : E S nb na q x y f c) : c 30 0 0 = q 0 := h.1 30 0 0 (Or.inr (Or.inr (Or.inr (Or.inr (Or.inr (Or.inl ⟨by omega, rfl, rfl⟩))))))
theorem E.t1 (h : E S nb na q x y f c) : c 31 0 0 = q 1 := h.1 31 0 0 (Or.inr (Or.inr (Or.inr (Or.inr (Or.inr (Or.inl ⟨by omega, rfl, rfl⟩))))))
theorem E.t2 (h : E S nb na q x y f c) : c 32 0 0 = q 2 := h.1 32 0 0 (Or.inr (Or.inr (Or.inr (Or.inr (Or.inr (Or.inl ⟨by omega, rfl, rfl⟩))))))
theorem E.t4 (h : E S nb na q x y f c) : c 34 0 0 = q 4 := h.1 34 0 0 (Or.inr (Or.inr (Or.inr (Or.inr (Or.inr (Or.inl ⟨by omega, rfl, rfl⟩))))))
theorem E.tx (h : E S nb na q x y f c) : c 33 0 0 = x := h.2.1
theorem E.ty (h : E S nb na q x y f c) : c 35 0 0 = y := h.2.2.1
theorem E.lat (h : E S nb na q x y f c) {s : Nat} (hs : s < 4) : c 5 0 s = q (7 + s) := h.1 5 0 s (Or.inl ⟨rfl, rfl, hs⟩)
theorem E.own (h : E S nb na q x y f c) {s : Nat} (hs : s < S) (hs2 : s < 16) : c 4 0 s = q (11 + s) := h.1 4 0 s (Or.inr (Or.inl ⟨rfl, rfl, hs, hs2⟩))
theorem E.ow (h : E S nb na q x y f c) {a b : Nat} (ha : a < 6) (hb : b < 6) : c 8 a b = owQ q a b := h.1 8 a b (Or.inr (Or.inr (Or.inl ⟨rfl, ha, hb⟩)))
theorem E.bur (h : E S nb na q x y f c) {m k : Nat} (hm : m < 6) (hk : k < nb m) (hk2 : k < 6) : c 10 m k = mQ q m (8 + 3 * k) ∧ c 11 m k = mQ q m (9 + 3 * k) ∧ c 12 m k = mQ q m (10 + 3 * k) := by
  have h1 := h.1 10 m k (Or.inr (Or.inr (Or.inr (Or.inl ⟨by omega, hm, hk, hk2⟩))))
  have h2 := h.1 11 m k (Or.inr (Or.inr (Or.inr (Or.inl ⟨by omega, hm, hk, hk2⟩))))
  have h3 := h.1 12 m k (Or.inr (Or.inr (Or.inr (Or.inl ⟨by omega, hm, hk, hk2⟩))))
  rw [cj_b _ _ _ (by omega)] at h1 h2 h3
  refine ⟨h1.trans (congrArg q ?_), h2.trans (congrArg q ?_), h3.trans (congrArg q ?_)⟩ <;> omega
theorem E.ans (h : E S nb na q x y f c) {m k : Nat} (hm : m < 6) (hk : k < na m) (hk2 : k < 12) : c 14 m k = mQ q m (26 + k) := h.1 14 m k (Or.inr (Or.inr (Or.inr (Or.inr (Or.inl ⟨rfl, hm, hk, hk2⟩)))))
theorem E.cnt (h : E S nb na q x y f c) {m j : Nat} (hm : m < 6) (hj : 1 ≤ j) (hj2 : j < 7) : c (41 + j) m 0 = mQ q m j := by
  have h1 := h.1 (41 + j) m 0 (Or.inr (Or.inr (Or.inr (Or.inr (Or.inr (Or.inr (Or.inl ⟨by omega, by omega, hm, rfl⟩)))))))
  rw [cj_m _ _ _ (by omega) (by omega)] at h1
  exact h1.trans (congrArg q (by omega))
theorem E.tnb (h : E S nb na q x y f c) {m : Nat} (hm : m < 6) : c 50 m 0 = mQ q m 0 := h.1 50 m 0 (Or.inr (Or.inr (Or.inr (Or.inr (Or.inr (Or.inr (Or.inr ⟨by omega, hm, rfl⟩)))))))
theorem E.tna (h : E S nb na q x y f c) {m : Nat} (hm : m < 6) : c 51 m 0 = mQ q m 7 := h.1 51 m 0 (Or.inr (Or.inr (Or.inr (Or.inr (Or.inr (Or.inr (Or.inr ⟨by omega, hm, rfl⟩)))))))
theorem E.bk (h : E S nb na q x y f c) {m : Nat} (hm : m < 6) : c 40 m 0 = bI (bkQ q m) := h.2.2.2.2 m hm
theorem E.fl (h : E S nb na q x y f c) (m : Nat) : c 41 m 0 = f m := h.2.2.2.1 m
end CLS
