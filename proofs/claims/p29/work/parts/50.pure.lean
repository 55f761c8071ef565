/-! PURE ROWS: the decompiled functions' words, numbers, loops; the reference's row of 291 numbers -/
section PURE
theorem nmS {α β : Sort _} (a : α) (f : α → β) : nm a f = f a := Eq.trans rfl rfl
theorem bdS {α β : Type} (a : α) (s : Mem) (f : α → Mem → Option β) : bd (some (a, s)) f = f a s := Eq.trans rfl rfl
theorem bvS {β : Type} (s : Mem) (f : Mem → Option β) : bv (some s) f = f s := Eq.trans rfl rfl
theorem gdT {α : Type} (x : Option α) : gd true x = x := Eq.trans rfl rfl
theorem gdI {α : Type} {c : Bool} (h : c = true) (x : Option α) : gd c x = x := by rw [h]; rfl
theorem bxL {α β : Type} (e : Nat) (s : Mem) (f : Nat → Mem → Option β) (g : α → Mem → Option β) : bx (some (.inl e, s)) f g = f e s := Eq.trans rfl rfl
theorem bxR {α β : Type} (a : α) (s : Mem) (f : Nat → Mem → Option β) (g : α → Mem → Option β) : bx (some (.inr a, s)) f g = g a s := Eq.trans rfl rfl
theorem lit (n : Nat) : (OfNat.ofNat n : Int32) = nI n := Eq.trans rfl rfl
theorem ib_nI {n N : Nat} (h : n < N) (hN : N < 2 ^ 31) : ib (nI n) N = true := by
  unfold ib
  rw [nI_clamp (Nat.lt_trans h hN), decide_eq_true (nI_pos' (Nat.lt_trans h hN)), decide_eq_true h]
  rfl
theorem nI_m1 (n : Nat) : nI (n + 1) + -nI 1 = nI n := pk_m1 n
theorem nI_s1 (n : Nat) : nI (n + 1) - nI 1 = nI n := nI_pred n
/-- a loop that goes up, a state for each number of rounds -/
theorem lup {α β : Type _} (L : Nat → α → β) (S : Nat → α) (N : Nat) (res : β) (hs : ∀ n i, i < N → L (n + 1) (S i) = L n (S (i + 1))) (he : ∀ n, L (n + 1) (S N) = res) : ∀ d i n : Nat, i + d = N → d < n → L n (S i) = res := by
  intro d
  induction d with
  | zero =>
    intro i n h1 h2
    obtain rfl : i = N := h1
    obtain ⟨k, rfl⟩ : ∃ k, n = k + 1 := ⟨n - 1, by omega⟩
    exact he k
  | succ d ih =>
    intro i n h1 h2
    obtain ⟨k, rfl⟩ : ∃ k, n = k + 1 := ⟨n - 1, by omega⟩
    rw [hs k i (by omega)]
    exact ih (i + 1) k (by omega) (by omega)
/-- the same, with a first round that ends it -/
theorem lupX {α β : Type _} (L : Nat → α → β) (S : Nat → α) (N : Nat) (p : Nat → Bool) (r : Nat → β) (hs : ∀ n i, i < N → p i = false → L (n + 1) (S i) = L n (S (i + 1))) (hx : ∀ n i, i < N → p i = true → L (n + 1) (S i) = r i) (k : Nat) (hk : k < N) (hp : p k = true) (hf : ∀ j, j < k → p j = false) :
    ∀ d i n : Nat, i + d = k → d < n → L n (S i) = r k := by
  intro d
  induction d with
  | zero =>
    intro i n h1 h2
    obtain rfl : i = k := h1
    obtain ⟨z, rfl⟩ : ∃ z, n = z + 1 := ⟨n - 1, by omega⟩
    exact hx z i hk hp
  | succ d ih =>
    intro i n h1 h2
    obtain ⟨z, rfl⟩ : ∃ z, n = z + 1 := ⟨n - 1, by omega⟩
    rw [hs z i (by omega) (hf i (by omega))]
    exact ih (i + 1) z (by omega) (by omega)
def sumF (f : Nat → Int32) : Nat → Int32
  | 0 => 0
  | n + 1 => sumF f n + f n
theorem sumF_congr {f g : Nat → Int32} : ∀ {n : Nat}, (∀ i, i < n → f i = g i) → sumF f n = sumF g n
  | 0, _ => rfl
  | n + 1, h => by
    show sumF f n + f n = sumF g n + g n
    rw [sumF_congr fun i hi => h i (by omega), h n (by omega)]
/-- the first number below n that has p -/
def firstN (p : Nat → Bool) : Nat → Option Nat
  | 0 => none
  | n + 1 => match firstN p n with
    | some k => some k
    | none => if p n = true then some n else none
theorem firstN_some {p : Nat → Bool} : ∀ {n k : Nat}, firstN p n = some k → k < n ∧ p k = true ∧ ∀ j, j < k → p j = false
  | 0, k, h => by cases h
  | n + 1, k, h => by
    unfold firstN at h
    cases e : firstN p n with
    | some k2 =>
      rw [e] at h
      cases h
      obtain ⟨h1, h2, h3⟩ := firstN_some e
      exact ⟨by omega, h2, h3⟩
    | none =>
      rw [e] at h
      by_cases q : p n = true
      · simp only [q, if_true] at h
        cases h
        refine ⟨by omega, q, fun j hj => ?_⟩
        exact firstN_none e j hj
      · simp only [q] at h
        cases h
where firstN_none {p : Nat → Bool} : ∀ {n : Nat}, firstN p n = none → ∀ j, j < n → p j = false
  | 0, _, j, hj => absurd hj (Nat.not_lt_zero j)
  | n + 1, h, j, hj => by
    unfold firstN at h
    cases e : firstN p n with
    | some k2 => rw [e] at h; cases h
    | none =>
      rw [e] at h
      by_cases q : p n = true
      · simp only [q, if_true] at h; cases h
      · rcases Nat.lt_or_ge j n with q2 | q2
        · exact firstN_none e j q2
        · obtain rfl : j = n := by omega
          exact Bool.eq_false_iff.mpr q
theorem firstN_none {p : Nat → Bool} {n : Nat} (h : firstN p n = none) : ∀ j, j < n → p j = false := firstN_some.firstN_none h
theorem firstN_is {p : Nat → Bool} {n k : Nat} (hk : k < n) (hp : p k = true) (hf : ∀ j, j < k → p j = false) : firstN p n = some k := by
  cases e : firstN p n with
  | none => rw [firstN_none e k hk] at hp; cases hp
  | some k2 =>
    obtain ⟨h1, h2, h3⟩ := firstN_some e
    rcases Nat.lt_trichotomy k k2 with q | q | q
    · rw [h3 k q] at hp; cases hp
    · rw [q]
    · rw [hf k2 q] at h2; cases h2
theorem firstN_no {p : Nat → Bool} {n : Nat} (h : ∀ j, j < n → p j = false) : firstN p n = none := by
  cases e : firstN p n with
  | none => rfl
  | some k2 =>
    obtain ⟨h1, h2, h3⟩ := firstN_some e
    rw [h k2 h1] at h2; cases h2
theorem firstN_congr {p r : Nat → Bool} : ∀ {n : Nat}, (∀ i, i < n → p i = r i) → firstN p n = firstN r n
  | 0, _ => rfl
  | n + 1, h => by
    unfold firstN
    rw [firstN_congr fun i hi => h i (by omega), h n (by omega)]
/-- the best number below n that may: the first one among those where f is greatest -/
def bestN (may : Nat → Bool) (f : Nat → Int32) : Nat → Option Nat
  | 0 => none
  | n + 1 => if may n = true then (match bestN may f n with
      | none => some n
      | some c => if f c < f n then some n else some c) else bestN may f n
theorem bestN_congr {may may2 : Nat → Bool} {f g : Nat → Int32} : ∀ {n : Nat}, (∀ i, i < n → may i = may2 i) → (∀ i, i < n → f i = g i) → bestN may f n = bestN may2 g n
  | 0, _, _ => rfl
  | n + 1, h, h2 => by
    unfold bestN
    have ih := bestN_congr (n := n) (fun i hi => h i (by omega)) (fun i hi => h2 i (by omega))
    rw [← ih, h n (by omega)]
    cases e : bestN may f n with
    | none => rfl
    | some c =>
      have hc : c < n := bestN_lt e
      dsimp only
      rw [h2 n (by omega), h2 c (by omega)]
where bestN_lt {may : Nat → Bool} {f : Nat → Int32} : ∀ {n c : Nat}, bestN may f n = some c → c < n
  | 0, c, h => by cases h
  | n + 1, c, h => by
    unfold bestN at h
    by_cases q : may n = true
    · rw [if_pos q] at h
      cases e : bestN may f n with
      | none => rw [e] at h; cases h; omega
      | some c2 =>
        rw [e] at h
        dsimp only at h
        have := bestN_lt e
        by_cases q2 : f c2 < f n
        · rw [if_pos q2] at h; cases h; omega
        · rw [if_neg q2] at h; cases h; omega
    · rw [if_neg q] at h
      have := bestN_lt h
      omega
theorem bestN_lt {may : Nat → Bool} {f : Nat → Int32} {n c : Nat} (h : bestN may f n = some c) : c < n := bestN_congr.bestN_lt h
theorem bestN_may {may : Nat → Bool} {f : Nat → Int32} : ∀ {n c : Nat}, bestN may f n = some c → may c = true
  | 0, c, h => by cases h
  | n + 1, c, h => by
    unfold bestN at h
    by_cases q : may n = true
    · rw [if_pos q] at h
      cases e : bestN may f n with
      | none => rw [e] at h; cases h; exact q
      | some c2 =>
        rw [e] at h
        dsimp only at h
        by_cases q2 : f c2 < f n
        · rw [if_pos q2] at h; cases h; exact q
        · rw [if_neg q2] at h; cases h; exact bestN_may e
    · rw [if_neg q] at h
      exact bestN_may h
theorem bestN_none {may : Nat → Bool} {f : Nat → Int32} : ∀ {n : Nat}, bestN may f n = none → ∀ j, j < n → may j = false
  | 0, _, j, hj => absurd hj (Nat.not_lt_zero j)
  | n + 1, h, j, hj => by
    unfold bestN at h
    by_cases q : may n = true
    · rw [if_pos q] at h
      cases e : bestN may f n with
      | none => rw [e] at h; cases h
      | some c2 =>
        rw [e] at h
        dsimp only at h
        by_cases q2 : f c2 < f n
        · rw [if_pos q2] at h; cases h
        · rw [if_neg q2] at h; cases h
    · rw [if_neg q] at h
      rcases Nat.lt_or_ge j n with q2 | q2
      · exact bestN_none h j q2
      · obtain rfl : j = n := by omega
        exact Bool.eq_false_iff.mpr q
/-- nobody: -1 -/
def oI : Option Nat → Int32
  | none => -1
  | some k => nI k
/-- nobody: -9 -/
def oN : Option Nat → Int32
  | none => -9
  | some k => nI k
def bI (b : Bool) : Int32 := if b = true then 1 else 0
/-- bits -/
def mk (p : Nat → Bool) : Nat → Int32
  | 0 => 0
  | n + 1 => mk p n ||| (if p n = true then 1 <<< (nI n &&& 31) else 0)
theorem mk_congr {p r : Nat → Bool} : ∀ {n : Nat}, (∀ i, i < n → p i = r i) → mk p n = mk r n
  | 0, _ => rfl
  | n + 1, h => by
    show mk p n ||| _ = mk r n ||| _
    rw [mk_congr fun i hi => h i (by omega), h n (by omega)]
def bL (a0 a1 a2 a3 a4 a5 : Bool) (i : Nat) : Bool := [a0, a1, a2, a3, a4, a5].getD i false
theorem bL_is (p : Nat → Bool) {i : Nat} (h : i < 6) : p i = bL (p 0) (p 1) (p 2) (p 3) (p 4) (p 5) i := by
  match i, h with
  | 0, _ => rfl
  | 1, _ => rfl
  | 2, _ => rfl
  | 3, _ => rfl
  | 4, _ => rfl
  | 5, _ => rfl
  | n + 6, h => exact absurd h (by omega)
theorem mk_bit_t : ∀ (a0 a1 a2 a3 a4 a5 : Bool) (n : Fin 7) (m : Fin 6), ((mk (bL a0 a1 a2 a3 a4 a5) n.val >>> (nI m.val &&& 31)) &&& 1 = 1) ↔ (m.val < n.val ∧ bL a0 a1 a2 a3 a4 a5 m.val = true) := by decide +kernel
theorem mk_bit {p : Nat → Bool} {n m : Nat} (hn : n ≤ 6) (hm : m < 6) : ((mk p n >>> (nI m &&& 31)) &&& 1 = 1) ↔ (m < n ∧ p m = true) := by
  have h := mk_bit_t (p 0) (p 1) (p 2) (p 3) (p 4) (p 5) ⟨n, by omega⟩ ⟨m, hm⟩
  rw [← bL_is p hm] at h
  rw [mk_congr (r := bL (p 0) (p 1) (p 2) (p 3) (p 4) (p 5)) (fun i hi => bL_is p (by omega))]
  exact h
theorem mk_or_t : ∀ (a0 a1 a2 a3 a4 a5 : Bool) (n : Fin 7) (m : Fin 6), m.val < n.val → mk (bL a0 a1 a2 a3 a4 a5) n.val ||| (1 <<< (nI m.val &&& 31)) = mk (fun i => bL a0 a1 a2 a3 a4 a5 i || decide (i = m.val)) n.val := by decide +kernel
theorem mk_or {p : Nat → Bool} {n m : Nat} (hn : n ≤ 6) (hm : m < n) : mk p n ||| (1 <<< (nI m &&& 31)) = mk (fun i => p i || decide (i = m)) n := by
  have h := mk_or_t (p 0) (p 1) (p 2) (p 3) (p 4) (p 5) ⟨n, by omega⟩ ⟨m, by omega⟩ hm
  rw [mk_congr (p := p) (r := bL (p 0) (p 1) (p 2) (p 3) (p 4) (p 5)) (fun i hi => bL_is p (by omega)), h]
  exact mk_congr fun i hi => by rw [← bL_is p (i := i) (by omega)]
/-- the reference's row of numbers -/
abbrev QS : Type := Nat → Int32
def qs (q : QS) (i : Nat) (v : Int32) : QS := fun j => if j = i then v else q j
def wq (σ : Mem) (q : QS) : Mem := fun k o i => if k = 20 ∧ o = 0 then q i else σ k o i
theorem wq_get (σ : Mem) (q : QS) (i : Nat) : wq σ q 20 0 i = q i := if_pos ⟨rfl, rfl⟩
theorem wq_set (σ : Mem) (q : QS) (i : Nat) (v : Int32) : ms (wq σ q) 20 0 i v = wq σ (qs q i v) := by
  funext k o j
  unfold ms wq qs
  by_cases e : k = 20 ∧ o = 0
  · obtain ⟨rfl, rfl⟩ := e
    simp
  · rw [if_neg (fun h => e ⟨h.1, h.2.1⟩), if_neg e, if_neg e]
theorem wq_self (σ : Mem) : wq σ (σ 20 0) = σ := by
  funext k o j
  unfold wq
  by_cases e : k = 20 ∧ o = 0
  · obtain ⟨rfl, rfl⟩ := e
    simp
  · rw [if_neg e]
theorem wq_other (σ : Mem) (q : QS) {k o : Nat} (i : Nat) (h : ¬ (k = 20 ∧ o = 0)) : wq σ q k o i = σ k o i := if_neg h
theorem wq_wq (σ : Mem) (q r : QS) : wq (wq σ q) r = wq σ r := by
  funext k o j
  unfold wq
  by_cases e : k = 20 ∧ o = 0
  · rw [if_pos e, if_pos e]
  · rw [if_neg e, if_neg e, if_neg e]
theorem wq_ms (σ : Mem) (q : QS) {k o : Nat} (i : Nat) (v : Int32) (h : ¬ (k = 20 ∧ o = 0)) : ms (wq σ q) k o i v = wq (ms σ k o i v) q := by
  funext k1 o1 j
  unfold ms wq
  by_cases e : k1 = 20 ∧ o1 = 0
  · have z1 : ¬ (k1 = k ∧ o1 = o ∧ j = i) := fun z => h ⟨z.1 ▸ e.1, z.2.1 ▸ e.2⟩
    rw [if_neg z1, if_pos e, if_pos e]
  · rw [if_neg e, if_neg e]
theorem qs_same (q : QS) (i : Nat) (v : Int32) : qs q i v i = v := if_pos rfl
theorem qs_ne (q : QS) {i j : Nat} (v : Int32) (h : j ≠ i) : qs q i v j = q j := if_neg h
end PURE
