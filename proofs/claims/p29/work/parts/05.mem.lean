/-! THE MEMORY OF THE SYSTEM as numbers: every int, boolean and char that the class and the reference hold stands at (key, object, index); references are a fixed graph. -/
section MEM
abbrev Mem : Type := Nat → Nat → Nat → Int32
def ms (σ : Mem) (k o i : Nat) (v : Int32) : Mem := fun k1 o1 i1 => if k1 = k ∧ o1 = o ∧ i1 = i then v else σ k1 o1 i1
abbrev Gr : Type := Nat → Nat → Nat → Option Nat
def gs (g : Gr) (k o i : Nat) (v : Option Nat) : Gr := fun k1 o1 i1 => if k1 = k ∧ o1 = o ∧ i1 = i then v else g k1 o1 i1
/-- context: the first address, the classes' numbers, the array classes' numbers -/
abbrev Kx : Type := Nat × va_G × (Nat → ClassId)
/-- which cells there are, the references, the longs of the law's row, how many cells there are by now (in the law's first calls) -/
abbrev Wv : Type := (Nat → Nat → Prop) × Gr × (Nat → Int64) × Option Nat
/-- what a kind is: 6 an object; else an array: 0 int, 1 boolean, 2 char, 3 long, 4 of Master, 5 of Bus -/
def kT : Nat → Nat
  | 2 => 2 | 4 => 0 | 5 => 0 | 6 => 4 | 8 => 0 | 10 => 0 | 11 => 0 | 12 => 1 | 14 => 0 | 16 => 5 | 17 => 5 | 18 => 1
  | 20 => 0 | 21 => 0 | 22 => 0 | 23 => 1 | 24 => 0 | 25 => 0 | 26 => 3 | _ => 6
def kL : Nat → Nat
  | 2 => 120 | 4 => 16 | 5 => 4 | 6 => 6 | 8 => 6 | 10 => 6 | 11 => 6 | 12 => 6 | 14 => 10 | 16 => 14 | 17 => 2 | 18 => 2
  | 20 => 291 | 21 => 4074 | 22 => 582 | 23 => 2 | 24 => 120 | 25 => 6 | 26 => 1 | _ => 0
def kCi : Nat → Nat
  | 0 => 6 | 1 => 3 | 3 => 2 | 7 => 5 | 9 => 1 | 13 => 0 | 15 => 4 | 19 => 7 | _ => 99
def kF : Nat → List (Bool × Nat)
  | 0 => [(true, 70), (true, 71), (true, 72), (true, 73), (true, 74), (true, 75), (true, 76)]
  | 1 => [(false, 54), (true, 77), (false, 55), (false, 56)]
  | 3 => [(false, 30), (false, 31), (false, 32), (false, 33), (false, 34), (false, 35), (true, 78), (true, 79), (true, 80)]
  | 7 => [(true, 81), (true, 82), (true, 83), (false, 40), (false, 41), (false, 42), (false, 43), (false, 44), (false, 45), (false, 46), (false, 47)]
  | 9 => [(false, 50), (true, 84), (true, 85), (true, 86)]
  | 13 => [(false, 51), (true, 87)]
  | 15 => [(false, 52), (false, 53), (true, 88)]
  | 19 => [(true, 89), (true, 90), (true, 91), (true, 92), (false, 60), (true, 93), (true, 94), (true, 95), (false, 61), (false, 62), (false, 63), (false, 64), (false, 65), (false, 66), (true, 96)]
  | _ => []
def kCnt : Nat → Nat
  | 3 => 19 | 4 => 19 | 5 => 19 | 6 => 19
  | 7 => 114 | 8 => 114 | 9 => 114 | 10 => 114 | 11 => 114 | 12 => 114 | 13 => 114 | 14 => 114 | 20 => 3
  | n => if n < 27 then 1 else 0
/-- whose a key is -/
def kOwn (k : Nat) : Nat := if k < 30 then k else if k < 40 then 3 else if k < 50 then 7 else if k = 50 then 9 else if k = 51 then 13 else if k < 54 then 15 else if k < 60 then 1 else if k < 70 then 19 else
  if k < 77 then 0 else if k = 77 then 1 else if k < 81 then 3 else if k < 84 then 7 else if k < 87 then 9 else if k = 87 then 13 else if k = 88 then 15 else 19
def bb (b : Nat) : Nat := if b = 0 then 3 else if b ≤ 14 then 5 + 52 * b else 7 + 52 * b
def off (K o : Nat) : Nat :=
  if K < 3 then K else if K < 7 then bb o + (K - 3) else if K < 15 then bb (o / 6) + 4 + 8 * (o % 6) + (K - 7) else if K < 17 then 40 + K else if K < 19 then 768 + K else if K = 19 then 995 else if K = 20 then 996 + o else 978 + K
def ad (n0 K o : Nat) : Nat := n0 + off K o
/-- the kind and number at a place of the room -/
def inv (n : Nat) : Nat × Nat :=
  if n < 3 then (n, 0) else
  if n = 55 then (15, 0) else if n = 56 then (16, 0) else if n = 785 then (17, 0) else if n = 786 then (18, 0) else if n = 995 then (19, 0) else
  if 999 ≤ n then (n - 978, 0) else if 996 ≤ n then (20, n - 996) else
  let b := if n < 55 then 0 else if n < 785 then (n - 5) / 52 else (n - 7) / 52
  let r := n - bb b
  if r < 4 then (3 + r, b) else (7 + (r - 4) % 8, 6 * b + (r - 4) / 8)
theorem inv_off : ((List.range 27).all fun K => (List.range (kCnt K)).all fun o => inv (off K o) == (K, o)) = true := by decide +kernel
theorem kCnt_lt {K o : Nat} (h : o < kCnt K) : K < 27 := by
  rcases Nat.lt_or_ge K 27 with q | q
  · exact q
  · have e : kCnt K = 0 := by
      unfold kCnt
      split <;> first | omega | (rw [if_neg (by omega)])
    omega
theorem inv_of {K o : Nat} (h : o < kCnt K) : inv (off K o) = (K, o) := by
  have h1 := List.all_eq_true.mp inv_off K (List.mem_range.mpr (kCnt_lt h))
  have h2 := List.all_eq_true.mp h1 o (List.mem_range.mpr h)
  exact eq_of_beq h2
theorem ad_inj {n0 K o K1 o1 : Nat} (h : o < kCnt K) (h1 : o1 < kCnt K1) (e : ad n0 K o = ad n0 K1 o1) : K = K1 ∧ o = o1 := by
  have e1 : off K o = off K1 o1 := Nat.add_left_cancel e
  have e2 := inv_of h
  rw [e1, inv_of h1] at e2
  cases e2
  exact ⟨rfl, rfl⟩
/-- what a cell holds -/
def ent (dA : Nat → ClassId) (g : Gr) (σ : Mem) (τ : Nat → Int64) (K o : Nat) : va_E :=
  if kT K = 6 then .inr (kCi K, (kF K).map fun f => if f.1 then va_rf (g f.2 o 0) else .int (σ f.2 o 0))
  else if kT K = 3 then .inl (dA 3, kL K, .inr (.inl τ))
  else if 4 ≤ kT K then .inl (dA (kT K), kL K, .inr (.inr (.inr (.inr (g K o)))))
  else .inl (dA (kT K), kL K, .inl (σ K o))
theorem ent_obj {dA : Nat → ClassId} {g : Gr} {σ : Mem} {τ : Nat → Int64} {K o : Nat} (h : kT K = 6) : ent dA g σ τ K o = .inr (kCi K, (kF K).map fun f => if f.1 then va_rf (g f.2 o 0) else .int (σ f.2 o 0)) := if_pos h
theorem ent_int {dA : Nat → ClassId} {g : Gr} {σ : Mem} {τ : Nat → Int64} {K o : Nat} (h : kT K < 3) : ent dA g σ τ K o = .inl (dA (kT K), kL K, .inl (σ K o)) := by
  unfold ent
  rw [if_neg (by omega), if_neg (by omega), if_neg (by omega)]
theorem ent_long {dA : Nat → ClassId} {g : Gr} {σ : Mem} {τ : Nat → Int64} {K o : Nat} (h : kT K = 3) : ent dA g σ τ K o = .inl (dA 3, kL K, .inr (.inl τ)) := by
  unfold ent
  rw [if_neg (by omega), if_pos h]
theorem ent_ref {dA : Nat → ClassId} {g : Gr} {σ : Mem} {τ : Nat → Int64} {K o : Nat} (h : 4 ≤ kT K) (h6 : kT K < 6) : ent dA g σ τ K o = .inl (dA (kT K), kL K, .inr (.inr (.inr (.inr (g K o))))) := by
  unfold ent
  rw [if_neg (by omega), if_neg (by omega), if_pos h]
theorem kF_own : ((List.range 27).all fun K => (kF K).all fun f => kOwn f.2 == K) = true := by decide +kernel
theorem kF_nil {K : Nat} (h : 27 ≤ K) : kF K = [] := by
  unfold kF
  split <;> first | omega | rfl
theorem kF_of {K : Nat} {f : Bool × Nat} (h : f ∈ kF K) : kOwn f.2 = K := by
  rcases Nat.lt_or_ge K 27 with q | q
  · exact eq_of_beq (List.all_eq_true.mp (List.all_eq_true.mp kF_own K (List.mem_range.mpr q)) f h)
  · rw [kF_nil q] at h; cases h
theorem kT_lt {K : Nat} (h : ¬ kT K = 6) : K < 27 := by
  rcases Nat.lt_or_ge K 27 with q | q
  · exact q
  · refine absurd ?_ h
    unfold kT
    split <;> first | omega | rfl
theorem kOwn_arr {K : Nat} (h : ¬ kT K = 6) : kOwn K = K := by
  have := kT_lt h
  unfold kOwn
  rw [if_pos (by omega)]
/-- a store is seen in one cell alone -/
theorem ent_other {dA : Nat → ClassId} {g : Gr} {σ : Mem} {τ : Nat → Int64} {K o key i : Nat} {v : Int32} (hk : kOwn key = K) {K1 o1 : Nat} (h : ¬ (K1 = K ∧ o1 = o)) : ent dA g (ms σ key o i v) τ K1 o1 = ent dA g σ τ K1 o1 := by
  by_cases h6 : kT K1 = 6
  · rw [ent_obj h6, ent_obj h6]
    congr 2
    refine List.map_congr_left fun f hf => ?_
    have e : ms σ key o i v f.2 o1 0 = σ f.2 o1 0 := if_neg fun q => h ⟨by rw [← kF_of hf, q.1, hk], q.2.1⟩
    rw [e]
  · have e : ms σ key o i v K1 o1 = σ K1 o1 := by
      funext j
      exact if_neg fun q => h ⟨by rw [← kOwn_arr h6, q.1, hk], q.2.1⟩
    unfold ent
    rw [if_neg h6, if_neg h6, e]
theorem ent_gother {dA : Nat → ClassId} {g : Gr} {σ : Mem} {τ : Nat → Int64} {K o key i : Nat} {v : Option Nat} (hk : kOwn key = K) {K1 o1 : Nat} (h : ¬ (K1 = K ∧ o1 = o)) : ent dA (gs g key o i v) σ τ K1 o1 = ent dA g σ τ K1 o1 := by
  by_cases h6 : kT K1 = 6
  · rw [ent_obj h6, ent_obj h6]
    congr 2
    refine List.map_congr_left fun f hf => ?_
    have e : gs g key o i v f.2 o1 0 = g f.2 o1 0 := if_neg fun q => h ⟨by rw [← kF_of hf, q.1, hk], q.2.1⟩
    rw [e]
  · have e : gs g key o i v K1 o1 = g K1 o1 := by
      funext j
      exact if_neg fun q => h ⟨by rw [← kOwn_arr h6, q.1, hk], q.2.1⟩
    unfold ent
    rw [if_neg h6, if_neg h6, e]
def Ak (κ : Kx) : Nat → Prop := fun q => κ.1 ≤ q
theorem Ak_ad (κ : Kx) (K o : Nat) : Ak κ (ad κ.1 K o) := Nat.le_add_right _ _
/-- the heap holds the memory -/
def RelH (κ : Kx) (V : Wv) (σ : Mem) (H : Heap) : Prop :=
  (∀ K o : Nat, V.1 K o → va_at κ.2.1 vwCl (ad κ.1 K o, ent κ.2.2 V.2.1 σ V.2.2.1 K o) H) ∧ (∀ K o : Nat, V.1 K o → o < kCnt K) ∧ ∀ k : Nat, V.2.2.2 = some k → H.size = κ.1 + k
theorem RelH.put {κ : Kx} {V : Wv} {σ : Mem} {H H1 : Heap} (h : RelH κ V σ H) {K o key i : Nat} {v : Int32} (ho : V.1 K o) (hk : kOwn key = K)
    (he : va_at κ.2.1 vwCl (ad κ.1 K o, ent κ.2.2 V.2.1 (ms σ key o i v) V.2.2.1 K o) H1) (hz : H1.size = H.size) (oq : ∀ q : Nat, q ≠ ad κ.1 K o → H1[q]? = H[q]?) : RelH κ V (ms σ key o i v) H1 := by
  refine ⟨fun K1 o1 h1 => ?_, h.2.1, fun k hk => by rw [hz]; exact h.2.2 k hk⟩
  by_cases e : K1 = K ∧ o1 = o
  · obtain ⟨rfl, rfl⟩ := e
    exact he
  · rw [ent_other hk e]
    exact (h.1 K1 o1 h1).kept (oq _ fun q => e (ad_inj (h.2.1 _ _ h1) (h.2.1 _ _ ho) q))
theorem RelH.gput {κ : Kx} {U : Nat → Nat → Prop} {g : Gr} {τ : Nat → Int64} {c : Option Nat} {σ : Mem} {H H1 : Heap} (h : RelH κ (U, g, τ, c) σ H) {K o key i : Nat} {v : Option Nat} (ho : U K o) (hk : kOwn key = K)
    (he : va_at κ.2.1 vwCl (ad κ.1 K o, ent κ.2.2 (gs g key o i v) σ τ K o) H1) (hz : H1.size = H.size) (oq : ∀ q : Nat, q ≠ ad κ.1 K o → H1[q]? = H[q]?) : RelH κ (U, gs g key o i v, τ, c) σ H1 := by
  refine ⟨fun K1 o1 h1 => ?_, h.2.1, fun k hk => by rw [hz]; exact h.2.2 k hk⟩
  by_cases e : K1 = K ∧ o1 = o
  · obtain ⟨rfl, rfl⟩ := e
    exact he
  · show va_at κ.2.1 vwCl (ad κ.1 K1 o1, ent κ.2.2 (gs g key o i v) σ τ K1 o1) H1
    rw [ent_gother hk e]
    exact (h.1 K1 o1 h1).kept (oq _ fun q => e (ad_inj (h.2.1 _ _ h1) (h.2.1 _ _ ho) q))
/-- the heap has grown, nothing of the system's has changed -/
theorem RelH.grown {κ : Kx} {U : Nat → Nat → Prop} {g : Gr} {τ : Nat → Int64} {c : Option Nat} {σ : Mem} {H H1 : Heap} (h : RelH κ (U, g, τ, c) σ H) (oq : ∀ q : Nat, q < H.size → H1[q]? = H[q]?) : RelH κ (U, g, τ, none) σ H1 :=
  ⟨fun K o h1 => (h.1 K o h1).kept (oq _ (h.1 K o h1).lt), h.2.1, fun k q => by cases q⟩
theorem RelH.uncount {κ : Kx} {U : Nat → Nat → Prop} {g : Gr} {τ : Nat → Int64} {c : Option Nat} {σ : Mem} {H : Heap} (h : RelH κ (U, g, τ, c) σ H) : RelH κ (U, g, τ, none) σ H := ⟨h.1, h.2.1, fun k q => by cases q⟩
/-- a new cell -/
theorem RelH.made {κ : Kx} {U : Nat → Nat → Prop} {g : Gr} {τ : Nat → Int64} {c : Nat} {σ : Mem} {H H1 : Heap} (h : RelH κ (U, g, τ, some c) σ H) {K o : Nat} (ho : o < kCnt K) (hc : off K o = c)
    (he : va_at κ.2.1 vwCl (H.size, ent κ.2.2 g σ τ K o) H1) (hz : H1.size = H.size + 1) (oq : ∀ q : Nat, q < H.size → H1[q]? = H[q]?) : H.size = ad κ.1 K o ∧ RelH κ ((fun K1 o1 => U K1 o1 ∨ (K1 = K ∧ o1 = o)), g, τ, some (c + 1)) σ H1 := by
  have hs : H.size = κ.1 + c := h.2.2 c rfl
  have ha : H.size = ad κ.1 K o := by rw [hs, ad, hc]
  refine ⟨ha, fun K1 o1 h1 => ?_, fun K1 o1 h1 => ?_, fun k hk => ?_⟩
  · rcases h1 with h1 | ⟨rfl, rfl⟩
    · exact (h.1 K1 o1 h1).kept (oq _ (h.1 K1 o1 h1).lt)
    · rw [← ha]; exact he
  · rcases h1 with h1 | ⟨rfl, rfl⟩
    · exact h.2.1 K1 o1 h1
    · exact ho
  · cases hk
    rw [hz, hs]; omega
/-- array types -/
def aTy : Nat → FieldType
  | 0 => .int | 1 => .boolean | 2 => .char | 3 => .int | 4 => .object RX5 | _ => .object RX2
def tysA (κ : Kx) : List (ClassId × FieldType) := [(κ.2.2 0, aTy 0), (κ.2.2 1, aTy 1), (κ.2.2 2, aTy 2), (κ.2.2 3, aTy 3), (κ.2.2 4, aTy 4), (κ.2.2 5, aTy 5)]
theorem tysA_at (κ : Kx) {t : Nat} (h : t < 6) : (tysA κ)[t]? = some (κ.2.2 t, aTy t) := by
  match t, h with
  | 0, _ => rfl
  | 1, _ => rfl
  | 2, _ => rfl
  | 3, _ => rfl
  | 4, _ => rfl
  | 5, _ => rfl
  | n + 6, h => exact absurd h (by omega)
/-- (nothing that a throw would ask is wanted here: no call of this law throws) -/
def Zs (κ : Kx) (_ : State) (_ : Heap) : Prop := κ = κ
theorem Zs.warm {κ : Kx} {s U : State} {H : Heap} (_ : s.WarmedH U.vm) (_ : Zs κ s H) : Zs κ U H := rfl
theorem Zs.same {κ : Kx} {u U : State} {H : Heap} (_ : U.vm = u.vm) (_ : Zs κ u H) : Zs κ U H := rfl
theorem Zs.kept {κ : Kx} {U : State} {H H1 : Heap} (_ : Zs κ U H) (_ : ∀ a : Nat, a < H.size → ¬ Ak κ a → H1[a]? = H[a]?) : Zs κ U H1 := rfl
/-- the world as a method finds it -/
def Wd (κ : Kx) (V : Wv) (σ : Mem) (U : State) : Prop := RelH κ V σ U.heap ∧ va_K κ.2.1 vwCl (tysA κ) U ∧ κ.1 ≤ U.heap.size ∧ Zs κ U U.heap
end MEM
