/-! WORDS OF THE DECOMPILED FUNCTIONS -/
section HELP
/-- a name for a value -/
def nm {α β : Sort _} (a : α) (f : α → β) : β := f a
theorem nm_ex {α : Sort _} {β : Type _} {a : α} {f : α → β} {r : β} (h : nm a f = r) : ∃ x, x = a ∧ f x = r := ⟨a, rfl, h⟩
/-- a test that must hold -/
def gd {α : Type} (c : Bool) (x : Option α) : Option α := if c = true then x else none
theorem gd_some {α : Type} {c : Bool} {x : Option α} {r : α} (h : gd c x = some r) : c = true ∧ x = some r := by
  unfold gd at h
  split at h
  · exact ⟨by assumption, h⟩
  · cases h
theorem ite_t {α : Type} {c : Prop} {d : Decidable c} {a b r : α} (h : (@ite α c d a b) = r) (q : c) : a = r := by rw [if_pos q] at h; exact h
theorem ite_f {α : Type} {c : Prop} {d : Decidable c} {a b r : α} (h : (@ite α c d a b) = r) (q : ¬ c) : b = r := by rw [if_neg q] at h; exact h
/-- calls -/
def bd {α β : Type} (x : Option (α × Mem)) (f : α → Mem → Option β) : Option β := match x with
  | some p => f p.1 p.2
  | none => none
theorem bd_some {α β : Type} {x : Option (α × Mem)} {f : α → Mem → Option β} {r : β} (h : bd x f = some r) : ∃ (a : α) (s : Mem), x = some (a, s) ∧ f a s = some r := by
  match x, h with
  | some p, h => exact ⟨p.1, p.2, rfl, h⟩
  | none, h => cases h
def bv {β : Type} (x : Option Mem) (f : Mem → Option β) : Option β := match x with
  | some s => f s
  | none => none
theorem bv_some {β : Type} {x : Option Mem} {f : Mem → Option β} {r : β} (h : bv x f = some r) : ∃ s : Mem, x = some s ∧ f s = some r := by
  match x, h with
  | some p, h => exact ⟨p, rfl, h⟩
  | none, h => cases h
def bx {α β : Type} (x : Option ((Nat ⊕ α) × Mem)) (f : Nat → Mem → Option β) (g : α → Mem → Option β) : Option β := match x with
  | some (.inl e, s) => f e s
  | some (.inr a, s) => g a s
  | none => none
theorem bx_some {α β : Type} {x : Option ((Nat ⊕ α) × Mem)} {f : Nat → Mem → Option β} {g : α → Mem → Option β} {r : β} (h : bx x f g = some r) :
    ∃ (y : Nat ⊕ α) (s : Mem), x = some (y, s) ∧ (match y with | .inl e => f e s | .inr a => g a s) = some r := by
  match x, h with
  | some (.inl e, s), h => exact ⟨_, s, rfl, h⟩
  | some (.inr a, s), h => exact ⟨_, s, rfl, h⟩
  | none, h => cases h
/-- rounds of a loop -/
def FU : Nat := 6000
/-- a divisor that isn't 0; a boolean, a char that is one -/
def nz (y : Int32) : Bool := decide (¬ y = 0)
theorem nz_of {y : Int32} (h : nz y = true) : ¬ y = 0 := of_decide_eq_true h
def zok (x : Int32) : Bool := decide (narrow .boolean (.int x) = .int x) && fits .boolean (.int x)
theorem zok_n {x : Int32} (h : zok x = true) : narrow .boolean (.int x) = .int x := by
  unfold zok at h
  rw [Bool.and_eq_true] at h
  exact of_decide_eq_true h.1
theorem zok_f {x : Int32} (h : zok x = true) : fits .boolean (.int x) = true := by
  unfold zok at h
  rw [Bool.and_eq_true] at h
  exact h.2
def cok (x : Int32) : Bool := decide (narrow .char (.int x) = .int x)
theorem cok_n {x : Int32} (h : cok x = true) : narrow .char (.int x) = .int x := of_decide_eq_true h
theorem ne_i {x c : Int32} {z : Int} (h : ¬ x = c) (hz : c.toInt = z) : x.toInt ≠ z := by
  intro e
  rw [← hz] at e
  exact h (Int32.toInt_inj.mp e)
variable {κ : Kx} {φ : Fr} {own : String} {cc : ByteArray} {nL : Nat} {rm : Room} {Q : State → Prop} {V : Wv} {k n : Nat} {σ : Mem} {L : List (Nat × Value)} {pc : Nat} {rest st : List Value}
theorem g_nmi {x e : Int32} (h : x = e) (kk : G κ φ Q V k n σ L pc (.int x :: rest)) : G κ φ Q V k n σ L pc (.int e :: rest) := h ▸ kk
theorem g_nml {x e : Int64} (h : x = e) (kk : G κ φ Q V k n σ L pc (.long x :: rest)) : G κ φ Q V k n σ L pc (.long e :: rest) := h ▸ kk
theorem g_nms {σ1 : Mem} (h : σ1 = σ) (kk : G κ φ Q V k n σ1 L pc st) : G κ φ Q V k n σ L pc st := h ▸ kk
theorem g_sub {L1 : List (Nat × Value)} (ks : List Nat) (h : lv_pick L ks = L1) (kk : G κ φ Q V k n σ L1 pc st) : G κ φ Q V k n σ L pc st := by
  obtain ⟨p, l, e, R, s, m, args, below, meth, c⟩ := φ
  intro H locs ls hR hS hl
  exact kk H locs ls hR hS (lv_sub hl ks h)
theorem g_widen {k2 n2 : Nat} (h1 : k ≤ k2) (h2 : n ≤ n2) (kk : G κ φ Q V k2 n2 σ L pc st) : G κ φ Q V k n σ L pc st := by
  obtain ⟨p, l, e, R, s, m, args, below, meth, c⟩ := φ
  intro H locs ls hR hS hl
  exact W.widen h1 h2 (kk H locs ls hR hS hl)
theorem g_case (hc : Cx κ φ own cc nL rm) {dflt lo hi : Int} {offs : Array Int} {len : Nat} {x : Int32} {off : Int} (tgt : Nat) (c : Int32) (q : x = c) (h1 : ¬ c.toInt < lo) (h2 : ¬ hi < c.toInt) (ho : offs[(c.toInt - lo).toNat]? = some off) (ht : (pc : Int) + off = (tgt : Int)) (hd : decode cc pc = .ok (.tableswitch dflt lo hi offs, len))
    (kk : G κ φ Q V k n σ L tgt rest) : G κ φ Q V k n σ L pc (.int x :: rest) := by
  subst q
  exact g_tableIn hc tgt h1 h2 ho ht hd kk
theorem g_ldcw (hc : Cx κ φ own cc nL rm) {i : Nat} {v : Int32} (hw : Cond.constant own i v ∈ GW) (hd : decode cc pc = .ok (.ldc_w i, 3)) {pc2 : Nat} (hp : pc + 3 = pc2) (kk : G κ φ Q V k n σ L pc2 (.int v :: rest)) : G κ φ Q V k n σ L pc rest := by
  subst hp
  obtain ⟨p, l, e, R, s, m, args, below, meth, c⟩ := φ
  intro H locs ls hR hS hl
  exact lv_ldcw hc.1 hc.2.1 hc.2.2.2.1 (hc.2.2.2.2.1 _ hw) hd (kk H locs ls hR hS hl)
/-- the references, once all is made -/
def gF (n0 : Nat) : Gr := fun k o i => match k with
  | 70 => some (ad n0 1 0) | 71 => some (ad n0 3 0) | 72 => some (ad n0 15 0) | 73 => some (ad n0 17 0) | 74 => some (ad n0 18 0) | 75 => some (ad n0 3 15) | 76 => some (ad n0 3 16)
  | 77 => some (ad n0 2 0) | 78 => some (ad n0 4 o) | 79 => some (ad n0 5 o) | 80 => some (ad n0 6 o)
  | 81 => some (ad n0 8 o) | 82 => some (ad n0 9 o) | 83 => some (ad n0 13 o) | 84 => some (ad n0 10 o) | 85 => some (ad n0 11 o) | 86 => some (ad n0 12 o) | 87 => some (ad n0 14 o)
  | 88 => some (ad n0 16 0) | 89 => some (ad n0 20 0) | 90 => some (ad n0 20 1) | 91 => some (ad n0 20 2) | 92 => some (ad n0 21 0) | 93 => some (ad n0 22 0) | 94 => some (ad n0 23 0) | 95 => some (ad n0 24 0) | 96 => some (ad n0 25 0)
  | 6 => some (ad n0 7 (6 * o + i)) | 16 => some (ad n0 3 (i + 1)) | 17 => some (ad n0 3 (i + 17))
  | _ => none
def UF : Nat → Nat → Prop := fun K o => o < kCnt K ∧ K < 19
def NV (κ : Kx) (τ : Nat → Int64) : Wv := (UF, gF κ.1, τ, none)
variable {τ : Nat → Int64} {o : Nat}
theorem u0 (h : o < 1) : (NV κ τ).1 0 o := ⟨h, by decide⟩
theorem u1 (h : o < 1) : (NV κ τ).1 1 o := ⟨h, by decide⟩
theorem u2 (h : o < 1) : (NV κ τ).1 2 o := ⟨h, by decide⟩
theorem u3 (h : o < 19) : (NV κ τ).1 3 o := ⟨h, by decide⟩
theorem u4 (h : o < 19) : (NV κ τ).1 4 o := ⟨h, by decide⟩
theorem u5 (h : o < 19) : (NV κ τ).1 5 o := ⟨h, by decide⟩
theorem u6 (h : o < 19) : (NV κ τ).1 6 o := ⟨h, by decide⟩
theorem u7 (h : o < 114) : (NV κ τ).1 7 o := ⟨h, by decide⟩
theorem u8 (h : o < 114) : (NV κ τ).1 8 o := ⟨h, by decide⟩
theorem u9 (h : o < 114) : (NV κ τ).1 9 o := ⟨h, by decide⟩
theorem u10 (h : o < 114) : (NV κ τ).1 10 o := ⟨h, by decide⟩
theorem u11 (h : o < 114) : (NV κ τ).1 11 o := ⟨h, by decide⟩
theorem u12 (h : o < 114) : (NV κ τ).1 12 o := ⟨h, by decide⟩
theorem u13 (h : o < 114) : (NV κ τ).1 13 o := ⟨h, by decide⟩
theorem u14 (h : o < 114) : (NV κ τ).1 14 o := ⟨h, by decide⟩
theorem u15 (h : o < 1) : (NV κ τ).1 15 o := ⟨h, by decide⟩
theorem u16 (h : o < 1) : (NV κ τ).1 16 o := ⟨h, by decide⟩
theorem u17 (h : o < 1) : (NV κ τ).1 17 o := ⟨h, by decide⟩
theorem u18 (h : o < 1) : (NV κ τ).1 18 o := ⟨h, by decide⟩








/-- a call that comes back -/
def ni {α : Type} (x : Option ((Nat ⊕ α) × Mem)) : Option (α × Mem) := match x with
  | some (.inr a, s) => some (a, s)
  | _ => none
theorem ni_some {α : Type} {x : Option ((Nat ⊕ α) × Mem)} {a : α} {s : Mem} (h : ni x = some (a, s)) : x = some (.inr a, s) := by
  match x, h with
  | some (.inr b, t), h => cases h; rfl
  | some (.inl b, t), h => cases h
  | none, h => cases h
theorem niR {α : Type} (a : α) (s : Mem) : ni (some (.inr a, s)) = some (a, s) := Eq.trans rfl rfl
theorem ni_r {x r : Int32} {s s2 : Mem} (h : (some (Sum.inr x, s) : Option ((Nat ⊕ Int32) × Mem)) = some (Sum.inr r, s2)) : some (x, s) = some (r, s2) := by cases h; rfl
theorem ni_v {s s2 : Mem} (h : (some (Sum.inr (), s) : Option ((Nat ⊕ Unit) × Mem)) = some (Sum.inr (), s2)) : some s = some s2 := by cases h; rfl
theorem bx_inr {α β : Type} {x : Option ((Nat ⊕ Unit) × Mem)} {g : Unit → Mem → Option ((Nat ⊕ β) × Mem)} {r : β} {s2 : Mem} (h : bx x (fun e s1 => some (.inl e, s1)) g = some (.inr r, s2)) : ∃ s1 : Mem, x = some (.inr (), s1) ∧ g () s1 = some (.inr r, s2) := by
  match x, h with
  | some (.inr (), t), h => exact ⟨t, rfl, h⟩
  | some (.inl b, t), h => cases h
  | none, h => cases h
end HELP
