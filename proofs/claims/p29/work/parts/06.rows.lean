/-! THE STEPS: what is left to do from a place of a method on, over the memory as numbers. The heap itself stands behind it. -/
section STEPS
abbrev Fr : Type := Program × Launch × Env × Room × State × MethodId × Array Value × List Frame × Method × Code
def G (κ : Kx) (φ : Fr) (Q : State → Prop) (V : Wv) (k n : Nat) (σ : Mem) (L : List (Nat × Value)) (pc : Nat) (st : List Value) : Prop := match φ with
  | (p, l, e, R, s, m, args, below, meth, c) => ∀ (H : Heap) (locs : List Loc) (ls : Array Slot), RelH κ V σ H → va_S (Ak κ) s.heap H locs → lv_has ls c.maxLocals L → W p l e R s m args below meth c H locs k n Q (F0 m pc ls st)
def Cx (κ : Kx) (φ : Fr) (own : String) (cc : ByteArray) (nL : Nat) (rm : Room) : Prop := match φ with
  | (p, l, _, R, s, m, args, _, meth, c) => p.tables.exec = Jvm.exec ∧ c.code = cc ∧ c.maxLocals = nL ∧ s.vm.findClass own = some m.cls ∧ (∀ w ∈ GW, w.before args s = true) ∧ va_K κ.2.1 vwCl (tysA κ) s ∧ κ.1 ≤ s.heap.size ∧ meth.locks = false ∧ l.stackTraces = false ∧ Zs κ s s.heap ∧ R = rm
theorem g_iconst {κ : Kx} {φ : Fr} {own : String} {cc : ByteArray} {nL : Nat} {rm : Room} (hc : Cx κ φ own cc nL rm) {Q : State → Prop} {V : Wv} {k n : Nat} {σ : Mem} {L : List (Nat × Value)} {pc : Nat} {rest : List Value} {z : Int} {v : Int32} (hv : Int32.ofInt z = v) (hd : decode cc pc = .ok (.iconst z, 1)) {pc2 : Nat} (hp : pc + 1 = pc2) (kk : G κ φ Q V k n σ L pc2 (.int v :: rest)) : G κ φ Q V k n σ L (pc) rest := by
  subst hp
  obtain ⟨p, l, e, R, s, m, args, below, meth, c⟩ := φ
  intro H locs ls hR hS hl
  exact lv_iconst hc.1 hc.2.1 hd hv (kk H locs ls hR hS hl)
theorem g_bipush {κ : Kx} {φ : Fr} {own : String} {cc : ByteArray} {nL : Nat} {rm : Room} (hc : Cx κ φ own cc nL rm) {Q : State → Prop} {V : Wv} {k n : Nat} {σ : Mem} {L : List (Nat × Value)} {pc : Nat} {rest : List Value} {z : Int} {v : Int32} (hv : (Int8.ofInt z).toInt32 = v) (hd : decode cc pc = .ok (.bipush z, 2)) {pc2 : Nat} (hp : pc + 2 = pc2) (kk : G κ φ Q V k n σ L pc2 (.int v :: rest)) : G κ φ Q V k n σ L (pc) rest := by
  subst hp
  obtain ⟨p, l, e, R, s, m, args, below, meth, c⟩ := φ
  intro H locs ls hR hS hl
  exact lv_bipush hc.1 hc.2.1 hd hv (kk H locs ls hR hS hl)
theorem g_sipush {κ : Kx} {φ : Fr} {own : String} {cc : ByteArray} {nL : Nat} {rm : Room} (hc : Cx κ φ own cc nL rm) {Q : State → Prop} {V : Wv} {k n : Nat} {σ : Mem} {L : List (Nat × Value)} {pc : Nat} {rest : List Value} {z : Int} {v : Int32} (hv : (Int16.ofInt z).toInt32 = v) (hd : decode cc pc = .ok (.sipush z, 3)) {pc2 : Nat} (hp : pc + 3 = pc2) (kk : G κ φ Q V k n σ L pc2 (.int v :: rest)) : G κ φ Q V k n σ L (pc) rest := by
  subst hp
  obtain ⟨p, l, e, R, s, m, args, below, meth, c⟩ := φ
  intro H locs ls hR hS hl
  exact lv_sipush hc.1 hc.2.1 hd hv (kk H locs ls hR hS hl)
theorem g_lconst {κ : Kx} {φ : Fr} {own : String} {cc : ByteArray} {nL : Nat} {rm : Room} (hc : Cx κ φ own cc nL rm) {Q : State → Prop} {V : Wv} {k n : Nat} {σ : Mem} {L : List (Nat × Value)} {pc : Nat} {rest : List Value} {z : Fin 2} {v : Int64} (hv : Int64.ofNat (z : Nat) = v) (hd : decode cc pc = .ok (.lconst z, 1)) {pc2 : Nat} (hp : pc + 1 = pc2) (kk : G κ φ Q V k n σ L pc2 (.long v :: rest)) : G κ φ Q V k n σ L (pc) rest := by
  subst hp
  obtain ⟨p, l, e, R, s, m, args, below, meth, c⟩ := φ
  intro H locs ls hR hS hl
  exact lv_lconst hc.1 hc.2.1 hd hv (kk H locs ls hR hS hl)
theorem g_iload_n {κ : Kx} {φ : Fr} {own : String} {cc : ByteArray} {nL : Nat} {rm : Room} (hc : Cx κ φ own cc nL rm) {Q : State → Prop} {V : Wv} {k n : Nat} {σ : Mem} {L : List (Nat × Value)} {pc : Nat} {rest : List Value} {f : Fin 4} {x : Int32} (q : Nat) {i : Nat} (hi : (f : Nat) = i) (hq : L[q]? = some (i, .int x)) (hd : decode cc pc = .ok (.iload_n f, 1)) {pc2 : Nat} (hp : pc + 1 = pc2) (kk : G κ φ Q V k n σ L pc2 (.int x :: rest)) : G κ φ Q V k n σ L (pc) rest := by
  subst hp
  obtain ⟨p, l, e, R, s, m, args, below, meth, c⟩ := φ
  intro H locs ls hR hS hl
  exact lv_iload_n hc.1 hc.2.1 hd hi (lv_at hl q hq) (kk H locs ls hR hS hl)
theorem g_iload {κ : Kx} {φ : Fr} {own : String} {cc : ByteArray} {nL : Nat} {rm : Room} (hc : Cx κ φ own cc nL rm) {Q : State → Prop} {V : Wv} {k n : Nat} {σ : Mem} {L : List (Nat × Value)} {pc : Nat} {rest : List Value} {i : Nat} {x : Int32} (q : Nat) (hq : L[q]? = some (i, .int x)) (hd : decode cc pc = .ok (.iload i, 2)) {pc2 : Nat} (hp : pc + 2 = pc2) (kk : G κ φ Q V k n σ L pc2 (.int x :: rest)) : G κ φ Q V k n σ L (pc) rest := by
  subst hp
  obtain ⟨p, l, e, R, s, m, args, below, meth, c⟩ := φ
  intro H locs ls hR hS hl
  exact lv_iload hc.1 hc.2.1 hd (lv_at hl q hq) (kk H locs ls hR hS hl)
theorem g_lload_n {κ : Kx} {φ : Fr} {own : String} {cc : ByteArray} {nL : Nat} {rm : Room} (hc : Cx κ φ own cc nL rm) {Q : State → Prop} {V : Wv} {k n : Nat} {σ : Mem} {L : List (Nat × Value)} {pc : Nat} {rest : List Value} {f : Fin 4} {x : Int64} (q : Nat) {i : Nat} (hi : (f : Nat) = i) (hq : L[q]? = some (i, .long x)) (hd : decode cc pc = .ok (.lload_n f, 1)) {pc2 : Nat} (hp : pc + 1 = pc2) (kk : G κ φ Q V k n σ L pc2 (.long x :: rest)) : G κ φ Q V k n σ L (pc) rest := by
  subst hp
  obtain ⟨p, l, e, R, s, m, args, below, meth, c⟩ := φ
  intro H locs ls hR hS hl
  exact lv_lload_n hc.1 hc.2.1 hd hi (lv_at hl q hq) (kk H locs ls hR hS hl)
theorem g_lload {κ : Kx} {φ : Fr} {own : String} {cc : ByteArray} {nL : Nat} {rm : Room} (hc : Cx κ φ own cc nL rm) {Q : State → Prop} {V : Wv} {k n : Nat} {σ : Mem} {L : List (Nat × Value)} {pc : Nat} {rest : List Value} {i : Nat} {x : Int64} (q : Nat) (hq : L[q]? = some (i, .long x)) (hd : decode cc pc = .ok (.lload i, 2)) {pc2 : Nat} (hp : pc + 2 = pc2) (kk : G κ φ Q V k n σ L pc2 (.long x :: rest)) : G κ φ Q V k n σ L (pc) rest := by
  subst hp
  obtain ⟨p, l, e, R, s, m, args, below, meth, c⟩ := φ
  intro H locs ls hR hS hl
  exact lv_lload hc.1 hc.2.1 hd (lv_at hl q hq) (kk H locs ls hR hS hl)
theorem g_aload_n {κ : Kx} {φ : Fr} {own : String} {cc : ByteArray} {nL : Nat} {rm : Room} (hc : Cx κ φ own cc nL rm) {Q : State → Prop} {V : Wv} {k n : Nat} {σ : Mem} {L : List (Nat × Value)} {pc : Nat} {rest : List Value} {f : Fin 4} {x : Nat} (q : Nat) {i : Nat} (hi : (f : Nat) = i) (hq : L[q]? = some (i, .ref x)) (hd : decode cc pc = .ok (.aload_n f, 1)) {pc2 : Nat} (hp : pc + 1 = pc2) (kk : G κ φ Q V k n σ L pc2 (.ref x :: rest)) : G κ φ Q V k n σ L (pc) rest := by
  subst hp
  obtain ⟨p, l, e, R, s, m, args, below, meth, c⟩ := φ
  intro H locs ls hR hS hl
  exact lv_aload_n hc.1 hc.2.1 hd hi (lv_at hl q hq) (kk H locs ls hR hS hl)
theorem g_aload {κ : Kx} {φ : Fr} {own : String} {cc : ByteArray} {nL : Nat} {rm : Room} (hc : Cx κ φ own cc nL rm) {Q : State → Prop} {V : Wv} {k n : Nat} {σ : Mem} {L : List (Nat × Value)} {pc : Nat} {rest : List Value} {i : Nat} {x : Nat} (q : Nat) (hq : L[q]? = some (i, .ref x)) (hd : decode cc pc = .ok (.aload i, 2)) {pc2 : Nat} (hp : pc + 2 = pc2) (kk : G κ φ Q V k n σ L pc2 (.ref x :: rest)) : G κ φ Q V k n σ L (pc) rest := by
  subst hp
  obtain ⟨p, l, e, R, s, m, args, below, meth, c⟩ := φ
  intro H locs ls hR hS hl
  exact lv_aload hc.1 hc.2.1 hd (lv_at hl q hq) (kk H locs ls hR hS hl)
theorem g_istore_n {κ : Kx} {φ : Fr} {own : String} {cc : ByteArray} {nL : Nat} {rm : Room} (hc : Cx κ φ own cc nL rm) {Q : State → Prop} {V : Wv} {k n : Nat} {σ : Mem} {L : List (Nat × Value)} {pc : Nat} {rest : List Value} {f : Fin 4} {i : Nat} {x : Int32} {L1 : List (Nat × Value)} (hi : (f : Nat) = i) (hn : i < nL) (hL : (i, Value.int x) :: L.filter (fun q => !(q.1 == i) && !(q.1 + 1 == i && q.2.category == 2)) = L1) (hd : decode cc pc = .ok (.istore_n f, 1)) {pc2 : Nat} (hp : pc + 1 = pc2) (kk : G κ φ Q V k n σ L1 pc2 rest) : G κ φ Q V k n σ L (pc) (.int x :: rest) := by
  subst hp
  obtain ⟨p, l, e, R, s, m, args, below, meth, c⟩ := φ
  intro H locs ls hR hS hl
  have hm := hc.2.2.1
  subst hm
  exact lv_istore_n hc.1 hc.2.1 hd hi hl hn hL (fun ls2 hl2 => kk H locs ls2 hR hS hl2)
theorem g_istore {κ : Kx} {φ : Fr} {own : String} {cc : ByteArray} {nL : Nat} {rm : Room} (hc : Cx κ φ own cc nL rm) {Q : State → Prop} {V : Wv} {k n : Nat} {σ : Mem} {L : List (Nat × Value)} {pc : Nat} {rest : List Value} {i : Nat} {x : Int32} {L1 : List (Nat × Value)} (hn : i < nL) (hL : (i, Value.int x) :: L.filter (fun q => !(q.1 == i) && !(q.1 + 1 == i && q.2.category == 2)) = L1) (hd : decode cc pc = .ok (.istore i, 2)) {pc2 : Nat} (hp : pc + 2 = pc2) (kk : G κ φ Q V k n σ L1 pc2 rest) : G κ φ Q V k n σ L (pc) (.int x :: rest) := by
  subst hp
  obtain ⟨p, l, e, R, s, m, args, below, meth, c⟩ := φ
  intro H locs ls hR hS hl
  have hm := hc.2.2.1
  subst hm
  exact lv_istore hc.1 hc.2.1 hd hl hn hL (fun ls2 hl2 => kk H locs ls2 hR hS hl2)
theorem g_lstore_n {κ : Kx} {φ : Fr} {own : String} {cc : ByteArray} {nL : Nat} {rm : Room} (hc : Cx κ φ own cc nL rm) {Q : State → Prop} {V : Wv} {k n : Nat} {σ : Mem} {L : List (Nat × Value)} {pc : Nat} {rest : List Value} {f : Fin 4} {i : Nat} {x : Int64} {L1 : List (Nat × Value)} (hi : (f : Nat) = i) (hn : i + 1 < nL) (hL : (i, Value.long x) :: L.filter (fun q => !(q.1 == i) && (!(q.1 == i + 1) && !(q.1 + 1 == i && q.2.category == 2))) = L1) (hd : decode cc pc = .ok (.lstore_n f, 1)) {pc2 : Nat} (hp : pc + 1 = pc2) (kk : G κ φ Q V k n σ L1 pc2 rest) : G κ φ Q V k n σ L (pc) (.long x :: rest) := by
  subst hp
  obtain ⟨p, l, e, R, s, m, args, below, meth, c⟩ := φ
  intro H locs ls hR hS hl
  have hm := hc.2.2.1
  subst hm
  exact lv_lstore_n hc.1 hc.2.1 hd hi hl hn hL (fun ls2 hl2 => kk H locs ls2 hR hS hl2)
theorem g_lstore {κ : Kx} {φ : Fr} {own : String} {cc : ByteArray} {nL : Nat} {rm : Room} (hc : Cx κ φ own cc nL rm) {Q : State → Prop} {V : Wv} {k n : Nat} {σ : Mem} {L : List (Nat × Value)} {pc : Nat} {rest : List Value} {i : Nat} {x : Int64} {L1 : List (Nat × Value)} (hn : i + 1 < nL) (hL : (i, Value.long x) :: L.filter (fun q => !(q.1 == i) && (!(q.1 == i + 1) && !(q.1 + 1 == i && q.2.category == 2))) = L1) (hd : decode cc pc = .ok (.lstore i, 2)) {pc2 : Nat} (hp : pc + 2 = pc2) (kk : G κ φ Q V k n σ L1 pc2 rest) : G κ φ Q V k n σ L (pc) (.long x :: rest) := by
  subst hp
  obtain ⟨p, l, e, R, s, m, args, below, meth, c⟩ := φ
  intro H locs ls hR hS hl
  have hm := hc.2.2.1
  subst hm
  exact lv_lstore hc.1 hc.2.1 hd hl hn hL (fun ls2 hl2 => kk H locs ls2 hR hS hl2)
theorem g_astore_n {κ : Kx} {φ : Fr} {own : String} {cc : ByteArray} {nL : Nat} {rm : Room} (hc : Cx κ φ own cc nL rm) {Q : State → Prop} {V : Wv} {k n : Nat} {σ : Mem} {L : List (Nat × Value)} {pc : Nat} {rest : List Value} {f : Fin 4} {i : Nat} {x : Nat} {L1 : List (Nat × Value)} (hi : (f : Nat) = i) (hn : i < nL) (hL : (i, Value.ref x) :: L.filter (fun q => !(q.1 == i) && !(q.1 + 1 == i && q.2.category == 2)) = L1) (hd : decode cc pc = .ok (.astore_n f, 1)) {pc2 : Nat} (hp : pc + 1 = pc2) (kk : G κ φ Q V k n σ L1 pc2 rest) : G κ φ Q V k n σ L (pc) (.ref x :: rest) := by
  subst hp
  obtain ⟨p, l, e, R, s, m, args, below, meth, c⟩ := φ
  intro H locs ls hR hS hl
  have hm := hc.2.2.1
  subst hm
  exact lv_astore_n hc.1 hc.2.1 hd hi hl hn hL (fun ls2 hl2 => kk H locs ls2 hR hS hl2)
theorem g_astore {κ : Kx} {φ : Fr} {own : String} {cc : ByteArray} {nL : Nat} {rm : Room} (hc : Cx κ φ own cc nL rm) {Q : State → Prop} {V : Wv} {k n : Nat} {σ : Mem} {L : List (Nat × Value)} {pc : Nat} {rest : List Value} {i : Nat} {x : Nat} {L1 : List (Nat × Value)} (hn : i < nL) (hL : (i, Value.ref x) :: L.filter (fun q => !(q.1 == i) && !(q.1 + 1 == i && q.2.category == 2)) = L1) (hd : decode cc pc = .ok (.astore i, 2)) {pc2 : Nat} (hp : pc + 2 = pc2) (kk : G κ φ Q V k n σ L1 pc2 rest) : G κ φ Q V k n σ L (pc) (.ref x :: rest) := by
  subst hp
  obtain ⟨p, l, e, R, s, m, args, below, meth, c⟩ := φ
  intro H locs ls hR hS hl
  have hm := hc.2.2.1
  subst hm
  exact lv_astore hc.1 hc.2.1 hd hl hn hL (fun ls2 hl2 => kk H locs ls2 hR hS hl2)
theorem g_iinc {κ : Kx} {φ : Fr} {own : String} {cc : ByteArray} {nL : Nat} {rm : Room} (hc : Cx κ φ own cc nL rm) {Q : State → Prop} {V : Wv} {k n : Nat} {σ : Mem} {L : List (Nat × Value)} {pc : Nat} {rest : List Value} (q : Nat) {i : Nat} {z : Int} {x v : Int32} {L1 : List (Nat × Value)} (hq : L[q]? = some (i, .int x)) (hv : x + Int32.ofInt z = v) (hn : i < nL) (hL : (i, Value.int v) :: L.filter (fun q => !(q.1 == i) && !(q.1 + 1 == i && q.2.category == 2)) = L1) (hd : decode cc pc = .ok (.iinc i z, 3)) {pc2 : Nat} (hp : pc + 3 = pc2) (kk : G κ φ Q V k n σ L1 pc2 rest) : G κ φ Q V k n σ L (pc) rest := by
  subst hp
  obtain ⟨p, l, e, R, s, m, args, below, meth, c⟩ := φ
  intro H locs ls hR hS hl
  have hm := hc.2.2.1
  subst hm
  exact lv_iinc hc.1 hc.2.1 hd hl hq hv hn hL (fun ls2 hl2 => kk H locs ls2 hR hS hl2)
theorem g_iadd {κ : Kx} {φ : Fr} {own : String} {cc : ByteArray} {nL : Nat} {rm : Room} (hc : Cx κ φ own cc nL rm) {Q : State → Prop} {V : Wv} {k n : Nat} {σ : Mem} {L : List (Nat × Value)} {pc : Nat} {rest : List Value} {x y : Int32} (hd : decode cc pc = .ok (.iadd, 1)) {pc2 : Nat} (hp : pc + 1 = pc2) (kk : G κ φ Q V k n σ L pc2 (.int (x + y) :: rest)) : G κ φ Q V k n σ L (pc) (.int y :: .int x :: rest) := by
  subst hp
  obtain ⟨p, l, e, R, s, m, args, below, meth, c⟩ := φ
  intro H locs ls hR hS hl
  exact lv_iadd hc.1 hc.2.1 hd (kk H locs ls hR hS hl)
theorem g_isub {κ : Kx} {φ : Fr} {own : String} {cc : ByteArray} {nL : Nat} {rm : Room} (hc : Cx κ φ own cc nL rm) {Q : State → Prop} {V : Wv} {k n : Nat} {σ : Mem} {L : List (Nat × Value)} {pc : Nat} {rest : List Value} {x y : Int32} (hd : decode cc pc = .ok (.isub, 1)) {pc2 : Nat} (hp : pc + 1 = pc2) (kk : G κ φ Q V k n σ L pc2 (.int (x - y) :: rest)) : G κ φ Q V k n σ L (pc) (.int y :: .int x :: rest) := by
  subst hp
  obtain ⟨p, l, e, R, s, m, args, below, meth, c⟩ := φ
  intro H locs ls hR hS hl
  exact lv_isub hc.1 hc.2.1 hd (kk H locs ls hR hS hl)
theorem g_imul {κ : Kx} {φ : Fr} {own : String} {cc : ByteArray} {nL : Nat} {rm : Room} (hc : Cx κ φ own cc nL rm) {Q : State → Prop} {V : Wv} {k n : Nat} {σ : Mem} {L : List (Nat × Value)} {pc : Nat} {rest : List Value} {x y : Int32} (hd : decode cc pc = .ok (.imul, 1)) {pc2 : Nat} (hp : pc + 1 = pc2) (kk : G κ φ Q V k n σ L pc2 (.int (x * y) :: rest)) : G κ φ Q V k n σ L (pc) (.int y :: .int x :: rest) := by
  subst hp
  obtain ⟨p, l, e, R, s, m, args, below, meth, c⟩ := φ
  intro H locs ls hR hS hl
  exact lv_imul hc.1 hc.2.1 hd (kk H locs ls hR hS hl)
theorem g_iand {κ : Kx} {φ : Fr} {own : String} {cc : ByteArray} {nL : Nat} {rm : Room} (hc : Cx κ φ own cc nL rm) {Q : State → Prop} {V : Wv} {k n : Nat} {σ : Mem} {L : List (Nat × Value)} {pc : Nat} {rest : List Value} {x y : Int32} (hd : decode cc pc = .ok (.iand, 1)) {pc2 : Nat} (hp : pc + 1 = pc2) (kk : G κ φ Q V k n σ L pc2 (.int (x &&& y) :: rest)) : G κ φ Q V k n σ L (pc) (.int y :: .int x :: rest) := by
  subst hp
  obtain ⟨p, l, e, R, s, m, args, below, meth, c⟩ := φ
  intro H locs ls hR hS hl
  exact lv_iand hc.1 hc.2.1 hd (kk H locs ls hR hS hl)
theorem g_ior {κ : Kx} {φ : Fr} {own : String} {cc : ByteArray} {nL : Nat} {rm : Room} (hc : Cx κ φ own cc nL rm) {Q : State → Prop} {V : Wv} {k n : Nat} {σ : Mem} {L : List (Nat × Value)} {pc : Nat} {rest : List Value} {x y : Int32} (hd : decode cc pc = .ok (.ior, 1)) {pc2 : Nat} (hp : pc + 1 = pc2) (kk : G κ φ Q V k n σ L pc2 (.int (x ||| y) :: rest)) : G κ φ Q V k n σ L (pc) (.int y :: .int x :: rest) := by
  subst hp
  obtain ⟨p, l, e, R, s, m, args, below, meth, c⟩ := φ
  intro H locs ls hR hS hl
  exact lv_ior hc.1 hc.2.1 hd (kk H locs ls hR hS hl)
theorem g_ixor {κ : Kx} {φ : Fr} {own : String} {cc : ByteArray} {nL : Nat} {rm : Room} (hc : Cx κ φ own cc nL rm) {Q : State → Prop} {V : Wv} {k n : Nat} {σ : Mem} {L : List (Nat × Value)} {pc : Nat} {rest : List Value} {x y : Int32} (hd : decode cc pc = .ok (.ixor, 1)) {pc2 : Nat} (hp : pc + 1 = pc2) (kk : G κ φ Q V k n σ L pc2 (.int (x ^^^ y) :: rest)) : G κ φ Q V k n σ L (pc) (.int y :: .int x :: rest) := by
  subst hp
  obtain ⟨p, l, e, R, s, m, args, below, meth, c⟩ := φ
  intro H locs ls hR hS hl
  exact lv_ixor hc.1 hc.2.1 hd (kk H locs ls hR hS hl)
theorem g_ishl {κ : Kx} {φ : Fr} {own : String} {cc : ByteArray} {nL : Nat} {rm : Room} (hc : Cx κ φ own cc nL rm) {Q : State → Prop} {V : Wv} {k n : Nat} {σ : Mem} {L : List (Nat × Value)} {pc : Nat} {rest : List Value} {x y : Int32} (hd : decode cc pc = .ok (.ishl, 1)) {pc2 : Nat} (hp : pc + 1 = pc2) (kk : G κ φ Q V k n σ L pc2 (.int (x <<< (y &&& 31)) :: rest)) : G κ φ Q V k n σ L (pc) (.int y :: .int x :: rest) := by
  subst hp
  obtain ⟨p, l, e, R, s, m, args, below, meth, c⟩ := φ
  intro H locs ls hR hS hl
  exact lv_ishl hc.1 hc.2.1 hd (kk H locs ls hR hS hl)
theorem g_ishr {κ : Kx} {φ : Fr} {own : String} {cc : ByteArray} {nL : Nat} {rm : Room} (hc : Cx κ φ own cc nL rm) {Q : State → Prop} {V : Wv} {k n : Nat} {σ : Mem} {L : List (Nat × Value)} {pc : Nat} {rest : List Value} {x y : Int32} (hd : decode cc pc = .ok (.ishr, 1)) {pc2 : Nat} (hp : pc + 1 = pc2) (kk : G κ φ Q V k n σ L pc2 (.int (x >>> (y &&& 31)) :: rest)) : G κ φ Q V k n σ L (pc) (.int y :: .int x :: rest) := by
  subst hp
  obtain ⟨p, l, e, R, s, m, args, below, meth, c⟩ := φ
  intro H locs ls hR hS hl
  exact lv_ishr hc.1 hc.2.1 hd (kk H locs ls hR hS hl)
theorem g_idiv {κ : Kx} {φ : Fr} {own : String} {cc : ByteArray} {nL : Nat} {rm : Room} (hc : Cx κ φ own cc nL rm) {Q : State → Prop} {V : Wv} {k n : Nat} {σ : Mem} {L : List (Nat × Value)} {pc : Nat} {rest : List Value} {x y : Int32} (hne : ¬ y = 0) (hd : decode cc pc = .ok (.idiv, 1)) {pc2 : Nat} (hp : pc + 1 = pc2) (kk : G κ φ Q V k n σ L pc2 (.int (x / y) :: rest)) : G κ φ Q V k n σ L (pc) (.int y :: .int x :: rest) := by
  subst hp
  obtain ⟨p, l, e, R, s, m, args, below, meth, c⟩ := φ
  intro H locs ls hR hS hl
  exact lv_idiv hc.1 hc.2.1 hd hne (kk H locs ls hR hS hl)
theorem g_irem {κ : Kx} {φ : Fr} {own : String} {cc : ByteArray} {nL : Nat} {rm : Room} (hc : Cx κ φ own cc nL rm) {Q : State → Prop} {V : Wv} {k n : Nat} {σ : Mem} {L : List (Nat × Value)} {pc : Nat} {rest : List Value} {x y : Int32} (hne : ¬ y = 0) (hd : decode cc pc = .ok (.irem, 1)) {pc2 : Nat} (hp : pc + 1 = pc2) (kk : G κ φ Q V k n σ L pc2 (.int (x - x / y * y) :: rest)) : G κ φ Q V k n σ L (pc) (.int y :: .int x :: rest) := by
  subst hp
  obtain ⟨p, l, e, R, s, m, args, below, meth, c⟩ := φ
  intro H locs ls hR hS hl
  exact lv_irem hc.1 hc.2.1 hd hne (kk H locs ls hR hS hl)
theorem g_ladd {κ : Kx} {φ : Fr} {own : String} {cc : ByteArray} {nL : Nat} {rm : Room} (hc : Cx κ φ own cc nL rm) {Q : State → Prop} {V : Wv} {k n : Nat} {σ : Mem} {L : List (Nat × Value)} {pc : Nat} {rest : List Value} {x y : Int64} (hd : decode cc pc = .ok (.ladd, 1)) {pc2 : Nat} (hp : pc + 1 = pc2) (kk : G κ φ Q V k n σ L pc2 (.long (x + y) :: rest)) : G κ φ Q V k n σ L (pc) (.long y :: .long x :: rest) := by
  subst hp
  obtain ⟨p, l, e, R, s, m, args, below, meth, c⟩ := φ
  intro H locs ls hR hS hl
  exact lv_ladd hc.1 hc.2.1 hd (kk H locs ls hR hS hl)
theorem g_lmul {κ : Kx} {φ : Fr} {own : String} {cc : ByteArray} {nL : Nat} {rm : Room} (hc : Cx κ φ own cc nL rm) {Q : State → Prop} {V : Wv} {k n : Nat} {σ : Mem} {L : List (Nat × Value)} {pc : Nat} {rest : List Value} {x y : Int64} (hd : decode cc pc = .ok (.lmul, 1)) {pc2 : Nat} (hp : pc + 1 = pc2) (kk : G κ φ Q V k n σ L pc2 (.long (x * y) :: rest)) : G κ φ Q V k n σ L (pc) (.long y :: .long x :: rest) := by
  subst hp
  obtain ⟨p, l, e, R, s, m, args, below, meth, c⟩ := φ
  intro H locs ls hR hS hl
  exact lv_lmul hc.1 hc.2.1 hd (kk H locs ls hR hS hl)
theorem g_land {κ : Kx} {φ : Fr} {own : String} {cc : ByteArray} {nL : Nat} {rm : Room} (hc : Cx κ φ own cc nL rm) {Q : State → Prop} {V : Wv} {k n : Nat} {σ : Mem} {L : List (Nat × Value)} {pc : Nat} {rest : List Value} {x y : Int64} (hd : decode cc pc = .ok (.land, 1)) {pc2 : Nat} (hp : pc + 1 = pc2) (kk : G κ φ Q V k n σ L pc2 (.long (x &&& y) :: rest)) : G κ φ Q V k n σ L (pc) (.long y :: .long x :: rest) := by
  subst hp
  obtain ⟨p, l, e, R, s, m, args, below, meth, c⟩ := φ
  intro H locs ls hR hS hl
  exact lv_land hc.1 hc.2.1 hd (kk H locs ls hR hS hl)
theorem g_lor {κ : Kx} {φ : Fr} {own : String} {cc : ByteArray} {nL : Nat} {rm : Room} (hc : Cx κ φ own cc nL rm) {Q : State → Prop} {V : Wv} {k n : Nat} {σ : Mem} {L : List (Nat × Value)} {pc : Nat} {rest : List Value} {x y : Int64} (hd : decode cc pc = .ok (.lor, 1)) {pc2 : Nat} (hp : pc + 1 = pc2) (kk : G κ φ Q V k n σ L pc2 (.long (x ||| y) :: rest)) : G κ φ Q V k n σ L (pc) (.long y :: .long x :: rest) := by
  subst hp
  obtain ⟨p, l, e, R, s, m, args, below, meth, c⟩ := φ
  intro H locs ls hR hS hl
  exact lv_lor hc.1 hc.2.1 hd (kk H locs ls hR hS hl)
theorem g_ldiv {κ : Kx} {φ : Fr} {own : String} {cc : ByteArray} {nL : Nat} {rm : Room} (hc : Cx κ φ own cc nL rm) {Q : State → Prop} {V : Wv} {k n : Nat} {σ : Mem} {L : List (Nat × Value)} {pc : Nat} {rest : List Value} {x y : Int64} (hne : ¬ y = 0) (hd : decode cc pc = .ok (.ldiv, 1)) {pc2 : Nat} (hp : pc + 1 = pc2) (kk : G κ φ Q V k n σ L pc2 (.long (x / y) :: rest)) : G κ φ Q V k n σ L (pc) (.long y :: .long x :: rest) := by
  subst hp
  obtain ⟨p, l, e, R, s, m, args, below, meth, c⟩ := φ
  intro H locs ls hR hS hl
  exact lv_ldiv hc.1 hc.2.1 hd hne (kk H locs ls hR hS hl)
theorem g_lrem {κ : Kx} {φ : Fr} {own : String} {cc : ByteArray} {nL : Nat} {rm : Room} (hc : Cx κ φ own cc nL rm) {Q : State → Prop} {V : Wv} {k n : Nat} {σ : Mem} {L : List (Nat × Value)} {pc : Nat} {rest : List Value} {x y : Int64} (hne : ¬ y = 0) (hd : decode cc pc = .ok (.lrem, 1)) {pc2 : Nat} (hp : pc + 1 = pc2) (kk : G κ φ Q V k n σ L pc2 (.long (x - x / y * y) :: rest)) : G κ φ Q V k n σ L (pc) (.long y :: .long x :: rest) := by
  subst hp
  obtain ⟨p, l, e, R, s, m, args, below, meth, c⟩ := φ
  intro H locs ls hR hS hl
  exact lv_lrem hc.1 hc.2.1 hd hne (kk H locs ls hR hS hl)
theorem g_iushr {κ : Kx} {φ : Fr} {own : String} {cc : ByteArray} {nL : Nat} {rm : Room} (hc : Cx κ φ own cc nL rm) {Q : State → Prop} {V : Wv} {k n : Nat} {σ : Mem} {L : List (Nat × Value)} {pc : Nat} {rest : List Value} {x y : Int32} (hd : decode cc pc = .ok (.iushr, 1)) {pc2 : Nat} (hp : pc + 1 = pc2) (kk : G κ φ Q V k n σ L pc2 (.int ((x.toUInt32 >>> (y.toUInt32 &&& Int32.toUInt32 31)).toInt32) :: rest)) : G κ φ Q V k n σ L (pc) (.int y :: .int x :: rest) := by
  subst hp
  obtain ⟨p, l, e, R, s, m, args, below, meth, c⟩ := φ
  intro H locs ls hR hS hl
  exact lv_iushr hc.1 hc.2.1 hd rfl (kk H locs ls hR hS hl)
theorem g_lushr {κ : Kx} {φ : Fr} {own : String} {cc : ByteArray} {nL : Nat} {rm : Room} (hc : Cx κ φ own cc nL rm) {Q : State → Prop} {V : Wv} {k n : Nat} {σ : Mem} {L : List (Nat × Value)} {pc : Nat} {rest : List Value} {x : Int64} {y : Int32} (hd : decode cc pc = .ok (.lushr, 1)) {pc2 : Nat} (hp : pc + 1 = pc2) (kk : G κ φ Q V k n σ L pc2 (.long ((x.toUInt64 >>> (y.toInt64.toUInt64 &&& Int64.toUInt64 63)).toInt64) :: rest)) : G κ φ Q V k n σ L (pc) (.int y :: .long x :: rest) := by
  subst hp
  obtain ⟨p, l, e, R, s, m, args, below, meth, c⟩ := φ
  intro H locs ls hR hS hl
  exact lv_lushr hc.1 hc.2.1 hd rfl (kk H locs ls hR hS hl)
theorem g_lshl {κ : Kx} {φ : Fr} {own : String} {cc : ByteArray} {nL : Nat} {rm : Room} (hc : Cx κ φ own cc nL rm) {Q : State → Prop} {V : Wv} {k n : Nat} {σ : Mem} {L : List (Nat × Value)} {pc : Nat} {rest : List Value} {x : Int64} {y : Int32} (hd : decode cc pc = .ok (.lshl, 1)) {pc2 : Nat} (hp : pc + 1 = pc2) (kk : G κ φ Q V k n σ L pc2 (.long (x <<< (y.toInt64 &&& 63)) :: rest)) : G κ φ Q V k n σ L (pc) (.int y :: .long x :: rest) := by
  subst hp
  obtain ⟨p, l, e, R, s, m, args, below, meth, c⟩ := φ
  intro H locs ls hR hS hl
  exact lv_lshl hc.1 hc.2.1 hd rfl (kk H locs ls hR hS hl)
theorem g_i2l {κ : Kx} {φ : Fr} {own : String} {cc : ByteArray} {nL : Nat} {rm : Room} (hc : Cx κ φ own cc nL rm) {Q : State → Prop} {V : Wv} {k n : Nat} {σ : Mem} {L : List (Nat × Value)} {pc : Nat} {rest : List Value} {x : Int32} (hd : decode cc pc = .ok (.i2l, 1)) {pc2 : Nat} (hp : pc + 1 = pc2) (kk : G κ φ Q V k n σ L pc2 (.long x.toInt64 :: rest)) : G κ φ Q V k n σ L (pc) (.int x :: rest) := by
  subst hp
  obtain ⟨p, l, e, R, s, m, args, below, meth, c⟩ := φ
  intro H locs ls hR hS hl
  exact lv_i2l hc.1 hc.2.1 hd rfl (kk H locs ls hR hS hl)
theorem g_l2i {κ : Kx} {φ : Fr} {own : String} {cc : ByteArray} {nL : Nat} {rm : Room} (hc : Cx κ φ own cc nL rm) {Q : State → Prop} {V : Wv} {k n : Nat} {σ : Mem} {L : List (Nat × Value)} {pc : Nat} {rest : List Value} {x : Int64} (hd : decode cc pc = .ok (.l2i, 1)) {pc2 : Nat} (hp : pc + 1 = pc2) (kk : G κ φ Q V k n σ L pc2 (.int x.toInt32 :: rest)) : G κ φ Q V k n σ L (pc) (.long x :: rest) := by
  subst hp
  obtain ⟨p, l, e, R, s, m, args, below, meth, c⟩ := φ
  intro H locs ls hR hS hl
  exact lv_l2i hc.1 hc.2.1 hd rfl (kk H locs ls hR hS hl)
theorem g_i2c {κ : Kx} {φ : Fr} {own : String} {cc : ByteArray} {nL : Nat} {rm : Room} (hc : Cx κ φ own cc nL rm) {Q : State → Prop} {V : Wv} {k n : Nat} {σ : Mem} {L : List (Nat × Value)} {pc : Nat} {rest : List Value} {x : Int32} (hd : decode cc pc = .ok (.i2c, 1)) {pc2 : Nat} (hp : pc + 1 = pc2) (kk : G κ φ Q V k n σ L pc2 (.int ((x.toUInt32 % 65536).toInt32) :: rest)) : G κ φ Q V k n σ L (pc) (.int x :: rest) := by
  subst hp
  obtain ⟨p, l, e, R, s, m, args, below, meth, c⟩ := φ
  intro H locs ls hR hS hl
  exact lv_i2c hc.1 hc.2.1 hd rfl (kk H locs ls hR hS hl)
theorem g_dup {κ : Kx} {φ : Fr} {own : String} {cc : ByteArray} {nL : Nat} {rm : Room} (hc : Cx κ φ own cc nL rm) {Q : State → Prop} {V : Wv} {k n : Nat} {σ : Mem} {L : List (Nat × Value)} {pc : Nat} {rest : List Value} {va : Value} (hva : va.category = 1) (hd : decode cc pc = .ok (.dup, 1)) {pc2 : Nat} (hp : pc + 1 = pc2) (kk : G κ φ Q V k n σ L pc2 (va :: va :: rest)) : G κ φ Q V k n σ L (pc) (va :: rest) := by
  subst hp
  obtain ⟨p, l, e, R, s, m, args, below, meth, c⟩ := φ
  intro H locs ls hR hS hl
  exact lv_dup hc.1 hc.2.1 hd hva (kk H locs ls hR hS hl)
theorem g_pop {κ : Kx} {φ : Fr} {own : String} {cc : ByteArray} {nL : Nat} {rm : Room} (hc : Cx κ φ own cc nL rm) {Q : State → Prop} {V : Wv} {k n : Nat} {σ : Mem} {L : List (Nat × Value)} {pc : Nat} {rest : List Value} {va : Value} (hva : va.category = 1) (hd : decode cc pc = .ok (.pop, 1)) {pc2 : Nat} (hp : pc + 1 = pc2) (kk : G κ φ Q V k n σ L pc2 rest) : G κ φ Q V k n σ L (pc) (va :: rest) := by
  subst hp
  obtain ⟨p, l, e, R, s, m, args, below, meth, c⟩ := φ
  intro H locs ls hR hS hl
  exact lv_pop hc.1 hc.2.1 hd hva (kk H locs ls hR hS hl)
theorem g_dup2 {κ : Kx} {φ : Fr} {own : String} {cc : ByteArray} {nL : Nat} {rm : Room} (hc : Cx κ φ own cc nL rm) {Q : State → Prop} {V : Wv} {k n : Nat} {σ : Mem} {L : List (Nat × Value)} {pc : Nat} {rest : List Value} {va vb : Value} (hva : va.category = 1) (hvb : vb.category = 1) (hd : decode cc pc = .ok (.dup2, 1)) {pc2 : Nat} (hp : pc + 1 = pc2) (kk : G κ φ Q V k n σ L pc2 (va :: vb :: va :: vb :: rest)) : G κ φ Q V k n σ L (pc) (va :: vb :: rest) := by
  subst hp
  obtain ⟨p, l, e, R, s, m, args, below, meth, c⟩ := φ
  intro H locs ls hR hS hl
  exact lv_dup2_11 hc.1 hc.2.1 hd hva hvb (kk H locs ls hR hS hl)
theorem g_lcmp {κ : Kx} {φ : Fr} {own : String} {cc : ByteArray} {nL : Nat} {rm : Room} (hc : Cx κ φ own cc nL rm) {Q : State → Prop} {V : Wv} {k n : Nat} {σ : Mem} {L : List (Nat × Value)} {pc : Nat} {rest : List Value} {x y : Int64} (hd : decode cc pc = .ok (.lcmp, 1)) {pc2 : Nat} (hp : pc + 1 = pc2) (kk : G κ φ Q V k n σ L pc2 (.int (lg_cmp x y) :: rest)) : G κ φ Q V k n σ L (pc) (.long y :: .long x :: rest) := by
  subst hp
  obtain ⟨p, l, e, R, s, m, args, below, meth, c⟩ := φ
  intro H locs ls hR hS hl
  exact W.lcmp hc.1 hc.2.1 hd (kk H locs ls hR hS hl)
theorem g_if_eq {κ : Kx} {φ : Fr} {own : String} {cc : ByteArray} {nL : Nat} {rm : Room} (hc : Cx κ φ own cc nL rm) {Q : State → Prop} {V : Wv} {k n : Nat} {σ : Mem} {L : List (Nat × Value)} {pc : Nat} {rest : List Value} {x : Int32} {off : Int} (tgt : Nat) (ht : (pc : Int) + off = (tgt : Int)) (hd : decode cc pc = .ok (.ifCond .eq off, 3)) {pc2 : Nat} (hp : pc + 3 = pc2) (kt : x = 0 → G κ φ Q V k n σ L (tgt) rest) (kf : ¬ x = 0 → G κ φ Q V k n σ L pc2 rest) : G κ φ Q V k n σ L (pc) (.int x :: rest) := by
  subst hp
  obtain ⟨p, l, e, R, s, m, args, below, meth, c⟩ := φ
  intro H locs ls hR hS hl
  exact lv_if_eq hc.1 hc.2.1 hd ht (fun q => kt q H locs ls hR hS hl) (fun q => kf q H locs ls hR hS hl)
theorem g_icmp_eq {κ : Kx} {φ : Fr} {own : String} {cc : ByteArray} {nL : Nat} {rm : Room} (hc : Cx κ φ own cc nL rm) {Q : State → Prop} {V : Wv} {k n : Nat} {σ : Mem} {L : List (Nat × Value)} {pc : Nat} {rest : List Value} {x y : Int32} {off : Int} (tgt : Nat) (ht : (pc : Int) + off = (tgt : Int)) (hd : decode cc pc = .ok (.if_icmp .eq off, 3)) {pc2 : Nat} (hp : pc + 3 = pc2) (kt : x = y → G κ φ Q V k n σ L (tgt) rest) (kf : ¬ x = y → G κ φ Q V k n σ L pc2 rest) : G κ φ Q V k n σ L (pc) (.int y :: .int x :: rest) := by
  subst hp
  obtain ⟨p, l, e, R, s, m, args, below, meth, c⟩ := φ
  intro H locs ls hR hS hl
  exact lv_icmp_eq hc.1 hc.2.1 hd ht (fun q => kt q H locs ls hR hS hl) (fun q => kf q H locs ls hR hS hl)
theorem g_if_ne {κ : Kx} {φ : Fr} {own : String} {cc : ByteArray} {nL : Nat} {rm : Room} (hc : Cx κ φ own cc nL rm) {Q : State → Prop} {V : Wv} {k n : Nat} {σ : Mem} {L : List (Nat × Value)} {pc : Nat} {rest : List Value} {x : Int32} {off : Int} (tgt : Nat) (ht : (pc : Int) + off = (tgt : Int)) (hd : decode cc pc = .ok (.ifCond .ne off, 3)) {pc2 : Nat} (hp : pc + 3 = pc2) (kt : ¬ x = 0 → G κ φ Q V k n σ L (tgt) rest) (kf : x = 0 → G κ φ Q V k n σ L pc2 rest) : G κ φ Q V k n σ L (pc) (.int x :: rest) := by
  subst hp
  obtain ⟨p, l, e, R, s, m, args, below, meth, c⟩ := φ
  intro H locs ls hR hS hl
  exact lv_if_ne hc.1 hc.2.1 hd ht (fun q => kt q H locs ls hR hS hl) (fun q => kf q H locs ls hR hS hl)
theorem g_icmp_ne {κ : Kx} {φ : Fr} {own : String} {cc : ByteArray} {nL : Nat} {rm : Room} (hc : Cx κ φ own cc nL rm) {Q : State → Prop} {V : Wv} {k n : Nat} {σ : Mem} {L : List (Nat × Value)} {pc : Nat} {rest : List Value} {x y : Int32} {off : Int} (tgt : Nat) (ht : (pc : Int) + off = (tgt : Int)) (hd : decode cc pc = .ok (.if_icmp .ne off, 3)) {pc2 : Nat} (hp : pc + 3 = pc2) (kt : ¬ x = y → G κ φ Q V k n σ L (tgt) rest) (kf : x = y → G κ φ Q V k n σ L pc2 rest) : G κ φ Q V k n σ L (pc) (.int y :: .int x :: rest) := by
  subst hp
  obtain ⟨p, l, e, R, s, m, args, below, meth, c⟩ := φ
  intro H locs ls hR hS hl
  exact lv_icmp_ne hc.1 hc.2.1 hd ht (fun q => kt q H locs ls hR hS hl) (fun q => kf q H locs ls hR hS hl)
theorem g_if_lt {κ : Kx} {φ : Fr} {own : String} {cc : ByteArray} {nL : Nat} {rm : Room} (hc : Cx κ φ own cc nL rm) {Q : State → Prop} {V : Wv} {k n : Nat} {σ : Mem} {L : List (Nat × Value)} {pc : Nat} {rest : List Value} {x : Int32} {off : Int} (tgt : Nat) (ht : (pc : Int) + off = (tgt : Int)) (hd : decode cc pc = .ok (.ifCond .lt off, 3)) {pc2 : Nat} (hp : pc + 3 = pc2) (kt : x < 0 → G κ φ Q V k n σ L (tgt) rest) (kf : ¬ x < 0 → G κ φ Q V k n σ L pc2 rest) : G κ φ Q V k n σ L (pc) (.int x :: rest) := by
  subst hp
  obtain ⟨p, l, e, R, s, m, args, below, meth, c⟩ := φ
  intro H locs ls hR hS hl
  exact lv_if_lt hc.1 hc.2.1 hd ht (fun q => kt q H locs ls hR hS hl) (fun q => kf q H locs ls hR hS hl)
theorem g_icmp_lt {κ : Kx} {φ : Fr} {own : String} {cc : ByteArray} {nL : Nat} {rm : Room} (hc : Cx κ φ own cc nL rm) {Q : State → Prop} {V : Wv} {k n : Nat} {σ : Mem} {L : List (Nat × Value)} {pc : Nat} {rest : List Value} {x y : Int32} {off : Int} (tgt : Nat) (ht : (pc : Int) + off = (tgt : Int)) (hd : decode cc pc = .ok (.if_icmp .lt off, 3)) {pc2 : Nat} (hp : pc + 3 = pc2) (kt : x < y → G κ φ Q V k n σ L (tgt) rest) (kf : ¬ x < y → G κ φ Q V k n σ L pc2 rest) : G κ φ Q V k n σ L (pc) (.int y :: .int x :: rest) := by
  subst hp
  obtain ⟨p, l, e, R, s, m, args, below, meth, c⟩ := φ
  intro H locs ls hR hS hl
  exact lv_icmp_lt hc.1 hc.2.1 hd ht (fun q => kt q H locs ls hR hS hl) (fun q => kf q H locs ls hR hS hl)
theorem g_if_ge {κ : Kx} {φ : Fr} {own : String} {cc : ByteArray} {nL : Nat} {rm : Room} (hc : Cx κ φ own cc nL rm) {Q : State → Prop} {V : Wv} {k n : Nat} {σ : Mem} {L : List (Nat × Value)} {pc : Nat} {rest : List Value} {x : Int32} {off : Int} (tgt : Nat) (ht : (pc : Int) + off = (tgt : Int)) (hd : decode cc pc = .ok (.ifCond .ge off, 3)) {pc2 : Nat} (hp : pc + 3 = pc2) (kt : 0 ≤ x → G κ φ Q V k n σ L (tgt) rest) (kf : ¬ 0 ≤ x → G κ φ Q V k n σ L pc2 rest) : G κ φ Q V k n σ L (pc) (.int x :: rest) := by
  subst hp
  obtain ⟨p, l, e, R, s, m, args, below, meth, c⟩ := φ
  intro H locs ls hR hS hl
  exact lv_if_ge hc.1 hc.2.1 hd ht (fun q => kt q H locs ls hR hS hl) (fun q => kf q H locs ls hR hS hl)
theorem g_icmp_ge {κ : Kx} {φ : Fr} {own : String} {cc : ByteArray} {nL : Nat} {rm : Room} (hc : Cx κ φ own cc nL rm) {Q : State → Prop} {V : Wv} {k n : Nat} {σ : Mem} {L : List (Nat × Value)} {pc : Nat} {rest : List Value} {x y : Int32} {off : Int} (tgt : Nat) (ht : (pc : Int) + off = (tgt : Int)) (hd : decode cc pc = .ok (.if_icmp .ge off, 3)) {pc2 : Nat} (hp : pc + 3 = pc2) (kt : y ≤ x → G κ φ Q V k n σ L (tgt) rest) (kf : ¬ y ≤ x → G κ φ Q V k n σ L pc2 rest) : G κ φ Q V k n σ L (pc) (.int y :: .int x :: rest) := by
  subst hp
  obtain ⟨p, l, e, R, s, m, args, below, meth, c⟩ := φ
  intro H locs ls hR hS hl
  exact lv_icmp_ge hc.1 hc.2.1 hd ht (fun q => kt q H locs ls hR hS hl) (fun q => kf q H locs ls hR hS hl)
theorem g_if_gt {κ : Kx} {φ : Fr} {own : String} {cc : ByteArray} {nL : Nat} {rm : Room} (hc : Cx κ φ own cc nL rm) {Q : State → Prop} {V : Wv} {k n : Nat} {σ : Mem} {L : List (Nat × Value)} {pc : Nat} {rest : List Value} {x : Int32} {off : Int} (tgt : Nat) (ht : (pc : Int) + off = (tgt : Int)) (hd : decode cc pc = .ok (.ifCond .gt off, 3)) {pc2 : Nat} (hp : pc + 3 = pc2) (kt : 0 < x → G κ φ Q V k n σ L (tgt) rest) (kf : ¬ 0 < x → G κ φ Q V k n σ L pc2 rest) : G κ φ Q V k n σ L (pc) (.int x :: rest) := by
  subst hp
  obtain ⟨p, l, e, R, s, m, args, below, meth, c⟩ := φ
  intro H locs ls hR hS hl
  exact lv_if_gt hc.1 hc.2.1 hd ht (fun q => kt q H locs ls hR hS hl) (fun q => kf q H locs ls hR hS hl)
theorem g_icmp_gt {κ : Kx} {φ : Fr} {own : String} {cc : ByteArray} {nL : Nat} {rm : Room} (hc : Cx κ φ own cc nL rm) {Q : State → Prop} {V : Wv} {k n : Nat} {σ : Mem} {L : List (Nat × Value)} {pc : Nat} {rest : List Value} {x y : Int32} {off : Int} (tgt : Nat) (ht : (pc : Int) + off = (tgt : Int)) (hd : decode cc pc = .ok (.if_icmp .gt off, 3)) {pc2 : Nat} (hp : pc + 3 = pc2) (kt : y < x → G κ φ Q V k n σ L (tgt) rest) (kf : ¬ y < x → G κ φ Q V k n σ L pc2 rest) : G κ φ Q V k n σ L (pc) (.int y :: .int x :: rest) := by
  subst hp
  obtain ⟨p, l, e, R, s, m, args, below, meth, c⟩ := φ
  intro H locs ls hR hS hl
  exact lv_icmp_gt hc.1 hc.2.1 hd ht (fun q => kt q H locs ls hR hS hl) (fun q => kf q H locs ls hR hS hl)
theorem g_if_le {κ : Kx} {φ : Fr} {own : String} {cc : ByteArray} {nL : Nat} {rm : Room} (hc : Cx κ φ own cc nL rm) {Q : State → Prop} {V : Wv} {k n : Nat} {σ : Mem} {L : List (Nat × Value)} {pc : Nat} {rest : List Value} {x : Int32} {off : Int} (tgt : Nat) (ht : (pc : Int) + off = (tgt : Int)) (hd : decode cc pc = .ok (.ifCond .le off, 3)) {pc2 : Nat} (hp : pc + 3 = pc2) (kt : x ≤ 0 → G κ φ Q V k n σ L (tgt) rest) (kf : ¬ x ≤ 0 → G κ φ Q V k n σ L pc2 rest) : G κ φ Q V k n σ L (pc) (.int x :: rest) := by
  subst hp
  obtain ⟨p, l, e, R, s, m, args, below, meth, c⟩ := φ
  intro H locs ls hR hS hl
  exact lv_if_le hc.1 hc.2.1 hd ht (fun q => kt q H locs ls hR hS hl) (fun q => kf q H locs ls hR hS hl)
theorem g_icmp_le {κ : Kx} {φ : Fr} {own : String} {cc : ByteArray} {nL : Nat} {rm : Room} (hc : Cx κ φ own cc nL rm) {Q : State → Prop} {V : Wv} {k n : Nat} {σ : Mem} {L : List (Nat × Value)} {pc : Nat} {rest : List Value} {x y : Int32} {off : Int} (tgt : Nat) (ht : (pc : Int) + off = (tgt : Int)) (hd : decode cc pc = .ok (.if_icmp .le off, 3)) {pc2 : Nat} (hp : pc + 3 = pc2) (kt : x ≤ y → G κ φ Q V k n σ L (tgt) rest) (kf : ¬ x ≤ y → G κ φ Q V k n σ L pc2 rest) : G κ φ Q V k n σ L (pc) (.int y :: .int x :: rest) := by
  subst hp
  obtain ⟨p, l, e, R, s, m, args, below, meth, c⟩ := φ
  intro H locs ls hR hS hl
  exact lv_icmp_le hc.1 hc.2.1 hd ht (fun q => kt q H locs ls hR hS hl) (fun q => kf q H locs ls hR hS hl)
theorem g_goto {κ : Kx} {φ : Fr} {own : String} {cc : ByteArray} {nL : Nat} {rm : Room} (hc : Cx κ φ own cc nL rm) {Q : State → Prop} {V : Wv} {k n : Nat} {σ : Mem} {L : List (Nat × Value)} {pc : Nat} {rest : List Value} {off : Int} (tgt : Nat) (ht : (pc : Int) + off = (tgt : Int)) (hd : decode cc pc = .ok (.goto off, 3)) (kk : G κ φ Q V k n σ L (tgt) rest) : G κ φ Q V k n σ L (pc) rest := by
  obtain ⟨p, l, e, R, s, m, args, below, meth, c⟩ := φ
  intro H locs ls hR hS hl
  exact lv_goto hc.1 hc.2.1 hd ht (kk H locs ls hR hS hl)
theorem g_tableOut {κ : Kx} {φ : Fr} {own : String} {cc : ByteArray} {nL : Nat} {rm : Room} (hc : Cx κ φ own cc nL rm) {Q : State → Prop} {V : Wv} {k n : Nat} {σ : Mem} {L : List (Nat × Value)} {pc : Nat} {rest : List Value} {dflt lo hi : Int} {offs : Array Int} {len : Nat} {x : Int32} (tgt : Nat) (h : x.toInt < lo ∨ hi < x.toInt) (ht : (pc : Int) + dflt = (tgt : Int)) (hd : decode cc pc = .ok (.tableswitch dflt lo hi offs, len)) (kk : G κ φ Q V k n σ L (tgt) rest) : G κ φ Q V k n σ L (pc) (.int x :: rest) := by
  obtain ⟨p, l, e, R, s, m, args, below, meth, c⟩ := φ
  intro H locs ls hR hS hl
  exact lv_tableOut hc.1 hc.2.1 hd h ht (kk H locs ls hR hS hl)
theorem g_tableIn {κ : Kx} {φ : Fr} {own : String} {cc : ByteArray} {nL : Nat} {rm : Room} (hc : Cx κ φ own cc nL rm) {Q : State → Prop} {V : Wv} {k n : Nat} {σ : Mem} {L : List (Nat × Value)} {pc : Nat} {rest : List Value} {dflt lo hi : Int} {offs : Array Int} {len : Nat} {x : Int32} {off : Int} (tgt : Nat) (h1 : ¬ x.toInt < lo) (h2 : ¬ hi < x.toInt) (ho : offs[(x.toInt - lo).toNat]? = some off) (ht : (pc : Int) + off = (tgt : Int)) (hd : decode cc pc = .ok (.tableswitch dflt lo hi offs, len)) (kk : G κ φ Q V k n σ L (tgt) rest) : G κ φ Q V k n σ L (pc) (.int x :: rest) := by
  obtain ⟨p, l, e, R, s, m, args, below, meth, c⟩ := φ
  intro H locs ls hR hS hl
  exact lv_tableIn hc.1 hc.2.1 hd h1 h2 ho ht (kk H locs ls hR hS hl)
theorem g_ldc {κ : Kx} {φ : Fr} {own : String} {cc : ByteArray} {nL : Nat} {rm : Room} (hc : Cx κ φ own cc nL rm) {Q : State → Prop} {V : Wv} {k n : Nat} {σ : Mem} {L : List (Nat × Value)} {pc : Nat} {rest : List Value} {i : Nat} {v : Int32} (hw : Cond.constant own i v ∈ GW) (hd : decode cc pc = .ok (.ldc i, 2)) {pc2 : Nat} (hp : pc + 2 = pc2) (kk : G κ φ Q V k n σ L pc2 (.int v :: rest)) : G κ φ Q V k n σ L (pc) rest := by
  subst hp
  obtain ⟨p, l, e, R, s, m, args, below, meth, c⟩ := φ
  intro H locs ls hR hS hl
  exact lv_ldc hc.1 hc.2.1 hc.2.2.2.1 (hc.2.2.2.2.1 _ hw) hd (kk H locs ls hR hS hl)
theorem g_ldc2 {κ : Kx} {φ : Fr} {own : String} {cc : ByteArray} {nL : Nat} {rm : Room} (hc : Cx κ φ own cc nL rm) {Q : State → Prop} {V : Wv} {k n : Nat} {σ : Mem} {L : List (Nat × Value)} {pc : Nat} {rest : List Value} {i : Nat} {v : Int64} (hw : Cond.constantLong own i v ∈ GW) (hd : decode cc pc = .ok (.ldc2_w i, 3)) {pc2 : Nat} (hp : pc + 3 = pc2) (kk : G κ φ Q V k n σ L pc2 (.long v :: rest)) : G κ φ Q V k n σ L (pc) rest := by
  subst hp
  obtain ⟨p, l, e, R, s, m, args, below, meth, c⟩ := φ
  intro H locs ls hR hS hl
  exact lv_ldc2 hc.1 hc.2.1 hc.2.2.2.1 (hc.2.2.2.2.1 _ hw) hd (kk H locs ls hR hS hl)
end STEPS
