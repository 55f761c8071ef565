/-! CONTRACTS, CALLS, ENDS -/
section CALLS
theorem wsG_good : ∀ w ∈ GW, (w.onTables && w.keeps) = true ∨ ∃ ty, w = .arrayClass ty := fun w h => good_of_word (List.mem_filter.mp h).2
/-- the words of a method: its code, and all that the law's words hold -/
def wG (y : MethodName) (cy : ByteArray) (nLy : Nat) (ry : Option FieldType) : List Cond := .code y cy nLy ry :: GW
theorem wG_in {y : MethodName} {cy : ByteArray} {nLy : Nat} {ry : Option FieldType} (h : Cond.code y cy nLy ry ∈ GW) : GoodIn GW (wG y cy nLy ry) := by
  intro w hw
  rcases List.mem_cons.mp hw with e | e
  · rw [e]; exact ⟨h, wsG_good _ h⟩
  · exact ⟨e, wsG_good _ e⟩
theorem Wd.blind {κ : Kx} {V : Wv} {σ : Mem} {As : List Value} : FrameBlind (va_Pc As (Wd κ V σ)) := by
  intro a U g mk q
  obtain ⟨qa, q1, q2, q3, q4⟩ := q
  exact ⟨qa, q1, va_K.moved (u := U) (U := U.calling g mk a) (Vm.Alike.refl U.vm) q2, q3, Zs.same (u := U) (U := U.calling g mk a) rfl q4⟩
/-- contracts: an int, a long, nothing comes back; or an int or nothing, or it throws -/
def CtI (κ : Kx) (y : MethodName) (cy : ByteArray) (nLy : Nat) (ry : Option FieldType) (rm : Room) (V V2 : Wv) (As : List Value) (σ σ2 : Mem) (r : Int32) : Prop :=
  ∀ l : Launch, l.stackTraces = false → Met l y (wG y cy nLy ry) rm (va_Pc As (Wd κ V σ)) (va_Qi (fun (r1 : Int32) (_ : Unit) => r1 = r) (fun _ t => RelH κ V2 σ2 t.heap) (Ak κ)) rm.cells rm.slots (Ak κ)
def CtL (κ : Kx) (y : MethodName) (cy : ByteArray) (nLy : Nat) (ry : Option FieldType) (rm : Room) (V V2 : Wv) (As : List Value) (σ σ2 : Mem) (r : Int64) : Prop :=
  ∀ l : Launch, l.stackTraces = false → Met l y (wG y cy nLy ry) rm (va_Pc As (Wd κ V σ)) (va_Ql (fun (r1 : Int64) (_ : Unit) => r1 = r) (fun _ t => RelH κ V2 σ2 t.heap) (Ak κ)) rm.cells rm.slots (Ak κ)
def CtV (κ : Kx) (y : MethodName) (cy : ByteArray) (nLy : Nat) (ry : Option FieldType) (rm : Room) (V V2 : Wv) (As : List Value) (σ σ2 : Mem) : Prop :=
  ∀ l : Launch, l.stackTraces = false → Met l y (wG y cy nLy ry) rm (va_Pc As (Wd κ V σ)) (va_Qv (fun (_ : Unit) => True) (fun _ t => RelH κ V2 σ2 t.heap) (Ak κ)) rm.cells rm.slots (Ak κ)
/-- the words of a call -/
def CallOk (own : String) (idx : Nat) (y : MethodName) (cy : ByteArray) (nLy : Nat) (ry : Option FieldType) (n : Nat) : Prop :=
  Cond.code y cy nLy ry ∈ GW ∧ Cond.methodLink own idx y ∈ GW ∧ Cond.initialized y.cls ∈ GW ∧ (y.cls ≠ "java/lang/invoke/MethodHandle" ∧ y.cls ≠ "java/lang/invoke/VarHandle" ∧ (parseMethodDescriptor y.desc).map (fun d => d.parameters.length) = some n)
def CallOkV (own : String) (idx : Nat) (y : MethodName) (cy : ByteArray) (nLy : Nat) (ry : Option FieldType) (n K : Nat) : Prop :=
  CallOk own idx y cy nLy ry n ∧ Cond.instanceMethod y ∈ GW ∧ Cond.selects y.cls y y ∈ GW ∧ kT K = 6 ∧ ∃ (T : u_T) (N : Nat), vwCl[kCi K]? = some (y.cls, T, N)
def CallOkS (own : String) (idx : Nat) (y : MethodName) (cy : ByteArray) (nLy : Nat) (ry : Option FieldType) (n : Nat) : Prop :=
  CallOk own idx y cy nLy ry n ∧ Cond.static y ∈ GW
variable {κ : Kx} {φ : Fr} {own : String} {cc : ByteArray} {nL : Nat} {rm : Room} {Q : State → Prop} {V V2 : Wv} {k n : Nat} {σ σ2 : Mem} {L : List (Nat × Value)} {pc : Nat} {rest st : List Value}
theorem callB_in {p : Program} {l : Launch} {e : Env} {s : State} {m : MethodId} {args : Array Value} {below : List Frame} {meth : Method} {c : Code} (hc : Cx κ (p, l, e, rm, s, m, args, below, meth, c) own cc nL rm)
    {idx nLy j : Nat} {y : MethodName} {cy : ByteArray} {ry : Option FieldType} {rmy : Room} (hk : CallOk own idx y cy nLy ry j) (hR : rmy.frames + 1 ≤ rm.frames ∧ 8 + (nLy + 11) + rmy.locals ≤ rm.locals) :
    CallB rm s args own idx y cy nLy ry (wG y cy nLy ry) rmy rmy.cells rmy.slots j :=
  callB_of j hc.2.2.2.2.1 (wG_in hk.1) rfl rfl rfl (hc.2.2.2.2.1 _ hk.2.2.1) (hc.2.2.2.2.1 _ hk.2.1) hk.2.2.2 hR
theorem pre_in {p : Program} {l : Launch} {e : Env} {s : State} {m : MethodId} {args : Array Value} {below : List Frame} {meth : Method} {c : Code} {H : Heap} {locs : List Loc} (hc : Cx κ (p, l, e, rm, s, m, args, below, meth, c) own cc nL rm)
    (hR : RelH κ V σ H) (hS : va_S (Ak κ) s.heap H locs) (As : List Value) : ∀ U : State, U.heap = H → s.WarmedH U.vm → va_Pc As (Wd κ V σ) As.toArray U := by
  intro U hU hW
  subst hU
  have hz := (hc.2.2.2.2.2.2.2.2.2.1).kept (H1 := U.heap) (fun a h1 h2 => hS.2.1 a h1 h2)
  exact ⟨rfl, hR, va_K.moved hW.alike hc.2.2.2.2.2.1, Nat.le_trans hc.2.2.2.2.2.2.1 hS.1, hz.warm hW⟩
theorem recv_in {p : Program} {l : Launch} {e : Env} {s : State} {m : MethodId} {args : Array Value} {below : List Frame} {meth : Method} {c : Code} {H : Heap} (hc : Cx κ (p, l, e, rm, s, m, args, below, meth, c) own cc nL rm)
    (hR : RelH κ V σ H) {K o : Nat} {C : String} {T : u_T} {N : Nat} (h6 : kT K = 6) (hcl : vwCl[kCi K]? = some (C, T, N)) (ho : V.1 K o) : ∃ cell : Cell, H[ad κ.1 K o]? = some cell ∧ cell.vm.isStatics = false ∧ s.vm.findClass C = some cell.cls := by
  have hat := hR.1 K o ho
  rw [ent_obj h6] at hat
  exact va_recv (q := (C, T, N)) hc.2.2.2.2.2.1 (va_one hat) hcl (q0 := 0) rfl
theorem hA_in : ∀ q : Nat, q < 0 → True := fun _ _ => trivial
theorem g_vI (hc : Cx κ φ own cc nL rm) {idx nLy j K o : Nat} {y : MethodName} {cy : ByteArray} {ry : Option FieldType} {rmy : Room} {As : List Value} {r : Int32} (hM : CtI κ y cy nLy ry rmy V V2 (.ref (ad κ.1 K o) :: As) σ σ2 r) (hk : CallOkV own idx y cy nLy ry j K) (ho : V.1 K o)
    (hst : st = As.reverse ++ .ref (ad κ.1 K o) :: rest) (hn : As.length = j) (hr : rmy.frames + 1 ≤ rm.frames ∧ 8 + (nLy + 11) + rmy.locals ≤ rm.locals) (hf : k + rmy.cells ≤ rm.cells ∧ n + rmy.slots ≤ rm.slots) (hcat : (rest.map fun v => v.category).sum ≤ 8)
    (hd : decode cc pc = .ok (.invokevirtual idx, 3)) {pc2 : Nat} (hp : pc + 3 = pc2) (kk : G κ φ Q V2 (k + rmy.cells) (n + rmy.slots) σ2 L pc2 (.int r :: rest)) : G κ φ Q V k n σ L pc st := by
  subst hp
  subst hst
  obtain ⟨p, l, e, R, s, m, args, below, meth, c⟩ := φ
  obtain rfl : R = rm := hc.2.2.2.2.2.2.2.2.2.2
  intro H locs ls hR hS hl
  obtain ⟨hk1, hk2, hk3, h6, T, N, hcl⟩ := hk
  have hts := hc.2.2.2.2.1
  refine va_calli (va_runV (As := As) (rest := rest) ⟨hc.1, hc.2.1, hc.2.2.1, hc.2.2.2.1, hts⟩ (hM l hc.2.2.2.2.2.2.2.2.1) ⟨callB_in hc hk1 hr, hts _ hk2, hts _ hk3⟩ ⟨Wd.blind, recv_in hc hR h6 hcl ho, pre_in hc hR hS _⟩ rfl hn (hl.1.trans hc.2.2.1) rfl (lv_room hcat) hd hf) hS (fun q _ h => h) (fun q h => h) (fun r1 u t H1 locs1 ht hvm hw hB hz1 hk9 hS1 => ?_)
  cases hw
  rw [ht] at hB
  exact kk H1 locs1 ls hB hS1 hl
theorem g_vV (hc : Cx κ φ own cc nL rm) {idx nLy j K o : Nat} {y : MethodName} {cy : ByteArray} {ry : Option FieldType} {rmy : Room} {As : List Value} (hM : CtV κ y cy nLy ry rmy V V2 (.ref (ad κ.1 K o) :: As) σ σ2) (hk : CallOkV own idx y cy nLy ry j K) (ho : V.1 K o)
    (hst : st = As.reverse ++ .ref (ad κ.1 K o) :: rest) (hn : As.length = j) (hr : rmy.frames + 1 ≤ rm.frames ∧ 8 + (nLy + 11) + rmy.locals ≤ rm.locals) (hf : k + rmy.cells ≤ rm.cells ∧ n + rmy.slots ≤ rm.slots) (hcat : (rest.map fun v => v.category).sum ≤ 8)
    (hd : decode cc pc = .ok (.invokevirtual idx, 3)) {pc2 : Nat} (hp : pc + 3 = pc2) (kk : G κ φ Q V2 (k + rmy.cells) (n + rmy.slots) σ2 L pc2 rest) : G κ φ Q V k n σ L pc st := by
  subst hp
  subst hst
  obtain ⟨p, l, e, R, s, m, args, below, meth, c⟩ := φ
  obtain rfl : R = rm := hc.2.2.2.2.2.2.2.2.2.2
  intro H locs ls hR hS hl
  obtain ⟨hk1, hk2, hk3, h6, T, N, hcl⟩ := hk
  have hts := hc.2.2.2.2.1
  refine va_callv (va_runV (As := As) (rest := rest) ⟨hc.1, hc.2.1, hc.2.2.1, hc.2.2.2.1, hts⟩ (hM l hc.2.2.2.2.2.2.2.2.1) ⟨callB_in hc hk1 hr, hts _ hk2, hts _ hk3⟩ ⟨Wd.blind, recv_in hc hR h6 hcl ho, pre_in hc hR hS _⟩ rfl hn (hl.1.trans hc.2.2.1) rfl (lv_room hcat) hd hf) hS (fun q _ h => h) (fun q h => h) (fun u t H1 locs1 ht hvm hw hB hz1 hk9 hS1 => ?_)
  rw [ht] at hB
  exact kk H1 locs1 ls hB hS1 hl
theorem g_sI (hc : Cx κ φ own cc nL rm) {idx nLy j : Nat} {y : MethodName} {cy : ByteArray} {ry : Option FieldType} {rmy : Room} {As : List Value} {r : Int32} (hM : CtI κ y cy nLy ry rmy V V2 As σ σ2 r) (hk : CallOkS own idx y cy nLy ry j)
    (hst : st = As.reverse ++ rest) (hn : As.length = j) (hr : rmy.frames + 1 ≤ rm.frames ∧ 8 + (nLy + 11) + rmy.locals ≤ rm.locals) (hf : k + rmy.cells ≤ rm.cells ∧ n + rmy.slots ≤ rm.slots) (hcat : (rest.map fun v => v.category).sum ≤ 8)
    (hd : decode cc pc = .ok (.invokestatic idx, 3)) {pc2 : Nat} (hp : pc + 3 = pc2) (kk : G κ φ Q V2 (k + rmy.cells) (n + rmy.slots) σ2 L pc2 (.int r :: rest)) : G κ φ Q V k n σ L pc st := by
  subst hp
  subst hst
  obtain ⟨p, l, e, R, s, m, args, below, meth, c⟩ := φ
  obtain rfl : R = rm := hc.2.2.2.2.2.2.2.2.2.2
  intro H locs ls hR hS hl
  have hts := hc.2.2.2.2.1
  refine va_calli (va_runS (As := As) (rest := rest) ⟨hc.1, hc.2.1, hc.2.2.1, hc.2.2.2.1, hts⟩ (hM l hc.2.2.2.2.2.2.2.2.1) ⟨callB_in hc hk.1 hr, hts _ hk.2⟩ ⟨Wd.blind, pre_in hc hR hS _⟩ rfl hn (hl.1.trans hc.2.2.1) rfl (lv_room hcat) hd hf) hS (fun q _ h => h) (fun q h => h) (fun r1 u t H1 locs1 ht hvm hw hB hz1 hk9 hS1 => ?_)
  cases hw
  rw [ht] at hB
  exact kk H1 locs1 ls hB hS1 hl
theorem g_sL (hc : Cx κ φ own cc nL rm) {idx nLy j : Nat} {y : MethodName} {cy : ByteArray} {ry : Option FieldType} {rmy : Room} {As : List Value} {r : Int64} (hM : CtL κ y cy nLy ry rmy V V2 As σ σ2 r) (hk : CallOkS own idx y cy nLy ry j)
    (hst : st = As.reverse ++ rest) (hn : As.length = j) (hr : rmy.frames + 1 ≤ rm.frames ∧ 8 + (nLy + 11) + rmy.locals ≤ rm.locals) (hf : k + rmy.cells ≤ rm.cells ∧ n + rmy.slots ≤ rm.slots) (hcat : (rest.map fun v => v.category).sum ≤ 8)
    (hd : decode cc pc = .ok (.invokestatic idx, 3)) {pc2 : Nat} (hp : pc + 3 = pc2) (kk : G κ φ Q V2 (k + rmy.cells) (n + rmy.slots) σ2 L pc2 (.long r :: rest)) : G κ φ Q V k n σ L pc st := by
  subst hp
  subst hst
  obtain ⟨p, l, e, R, s, m, args, below, meth, c⟩ := φ
  obtain rfl : R = rm := hc.2.2.2.2.2.2.2.2.2.2
  intro H locs ls hR hS hl
  have hts := hc.2.2.2.2.1
  refine va_calll (va_runS (As := As) (rest := rest) ⟨hc.1, hc.2.1, hc.2.2.1, hc.2.2.2.1, hts⟩ (hM l hc.2.2.2.2.2.2.2.2.1) ⟨callB_in hc hk.1 hr, hts _ hk.2⟩ ⟨Wd.blind, pre_in hc hR hS _⟩ rfl hn (hl.1.trans hc.2.2.1) rfl (lv_room hcat) hd hf) hS (fun q _ h => h) (fun q h => h) (fun r1 u t H1 locs1 ht hvm hw hB hz1 hk9 hS1 => ?_)
  cases hw
  rw [ht] at hB
  exact kk H1 locs1 ls hB hS1 hl
theorem g_sV (hc : Cx κ φ own cc nL rm) {idx nLy j : Nat} {y : MethodName} {cy : ByteArray} {ry : Option FieldType} {rmy : Room} {As : List Value} (hM : CtV κ y cy nLy ry rmy V V2 As σ σ2) (hk : CallOkS own idx y cy nLy ry j)
    (hst : st = As.reverse ++ rest) (hn : As.length = j) (hr : rmy.frames + 1 ≤ rm.frames ∧ 8 + (nLy + 11) + rmy.locals ≤ rm.locals) (hf : k + rmy.cells ≤ rm.cells ∧ n + rmy.slots ≤ rm.slots) (hcat : (rest.map fun v => v.category).sum ≤ 8)
    (hd : decode cc pc = .ok (.invokestatic idx, 3)) {pc2 : Nat} (hp : pc + 3 = pc2) (kk : G κ φ Q V2 (k + rmy.cells) (n + rmy.slots) σ2 L pc2 rest) : G κ φ Q V k n σ L pc st := by
  subst hp
  subst hst
  obtain ⟨p, l, e, R, s, m, args, below, meth, c⟩ := φ
  obtain rfl : R = rm := hc.2.2.2.2.2.2.2.2.2.2
  intro H locs ls hR hS hl
  have hts := hc.2.2.2.2.1
  refine va_callv (va_runS (As := As) (rest := rest) ⟨hc.1, hc.2.1, hc.2.2.1, hc.2.2.2.1, hts⟩ (hM l hc.2.2.2.2.2.2.2.2.1) ⟨callB_in hc hk.1 hr, hts _ hk.2⟩ ⟨Wd.blind, pre_in hc hR hS _⟩ rfl hn (hl.1.trans hc.2.2.1) rfl (lv_room hcat) hd hf) hS (fun q _ h => h) (fun q h => h) (fun u t H1 locs1 ht hvm hw hB hz1 hk9 hS1 => ?_)
  rw [ht] at hB
  exact kk H1 locs1 ls hB hS1 hl
/-- ends -/
def QI (κ : Kx) (φ : Fr) (V2 : Wv) (σ2 : Mem) (r : Int32) (mc msl : Nat) : State → Prop := match φ with
  | (_, _, _, _, s, _, args, below, _, _) => MQ below (va_Qi (fun (r1 : Int32) (_ : Unit) => r1 = r) (fun _ t => RelH κ V2 σ2 t.heap) (Ak κ)) args s mc msl (Ak κ)
def QL (κ : Kx) (φ : Fr) (V2 : Wv) (σ2 : Mem) (r : Int64) (mc msl : Nat) : State → Prop := match φ with
  | (_, _, _, _, s, _, args, below, _, _) => MQ below (va_Ql (fun (r1 : Int64) (_ : Unit) => r1 = r) (fun _ t => RelH κ V2 σ2 t.heap) (Ak κ)) args s mc msl (Ak κ)
def QV (κ : Kx) (φ : Fr) (V2 : Wv) (σ2 : Mem) (mc msl : Nat) : State → Prop := match φ with
  | (_, _, _, _, s, _, args, below, _, _) => MQ below (va_Qv (fun (_ : Unit) => True) (fun _ t => RelH κ V2 σ2 t.heap) (Ak κ)) args s mc msl (Ak κ)
/-- what a method's answer is, by its head -/
def Rt (φ : Fr) (ry : Option FieldType) : Prop := match φ with
  | (_, _, _, _, _, _, _, _, meth, _) => meth.sig.returnType = ry
theorem g_iret (hc : Cx κ φ own cc nL rm) {r x : Int32} {ty : FieldType} {mc msl : Nat} (hf : some (x, σ) = some (r, σ2)) (hr : Rt φ (some ty)) (hn : narrow ty (.int x) = .int x) (h1 : k ≤ mc) (h2 : n ≤ msl) (hd : decode cc pc = .ok (.ireturn, 1)) : G κ φ (QI κ φ V σ2 r mc msl) V k n σ L pc [.int x] := by
  cases hf
  obtain ⟨p, l, e, R, s, m, args, below, meth, c⟩ := φ
  intro H locs ls hR hS hl
  refine W.widen h1 h2 ?_
  exact W.zret hc.1 hc.2.1 hr hn (fun t ht hw => ⟨⟨_, (), rfl, rfl, by show RelH _ _ _ t.heap; rw [ht]; exact hR⟩, hS.F ht⟩) (fun q hq => hS.2.2 q hq) hd hc.2.2.2.2.2.2.2.1
theorem g_lret (hc : Cx κ φ own cc nL rm) {r x : Int64} {mc msl : Nat} (hf : some (x, σ) = some (r, σ2)) (hr : Rt φ (some .long)) (h1 : k ≤ mc) (h2 : n ≤ msl) (hd : decode cc pc = .ok (.lreturn, 1)) : G κ φ (QL κ φ V σ2 r mc msl) V k n σ L pc [.long x] := by
  cases hf
  obtain ⟨p, l, e, R, s, m, args, below, meth, c⟩ := φ
  intro H locs ls hR hS hl
  refine W.widen h1 h2 ?_
  exact W.lret hc.1 hc.2.1 hr (fun t ht hw => ⟨⟨_, (), rfl, rfl, by show RelH _ _ _ t.heap; rw [ht]; exact hR⟩, hS.F ht⟩) (fun q hq => hS.2.2 q hq) hd hc.2.2.2.2.2.2.2.1
theorem g_vret (hc : Cx κ φ own cc nL rm) {mc msl : Nat} (hf : some σ = some σ2) (hr : Rt φ none) (h1 : k ≤ mc) (h2 : n ≤ msl) (hd : decode cc pc = .ok (.return_, 1)) : G κ φ (QV κ φ V σ2 mc msl) V k n σ L pc [] := by
  cases hf
  obtain ⟨p, l, e, R, s, m, args, below, meth, c⟩ := φ
  intro H locs ls hR hS hl
  refine W.widen h1 h2 ?_
  exact W.vret hc.1 hc.2.1 hr (fun t ht hw => ⟨⟨(), rfl, trivial, by show RelH _ _ _ t.heap; rw [ht]; exact hR⟩, hS.F ht⟩) (fun q hq => hS.2.2 q hq) hd hc.2.2.2.2.2.2.2.1
/-- entries -/
theorem Met.ofWF {l : Launch} {y : MethodName} {ws ws' : List Cond} {rm : Room} {Pc : Array Value → State → Prop} {Qc : Array Value → State → Outcome → State → Prop} {mc ms : Nat} {free : Addr → Prop} {cc : ByteArray} {maxL : Nat} {ret : Option FieldType}
    (hy : plainFor y = true) (hw : ws = Cond.code y cc maxL ret :: ws')
    (body : ∀ p e s m args below meth c s₁, BodyLoose p l y (headSpec ws rm) cc maxL ret e s m args below meth c s₁ → c.maxLocals = maxL → Pc args s →
      W p l e (headSpec ws rm).room s m args below meth c s.heap [] 0 0 (MQ below Qc args s mc ms free) (entryFrame m args maxL)) : Met l y ws rm Pc Qc mc ms free := by
  refine MetFree.of_bodySF (code := cc) (maxLocals := maxL) (ret := ret) hy ?_ ?_
  · intro args s m h hn
    obtain ⟨meth, c, h1, h2, h3, h4, h5, h6, -, -⟩ := Cond.code_spec hn (atoms_spec (ws := ws) h _ (by rw [hw]; exact List.mem_cons_self))
    exact ⟨meth, c, h1, h2, h3, h4, h5, h6⟩
  · intro p e s m args below meth c s₁ B hml hP _
    have hh0 : s₁.heap = s.heap := by rw [B.state]; rfl
    obtain ⟨t, a1, o, b1, b2, b3⟩ := body p e s m args below meth c s₁ B hml hP s₁ hh0 (Stand.of_body B)
    exact ⟨t, o, a1, b1, b2, ⟨b3.1, b3.2⟩⟩
theorem ct_of {p : Program} {l : Launch} {e : Env} {s : State} {m : MethodId} {args : Array Value} {below : List Frame} {meth : Method} {c : Code} {s₁ : State} {y : MethodName} {cy : ByteArray} {nLy : Nat} {ry : Option FieldType} {As : List Value} (hl9 : l.stackTraces = false)
    (B : BodyLoose p l y (headSpec (wG y cy nLy ry) rm) cy nLy ry e s m args below meth c s₁) (hml : c.maxLocals = nLy) (hP : va_Pc As (Wd κ V σ) args s) : Cx κ (p, l, e, rm, s, m, args, below, meth, c) y.cls cy nLy rm ∧ Rt (p, l, e, rm, s, m, args, below, meth, c) ry := by
  obtain ⟨-, h1, h2, h3, h4⟩ := hP
  have hts := atoms_spec (ws := wG y cy nLy ry) B.pre
  exact ⟨⟨B.exec, B.bytes, hml, findClass_of_methodNamed B.named, fun w hw => hts w (List.mem_cons_of_mem _ hw), h2, h3, B.notSynchronized, hl9, h4, rfl⟩, B.returns⟩
theorem ct_go {p : Program} {l : Launch} {e : Env} {R : Room} {s : State} {m : MethodId} {args : Array Value} {below : List Frame} {meth : Method} {c : Code} {nLy : Nat} {As : List Value} {Q : State → Prop} (hml : c.maxLocals = nLy) (hlen : (lg_sl As).length ≤ nLy) (hP : va_Pc As (Wd κ V σ) args s)
    (h : G κ (p, l, e, R, s, m, args, below, meth, c) Q V 0 0 σ (lv_args 0 As) 0 []) : W p l e R s m args below meth c s.heap [] 0 0 Q (entryFrame m args nLy) := by
  obtain ⟨rfl, h1, h2, h3, h4⟩ := hP
  have hl := lv_entry As (n := nLy) hlen
  rw [lg_entry_eq]
  exact h s.heap [] _ h1 va_S.rf (by rw [hml]; exact hl)
theorem ct_I {y : MethodName} {cy : ByteArray} {nLy : Nat} {ry : Option FieldType} {As : List Value} {r : Int32} (hy : plainFor y = true) (hlen : (lg_sl As).length ≤ nLy)
    (h : ∀ φ : Fr, Cx κ φ y.cls cy nLy rm → Rt φ ry → G κ φ (QI κ φ V2 σ2 r rm.cells rm.slots) V 0 0 σ (lv_args 0 As) 0 []) : CtI κ y cy nLy ry rm V V2 As σ σ2 r := by
  intro l hl9
  refine Met.ofWF (cc := cy) (maxL := nLy) (ret := ry) hy rfl ?_
  intro p e s m args below meth c s₁ B hml hP
  have hC := ct_of hl9 B hml hP
  exact ct_go hml hlen hP (h _ hC.1 hC.2)
theorem ct_L {y : MethodName} {cy : ByteArray} {nLy : Nat} {ry : Option FieldType} {As : List Value} {r : Int64} (hy : plainFor y = true) (hlen : (lg_sl As).length ≤ nLy)
    (h : ∀ φ : Fr, Cx κ φ y.cls cy nLy rm → Rt φ ry → G κ φ (QL κ φ V2 σ2 r rm.cells rm.slots) V 0 0 σ (lv_args 0 As) 0 []) : CtL κ y cy nLy ry rm V V2 As σ σ2 r := by
  intro l hl9
  refine Met.ofWF (cc := cy) (maxL := nLy) (ret := ry) hy rfl ?_
  intro p e s m args below meth c s₁ B hml hP
  have hC := ct_of hl9 B hml hP
  exact ct_go hml hlen hP (h _ hC.1 hC.2)
theorem ct_V {y : MethodName} {cy : ByteArray} {nLy : Nat} {ry : Option FieldType} {As : List Value} (hy : plainFor y = true) (hlen : (lg_sl As).length ≤ nLy)
    (h : ∀ φ : Fr, Cx κ φ y.cls cy nLy rm → Rt φ ry → G κ φ (QV κ φ V2 σ2 rm.cells rm.slots) V 0 0 σ (lv_args 0 As) 0 []) : CtV κ y cy nLy ry rm V V2 As σ σ2 := by
  intro l hl9
  refine Met.ofWF (cc := cy) (maxL := nLy) (ret := ry) hy rfl ?_
  intro p e s m args below meth c s₁ B hml hP
  have hC := ct_of hl9 B hml hP
  exact ct_go hml hlen hP (h _ hC.1 hC.2)
end CALLS
