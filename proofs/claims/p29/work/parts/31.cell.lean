/-! THE LAW'S SCRIPT: its cells, the method that reads them -/
section CELL
variable {κ : Kx} {φ : Fr} {own : String} {cc : ByteArray} {nL : Nat} {rm : Room} {Q : State → Prop} {V V2 : Wv} {k n b Ls : Nat} {xs : Nat → Int32} {σ σ2 : Mem} {L : List (Nat × Value)} {pc : Nat} {rest st : List Value}
def XU (κ : Kx) (b Ls : Nat) (xs : Nat → Int32) (U : State) : Prop := va_X b Ls xs U U.heap ∧ b < U.heap.size ∧ b < κ.1
def Xs (κ : Kx) (φ : Fr) (b Ls : Nat) (xs : Nat → Int32) : Prop := match φ with
  | (_, _, _, _, s, _, _, _, _, _) => XU κ b Ls xs s
theorem g_sld (hc : Cx κ φ own cc nL rm) (hX : Xs κ φ b Ls xs) {i : Int32} (hi : ib i Ls = true) (hd : decode cc pc = .ok (.iaload, 1)) {pc2 : Nat} (hp : pc + 1 = pc2) (kk : G κ φ Q V k n σ L pc2 (.int (xs i.toNatClampNeg) :: rest)) : G κ φ Q V k n σ L pc (.int i :: .ref b :: rest) := by
  subst hp
  obtain ⟨p, l, e, R, s, m, args, below, meth, c⟩ := φ
  intro H locs ls hR hS hl
  exact va_sld hc.1 hc.2.1 hX.1 hX.2.1 (fun h : κ.1 ≤ b => absurd hX.2.2 (Nat.not_lt.mpr h)) hS (ib_in hi) hd (kk H locs ls hR hS hl)
theorem g_slen (hc : Cx κ φ own cc nL rm) (hX : Xs κ φ b Ls xs) (hd : decode cc pc = .ok (.arraylength, 1)) {pc2 : Nat} (hp : pc + 1 = pc2) (kk : G κ φ Q V k n σ L pc2 (.int (Int32.ofNat Ls) :: rest)) : G κ φ Q V k n σ L pc (.ref b :: rest) := by
  subst hp
  obtain ⟨p, l, e, R, s, m, args, below, meth, c⟩ := φ
  intro H locs ls hR hS hl
  exact va_slen hc.1 hc.2.1 hX.1 hX.2.1 (fun h : κ.1 ≤ b => absurd hX.2.2 (Nat.not_lt.mpr h)) hS hd (kk H locs ls hR hS hl)
def CtC (κ : Kx) (y : MethodName) (cy : ByteArray) (nLy : Nat) (ry : Option FieldType) (rm : Room) (V V2 : Wv) (b Ls : Nat) (xs : Nat → Int32) (As : List Value) (σ σ2 : Mem) (r : Int32) : Prop :=
  ∀ l : Launch, l.stackTraces = false → Met l y (wG y cy nLy ry) rm (va_Pc As (fun U => Wd κ V σ U ∧ XU κ b Ls xs U)) (va_Qi (fun (r1 : Int32) (_ : Unit) => r1 = r) (fun _ t => RelH κ V2 σ2 t.heap) (Ak κ)) rm.cells rm.slots (Ak κ)
theorem ct_C {y : MethodName} {cy : ByteArray} {nLy : Nat} {ry : Option FieldType} {As : List Value} {r : Int32} (hy : plainFor y = true) (hlen : (lg_sl As).length ≤ nLy)
    (h : ∀ φ : Fr, Cx κ φ y.cls cy nLy rm → Rt φ ry → Xs κ φ b Ls xs → G κ φ (QI κ φ V2 σ2 r rm.cells rm.slots) V 0 0 σ (lv_args 0 As) 0 []) : CtC κ y cy nLy ry rm V V2 b Ls xs As σ σ2 r := by
  intro l hl9
  refine Met.ofWF (cc := cy) (maxL := nLy) (ret := ry) hy rfl ?_
  intro p e s m args below meth c s₁ B hml hP
  have hP2 : va_Pc As (Wd κ V σ) args s := ⟨hP.1, hP.2.1⟩
  have hC := ct_of hl9 B hml hP2
  exact ct_go hml hlen hP2 (h _ hC.1 hC.2 hP.2.2)
theorem Wd.blind3 {As : List Value} : FrameBlind (va_Pc As (fun U => Wd κ V σ U ∧ XU κ b Ls xs U)) := by
  intro a U g mk q
  obtain ⟨qa, ⟨q1, q2, q3, q4⟩, q5, q6, q7⟩ := q
  exact ⟨qa, ⟨q1, va_K.moved (u := U) (U := U.calling g mk a) (Vm.Alike.refl U.vm) q2, q3, Zs.same (u := U) (U := U.calling g mk a) rfl q4⟩, va_X.moved (u := U) (U := U.calling g mk a) (Vm.Alike.refl U.vm) q5, q6, q7⟩
theorem pre_in3 {p : Program} {l : Launch} {e : Env} {s : State} {m : MethodId} {args : Array Value} {below : List Frame} {meth : Method} {c : Code} {H : Heap} {locs : List Loc} (hc : Cx κ (p, l, e, rm, s, m, args, below, meth, c) own cc nL rm) (hX : XU κ b Ls xs s)
    (hR : RelH κ V σ H) (hS : va_S (Ak κ) s.heap H locs) (As : List Value) : ∀ U : State, U.heap = H → s.WarmedH U.vm → va_Pc As (fun U => Wd κ V σ U ∧ XU κ b Ls xs U) As.toArray U := by
  intro U hU hW
  obtain ⟨h1, h2⟩ := pre_in hc hR hS As U hU hW
  subst hU
  exact ⟨h1, h2, va_X.moved hW.alike (va_X.kept hX.1 (hS.2.1 b hX.2.1 (fun h : κ.1 ≤ b => absurd hX.2.2 (Nat.not_lt.mpr h)))), Nat.lt_of_lt_of_le hX.2.1 hS.1, hX.2.2⟩
theorem g_sC (hc : Cx κ φ own cc nL rm) (hX : Xs κ φ b Ls xs) {idx nLy j : Nat} {y : MethodName} {cy : ByteArray} {ry : Option FieldType} {rmy : Room} {As : List Value} {r : Int32} (hM : CtC κ y cy nLy ry rmy V V2 b Ls xs As σ σ2 r) (hk : CallOkS own idx y cy nLy ry j)
    (hst : st = As.reverse ++ rest) (hn : As.length = j) (hr : rmy.frames + 1 ≤ rm.frames ∧ 8 + (nLy + 11) + rmy.locals ≤ rm.locals) (hf : k + rmy.cells ≤ rm.cells ∧ n + rmy.slots ≤ rm.slots) (hcat : (rest.map fun v => v.category).sum ≤ 8)
    (hd : decode cc pc = .ok (.invokestatic idx, 3)) {pc2 : Nat} (hp : pc + 3 = pc2) (kk : G κ φ Q V2 (k + rmy.cells) (n + rmy.slots) σ2 L pc2 (.int r :: rest)) : G κ φ Q V k n σ L pc st := by
  subst hp
  subst hst
  obtain ⟨p, l, e, R, s, m, args, below, meth, c⟩ := φ
  obtain rfl : R = rm := hc.2.2.2.2.2.2.2.2.2.2
  intro H locs ls hR hS hl
  have hts := hc.2.2.2.2.1
  refine va_calli (va_runS (As := As) (rest := rest) ⟨hc.1, hc.2.1, hc.2.2.1, hc.2.2.2.1, hts⟩ (hM l hc.2.2.2.2.2.2.2.2.1) ⟨callB_in hc hk.1 hr, hts _ hk.2⟩ ⟨Wd.blind3, pre_in3 hc hX hR hS _⟩ rfl hn (hl.1.trans hc.2.2.1) rfl (lv_room hcat) hd hf) hS (fun q _ h => h) (fun q h => h) (fun r1 u t H1 locs1 ht hvm hw hB hz1 hk9 hS1 => ?_)
  cases hw
  rw [ht] at hB
  exact kk H1 locs1 ls hB hS1 hl
def fL_cell (Ls : Nat) (xs : Nat → Int32) (a2 : Int32) (s0 : Mem) : Option (Int32 × Mem) :=
  if Int32.ofNat Ls ≤ a2 then some (((15564307 : Int32) * a2 + (1801 : Int32)) &&& (2147483647 : Int32), s0) else gd (ib a2 Ls) (some (xs a2.toNatClampNeg &&& (2147483647 : Int32), s0))
def rm_L_cell : Room := { frames := 0, cells := 0, slots := 0, locals := 0 }
theorem kL_cell {τ : Nat → Int64} {a2 rR : Int32} {s0 sR : Mem} (hf : fL_cell Ls xs a2 s0 = some (rR, sR)) : CtC κ yL_cell cL_cell 2 (some .int) rm_L_cell (NV κ τ) (NV κ τ) b Ls xs [.ref b, .int a2] s0 sR rR := by
  refine ct_C (by decide +kernel) (Nat.le_of_ble_eq_true rfl) (fun φ hc hr hX => ?_)
  have hc : Cx κ φ RL cL_cell 2 rm_L_cell := hc
  show G κ φ (QI κ φ (NV κ τ) sR rR rm_L_cell.cells rm_L_cell.slots) (NV κ τ) 0 0 s0 [(0, .ref b), (1, .int a2)] 0 []
  unfold fL_cell at hf
  have hend : ∀ y : Int32, some (y &&& (2147483647 : Int32), s0) = some (rR, sR) → G κ φ (QI κ φ (NV κ τ) sR rR rm_L_cell.cells rm_L_cell.slots) (NV κ τ) 0 0 s0 [(0, .ref b), (1, .int a2)] 20 [.int y] := by
    intro y hf
    refine g_ldc (v := (2147483647 : Int32)) hc (gwm 624 (by decide +kernel) (by decide +kernel)) dL_cell_20 (pc2 := 22) rfl ?_
    refine g_iand hc dL_cell_22 (pc2 := 23) rfl ?_
    exact g_iret hc hf hr rfl (by decide) (by decide) dL_cell_23
  refine g_iload_n (i := 1) hc 1 rfl rfl dL_cell_0 (pc2 := 1) rfl ?_
  refine g_aload_n (i := 0) hc 0 rfl rfl dL_cell_1 (pc2 := 2) rfl ?_
  refine g_slen hc hX dL_cell_2 (pc2 := 3) rfl ?_
  refine g_icmp_ge hc 12 (by decide) dL_cell_3 (pc2 := 6) rfl (fun q => ?_) (fun q => ?_)
  · have hf := ite_t hf q
    refine g_ldc (v := (15564307 : Int32)) hc (gwm 623 (by decide +kernel) (by decide +kernel)) dL_cell_12 (pc2 := 14) rfl ?_
    refine g_iload_n (i := 1) hc 1 rfl rfl dL_cell_14 (pc2 := 15) rfl ?_
    refine g_imul hc dL_cell_15 (pc2 := 16) rfl ?_
    refine g_sipush (v := (1801 : Int32)) hc (by decide) dL_cell_16 (pc2 := 19) rfl ?_
    refine g_iadd hc dL_cell_19 (pc2 := 20) rfl ?_
    exact hend _ hf
  · have hf := ite_f hf q
    obtain ⟨hg, hf⟩ := gd_some hf
    refine g_aload_n (i := 0) hc 0 rfl rfl dL_cell_6 (pc2 := 7) rfl ?_
    refine g_iload_n (i := 1) hc 1 rfl rfl dL_cell_7 (pc2 := 8) rfl ?_
    refine g_sld hc hX hg dL_cell_8 (pc2 := 9) rfl ?_
    refine g_goto hc 20 (by decide) dL_cell_9 ?_
    exact hend _ hf
theorem co_L_78 : CallOkS RL 78 yL_cell cL_cell 2 (some .int) 2 := ⟨⟨(gwm 622 (by decide +kernel) (by decide +kernel)), (gwm 620 (by decide +kernel) (by decide +kernel)), (gwm 25 (by decide +kernel) (by decide +kernel)), by decide +kernel, by decide +kernel, by decide +kernel⟩, (gwm 621 (by decide +kernel) (by decide +kernel))⟩
theorem g_cell {τ : Nat → Int64} {a2 r : Int32} (hc : Cx κ φ RL cL_law 6 room_1) (hX : Xs κ φ b Ls xs) (hp : fL_cell Ls xs a2 σ = some (r, σ2)) {rest0 : List Value} (hst : st = .int a2 :: .ref b :: .ref (ad κ.1 0 0) :: rest0) (hd : decode cL_law pc = .ok (.invokestatic 78, 3)) {pc2 : Nat} (h3 : pc + 3 = pc2)
    (hk : k ≤ 1000) (hn : n ≤ 20000) (hcat : (rest0.map fun v => v.category).sum ≤ 7) (kk : G κ φ Q (NV κ τ) k n σ2 L pc2 (.int r :: .ref (ad κ.1 0 0) :: rest0)) : G κ φ Q (NV κ τ) k n σ L pc st := by
  refine g_sC (rest := .ref (ad κ.1 0 0) :: rest0) hc hX (kL_cell (b := b) hp) co_L_78 hst rfl (by decide) ⟨?_, ?_⟩ ?_ hd h3 kk
  · exact Nat.le_trans hk (by decide)
  · exact Nat.le_trans hn (by decide)
  · show 1 + (rest0.map fun v => v.category).sum ≤ 8
    omega
end CELL
