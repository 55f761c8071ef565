/-! ROWS OF THE LAW: its long, the script, handlers; contracts of methods with handlers -/
section CATCH
variable {κ : Kx} {φ : Fr} {own : String} {cc : ByteArray} {nL : Nat} {rm : Room} {Q : State → Prop} {V : Wv} {k n : Nat} {σ σ2 : Mem} {τ τ2 : Nat → Int64} {L : List (Nat × Value)} {pc : Nat} {rest st : List Value}
def ts (τ : Nat → Int64) (x : Int64) : Nat → Int64 := fun j => if j = 0 then x else τ j
theorem g_lald (hc : Cx κ φ own cc nL rm) (hd : decode cc pc = .ok (.laload, 1)) {pc2 : Nat} (hp : pc + 1 = pc2) (kk : G κ φ Q (NV κ τ) k n σ L pc2 (.long (τ 0) :: rest)) : G κ φ Q (NV κ τ) k n σ L pc (.int 0 :: .ref (ad κ.1 26 0) :: rest) := by
  subst hp
  obtain ⟨p, l, e, R, s, m, args, below, meth, c⟩ := φ
  intro H locs ls hR hS hl
  have hat : va_at κ.2.1 vwCl (ad κ.1 26 0, ent κ.2.2 (gF κ.1) σ τ 26 0) H := hR.1 26 0 (u26 (by decide))
  rw [ent_long rfl] at hat
  exact va_lald (tys := tysA κ) hc.1 hc.2.1 hc.2.2.2.2.2.1 (va_one hat) 0 3 rfl rfl (ib_in (n := 1) (by decide)) hd (kk H locs ls hR hS hl)
theorem ent_tother {dA : Nat → ClassId} {g : Gr} {K o : Nat} (h : kT K ≠ 3) : ent dA g σ τ K o = ent dA g σ τ2 K o := by
  unfold ent
  by_cases h6 : kT K = 6
  · rw [if_pos h6, if_pos h6]
  · rw [if_neg h6, if_neg h6, if_neg h, if_neg h]
theorem k3_sp : ((List.range 27).all fun K => !(kT K == 3) || K == 26) = true := by decide +kernel
theorem g_last (hc : Cx κ φ own cc nL rm) {x : Int64} (hd : decode cc pc = .ok (.lastore, 1)) {pc2 : Nat} (hp : pc + 1 = pc2) (kk : G κ φ Q (NV κ (ts τ x)) k n σ L pc2 rest) : G κ φ Q (NV κ τ) k n σ L pc (.long x :: .int 0 :: .ref (ad κ.1 26 0) :: rest) := by
  subst hp
  obtain ⟨p, l, e, R, s, m, args, below, meth, c⟩ := φ
  intro H locs ls hR hS hl
  have hat : va_at κ.2.1 vwCl (ad κ.1 26 0, ent κ.2.2 (gF κ.1) σ τ 26 0) H := hR.1 26 0 (u26 (by decide))
  rw [ent_long rfl] at hat
  have hty := ((hc.2.2.2.2.2.1).2 3 (κ.2.2 3, .long) rfl).1
  refine W.last hc.1 hc.2.1 hat (hty 1 (fun j => .long (τ j))) (fun q => by cases q) (by show ¬ ((0 : Int32) < 0 ∨ (arrV _ _ _).slots.size ≤ _); rw [arrV_size]; exact ib_in (i := 0) (n := 1) (by decide)) rfl rfl hd fun H1 e2 z oq => ?_
  refine kk H1 _ ls ⟨fun K1 o1 h1 => ?_, hR.2.1, fun k hk => nomatch hk⟩ (hS.put z oq (Ak_ad κ 26 0)) hl
  by_cases e1 : K1 = 26 ∧ o1 = 0
  · obtain ⟨rfl, rfl⟩ := e1
    show va_at κ.2.1 vwCl (ad κ.1 26 0, ent κ.2.2 (gF κ.1) σ (ts τ x) 26 0) H1
    rw [ent_long rfl]
    show H1[_]? = some (vp_cell _ _)
    rw [e2]
    show some ((vp_cell (κ.2.2 3) (1, .inr (.inl τ))).setSlot _ _) = some (vp_cell (κ.2.2 3) (1, .inr (.inl (ts τ x))))
    rw [vp_cell_l, vp_cell_l, arrV_store]
    congr 2
    funext q
    by_cases hq : q = 0
    · subst hq
      simp [updV, ts]
    · simp [updV, ts, hq]
  · have h3 : kT K1 ≠ 3 := fun h3 => by
      have hlt : o1 < kCnt K1 := h1
      have h9 := List.all_eq_true.mp k3_sp K1 (List.mem_range.mpr (kCnt_lt hlt))
      rw [h3] at h9
      have h8 : K1 = 26 := by simpa using h9
      subst h8
      exact e1 ⟨rfl, Nat.lt_one_iff.mp hlt⟩
    show va_at κ.2.1 vwCl (ad κ.1 K1 o1, ent κ.2.2 (gF κ.1) σ (ts τ x) K1 o1) H1
    rw [← ent_tother (τ := τ) h3]
    exact (hR.1 K1 o1 h1).kept (oq _ fun q => e1 (ad_inj (hR.2.1 _ _ h1) (show 0 < kCnt 26 by decide) q))
/-- the law's script -/
def Xs (κ : Kx) (φ : Fr) (b Ls : Nat) (xs : Nat → Int32) : Prop := match φ with
  | (_, _, _, _, s, _, _, _, _, _) => va_X b Ls xs s s.heap ∧ b < s.heap.size ∧ b < κ.1
theorem g_sld (hc : Cx κ φ own cc nL rm) {b Ls : Nat} {xs : Nat → Int32} (hX : Xs κ φ b Ls xs) {i : Int32} (hi : ib i Ls = true) (hd : decode cc pc = .ok (.iaload, 1)) {pc2 : Nat} (hp : pc + 1 = pc2) (kk : G κ φ Q V k n σ L pc2 (.int (xs i.toNatClampNeg) :: rest)) : G κ φ Q V k n σ L pc (.int i :: .ref b :: rest) := by
  subst hp
  obtain ⟨p, l, e, R, s, m, args, below, meth, c⟩ := φ
  intro H locs ls hR hS hl
  exact va_sld hc.1 hc.2.1 hX.1 hX.2.1 (fun h : κ.1 ≤ b => absurd hX.2.2 (Nat.not_lt.mpr h)) hS (ib_in hi) hd (kk H locs ls hR hS hl)
theorem g_slen (hc : Cx κ φ own cc nL rm) {b Ls : Nat} {xs : Nat → Int32} (hX : Xs κ φ b Ls xs) (hd : decode cc pc = .ok (.arraylength, 1)) {pc2 : Nat} (hp : pc + 1 = pc2) (kk : G κ φ Q V k n σ L pc2 (.int (nI Ls) :: rest)) : G κ φ Q V k n σ L pc (.ref b :: rest) := by
  subst hp
  obtain ⟨p, l, e, R, s, m, args, below, meth, c⟩ := φ
  intro H locs ls hR hS hl
  exact va_slen hc.1 hc.2.1 hX.1 hX.2.1 (fun h : κ.1 ≤ b => absurd hX.2.2 (Nat.not_lt.mpr h)) hS hd (kk H locs ls hR hS hl)
/-- the method's table of handlers -/
def Tbh (φ : Fr) (hh : List (Nat × Nat × Nat × Nat)) : Prop := match φ with
  | (_, _, _, _, _, _, _, _, _, c) => c.exceptionTable.toList = tableOf hh
theorem exN_in (x : Nat) : exN x ∈ exL := by
  match x with
  | 0 => exact List.mem_cons_self
  | 1 => exact List.mem_cons_of_mem _ List.mem_cons_self
  | n + 2 => exact List.mem_cons_of_mem _ (List.mem_cons_of_mem _ List.mem_cons_self)
theorem g_catch (hc : Cx κ φ own cc nL rm) {hh : List (Nat × Nat × Nat × Nat)} (ht : Tbh φ hh) {x : Nat} (pre : List ExceptionTableEntry) (z : ExceptionTableEntry) (suf : List ExceptionTableEntry) (hsplit : tableOf hh = pre ++ z :: suf)
    (hpass : ∀ y ∈ pre, y.catchType ≠ 0 ∧ ∃ v : Nat, Cond.classLink own y.catchType (exN v) ∈ GW ∧ exN x ≠ exN v) (hcov : covers z pc = true) (h0 : z.catchType ≠ 0) (hlink : Cond.classLink own z.catchType (exN x) ∈ GW)
    (kk : ∀ q : Nat, G κ φ Q V k n σ L z.handlerPc [.ref q]) : GX κ φ Q V k n σ L pc rest (exN x) := by
  obtain ⟨p, l, e, R, s, m, args, below, meth, c⟩ := φ
  intro H locs ls q ce hR hS hl e1 e2 e3
  have hz : Zs κ s s.heap := hc.2.2.2.2.2.2.2.2.2.1
  have hts := hc.2.2.2.2.1
  have ht' : c.exceptionTable.toList = tableOf hh := ht
  refine vx_catch hc.2.2.2.1 pre z suf (ht'.trans hsplit) (fun y hy => ?_) hcov h0 (hts _ hlink) (va_Nw.use rfl (hz.2.2.1 _ (exN_in x))) e1 e2 e3 (kk q H locs ls hR hS hl)
  obtain ⟨h1, v, h2, h3⟩ := hpass y hy
  exact Or.inr ⟨h1, exN v, hts _ h2, hz.2.2.2.2.1 _ (exN_in x) _ (exN_in v) h3⟩
/-- contracts of the law's wrappers -/
def wW (y : MethodName) (cy : ByteArray) (nLy : Nat) (ry : Option FieldType) (hh : List (Nat × Nat × Nat × Nat)) : List Cond := .codeWith y cy nLy ry hh :: GW
def CtW (κ : Kx) (y : MethodName) (cy : ByteArray) (nLy : Nat) (ry : Option FieldType) (hh : List (Nat × Nat × Nat × Nat)) (rm : Room) (V V2 : Wv) (As : List Value) (σ σ2 : Mem) (r : Int32) : Prop :=
  ∀ l : Launch, l.stackTraces = false → Met l y (wW y cy nLy ry hh) rm (va_Pc As (Wd κ V σ)) (va_Qi (fun (r1 : Int32) (_ : Unit) => r1 = r) (fun _ t => RelH κ V2 σ2 t.heap) (Ak κ)) rm.cells rm.slots (Ak κ)
theorem wW_in {y : MethodName} {cy : ByteArray} {nLy : Nat} {ry : Option FieldType} {hh : List (Nat × Nat × Nat × Nat)} (h : Cond.codeWith y cy nLy ry hh ∈ GW) : GoodIn GW (wW y cy nLy ry hh) := by
  intro w hw
  rcases List.mem_cons.mp hw with e | e
  · rw [e]; exact ⟨h, wsG_good _ h⟩
  · exact ⟨e, wsG_good _ e⟩
theorem ct_W {V2 : Wv} {y : MethodName} {cy : ByteArray} {nLy : Nat} {ry : Option FieldType} {hh : List (Nat × Nat × Nat × Nat)} {As : List Value} {r : Int32} (hy : plainFor y = true) (hlen : (lg_sl As).length ≤ nLy)
    (h : ∀ φ : Fr, Cx κ φ y.cls cy nLy rm → Rt φ ry → Tbh φ hh → G κ φ (QI κ φ V2 σ2 r rm.cells rm.slots) V 0 0 σ (lv_args 0 As) 0 []) : CtW κ y cy nLy ry hh rm V V2 As σ σ2 r := by
  intro l hl9
  refine MetFree.of_bodySF (code := cy) (maxLocals := nLy) (ret := ry) hy ?_ ?_
  · intro args s m h hn
    obtain ⟨m9, meth, c, hn9, h1, h2, h3, h4, -, h5, h6, -⟩ := Cond.codeWith_spec (atoms_spec (ws := wW y cy nLy ry hh) h _ List.mem_cons_self)
    cases hn.symm.trans hn9
    exact ⟨meth, c, h1, h2, h3, h4, h5, h6⟩
  · intro p e s m args below meth c s₁ B hml hP _
    have hh0 : s₁.heap = s.heap := by rw [B.state]; rfl
    have hts := atoms_spec (ws := wW y cy nLy ry hh) B.pre
    have htb := vx_table (x := y) B (hts _ List.mem_cons_self)
    have hP' : va_Pc As (Wd κ V σ) args s := hP
    obtain ⟨-, w1, w2, w3, w4⟩ := id hP'
    have hC : Cx κ (p, l, e, rm, s, m, args, below, meth, c) y.cls cy nLy rm := ⟨B.exec, B.bytes, hml, findClass_of_methodNamed B.named, fun w hw => hts w (List.mem_cons_of_mem _ hw), w2, w3, B.notSynchronized, hl9, w4, rfl⟩
    obtain ⟨t, a1, o, b1, b2, b3⟩ := ct_go hml hlen hP' (h _ hC B.returns htb) s₁ hh0 (Stand.of_body B)
    exact ⟨t, o, a1, b1, b2, ⟨b3.1, b3.2⟩⟩
/-- the words of the call of a wrapper -/
def CallOkW (own : String) (idx : Nat) (y : MethodName) (cy : ByteArray) (nLy : Nat) (ry : Option FieldType) (hh : List (Nat × Nat × Nat × Nat)) (j : Nat) : Prop := Cond.codeWith y cy nLy ry hh ∈ GW ∧ Cond.methodLink own idx y ∈ GW ∧ Cond.static y ∈ GW ∧ Cond.initialized y.cls ∈ GW ∧ (y.cls ≠ "java/lang/invoke/MethodHandle" ∧ y.cls ≠ "java/lang/invoke/VarHandle" ∧ (parseMethodDescriptor y.desc).map (fun d => d.parameters.length) = some j)
theorem g_sW {V2 : Wv} (hc : Cx κ φ own cc nL rm) {idx nLy j : Nat} {y : MethodName} {cy : ByteArray} {ry : Option FieldType} {hh : List (Nat × Nat × Nat × Nat)} {rmy : Room} {As : List Value} {r : Int32} (hM : CtW κ y cy nLy ry hh rmy V V2 As σ σ2 r) (hk : CallOkW own idx y cy nLy ry hh j)
    (hst : st = As.reverse ++ rest) (hn : As.length = j) (hr : rmy.frames + 1 ≤ rm.frames ∧ 8 + (nLy + 11) + rmy.locals ≤ rm.locals) (hf : k + rmy.cells ≤ rm.cells ∧ n + rmy.slots ≤ rm.slots) (hcat : (rest.map fun v => v.category).sum ≤ 8)
    (hd : decode cc pc = .ok (.invokestatic idx, 3)) {pc2 : Nat} (hp : pc + 3 = pc2) (kk : G κ φ Q V2 (k + rmy.cells) (n + rmy.slots) σ2 L pc2 (.int r :: rest)) : G κ φ Q V k n σ L pc st := by
  subst hp
  subst hst
  obtain ⟨p, l, e, R, s, m, args, below, meth, c⟩ := φ
  obtain rfl : R = rm := hc.2.2.2.2.2.2.2.2.2.2
  intro H locs ls hR hS hl
  have hts := hc.2.2.2.2.1
  have hG : GoodIn GW (va_wsS own idx y (wW y cy nLy ry hh)) := by
    intro w hw
    unfold va_wsS at hw
    rcases List.mem_append.mp hw with e | e
    · have e' : w ∈ GW := by
        rcases List.mem_cons.mp e with e | e
        · rw [e]; exact hk.2.1
        · rcases List.mem_cons.mp e with e | e
          · rw [e]; exact hk.2.2.1
          · rcases List.mem_cons.mp e with e | e
            · rw [e]; exact hk.2.2.2.1
            · cases e
      exact ⟨e', wsG_good _ e'⟩
    · exact wW_in hk.1 w e
  refine va_calli (vx_runSW (As := As) (rest := rest) ⟨hc.1, hc.2.1, hc.2.2.1, hc.2.2.2.1, hts⟩ (hM l hc.2.2.2.2.2.2.2.2.1) (vx_cwSW j hts hG rfl rfl rfl hk.2.2.2.2 hr) ⟨Wd.blind, pre_in hc hR hS _⟩ rfl hn (hl.1.trans hc.2.2.1) rfl (lv_room hcat) hd hf) hS (fun q _ h => h) (fun q h => h) (fun r1 u t H1 locs1 ht hvm hw hB hz1 hk9 hS1 => ?_)
  cases hw
  rw [ht] at hB
  exact kk H1 locs1 ls hB hS1 hl
/-- what a wrapper answers -/
def wR (cf : Nat → Nat) (r6 : Nat ⊕ Int32) : Int32 := match r6 with
  | .inl e => nI (cf e)
  | .inr _ => 0
def wT (τ : Nat → Int64) (r6 : Nat ⊕ Int32) : Nat → Int64 := match r6 with
  | .inl _ => τ
  | .inr x => ts τ x.toInt64
end CATCH
