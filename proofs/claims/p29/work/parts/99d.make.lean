/-! MAKING: new objects, new arrays, constructors -/
section MAKE
/-- what constructors need besides -/
def NZ (U : State) : Prop := va_AO RX5 U ∧ va_AO RX2 U ∧ va_Nw (.methodLinkNest RX6 11 yX3_init "TurnBus") U ∧ va_Nw (.methodLinkNest RX2 24 yX5_init "TurnBus") U ∧ va_Nw (.methodLinkNest RX5 17 yX1_init "TurnBus") U ∧ va_Nw (.methodLinkNest RX5 24 yX0_init "TurnBus") U
theorem NZ.warm {s U : State} (hW : s.WarmedH U.vm) (h : NZ s) : NZ U := ⟨va_AO.moved hW.alike h.1, va_AO.moved hW.alike h.2.1, va_Nw.warmM hW h.2.2.1, va_Nw.warmM hW h.2.2.2.1, va_Nw.warmM hW h.2.2.2.2.1, va_Nw.warmM hW h.2.2.2.2.2⟩
theorem NZ.same {u U : State} (hv : U.vm = u.vm) (h : NZ u) : NZ U := by
  have hA : u.vm.Alike U.vm := by rw [hv]; exact Vm.Alike.refl u.vm
  exact ⟨va_AO.moved hA h.1, va_AO.moved hA h.2.1, va_Nw.same rfl hv.symm h.2.2.1, va_Nw.same rfl hv.symm h.2.2.2.1, va_Nw.same rfl hv.symm h.2.2.2.2.1, va_Nw.same rfl hv.symm h.2.2.2.2.2⟩
def Uc (c : Nat) : Nat → Nat → Prop := fun K o => o < kCnt K ∧ off K o < c
def Vc (c : Nat) (g : Gr) : Wv := (Uc c, g, fun _ => 0, some c)
variable {κ : Kx} {φ : Fr} {own : String} {cc : ByteArray} {nL : Nat} {rm : Room} {Q : State → Prop} {V : Wv} {k n c : Nat} {g : Gr} {σ : Mem} {L : List (Nat × Value)} {pc : Nat} {rest st : List Value}
theorem made2 {H H1 : Heap} (h : RelH κ (Vc c g) σ H) {K o : Nat} (ho : o < kCnt K) (hc : off K o = c) (he : va_at κ.2.1 vwCl (H.size, ent κ.2.2 g σ (fun _ => 0) K o) H1) (hz : H1.size = H.size + 1) (oq : ∀ q : Nat, q < H.size → H1[q]? = H[q]?) : H.size = ad κ.1 K o ∧ RelH κ (Vc (c + 1) g) σ H1 := by
  have h0 : RelH κ (Uc c, g, fun _ => 0, some c) σ H := h
  obtain ⟨h1, h2⟩ := RelH.made h0 ho hc he hz oq
  refine ⟨h1, fun K1 o1 hh => h2.1 K1 o1 ?_, fun K1 o1 hh => hh.1, fun k hk => ?_⟩
  · have hh2 := hh.2
    by_cases e : off K1 o1 < c
    · exact Or.inl ⟨hh.1, e⟩
    · have e2 : off K1 o1 = off K o := by omega
      have i1 := inv_of hh.1
      rw [e2, inv_of ho] at i1
      cases i1
      exact Or.inr ⟨rfl, rfl⟩
  · exact h2.2.2 k hk
/-- nothing stands yet where nothing is made -/
def Zr (c : Nat) (σ : Mem) (g : Gr) : Prop := ∀ k o i, c ≤ off (kOwn k) o → σ k o i = 0 ∧ g k o i = none
theorem Zr.up {c2 : Nat} (h : Zr c σ g) (h2 : c ≤ c2) : Zr c2 σ g := fun k o i z => h k o i (Nat.le_trans h2 z)
theorem Zr.gs {key o i : Nat} {v : Option Nat} (h : Zr c σ g) (hk : off (kOwn key) o < c) : Zr c σ (gs g key o i v) := fun k1 o1 i1 z => ⟨(h k1 o1 i1 z).1, (if_neg fun w => by
  rw [w.1, w.2.1] at z
  omega).trans (h k1 o1 i1 z).2⟩
/-- where a graph is right -/
def Up (n0 : Nat) (S : Nat → Nat → Nat → Prop) (g g2 : Gr) : Prop := ∀ k o i, g2 k o i = gF n0 k o i ∨ (g2 k o i = g k o i ∧ ¬ S k o i)
theorem Up.rf {n0 : Nat} : Up n0 (fun _ _ _ => False) g g := fun _ _ _ => Or.inr ⟨rfl, fun z => z⟩
theorem Up.tr {n0 : Nat} {S S2 : Nat → Nat → Nat → Prop} {g1 g2 : Gr} (h : Up n0 S g g1) (h2 : Up n0 S2 g1 g2) : Up n0 (fun k o i => S k o i ∨ S2 k o i) g g2 := by
  intro k o i
  rcases h2 k o i with a | ⟨a, b⟩
  · exact Or.inl a
  · rcases h k o i with a2 | ⟨a2, b2⟩
    · exact Or.inl (a.trans a2)
    · exact Or.inr ⟨a.trans a2, fun z => z.elim b2 b⟩
theorem Up.less {n0 : Nat} {S S2 : Nat → Nat → Nat → Prop} {g1 : Gr} (h : Up n0 S g g1) (hs : ∀ k o i, S2 k o i → S k o i) : Up n0 S2 g g1 := fun k o i => (h k o i).imp_right fun z => ⟨z.1, fun w => z.2 (hs k o i w)⟩
theorem Up.gs {n0 : Nat} (g : Gr) {key o i : Nat} {v : Option Nat} (hv : gF n0 key o i = v) : Up n0 (fun k o1 i1 => k = key ∧ o1 = o ∧ i1 = i) g (gs g key o i v) := by
  intro k1 o1 i1
  by_cases e : k1 = key ∧ o1 = o ∧ i1 = i
  · obtain ⟨rfl, rfl, rfl⟩ := e
    exact Or.inl ((if_pos ⟨rfl, rfl, rfl⟩).trans hv.symm)
  · exact Or.inr ⟨if_neg e, e⟩
theorem Up.at {n0 : Nat} {S : Nat → Nat → Nat → Prop} {g1 : Gr} (h : Up n0 S g g1) {k o i : Nat} (hs : S k o i) : g1 k o i = gF n0 k o i := (h k o i).elim id fun z => absurd hs z.2
/-- over a constructor's frame -/
def Nx (φ : Fr) : Prop := match φ with
  | (_, _, _, _, s, _, _, _, _, _) => NZ s
def Ni (φ : Fr) : Prop := match φ with
  | (_, _, _, _, _, _, _, _, meth, _) => meth.name = "<init>"
def ObjOk (own : String) (idx : Nat) : Prop := Cond.methodLink own idx Lib.objectInit ∈ GW
theorem gwI : Cond.instanceMethod Lib.objectInit ∈ GW := gwm 46 (by decide +kernel) (by decide +kernel)
theorem gwC : Cond.code Lib.objectInit ⟨#[0xb1]⟩ 1 none ∈ GW := gwm 47 (by decide +kernel) (by decide +kernel)
theorem g_objI (hc : Cx κ φ own cc nL rm) {idx a : Nat} (hw : ObjOk own idx) (h1 : 1 ≤ rm.frames) (h2 : (rest.map fun v => v.category).sum + 12 ≤ rm.locals) (hd : decode cc pc = .ok (.invokespecial idx, 3)) {pc2 : Nat} (hp : pc + 3 = pc2)
    (kk : G κ φ Q V k n σ L pc2 rest) : G κ φ Q V k n σ L pc (.ref a :: rest) := by
  subst hp
  obtain ⟨p, l, e, R, s, m, args, below, meth, c0⟩ := φ
  obtain rfl : R = rm := hc.2.2.2.2.2.2.2.2.2.2
  intro H locs ls hR hS hl
  have hts := hc.2.2.2.2.1
  refine W.objInit hc.1 hc.2.1 hc.2.2.2.1 (hts _ hw) (hts _ gwI) (hts _ gwC) rfl hl.1 rfl hd h1 ?_ (kk H locs ls hR hS hl)
  have e0 : (F0 m pc ls (.ref a :: rest)).monitorRoom = 0 := rfl
  rw [e0]
  omega
/-- a new object -/
def NewOk (own : String) (idx K N : Nat) : Prop := ∃ (C : String) (T : u_T) (ty : Nat → FieldType), kT K = 6 ∧ vwCl[kCi K]? = some (C, T, N) ∧ (∀ w ∈ u_ws C T N, w ∈ GW) ∧ (∀ k, k < N → parseFieldDescriptor (T k).2.2.1 = some (ty k)) ∧ Cond.classLink own idx C ∈ GW ∧ Cond.instantiable C N ∈ GW ∧ Cond.initialized C ∈ GW ∧ ∀ j, j < N → defaultValue (ty j) = vp_V ((kF K).map fun f => if f.1 then Value.null else .int 0) j
theorem Zr.obj (hz : Zr c σ g) {K o : Nat} (hoff : off K o = c) : ((kF K).map fun f => if f.1 then Value.null else .int 0) = (kF K).map fun f => if f.1 then va_rf (g f.2 o 0) else .int (σ f.2 o 0) := by
  refine List.map_congr_left fun f hf => ?_
  have hzz := hz f.2 o 0 (by rw [kF_of hf, hoff]; exact Nat.le_refl c)
  rw [hzz.1, hzz.2]
  rfl
theorem g_newO (hc : Cx κ φ own cc nL rm) {idx K o N : Nat} (hO : NewOk own idx K N) (ho : o < kCnt K) (hoff : off K o = c) (hz : Zr c σ g) (h1 : k + 1 ≤ rm.cells) (h2 : n + N ≤ rm.slots) (hd : decode cc pc = .ok (.new idx, 3)) {pc2 : Nat} (hp : pc + 3 = pc2)
    (kk : G κ φ Q (Vc (c + 1) g) (k + 1) (n + N) σ L pc2 (.ref (ad κ.1 K o) :: rest)) : G κ φ Q (Vc c g) k n σ L pc rest := by
  subst hp
  obtain ⟨p, l, e, R, s, m, args, below, meth, c0⟩ := φ
  obtain rfl : R = rm := hc.2.2.2.2.2.2.2.2.2.2
  intro H locs ls hR hS hl
  obtain ⟨C, T, ty, h6, hcl, hin, hty, w1, w2, w3, hdef⟩ := hO
  have hts := hc.2.2.2.2.1
  have hKn := hc.2.2.2.2.2.1.1 _ _ hcl
  refine W.newcK hc.1 hc.2.1 hc.2.2.2.1 (hts _ w1) (hts _ w2) (hts _ w3) rfl hd h1 h2 hKn.2.1 rfl fun H1 kC hkC e1 z1 o1 => ?_
  have hb := (u_born ty hts hin hKn hkC e1 hty).to hdef
  rw [hz.obj hoff] at hb
  have hat : va_at κ.2.1 vwCl (H.size, ent κ.2.2 g σ (fun _ => 0) K o) H1 := by
    rw [ent_obj h6]
    exact ⟨_, hcl, hb⟩
  obtain ⟨ha, hR1⟩ := made2 hR ho hoff hat z1 o1
  rw [ha]
  exact kk H1 locs ls hR1 ⟨Nat.le_trans hS.1 (by omega), fun x q1 q2 => (o1 x (Nat.lt_of_lt_of_le q1 hS.1)).trans (hS.2.1 x q1 q2), hS.2.2⟩ hl
/-- a new array of numbers -/
theorem g_newA (hc : Cx κ φ own cc nL rm) (K o : Nat) {atype : ArrayType} {x : Int32} {N : Nat} (hk : kT K < 3) (hat : newarray.typeOf atype = aTy (kT K)) (hw : Cond.arrayClass (newarray.typeOf atype) ∈ GW) (hx : ¬ x < 0) (hx2 : x.toNatClampNeg = N) (hN : kL K = N) (hb : N * componentBytes (newarray.typeOf atype) ≤ 536870912)
    (ho : o < kCnt K) (hoff : off K o = c) (hz : Zr c σ g) (h1 : k + 1 ≤ rm.cells) (h2 : n + N ≤ rm.slots) (hd : decode cc pc = .ok (.newarray atype, 2)) {pc2 : Nat} (hp : pc + 2 = pc2)
    (kk : G κ φ Q (Vc (c + 1) g) (k + 1) (n + N) σ L pc2 (.ref (ad κ.1 K o) :: rest)) : G κ φ Q (Vc c g) k n σ L pc (.int x :: rest) := by
  subst hp
  subst hN
  obtain ⟨p, l, e, R, s, m, args, below, meth, c0⟩ := φ
  obtain rfl : R = rm := hc.2.2.2.2.2.2.2.2.2.2
  intro H locs ls hR hS hl
  have hts := hc.2.2.2.2.1
  refine va_newaK hc.1 hc.2.1 (hts _ hw) rfl hd rfl hx hx2 hb h1 h2 rfl fun H1 cA e1 z1 o1 hAr hNm => ?_
  have hRA := ((hc.2.2.2.2.2.1).2 (kT K) (κ.2.2 (kT K), aTy (kT K)) (tysA_at κ (by omega))).2
  have hσ : σ K o = fun _ => 0 := by
    funext i
    exact (hz K o i (by rw [kOwn_arr (by omega), hoff]; exact Nat.le_refl c)).1
  have hat2 : va_at κ.2.1 vwCl (H.size, ent κ.2.2 g σ (fun _ => 0) K o) H1 := by
    rw [hat] at e1 hNm
    rcases (show kT K = 0 ∨ kT K = 1 ∨ kT K = 2 by omega) with t | t | t
    · rw [ent_int (by omega), hσ]
      rw [t] at e1 hNm hRA ⊢
      have hcA : cA = κ.2.2 0 := Option.some.inj (hNm.symm.trans hRA)
      subst hcA
      exact e1
    · rw [ent_int (by omega), hσ]
      rw [t] at e1 hNm hRA ⊢
      have hcA : cA = κ.2.2 1 := Option.some.inj (hNm.symm.trans hRA)
      subst hcA
      exact e1
    · rw [ent_int (by omega), hσ]
      rw [t] at e1 hNm hRA ⊢
      have hcA : cA = κ.2.2 2 := Option.some.inj (hNm.symm.trans hRA)
      subst hcA
      exact e1
  obtain ⟨ha, hR1⟩ := made2 hR ho hoff hat2 z1 o1
  rw [ha]
  exact kk H1 locs ls hR1 ⟨Nat.le_trans hS.1 (by omega), fun x q1 q2 => (o1 x (Nat.lt_of_lt_of_le q1 hS.1)).trans (hS.2.1 x q1 q2), hS.2.2⟩ hl
/-- a new array of references -/
theorem g_newQ (hc : Cx κ φ own cc nL rm) (hn : Nx φ) (K o : Nat) {C : String} {idx : Nat} {x : Int32} {N : Nat} (hk : (kT K = 4 ∧ C = RX5) ∨ (kT K = 5 ∧ C = RX2)) (hw : Cond.classLink own idx C ∈ GW) (hx : ¬ x < 0) (hx2 : x.toNatClampNeg = N) (hN : kL K = N) (hb : N * 4 ≤ 536870912)
    (ho : o < kCnt K) (hoff : off K o = c) (hz : Zr c σ g) (h1 : k + 1 ≤ rm.cells) (h2 : n + N ≤ rm.slots) (hd : decode cc pc = .ok (.anewarray idx, 3)) {pc2 : Nat} (hp : pc + 3 = pc2)
    (kk : G κ φ Q (Vc (c + 1) g) (k + 1) (n + N) σ L pc2 (.ref (ad κ.1 K o) :: rest)) : G κ φ Q (Vc c g) k n σ L pc (.int x :: rest) := by
  subst hp
  subst hN
  obtain ⟨p, l, e, R, s, m, args, below, meth, c0⟩ := φ
  obtain rfl : R = rm := hc.2.2.2.2.2.2.2.2.2.2
  intro H locs ls hR hS hl
  have hts := hc.2.2.2.2.1
  have hnz : NZ s := hn
  have hover : va_AO C s := by
    rcases hk with ⟨_, rfl⟩ | ⟨_, rfl⟩
    · exact hnz.1
    · exact hnz.2.1
  rw [← hx2] at h2
  refine W.anew hc.1 hc.2.1 hc.2.2.2.1 (hts _ hw) (va_AO.use hover) rfl hd rfl hx (by rw [hx2]; exact hb) h1 h2 fun cA kA comp f1 f2 f3 f4 => ?_
  rw [hx2] at *
  generalize hH1 : H.push ({ cls := cA, slots := Array.replicate (kL K) .null, vm := .none } : Cell) = H1
  have z1 : H1.size = H.size + 1 := by rw [← hH1, Array.size_push]
  have e1 : H1[H.size]? = some (arrV cA (kL K) (fun _ => .null)) := by rw [← hH1, Array.getElem?_push_size, ← arrV_new]
  have o1 : ∀ q : Nat, q < H.size → H1[q]? = H[q]? := fun q hq => by rw [← hH1, Array.getElem?_push, if_neg (Nat.ne_of_lt hq)]
  have hg : g K o = fun _ => none := by
    funext i
    exact (hz K o i (by rw [kOwn_arr (by omega), hoff]; exact Nat.le_refl c)).2
  have hRA := ((hc.2.2.2.2.2.1).2 (kT K) (κ.2.2 (kT K), aTy (kT K)) (tysA_at κ (by omega))).2
  have hat2 : va_at κ.2.1 vwCl (H.size, ent κ.2.2 g σ (fun _ => 0) K o) H1 := by
    rcases hk with ⟨t, rfl⟩ | ⟨t, rfl⟩
    · rw [ent_ref (by omega) (by omega), hg]
      rw [t] at hRA ⊢
      obtain ⟨kA2, comp2, -, -, -, r4⟩ := hRA
      have hcA : cA = κ.2.2 4 := Option.some.inj (f1.symm.trans r4)
      subst hcA
      exact e1
    · rw [ent_ref (by omega) (by omega), hg]
      rw [t] at hRA ⊢
      obtain ⟨kA2, comp2, -, -, -, r4⟩ := hRA
      have hcA : cA = κ.2.2 5 := Option.some.inj (f1.symm.trans r4)
      subst hcA
      exact e1
  obtain ⟨ha, hR1⟩ := made2 hR ho hoff hat2 z1 o1
  rw [ha]
  exact kk H1 locs ls hR1 ⟨Nat.le_trans hS.1 (by omega), fun x q1 q2 => (o1 x (Nat.lt_of_lt_of_le q1 hS.1)).trans (hS.2.1 x q1 q2), hS.2.2⟩ hl
/-- a reference into a final field -/
def PutF (own : String) (K j : Nat) : Prop := ∀ C T N, vwCl[kCi K]? = some (C, T, N) → (T j).2.2.2 = true ∧ (T j).1 = own ∧ ∃ ty, parseFieldDescriptor (T j).2.2.1 = some ty ∧ ∀ q : Nat, narrow ty (.ref q) = .ref q ∧ fits ty (.ref q) = true
theorem g_putF (hc : Cx κ φ own cc nL rm) (hn : Ni φ) {idx K j key o q : Nat} (hK : K < 27) (hF : FieldOk own idx K j key true) (hO : ClassOk K) (hpu : PutF own K j) (hw : kOwn key = K) (ho : Uc c K o) (hd : decode cc pc = .ok (.putfield idx, 3)) {pc2 : Nat} (hp : pc + 3 = pc2)
    (kk : G κ φ Q (Vc c (gs g key o 0 (some q))) k n σ L pc2 rest) : G κ φ Q (Vc c g) k n σ L pc (.ref q :: .ref (ad κ.1 K o) :: rest) := by
  subst hp
  obtain ⟨p, l, e, R, s, m, args, below, meth, c0⟩ := φ
  have hn0 : meth.name = "<init>" := hn
  intro H locs ls hR hS hl
  have hR0 : RelH κ (Uc c, g, fun _ => 0, some c) σ H := hR
  obtain ⟨C, T, N, h6, hcl, hin, hj, hN, hT, hf, hwd⟩ := hF
  obtain ⟨C2, T2, N2, ty0, hcl2, -, hty, hnm⟩ := hO
  cases hcl.symm.trans hcl2
  obtain ⟨hfi, hdecl, ty, hpd, hnf⟩ := hpu C T N hcl
  obtain ⟨hnr, hft⟩ := hnf q
  have hts := hc.2.2.2.2.1
  have hKK := hc.2.2.2.2.2.1
  have hap := va_apart (own := own) hts hin ty0 hty hnm hKK hcl
  have hat := hR.1 K o ho
  rw [ent_obj h6] at hat
  obtain ⟨r', h1, cell, q1, q2, q3, q4⟩ := hat
  have hr : r' = (C, T, N) := Option.some.inj (h1.symm.trans hcl)
  subst hr
  obtain ⟨hSl, hfc, kC, hkC, hkind⟩ := hKK.1 _ _ hcl
  obtain ⟨cf, kf, fi, f, hi, hsl⟩ := hSl j hj
  have hlay := hts _ (hin _ (u_in_lay hj))
  unfold u_lay at hlay
  rw [if_pos hfi] at hlay
  have hst := (u_facts hfc hkC (u_lays hts hin hj) hi).1
  have hcf : m.cls = cf := by
    obtain ⟨_, _, c', _, _, _, -, -, hf', -, -, -, hown2, -⟩ := Cond.laysFinal_spec hlay
    have e1 : c' = cf := by have := hi.symm.trans hf'; simp at this; exact this.1.symm
    rw [hdecl] at hown2
    rw [← e1]; exact Option.some.inj (hc.2.2.2.1.symm.trans hown2)
  have h7 := u_fits hfc hkC hkind (Or.inr hlay) hi hpd hnr hft
  have hi2 : s.fieldFound? C (T j).2.1 (T j).2.2.1 = some (cf, kf, fi, f) := by rw [hT] at hi; exact hi
  refine W.putFinK hc.1 hc.2.1 hc.2.2.2.1 (hts _ hwd) hi2 hst hcf hn0 (by rw [q2]; exact h7) q1 q3 (by rw [hsl]; exact k2_hasslot (q4 j hj)) rfl rfl hd fun H' e1 e2 e3 => ?_
  rw [hsl] at e1 ⊢
  refine kk H' _ ls (hR0.gput ho hw ?_ e2 e3) (hS.put e2 e3 (Ak_ad κ K o)) hl
  rw [ent_obj h6]
  refine ⟨_, hcl, t_OB.to (V := updV (vp_V (entO g σ K o)) j (va_rf (some q))) ⟨_, e1, q2, q3, t_set q4 hap hj _⟩ (fun i hi3 => ?_)⟩
  exact entO_gset rfl hf (kF_apart hK rfl) i (by rw [hN]; exact hi3)
/-- a reference into an array -/
theorem g_astR (hc : Cx κ φ own cc nL rm) (K o K1 o1 : Nat) {C : String} {T : u_T} {N : Nat} {i : Int32} (hk : 4 ≤ kT K) (hk6 : kT K < 6) (hty : aTy (kT K) = .object C) (hk1 : kT K1 = 6) (hcl : vwCl[kCi K1]? = some (C, T, N)) (ho : Uc c K o) (ho1 : Uc c K1 o1) (hi : ib i (kL K) = true) (hd : decode cc pc = .ok (.aastore, 1)) {pc2 : Nat} (hp : pc + 1 = pc2)
    (kk : G κ φ Q (Vc c (gs g K o i.toNatClampNeg (some (ad κ.1 K1 o1)))) k n σ L pc2 rest) : G κ φ Q (Vc c g) k n σ L pc (.ref (ad κ.1 K1 o1) :: .int i :: .ref (ad κ.1 K o) :: rest) := by
  subst hp
  obtain ⟨p, l, e, R, s, m, args, below, meth, c0⟩ := φ
  intro H locs ls hR hS hl
  have hR0 : RelH κ (Uc c, g, fun _ => 0, some c) σ H := hR
  have hat : va_at κ.2.1 vwCl (ad κ.1 K o, ent κ.2.2 g σ (fun _ => 0) K o) H := hR.1 K o ho
  rw [ent_ref hk hk6] at hat
  have hv : va_at κ.2.1 vwCl (ad κ.1 K1 o1, ent κ.2.2 g σ (fun _ => 0) K1 o1) H := hR.1 K1 o1 ho1
  rw [ent_obj hk1] at hv
  have hlt := ib_lt hi
  have hin := ib_in hi
  have h0 : ¬ i < 0 := fun q => hin (Or.inl q)
  obtain ⟨r', hr', cellV, g1, g2, g3, -⟩ := hv
  have hcls := (hc.2.2.2.2.2.1.1 _ _ hcl).2
  have hRA := ((hc.2.2.2.2.2.1).2 (kT K) (κ.2.2 (kT K), aTy (kT K)) (tysA_at κ hk6)).2
  rw [hty] at hRA
  obtain ⟨kA, comp, k1, k2, k3, -⟩ := hRA
  have hcomp : comp = κ.2.1.1 (kCi K1) := Option.some.inj (k3.symm.trans hcls.1)
  subst hcomp
  obtain ⟨kC, hkC, -⟩ := hcls.2
  refine W.aast hc.1 hc.2.1 hat (fun q h => by cases h) (fun h => by cases h) k1 k2 rfl hkC ⟨h0, by show _ < (arrV _ _ _).slots.size; rw [arrV_size]; exact hlt⟩ g1 (fun q h => by rw [g3] at h; cases h) (by rw [g2]; exact hkC) (by rw [g2]; exact va_assign hcls) rfl rfl hd fun H1 e2 z oq => ?_
  refine kk H1 _ ls (hR0.gput ho (kOwn_arr (by omega)) ?_ z oq) (hS.put z oq (Ak_ad κ K o)) hl
  rw [ent_ref hk hk6]
  show H1[_]? = some (vp_cell _ _)
  rw [e2]
  rw [vp_cell_q, vp_cell_q, arrV_store]
  congr 2
  funext q
  by_cases hq : q = i.toNatClampNeg
  · subst hq
    simp [updV, gs, va_rf]
  · simp [updV, gs, hq]
/-- a constructor's contract: a world and a memory of this kind stand behind it -/
def CtN (κ : Kx) (y : MethodName) (cy : ByteArray) (nLy : Nat) (rm : Room) (V : Wv) (As : List Value) (σ : Mem) (P : Wv → Mem → Prop) : Prop :=
  ∀ l : Launch, l.stackTraces = false → Met l y (wG y cy nLy none) rm (va_Pc As (fun U => Wd κ V σ U ∧ NZ U)) (va_Qv (fun (_ : Unit) => True) (fun _ t => ∃ V2 σ2, P V2 σ2 ∧ RelH κ V2 σ2 t.heap) (Ak κ)) rm.cells rm.slots (Ak κ)
def QN (κ : Kx) (φ : Fr) (P : Wv → Mem → Prop) (mc msl : Nat) : State → Prop := match φ with
  | (_, _, _, _, s, _, args, below, _, _) => MQ below (va_Qv (fun (_ : Unit) => True) (fun _ t => ∃ V2 σ2, P V2 σ2 ∧ RelH κ V2 σ2 t.heap) (Ak κ)) args s mc msl (Ak κ)
theorem g_nret (hc : Cx κ φ own cc nL rm) {P : Wv → Mem → Prop} {mc msl : Nat} (hP : P V σ) (hr : Rt φ none) (h1 : k ≤ mc) (h2 : n ≤ msl) (hd : decode cc pc = .ok (.return_, 1)) : G κ φ (QN κ φ P mc msl) V k n σ L pc [] := by
  obtain ⟨p, l, e, R, s, m, args, below, meth, c0⟩ := φ
  intro H locs ls hR hS hl
  refine W.widen h1 h2 ?_
  exact W.vret hc.1 hc.2.1 hr (fun t ht hw => ⟨⟨(), rfl, trivial, V, σ, hP, by rw [ht]; exact hR⟩, hS.F ht⟩) (fun q hq => hS.2.2 q hq) hd hc.2.2.2.2.2.2.2.1
theorem ct_N {y : MethodName} {cy : ByteArray} {nLy : Nat} {As : List Value} {P : Wv → Mem → Prop} (hy : plainFor y = true) (hi : y.name = "<init>") (hlen : (lg_sl As).length ≤ nLy)
    (h : ∀ φ : Fr, Cx κ φ y.cls cy nLy rm → Rt φ none → Nx φ → Ni φ → G κ φ (QN κ φ P rm.cells rm.slots) V 0 0 σ (lv_args 0 As) 0 []) : CtN κ y cy nLy rm V As σ P := by
  intro l hl9
  refine Met.ofWF (cc := cy) (maxL := nLy) (ret := none) hy rfl ?_
  intro p e s m args below meth c s₁ B hml hP
  have hP2 : va_Pc As (Wd κ V σ) args s := ⟨hP.1, hP.2.1⟩
  have hC := ct_of hl9 B hml hP2
  exact ct_go hml hlen hP2 (h _ hC.1 hC.2 hP.2.2 ((name_of_methodNamed B.named B.method).1.trans hi))
theorem Wd.blind2 {As : List Value} : FrameBlind (va_Pc As (fun U => Wd κ V σ U ∧ NZ U)) := by
  intro a U g mk q
  obtain ⟨qa, ⟨q1, q2, q3, q4⟩, q5⟩ := q
  exact ⟨qa, ⟨q1, va_K.moved (u := U) (U := U.calling g mk a) (Vm.Alike.refl U.vm) q2, q3, Zs.same (u := U) (U := U.calling g mk a) rfl q4⟩, NZ.same (u := U) (U := U.calling g mk a) rfl q5⟩
theorem pre_in2 {p : Program} {l : Launch} {e : Env} {s : State} {m : MethodId} {args : Array Value} {below : List Frame} {meth : Method} {c : Code} {H : Heap} {locs : List Loc} (hc : Cx κ (p, l, e, rm, s, m, args, below, meth, c) own cc nL rm) (hn : NZ s)
    (hR : RelH κ V σ H) (hS : va_S (Ak κ) s.heap H locs) (As : List Value) : ∀ U : State, U.heap = H → s.WarmedH U.vm → va_Pc As (fun U => Wd κ V σ U ∧ NZ U) As.toArray U := by
  intro U hU hW
  obtain ⟨h1, h2⟩ := pre_in hc hR hS As U hU hW
  exact ⟨h1, h2, hn.warm hW⟩
/-- the call of a constructor -/
def CallOkI (own : String) (idx : Nat) (y : MethodName) (cy : ByteArray) (nLy j : Nat) : Prop := CallOk own idx y cy nLy none j ∧ y.name = "<init>" ∧ Cond.instanceMethod y ∈ GW
theorem g_cP (hc : Cx κ φ own cc nL rm) (hn : Nx φ) {idx nLy j a : Nat} {y : MethodName} {cy : ByteArray} {rmy : Room} {As : List Value} {P : Wv → Mem → Prop} (hM : CtN κ y cy nLy rmy V (.ref a :: As) σ P) (hk : CallOkI own idx y cy nLy j)
    (hst : st = As.reverse ++ .ref a :: rest) (hj : As.length = j) (hr : rmy.frames + 1 ≤ rm.frames ∧ 8 + (nLy + 11) + rmy.locals ≤ rm.locals) (hf : k + rmy.cells ≤ rm.cells ∧ n + rmy.slots ≤ rm.slots) (hcat : (rest.map fun v => v.category).sum ≤ 8)
    (hd : decode cc pc = .ok (.invokespecial idx, 3)) {pc2 : Nat} (hp : pc + 3 = pc2) (kk : ∀ V2 σ2, P V2 σ2 → G κ φ Q V2 (k + rmy.cells) (n + rmy.slots) σ2 L pc2 rest) : G κ φ Q V k n σ L pc st := by
  subst hp
  subst hst
  obtain ⟨p, l, e, R, s, m, args, below, meth, c⟩ := φ
  obtain rfl : R = rm := hc.2.2.2.2.2.2.2.2.2.2
  intro H locs ls hR hS hl
  have hts := hc.2.2.2.2.1
  refine va_callv (va_runI (As := As) (rest := rest) ⟨hc.1, hc.2.1, hc.2.2.1, hc.2.2.2.1, hts⟩ (hM l hc.2.2.2.2.2.2.2.2.1) ⟨callB_in hc hk.1 hr, hk.2.1, hts _ hk.2.2⟩ ⟨Wd.blind2, pre_in2 hc hn hR hS _⟩ rfl hj (hl.1.trans hc.2.2.1) rfl (lv_room hcat) hd hf) hS (fun q _ h => h) (fun q h => h) (fun u t H1 locs1 ht hvm hw hB hz1 hk9 hS1 => ?_)
  obtain ⟨V2, σ2, hP, hB⟩ := hB
  rw [ht] at hB
  exact kk V2 σ2 hP H1 locs1 ls hB hS1 hl
/-- the call of a private constructor of a nest mate -/
def CallOkN (y : MethodName) (cy : ByteArray) (nLy j : Nat) : Prop := Cond.code y cy nLy none ∈ GW ∧ Cond.initialized y.cls ∈ GW ∧ (y.cls ≠ "java/lang/invoke/MethodHandle" ∧ y.cls ≠ "java/lang/invoke/VarHandle" ∧ (parseMethodDescriptor y.desc).map (fun d => d.parameters.length) = some j) ∧ y.name = "<init>" ∧ Cond.instanceMethod y ∈ GW
theorem g_cN (hc : Cx κ φ own cc nL rm) (hn : Nx φ) {idx nLy j a : Nat} {y : MethodName} {cy : ByteArray} {rmy : Room} {As : List Value} {P : Wv → Mem → Prop} (hM : CtN κ y cy nLy rmy V (.ref a :: As) σ P) (hk : CallOkN y cy nLy j) (hnest : ∀ s : State, NZ s → va_Nw (.methodLinkNest own idx y "TurnBus") s)
    (hst : st = As.reverse ++ .ref a :: rest) (hj : As.length = j) (hr : rmy.frames + 1 ≤ rm.frames ∧ 8 + (nLy + 11) + rmy.locals ≤ rm.locals) (hf : k + rmy.cells ≤ rm.cells ∧ n + rmy.slots ≤ rm.slots) (hcat : (rest.map fun v => v.category).sum ≤ 8)
    (hd : decode cc pc = .ok (.invokespecial idx, 3)) {pc2 : Nat} (hp : pc + 3 = pc2) (kk : ∀ V2 σ2, P V2 σ2 → G κ φ Q V2 (k + rmy.cells) (n + rmy.slots) σ2 L pc2 rest) : G κ φ Q V k n σ L pc st := by
  subst hp
  subst hst
  obtain ⟨p, l, e, R, s, m, args, below, meth, c⟩ := φ
  obtain rfl : R = rm := hc.2.2.2.2.2.2.2.2.2.2
  intro H locs ls hR hS hl
  have hts := hc.2.2.2.2.1
  refine va_callv (va_runIN (As := As) (rest := rest) ⟨hc.1, hc.2.1, hc.2.2.1, hc.2.2.2.1, hts⟩ (hM l hc.2.2.2.2.2.2.2.2.1) ⟨va_cnB j hts (wG_in hk.1) rfl rfl rfl (hnest s hn) (hts _ hk.2.1) hk.2.2.1 hr, hk.2.2.2.1, hts _ hk.2.2.2.2⟩ ⟨Wd.blind2, pre_in2 hc hn hR hS _⟩ rfl hj (hl.1.trans hc.2.2.1) rfl (lv_room hcat) hd hf) hS (fun q _ h => h) (fun q h => h) (fun u t H1 locs1 ht hvm hw hB hz1 hk9 hS1 => ?_)
  obtain ⟨V2, σ2, hP, hB⟩ := hB
  rw [ht] at hB
  exact kk V2 σ2 hP H1 locs1 ls hB hS1 hl
end MAKE
