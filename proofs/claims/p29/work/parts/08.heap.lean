/-! THE STEPS THAT READ AND WRITE CELLS -/
section HEAPS
def ib (i : Int32) (n : Nat) : Bool := decide (0 ≤ i) && decide (i.toNatClampNeg < n)
theorem ib_in {i : Int32} {n : Nat} (h : ib i n = true) : vp_in i n := by
  unfold ib at h
  rw [Bool.and_eq_true] at h
  have h1 : 0 ≤ i := of_decide_eq_true h.1
  have h2 : i.toNatClampNeg < n := of_decide_eq_true h.2
  intro q
  rcases q with q | q
  · have a1 := Int32.lt_iff_toInt_lt.mp q
    have a2 := Int32.le_iff_toInt_le.mp h1
    omega
  · omega
theorem ib_lt {i : Int32} {n : Nat} (h : ib i n = true) : i.toNatClampNeg < n := by
  unfold ib at h
  rw [Bool.and_eq_true] at h
  exact of_decide_eq_true h.2
/-- what a boolean, a char keeps of an int -/
def zb (x : Int32) : Int32 := vp_nar .boolean x
def cb (x : Int32) : Int32 := vp_nar .char x
/-- a field by its place in the constant pool: of which kind, its key -/
def FieldOk (own : String) (idx K j key : Nat) (r : Bool) : Prop :=
  ∃ (C : String) (T : u_T) (N : Nat), kT K = 6 ∧ vwCl[kCi K]? = some (C, T, N) ∧ (∀ w ∈ u_ws C T N, w ∈ GW) ∧ j < N ∧ (kF K).length = N ∧ (T j).1 = C ∧ (kF K)[j]? = some (r, key) ∧ Cond.fieldLink own idx C (T j).2.1 (T j).2.2.1 ∈ GW
/-- a class's fields are apart -/
def ClassOk (K : Nat) : Prop := ∃ (C : String) (T : u_T) (N : Nat) (ty : Nat → FieldType), vwCl[kCi K]? = some (C, T, N) ∧ (∀ w ∈ u_ws C T N, w ∈ GW) ∧ (∀ k, k < N → parseFieldDescriptor (T k).2.2.1 = some (ty k)) ∧ ∀ a, a < N → ∀ b, b < N → a ≠ b → (T a).2.1 ≠ (T b).2.1
def entO (g : Gr) (σ : Mem) (K o : Nat) : List Value := (kF K).map fun f => if f.1 then va_rf (g f.2 o 0) else .int (σ f.2 o 0)
variable {κ : Kx} {φ : Fr} {own : String} {cc : ByteArray} {nL : Nat} {rm : Room} {Q : State → Prop} {V : Wv} {k n : Nat} {σ : Mem} {L : List (Nat × Value)} {pc : Nat} {rest : List Value}
theorem va_one {D : va_G} {a : Nat} {e : va_E} {H : Heap} (h : va_at D vwCl (a, e) H) : va_P D vwCl [(a, e)] H := by
  intro j q hq
  match j, hq with
  | 0, hq => cases hq; exact h
  | j + 1, hq => simp at hq
theorem g_get0 (hc : Cx κ φ own cc nL rm) {idx K j key o : Nat} {r : Bool} (hF : FieldOk own idx K j key r) (ho : V.1 K o) {v : Value} (hv : (if r then va_rf (V.2.1 key o 0) else .int (σ key o 0)) = v) (hd : decode cc pc = .ok (.getfield idx, 3)) {pc2 : Nat} (hp : pc + 3 = pc2)
    (kk : G κ φ Q V k n σ L pc2 (v :: rest)) : G κ φ Q V k n σ L pc (.ref (ad κ.1 K o) :: rest) := by
  subst hp
  obtain ⟨p, l, e, R, s, m, args, below, meth, c⟩ := φ
  intro H locs ls hR hS hl
  obtain ⟨C, T, N, h6, hcl, hin, hj, hN, hT, hf, hw⟩ := hF
  have hat := hR.1 K o ho
  rw [ent_obj h6] at hat
  refine va_get (own := own) (ref := C) (Ts := GW) (tys := tysA κ) hc.1 hc.2.1 hc.2.2.2.2.1 hin hc.2.2.2.1 hc.2.2.2.2.2.1 (va_one hat) 0 rfl hcl j hj (hc.2.2.2.2.1 _ hw) (fun x hx => by rw [hT] at hx; exact hx) (v := v) ?_ hd (kk H locs ls hR hS hl)
  rw [List.getElem?_map, hf, ← hv]
  rfl
theorem g_geti (hc : Cx κ φ own cc nL rm) {idx K j key o : Nat} (hF : FieldOk own idx K j key false) (ho : V.1 K o) (hd : decode cc pc = .ok (.getfield idx, 3)) {pc2 : Nat} (hp : pc + 3 = pc2)
    (kk : G κ φ Q V k n σ L pc2 (.int (σ key o 0) :: rest)) : G κ φ Q V k n σ L pc (.ref (ad κ.1 K o) :: rest) := g_get0 hc hF ho (if_neg Bool.false_ne_true) hd hp kk
theorem g_getr (hc : Cx κ φ own cc nL rm) {idx K j key o q : Nat} (hF : FieldOk own idx K j key true) (ho : V.1 K o) (hg : V.2.1 key o 0 = some q) (hd : decode cc pc = .ok (.getfield idx, 3)) {pc2 : Nat} (hp : pc + 3 = pc2)
    (kk : G κ φ Q V k n σ L pc2 (.ref q :: rest)) : G κ φ Q V k n σ L pc (.ref (ad κ.1 K o) :: rest) := g_get0 hc hF ho (by rw [if_pos rfl, hg]; rfl) hd hp kk
theorem va_V_set {fs : List Value} {N j : Nat} (hj : j < fs.length) (v : Value) {V' : Nat → Value} (h : ∀ i, i < N → V' i = if i = j then v else vp_V fs i) : ∀ i, i < N → updV (vp_V fs) j v i = V' i := by
  intro i hi
  rw [h i hi]
  rfl
/-- what a store in a field leaves of the object -/
theorem entO_set {g : Gr} {σ : Mem} {K o j key N : Nat} {x : Int32} (hN : (kF K).length = N) (hf : (kF K)[j]? = some (false, key)) (hap : ∀ a b : Nat, (kF K)[a]? = (kF K)[b]? → a < N → a = b) :
    ∀ i, i < N → updV (vp_V (entO g σ K o)) j (.int x) i = vp_V (entO g (ms σ key o 0 x) K o) i := by
  intro i hi
  have hi2 : i < (kF K).length := by rw [hN]; exact hi
  unfold updV vp_V entO
  rw [List.getD_eq_getElem?_getD, List.getD_eq_getElem?_getD, List.getElem?_map, List.getElem?_map]
  by_cases e : i = j
  · subst e
    rw [if_pos rfl, hf]
    show Value.int x = Value.int (ms σ key o 0 x key o 0)
    rw [ms, if_pos ⟨rfl, rfl, rfl⟩]
  · rw [if_neg e]
    obtain ⟨f, hf2⟩ : ∃ f, (kF K)[i]? = some f := ⟨_, List.getElem?_eq_getElem hi2⟩
    rw [hf2]
    obtain ⟨b, k2⟩ := f
    cases b with
    | true => rfl
    | false =>
      have hne : k2 ≠ key := fun q => e (hap i j (by rw [hf2, hf, q]) hi)
      show Value.int (σ k2 o 0) = Value.int (ms σ key o 0 x k2 o 0)
      rw [ms, if_neg fun q => hne q.1]
theorem entO_gset {g : Gr} {σ : Mem} {K o j key N : Nat} {x : Option Nat} (hN : (kF K).length = N) (hf : (kF K)[j]? = some (true, key)) (hap : ∀ a b : Nat, (kF K)[a]? = (kF K)[b]? → a < N → a = b) :
    ∀ i, i < N → updV (vp_V (entO g σ K o)) j (va_rf x) i = vp_V (entO (gs g key o 0 x) σ K o) i := by
  intro i hi
  have hi2 : i < (kF K).length := by rw [hN]; exact hi
  unfold updV vp_V entO
  rw [List.getD_eq_getElem?_getD, List.getD_eq_getElem?_getD, List.getElem?_map, List.getElem?_map]
  by_cases e : i = j
  · subst e
    rw [if_pos rfl, hf]
    show va_rf x = va_rf (gs g key o 0 x key o 0)
    rw [gs, if_pos ⟨rfl, rfl, rfl⟩]
  · rw [if_neg e]
    obtain ⟨f, hf2⟩ : ∃ f, (kF K)[i]? = some f := ⟨_, List.getElem?_eq_getElem hi2⟩
    rw [hf2]
    obtain ⟨b, k2⟩ := f
    cases b with
    | false => rfl
    | true =>
      have hne : k2 ≠ key := fun q => e (hap i j (by rw [hf2, hf, q]) hi)
      show va_rf (g k2 o 0) = va_rf (gs g key o 0 x k2 o 0)
      rw [gs, if_neg fun q => hne q.1]
theorem kF_nd : ((List.range 27).all fun K => (List.range (kF K).length).all fun a => (List.range (kF K).length).all fun b => a == b || (kF K)[a]? != (kF K)[b]?) = true := by decide +kernel
theorem kF_apart {K N : Nat} (hK : K < 27) (hN : (kF K).length = N) : ∀ a b : Nat, (kF K)[a]? = (kF K)[b]? → a < N → a = b := by
  intro a b e ha
  have hb : b < (kF K).length := by
    rcases Nat.lt_or_ge b (kF K).length with q | q
    · exact q
    · rw [List.getElem?_eq_none q] at e
      have := List.getElem?_eq_none_iff.mp e
      omega
  have h1 := List.all_eq_true.mp (List.all_eq_true.mp (List.all_eq_true.mp kF_nd K (List.mem_range.mpr hK)) a (List.mem_range.mpr (by omega))) b (List.mem_range.mpr hb)
  rw [e] at h1
  rcases Bool.or_eq_true _ _ ▸ h1 with q | q
  · exact eq_of_beq q
  · simp at q
/-- a store in a field -/
theorem g_put0 (hc : Cx κ φ own cc nL rm) {idx K j key o : Nat} {r : Bool} (hK : K < 27) (hF : FieldOk own idx K j key r) (hO : ClassOk K) (ho : V.1 K o) {v : Value} {V2 : Wv} {σ2 : Mem}
    (hfin : ∀ C T N, vwCl[kCi K]? = some (C, T, N) → (T j).2.2.2 = false ∧ ∃ ty, parseFieldDescriptor (T j).2.2.1 = some ty ∧ narrow ty v = v ∧ fits ty v = true)
    (hset : ∀ i, i < (kF K).length → updV (vp_V (entO V.2.1 σ K o)) j v i = vp_V (entO V2.2.1 σ2 K o) i)
    (hrel : ∀ H H1 : Heap, RelH κ V σ H → va_at κ.2.1 vwCl (ad κ.1 K o, ent κ.2.2 V2.2.1 σ2 V2.2.2.1 K o) H1 → H1.size = H.size → (∀ q : Nat, q ≠ ad κ.1 K o → H1[q]? = H[q]?) → RelH κ V2 σ2 H1)
    (hd : decode cc pc = .ok (.putfield idx, 3)) {pc2 : Nat} (hp : pc + 3 = pc2) (kk : G κ φ Q V2 k n σ2 L pc2 rest) : G κ φ Q V k n σ L pc (v :: .ref (ad κ.1 K o) :: rest) := by
  subst hp
  obtain ⟨p, l, e, R, s, m, args, below, meth, c⟩ := φ
  intro H locs ls hR hS hl
  obtain ⟨C, T, N, h6, hcl, hin, hj, hN, hT, hf, hw⟩ := hF
  obtain ⟨C2, T2, N2, ty0, hcl2, -, hty, hnm⟩ := hO
  cases hcl.symm.trans hcl2
  obtain ⟨hfi, ty, hpd, hnr, hft⟩ := hfin C T N hcl
  have hts := hc.2.2.2.2.1
  have hKK := hc.2.2.2.2.2.1
  have hap := va_apart (own := own) hts hin ty0 hty hnm hKK hcl
  have hat := hR.1 K o ho
  rw [ent_obj h6] at hat
  obtain ⟨r', h1, cell, q1, q2, q3, q4⟩ := hat
  have hr : r' = (C, T, N) := Option.some.inj (h1.symm.trans hcl)
  subst hr
  obtain ⟨hSl, hfc, kC, hkC, hkind⟩ := hKK.1 _ _ hcl
  obtain ⟨cf, kf, fi, f, hi, hsl⟩ := hSl j hj
  have hlay := hts _ (hin _ (u_in_lay hj))
  unfold u_lay at hlay
  rw [if_neg (by rw [hfi]; decide)] at hlay
  have hst := (u_facts hfc hkC (u_lays hts hin hj) hi).1
  have h7 := u_store hfc hkC hkind hlay hi hpd hnr hft
  have hi2 : s.fieldFound? C (T j).2.1 (T j).2.2.1 = some (cf, kf, fi, f) := by rw [hT] at hi; exact hi
  refine W.putK hc.1 hc.2.1 (f := f) ⟨hc.2.2.2.1, hts _ hw, ⟨_, _, _, hi2⟩, hst⟩ (by rw [q2]; exact h7) q1 q3 (by rw [hsl]; exact k2_hasslot (q4 j hj)) rfl rfl hd fun H' e1 e2 e3 => ?_
  rw [hsl] at e1 ⊢
  refine kk H' _ ls (hrel H H' hR ?_ e2 e3) (hS.put e2 e3 (Ak_ad κ K o)) hl
  rw [ent_obj h6]
  exact ⟨_, hcl, t_OB.to (V := updV (vp_V (entO V.2.1 σ K o)) j v) ⟨_, e1, q2, q3, t_set q4 hap hj v⟩ (fun i hi3 => hset i (by rw [hN]; exact hi3))⟩
/-- the types of a store of a number: as the table says -/
def PutOk (K j : Nat) (ty : FieldType) : Prop := ∀ C T N, vwCl[kCi K]? = some (C, T, N) → (T j).2.2.2 = false ∧ parseFieldDescriptor (T j).2.2.1 = some ty
theorem g_puti (hc : Cx κ φ own cc nL rm) {idx K j key o : Nat} {ty : FieldType} (hK : K < 27) (hF : FieldOk own idx K j key false) (hO : ClassOk K) (hpu : PutOk K j ty) (hw : kOwn key = K) (ho : V.1 K o) {x : Int32} (hn : narrow ty (.int x) = .int x) (hfit : fits ty (.int x) = true)
    (hd : decode cc pc = .ok (.putfield idx, 3)) {pc2 : Nat} (hp : pc + 3 = pc2) (kk : G κ φ Q V k n (ms σ key o 0 x) L pc2 rest) : G κ φ Q V k n σ L pc (.int x :: .ref (ad κ.1 K o) :: rest) := by
  obtain ⟨C, T, N, h6, hcl, hin, hj, hN, hT, hf, hl⟩ := id hF
  refine g_put0 hc hK hF hO ho (V2 := V) (σ2 := ms σ key o 0 x) (fun C T N h => ⟨(hpu C T N h).1, ty, (hpu C T N h).2, hn, hfit⟩) ?_ (fun H H1 hR he hz oq => hR.put ho hw he hz oq) hd hp kk
  exact entO_set rfl hf (kF_apart hK rfl)
/-- reads of arrays -/
theorem g_aldi (hc : Cx κ φ own cc nL rm) (K o : Nat) {i : Int32} (hk : kT K = 0) (ho : V.1 K o) (hi : ib i (kL K) = true) (hd : decode cc pc = .ok (.iaload, 1)) {pc2 : Nat} (hp : pc + 1 = pc2)
    (kk : G κ φ Q V k n σ L pc2 (.int (σ K o i.toNatClampNeg) :: rest)) : G κ φ Q V k n σ L pc (.int i :: .ref (ad κ.1 K o) :: rest) := by
  subst hp
  obtain ⟨p, l, e, R, s, m, args, below, meth, c⟩ := φ
  intro H locs ls hR hS hl
  have hat := hR.1 K o ho
  rw [ent_int (by rw [hk]; decide), hk] at hat
  exact va_iald (tys := tysA κ) hc.1 hc.2.1 hc.2.2.2.2.2.1 (va_one hat) 0 0 rfl rfl (ib_in hi) hd (kk H locs ls hR hS hl)
theorem g_aldz (hc : Cx κ φ own cc nL rm) (K o : Nat) {i : Int32} (hk : kT K = 1) (ho : V.1 K o) (hi : ib i (kL K) = true) (hd : decode cc pc = .ok (.baload, 1)) {pc2 : Nat} (hp : pc + 1 = pc2)
    (kk : G κ φ Q V k n σ L pc2 (.int (σ K o i.toNatClampNeg) :: rest)) : G κ φ Q V k n σ L pc (.int i :: .ref (ad κ.1 K o) :: rest) := by
  subst hp
  obtain ⟨p, l, e, R, s, m, args, below, meth, c⟩ := φ
  intro H locs ls hR hS hl
  have hat := hR.1 K o ho
  rw [ent_int (by rw [hk]; decide), hk] at hat
  exact va_zald (tys := tysA κ) hc.1 hc.2.1 hc.2.2.2.2.2.1 (va_one hat) 0 1 rfl rfl (ib_in hi) hd (kk H locs ls hR hS hl)
theorem g_aldc (hc : Cx κ φ own cc nL rm) (K o : Nat) {i : Int32} (hk : kT K = 2) (ho : V.1 K o) (hi : ib i (kL K) = true) (hd : decode cc pc = .ok (.caload, 1)) {pc2 : Nat} (hp : pc + 1 = pc2)
    (kk : G κ φ Q V k n σ L pc2 (.int (σ K o i.toNatClampNeg) :: rest)) : G κ φ Q V k n σ L pc (.int i :: .ref (ad κ.1 K o) :: rest) := by
  subst hp
  obtain ⟨p, l, e, R, s, m, args, below, meth, c⟩ := φ
  intro H locs ls hR hS hl
  have hat := hR.1 K o ho
  rw [ent_int (by rw [hk]; decide), hk] at hat
  exact va_cald (tys := tysA κ) hc.1 hc.2.1 hc.2.2.2.2.2.1 (va_one hat) 0 2 rfl rfl (ib_in hi) hd (kk H locs ls hR hS hl)
/-- reads of an array of references -/
theorem g_aldr (hc : Cx κ φ own cc nL rm) (K o : Nat) {i : Int32} {q : Nat} (hk : 4 ≤ kT K) (hk6 : kT K < 6) (ho : V.1 K o) (hi : ib i (kL K) = true) (hg : V.2.1 K o i.toNatClampNeg = some q) (hd : decode cc pc = .ok (.aaload, 1)) {pc2 : Nat} (hp : pc + 1 = pc2)
    (kk : G κ φ Q V k n σ L pc2 (.ref q :: rest)) : G κ φ Q V k n σ L pc (.int i :: .ref (ad κ.1 K o) :: rest) := by
  subst hp
  obtain ⟨p, l, e, R, s, m, args, below, meth, c⟩ := φ
  intro H locs ls hR hS hl
  have hat := hR.1 K o ho
  rw [ent_ref hk hk6] at hat
  have hkk := kk H locs ls hR hS hl
  rcases (show kT K = 4 ∨ kT K = 5 by omega) with h | h
  · rw [h] at hat
    refine va_aldq (tys := tysA κ) hc.1 hc.2.1 hc.2.2.2.2.2.1 (va_one hat) 0 4 rfl (C := RX5) rfl (ib_in hi) hd ?_
    rw [hg]
    exact hkk
  · rw [h] at hat
    refine va_aldq (tys := tysA κ) hc.1 hc.2.1 hc.2.2.2.2.2.1 (va_one hat) 0 5 rfl (C := RX2) rfl (ib_in hi) hd ?_
    rw [hg]
    exact hkk
/-- stores in arrays of numbers -/
theorem ms_arr (σ : Mem) (K o i : Nat) (x : Int32) : ms σ K o i x K o = upd (σ K o) i x := by
  funext j
  by_cases e : j = i
  · subst e
    rw [ms, if_pos ⟨rfl, rfl, rfl⟩]
    simp [upd]
  · rw [ms, if_neg fun q => e q.2.2]
    simp [upd, e]
theorem g_asti (hc : Cx κ φ own cc nL rm) (K o : Nat) {i x : Int32} (hk : kT K = 0) (ho : V.1 K o) (hi : ib i (kL K) = true) (hd : decode cc pc = .ok (.iastore, 1)) {pc2 : Nat} (hp : pc + 1 = pc2)
    (kk : G κ φ Q V k n (ms σ K o i.toNatClampNeg x) L pc2 rest) : G κ φ Q V k n σ L pc (.int x :: .int i :: .ref (ad κ.1 K o) :: rest) := by
  subst hp
  obtain ⟨p, l, e, R, s, m, args, below, meth, c⟩ := φ
  intro H locs ls hR hS hl
  have hat := hR.1 K o ho
  have hlt : kT K < 3 := by rw [hk]; decide
  rw [ent_int hlt] at hat
  have hty := ((hc.2.2.2.2.2.1).2 0 (κ.2.2 0, .int) rfl).1
  refine W.iast hc.1 hc.2.1 hat (by show s.isArrayOf (arrV _ _ _) .int; rw [hk]; exact hty (kL K) (fun j => .int (σ K o j))) (fun q => by cases q) (by show ¬ (i < 0 ∨ (arrV _ _ _).slots.size ≤ _); rw [arrV_size]; exact ib_in hi) rfl rfl hd fun H1 e z oq => ?_
  refine kk H1 _ ls (hR.put ho (kOwn_arr (by rw [hk]; decide)) ?_ z oq) (hS.put z oq (Ak_ad κ K o)) hl
  rw [ent_int hlt, ms_arr]
  show H1[_]? = some (vp_cell _ _)
  rw [e]
  rw [vp_cell_i, vp_cell_i, arrV_store]
  congr 2
  funext q
  by_cases hq : q = i.toNatClampNeg
  · subst hq
    simp [updV, upd]
  · simp [updV, upd, hq]
theorem g_astz (hc : Cx κ φ own cc nL rm) (K o : Nat) {i x : Int32} (hk : kT K = 1) (ho : V.1 K o) (hi : ib i (kL K) = true) (hd : decode cc pc = .ok (.bastore, 1)) {pc2 : Nat} (hp : pc + 1 = pc2)
    (kk : G κ φ Q V k n (ms σ K o i.toNatClampNeg (zb x)) L pc2 rest) : G κ φ Q V k n σ L pc (.int x :: .int i :: .ref (ad κ.1 K o) :: rest) := by
  subst hp
  obtain ⟨p, l, e, R, s, m, args, below, meth, c⟩ := φ
  intro H locs ls hR hS hl
  have hat := hR.1 K o ho
  have hlt : kT K < 3 := by rw [hk]; decide
  rw [ent_int hlt] at hat
  have hty := ((hc.2.2.2.2.2.1).2 1 (κ.2.2 1, .boolean) rfl).1
  refine W.zast hc.1 hc.2.1 hat (by show s.isArrayOf (arrV _ _ _) .boolean; rw [hk]; exact hty (kL K) (fun j => .int (σ K o j))) (fun q => by cases q) (by show ¬ (i < 0 ∨ (arrV _ _ _).slots.size ≤ _); rw [arrV_size]; exact ib_in hi) rfl rfl hd fun H1 e z oq => ?_
  refine kk H1 _ ls (hR.put ho (kOwn_arr (by rw [hk]; decide)) ?_ z oq) (hS.put z oq (Ak_ad κ K o)) hl
  rw [ent_int hlt, ms_arr]
  show H1[_]? = some (vp_cell _ _)
  rw [e]
  rw [vp_cell_i, vp_cell_i, arrV_store]
  congr 2
  funext q
  by_cases hq : q = i.toNatClampNeg
  · subst hq
    simp [updV, upd, zb, vp_nar]
    try rfl
  · simp [updV, upd, hq]
theorem g_astc (hc : Cx κ φ own cc nL rm) (K o : Nat) {i x : Int32} (hk : kT K = 2) (ho : V.1 K o) (hi : ib i (kL K) = true) (hd : decode cc pc = .ok (.castore, 1)) {pc2 : Nat} (hp : pc + 1 = pc2)
    (kk : G κ φ Q V k n (ms σ K o i.toNatClampNeg (cb x)) L pc2 rest) : G κ φ Q V k n σ L pc (.int x :: .int i :: .ref (ad κ.1 K o) :: rest) := by
  subst hp
  obtain ⟨p, l, e, R, s, m, args, below, meth, c⟩ := φ
  intro H locs ls hR hS hl
  have hat := hR.1 K o ho
  have hlt : kT K < 3 := by rw [hk]; decide
  rw [ent_int hlt] at hat
  have hty := ((hc.2.2.2.2.2.1).2 2 (κ.2.2 2, .char) rfl).1
  refine W.cast hc.1 hc.2.1 hat (by show s.isArrayOf (arrV _ _ _) .char; rw [hk]; exact hty (kL K) (fun j => .int (σ K o j))) (fun q => by cases q) (by show ¬ (i < 0 ∨ (arrV _ _ _).slots.size ≤ _); rw [arrV_size]; exact ib_in hi) rfl rfl hd fun H1 e z oq => ?_
  refine kk H1 _ ls (hR.put ho (kOwn_arr (by rw [hk]; decide)) ?_ z oq) (hS.put z oq (Ak_ad κ K o)) hl
  rw [ent_int hlt, ms_arr]
  show H1[_]? = some (vp_cell _ _)
  rw [e]
  rw [vp_cell_i, vp_cell_i, arrV_store]
  congr 2
  funext q
  by_cases hq : q = i.toNatClampNeg
  · subst hq
    simp [updV, upd, cb, vp_nar]
    try rfl
  · simp [updV, upd, hq]
end HEAPS
