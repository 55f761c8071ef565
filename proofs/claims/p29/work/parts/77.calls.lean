/-! THE CLASS'S CALLS over its state as a row of numbers: what they answer, what stands behind them -/
section CALLQ
variable {q r : QS} {c d : Mem} {T B : Nat} {σ σ' τ : Mem}
theorem isB_is {k : Nat} (h : isB k = true) : k = 4 ∨ k = 5 ∨ (30 ≤ k ∧ k ≤ 35) := by
  unfold isB at h
  simp only [Bool.or_eq_true, Bool.and_eq_true, beq_iff_eq, Nat.ble_eq] at h
  omega
theorem isM_is {k : Nat} (h : isM k = true) : k = 8 ∨ k = 10 ∨ k = 11 ∨ k = 12 ∨ k = 14 ∨ (40 ≤ k ∧ k ≤ 47) ∨ k = 50 ∨ k = 51 := by
  unfold isM at h
  simp only [Bool.or_eq_true, Bool.and_eq_true, beq_iff_eq, Nat.ble_eq] at h
  omega
theorem Bus.mv0 {b : Nat} (h : Bus q (cOf σ b) T) (e : ∀ k i, isB k = true → σ' k b i = σ k b i) (e2 : ∀ k o i, isB k = false → isM k = true → o < 6 → σ' k (6 * b + o) i = σ k (6 * b + o) i) : Bus q (cOf σ' b) T :=
  h.cells (fun k i hk => by
    show (if isB k = true then σ' k b i else _) = (if isB k = true then σ k b i else _)
    rw [if_pos hk, if_pos hk]; exact e k i hk) (fun k o i hk hk2 ho => by
    show (if isB k = true then _ else σ' k (6 * b + o) i) = (if isB k = true then _ else σ k (6 * b + o) i)
    rw [if_neg (by rw [hk]; exact fun z => nomatch z), if_neg (by rw [hk]; exact fun z => nomatch z)]; exact e2 k o i hk hk2 ho)
theorem Bus.put {b : Nat} (h : Bus q c T) (σ : Mem) : Bus q (cOf (wc σ b c) b) T :=
  h.cells (fun k i hk => by
    show (if isB k = true then wc σ b c k b i else _) = _
    rw [if_pos hk, wc_b _ _ hk]) (fun k o i hk hk2 ho => by
    show (if isB k = true then _ else wc σ b c k (6 * b + o) i) = _
    rw [if_neg (by rw [hk]; exact fun z => nomatch z), wc_m _ _ hk hk2 ho])
theorem Bus.other {a b : Nat} (h : Bus q (cOf σ b) T) (c : Mem) (hab : b ≠ a) : Bus q (cOf (wc σ a c) b) T :=
  h.mv0 (fun k i hk => (rd_b σ c hk hab i).trans (by show (if isB k = true then σ k b i else _) = _; rw [if_pos hk])) (fun k o i hk hk2 ho => (rd_m σ c hk hk2 hab ho i).trans (by
    show (if isB k = true then _ else σ k (6 * b + o) i) = _
    rw [if_neg (by rw [hk]; exact fun z => nomatch z)]))
theorem wc_out (σ : Mem) (b : Nat) (c : Mem) {k : Nat} (h1 : isB k = false) (h2 : isM k = false) (o i : Nat) : wc σ b c k o i = σ k o i := by
  unfold wc
  rw [if_neg (by rw [h1]; exact fun z => nomatch z), if_neg (by rw [h2]; exact fun z => nomatch z)]
theorem Bus.msx {b k o i : Nat} (h : Bus q (cOf σ b) T) (v : Int32) (h1 : isB k = false) (h2 : isM k = false) : Bus q (cOf (ms σ k o i v) b) T :=
  h.mv0 (fun k1 i1 hk => ms_ne _ _ fun z => by rw [← z.1, hk] at h1; cases h1) (fun k1 o1 i1 _ hk2 _ => ms_ne _ _ fun z => by rw [← z.1, hk2] at h2; cases h2)
/-- only the trial has changed, or what the text's reader keeps -/
def T15 (σ σ' : Mem) : Prop := ∀ k o i, k ≠ 55 → k ≠ 56 → ¬ (isB k = true ∧ (o = 15 ∨ o = 16)) → ¬ (isM k = true ∧ (o / 6 = 15 ∨ o / 6 = 16)) → σ' k o i = σ k o i
theorem T15.refl (σ : Mem) : T15 σ σ := fun _ _ _ _ _ _ _ => rfl
theorem T15.trans (h : T15 σ σ') (g : T15 σ' τ) : T15 σ τ := fun k o i h1 h2 h3 h4 => (g k o i h1 h2 h3 h4).trans (h k o i h1 h2 h3 h4)
theorem t15_wc (σ : Mem) {b : Nat} (c : Mem) (hb : b = 15 ∨ b = 16) : T15 σ (wc σ b c) := fun k o i _ _ h2 h3 => by
  unfold wc
  by_cases e : isB k = true
  · rw [if_pos e, if_neg (fun z => h2 ⟨e, by omega⟩)]
  · rw [if_neg e]
    by_cases e2 : isM k = true
    · rw [if_pos e2, if_neg (fun z => h3 ⟨e2, by omega⟩)]
    · rw [if_neg e2]
theorem T15.bus (k : T15 σ σ') {b : Nat} (hb : b ≠ 15 ∧ b ≠ 16) (h : Bus q (cOf σ b) T) : Bus q (cOf σ' b) T :=
  h.mv0 (fun k1 i hk => by
    have := isB_is hk
    exact k _ _ _ (by omega) (by omega) (fun z => by omega) (fun z => by
      have := isM_is z.1
      omega)) (fun k1 o i hk hk2 ho => by
    have := isM_is hk2
    exact k _ _ _ (by omega) (by omega) (fun z => by rw [hk] at z; cases z.1) (fun z => by omega))
theorem T15.at (h : T15 σ σ') {k o i : Nat} (h1 : isB k = false) (h2 : isM k = false) (h3 : k ≠ 55) (h4 : k ≠ 56) : σ' k o i = σ k o i := h k o i h3 h4 (fun z => by rw [h1] at z; cases z.1) (fun z => by rw [h2] at z; cases z.1)
def RI (σ : Mem) : Prop := ∃ n c, n < 14 ∧ c ≤ 14 ∧ σ 53 0 0 = nI n ∧ σ 52 0 0 = nI c
/-- the state that undo brings back -/
def Top (σ : Mem) (q : QS) (T : Nat) : Prop := ∃ n c, n < 14 ∧ 1 ≤ c ∧ c ≤ 14 ∧ σ 53 0 0 = nI n ∧ σ 52 0 0 = nI c ∧ Bus q (cOf σ ((n + 13) % 14 + 1)) T
/-- the state in the first save slot -/
def Sav (σ : Mem) (q : QS) (T : Nat) : Prop := σ 18 0 0 = nI 1 ∧ Bus q (cOf σ 17) T
theorem Top.ri (h : Top σ q T) : RI σ := by
  obtain ⟨n, c, h1, h2, h3, h4, h5, -⟩ := h
  exact ⟨n, c, h1, h3, h4, h5⟩
theorem T15.ri (k : T15 σ σ') (h : RI σ) : RI σ' := by
  obtain ⟨n, c, h1, h2, h3, h4⟩ := h
  exact ⟨n, c, h1, h2, (k.at (by decide) (by decide) (by decide) (by decide)).trans h3, (k.at (by decide) (by decide) (by decide) (by decide)).trans h4⟩
theorem T15.top (k : T15 σ σ') (h : Top σ q T) : Top σ' q T := by
  obtain ⟨n, c, h1, h2, h3, h4, h5, h6⟩ := h
  exact ⟨n, c, h1, h2, h3, (k.at (by decide) (by decide) (by decide) (by decide)).trans h4, (k.at (by decide) (by decide) (by decide) (by decide)).trans h5, k.bus (by omega) h6⟩
theorem T15.sav (k : T15 σ σ') (h : Sav σ q T) : Sav σ' q T := ⟨(k.at (by decide) (by decide) (by decide) (by decide)).trans h.1, k.bus (by omega) h.2⟩
/-- behind an action -/
def After (σ : Mem) (q : QS) (T : Nat) (σ' : Mem) (q' : QS) (T' : Nat) : Prop := Bus q' (cOf σ' 0) T' ∧ Top σ' q T ∧ ∀ s ts, Sav σ s ts → Sav σ' s ts
theorem c_remember (σ : Mem) {n c T : Nat} (hn : n < 14) (hc : c ≤ 14) (h53 : σ 53 0 0 = nI n) (h52 : σ 52 0 0 = nI c) (h : Bus q (cOf σ 0) T) : ∃ d, Bus q d T ∧ f4_remember 0 σ = some (ms (ms (wc σ (n + 1) d) 53 0 0 (nI (if n = 13 then 0 else n + 1))) 52 0 0 (nI (if c = 14 then 14 else c + 1))) := by
  obtain ⟨d, hd1, hd2⟩ := c_copy σ (o := n + 1) (a := 0) (by omega) h (cOf σ (n + 1))
  rw [wc_self] at hd1
  refine ⟨d, hd2, ?_⟩
  have e53 : wc σ (n + 1) d 53 0 0 = nI n := (wc_out _ _ _ (by decide) (by decide) _ _).trans h53
  have e52 : wc σ (n + 1) d 52 0 0 = nI c := (wc_out _ _ _ (by decide) (by decide) _ _).trans h52
  have e52' : ∀ v, ms (wc σ (n + 1) d) 53 0 0 v 52 0 0 = nI c := fun v => (ms_ne _ _ (by omega)).trans e52
  unfold f4_remember fJ_min
  simp (disch := first | omega | decide) only [lit, nmS, h53, gd_ib, clI, hd1, bvS, e53, nI_add, e52']
  rw [if_neg (show ¬ nI n < nI 0 from nI_pos (by omega)), if_pos (nI_lt hn (by decide))]
  have hfin : ∀ v, bd (if nI 14 < nI (c + 1) then some (nI 14, ms (wc σ (n + 1) d) 53 0 0 v) else some (nI (c + 1), ms (wc σ (n + 1) d) 53 0 0 v)) (fun r1 s4 => some (ms s4 52 0 0 r1)) = some (ms (ms (wc σ (n + 1) d) 53 0 0 v) 52 0 0 (nI (if c = 14 then 14 else c + 1))) := by
    intro v
    by_cases e : c = 14
    · rw [if_pos (nI_lt (by omega) (by omega)), bdS, if_pos e]
    · rw [if_neg (show ¬ nI 14 < nI (c + 1) from fun z => by
        have := (nI_ltI (by omega) (by omega)).mp z
        omega), bdS, if_neg e]
  by_cases e : n = 13
  · rw [if_pos (show nI 14 ≤ nI (n + 1) from nI_le (by omega) (by omega)), hfin, if_pos e]
  · rw [if_neg (show ¬ nI 14 ≤ nI (n + 1) from nI_ge (by omega) (by omega)), hfin, if_neg e]
theorem pushed (hp : Bus q (cOf σ 0) T) (hr : RI σ) : ∃ σa, f4_remember 0 σ = some σa ∧ Bus q (cOf σa 0) T ∧ ∀ (c' : Mem) (q' : QS) (T' : Nat), Bus q' c' T' → After σ q T (wc σa 0 c') q' T' := by
  obtain ⟨n, c, hn, hc, h53, h52⟩ := hr
  obtain ⟨d, hd, hrem⟩ := c_remember σ hn hc h53 h52 hp
  generalize hn' : (if n = 13 then 0 else n + 1) = n' at hrem
  generalize hc' : (if c = 14 then 14 else c + 1) = c2 at hrem
  have hb : ∀ {q : QS} {b T : Nat}, b ≠ n + 1 → Bus q (cOf σ b) T → Bus q (cOf (ms (ms (wc σ (n + 1) d) 53 0 0 (nI n')) 52 0 0 (nI c2)) b) T := fun hb h => ((h.other d hb).msx _ (by decide) (by decide)).msx _ (by decide) (by decide)
  refine ⟨_, hrem, hb (by omega) hp, fun c' q' T' h' => ⟨h'.put _, ⟨n', c2, by split at hn' <;> omega, by split at hc' <;> omega, by split at hc' <;> omega, ?_, ?_, ?_⟩, fun s ts hs => ⟨?_, ?_⟩⟩⟩
  · rw [wc_out _ _ _ (by decide) (by decide), ms_ne _ _ (by omega), ms_eq]
  · rw [wc_out _ _ _ (by decide) (by decide), ms_eq]
  · rw [show (n' + 13) % 14 + 1 = n + 1 by split at hn' <;> omega]
    exact Bus.other (((hd.put σ).msx _ (by decide) (by decide)).msx _ (by decide) (by decide)) c' (by omega)
  · rw [wc_out _ _ _ (by decide) (by decide), ms_ne _ _ (by omega), ms_ne _ _ (by omega), wc_out _ _ _ (by decide) (by decide)]; exact hs.1
  · exact Bus.other (hb (by omega) hs.2) c' (by omega)
/-! what is needed -/
theorem c_hs0 (h : Bus q (cOf σ 0) T) (a : Int32) : f2_hasMaster 0 a σ = some (bI (decide (0 ≤ a) && decide (a < q 0)), σ) := by
  obtain ⟨f, hE⟩ := h.1
  have := c_has σ 0 hE h.2.1.sz a
  rw [wc_self] at this
  exact this
theorem isM_in (h : Bus q c T) {m : Nat} (hm : m < nM q) : (decide (0 ≤ nI m) && decide (nI m < q 0)) = true := by
  have hM := h.2.1.sz.M
  rw [hM.1, decide_eq_true (nI_pos' (by omega)), decide_eq_true (nI_lt hm (by omega))]; rfl
theorem isS_in (h : Bus q c T) {s : Nat} (hs : s < nS q) : (decide (0 ≤ nI s) && decide (nI s < q 1)) = true := by
  have hM := h.2.1.sz.S
  rw [hM.1, decide_eq_true (nI_pos' (by omega)), decide_eq_true (nI_lt hs (by omega))]; rfl
theorem p_yes (h : Bus q (cOf σ 0) T) {m : Nat} (hm : m < nM q) : f6_needMaster (nI m) σ = some (.inr (), σ) := by
  unfold f6_needMaster
  rw [c_hs0 h, bdS, isM_in h hm, if_neg (show ¬ bI true = 0 by decide)]
theorem p_yesS (h : Bus q (cOf σ 0) T) {s : Nat} (hs : s < nS q) : f6_needSlot (nI s) σ = some (.inr (), σ) := by
  obtain ⟨f, hE⟩ := h.1
  have h2 := c_hasS σ 0 hE h.2.1.sz (nI s)
  rw [wc_self] at h2
  unfold f6_needSlot
  rw [h2, bdS, isS_in h hs, if_neg (show ¬ bI true = 0 by decide)]
theorem p_slave {s : Nat} (hs : s < 4) (σ : Mem) : f6_needSlave (nI s) σ = some (.inr (), σ) := by
  unfold f6_needSlave
  simp only [lit]
  rw [if_neg (show ¬ nI s < nI 0 from nI_pos (by omega)), if_pos (nI_lt hs (by decide))]
theorem p_save {s : Nat} (hs : s < 2) (σ : Mem) : f6_needSaveSlot (nI s) σ = some (.inr (), σ) := by
  unfold f6_needSaveSlot
  simp only [lit]
  rw [if_neg (show ¬ nI s < nI 0 from nI_pos (by omega)), if_pos (nI_lt hs (by decide))]
theorem ni_of {α : Type} {x : Option ((Nat ⊕ α) × Mem)} {a : α} {s : Mem} (h : x = some (.inr a, s)) : ni x = some (a, s) := by rw [h]; rfl
/-! calls that only look -/
def abV (q : QS) : Nat → Int32
  | 5 => sumF (dbQ q) (nM q)
  | 6 => sumF (fun m => mQ q m 0) (nM q)
  | 7 => sumF (fun m => mQ q m 7) (nM q)
  | 8 => q 5
  | 9 => q 6
  | n => q n
theorem a_about (h : Bus q (cOf σ 0) T) {k : Nat} (hk : k < 10) : ni (f6_about (nI k) σ) = some (abV q k, σ) := by
  refine ni_of ?_
  obtain ⟨f, hE⟩ := h.1
  have hz := h.2.1.sz
  have hb := bits_is h.2.1
  have c9 := c_bits σ 0 hE hz
  rw [hb] at c9
  have c5 := c_allDebts σ 0 hE hz
  have c6 := c_waiting σ 0 hE hz
  have c7 := c_open σ 0 hE hz
  rw [wc_self] at c5 c6 c7 c9
  have e0 : σ 30 0 0 = q 0 := hE.t0
  have e1 : σ 31 0 0 = q 1 := hE.t1
  have e2 : σ 32 0 0 = q 2 := hE.t2
  have e3 : σ 33 0 0 = q 3 := hE.tx
  have e4 : σ 34 0 0 = q 4 := hE.t4
  have e5 : σ 35 0 0 = q 5 := hE.ty
  have ha6 : f6_about (nI k) σ = (if nI k = nI 0 then some (.inr (q 0), σ) else if nI k = nI 1 then some (.inr (q 1), σ) else if nI k = nI 2 then some (.inr (q 2), σ) else if nI k = nI 3 then some (.inr (q 3), σ) else if nI k = nI 4 then some (.inr (q 4), σ) else
      if nI k = nI 5 then some (.inr (abV q 5), σ) else if nI k = nI 6 then some (.inr (abV q 6), σ) else if nI k = nI 7 then some (.inr (abV q 7), σ) else if nI k = nI 8 then some (.inr (q 5), σ) else if nI k = nI 9 then some (.inr (q 6), σ) else some (.inl 0, σ)) := by
    unfold f6_about
    simp only [lit]
    rw [e0, e1, e2, e3, e4, e5, c5, c6, c7, c9, bdS, bdS, bdS, bdS]
    rfl
  rw [ha6]
  have : k = 0 ∨ k = 1 ∨ k = 2 ∨ k = 3 ∨ k = 4 ∨ k = 5 ∨ k = 6 ∨ k = 7 ∨ k = 8 ∨ k = 9 := by omega
  rcases this with rfl | rfl | rfl | rfl | rfl | rfl | rfl | rfl | rfl | rfl <;> simp (decide := true) only [↓reduceIte] <;> rfl
theorem a_owner (h : Bus q (cOf σ 0) T) {s : Nat} (hs : s < nS q) : ni (f6_owner (nI s) σ) = some (q (11 + s), σ) := by
  refine ni_of ?_
  obtain ⟨f, hE⟩ := h.1
  have hS := h.2.1.sz.S
  have e4 : σ 4 0 s = q (11 + s) := hE.own hs (by omega)
  unfold f6_owner
  simp (disch := first | omega | decide) only [lit, p_yesS h hs, bxR, gd_ib, clI, e4]
theorem a_owes (h : Bus q (cOf σ 0) T) {m k : Nat} (hm : m < nM q) (hk : k < nM q) : ni (f6_owes (nI m) (nI k) σ) = some (owQ q m k, σ) := by
  refine ni_of ?_
  obtain ⟨f, hE⟩ := h.1
  have hM := h.2.1.sz.M
  have e8 : σ 8 (6 * 0 + m) k = owQ q m k := hE.ow (by omega) (by omega)
  unfold f6_owes
  simp (disch := first | omega | decide) only [lit, p_yes h hm, p_yes h hk, bxR, gd_ib, clI, e8]
def msV (q : QS) (m : Nat) : Nat → Int32
  | 0 => slQ q (nS q) m
  | 1 => dbQ q m
  | 2 => sumF (fun a => owQ q a m) (nM q)
  | 3 => mQ q m 0
  | 4 => sumF (fun k => mQ q m (9 + 3 * k)) (nB q m)
  | n + 5 => mQ q m (n + 1)
set_option maxHeartbeats 1000000 in
theorem a_master (h : Bus q (cOf σ 0) T) {m k : Nat} (hm : m < nM q) (hk : k < 11) : ni (f6_master (nI m) (nI k) σ) = some (msV q m k, σ) := by
  refine ni_of ?_
  obtain ⟨f, hE⟩ := h.1
  have hz := h.2.1.sz
  have hM := hz.M
  have hm6 : m < 6 := by omega
  have hc : ∀ j, 1 ≤ j → j < 7 → σ (41 + j) (6 * 0 + m) 0 = mQ q m j := fun j h1 h2 => by
    have h3 := hE.cnt hm6 h1 h2
    have : j = 1 ∨ j = 2 ∨ j = 3 ∨ j = 4 ∨ j = 5 ∨ j = 6 := by omega
    rcases this with rfl | rfl | rfl | rfl | rfl | rfl <;> exact h3
  have c0 := c_slots σ 0 hE hz (Nat.le_refl _) m
  have c1 := c_debts σ 0 hE hm6
  have c2 := c_owedTo σ 0 hE hz hm
  have c4 := c_words σ 0 hE hz hm6 (Nat.le_refl _)
  rw [wc_self] at c0 c1 c2 c4
  have e50 : σ 50 (6 * 0 + m) 0 = mQ q m 0 := hE.tnb hm6
  have ha6 : f6_master (nI m) (nI k) σ = (if nI k = nI 0 then some (.inr (msV q m 0), σ) else if nI k = nI 1 then some (.inr (msV q m 1), σ) else if nI k = nI 2 then some (.inr (msV q m 2), σ) else if nI k = nI 3 then some (.inr (msV q m 3), σ) else if nI k = nI 4 then some (.inr (msV q m 4), σ) else
      if nI k = nI 5 then some (.inr (msV q m 5), σ) else if nI k = nI 6 then some (.inr (msV q m 6), σ) else if nI k = nI 7 then some (.inr (msV q m 7), σ) else if nI k = nI 8 then some (.inr (msV q m 8), σ) else if nI k = nI 9 then some (.inr (msV q m 9), σ) else if nI k = nI 10 then some (.inr (msV q m 10), σ) else some (.inl 0, σ)) := by
    unfold f6_master
    rw [p_yes h hm, bxR, gd_ib hm6 (by decide), clI (by omega)]
    simp only [lit]
    rw [c0, c1, c2, e50, c4, bdS, bdS, bdS, bdS, show σ 42 (6 * 0 + m) 0 = mQ q m 1 from hc 1 (by omega) (by omega), show σ 43 (6 * 0 + m) 0 = mQ q m 2 from hc 2 (by omega) (by omega), show σ 44 (6 * 0 + m) 0 = mQ q m 3 from hc 3 (by omega) (by omega), show σ 45 (6 * 0 + m) 0 = mQ q m 4 from hc 4 (by omega) (by omega), show σ 46 (6 * 0 + m) 0 = mQ q m 5 from hc 5 (by omega) (by omega), show σ 47 (6 * 0 + m) 0 = mQ q m 6 from hc 6 (by omega) (by omega)]
    rfl
  rw [ha6]
  have : k = 0 ∨ k = 1 ∨ k = 2 ∨ k = 3 ∨ k = 4 ∨ k = 5 ∨ k = 6 ∨ k = 7 ∨ k = 8 ∨ k = 9 ∨ k = 10 := by omega
  rcases this with rfl | rfl | rfl | rfl | rfl | rfl | rfl | rfl | rfl | rfl | rfl <;> simp (decide := true) only [↓reduceIte]
set_option maxHeartbeats 1000000 in
theorem a_burst (h : Bus q (cOf σ 0) T) {m j k : Nat} (hm : m < nM q) (hj : j < 2 ^ 31) (hk : k < 3) : ni (f6_burst (nI m) (nI j) (nI k) σ) = some (if j < nB q m then mQ q m (8 + 3 * j + k) else -9, σ) := by
  refine ni_of ?_
  obtain ⟨f, hE⟩ := h.1
  have hz := h.2.1.sz
  have hM := hz.M
  have hm6 : m < 6 := by omega
  have hB := hz.B hm6
  have e50 : σ 50 (6 * 0 + m) 0 = nI (nB q m) := (hE.tnb hm6).trans hB.1
  unfold f6_burst
  simp only [lit, nmS]
  rw [p_yes h hm, bxR, gd_ib hm6 (by decide), clI (show m < 2 ^ 31 by omega), if_neg (show ¬ nI j < nI 0 from nI_pos hj), if_neg (show ¬ nI k < nI 0 from nI_pos (by omega)), if_pos (show nI k ≤ nI 2 from nI_le (by omega) (by decide)), e50]
  by_cases e : nB q m ≤ j
  · rw [if_pos (nI_le e hj), if_neg (by omega)]
  · have hj6 : j < 6 := by omega
    have hbu := hE.bur hm6 (show j < nB q m by omega) hj6
    have hbu2 := h.2.1.burst m j hm6 (by omega)
    have b0 : σ 10 (6 * 0 + m) j = mQ q m (8 + 3 * j) := hbu.1
    have b1 : σ 11 (6 * 0 + m) j = mQ q m (9 + 3 * j) := hbu.2.1
    have b2 : σ 12 (6 * 0 + m) j = mQ q m (10 + 3 * j) := hbu.2.2
    rw [if_pos (show j < nB q m by omega), if_neg (nI_ge (by omega) (by omega)), if_pos (nI_lt hj6 (by decide)), gd_ib hj6 (by decide), gd_ib hj6 (by decide), gd_ib hj6 (by decide), clI hj, b0, b1, b2]
    have : k = 0 ∨ k = 1 ∨ k = 2 := by omega
    rcases this with rfl | rfl | rfl
    · rw [if_pos rfl]
      rfl
    · rw [if_neg (show ¬ nI 1 = nI 0 by decide), if_pos rfl, show 8 + 3 * j + 1 = 9 + 3 * j by omega]
    · rw [if_neg (show ¬ nI 2 = nI 0 by decide), if_neg (show ¬ nI 2 = nI 1 by decide), show 8 + 3 * j + 2 = 10 + 3 * j by omega]
      rcases hbu2.2.2 with z | z
      · rw [z, if_pos (show (0 : Int32) = nI 0 from rfl)]; rfl
      · rw [z, if_neg (show ¬ (1 : Int32) = nI 0 by decide)]; rfl
theorem firstN_s (p : Nat → Bool) (d : Nat) : ∀ n i, i + d = n → (∀ j, j < i → p j = false) → firstN p n = (match d with | 0 => none | e + 1 => if p i = true then some i else firstN p n)
  | n, i, h, hp => by
    match d, h with
    | 0, h =>
      obtain rfl : i = n := by omega
      exact firstN_no hp
    | e + 1, h =>
      by_cases z : p i = true
      · show _ = if p i = true then some i else _
        rw [if_pos z]
        exact firstN_is (by omega) z hp
      · show _ = if p i = true then some i else _
        rw [if_neg z]
theorem a_order (h : Bus q (cOf σ 0) T) {k : Nat} (hk : k < 100) : ni (f6_order (nI k) σ) = some (oN (firstN (fun i => decide (ahN q i (nM q) = k)) (nM q)), σ) := by
  refine ni_of ?_
  obtain ⟨f, hE⟩ := h.1
  have hz := h.2.1.sz
  have hM := hz.M
  have e30 : σ 30 0 0 = nI (nM q) := (hE.t0).trans hM.1
  have hah : ∀ i n, n ≤ 6 → ahN q i n ≤ n := by
    intro i n
    induction n with
    | zero => intro _; exact Nat.le_refl 0
    | succ n ih =>
      intro hn
      have := ih (by omega)
      unfold ahN
      split <;> omega
  have ca : ∀ i, i < nM q → f2_mastersAhead 0 (nI i) σ = some (nI (ahN q i (nM q)), σ) := fun i hi => by
    have := c_ahead σ 0 hE hz hi
    rw [wc_self] at this
    exact this
  unfold f6_order
  simp only [lit, nmS]
  rw [if_pos (show nI 0 ≤ nI k from nI_le (by omega) (by omega))]
  have hmain : ∀ d i n, i + d = nM q → d < n → (∀ j, j < i → decide (ahN q j (nM q) = k) = false) → f6_order_l16 (nI k) (fun s1 => some (.inr (-nI 9), s1)) n (nI i) σ = some (.inr (oN (firstN (fun i => decide (ahN q i (nM q) = k)) (nM q))), σ) := by
    intro d
    induction d with
    | zero =>
      intro i n h1 h2 h3
      obtain rfl : i = nM q := h1
      obtain ⟨z, rfl⟩ : ∃ z, n = z + 1 := ⟨n - 1, by omega⟩
      rw [f6_order_l16]
      simp only [lit]
      rw [e30, if_pos (nI_le (Nat.le_refl _) (by omega)), firstN_no h3]
      rfl
    | succ d ih =>
      intro i n h1 h2 h3
      obtain ⟨z, rfl⟩ : ∃ z, n = z + 1 := ⟨n - 1, by omega⟩
      have hle := hah i (nM q) hM.2.1
      rw [f6_order_l16]
      simp only [lit, nmS]
      rw [e30, if_neg (nI_ge (show i < nM q by omega) (by omega)), ca i (by omega), bdS, nI_add]
      by_cases e : ahN q i (nM q) = k
      · rw [if_pos (by rw [e]), firstN_is (k := i) (by omega) (decide_eq_true e) h3]
        rfl
      · rw [if_neg (fun y => e ((nI_eq (by omega) (by omega)).mp y))]
        refine ih (i + 1) z (by omega) (by omega) fun j hj => ?_
        by_cases ej : j = i
        · rw [ej]; exact decide_eq_false e
        · exact h3 j (by omega)
  exact hmain (nM q) 0 FU (by omega) (Nat.lt_of_le_of_lt hM.2.1 (by decide)) (fun j hj => absurd hj (Nat.not_lt_zero j))
end CALLQ
