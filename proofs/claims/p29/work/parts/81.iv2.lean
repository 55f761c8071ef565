/-! THE ROW BEHIND A TICK: the invariant -/
section IV2
variable {q r : QS} {T N Bd Ba Bw : Nat}
theorem usQ_keep (hz : Sz q) {m j : Nat} (hm : m < 6) (hj : 1 ≤ j) (hj2 : j < 6) : mQ (usQ q m) m j = mQ q m j := by
  show usQ q m (63 + 38 * m + j) = q (63 + 38 * m + j)
  have hA := hz.A hm
  unfold usQ
  cases hr : rdQ q m (nA q m) with
  | some a =>
    have := (firstN_some hr).1
    dsimp only
    rw [qs_ne _ _ (by omega), qs_ne _ _ (by omega), shQ_out _ (by omega)]
  | none =>
    dsimp only
    by_cases e : q (63 + 38 * m + 9) - 1 ≤ 0
    · rw [if_pos e, qs_ne _ _ (by omega), shQ_out _ (by omega)]
      by_cases e2 : q (63 + 38 * m + 10) = 1
      · rw [if_pos e2, qs_ne _ _ (by omega), qs_ne _ _ (by omega), qs_ne _ _ (by omega)]
      · rw [if_neg e2, qs_ne _ _ (by omega)]
    · rw [if_neg e, qs_ne _ _ (by omega)]
theorem usQ_m (hz : Sz q) {m x j : Nat} (hm : m < 6) (hx : x < 6) (hj : 1 ≤ j) (hj2 : j < 6) : mQ (usQ q m) x j = mQ q x j := by
  by_cases e : x = m
  · rw [e]; exact usQ_keep hz hm hj hj2
  · exact usQ_out hz hm (by omega)
theorem Wa.waits (h : Wa T q) (hT : T < 2 ^ 28) (p : Nat → Bool) (w : Option Nat) : ∀ n, n ≤ 6 → Wa (T + 1) (wtN q p w n)
  | 0, _ => h.mono (by omega)
  | n + 1, hn => by
    have ih := Wa.waits h hT p w n (by omega)
    show Wa (T + 1) (wt1 (wtN q p w n) p w n)
    have c1 : wtN q p w n (63 + 38 * n + 1) = q (63 + 38 * n + 1) := wtN_at q p w n fun m hm => ⟨by omega, by omega⟩
    have c2 : wtN q p w n (63 + 38 * n + 2) = q (63 + 38 * n + 2) := wtN_at q p w n fun m hm => ⟨by omega, by omega⟩
    generalize wtN q p w n = r at ih c1 c2
    intro m hm
    by_cases e : m = n
    · subst e
      obtain ⟨x, l, h1, h2, h3, h4⟩ := h m hm
      have h3' : r (63 + 38 * m + 1) = nI x := c1.trans h3
      have h4' : r (63 + 38 * m + 2) = nI l := c2.trans h4
      have hv : ∃ v, v ≤ x + 1 ∧ wtV r p w m = nI v := by
        unfold wtV
        by_cases z : p m = true ∧ w ≠ some m
        · rw [if_pos z, h3']; exact ⟨x + 1, Nat.le_refl _, nI_add x 1⟩
        · rw [if_neg z]; exact ⟨0, by omega, rfl⟩
      obtain ⟨v, hv1, hv2⟩ := hv
      have e1 : mQ (wt1 r p w m) m 1 = nI v := by
        show wt1 r p w m (63 + 38 * m + 1) = _
        unfold wt1
        rw [qs_ne _ _ (by omega), qs_same, hv2]
      have e2 : mQ (wt1 r p w m) m 2 = if nI v ≤ nI l then nI l else nI v := by
        show wt1 r p w m (63 + 38 * m + 2) = _
        unfold wt1
        rw [qs_same, hv2, h4']
      by_cases z : v ≤ l
      · rw [if_pos (nI_le z (by omega))] at e2
        exact ⟨v, l, z, by omega, e1, e2⟩
      · rw [if_neg (nI_ge (by omega) (by omega))] at e2
        exact ⟨v, v, Nat.le_refl _, by omega, e1, e2⟩
    · obtain ⟨x, l, h1, h2, h3, h4⟩ := ih m hm
      refine ⟨x, l, h1, h2, ?_, ?_⟩
      · rw [← h3]
        show wt1 r p w n (63 + 38 * m + 1) = r (63 + 38 * m + 1)
        unfold wt1
        rw [qs_ne _ _ (by omega), qs_ne _ _ (by omega)]
      · rw [← h4]
        show wt1 r p w n (63 + 38 * m + 2) = r (63 + 38 * m + 2)
        unfold wt1
        rw [qs_ne _ _ (by omega), qs_ne _ _ (by omega)]
theorem wtN_m (p : Nat → Bool) (w : Option Nat) {m j : Nat} (hj : j < 38) (h1 : j ≠ 1) (h2 : j ≠ 2) (n : Nat) : mQ (wtN q p w n) m j = mQ q m j := wtN_at q p w n fun x hx => ⟨by omega, by omega⟩
theorem wtN_lo (p : Nat → Bool) (w : Option Nat) {i : Nat} (hi : i < 63) (n : Nat) : wtN q p w n i = q i := wtN_at q p w n fun x hx => ⟨by omega, by omega⟩
theorem Nul.pos (h : Bk q) (hw : Wb Bd Ba Bw q) {a b : Nat} (ha : a < 6) (hb : b < 6) (hp : 0 < owQ q a b) : bkQ q a = false ∧ bkQ q b = false ∧ a ≠ b := by
  have h0 : ¬ (0 : Int32) < 0 := by decide
  refine ⟨?_, ?_, fun e => ?_⟩
  · cases z : bkQ q a with
    | false => rfl
    | true => rw [((h.2 a ha z).2.1 b hb).1] at hp; exact absurd hp h0
  · cases z : bkQ q b with
    | false => rfl
    | true => rw [((h.2 b hb z).2.1 a ha).2] at hp; exact absurd hp h0
  · rw [e, h.1 b hb] at hp; exact absurd hp h0
/-- a master breaks -/
theorem Bk.break (h : Bk q) (hw : Wb Bd Ba Bw q) (hB : Bd < 2 ^ 31) {m : Nat} (hm : m < nM q) (hd : ¬ dbQ q m ≤ nI 4 * slQ q (nS q) m) : Bk (brQ q m) := by
  have hM := hw.sz.M
  have hS := hw.sz.S
  have hm6 : m < 6 := by omega
  obtain ⟨p, hp⟩ := hw.bank
  have hpos := hd_pos hw hB hm hd
  have hto := bestN_may hpos
  rw [Bool.and_true] at hto
  have hto := of_decide_eq_true hto
  have htoM := bestN_lt hpos
  have hnp := Nul.pos h hw hm6 (by omega) hto
  have hn1 : nI (hdQ q m (nM q - 1)) ≠ nI m := fun z => hnp.2.2 ((nI_eq (by omega) (by omega)).mp z).symm
  have hn2 : ∀ x, x < 6 → bkQ q x = true → nI (hdQ q m (nM q - 1)) ≠ nI x := fun x hx hb z => by
    have e := (nI_eq (by omega) (by omega)).mp z
    rw [← e, hnp.2.1] at hb
    cases hb
  have eS : nS (brQ q m) = nS q := nS_of (brQ_out q m (by omega))
  have e6 : ∀ x, x < 6 → bkQ (brQ q m) x = (bkQ q x || decide (x = m)) := fun x hx => bkQ_br hp hM.2.1 hm hx (by unfold brQ; exact qs_same _ _ _)
  refine ⟨fun x hx => ?_, fun x hx hb => ?_⟩
  · rw [brQ_ow q hS.2.1 hm6 hx hx]
    by_cases z : x = m ∨ x = m
    · rw [if_pos z]
    · rw [if_neg z]; exact h.1 x hx
  · rw [e6 x hx, Bool.or_eq_true] at hb
    have hz0 := brQ_0 q hm6
    by_cases e : x = m
    · subst e
      refine ⟨fun s hs => ?_, fun b hb6 => ⟨?_, ?_⟩, ?_, ?_⟩
      · rw [eS] at hs
        rw [brQ_own q hS.2.1 hs]
        by_cases z : q (11 + s) = nI x
        · rw [if_pos z]
          exact hn1
        · rw [if_neg z]; exact z
      · rw [brQ_ow q hS.2.1 hm6 hx hb6, if_pos (Or.inl rfl)]
      · rw [brQ_ow q hS.2.1 hm6 hb6 hx, if_pos (Or.inr rfl)]
      · show brQ q x (63 + 38 * x + 0) = 0
        unfold brQ
        rw [qs_ne _ _ (by omega), qs_ne _ _ (by omega), qs_same]
      · show brQ q x (63 + 38 * x + 7) = 0
        unfold brQ
        rw [qs_ne _ _ (by omega), qs_same]
    · have hbx : bkQ q x = true := hb.resolve_right (fun z => e (of_decide_eq_true z))
      obtain ⟨g1, g2, g3, g4⟩ := h.2 x hx hbx
      refine ⟨fun s hs => ?_, fun b hb6 => ⟨?_, ?_⟩, ?_, ?_⟩
      · rw [eS] at hs
        rw [brQ_own q hS.2.1 hs]
        by_cases z : q (11 + s) = nI m
        · rw [if_pos z]
          exact hn2 x hx hbx
        · rw [if_neg z]; exact g1 s hs
      · rw [brQ_ow q hS.2.1 hm6 hx hb6]
        by_cases z : x = m ∨ b = m
        · rw [if_pos z]
        · rw [if_neg z]; exact (g2 b hb6).1
      · rw [brQ_ow q hS.2.1 hm6 hb6 hx]
        by_cases z : b = m ∨ x = m
        · rw [if_pos z]
        · rw [if_neg z]; exact (g2 b hb6).2
      · rw [brQ_m q hS.2.1 hx (by omega) (fun z => e z.1)]; exact g3
      · rw [brQ_m q hS.2.1 hx (by omega) (fun z => e z.1)]; exact g4
theorem Iv.bks (hA : Ac N r) (hW : Wa T r) (hB : Bk r) (hw : Wb Bd Ba Bw r) (hBd : Bd < 2 ^ 28) : ∀ n, n ≤ nM r → (Ac N (bkN r n) ∧ Wa T (bkN r n) ∧ Bk (bkN r n)) ∧ ∀ m j, m < 6 → j < 38 → bkQ (bkN r n) m = false → bkQ r m = false ∧ mQ (bkN r n) m j = mQ r m j
  | 0, _ => ⟨⟨hA, hW, hB⟩, fun _ _ _ _ hb => ⟨hb, rfl⟩⟩
  | n + 1, hn => by
    obtain ⟨⟨i1, i2, i3⟩, i4⟩ := Iv.bks hA hW hB hw hBd n (by omega)
    obtain ⟨hu, e0⟩ := hw.bks n (by omega)
    have hM := hw.sz.M
    have eM : nM (bkN r n) = nM r := nM_of e0
    show (Ac N (bkN r (n + 1)) ∧ Wa T (bkN r (n + 1)) ∧ Bk (bkN r (n + 1))) ∧ ∀ m j, m < 6 → j < 38 → bkQ (bkN r (n + 1)) m = false → bkQ r m = false ∧ mQ (bkN r (n + 1)) m j = mQ r m j
    by_cases z : bkQ (bkN r n) n = false ∧ ¬ dbQ (bkN r n) n ≤ nI 4 * slQ (bkN r n) (nS (bkN r n)) n
    · have eN : bkN r (n + 1) = brQ (bkN r n) n := if_pos z
      rw [eN]
      generalize bkN r n = u at i1 i2 i3 i4 hu eM z
      have hS := hu.sz.S
      obtain ⟨p, hp⟩ := hu.bank
      have e6 : ∀ x, x < 6 → bkQ (brQ u n) x = (bkQ u x || decide (x = n)) := fun x hx => bkQ_br hp (by omega) (by omega) hx (by unfold brQ; exact qs_same _ _ _)
      refine ⟨⟨i1.fr (fun m j hm h1 h2 => brQ_m u hS.2.1 hm (by omega) (fun z => by omega)) (brQ_out u n (by omega)) (fun a b ha hb => ?_), i2.fr (fun m j hm h1 h2 => brQ_m u hS.2.1 hm (by omega) (fun z => by omega)), i3.break hu (by omega) (by omega) z.2⟩, fun m j hm hj hb => ?_⟩
      · rw [brQ_ow u hS.2.1 (by omega) ha hb]
        by_cases y : a = n ∨ b = n
        · rw [if_pos y]; exact Nat.zero_le _
        · rw [if_neg y]; exact Nat.le_refl _
      · rw [e6 m hm, Bool.or_eq_false_iff] at hb
        have hne := of_decide_eq_false hb.2
        have := i4 m j hm hj hb.1
        exact ⟨this.1, (brQ_m u hS.2.1 hm hj (fun z => hne z.1)).trans this.2⟩
    · have eN : bkN r (n + 1) = bkN r n := if_neg z
      rw [eN]
      exact ⟨⟨i1, i2, i3⟩, i4⟩
/-- the invariant behind a tick; what a master that isn't bankrupt then has of it -/
theorem Iv.tick (h : Iv T q) (hw : Wb T T T q) (hT : q 2 = nI T) (hT2 : T < 2 ^ 27) : Iv (T + 1) (tkQ q) ∧ ∀ m j, m < 6 → j < 38 → bkQ (tkQ q) m = false → (j = 0 ∨ 6 ≤ j) → bkQ q m = false ∧ mQ (tkQ q) m j = mQ (tk2 q) m j := by
  obtain ⟨hA, hW, hB, hC⟩ := h
  have ht := hw.tick hT (by omega)
  have hz := hw.sz
  have hM := hz.M
  have ho := ownT_is hw hT (by omega)
  have ho6 : ownT q < 6 := by omega
  -- a turn
  have A1 : Ac (T + if (tk1 q).1 = none then 0 else 1) (tk1 q).2 := hA.turn hw (by omega) ho.1 (busyQ q) (by cases busyQ q (ownT q) <;> simp)
  have L1 : ∀ i, i < 27 ∨ (63 ≤ i ∧ ¬ ∃ m j, m < 6 ∧ 3 ≤ j ∧ j < 6 ∧ i = 63 + 38 * m + j) → (tk1 q).2 i = q i := turnQ_st hz ho6 (busyQ q)
  have M1 : ∀ m j, m < 6 → (j < 3 ∨ 6 ≤ j) → j < 38 → mQ (tk1 q).2 m j = mQ q m j := fun m j hm hj hj2 => turn_m hz ho6 (busyQ q) hm hj hj2
  have W1 : Wa T (tk1 q).2 := hW.fr fun m j hm h1 h2 => M1 m j hm (Or.inl h2) (by omega)
  have B1 : Bk (tk1 q).2 := by
    refine hB.fr (L1 6 (by omega)) (L1 1 (by omega)) (fun s hs => L1 (11 + s) (by have := hz.S; omega)) (fun a b ha hb h0 h00 => ?_) (fun m hm _ => ⟨M1 m 0 hm (by omega) (by omega), M1 m 7 hm (by omega) (by omega)⟩)
    show (turnQ q (ownT q) (busyQ q)).2 (27 + 6 * a + b) = 0
    unfold turnQ
    cases hc : crQ q (ownT q) (busyQ q) with
    | some c =>
      have hcM := bestN_lt hc
      have hmay := bestN_may hc
      rw [Bool.and_eq_true] at hmay
      have hpos := of_decide_eq_true hmay.1
      dsimp only
      rw [qs_ne _ _ (by omega)]
      by_cases e : a = ownT q ∧ b = c
      · rw [← e.1, ← e.2, h0] at hpos
        exact absurd hpos (by decide)
      · rw [qs_ne _ _ (by omega)]; exact h0
    | none =>
      dsimp only
      by_cases e : busyQ q (ownT q) = true
      · rw [if_pos e]
        dsimp only
        rw [qs_ne _ _ (by omega)]; exact h0
      · rw [if_neg e]
        cases hb2 : boQ q (busyQ q) with
        | none => exact h0
        | some m =>
          have hmM := bestN_lt hb2
          have hmay := bestN_may hb2
          rw [Bool.and_eq_true, Bool.and_eq_true] at hmay
          dsimp only
          rw [qs_ne _ _ (by omega)]
          by_cases e2 : a = m ∧ b = ownT q
          · exfalso
            rcases h00 with z | z | z
            · apply e
              rw [← e2.2, ← z, e2.1]
              exact hmay.1.1
            · rw [e2.1] at z
              rw [z] at hmay
              exact absurd hmay.1.2 (by decide)
            · rw [e2.2] at z
              have hS := hz.S
              exact (hB.2 _ ho6 z).1 (T % nS q) (Nat.mod_lt _ (by omega)) ho.2
          · rw [qs_ne _ _ (by omega)]; exact h0
  have e6 : bkQ (tk1 q).2 = bkQ q := funext fun m => bkQ_of (L1 6 (by omega)) m
  -- the turn is used
  have S2 : Ac (T + if (tk1 q).1 = none then 0 else 1) (tk2 q) ∧ Wa T (tk2 q) ∧ Bk (tk2 q) ∧ ∀ m, bkQ (tk2 q) m = bkQ q m := by
    unfold tk2
    cases hk : (tk1 q).1 with
    | none =>
      rw [hk] at A1
      exact ⟨A1, W1, B1, fun m => congrFun e6 m⟩
    | some w =>
      rw [hk] at A1
      have hwho := ht.who w hk
      have hw6 : w < 6 := by omega
      have hz1 := ht.wb1.sz
      dsimp only
      generalize (tk1 q).2 = u at A1 W1 B1 e6 hz1
      have out : ∀ i, i < 63 → usQ u w i = u i := fun i hi => usQ_out hz1 hw6 (by omega)
      refine ⟨A1.fr (fun m j hm h1 h2 => usQ_m hz1 hw6 hm (by omega) h2) (out 3 (by omega)) (fun a b ha hb => ?_), W1.fr (fun m j hm h1 h2 => usQ_m hz1 hw6 hm h1 (by omega)), B1.fr (out 6 (by omega)) (out 1 (by omega)) (fun s hs => out (11 + s) (by have := hz1.S; omega)) (fun a b ha hb h0 _ => (out _ (by omega)).trans h0) (fun x hx hb => ?_), fun m => (bkQ_of (out 6 (by omega)) m).trans (congrFun e6 m)⟩
      · rw [show owQ (usQ u w) a b = owQ u a b from out _ (by omega)]
        exact Nat.le_refl _
      · have hne : x ≠ w := fun e => by
          rw [e6, e] at hb
          have hN := hB.2 w hw6 hb
          have hbz := hwho.2
          unfold busyQ at hbz
          rw [hN.2.2.1] at hbz
          have hnA : nA q w = 0 := by
            show (mQ q w 7).toNatClampNeg = 0
            rw [hN.2.2.2]; decide
          rw [hnA] at hbz
          exact absurd hbz (by unfold rdQ firstN; decide)
        exact ⟨usQ_out hz1 hw6 (by omega), usQ_out hz1 hw6 (by omega)⟩
  obtain ⟨A2, W2, B2, e2⟩ := S2
  have hout := fun i hi => tk4_out (i := i) hw hT (by omega) hi
  -- waits
  have A3 : Ac (T + if (tk1 q).1 = none then 0 else 1) (tk3 q) := A2.fr (fun m j hm h1 h2 => wtN_m _ _ (by omega) (by omega) (by omega) _) (wtN_lo _ _ (by omega) _) (fun a b ha hb => by
    rw [show owQ (tk3 q) a b = owQ (tk2 q) a b from wtN_lo _ _ (by omega) _]
    exact Nat.le_refl _)
  have W3 : Wa (T + 1) (tk3 q) := W2.waits (by omega) _ _ _ hM.2.1
  have B3 : Bk (tk3 q) := B2.fr (wtN_lo _ _ (by omega) _) (wtN_lo _ _ (by omega) _) (fun s hs => wtN_lo _ _ (by have := ht.wb2.sz.S; omega) _) (fun a b ha hb h0 _ => (wtN_lo _ _ (by omega) _).trans h0) (fun m hm _ => ⟨wtN_m _ _ (by omega) (by omega) (by omega) _, wtN_m _ _ (by omega) (by omega) (by omega) _⟩)
  have e3 : ∀ m, bkQ (tk3 q) m = bkQ q m := fun m => (bkQ_of (wtN_lo _ _ (by omega) _) m).trans (e2 m)
  have eM3 : nM (tk3 q) = nM q := nM_of (hout 0 (by omega)).2.1
  -- bankruptcies
  obtain ⟨⟨A4, W4, B4⟩, k4⟩ := Iv.bks A3 W3 B3 ht.wb3 (by omega) (nM q) (by omega)
  have o4 : ∀ i, i ≠ 2 → i ≠ 3 → i ≠ 5 → tkQ q i = tk4 q i := fun i h2 h3 h5 => by
    unfold tkQ
    rw [qs_ne _ _ h2, qs_ne _ _ h5, qs_ne _ _ h3]
  have t3 : tkQ q 3 = tk4 q 3 + nI (if (tk1 q).1 = none then 1 else 0) := by
    unfold tkQ
    rw [qs_ne _ _ (by omega), qs_ne _ _ (by omega), qs_same]
    by_cases e : (tk1 q).1 = none
    · rw [if_pos e, if_pos e]; rfl
    · rw [if_neg e, if_neg e]; rfl
  have A5 : Ac (T + (if (tk1 q).1 = none then 0 else 1) + (if (tk1 q).1 = none then 1 else 0)) (tkQ q) := Ac.idle (q := tk4 q) A4 (fun m j hm h1 h2 => o4 _ (by omega) (by omega) (by omega)) t3 (fun a b ha hb => o4 _ (by omega) (by omega) (by omega))
  have eT : T + (if (tk1 q).1 = none then 0 else 1) + (if (tk1 q).1 = none then 1 else 0) = T + 1 := by
    by_cases e : (tk1 q).1 = none
    · rw [if_pos e, if_pos e]
    · rw [if_neg e, if_neg e]
  rw [eT] at A5
  have hS4 := ht.wb.sz.S
  refine ⟨⟨A5, Wa.fr (q := tk4 q) W4 fun m j hm h1 h2 => o4 _ (by omega) (by omega) (by omega), Bk.fr (q := tk4 q) B4 (o4 6 (by omega) (by omega) (by omega)) (o4 1 (by omega) (by omega) (by omega)) (fun s hs => o4 _ (by omega) (by omega) (by omega)) (fun a b ha hb h0 _ => (o4 _ (by omega) (by omega) (by omega)).trans h0) (fun m hm _ => ⟨o4 _ (by omega) (by omega) (by omega), o4 _ (by omega) (by omega) (by omega)⟩), ?_⟩, fun m j hm hj hb h0 => ?_⟩
  · obtain ⟨k, hk1, hk2⟩ := hC
    exact ⟨k, hk1, (ht.out 4 (by omega)).trans hk2⟩
  · rw [bkQ_of (o4 6 (by omega) (by omega) (by omega))] at hb
    obtain ⟨g1, g2⟩ := k4 m j hm hj hb
    refine ⟨(e3 m).symm.trans g1, ?_⟩
    rw [show mQ (tkQ q) m j = mQ (tk4 q) m j from o4 _ (by omega) (by omega) (by omega)]
    exact g2.trans (wtN_m _ _ (by omega) (by omega) (by omega) _)
end IV2
