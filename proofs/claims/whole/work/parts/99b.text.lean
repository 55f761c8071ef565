/-! append, clearText, errorPosition, load -/
section TEXTC
variable {x : Nat → Nat} {L : Nat} {σ ρ : Mem} {q r : QS} {T B : Nat} {c : Mem}
/-- all but the trial and the reader's own numbers is as it was -/
def Kc (σ σ' : Mem) : Prop := ∀ k o i, k ≠ 55 → k ≠ 56 → ¬ (isB k = true ∧ o = 15) → ¬ (isM k = true ∧ o / 6 = 15) → σ' k o i = σ k o i
theorem kc_rS (σ c : Mem) (p : Nat) (b : Bool) : Kc σ (rS σ c p b) := fun k o i h1 h2 h3 h4 => by
  unfold rS wc
  by_cases e : isB k = true
  · rw [if_pos e, if_neg (fun z => h3 ⟨e, z⟩), tS_out _ _ _ _ _ ⟨h1, h2⟩]
  · rw [if_neg e]
    by_cases e2 : isM k = true
    · rw [if_pos e2, if_neg (fun z => h4 ⟨e2, z⟩), tS_out _ _ _ _ _ ⟨h1, h2⟩]
    · rw [if_neg e2, tS_out _ _ _ _ _ ⟨h1, h2⟩]
set_option maxHeartbeats 1000000 in
theorem both (h : TxC σ x L) {ρ1 : Mem} {q1 : QS} (h1 : TxM ρ1 x L) {ρ2 : Mem} {q2 : QS} (h2 : TxM ρ2 x L) : ∃ (ok : Bool) (p' : Nat) (s1 : Mem), p' < 200 ∧ f3_readInto 15 σ = some (if ok = true then -nI 9 else nI p', s1) ∧ s1 55 0 0 = nI p' ∧ s1 56 0 0 = bI (!ok) ∧ Kc σ s1 ∧
    (∃ ρa va, f7_reads (bI false) (wq ρ1 q1) = some (bI ok, xS ρa q1 p' va) ∧ Kr ρ1 ρa) ∧ (ok = true → ∃ ρb qb vb, f7_reads (bI true) (wq ρ2 q2) = some (bI true, xS ρb qb p' vb) ∧ Kr ρ2 ρb ∧ Bus qb (cOf s1 15) 0) := by
  have hL := h.1
  have hF : 500 < FU := by decide
  have hs0 : ms (ms σ 55 0 0 0) 56 0 0 0 = rS σ (cOf (tS σ 0 false) 15) 0 false := by
    unfold rS
    rw [wc_self]; rfl
  generalize cOf (tS σ 0 false) 15 = c0 at hs0
  obtain ⟨r2, r3, hh, hh2⟩ := c_head h c0
  have hin : f3_readInto 15 σ = (if (rS σ c0 (hdr x L).1 (hdr x L).2.isNone) 56 0 0 = 0 then bv (f2_makeNew 15 r2 r3 (rS σ c0 (hdr x L).1 (hdr x L).2.isNone)) (fun s10 => f3_readInto_l51 15 (fun s7 => if (s7 56 0 0) = (0 : Int32) then some ((-9 : Int32), s7) else some (s7 55 0 0, s7)) FU 0 s10) else f3_readInto_l51 15 (fun s7 => if (s7 56 0 0) = (0 : Int32) then some ((-9 : Int32), s7) else some (s7 55 0 0, s7)) FU 0 (rS σ c0 (hdr x L).1 (hdr x L).2.isNone)) := by
    unfold f3_readInto
    rw [nmS, nmS, hs0]
    exact hh (fun r2 r3 s5 => nm (fun (s6 : Mem) => nm (fun (s7 : Mem) => (if (s7 56 0 0) = (0 : Int32) then some ((-9 : Int32), s7) else some (s7 55 0 0, s7))) fun k1 => f3_readInto_l51 15 k1 FU (0 : Int32) s6) fun j1 => (if (s5 56 0 0) = (0 : Int32) then bv (f2_makeNew 15 r2 r3 s5) fun s10 => j1 s10 else j1 s5))
  obtain ⟨ρx, vx, x1, x2, x3, x4⟩ := m_head h1 q1 false
  obtain ⟨ρy, vy, y1, y2, y3, y4⟩ := m_head h2 q2 true
  cases hd : (hdr x L).2 with
  | none =>
    have hp := hdr_p (x := x) (L := L)
    rw [hd] at hin
    refine ⟨false, (hdr x L).1, rS σ c0 (hdr x L).1 true, by omega, ?_, rS_55 _ _ _ _, rS_56 _ _ _ _, kc_rS _ _ _ _, ⟨ρx, vx, x3 hd, x1⟩, fun z => (nomatch z)⟩
    rw [hin, rS_56, if_neg (show ¬ bI (none : Option (Nat × Nat)).isNone = 0 by decide)]
    obtain ⟨n, hn⟩ : ∃ n, FU = n + 1 := ⟨5999, rfl⟩
    rw [hn, f3_readInto_l51]
    simp only [lit]
    rw [if_neg (show ¬ nI 120 ≤ nI 0 by decide), rS_56, if_neg (show ¬ bI (none : Option (Nat × Nat)).isNone = nI 0 by decide), if_neg (show ¬ bI (none : Option (Nat × Nat)).isNone = nI 0 by decide), rS_55]
    rfl
  | some MS =>
    obtain ⟨M, S⟩ := MS
    obtain ⟨⟨m1, m2⟩, ⟨s1, s2⟩, hp4, hL4⟩ := hdr_ok hd
    obtain ⟨rfl, rfl⟩ := hh2 M S hd
    obtain ⟨x5, x6, x7⟩ := x4 M S hd
    obtain ⟨y5, y6, y7⟩ := y4 M S hd
    rw [if_neg (fun z => nomatch z)] at x7
    rw [if_pos rfl] at y7
    rw [hd, hp4] at hin
    obtain ⟨c1, k1, k2⟩ := c_makeNew (tS σ 4 false) 15 c0 m1 m2 s1 s2
    have hmk : f2_makeNew 15 (nI M) (nI S) (rS σ c0 4 (some (M, S)).isNone) = some (rS σ c1 4 false) := k1
    rw [rS_56, if_pos (show bI (some (M, S)).isNone = 0 from rfl), hmk, bvS] at hin
    obtain ⟨r0, a1, a2⟩ := m_anew (uS ρy 4 vy) q2 m1 m2 s1 s2
    have hb0 : Bus r0 c1 0 := k2.rows a2
    obtain ⟨-, n1, n2⟩ := anQ_wb m1 m2 s1 s2
    have eM : nM r0 = M := (nM_of (a2 0 (by omega))).trans n1
    have eS : nS r0 = S := (nS_of (a2 1 (by omega))).trans n2
    have eB : ∀ j, j < 6 → (0 : Int32) = nI (nB r0 j) := fun j hj => by
      have : nB r0 j = 0 := by
        unfold nB
        rw [show mQ r0 j 0 = 0 from (a2 _ (by omega)).trans (anQ_0 M S (by omega) (by omega))]; rfl
      rw [this]; rfl
    obtain ⟨ok, p', c', r', i1, i2, i3, i4⟩ := loops h (fun s7 => if (s7 56 0 0) = (0 : Int32) then some ((-9 : Int32), s7) else some (s7 55 0 0, s7)) (fun y3 s9 => gd (zok y3) (some (y3, s9))) (L - 4) 4 0 c1 r0 (by omega) (by omega) hb0
    have i3 := i3 FU (by omega)
    refine ⟨ok, p', rS σ c' p' (!ok), i1, ?_, rS_55 _ _ _ _, rS_56 _ _ _ _, kc_rS _ _ _ _, ?_, fun hok => ?_⟩
    · rw [hin]
      refine i3.trans ?_
      rw [rS_56, rS_55]
      cases ok with
      | true => rw [if_pos (show bI (!true) = 0 from rfl), if_pos rfl]; rfl
      | false => rw [if_neg (show ¬ bI (!false) = 0 by decide), if_neg (fun z => nomatch z)]
    · have hx : TxM ρx x L := ⟨h1.1, (x1 61 0 0 (by decide) (by decide)).trans h1.2.1, fun i hi => ⟨(h1.2.2 i hi).1, (x1 24 0 i (by decide) (by decide)).trans (h1.2.2 i hi).2⟩⟩
      obtain ⟨ρa, va, qa, j1, j2, j3, j4⟩ := i4 false ρx q1 vx FU (by omega) ⟨hx, by rw [eM]; exact x5, by rw [eS]; exact x6, fun j hj => (x2 j hj).trans (eB j hj)⟩ (fun z => (nomatch z))
      have j4 := j4 rfl
      subst j4
      refine ⟨ρa, va, ?_, fun k o i w1 w2 => (j2 k o i w1).trans (x1 k o i w1 w2)⟩
      rw [x7]
      refine j1.trans ?_
      rw [gdI (zok_b ok)]
    · have hy : TxM ρy x L := ⟨h2.1, (y1 61 0 0 (by decide) (by decide)).trans h2.2.1, fun i hi => ⟨(h2.2.2 i hi).1, (y1 24 0 i (by decide) (by decide)).trans (h2.2.2 i hi).2⟩⟩
      obtain ⟨ρb, vb, qb, j1, j2, j3, j4⟩ := i4 true ρy r0 vy FU (by omega) ⟨hy, by rw [eM]; exact y5, by rw [eS]; exact y6, fun j hj => (y2 j hj).trans (eB j hj)⟩ (fun _ => rfl)
      have j3 := j3 hok rfl
      refine ⟨ρb, qb, vb, ?_, fun k o i w1 w2 => (j2 k o i w1).trans (y1 k o i w1 w2), ?_⟩
      · rw [y7, show f7_anew (nI M) (nI S) (xS ρy q2 4 vy) = some (xS ρy r0 4 vy) from a1, bvS]
        refine j1.trans ?_
        rw [gdI (zok_b ok), hok]
      · rw [j3]
        exact (i2 hok).put (tS σ p' (!ok))
theorem inv_keep {σ2 : Mem} (h : Inv σ B) (k : Keep σ σ2) (e : ∀ k i, isB k = true → σ2 k 0 i = σ k 0 i) (e2 : ∀ k o i, isB k = false → isM k = true → o < 6 → σ2 k (6 * 0 + o) i = σ k (6 * 0 + o) i) (er : ∀ j, j < 291 → σ2 20 0 j = σ 20 0 j) {B2 : Nat} (hB : B ≤ B2) : Inv σ2 B2 := by
  obtain ⟨⟨T, hT, hp⟩, hr⟩ := h
  exact ⟨⟨T, by omega, Bus.rows (q := σ 20 0) (hp.mv0 e e2) er⟩, hr.keep k hB⟩
/-- the text as numbers -/
theorem Text.tx (h : Text σ) : ∃ x L, TxC σ x L ∧ TxM σ x L := by
  obtain ⟨L, h1, h2, h3, h4⟩ := h
  have hx : ∀ i, i < L → (σ 2 0 i).toNatClampNeg ≤ 255 ∧ σ 2 0 i = nI (σ 2 0 i).toNatClampNeg ∧ σ 24 0 i = nI (σ 2 0 i).toNatClampNeg := fun i hi => by
    obtain ⟨y, g1, g2, g3⟩ := h4 i hi
    rw [g2, g3, clI (by omega)]
    exact ⟨g1, rfl, rfl⟩
  exact ⟨fun i => (σ 2 0 i).toNatClampNeg, L, ⟨h1, h2, fun i hi => ⟨(hx i hi).1, (hx i hi).2.1⟩⟩, ⟨h1, h3, fun i hi => ⟨(hx i hi).1, (hx i hi).2.2⟩⟩⟩
theorem TxM.mv {ρ' : Mem} (h : TxM ρ x L) (e : ρ' 61 0 0 = ρ 61 0 0) (e2 : ∀ i, ρ' 24 0 i = ρ 24 0 i) : TxM ρ' x L := ⟨h.1, e.trans h.2.1, fun i hi => ⟨(h.2.2 i hi).1, (e2 i).trans (h.2.2 i hi).2⟩⟩
theorem kc_keep {σ' : Mem} (h : Kc σ σ') : Keep σ σ' := fun k o i hc => by
  by_cases e1 : k = 55
  · exact absurd (by rw [e1]; exact ch_55 o) hc
  · by_cases e2 : k = 56
    · exact absurd (by rw [e2]; exact ch_56 o) hc
    · refine h k o i e1 e2 (fun z => hc (ch_b z.1 (by omega))) (fun z => ?_)
      cases hb : isB k with
      | true =>
        have := isB_is hb
        have := isM_is z.1
        omega
      | false => exact hc (ch_m hb z.1 (by omega))
theorem keep_xS (ρ : Mem) (q : QS) (p : Nat) (v : Int32) : Keep ρ (xS ρ q p v) := fun k o i hc => by
  refine xS_o _ _ _ _ _ _ ⟨fun z => ?_, fun z => ?_, fun z => ?_⟩
  · exact hc (by rw [z]; exact ch_t (by omega) (by omega) o)
  · exact hc (by rw [z]; exact ch_t (by omega) (by omega) o)
  · exact hc (by rw [z]; exact ch_20 o)
theorem kr_keep {ρ' : Mem} (h : Kr ρ ρ') : Keep ρ ρ' := fun k o i hc => h k o i (fun z => hc (by rw [z]; exact ch_25 o)) (fun z => hc (ch_t (by omega) (by omega) o))
theorem g_errorPosition : GoodI f6_errorPosition f7_errorPosition := by
  intro σ B h hB
  obtain ⟨x, L, t1, t2⟩ := h.2.2.2.tx
  obtain ⟨ok0, p0, s1, b1, b2, b3, b4, b5, -, -⟩ := both t1 (q1 := σ 20 0) t2 (q2 := σ 20 0) t2
  have hrow : ms s1 62 0 0 (nI 0) 20 0 = σ 20 0 := by
    funext i
    rw [ms_ne _ _ (by omega), b5 20 0 i (by decide) (by decide) (fun z => by cases z.1) (fun z => by cases z.1)]
  have t3 : TxM (ms s1 62 0 0 (nI 0)) x L := t2.mv (by rw [ms_ne _ _ (by omega), b5 61 0 0 (by decide) (by decide) (fun z => by cases z.1) (fun z => by cases z.1)]) (fun i => by rw [ms_ne _ _ (by omega), b5 24 0 i (by decide) (by decide) (fun z => by cases z.1) (fun z => by cases z.1)])
  obtain ⟨ok, p', s2, d1, d2, d3, d4, d5, ⟨ρa, va, d6, d7⟩, -⟩ := both t1 (q1 := σ 20 0) t3 (q2 := σ 20 0) t2
  have hs := d2.symm.trans b2
  obtain ⟨-, hs⟩ := Prod.mk.inj (Option.some.inj hs)
  subst hs
  rw [wq_of hrow] at d6
  refine ⟨if ok = true then -nI 9 else nI p', s2, xS ρa (σ 20 0) p' va, ?_, ?_, ?_⟩
  · unfold f6_errorPosition
    rw [d2, bdS]
  · unfold f7_errorPosition
    simp only [lit, nmS]
    rw [show f7_reads (nI 0) (ms s2 62 0 0 (nI 0)) = some (bI ok, xS ρa (σ 20 0) p' va) from d6, bdS]
    cases ok with
    | true => rw [if_neg (show ¬ bI true = nI 0 by decide), if_pos rfl]
    | false => rw [if_pos (show bI false = nI 0 from rfl), if_neg (fun z => nomatch z), xS_63]
  · refine inv_keep h ((kc_keep d5).trans ((keep_ms _ 0 _ (ch_t (by omega) (by omega) 0)).trans ((kr_keep d7).trans (keep_xS _ _ _ _)))) (fun k i hk => ?_) (fun k o i hk hk2 ho => ?_) (fun j _ => xS_20 _ _ _ _ _) (by omega)
    · have := isB_is hk
      rw [xS_o _ _ _ _ _ _ (by omega), d7 k 0 i (by omega) (by omega), ms_ne _ _ (by omega), d5 k 0 i (by omega) (by omega) (fun z => by omega) (fun z => by omega)]
    · have := isM_is hk2
      rw [xS_o _ _ _ _ _ _ (by omega), d7 k _ i (by omega) (by omega), ms_ne _ _ (by omega), d5 k _ i (by omega) (by omega) (fun z => by rw [hk] at z; cases z.1) (fun z => by omega)]
end TEXTC
