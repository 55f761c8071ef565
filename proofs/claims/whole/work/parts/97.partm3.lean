/-! PARTS OF A TEXT, read by the reference: bursts, all parts -/
section PARTM3
variable {x : Nat → Nat} {L : Nat} {ρ : Mem} {q r : QS} {T : Nat} {c : Mem}
theorem TxM.out (h : TxM ρ x L) {ρ' : Mem} (e : ∀ k o i, k ≠ 25 → ρ' k o i = ρ k o i) : TxM ρ' x L := ⟨h.1, (e 61 0 0 (by decide)).trans h.2.1, fun i hi => ⟨(h.2.2 i hi).1, (e 24 0 i (by decide)).trans (h.2.2 i hi).2⟩⟩
set_option maxHeartbeats 2000000 in
theorem m_burstP (h : TxM ρ x L) (hz : Sz r) (h65 : ρ 65 0 0 = nI (nM r)) (hc : ∀ j, j < 6 → ρ 25 0 j = nI (nB r j)) {p : Nat} (hpL : p ≤ L) (a : Bool) (ha : a = true → q = r) (v : Int32) (hfit : ∀ m, (pB x L (nM r) (nB r) p).2 = some m → Fit r m) :
    ∃ ρ' v' q', f7_burstPart (bI a) (xS ρ q p v) = some (bI (pB x L (nM r) (nB r) p).2.isSome, xS ρ' q' (pB x L (nM r) (nB r) p).1 v') ∧ (∀ k o i, k ≠ 25 → ρ' k o i = ρ k o i) ∧ ((pB x L (nM r) (nB r) p).2 = none → q' = q) ∧ ∀ m, (pB x L (nM r) (nB r) p).2 = some m → q' = (if a = true then ef r m else q) ∧ ∀ j, j < 6 → ρ' 25 0 j = nI (nB (ef r m) j) := by
  have hM := hz.M
  have hL := h.1
  have z0 : zok (0 : Int32) = true := by decide
  have z1 : zok (1 : Int32) = true := by decide
  have e65 : xS ρ q p v 65 0 0 - 1 = nI (nM r - 1) := by
    rw [xS_o _ _ _ _ _ _ (by omega), h65]
    obtain ⟨k, hk⟩ : ∃ k, nM r = k + 1 := ⟨nM r - 1, by omega⟩
    rw [hk, nI_pred]; rfl
  have no : ∀ (p' : Nat) (ρ' : Mem) (w : Int32), (∀ k o i, k ≠ 25 → ρ' k o i = ρ k o i) → f7_burstPart (bI a) (xS ρ q p v) = some (0, xS ρ' q p' w) → pB x L (nM r) (nB r) p = (p', none) → ∃ ρ' v' q', f7_burstPart (bI a) (xS ρ q p v) = some (bI (pB x L (nM r) (nB r) p).2.isSome, xS ρ' q' (pB x L (nM r) (nB r) p).1 v') ∧ (∀ k o i, k ≠ 25 → ρ' k o i = ρ k o i) ∧ ((pB x L (nM r) (nB r) p).2 = none → q' = q) ∧ ∀ m, (pB x L (nM r) (nB r) p).2 = some m → q' = (if a = true then ef r m else q) ∧ ∀ j, j < 6 → ρ' 25 0 j = nI (nB (ef r m) j) := by
    intro p' ρ' w h1 h2 h3
    rw [h3]
    exact ⟨ρ', w, q, h2, h1, fun _ => rfl, fun m hm => by cases hm⟩
  by_cases o : okD x L p 0 (nM r - 1) = true
  · obtain ⟨o1, o2, o3⟩ := okD_iff.mp o
    have hx := (h.2.2 p o1).1
    have hm : x p - 48 < nM r := by omega
    have hm6 : x p - 48 < 6 := by omega
    have hB := hz.B hm6
    have start : f7_burstPart (bI a) (xS ρ q p v) = (if nI (nB r (x p - 48)) = 6 then some ((0 : Int32), xS ρ q p v) else nm (xS (ms ρ 25 0 (x p - 48) (nI (nB r (x p - 48) + 1))) q (p + 1) v) fun s4 => bd (f7_digitTo 0 3 s4) fun r2 s5 => nm (s5 64 0 0) fun x1 => nm (fun (y2 : Int32) (s6 : Mem) => nm (s6 64 0 0) fun x2 => nm (fun (y3 : Int32) (s7 : Mem) => nm (fun (y4 : Int32) (s8 : Mem) => (if y4 = (0 : Int32) then gd (zok y4) (some (y4, s8)) else (if bI a = (0 : Int32) then gd (zok y4) (some (y4, s8)) else nm (fun (y5 : Int32) (s9 : Mem) => bd (f7_sends (nI (x p - 48)) x1 x2 y5 s9) fun r3 s10 => gd (zok y4) (some (y4, s10))) fun j5 => (if y3 = (0 : Int32) then j5 (0 : Int32) s8 else j5 (1 : Int32) s8)))) fun j4 => nm (fun (s11 : Mem) => j4 (0 : Int32) s11) fun j6 => (if y2 = (0 : Int32) then j6 s7 else nm (fun (s12 : Mem) => j4 (1 : Int32) s12) fun j7 => (if y3 = (0 : Int32) then bd (f7_sign (45 : Int32) s7) fun r4 s13 => (if r4 = (0 : Int32) then j6 s13 else j7 s13) else j7 s7))) fun j3 => nm (fun (s14 : Mem) => j3 (0 : Int32) s14) fun j8 => (if y2 = (0 : Int32) then j8 s6 else bd (f7_sign (43 : Int32) s6) fun r5 s15 => (if r5 = (0 : Int32) then j8 s15 else j3 (1 : Int32) s15))) fun j2 => nm (fun (s16 : Mem) => j2 (0 : Int32) s16) fun j9 => (if r2 = (0 : Int32) then j9 s5 else bd (f7_digitTo (1 : Int32) (8 : Int32) s5) fun r6 s17 => (if r6 = (0 : Int32) then j9 s17 else j2 (1 : Int32) s17))) := by
      unfold f7_burstPart
      rw [nmS, xS_61 h, xS_63, if_neg (show ¬ nI L ≤ nI p from nI_ge o1 (by omega)), gd_ib (show p < 120 by omega) (by decide), clI (by omega), xS_24 h _ _ _ o1]
      dsimp only
      rw [show nI (x p) - 48 = nI (x p - 48) from pk_sub (b := 48) (by omega), e65, m_in (nI (x p - 48)) (nI 0) (nI (nM r - 1)) (by decide) rfl, bdS, rng_in (by omega) (by omega) (by omega), if_neg (show ¬ bI true = 0 by decide), gd_ib hm6 (by decide), clI (show x p - 48 < 2 ^ 31 by omega), xS_o _ _ _ _ _ _ (show 25 ≠ 63 ∧ 25 ≠ 64 ∧ 25 ≠ 20 by omega), hc _ hm6, xS_63, show nI p + 1 = nI (p + 1) from nI_1 p, xS_p, nmS, gd_ib hm6 (by decide), gd_ib hm6 (by decide)]
      have e25 : xS ρ q (p + 1) v 25 0 (x p - 48) + 1 = nI (nB r (x p - 48) + 1) := by
        rw [xS_o _ _ _ _ _ _ (show 25 ≠ 63 ∧ 25 ≠ 64 ∧ 25 ≠ 20 by omega), hc _ hm6, nI_1]
      rw [e25, xS_25]
    by_cases o0 : nB r (x p - 48) = 6
    · refine no p ρ v (fun _ _ _ _ => rfl) (start.trans (if_pos (by rw [o0]; rfl))) ?_
      unfold pB
      rw [if_pos o, if_pos o0]
    · have n6 : ¬ nI (nB r (x p - 48)) = 6 := fun z => o0 ((nI_eq (b := 6) (by omega) (by omega)).mp z)
      have hB6 : nB r (x p - 48) < 6 := by omega
      have start := start.trans (if_neg n6)
      generalize hρ1 : ms ρ 25 0 (x p - 48) (nI (nB r (x p - 48) + 1)) = ρ1 at start
      have hout : ∀ k o i, k ≠ 25 → ρ1 k o i = ρ k o i := fun k o i hk => by rw [← hρ1, ms_ne _ _ (by omega)]
      have h1 := h.out hout
      rw [nmS] at start
      by_cases oa : okD x L (p + 1) 0 3 = true
      · have d1 : f7_digitTo 0 3 (xS ρ1 q (p + 1) v) = some (1, xS ρ1 q (p + 1 + 1) (nI (x (p + 1) - 48))) := m_digit_y h1 q (lo := 0) (hi := 3) (by omega) (by omega) oa v
        obtain ⟨a1, a2, a3⟩ := okD_iff.mp oa
        rw [d1, bdS] at start
        by_cases ob : okD x L (p + 2) 1 8 = true
        · have d2 : f7_digitTo 1 8 (xS ρ1 q (p + 1 + 1) (nI (x (p + 1) - 48))) = some (1, xS ρ1 q (p + 1 + 1 + 1) (nI (x (p + 2) - 48))) := m_digit_y h1 q (lo := 1) (hi := 8) (by omega) (by omega) ob _
          obtain ⟨b1, b2, b3⟩ := okD_iff.mp ob
          have g43 := m_sign h1 q (p := p + 1 + 1 + 1) (a := 43) (by omega) (by omega) (nI (x (p + 2) - 48))
          have g45 := m_sign h1 q (p := p + 1 + 1 + 1) (a := 45) (by omega) (by omega) (nI (x (p + 2) - 48))
          have yes : ∀ (b : Nat), b ≤ 1 → (x (p + 3) = 43 → b = 1) → (¬ x (p + 3) = 43 → b = 0) → (if bI a = (0 : Int32) then some ((1 : Int32), xS ρ1 q (p + 1 + 1 + 1 + 1) (nI (x (p + 2) - 48))) else bd (f7_sends (nI (x p - 48)) (nI (x (p + 1) - 48)) (nI (x (p + 2) - 48)) (nI b) (xS ρ1 q (p + 1 + 1 + 1 + 1) (nI (x (p + 2) - 48)))) fun r3 s10 => some ((1 : Int32), s10)) = some (1, xS ρ1 (if a = true then ef r (3, x p - 48, x (p + 1) - 48, x (p + 2) - 48, b) else q) (p + 1 + 1 + 1 + 1) (nI (x (p + 2) - 48))) := by
            intro b hb _ _
            cases a with
            | false => exact if_pos (by decide)
            | true =>
              have hq := ha rfl
              subst hq
              rw [if_neg (show ¬ bI true = 0 by decide), if_pos rfl]
              unfold xS
              rw [m_sends _ hz hm6 hB6, bdS]
              rfl
          have fin : ∀ (b : Nat), b ≤ 1 → pB x L (nM r) (nB r) p = (p + 4, some (3, x p - 48, x (p + 1) - 48, x (p + 2) - 48, b)) → f7_burstPart (bI a) (xS ρ q p v) = some (1, xS ρ1 (if a = true then ef r (3, x p - 48, x (p + 1) - 48, x (p + 2) - 48, b) else q) (p + 1 + 1 + 1 + 1) (nI (x (p + 2) - 48))) → ∃ ρ' v' q', f7_burstPart (bI a) (xS ρ q p v) = some (bI (pB x L (nM r) (nB r) p).2.isSome, xS ρ' q' (pB x L (nM r) (nB r) p).1 v') ∧ (∀ k o i, k ≠ 25 → ρ' k o i = ρ k o i) ∧ ((pB x L (nM r) (nB r) p).2 = none → q' = q) ∧ ∀ m, (pB x L (nM r) (nB r) p).2 = some m → q' = (if a = true then ef r m else q) ∧ ∀ j, j < 6 → ρ' 25 0 j = nI (nB (ef r m) j) := by
            intro b hb h2 h3
            rw [h2] at hfit ⊢
            refine ⟨ρ1, _, _, h3, hout, fun z => (nomatch z), fun m hm2 => ?_⟩
            cases hm2
            refine ⟨rfl, fun j hj => ?_⟩
            have hf := hfit _ rfl
            rw [nB_ef3 hz hf rfl hj, ← hρ1]
            by_cases y : j = x p - 48
            · rw [y, ms_eq, if_pos rfl]
            · rw [ms_ne _ _ (by omega), hc j hj, if_neg y]
          by_cases c1 : p + 3 < L ∧ x (p + 3) = 43
          · have hm3 : mrk x L (p + 3) = true := by
              unfold mrk
              rw [decide_eq_true c1.1, decide_eq_true c1.2]; rfl
            have g43 : f7_sign 43 (xS ρ1 q (p + 1 + 1 + 1) (nI (x (p + 2) - 48))) = some (1, xS ρ1 q (p + 1 + 1 + 1 + 1) (nI (x (p + 2) - 48))) := g43.trans (if_pos c1)
            refine fin 1 (Nat.le_refl 1) (by unfold pB; rw [if_pos o, if_neg o0, if_pos oa, if_pos ob, if_pos hm3, if_pos c1.2]) (start.trans ?_)
            simp only [nmS, d2, g43, bdS, xS_64, show ¬ (1 : Int32) = 0 by decide, if_false, gdI z1]
            exact yes 1 (Nat.le_refl 1) (fun _ => rfl) (fun z => absurd c1.2 z)
          · have g43 : f7_sign 43 (xS ρ1 q (p + 1 + 1 + 1) (nI (x (p + 2) - 48))) = some (0, xS ρ1 q (p + 1 + 1 + 1) (nI (x (p + 2) - 48))) := g43.trans (if_neg c1)
            by_cases c2 : p + 3 < L ∧ x (p + 3) = 45
            · have hm3 : mrk x L (p + 3) = true := by
                unfold mrk
                rw [decide_eq_true c2.1, decide_eq_true c2.2, Bool.or_true]; rfl
              have g45 : f7_sign 45 (xS ρ1 q (p + 1 + 1 + 1) (nI (x (p + 2) - 48))) = some (1, xS ρ1 q (p + 1 + 1 + 1 + 1) (nI (x (p + 2) - 48))) := g45.trans (if_pos c2)
              have n43 : ¬ x (p + 3) = 43 := by omega
              refine fin 0 (by omega) (by unfold pB; rw [if_pos o, if_neg o0, if_pos oa, if_pos ob, if_pos hm3, if_neg n43]) (start.trans ?_)
              simp only [nmS, d2, g43, g45, bdS, xS_64, show ¬ (1 : Int32) = 0 by decide, if_false, if_true, gdI z1]
              exact yes 0 (by omega) (fun z => absurd z n43) (fun _ => rfl)
            · have hm3 : mrk x L (p + 3) = false := by
                apply Bool.eq_false_iff.mpr
                intro z
                unfold mrk at z
                rw [Bool.and_eq_true, Bool.or_eq_true, decide_eq_true_iff, decide_eq_true_iff, decide_eq_true_iff] at z
                rcases z.2 with y | y
                · exact c1 ⟨z.1, y⟩
                · exact c2 ⟨z.1, y⟩
              have g45 : f7_sign 45 (xS ρ1 q (p + 1 + 1 + 1) (nI (x (p + 2) - 48))) = some (0, xS ρ1 q (p + 1 + 1 + 1) (nI (x (p + 2) - 48))) := g45.trans (if_neg c2)
              refine no (p + 3) ρ1 (nI (x (p + 2) - 48)) hout (start.trans ?_) (by unfold pB; rw [if_pos o, if_neg o0, if_pos oa, if_pos ob, if_neg (by rw [hm3]; exact fun z => nomatch z)])
              simp only [nmS, d2, g43, g45, bdS, xS_64, show ¬ (1 : Int32) = 0 by decide, if_false, if_true, gdI z0]
        · obtain ⟨w2, hw2⟩ := m_digit_n h1 q (p := p + 2) (lo := 1) (hi := 8) (by omega) (by omega) (by omega) (Bool.eq_false_iff.mpr ob) (nI (x (p + 1) - 48))
          have d2 : f7_digitTo 1 8 (xS ρ1 q (p + 1 + 1) (nI (x (p + 1) - 48))) = some (0, xS ρ1 q (p + 1 + 1) w2) := hw2
          refine no (p + 2) ρ1 w2 hout (start.trans ?_) (by unfold pB; rw [if_pos o, if_neg o0, if_pos oa, if_neg ob])
          simp only [nmS, d2, bdS, show ¬ (1 : Int32) = 0 by decide, if_false, if_true, gdI z0]
      · obtain ⟨w2, hw2⟩ := m_digit_n h1 q (p := p + 1) (lo := 0) (hi := 3) (by omega) (by omega) (by omega) (Bool.eq_false_iff.mpr oa) v
        have d1 : f7_digitTo 0 3 (xS ρ1 q (p + 1) v) = some (0, xS ρ1 q (p + 1) w2) := hw2
        rw [d1, bdS] at start
        refine no (p + 1) ρ1 w2 hout (start.trans ?_) (by unfold pB; rw [if_pos o, if_neg o0, if_neg oa])
        simp only [nmS, if_true, gdI z0]
  · refine no p ρ v (fun _ _ _ _ => rfl) ?_ (by unfold pB; rw [if_neg o])
    unfold f7_burstPart
    rw [nmS, xS_61 h, xS_63]
    by_cases e1 : p < L
    · have hx := (h.2.2 p e1).1
      rw [if_neg (show ¬ nI L ≤ nI p from nI_ge e1 (by omega)), gd_ib (show p < 120 by omega) (by decide), clI (by omega), xS_24 h _ _ _ e1]
      dsimp only
      rw [e65]
      have hd := dg_in hx (show 0 < 100 by omega) (show nM r - 1 < 100 by omega)
      have o' : (decide (48 + 0 ≤ x p) && decide (x p ≤ 48 + (nM r - 1))) = false := by
        have o2 := Bool.eq_false_iff.mpr o
        unfold okD at o2
        rw [decide_eq_true e1, Bool.true_and] at o2
        exact o2
      rw [o'] at hd
      rw [m_in (nI (x p) - 48) (nI 0) (nI (nM r - 1)) (by decide) rfl, bdS, show (decide (nI 0 ≤ nI (x p) - 48) && decide (nI (x p) - 48 ≤ nI (nM r - 1))) = false from hd, if_pos (show bI false = 0 from rfl)]
    · rw [if_pos (show nI L ≤ nI p from nI_le (by omega) (by omega))]
      dsimp only
      rw [e65, m_in (-1) (nI 0) (nI (nM r - 1)) (by decide) rfl, bdS, show decide (nI 0 ≤ (-1 : Int32)) = false by decide, Bool.false_and, if_pos (show bI false = 0 from rfl)]
end PARTM3
