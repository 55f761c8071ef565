/-! A WHOLE TEXT, read by both -/
section READS
variable {x : Nat → Nat} {L : Nat} {σ ρ : Mem} {q r : QS} {T : Nat} {c : Mem}
theorem m_part (h : TxM ρ x L) (hz : Sz r) (h65 : ρ 65 0 0 = nI (nM r)) (h66 : ρ 66 0 0 = nI (nS r)) (hc : ∀ j, j < 6 → ρ 25 0 j = nI (nB r j)) {p : Nat} (hpL : p < L) (a : Bool) (ha : a = true → q = r) (v : Int32) (hfit : ∀ m, (prt x L (nM r) (nS r) (nB r) p).2 = some m → Fit r m) :
    PartM ρ q r a (f7_part (bI a) (xS ρ q p v)) (prt x L (nM r) (nS r) (nB r) p) := by
  have hL := h.1
  unfold prt at hfit ⊢
  by_cases e1 : x p = 111
  · rw [if_pos e1] at hfit ⊢
    exact m_owner h hz h65 h66 hc hpL e1 a ha v hfit
  · rw [if_neg e1] at hfit ⊢
    by_cases e2 : x p = 108
    · rw [if_pos e2] at hfit ⊢
      exact m_latency h hz hc hpL e2 a ha v hfit
    · rw [if_neg e2] at hfit ⊢
      by_cases e3 : x p = 99
      · rw [if_pos e3] at hfit ⊢
        exact m_creditP h hz hc hpL e3 a ha v hfit
      · rw [if_neg e3] at hfit ⊢
        have s1 : f7_sign 111 (xS ρ q p v) = some (nI 0, xS ρ q p v) := (m_sign h q (a := 111) (by omega) (by omega) v).trans (if_neg (fun z => e1 z.2))
        have s2 : f7_sign 108 (xS ρ q p v) = some (nI 0, xS ρ q p v) := (m_sign h q (a := 108) (by omega) (by omega) v).trans (if_neg (fun z => e2 z.2))
        have s3 : f7_sign 99 (xS ρ q p v) = some (nI 0, xS ρ q p v) := (m_sign h q (a := 99) (by omega) (by omega) v).trans (if_neg (fun z => e3 z.2))
        by_cases e4 : x p = 98
        · rw [if_pos e4] at hfit ⊢
          have s4 : f7_sign 98 (xS ρ q p v) = some (nI 1, xS ρ q (p + 1) v) := (m_sign h q (a := 98) (by omega) (by omega) v).trans (if_pos ⟨hpL, e4⟩)
          obtain ⟨ρ', v', q', b1, b2, b3, b4⟩ := m_burstP h hz h65 hc (p := p + 1) (by omega) a ha v hfit
          refine ⟨ρ', v', q', ?_, b2, b3, b4⟩
          unfold f7_part
          rw [s1, bdS, if_pos (show nI 0 = 0 from rfl), s2, bdS, if_pos (show nI 0 = 0 from rfl), s3, bdS, if_pos (show nI 0 = 0 from rfl), s4, bdS, nmS, if_neg (show ¬ nI 1 = 0 by decide), b1, bdS]
          cases (pB x L (nM r) (nB r) (p + 1)).2 with
          | none => exact if_pos rfl
          | some m => exact if_neg (show ¬ bI true = 0 by decide)
        · rw [if_neg e4]
          have s4 : f7_sign 98 (xS ρ q p v) = some (nI 0, xS ρ q p v) := (m_sign h q (a := 98) (by omega) (by omega) v).trans (if_neg (fun z => e4 z.2))
          refine partNo v ?_
          unfold f7_part
          rw [s1, bdS, if_pos (show nI 0 = 0 from rfl), s2, bdS, if_pos (show nI 0 = 0 from rfl), s3, bdS, if_pos (show nI 0 = 0 from rfl), s4, bdS, nmS, if_pos (show nI 0 = 0 from rfl)]
          rfl
theorem two_ok {p lo hi n : Nat} (h : (two x L p lo hi).2 = some n) : (two x L p lo hi).1 = p + 2 ∧ p + 2 ≤ L := by
  unfold two at h ⊢
  by_cases o1 : okD x L p 0 (hi / 10) = true
  · rw [if_pos o1] at h ⊢
    by_cases o2 : okD x L (p + 1) (lo2 (x p - 48) lo) (hi2 (x p - 48) hi) = true
    · rw [if_pos o2]
      have := (okD_iff.mp o2).1
      exact ⟨rfl, by omega⟩
    · rw [if_neg o2] at h; cases h
  · rw [if_neg o1] at h; cases h
theorem pO_p {M S p : Nat} : (pO x L M S p).1 ≤ p + 3 ∧ ∀ m, (pO x L M S p).2 = some m → p < (pO x L M S p).1 ∧ (pO x L M S p).1 ≤ L := by
  have tp := two_p (x := x) (L := L) (p := p) (lo := 0) (hi := S - 1)
  unfold pO
  cases ht : (two x L p 0 (S - 1)).2 with
  | none =>
    rw [if_pos (show (none : Option Nat).isNone = true from rfl)]
    exact ⟨by dsimp only; omega, fun m hm => by cases hm⟩
  | some s =>
    have t2 := two_ok ht
    rw [if_neg (fun z => nomatch z)]
    by_cases o : okD x L (two x L p 0 (S - 1)).1 0 (M - 1) = true
    · have := (okD_iff.mp o).1
      rw [if_pos o]
      exact ⟨by dsimp only; omega, fun m hm => ⟨by dsimp only; omega, by dsimp only; omega⟩⟩
    · rw [if_neg o]
      exact ⟨by dsimp only; omega, fun m hm => by cases hm⟩
theorem pL_p {p : Nat} : (pL x L p).1 ≤ p + 3 ∧ ∀ m, (pL x L p).2 = some m → p < (pL x L p).1 ∧ (pL x L p).1 ≤ L := by
  unfold pL
  by_cases o : okD x L p 0 3 = true
  · rw [if_pos o]
    by_cases o2 : okD x L (p + 1) 0 9 = true
    · have := (okD_iff.mp o2).1
      rw [if_pos o2]
      exact ⟨by dsimp only; omega, fun m hm => ⟨by dsimp only; omega, by dsimp only; omega⟩⟩
    · rw [if_neg o2]
      exact ⟨by dsimp only; omega, fun m hm => by cases hm⟩
  · rw [if_neg o]
    exact ⟨by dsimp only; omega, fun m hm => by cases hm⟩
theorem pC_p {p : Nat} : (pC x L p).1 ≤ p + 3 ∧ ∀ m, (pC x L p).2 = some m → p < (pC x L p).1 ∧ (pC x L p).1 ≤ L := by
  unfold pC
  by_cases o : okD x L p 0 9 = true
  · have := (okD_iff.mp o).1
    rw [if_pos o]
    exact ⟨by dsimp only; omega, fun m hm => ⟨by dsimp only; omega, by dsimp only; omega⟩⟩
  · rw [if_neg o]
    exact ⟨by dsimp only; omega, fun m hm => by cases hm⟩
theorem pB_p {M p : Nat} {nb : Nat → Nat} : (pB x L M nb p).1 ≤ p + 5 ∧ ∀ m, (pB x L M nb p).2 = some m → p < (pB x L M nb p).1 ∧ (pB x L M nb p).1 ≤ L := by
  unfold pB
  by_cases o : okD x L p 0 (M - 1) = true
  · rw [if_pos o]
    by_cases o0 : nb (x p - 48) = 6
    · rw [if_pos o0]
      exact ⟨by dsimp only; omega, fun m hm => by cases hm⟩
    · rw [if_neg o0]
      by_cases o1 : okD x L (p + 1) 0 3 = true
      · rw [if_pos o1]
        by_cases o2 : okD x L (p + 2) 1 8 = true
        · rw [if_pos o2]
          by_cases o3 : mrk x L (p + 3) = true
          · have o3' := o3
            unfold mrk at o3'
            rw [Bool.and_eq_true, decide_eq_true_iff] at o3'
            have := o3'.1
            rw [if_pos o3]
            exact ⟨by dsimp only; omega, fun m hm => ⟨by dsimp only; omega, by dsimp only; omega⟩⟩
          · rw [if_neg o3]
            exact ⟨by dsimp only; omega, fun m hm => by cases hm⟩
        · rw [if_neg o2]
          exact ⟨by dsimp only; omega, fun m hm => by cases hm⟩
      · rw [if_neg o1]
        exact ⟨by dsimp only; omega, fun m hm => by cases hm⟩
  · rw [if_neg o]
    exact ⟨by dsimp only; omega, fun m hm => by cases hm⟩
theorem prt_p {M S p : Nat} {nb : Nat → Nat} : (prt x L M S nb p).1 ≤ p + 6 ∧ ∀ m, (prt x L M S nb p).2 = some m → p < (prt x L M S nb p).1 ∧ (prt x L M S nb p).1 ≤ L := by
  have h1 := pO_p (x := x) (L := L) (M := M) (S := S) (p := p + 1)
  have h2 := pL_p (x := x) (L := L) (p := p + 1)
  have h3 := pC_p (x := x) (L := L) (p := p + 1)
  have h4 := pB_p (x := x) (L := L) (M := M) (nb := nb) (p := p + 1)
  unfold prt
  by_cases e1 : x p = 111
  · rw [if_pos e1]
    exact ⟨by omega, fun m hm => by have := h1.2 m hm; omega⟩
  · rw [if_neg e1]
    by_cases e2 : x p = 108
    · rw [if_pos e2]
      exact ⟨by omega, fun m hm => by have := h2.2 m hm; omega⟩
    · rw [if_neg e2]
      by_cases e3 : x p = 99
      · rw [if_pos e3]
        exact ⟨by omega, fun m hm => by have := h3.2 m hm; omega⟩
      · rw [if_neg e3]
        by_cases e4 : x p = 98
        · rw [if_pos e4]
          exact ⟨by omega, fun m hm => by have := h4.2 m hm; omega⟩
        · rw [if_neg e4]
          exact ⟨by dsimp only; omega, fun m hm => by cases hm⟩
theorem Fit.sz (hz : Sz r) {m : Cmd} (hf : Fit r m) : nM (ef r m) = nM r ∧ nS (ef r m) = nS r := by
  have hM := hz.M
  have hS := hz.S
  refine ⟨nM_of ?_, nS_of ?_⟩
  · unfold ef
    rcases hf with ⟨z, h1, h2⟩ | ⟨z, h1, h2⟩ | ⟨z, h1⟩ | ⟨z, h1⟩
    · rw [if_pos z, qs_ne _ _ (by omega)]
    · rw [if_neg (by omega), if_pos z, qs_ne _ _ (by omega)]
    · rw [if_neg (by omega), if_neg (by omega), if_pos z, qs_ne _ _ (by omega)]
    · rw [if_neg (by omega), if_neg (by omega), if_neg (by omega), qs_ne _ _ (by omega), qs_ne _ _ (by omega), qs_ne _ _ (by omega), qs_ne _ _ (by omega)]
  · unfold ef
    rcases hf with ⟨z, h1, h2⟩ | ⟨z, h1, h2⟩ | ⟨z, h1⟩ | ⟨z, h1⟩
    · rw [if_pos z, qs_ne _ _ (by omega)]
    · rw [if_neg (by omega), if_pos z, qs_ne _ _ (by omega)]
    · rw [if_neg (by omega), if_neg (by omega), if_pos z, qs_ne _ _ (by omega)]
    · rw [if_neg (by omega), if_neg (by omega), if_neg (by omega), qs_ne _ _ (by omega), qs_ne _ _ (by omega), qs_ne _ _ (by omega), qs_ne _ _ (by omega)]
/-- the reference may read from here -/
def RdM (ρ : Mem) (x : Nat → Nat) (L : Nat) (r : QS) : Prop := TxM ρ x L ∧ ρ 65 0 0 = nI (nM r) ∧ ρ 66 0 0 = nI (nS r) ∧ ∀ j, j < 6 → ρ 25 0 j = nI (nB r j)
set_option maxHeartbeats 1000000 in
theorem loops (h : TxC σ x L) (k1 : Mem → Option (Int32 × Mem)) (k2 : Int32 → Mem → Option (Int32 × Mem)) : ∀ d p i c r, L = p + d → i ≤ p → Bus r c 0 → ∃ (ok : Bool) (p' : Nat) (c' : Mem) (r' : QS), p' < 200 ∧ (ok = true → Bus r' c' 0) ∧ (∀ n, d + 1 < n → f3_readInto_l51 15 k1 n (nI i) (rS σ c p false) = k1 (rS σ c' p' (!ok))) ∧
    ∀ (a : Bool) (ρ : Mem) (q : QS) (v : Int32) (n : Nat), d + 1 < n → RdM ρ x L r → (a = true → q = r) → ∃ ρ' v' q', f7_reads_l107 (bI a) k2 n (nI 1) (xS ρ q p v) = k2 (bI ok) (xS ρ' q' p' v') ∧ (∀ k o i, k ≠ 25 → ρ' k o i = ρ k o i) ∧ (ok = true → a = true → q' = r') ∧ (a = false → q' = q) := by
  intro d
  induction d using Nat.strongRecOn with
  | ind d ih =>
    intro p i c r hd hi hb
    have hL := h.1
    have hz := hb.2.1.sz
    rcases Nat.eq_zero_or_pos d with hd0 | hd0
    · subst hd0
      refine ⟨true, p, c, r, by omega, fun _ => hb, fun n hn => ?_, fun a ρ q v n hn hr ha => ⟨ρ, v, q, ?_, fun _ _ _ _ => rfl, fun _ z => ha z, fun _ => rfl⟩⟩
      · obtain ⟨k, rfl⟩ : ∃ k, n = k + 1 := ⟨n - 1, by omega⟩
        rw [f3_readInto_l51]
        simp only [lit]
        by_cases e : nI 120 ≤ nI i
        · rw [if_pos e]; rfl
        · rw [if_neg e, rS_56, if_pos (show bI false = nI 0 from rfl), rS_54 h, rS_55, if_pos (show nI L ≤ nI p from nI_le (by omega) (by omega))]; rfl
      · obtain ⟨k, rfl⟩ : ∃ k, n = k + 1 := ⟨n - 1, by omega⟩
        rw [f7_reads_l107]
        simp only [lit]
        rw [if_neg (show ¬ nI 1 = nI 0 by decide), xS_61 hr.1, xS_63, if_pos (show nI L ≤ nI p from nI_le (by omega) (by omega))]; rfl
    · have hpL : p < L := by omega
      obtain ⟨c1, c2, c3⟩ := c_part h hb hpL
      have pp := prt_p (x := x) (L := L) (M := nM r) (S := nS r) (p := p) (nb := nB r)
      have step6 : ∀ n, f3_readInto_l51 15 k1 (n + 1) (nI i) (rS σ c p false) = f3_readInto_l51 15 k1 n (nI (i + 1)) (rS σ c1 (prt x L (nM r) (nS r) (nB r) p).1 (prt x L (nM r) (nS r) (nB r) p).2.isNone) := fun n => by
        rw [f3_readInto_l51]
        simp only [lit, nmS]
        rw [if_neg (show ¬ nI 120 ≤ nI i from nI_ge (by omega) (by omega)), rS_56, if_pos (show bI false = nI 0 from rfl), rS_54 h, rS_55, if_neg (show ¬ nI L ≤ nI p from nI_ge hpL (by omega)), c2, bvS, nI_add]
      have step7 : ∀ (a : Bool) (ρ : Mem) (q : QS) (v : Int32) (n : Nat), RdM ρ x L r → (a = true → q = r) → ∃ ρ' v' q', f7_reads_l107 (bI a) k2 (n + 1) (nI 1) (xS ρ q p v) = f7_reads_l107 (bI a) k2 n (bI (prt x L (nM r) (nS r) (nB r) p).2.isSome) (xS ρ' q' (prt x L (nM r) (nS r) (nB r) p).1 v') ∧ (∀ k o i, k ≠ 25 → ρ' k o i = ρ k o i) ∧ ((prt x L (nM r) (nS r) (nB r) p).2 = none → q' = q) ∧ ∀ m, (prt x L (nM r) (nS r) (nB r) p).2 = some m → q' = (if a = true then ef r m else q) ∧ ∀ j, j < 6 → ρ' 25 0 j = nI (nB (ef r m) j) := fun a ρ q v n hr ha => by
        obtain ⟨ρ', v', q', b1, b2, b3, b4⟩ := m_part hr.1 hz hr.2.1 hr.2.2.1 hr.2.2.2 hpL a ha v (fun m hm => (c3 m hm).2)
        refine ⟨ρ', v', q', ?_, b2, b3, b4⟩
        rw [f7_reads_l107]
        simp only [lit]
        rw [if_neg (show ¬ nI 1 = nI 0 by decide), xS_61 hr.1, xS_63, if_neg (show ¬ nI L ≤ nI p from nI_ge hpL (by omega)), b1, bdS]
      cases ht : (prt x L (nM r) (nS r) (nB r) p).2 with
      | none =>
        rw [ht] at step6 step7
        refine ⟨false, (prt x L (nM r) (nS r) (nB r) p).1, c1, r, by omega, fun z => (nomatch z), fun n hn => ?_, fun a ρ q v n hn hr ha => ?_⟩
        · obtain ⟨k, rfl⟩ : ∃ k, n = k + 1 + 1 := ⟨n - 2, by omega⟩
          rw [step6, f3_readInto_l51]
          simp only [lit]
          by_cases e : nI 120 ≤ nI (i + 1)
          · rw [if_pos e]; rfl
          · rw [if_neg e, rS_56, if_neg (show ¬ bI (none : Option Cmd).isNone = nI 0 by decide)]; rfl
        · obtain ⟨k, rfl⟩ : ∃ k, n = k + 1 + 1 := ⟨n - 2, by omega⟩
          obtain ⟨ρ', v', q', b1, b2, b3, b4⟩ := step7 a ρ q v (k + 1) hr ha
          refine ⟨ρ', v', q', b1.trans ?_, b2, fun z => (nomatch z), fun _ => b3 rfl⟩
          rw [f7_reads_l107]
          simp only [lit]
          rw [if_pos (show bI (none : Option Cmd).isSome = nI 0 from rfl)]
          rfl
      | some m =>
        have hp1 := pp.2 m ht
        obtain ⟨hb1, hf⟩ := c3 m ht
        rw [ht] at step6 step7
        have hsz := hf.sz hz
        generalize (prt x L (nM r) (nS r) (nB r) p).1 = p1 at hp1 step6 step7 pp
        obtain ⟨ok, p', c', r', i1, i2, i3, i4⟩ := ih (L - p1) (by omega) p1 (i + 1) c1 (ef r m) (by omega) (by omega) hb1
        refine ⟨ok, p', c', r', i1, i2, fun n hn => ?_, fun a ρ q v n hn hr ha => ?_⟩
        · obtain ⟨k, rfl⟩ : ∃ k, n = k + 1 := ⟨n - 1, by omega⟩
          rw [step6]
          exact i3 k (by omega)
        · obtain ⟨k, rfl⟩ : ∃ k, n = k + 1 := ⟨n - 1, by omega⟩
          obtain ⟨ρ1, v1, q1, b1, b2, b3, b4⟩ := step7 a ρ q v k hr ha
          obtain ⟨b5, b6⟩ := b4 m rfl
          obtain ⟨ρ', v', q', j1, j2, j3, j4⟩ := i4 a ρ1 q1 v1 k (by omega) ⟨hr.1.out b2, by rw [b2 65 0 0 (by decide), hsz.1]; exact hr.2.1, by rw [b2 66 0 0 (by decide), hsz.2]; exact hr.2.2.1, b6⟩ (fun z => by rw [b5, if_pos z])
          refine ⟨ρ', v', q', b1.trans j1, fun k o i hk => (j2 k o i hk).trans (b2 k o i hk), j3, fun z => (j4 z).trans ?_⟩
          rw [b5, if_neg (by rw [z]; exact fun y => nomatch y)]
end READS
