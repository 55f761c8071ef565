/-! THE CLASS's BANKRUPTCIES AND STEP -/
section CLS6
variable {S : Nat} {nb na : Nat → Nat} {q : QS} {x y : Int32} {f : Nat → Int32} {c : Mem}
theorem qs_self (q : QS) (i : Nat) : qs q i (q i) = q := by
  funext j
  unfold qs
  by_cases e : j = i
  · rw [if_pos e, e]
  · rw [if_neg e]
def c64 (c : Mem) (m n : Nat) : Mem := fun k o j => if k = 8 ∧ j = m ∧ o < n then 0 else c k o j
theorem c64_0 (c : Mem) (m : Nat) : c64 c m 0 = c := by
  funext k o j
  exact if_neg fun z => by omega
theorem c64_out (c : Mem) {m n k o j : Nat} (h : ¬ (k = 8 ∧ j = m ∧ o < n)) : c64 c m n k o j = c k o j := if_neg h
theorem c64_in (c : Mem) {m n o : Nat} (h : o < n) : c64 c m n 8 o m = 0 := if_pos ⟨rfl, rfl, h⟩
theorem c64_s (c : Mem) (m n : Nat) : ms (c64 c m n) 8 n m (nI 0) = c64 c m (n + 1) := by
  funext k o j
  by_cases e : k = 8 ∧ o = n ∧ j = m
  · obtain ⟨rfl, rfl, rfl⟩ := e
    rw [ms_eq, c64_in _ (by omega)]; rfl
  · rw [ms_ne _ _ e]
    by_cases e2 : k = 8 ∧ j = m ∧ o < n
    · obtain ⟨rfl, rfl, h2⟩ := e2
      rw [c64_in _ h2, c64_in _ (by omega)]
    · rw [c64_out _ e2, c64_out _ (by omega)]
def zD (c : Mem) (m n : Nat) : Mem := fun k o j => if k = 8 ∧ o = m ∧ j < n then 0 else c k o j
theorem zD_0 (c : Mem) (m : Nat) : zD c m 0 = c := by
  funext k o j
  exact if_neg fun z => by omega
theorem zD_out (c : Mem) {m n k o j : Nat} (h : ¬ (k = 8 ∧ o = m ∧ j < n)) : zD c m n k o j = c k o j := if_neg h
theorem zD_in (c : Mem) {m n j : Nat} (h : j < n) : zD c m n 8 m j = 0 := if_pos ⟨rfl, rfl, h⟩
theorem zD_s (c : Mem) (m n : Nat) : ms (zD c m n) 8 m n (nI 0) = zD c m (n + 1) := by
  funext k o j
  by_cases e : k = 8 ∧ o = m ∧ j = n
  · obtain ⟨rfl, rfl, rfl⟩ := e
    rw [ms_eq, zD_in _ (by omega)]; rfl
  · rw [ms_ne _ _ e]
    by_cases e2 : k = 8 ∧ o = m ∧ j < n
    · obtain ⟨rfl, rfl, h2⟩ := e2
      rw [zD_in _ h2, zD_in _ (by omega)]
    · rw [zD_out _ e2, zD_out _ (by omega)]
theorem c_forget (σ : Mem) (b : Nat) (c : Mem) {m : Nat} (hm : m < 6) : f5_forgetDebts (6 * b + m) (wc σ b c) = some (wc σ b (zD c m 6)) := by
  have hN : 20 < FU := by decide
  unfold f5_forgetDebts
  generalize FU = N at hN ⊢
  simp only [lit, nmS]
  have h9 := lup (fun n (z : Int32 × Mem) => f5_forgetDebts_l2 (6 * b + m) (fun s1 => some s1) n z.1 (wc σ b z.2)) (fun i => (nI i, zD c m i)) 6 (some (wc σ b (zD c m 6))) ?_ ?_ 6 0 N (by omega) (by omega)
  · rw [zD_0] at h9; exact h9
  · intro n i hi
    show f5_forgetDebts_l2 _ _ (n + 1) (nI i) (wc σ b (zD c m i)) = f5_forgetDebts_l2 _ _ n (nI (i + 1)) (wc σ b (zD c m (i + 1)))
    rw [f5_forgetDebts_l2]
    simp (disch := first | omega | decide) only [lit, nmS, clI, gd_ib, nI_add, wc_sm]
    rw [if_neg (nI_ge hi (by omega)), zD_s]
  · intro n
    show f5_forgetDebts_l2 _ _ (n + 1) (nI 6) _ = _
    rw [f5_forgetDebts_l2]
    simp only [lit]
    rw [if_pos (nI_le (Nat.le_refl _) (by omega))]
theorem c_broke (σ : Mem) (b : Nat) (c : Mem) {m : Nat} (hm : m < 6) : f5_goBankrupt (6 * b + m) (wc σ b c) = some (wc σ b (ms (ms (zD (ms c 40 m 0 (nI 1)) m 6) 50 m 0 (nI 0)) 51 m 0 (nI 0))) := by
  unfold f5_goBankrupt
  simp (disch := first | omega | decide) only [lit, nmS, wc_sm, c_forget σ b _ hm, bvS]
theorem bkQ_br {p : Nat → Bool} {r : QS} {M m m2 : Nat} (hq : q 6 = mk p M) (hM : M ≤ 6) (hm : m < M) (hm2 : m2 < 6) (hr : r 6 = q 6 ||| (1 <<< (nI m &&& 31))) : bkQ r m2 = (bkQ q m2 || decide (m2 = m)) := by
  rw [hq, mk_or hM hm] at hr
  have h1 : bkQ r m2 = true ↔ (m2 < M ∧ (p m2 || decide (m2 = m)) = true) := by
    unfold bkQ
    rw [hr]
    exact decide_eq_true_iff.trans (mk_bit hM hm2)
  have h2 : bkQ q m2 = true ↔ (m2 < M ∧ p m2 = true) := by
    unfold bkQ
    rw [hq]
    exact decide_eq_true_iff.trans (mk_bit hM hm2)
  apply Bool.eq_iff_iff.mpr
  rw [h1, Bool.or_eq_true, Bool.or_eq_true, h2, decide_eq_true_iff]
  constructor
  · intro z
    rcases z.2 with w | w
    · exact Or.inl ⟨z.1, w⟩
    · exact Or.inr w
  · intro z
    rcases z with w | w
    · exact ⟨w.1, Or.inl w.2⟩
    · exact ⟨by omega, Or.inr w⟩
theorem c_ruin (σ : Mem) (b : Nat) {Bd Ba Bw : Nat} (h : E S nb na q x y f c) (hb : Wb Bd Ba Bw q) (hB : Bd < 2 ^ 31) (hS : nS q ≤ S) {m : Nat} (hm : m < nM q) (hd : ¬ dbQ q m ≤ nI 4 * slQ q (nS q) m) :
    ∃ c', f2_ruin b (nI m) (wc σ b c) = some (wc σ b c') ∧ E S (fun j => if j = m then 0 else nb j) (fun j => if j = m then 0 else na j) (brQ q m) x y f c' := by
  have hz := hb.sz
  obtain ⟨g1, g2, g3⟩ := hz.M
  obtain ⟨s1, s2, s3⟩ := hz.S
  have hto := hdQ_le q m (nM q - 1)
  have hN : 20 < FU := by decide
  have e1 : f2_creditorOf b (6 * b + m) (nI 0) (wc σ b c) = some (oN (some (hdQ q m (nM q - 1))), wc σ b c) := by
    have := c_cred σ b h hz (o := m) (by omega) (nI 0) (fun _ => true) (fun _ _ => ⟨fun _ => rfl, fun _ => Or.inl rfl⟩)
    rw [hd_pos hb hB hm hd] at this
    exact this
  unfold f2_ruin
  generalize FU = N at hN ⊢
  simp (disch := first | omega | decide) only [lit, nmS, c_has_in σ b h hz hm, bdS, gd_ib, clI, e1]
  rw [if_neg (show ¬ nI 1 = nI 0 by decide), show oN (some (hdQ q m (nM q - 1))) = nI (hdQ q m (nM q - 1)) from rfl]
  generalize hH : hdQ q m (nM q - 1) = H at hto ⊢
  have h6 : ∀ (c : Mem), bv (f5_goBankrupt (6 * b + m) (wc σ b c)) (fun s5 => some s5) = some (wc σ b (ms (ms (zD (ms c 40 m 0 (nI 1)) m 6) 50 m 0 (nI 0)) 51 m 0 (nI 0))) := by
    intro c
    rw [c_broke σ b c (by omega), bvS]
  obtain ⟨c1, hc1, hc2⟩ := lupR (fun n i (c : Mem) => f2_ruin_l23 b (nI m) (nI H) (fun s3 => f2_ruin_l64 b (nI m) (fun s4 => bv (f5_goBankrupt (6 * b + m) s4) fun s5 => some s5) N (nI 0) s3) n (nI i) (wc σ b c)) (fun i c => E S nb na (ow1Q q m H i) x y f c) (nS q)
    (fun c => f2_ruin_l64 b (nI m) (fun s4 => bv (f5_goBankrupt (6 * b + m) s4) fun s5 => some s5) N (nI 0) (wc σ b c)) (by
      intro n i c1 hi h1
      have e31 : c1 31 0 0 = nI (nS q) := h1.t1.trans ((ow1Q_ge q m H i 1 (by omega)).trans s1)
      have e4 : c1 4 0 i = q (11 + i) := (h1.own (by omega) (by omega)).trans (ow1Q_ge q m H i (11 + i) (by omega))
      have hz1 : Sz (ow1Q q m H i) := by
        refine ⟨?_, ?_, fun m2 hm2 => ⟨?_, ?_⟩⟩
        · rw [ow1Q_ge q m H i 0 (by omega)]; exact hz.1
        · rw [ow1Q_ge q m H i 1 (by omega)]; exact hz.2.1
        · rw [show mQ (ow1Q q m H i) m2 7 = mQ q m2 7 from ow1Q_ge q m H i _ (by omega)]; exact (hz.2.2 m2 hm2).1
        · rw [show mQ (ow1Q q m H i) m2 0 = mQ q m2 0 from ow1Q_ge q m H i _ (by omega)]; exact (hz.2.2 m2 hm2).2
      have hin := c_has_in σ b h1 hz1 (m := H) (by rw [nM_of (ow1Q_ge q m H i 0 (by omega))]; omega)
      have hok : Ok S nb na 4 0 i := Or.inr (Or.inl ⟨rfl, rfl, by omega, by omega⟩)
      have hset := h1.set hok (if q (11 + i) = nI m then nI H else q (11 + i))
      have hset : E S nb na (qs (ow1Q q m H i) (11 + i) (if q (11 + i) = nI m then nI H else q (11 + i))) x y f (ms c1 4 0 i (if q (11 + i) = nI m then nI H else q (11 + i))) := hset
      rw [ow1Q_s] at hset
      by_cases e : q (11 + i) = nI m
      · rw [if_pos e] at hset
        refine ⟨_, hset, ?_⟩
        rw [f2_ruin_l23]
        simp (disch := first | omega | decide) only [lit, nmS, wc_b, e31, hin, bdS, gd_ib, clI, e4, nI_add, wc_sb]
        rw [if_neg (nI_ge hi (by omega)), if_neg (show ¬ nI 1 = nI 0 by decide), if_pos e]
      · rw [if_neg e] at hset
        have hself : ms c1 4 0 i (q (11 + i)) = c1 := by
          funext k o j
          by_cases z : k = 4 ∧ o = 0 ∧ j = i
          · obtain ⟨rfl, rfl, rfl⟩ := z
            rw [ms_eq, e4]
          · rw [ms_ne _ _ z]
        rw [hself] at hset
        refine ⟨_, hset, ?_⟩
        rw [f2_ruin_l23]
        simp (disch := first | omega | decide) only [lit, nmS, wc_b, e31, hin, bdS, gd_ib, clI, e4, nI_add, wc_sb]
        rw [if_neg (nI_ge hi (by omega)), if_neg (show ¬ nI 1 = nI 0 by decide), if_neg e]) (by
      intro n c1 h1
      have e31 : c1 31 0 0 = nI (nS q) := h1.t1.trans ((ow1Q_ge q m H (nS q) 1 (by omega)).trans s1)
      show f2_ruin_l23 _ _ _ _ (n + 1) (nI (nS q)) (wc σ b c1) = _
      rw [f2_ruin_l23]
      simp (disch := first | omega | decide) only [wc_b, e31]
      rw [if_pos (nI_le (Nat.le_refl _) (by omega))]) (nS q) 0 N c (by omega) (by omega) (by
      show E S nb na (ow1Q q m H 0) x y f c
      rw [ow1Q_0]; exact h)
  refine ⟨ms (ms (zD (ms (c64 c1 m (nM q)) 40 m 0 (nI 1)) m 6) 50 m 0 (nI 0)) 51 m 0 (nI 0), hc2.trans ?_, ?_⟩
  · have e30 : ∀ i, c64 c1 m i 30 0 0 = nI (nM q) := fun i => (c64_out _ (by omega)).trans (hc1.t0.trans ((ow1Q_ge q m H (nS q) 0 (by omega)).trans g1))
    have h9 := lup (fun n (z : Int32 × Mem) => f2_ruin_l64 b (nI m) (fun s4 => bv (f5_goBankrupt (6 * b + m) s4) fun s5 => some s5) n z.1 (wc σ b z.2)) (fun i => (nI i, c64 c1 m i)) (nM q) (some (wc σ b (ms (ms (zD (ms (c64 c1 m (nM q)) 40 m 0 (nI 1)) m 6) 50 m 0 (nI 0)) 51 m 0 (nI 0)))) ?_ ?_ (nM q) 0 N (by omega) (by omega)
    · rw [c64_0] at h9; exact h9
    · intro n i hi
      show f2_ruin_l64 _ _ _ (n + 1) (nI i) (wc σ b (c64 c1 m i)) = f2_ruin_l64 _ _ _ n (nI (i + 1)) (wc σ b (c64 c1 m (i + 1)))
      rw [f2_ruin_l64]
      simp (disch := first | omega | decide) only [lit, nmS, wc_b, e30, clI, gd_ib, nI_add, wc_sm]
      rw [if_neg (nI_ge hi (by omega)), c64_s]
    · intro n
      show f2_ruin_l64 _ _ _ (n + 1) (nI (nM q)) (wc σ b (c64 c1 m (nM q))) = _
      rw [f2_ruin_l64]
      simp (disch := first | omega | decide) only [wc_b, e30]
      rw [if_pos (nI_le (Nat.le_refl _) (by omega)), h6]
  · obtain ⟨p, hp⟩ := hb.bank
    have eb : brQ q m = qs (qs (qs (ow2Q (ow1Q q m H (nS q)) m 6) (63 + 38 * m + 0) 0) (63 + 38 * m + 7) 0) 6 (q 6 ||| (1 <<< (nI m &&& 31))) := by rw [← hH]; rfl
    have hout : ∀ k o i, ¬ k = 8 → ¬ (k = 40 ∧ o = m ∧ i = 0) → ¬ (k = 50 ∧ o = m ∧ i = 0) → ¬ (k = 51 ∧ o = m ∧ i = 0) → ms (ms (zD (ms (c64 c1 m (nM q)) 40 m 0 (nI 1)) m 6) 50 m 0 (nI 0)) 51 m 0 (nI 0) k o i = c1 k o i := by
      intro k o i h1 h2 h3 h4
      rw [ms_ne _ _ h4, ms_ne _ _ h3, zD_out _ (fun z => h1 z.1), ms_ne _ _ h2, c64_out _ (fun z => h1 z.1)]
    refine ⟨fun k o i hk => ?_, ?_, ?_, fun m2 => ?_, fun m2 hm2 => ?_⟩
    · by_cases e8 : k = 8
      · subst e8
        have hoi : o < 6 ∧ i < 6 := by
          have := hk.cases
          omega
        rw [cj_8, ms_ne _ _ (by omega), ms_ne _ _ (by omega), eb, qs_ne _ _ (by omega), qs_ne _ _ (by omega), qs_ne _ _ (by omega)]
        by_cases e : o = m ∨ i = m
        · have e2 : ow2Q (ow1Q q m H (nS q)) m 6 (27 + 6 * o + i) = 0 := if_pos (by omega)
          rw [e2]
          by_cases eo : o = m
          · rw [eo, zD_in _ hoi.2]
          · have ei : i = m := e.resolve_left eo
            rw [zD_out _ (by omega), ms_ne _ _ (by omega), ei]
            by_cases z : o < nM q
            · rw [c64_in _ z]
            · rw [c64_out _ (by omega), hc1.ow hoi.1 (by omega), show owQ (ow1Q q m H (nS q)) o m = owQ q o m from ow1Q_ge _ _ _ _ _ (by omega)]
              exact hb.debt0 o m hoi.1 (by omega) (Or.inl (by omega))
        · have e2 : ow2Q (ow1Q q m H (nS q)) m 6 (27 + 6 * o + i) = ow1Q q m H (nS q) (27 + 6 * o + i) := if_neg (by omega)
          rw [e2, zD_out _ (by omega), ms_ne _ _ (by omega), c64_out _ (by omega)]
          exact hc1.ow hoi.1 hoi.2
      · by_cases e50 : k = 50 ∧ o = m ∧ i = 0
        · obtain ⟨rfl, rfl, rfl⟩ := e50
          rw [ms_ne _ _ (by omega), ms_eq, cj_50, eb, qs_ne _ _ (by omega), qs_ne _ _ (by omega), qs_same]
          rfl
        · by_cases e51 : k = 51 ∧ o = m ∧ i = 0
          · obtain ⟨rfl, rfl, rfl⟩ := e51
            rw [ms_eq, cj_51, eb, qs_ne _ _ (by omega), qs_same]
            rfl
          · have hk0 := hk.ne
            have hk1 : Ok S nb na k o i := hk.imp (fun h1 h2 h3 => by
                by_cases z : o = m
                · rw [if_pos z] at h3; exact absurd h3 (Nat.not_lt_zero _)
                · rw [if_neg z] at h3; exact h3) (fun h1 h2 h3 => by
                by_cases z : o = m
                · rw [if_pos z] at h3; exact absurd h3 (Nat.not_lt_zero _)
                · rw [if_neg z] at h3; exact h3)
            have hn1 : cj k o i ≠ 63 + 38 * m + 0 := fun z => e50 (hk1.inj (Ok.n50 (S := S) (nb := nb) (na := na) (o := m) (by omega)) (z.trans (cj_50 m 0).symm))
            have hn2 : cj k o i ≠ 63 + 38 * m + 7 := fun z => e51 (hk1.inj (Ok.n51 (S := S) (nb := nb) (na := na) (o := m) (by omega)) (z.trans (cj_51 m 0).symm))
            have hn3 : ¬ (27 ≤ cj k o i ∧ cj k o i < 63) := by
              have := hk1.cases
              omega
            rw [hout k o i e8 (by omega) e50 e51, hc1.1 k o i hk1, eb, qs_ne _ _ (by omega), qs_ne _ _ hn2, qs_ne _ _ hn1, ow2Q_out _ _ _ _ hn3]
    · rw [hout _ _ _ (by omega) (by omega) (by omega) (by omega)]; exact hc1.2.1
    · rw [hout _ _ _ (by omega) (by omega) (by omega) (by omega)]; exact hc1.2.2.1
    · rw [hout _ _ _ (by omega) (by omega) (by omega) (by omega)]; exact hc1.2.2.2.1 m2
    · have hbk : bkQ (brQ q m) m2 = (bkQ q m2 || decide (m2 = m)) := bkQ_br hp g2 hm hm2 (by rw [eb]; exact qs_same _ _ _)
      rw [hbk]
      by_cases e : m2 = m
      · subst e
        rw [ms_ne _ _ (by omega), ms_ne _ _ (by omega), zD_out _ (by omega), ms_eq, decide_eq_true rfl, Bool.or_true]
        rfl
      · rw [hout _ _ _ (by omega) (by omega) (by omega) (by omega), decide_eq_false e, Bool.or_false, hc1.bk hm2, bkQ_of (ow1Q_ge _ _ _ _ _ (by omega))]
end CLS6
