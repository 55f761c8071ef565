/-! THE LAW'S CALLS: acts -/
section ACTSL
variable {q : QS} {T : Nat} {σ σ' : Mem}
theorem sh3 {n : Nat} (h : n < 2 ^ 31) : nI n >>> (nI 3 &&& nI 31) = nI (n / 8) := pk_shrN h _ 3 (by decide)
theorem sh4 {n : Nat} (h : n < 2 ^ 31) : nI n >>> (nI 4 &&& nI 31) = nI (n / 16) := pk_shrN h _ 4 (by decide)
theorem sh5 {n : Nat} (h : n < 2 ^ 31) : nI n >>> (nI 5 &&& nI 31) = nI (n / 32) := pk_shrN h _ 5 (by decide)
theorem sh6 {n : Nat} (h : n < 2 ^ 31) : nI n >>> (nI 6 &&& nI 31) = nI (n / 64) := pk_shrN h _ 6 (by decide)
theorem sh8 {n : Nat} (h : n < 2 ^ 31) : nI n >>> (nI 8 &&& nI 31) = nI (n / 256) := pk_shrN h _ 8 (by decide)
theorem sh9 {n : Nat} (h : n < 2 ^ 31) : nI n >>> (nI 9 &&& nI 31) = nI (n / 512) := pk_shrN h _ 9 (by decide)
theorem sh11 {n : Nat} (h : n < 2 ^ 31) : nI n >>> (nI 11 &&& nI 31) = nI (n / 2048) := pk_shrN h _ 11 (by decide)
theorem an1 {n : Nat} (h : n < 2 ^ 31) : nI n &&& nI 1 = nI (n % 2) := pk_andN (by omega) 1 (by decide)
theorem an7 {n : Nat} (h : n < 2 ^ 31) : nI n &&& nI 7 = nI (n % 8) := pk_andN (by omega) 3 (by decide)
/-- the law goes on: true, and all holds of what stands then -/
def Go (T : Nat) (F : Option (Int32 × Mem)) : Prop := ∃ σ' q' T', F = some (nI 1, σ') ∧ Bus q' (cOf σ' 0) T' ∧ RI σ' ∧ Iv T' q' ∧ T' ≤ T + 20
theorem Go.now (h : Bus q (cOf σ 0) T) (hr : RI σ) (hI : Iv T q) : Go T (some (nI 1, σ)) := ⟨σ, q, T, rfl, h, hr, hI, by omega⟩
theorem bk_bit (q : QS) (m : Nat) (b : Bool) (hb : bkQ q m = b) : (abV q 9 >>> (nI m &&& nI 31)) &&& nI 1 = nI (if b = true then 1 else 0) := by
  obtain ⟨j, hj, e⟩ := pk_andE (abV q 9 >>> (nI m &&& nI 31)) (m := nI 1) 1 (by decide)
  cases b with
  | true => exact of_decide_eq_true hb
  | false =>
    have hne : ¬ ((abV q 9 >>> (nI m &&& nI 31)) &&& nI 1 = nI 1) := of_decide_eq_false hb
    rw [e] at hne ⊢
    have : j = 0 ∨ j = 1 := by omega
    rcases this with rfl | rfl
    · rfl
    · exact absurd rfl hne
def sdA (m s w y : Nat) (v r3 : Int32) (s14 : Mem) : Option (Int32 × Mem) := bd (ni (f6_send (nI m) (nI s) (nI w) v s14)) fun r4 s8 => if r4 = r3 + nI 1 then bd (ni (f6_burst (nI m) r3 (nI 0) s8)) fun r5 s10 => if r5 = nI s then bd (ni (f6_burst (nI m) r3 (nI 1) s10)) fun r6 s11 => if r6 = nI w then bd (ni (f6_burst (nI m) r3 (nI 2) s11)) fun r7 s12 => if r7 = nI y then some (nI 1, s12) else some (nI 0, s12) else some (nI 0, s11) else some (nI 0, s10) else some (nI 0, s8)
theorem sdA_ok (h : Bus q (cOf σ 0) T) (hr : RI σ) (hI : Iv T q) {m s w y : Nat} (hm : m < nM q) (hs : s < 4) (hw1 : 1 ≤ w) (hw : w ≤ 8) (hy : y < 2) (hb : bkQ q m = false) (hB : nB q m < 6) : Go T (sdA m s w y (nI y) (nI (nB q m)) σ) := by
  have hM := h.2.1.sz.M
  have hS := h.2.1.sz.S
  have hv : nI y = 0 ∨ nI y = 1 := by
    have : y = 0 ∨ y = 1 := by omega
    rcases this with rfl | rfl
    · exact Or.inl rfl
    · exact Or.inr rfl
  obtain ⟨σ', a1, A⟩ := a_send h hr hm hs hw1 hw hv hb hB
  have h' := A.1
  have eM : nM (sdQ q m s w (nI y)) = nM q := nM_of (by
    unfold sdQ
    rw [qs_ne _ _ (by omega), qs_ne _ _ (by omega), qs_ne _ _ (by omega), qs_ne _ _ (by omega)])
  have eB : nB (sdQ q m s w (nI y)) m = nB q m + 1 := by
    show (sdQ q m s w (nI y) (63 + 38 * m + 0)).toNatClampNeg = _
    unfold sdQ
    rw [qs_same, clI (by omega)]
  have hb' : ∀ k, k < 3 → ni (f6_burst (nI m) (nI (nB q m)) (nI k) σ') = some (mQ (sdQ q m s w (nI y)) m (8 + 3 * nB q m + k), σ') := fun k hk => by
    rw [a_burst h' (by omega) (by omega) hk, if_pos (by omega)]
  have c0 : mQ (sdQ q m s w (nI y)) m (8 + 3 * nB q m + 0) = nI s := by
    show sdQ q m s w (nI y) (63 + 38 * m + (8 + 3 * nB q m)) = _
    unfold sdQ
    rw [qs_ne _ _ (by omega), qs_ne _ _ (by omega), qs_ne _ _ (by omega), qs_same]
  have c1 : mQ (sdQ q m s w (nI y)) m (8 + 3 * nB q m + 1) = nI w := by
    rw [show 8 + 3 * nB q m + 1 = 9 + 3 * nB q m by omega]
    show sdQ q m s w (nI y) (63 + 38 * m + (9 + 3 * nB q m)) = _
    unfold sdQ
    rw [qs_ne _ _ (by omega), qs_ne _ _ (by omega), qs_same]
  have c2 : mQ (sdQ q m s w (nI y)) m (8 + 3 * nB q m + 2) = nI y := by
    rw [show 8 + 3 * nB q m + 2 = 10 + 3 * nB q m by omega]
    show sdQ q m s w (nI y) (63 + 38 * m + (10 + 3 * nB q m)) = _
    unfold sdQ
    rw [qs_ne _ _ (by omega), qs_same]
  unfold sdA
  rw [a1, bdS, if_pos (nI_add _ _).symm, hb' 0 (by omega), bdS, if_pos c0, hb' 1 (by omega), bdS, if_pos c1, hb' 2 (by omega), bdS, if_pos c2]
  exact ⟨σ', _, T, rfl, h', A.2.1.ri, hI.send hS.2.1 (by omega) hB hb, by omega⟩
def sdB (m s w y : Nat) (σ : Mem) : Option (Int32 × Mem) := bd (ni (f6_master (nI m) (nI 3) σ)) fun r3 s4 => if nI 6 ≤ r3 then some (nI 1, s4) else bd (ni (f6_about (nI 9) s4)) fun r8 s14 => if (r8 >>> (nI m &&& nI 31)) &&& nI 1 = nI 0 then (if nI y = nI 1 then sdA m s w y (nI 1) r3 s14 else sdA m s w y (nI 0) r3 s14) else some (nI 1, s14)
theorem sdB_ok (h : Bus q (cOf σ 0) T) (hr : RI σ) (hI : Iv T q) {m s w y : Nat} (hm : m < nM q) (hs : s < 4) (hw1 : 1 ≤ w) (hw : w ≤ 8) (hy : y < 2) : Go T (sdB m s w y σ) := by
  have hM := h.2.1.sz.M
  have hB := h.2.1.sz.B (m := m) (by omega)
  unfold sdB
  rw [a_master h hm (by omega), bdS, show msV q m 3 = nI (nB q m) from hB.1]
  by_cases e : 6 ≤ nB q m
  · rw [if_pos (nI_le e (by omega))]
    exact Go.now h hr hI
  · rw [if_neg (nI_ge (by omega) (by omega)), a_about h (by omega), bdS]
    cases hb : bkQ q m with
    | true =>
      rw [if_neg (by rw [bk_bit q m true hb]; decide)]
      exact Go.now h hr hI
    | false =>
      rw [if_pos (by rw [bk_bit q m false hb]; decide)]
      have hy2 : y = 0 ∨ y = 1 := by omega
      rcases hy2 with rfl | rfl
      · rw [if_neg (by decide)]
        exact sdA_ok h hr hI hm hs hw1 hw (by omega) hb (by omega)
      · rw [if_pos rfl]
        exact sdA_ok h hr hI hm hs hw1 hw (by omega) hb (by omega)
def tkB (m : Nat) (σ : Mem) : Option (Int32 × Mem) := bd (fL_tick (nI m) σ) fun r9 s16 => gd (zok r9) (some (r9, s16))
theorem tkB_ok (h : Bus q (cOf σ 0) T) (hr : RI σ) (hI : Iv T q) (hT : T + 3100 < 2 ^ 27) {m : Nat} (hm : m < nM q) : Go T (tkB m σ) := by
  obtain ⟨σ', e, h1, h2, h3⟩ := tck h hr hI (by omega) hm
  unfold tkB
  rw [e, bdS, gdI (show zok (nI 1) = true by decide)]
  exact ⟨σ', _, _, rfl, h1, h2, h3, by omega⟩
def psB (k : Nat) (σ : Mem) : Option (Int32 × Mem) := bd (ni (f6_about (nI 2) σ)) fun r10 s17 => bd (ni (f6_about (nI 3) s17)) fun r11 s18 => bd (ni (f6_pass (nI k) s18)) fun r12 s19 => bd (ni (f6_about (nI 3) s19)) fun r13 s20 => if r12 = nI k - (r13 - r11) then bd (ni (f6_about (nI 2) s20)) fun r14 s22 => if r14 = r10 + nI k then some (nI 1, s22) else some (nI 0, s22) else some (nI 0, s20)
theorem psB_ok (h : Bus q (cOf σ 0) T) (hr : RI σ) (hI : Iv T q) (hT : T + 3100 < 2 ^ 27) {k : Nat} (hk1 : 1 ≤ k) (hk : k ≤ 20) : Go T (psB k σ) := by
  obtain ⟨σ', a1, A⟩ := a_pass h hr hk1 (show k ≤ 99 by omega) (by omega)
  have hid := tkN_idle h.2.1 h.2.2 k (by omega)
  have e3 : abV (tkN q k) 3 = abV q 3 + nI (k - wkN q k) := hid.2
  have e2 : abV (tkN q k) 2 = abV q 2 + nI k := by
    show tkN q k 2 = q 2 + nI k
    rw [A.1.2.2, h.2.2, nI_add]
  unfold psB
  rw [a_about h (by omega), bdS, a_about h (by omega), bdS, a1, bdS, a_about A.1 (by omega), bdS, if_pos (by rw [e3, Int32.add_comm (abV q 3), Int32.add_sub_cancel, pk_sub (by omega), show k - (k - wkN q k) = wkN q k by omega]), a_about A.1 (by omega), bdS, if_pos e2]
  exact ⟨σ', _, _, rfl, A.1, A.2.1.ri, hI.ticks h.2.1 h.2.2 k (by omega), by omega⟩
def gvB (m z y l c : Nat) (σ : Mem) : Option (Int32 × Mem) := bd (ni (f6_about (nI 1) σ)) fun r15 s23 => gd (nz r15) (bd (ni (f6_owner (nI z - nI z / r15 * r15) s23)) fun r16 s24 => if nI y = nI 1 then bd (ni (f6_setLatency (nI l) (nI c) s24)) fun r20 s30 => if r20 < nI 0 then some (nI 0, s30) else some (nI 1, s30) else bd (ni (f6_about (nI 9) s24)) fun r17 s25 => if (r17 >>> (nI m &&& nI 31)) &&& nI 1 = nI 1 then some (nI 1, s25) else bd (ni (f6_give (nI z - nI z / r15 * r15) (nI m) s25)) fun r18 s27 => if r18 = r16 then bd (ni (f6_owner (nI z - nI z / r15 * r15) s27)) fun r19 s29 => if r19 = nI m then some (nI 1, s29) else some (nI 0, s29) else some (nI 0, s27))
theorem gvB_ok (h : Bus q (cOf σ 0) T) (hr : RI σ) (hI : Iv T q) {m z y l c : Nat} (hm : m < nM q) (hz : z < 2 ^ 31) (hl : l < 4) (hc : c ≤ 9) : Go T (gvB m z y l c σ) := by
  have hM := h.2.1.sz.M
  have hS := h.2.1.sz.S
  have hs : z % nS q < nS q := Nat.mod_lt _ (by omega)
  unfold gvB
  rw [a_about h (by omega), bdS, show abV q 1 = nI (nS q) from hS.1, gd_nz (by omega) (by omega), pk_rem hz (by omega) (by omega), a_owner h hs, bdS]
  by_cases e : nI y = nI 1
  · rw [if_pos e]
    obtain ⟨σ', a1, A⟩ := a_setLatency h hr hl hc
    obtain ⟨v, hv1, hv2⟩ := h.2.1.lat l hl
    rw [a1, bdS, if_neg (by rw [hv2]; exact nI_pos (by omega))]
    exact ⟨σ', _, _, rfl, A.1, A.2.1.ri, hI.lat hl _, by omega⟩
  · rw [if_neg e, a_about h (by omega), bdS]
    cases hb : bkQ q m with
    | true =>
      rw [if_pos (by rw [bk_bit q m true hb]; decide)]
      exact Go.now h hr hI
    | false =>
      rw [if_neg (by rw [bk_bit q m false hb]; decide)]
      obtain ⟨σ', a1, A⟩ := a_give h hr hs hm hb
      have eS : nS (qs q (11 + z % nS q) (nI m)) = nS q := nS_of (qs_ne _ _ (by omega))
      rw [a1, bdS, if_pos rfl, a_owner A.1 (by omega), bdS, if_pos (qs_same _ _ _)]
      exact ⟨σ', _, _, rfl, A.1, A.2.1.ri, hI.give hS.2.1 hs (by omega) hb, by omega⟩
def crB (c : Nat) (σ : Mem) : Option (Int32 × Mem) := bd (ni (f6_setCredit (nI c) σ)) fun r22 s33 => if r22 < nI 0 then some (nI 0, s33) else bd (ni (f6_about (nI 4) s33)) fun r23 s35 => if r23 = nI c then some (nI 1, s35) else some (nI 0, s35)
theorem crB_ok (h : Bus q (cOf σ 0) T) (hr : RI σ) (hI : Iv T q) {c : Nat} (hc : c ≤ 9) : Go T (crB c σ) := by
  obtain ⟨k, hk, hk2⟩ := hI.2.2.2
  obtain ⟨σ', a1, A⟩ := a_setCredit h hr hc
  unfold crB
  rw [a1, bdS, if_neg (by rw [hk2]; exact nI_pos (by omega)), a_about A.1 (by omega), bdS, if_pos (show abV (qs q 4 (nI c)) 4 = nI c from qs_same _ _ _)]
  exact ⟨σ', _, _, rfl, A.1, A.2.1.ri, hI.credit hc, by omega⟩
def fgB (m b : Nat) (x : Int32) (c : Nat) (σ : Mem) : Option (Int32 × Mem) := bd (ni (f6_owes (nI m) (nI b) σ)) fun r21 s31 => if x = nI 0 then bd (ni (f6_forgive (nI m) (nI b) s31)) fun r27 s39 => if r27 = r21 then bd (ni (f6_owes (nI m) (nI b) s39)) fun r28 s41 => if r28 = nI 0 then some (nI 1, s41) else some (nI 0, s41) else some (nI 0, s39) else if x = nI 4 then bd (ni (f6_about (nI 0) s31)) fun r24 s36 => if nI 6 ≤ r24 then crB c s36 else bd (ni (f6_addMaster s36)) fun r25 s37 => bd (ni (f6_about (nI 0) s37)) fun r26 s38 => if r25 = r26 - nI 1 then some (nI 1, s38) else some (nI 0, s38) else crB c s31
theorem fgB_ok (h : Bus q (cOf σ 0) T) (hr : RI σ) (hI : Iv T q) {m b c : Nat} (x : Int32) (hm : m < nM q) (hb : b < nM q) (hc : c ≤ 9) : Go T (fgB m b x c σ) := by
  have hM := h.2.1.sz.M
  have hS := h.2.1.sz.S
  unfold fgB
  rw [a_owes h hm hb, bdS]
  by_cases e : x = nI 0
  · rw [if_pos e]
    obtain ⟨σ', a1, A⟩ := a_forgive h hr hm hb
    have eM : nM (qs q (27 + 6 * m + b) (nI 0)) = nM q := nM_of (qs_ne _ _ (by omega))
    rw [a1, bdS, if_pos rfl, a_owes A.1 (by omega) (by omega), bdS, if_pos (show owQ (qs q (27 + 6 * m + b) (nI 0)) m b = nI 0 from qs_same _ _ _)]
    exact ⟨σ', _, _, rfl, A.1, A.2.1.ri, hI.forgive hS.2.1 (by omega) (by omega), by omega⟩
  · rw [if_neg e]
    by_cases e2 : x = nI 4
    · rw [if_pos e2, ab_M h, bdS]
      by_cases e3 : 6 ≤ nM q
      · rw [if_pos (nI_le e3 (by omega))]
        exact crB_ok h hr hI hc
      · rw [if_neg (nI_ge (by omega) (by omega))]
        obtain ⟨σ', a1, A⟩ := a_addMaster h hr (by omega)
        have eM : nM (qs q 0 (nI (nM q + 1))) = nM q + 1 := by
          show (qs q 0 (nI (nM q + 1)) 0).toNatClampNeg = _
          rw [qs_same, clI (by omega)]
        rw [a1, bdS, ab_M A.1, bdS, eM, if_pos (show nI (nM q) = nI (nM q + 1) - nI 1 from (nI_pred _).symm)]
        exact ⟨σ', _, _, rfl, A.1, A.2.1.ri, hI.join _, by omega⟩
    · rw [if_neg e2]
      exact crB_ok h hr hI hc
set_option maxHeartbeats 1000000 in
theorem acts_ok (h : Bus q (cOf σ 0) T) (hr : RI σ) (hI : Iv T q) (hT : T + 3100 < 2 ^ 27) {Y : Nat} (hY : Y < 2 ^ 31) : Go T (fL_acts (nI Y) σ) := by
  have hM := h.2.1.sz.M
  obtain ⟨Z, hZ⟩ : ∃ Z, Y / 8 = Z := ⟨_, rfl⟩
  have hZ2 : Z < 2 ^ 31 := by omega
  unfold fL_acts
  simp only [lit, nmS, n10, ↓reduceIte]
  rw [sh3 hY, hZ, an7 hY, sh3 hZ2, sh4 hZ2, sh5 hZ2, sh6 hZ2, sh8 hZ2, sh9 hZ2, sh11 hZ2, an1 (n := Z / 256) (by omega), an1 (n := Z / 2048) (by omega), pk_rem (a := Z / 64) (d := 8) (by omega) (by omega) (by omega), pk_rem (a := Z / 512) (d := 4) (by omega) (by omega) (by omega), pk_rem (a := Z / 16) (d := 20) (by omega) (by omega) (by omega), pk_rem (a := Z) (d := 4) (by omega) (by omega) (by omega), pk_rem (a := Z / 512) (d := 10) (by omega) (by omega) (by omega), pk_rem (a := Z / 32) (d := 10) (by omega) (by omega) (by omega), nI_add, nI_add, ab_M h, bdS, gd_nz (by omega) (by omega), ab_M h, bdS, gd_nz (by omega) (by omega), pk_rem (a := Z) (d := nM q) (by omega) (by omega) (by omega), pk_rem (a := Z / 8) (d := nM q) (by omega) (by omega) (by omega)]
  have hm : Z % nM q < nM q := Nat.mod_lt _ (by omega)
  have hb : Z / 8 % nM q < nM q := Nat.mod_lt _ (by omega)
  have c1 : Go T (sdB (Z % nM q) (Z / 512 % 4) (1 + Z / 64 % 8) (Z / 2048 % 2) σ) := sdB_ok h hr hI hm (by omega) (by omega) (by omega) (by omega)
  have c2 : Go T (tkB (Z % nM q) σ) := tkB_ok h hr hI hT hm
  have c3 : Go T (psB (1 + Z / 16 % 20) σ) := psB_ok h hr hI hT (by omega) (by omega)
  have c4 : Go T (gvB (Z % nM q) (Z / 8) (Z / 256 % 2) (Z % 4) (Z / 512 % 10) σ) := gvB_ok h hr hI hm (by omega) (by omega) (by omega)
  have c5 : Go T (fgB (Z % nM q) (Z / 8 % nM q) (nI Z &&& nI 12) (Z / 32 % 10) σ) := fgB_ok h hr hI _ hm hb (by omega)
  by_cases e0 : nI (Y % 8) = nI 0
  · rw [if_pos e0]; exact c1
  · rw [if_neg e0]
    by_cases e1 : nI (Y % 8) = nI 1
    · rw [if_pos e1]; exact c1
    · rw [if_neg e1]
      by_cases e2 : nI (Y % 8) = nI 2
      · rw [if_pos e2]; exact c1
      · rw [if_neg e2]
        by_cases e3 : nI (Y % 8) = nI 3
        · rw [if_pos e3]; exact c2
        · rw [if_neg e3]
          by_cases e4 : nI (Y % 8) = nI 4
          · rw [if_pos e4]; exact c2
          · rw [if_neg e4]
            by_cases e5 : nI (Y % 8) = nI 5
            · rw [if_pos e5]; exact c3
            · rw [if_neg e5]
              by_cases e6 : nI (Y % 8) = nI 6
              · rw [if_pos e6]; exact c4
              · rw [if_neg e6]; exact c5
end ACTSL
