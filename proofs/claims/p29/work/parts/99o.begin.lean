/-! THE LAW FROM ITS ENTRY -/
section BEGIN
theorem tbm {w : Cond} (i : Nat) (h : lw_tbl[i]? = some w) : w ∈ lw_tbl := List.mem_of_getElem? h
theorem nz_start {s : State} {args : Array Value} (hts : ∀ w ∈ lw_tbl, w.before args s = true) : NZ s :=
  ⟨va_AO.of (hts _ (tbm 75 (by decide +kernel))), va_AO.of (hts _ (tbm 248 (by decide +kernel))), va_Nw.of rfl (hts _ (tbm 50 (by decide +kernel))), va_Nw.of rfl (hts _ (tbm 77 (by decide +kernel))), va_Nw.of rfl (hts _ (tbm 83 (by decide +kernel))), va_Nw.of rfl (hts _ (tbm 113 (by decide +kernel)))⟩
theorem arr_p {s : State} {args : Array Value} {t : FieldType} (h : (Cond.arrayClass t).before args s = true) : ∃ cA : ClassId, ArrOfT s cA t ∧ s.vm.findClass ("[" ++ t.toString) = some cA := by
  obtain ⟨cA, kA, comp, h1, h2, h3⟩ := Cond.arrayClass_spec h
  exact ⟨cA, fun n z => ⟨fun k h => (by cases h), kA, h2, comp, h3⟩, h1⟩
theorem arr_o {s : State} {C : String} (h : va_AO C s) : ∃ cA : ClassId, ArrOfT s cA (.object C) ∧ va_RA s cA (.object C) := by
  obtain ⟨comp, c, k, h1, h2, h3, h4, h5⟩ := Cond.arrayOver_spec h
  exact ⟨c, fun n z => ⟨fun k h => (by cases h), k, h3, comp, h4⟩, k, comp, h3, h4, h1, h5⟩
set_option maxHeartbeats 4000000 in
theorem k_start {s : State} {args : Array Value} (hts : ∀ w ∈ lw_tbl, w.before args s = true) : ∃ κ : Kx, κ.1 = s.heap.size ∧ va_K κ.2.1 vwCl (tysA κ) s := by
  have hG : ∀ w ∈ GW, w.before args s = true := fun w h => hts w (List.mem_filter.mp h).1
  have hZ := nz_start hts
  obtain ⟨c0, i0, k0⟩ := u_known (C := RX0) (T := TX0) (N := 2) (n := 2) hG inK13 (hG _ (gwm 112 (by decide +kernel) (by decide +kernel)))
  obtain ⟨c1, i1, k1⟩ := u_known (C := RX1) (T := TX1) (N := 4) (n := 4) hG inK9 (hG _ (gwm 82 (by decide +kernel) (by decide +kernel)))
  obtain ⟨c2, i2, k2⟩ := u_known (C := RX2) (T := TX2) (N := 9) (n := 9) hG inK3 (hG _ (gwm 69 (by decide +kernel) (by decide +kernel)))
  obtain ⟨c3, i3, k3⟩ := u_known (C := RX3) (T := TX3) (N := 4) (n := 4) hG inK1 (hG _ (gwm 49 (by decide +kernel) (by decide +kernel)))
  obtain ⟨c4, i4, k4⟩ := u_known (C := RX4) (T := TX4) (N := 3) (n := 3) hG inK15 (hG _ (gwm 242 (by decide +kernel) (by decide +kernel)))
  obtain ⟨c5, i5, k5⟩ := u_known (C := RX5) (T := TX5) (N := 11) (n := 11) hG inK7 (hG _ (gwm 76 (by decide +kernel) (by decide +kernel)))
  obtain ⟨c6, i6, k6⟩ := u_known (C := RX6) (T := TX6) (N := 7) (n := 7) hG inK0 (hG _ (gwm 41 (by decide +kernel) (by decide +kernel)))
  obtain ⟨a0, r0, q0⟩ := arr_p (hG _ aw_int)
  obtain ⟨a1, r1, q1⟩ := arr_p (hG _ aw_boolean)
  obtain ⟨a2, r2, q2⟩ := arr_p (hG _ aw_char)
  obtain ⟨a3, r3, q3⟩ := arr_p (hG _ aw_int)
  obtain ⟨a4, r4, q4⟩ := arr_o hZ.1
  obtain ⟨a5, r5, q5⟩ := arr_o hZ.2.1
  refine ⟨(s.heap.size, (fun k => match k with | 0 => c0 | 1 => c1 | 2 => c2 | 3 => c3 | 4 => c4 | 5 => c5 | _ => c6, fun k => match k with | 0 => i0 | 1 => i1 | 2 => i2 | 3 => i3 | 4 => i4 | 5 => i5 | _ => i6), fun k => match k with | 0 => a0 | 1 => a1 | 2 => a2 | 3 => a3 | 4 => a4 | _ => a5), rfl, fun k q hq => ?_, fun k q hq => ?_⟩
  · match k, hq with
    | 0, hq => cases hq; exact k0
    | 1, hq => cases hq; exact k1
    | 2, hq => cases hq; exact k2
    | 3, hq => cases hq; exact k3
    | 4, hq => cases hq; exact k4
    | 5, hq => cases hq; exact k5
    | 6, hq => cases hq; exact k6
    | n + 7, hq => simp at hq
  · match k, hq with
    | 0, hq => cases hq; exact ⟨r0, q0⟩
    | 1, hq => cases hq; exact ⟨r1, q1⟩
    | 2, hq => cases hq; exact ⟨r2, q2⟩
    | 3, hq => cases hq; exact ⟨r3, q3⟩
    | 4, hq => cases hq; exact ⟨r4, q4⟩
    | 5, hq => cases hq; exact ⟨r5, q5⟩
    | n + 6, hq => simp [tysA] at hq
theorem g_end {κ : Kx} {p : Program} {l : Launch} {e : Env} {s : State} {m : MethodId} {below : List Frame} {meth : Method} {c : Code} {b : Nat} (hc : Cx κ (p, l, e, room_1, s, m, #[.ref b], below, meth, c) RL cL_law 6 room_1) (hr : meth.sig.returnType = ret) (hκ : κ.1 = s.heap.size) (V : Wv) (k n : Nat) (σ : Mem) (L : List (Nat × Value)) (h1 : k ≤ 676151) (h2 : n ≤ 7073171) :
    G κ (p, l, e, room_1, s, m, #[.ref b], below, meth, c) (lw_Z below #[Value.ref b] s) V k n σ L 249 [.int 1] := by
  intro H locs ls hR hS hl
  refine va_forget (fun q hq => by rw [← hκ]; exact hS.2.2 q hq) (W.widen h1 h2 ?_)
  exact lw_ret hc.1 hc.2.1 hr hc.2.2.2.2.2.2.2.1 dL_law_249
/-- THE LAW, from its entry -/
theorem whole_start {p : Program} {e : Env} {s : State} {m : MethodId} {below : List Frame} {meth : Method} {c : Code} (l : Launch) (hflags : l.flags = flags0) {b L : Nat} {xs : Nat → Int32} (hL : L ≤ 260) (C0 : lw_At p s m meth c b L xs) : W p l e room_1 s m #[Value.ref b] below meth c s.heap [] 0 0 (lw_Z below #[Value.ref b] s) (entryFrame m ([Value.ref b] : List Value).toArray 6) := by
  obtain ⟨hx, hb, hr, hml, hown, hts, hX, hbl, hlocks, hgv⟩ := id C0
  have hl9 : l.stackTraces = false := by
    unfold Launch.stackTraces
    rw [hflags]
    decide +kernel
  obtain ⟨κ, hκ, hK⟩ := k_start hts
  have hZ := nz_start hts
  have hc : Cx κ (p, l, e, room_1, s, m, #[.ref b], below, meth, c) RL cL_law 6 room_1 := ⟨hx, hb, hml, hown, fun w h => hts w (List.mem_filter.mp h).1, hK, Nat.le_of_eq hκ, hlocks, hl9, rfl, rfl⟩
  have hX9 : Xs κ (p, l, e, room_1, s, m, #[.ref b], below, meth, c) b L xs := ⟨hX, hbl, by rw [hκ]; exact hbl⟩
  have hG := law_main hc hZ hX9 hL (g_end hc hr hκ)
  have hl := lv_entry ([.ref b]) (n := 6) (Nat.le_of_ble_eq_true rfl)
  rw [lg_entry_eq]
  have hR : RelH κ (Vc 0 (fun _ _ _ => none)) d0 s.heap := ⟨fun K o h => absurd h.2 (Nat.not_lt_zero _), fun K o h => h.1, fun k hk => by cases hk; exact hκ.symm⟩
  exact hG s.heap [] _ hR va_S.rf (by rw [hml]; exact hl)
end BEGIN
