/-! THE LAW: the constructor, then all else -/
section LAW
variable {κ : Kx} {φ : Fr} {Q : State → Prop} {b Ls : Nat} {xs : Nat → Int32}
theorem g_conv {V V2 : Wv} {k n pc : Nat} {σ : Mem} {L : List (Nat × Value)} {st : List Value} (h : ∀ H : Heap, RelH κ V σ H → RelH κ V2 σ H) (kk : G κ φ Q V2 k n σ L pc st) : G κ φ Q V k n σ L pc st := by
  obtain ⟨p, l, e, R, s, m, args, below, meth, c⟩ := φ
  intro H locs ls hR hS hl
  exact kk H locs ls (h H hR) hS hl
set_option maxHeartbeats 8000000 in
theorem law_main (hc : Cx κ φ RL cL_law 6 room_1) (hn : Nx φ) (hX : Xs κ φ b Ls xs) (hL : Ls ≤ 260) (hend : ∀ (V : Wv) (k n : Nat) (σ : Mem) (L : List (Nat × Value)), k ≤ 676151 → n ≤ 7073171 → G κ φ Q V k n σ L 249 [.int 1]) :
    G κ φ Q (Vc 0 (fun _ _ _ => none)) 0 0 d0 [(0, .ref b)] 0 [] := by
  have z0 : Zr 0 d0 (fun _ _ _ => none) := fun k o i _ => ⟨rfl, rfl⟩
  refine g_newO (K := 0) (o := 0) hc nw_L_10 (by decide) (by decide) z0 (by decide) (by decide) dL_law_0 (pc2 := 3) rfl ?_
  refine g_dup hc rfl dL_law_3 (pc2 := 4) rfl ?_
  refine g_cP (As := []) hc hn (i_X6 (z0.up (by decide))) ci_L_70 rfl rfl (by decide) (by decide) (Nat.le_of_ble_eq_true rfl) dL_law_4 (pc2 := 7) rfl fun V2 σ1 hP => ?_
  obtain ⟨g1, c0, rfl, z1, u1, hB, hkm⟩ := hP
  refine g_astore_n (i := 1) (L1 := [(1, .ref (ad κ.1 0 0)), (0, .ref b)]) hc rfl (by decide) rfl dL_law_7 (pc2 := 8) rfl ?_
  refine g_conv (V2 := NV κ (fun _ => 0)) (fun H h => toNV u1 h) ?_
  refine g_sub [1, 0] rfl ?_
  refine g_widen (k2 := 995) (n2 := 12304) (by decide) (by decide) ?_
  obtain ⟨sR, hf⟩ := law_ok hkm hB Ls hL xs
  exact kL_law hc hX hend hf
end LAW
