/-! THE LAW'S ANSWER over the memory as it stands behind the constructor -/
section TRUE
variable {σ6 c0 : Mem}
theorem law_ok (hk : KM (wc d0 0 c0) σ6) (hB : Bus (anQ 2 4) c0 0) (Ls : Nat) (hL : Ls ≤ 260) (xs : Nat → Int32) : ∃ sR, fL_law Ls xs σ6 = some (1, sR) := by
  have z : ∀ k o i, isB k = false → isM k = false → σ6 k o i = nI 0 := fun k o i h2 h3 => by
    rw [hk k o i (fun e => by rw [h2] at e; cases e) (fun _ e => by rw [h3] at e; cases e), wc_out _ _ _ h2 h3]
    rfl
  have h1 : Bus (anQ 2 4) (cOf (wc d0 0 c0) 0) 0 := hB.put d0
  have h2 : Bus (anQ 2 4) (cOf σ6 0) 0 := h1.mv0 (fun k i e => hk k 0 i (fun _ => rfl) (fun e2 => by rw [e] at e2; cases e2)) (fun k o i e e2 ho => hk k _ i (fun e3 => by rw [e] at e3; cases e3) (fun _ _ => by omega))
  exact law_go h2 ⟨0, 0, by omega, by omega, z 53 0 0 (by decide) (by decide), z 52 0 0 (by decide) (by decide)⟩ (z 54 0 0 (by decide) (by decide)) hL xs
end TRUE
