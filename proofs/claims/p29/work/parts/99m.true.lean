/-! THE LAW'S ANSWER over the memory as it stands behind the constructor -/
section TRUE
variable {σ6 c0 : Mem}
theorem law_ok (hk : KM (wc d0 0 c0) σ6) (hB : Bus (anQ 2 4) c0 0) (Ls : Nat) (hL : Ls ≤ 260) (xs : Nat → Int32) : ∃ sR, fL_law Ls xs σ6 = some (1, sR) := sorry
end TRUE
