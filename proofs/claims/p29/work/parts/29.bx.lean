/-! a call that came back -/
theorem bx_in2 {β : Type} {x : Option ((Nat ⊕ Unit) × Mem)} {g : Unit → Mem → Option ((Nat ⊕ β) × Mem)} {r : β} {s2 : Mem} (h : bx x (fun e s1 => some (.inl e, s1)) g = some (.inr r, s2)) : ∃ s1 : Mem, x = some (.inr (), s1) ∧ g () s1 = some (.inr r, s2) := by
  match x, h with
  | some (.inr (), t), h => exact ⟨t, rfl, h⟩
  | some (.inl b, t), h => cases h
  | none, h => cases h
