theorem b2i_1 (p : Prop) [Decidable p] : narrow .boolean (.int (if p then 1 else 0)) = .int (if p then 1 else 0) := by
  by_cases h : p <;> simp [h] <;> rfl
