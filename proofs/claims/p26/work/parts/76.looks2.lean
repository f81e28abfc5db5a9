/-! zone, curve, board, fault -/
theorem and1 (y : Int32) : (y &&& 1 = 1) ↔ ¬ (y &&& 1 = 0) := by
  obtain ⟨j, hj, h⟩ := pk_andE y (m := 1) 1 (by decide)
  rw [h]
  rcases (show j = 0 ∨ j = 1 by omega) with rfl | rfl
  · decide
  · decide
