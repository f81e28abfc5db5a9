/-! THE REFERENCE: its small methods -/
theorem c_in (n : Nat) (x lo hi : Int32) (M : vv_M) : f_X4_isWithin n x lo hi M = some (zi (lo ≤ x ∧ x ≤ hi), M) := by
  unfold f_X4_isWithin
  by_cases h1 : x < lo
  · rw [if_pos h1, zi_f (fun h => absurd h.1 (Int32.not_le.mpr h1))]
  · rw [if_neg h1]
    by_cases h2 : hi < x
    · rw [if_pos h2, zi_f (fun h => absurd h.2 (Int32.not_le.mpr h2))]
    · rw [if_neg h2, zi_t ⟨Int32.not_lt.mp h1, Int32.not_lt.mp h2⟩]
theorem c_in_b {β : Type} {n : Nat} {x lo hi : Int32} {M : vv_M} {f : Int32 × vv_M → Option β} : (f_X4_isWithin n x lo hi M).bind f = f (zi (lo ≤ x ∧ x ≤ hi), M) := bnd (c_in n x lo hi M)
