/-! the start: the memory that the two constructors leave -/
def vv_Z0 : vv_M := fun _ => fun _ => 0
def vv_M0 : vv_M := vv_dI 158 (vv_bI 0 vv_Z0)
theorem m0_a : ∀ k, k < 24 → vv_M0 3 k = vv_M0 159 k := by decide +kernel
theorem m0_b : ∀ k, k < 24 → vv_M0 4 k = vv_M0 159 (24 + k) := by decide +kernel
theorem m0_c : ∀ k, k < 4 → vv_M0 5 k = vv_M0 159 (48 + k) := by decide +kernel
theorem m0_d : vv_M0 2 5 = vv_M0 159 52 ∧ vv_M0 2 6 = vv_M0 159 53 ∧ vv_M0 2 7 = vv_M0 159 54 ∧ vv_M0 2 8 = vv_M0 159 55 := by decide +kernel
theorem m0_e : ∀ z, z < 6 → vv_M0 159 (0 + 4 * z + 0) = nI (gln (vv_M0 159) z) ∧ 2 ≤ gln (vv_M0 159) z ∧ gln (vv_M0 159) z ≤ 8 := by decide +kernel
theorem m0_f : vv_M0 159 53 = nI 0 ∧ vv_M0 159 48 = nI 2 ∧ vv_M0 159 49 = nI 3 ∧ ¬ vv_M0 159 50 < 0 ∧ ¬ vv_M0 159 51 < 0 ∧ vv_M0 159 52 = nI 0 := by decide +kernel
theorem m0_g : ∀ k, k < 24 → ¬ vv_M0 159 (24 + k) < 0 := by decide +kernel
theorem m0_h : ∀ j, j < 2 → vv_M0 9 j = vv_M0 159 (2121 + j) ∧ vv_M0 159 (2121 + j) = 0 := by decide +kernel
theorem m0_i : vv_M0 22 1 = nI 0 ∧ vv_M0 22 2 = nI 0 ∧ vv_M0 150 1 = nI 0 ∧ vv_M0 150 2 = 0 ∧ vv_M0 158 1 = nI 0 ∧ vv_M0 158 3 = nI 0 := by decide +kernel
theorem m0_top : Top 0 158 vv_M0 := by
  obtain ⟨f1, f2, f3, f4, f5, f6⟩ := m0_f
  obtain ⟨i1, i2, i3, i4, i5, i6⟩ := m0_i
  refine ⟨0, 0, i5, i6, ⟨⟨0, by omega, ⟨m0_e, f1, by omega, ⟨2, f2, by omega, by omega⟩, ⟨3, f3, by omega, by omega⟩, fun b hb => absurd hb (Nat.not_lt_zero b)⟩, ⟨m0_g, ⟨f4, f5⟩, 0, by omega, f6⟩, m0_a, m0_b, m0_c, m0_d, fun b hb => absurd hb (Nat.not_lt_zero b)⟩, fun j hj => ?_⟩, ⟨by omega, 0, by omega, i1, i2, fun i hi => absurd hi (Nat.not_lt_zero i)⟩, ⟨i3, i4, by omega, fun k hk => absurd hk (Nat.not_lt_zero k)⟩⟩
  obtain ⟨h1, h2⟩ := m0_h j hj
  exact ⟨h1, Or.inl h2, fun h => absurd (h2.symm.trans h) (by decide)⟩
theorem law_runs (sc : List Int32) (hs : sc.length ≤ 1000000) : ∃ M', f_L_law_18 5000 sc (sc.length + 1) 0 158 0 (vv_dI 158 (vv_bI 0 (fun _ => fun _ => 0))) = some (1, M') := by
  have h := law_ok (n := 5000) (P := 0) (Q := 158) (sc := sc) (by omega) (by omega) hs (sc.length + 1) 0 vv_M0 (by omega) (by omega) m0_top
  rw [show nI 0 = 0 by decide] at h
  exact h
