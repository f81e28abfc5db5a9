/-! THE REFERENCE: its small methods -/
theorem r_in (n : Nat) (x lo hi : Int32) (M : vv_M) : f_X5_in n x lo hi M = some (zi (lo ≤ x ∧ x ≤ hi), M) := by
  unfold f_X5_in
  by_cases h1 : x < lo
  · rw [if_pos h1, zi_f (fun h => absurd h.1 (Int32.not_le.mpr h1))]
  · rw [if_neg h1]
    by_cases h2 : hi < x
    · rw [if_pos h2, zi_f (fun h => absurd h.2 (Int32.not_le.mpr h2))]
    · rw [if_neg h2, zi_t ⟨Int32.not_lt.mp h1, Int32.not_lt.mp h2⟩]
theorem c_in (n : Nat) (x lo hi : Int32) (M : vv_M) : f_X4_isWithin n x lo hi M = some (zi (lo ≤ x ∧ x ≤ hi), M) := r_in n x lo hi M
theorem r_of (n b k : Nat) (M : vv_M) : f_X5_of n (nI b) (no_index (OfNat.ofNat k)) M = some (nI (56 + 21 * b + OfNat.ofNat k), M) := by
  unfold f_X5_of
  rw [ix_mr, ix_ar, ix_al]
theorem r_ofZ (n b k : Nat) (M : vv_M) : f_X5_ofZone n (nI b) (no_index (OfNat.ofNat k)) M = some (nI (0 + 4 * b + OfNat.ofNat k), M) := by
  unfold f_X5_ofZone
  rw [ix_mr, ix_ar, ix_al]
theorem r_ofC (n b k : Nat) (M : vv_M) : f_X5_ofCurve n (nI b) (no_index (OfNat.ofNat k)) M = some (nI (24 + 6 * b + OfNat.ofNat k), M) := by
  unfold f_X5_ofCurve
  rw [ix_mr, ix_ar, ix_al]
theorem r_isZone (n : Nat) (x : Int32) (M : vv_M) : f_X5_isZone n x M = some (zi (0 ≤ x ∧ x ≤ 5), M) := by
  unfold f_X5_isZone
  simp only [r_in, ix_bs, zi_01, if_true]
theorem r_isCurve (n : Nat) (x : Int32) (M : vv_M) : f_X5_isCurve n x M = some (zi (0 ≤ x ∧ x ≤ 3), M) := by
  unfold f_X5_isCurve
  simp only [r_in, ix_bs, zi_01, if_true]
theorem r_isBoard (n p : Nat) (x : Int32) (M : vv_M) : f_X5_isBoard n p x M = some (zi (0 ≤ x ∧ x ≤ M (p + 1) 53 - 1), M) := by
  unfold f_X5_isBoard
  simp (disch := omega) only [r_in, ix_bs, zi_01, if_true, ix_cll, ix_l0, ix_nge, or_self, if_false]
theorem r_isOn {n p b : Nat} (hb : b ≤ 31) (M : vv_M) : f_X5_isOn n p (nI b) M = some (zi (M (p + 1) (56 + 21 * b + 2) = 0), M) := by
  unfold f_X5_isOn
  simp (disch := omega) only [r_of, ix_bs, ix_gd, ix_cl, ix_n0, ix_nge, or_self, if_false]
  unfold zi
  by_cases h : M (p + 1) (56 + 21 * b + 2) = 0
  · rw [if_pos h, if_pos h]
  · rw [if_neg h, if_neg h]

theorem r_in_b {β : Type} {n : Nat} {x lo hi : Int32} {M : vv_M} {f : Int32 × vv_M → Option β} : (f_X5_in n x lo hi M).bind f = f (zi (lo ≤ x ∧ x ≤ hi), M) := bnd (r_in n x lo hi M)
theorem c_in_b {β : Type} {n : Nat} {x lo hi : Int32} {M : vv_M} {f : Int32 × vv_M → Option β} : (f_X4_isWithin n x lo hi M).bind f = f (zi (lo ≤ x ∧ x ≤ hi), M) := bnd (c_in n x lo hi M)
theorem r_of_b {β : Type} {n b k : Nat} {M : vv_M} {f : Int32 × vv_M → Option β} : (f_X5_of n (nI b) (no_index (OfNat.ofNat k)) M).bind f = f (nI (56 + 21 * b + OfNat.ofNat k), M) := bnd (r_of n b k M)
theorem r_ofZ_b {β : Type} {n b k : Nat} {M : vv_M} {f : Int32 × vv_M → Option β} : (f_X5_ofZone n (nI b) (no_index (OfNat.ofNat k)) M).bind f = f (nI (0 + 4 * b + OfNat.ofNat k), M) := bnd (r_ofZ n b k M)
theorem r_ofC_b {β : Type} {n b k : Nat} {M : vv_M} {f : Int32 × vv_M → Option β} : (f_X5_ofCurve n (nI b) (no_index (OfNat.ofNat k)) M).bind f = f (nI (24 + 6 * b + OfNat.ofNat k), M) := bnd (r_ofC n b k M)
theorem r_isZone_b {β : Type} {n : Nat} {x : Int32} {M : vv_M} {f : Int32 × vv_M → Option β} : (f_X5_isZone n x M).bind f = f (zi (0 ≤ x ∧ x ≤ 5), M) := bnd (r_isZone n x M)
theorem r_isCurve_b {β : Type} {n : Nat} {x : Int32} {M : vv_M} {f : Int32 × vv_M → Option β} : (f_X5_isCurve n x M).bind f = f (zi (0 ≤ x ∧ x ≤ 3), M) := bnd (r_isCurve n x M)
theorem r_isBoard_b {β : Type} {n p : Nat} {x : Int32} {M : vv_M} {f : Int32 × vv_M → Option β} : (f_X5_isBoard n p x M).bind f = f (zi (0 ≤ x ∧ x ≤ M (p + 1) 53 - 1), M) := bnd (r_isBoard n p x M)
