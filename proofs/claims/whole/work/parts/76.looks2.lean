/-! zone, curve, board, fault -/
theorem p_zone {n P Q : Nat} (hn : 5000 ≤ n) (z w : Int32) : Pr P Q (f_X4_zone n P z w) (f_X5_zone n Q z w) := by
  refine Pr.look fun M hT => ?_
  obtain ⟨l, hl, hI, hE, hR⟩ := hT.oven
  unfold f_X4_zone f_X5_zone
  rw [c_in_b, r_isZone_b]
  by_cases hz : 0 ≤ z ∧ z ≤ 5
  rotate_left
  · rw [zi_f hz]
    exact ⟨-1001, rfl, rfl⟩
  rw [zi_t hz]
  have hz' := hz
  obtain ⟨zn, hzn, rfl⟩ := i_05 hz'
  simp only [t10, ↓reduceIte]
  rw [r_in_b]
  have hM : ∀ k, k < 4 → M (P + 1 + 1 + 1) (zn * 4 + k) = M (Q + 1) (0 + 4 * zn + k) := by
    intro k hk
    rw [hR.1 _ (by omega), show zn * 4 + k = 0 + 4 * zn + k by omega]
  by_cases hw : 0 ≤ w ∧ w ≤ 6
  · rw [zi_t hw]
    have hw' := hw
    obtain ⟨wn, hwn, rfl⟩ := i_rng (m := 6) (by omega) hw'.1 hw'.2
    simp only [t10, ↓reduceIte]
    by_cases h4 : wn < 4
    · have e : (if (4 : Int32) ≤ nI wn then (if nI wn = 4 then (f_X5_firstCell n Q (nI zn) M).bind (fun (u10 : Int32 × vv_M) => some (u10.1, u10.2)) else if nI wn = 5 then (f_X5_boardsIn n Q (nI zn) M).bind (fun (u9 : Int32 × vv_M) => some (u9.1, u9.2)) else (f_X5_weightsIn n Q (nI zn) M).bind (fun (u8 : Int32 × vv_M) => some (u8.1, u8.2))) else (f_X5_ofZone n (nI zn) (nI wn) M).bind (fun (u11 : Int32 × vv_M) => if u11.1 < 0 ∨ 13445 ≤ u11.1.toNatClampNeg then none else some (u11.2 (Q + 1) u11.1.toNatClampNeg, u11.2))) = some (M (Q + 1) (0 + 4 * zn + wn), M) := by
        rw [if_neg (show ¬ (4 : Int32) ≤ nI wn from fun h => absurd ((nI_leI (a := 4) (by omega) (by omega)).mp h) (by omega)), r_ofZn_b]
        simp (disch := omega) only [ix_cl, ix_n0, ix_nge, or_self, ↓reduceIte]
      refine ⟨M (Q + 1) (0 + 4 * zn + wn), ?_, e⟩
      rw [← hM wn h4]
      simp (disch := omega) only [ix_ml, nI_add, ix_cl, ix_n0, ix_nge, or_self, ↓reduceIte]
      rcases (show wn = 0 ∨ wn = 1 ∨ wn = 2 ∨ wn = 3 by omega) with rfl | rfl | rfl | rfl <;> rfl
    · rcases (show wn = 4 ∨ wn = 5 ∨ wn = 6 by omega) with rfl | rfl | rfl
      · exact ⟨_, bnd (c_first M hR.1 hI.1 (by omega) (by omega)), bnd (r_first hI.1 (by omega) (by omega))⟩
      · exact ⟨_, bnd (c_bi (by omega) (by omega) hI hR), bnd (r_bi (by omega) (by omega) hI)⟩
      · exact ⟨_, bnd (c_wi (by omega) (by omega) hI hR), bnd (r_weightsIn M hI (by omega) (by omega))⟩
  · rw [zi_f hw]
    refine ⟨-1001, ?_, rfl⟩
    have hne : ∀ q : Nat, q ≤ 6 → w ≠ nI q := by
      intro q hq h
      subst h
      exact hw ⟨nI_pos' (by omega), nI_le (b := 6) hq (by omega)⟩
    rw [if_neg (show ¬ w = 0 from hne 0 (by omega)), if_neg (show ¬ w = 1 from hne 1 (by omega)), if_neg (show ¬ w = 2 from hne 2 (by omega)), if_neg (show ¬ w = 3 from hne 3 (by omega)), if_neg (show ¬ w = 4 from hne 4 (by omega)), if_neg (show ¬ w = 5 from hne 5 (by omega)), if_neg (show ¬ w = 6 from hne 6 (by omega))]
theorem p_curve {n P Q : Nat} (hn : 5000 ≤ n) (c w : Int32) : Pr P Q (f_X4_curve n P c w) (f_X5_curve n Q c w) := by
  refine Pr.look fun M hT => ?_
  obtain ⟨l, hl, hI, hE, hR⟩ := hT.oven
  unfold f_X4_curve f_X5_curve
  rw [c_in_b, r_isCurve_b]
  by_cases hc : 0 ≤ c ∧ c ≤ 3
  rotate_left
  · rw [zi_f hc]
    exact ⟨-1001, rfl, rfl⟩
  rw [zi_t hc]
  have hc' := hc
  obtain ⟨cn, hcn, rfl⟩ := i_03 hc'
  simp only [t10, ↓reduceIte]
  rw [r_in_b, c_in_b]
  by_cases hw : 0 ≤ w ∧ w ≤ 5
  · rw [zi_t hw]
    have hw' := hw
    obtain ⟨wn, hwn, rfl⟩ := i_05 hw'
    have e0 : M (P + 1 + 1 + 2) (cn * 6 + wn) = M (Q + 1) (24 + 6 * cn + wn) := by
      rw [hR.2.1 _ (by omega), show 24 + (cn * 6 + wn) = 24 + 6 * cn + wn by omega]
    refine ⟨M (Q + 1) (24 + 6 * cn + wn), ?_, ?_⟩
    · simp (disch := omega) only [t10, ix_ml, nI_add, ix_cl, ix_n0, ix_nge, or_self, ↓reduceIte, e0]
    · have e : f_X5_ofCurve n (nI cn) (nI wn) M = some (nI (24 + 6 * cn + wn), M) := by
        unfold f_X5_ofCurve
        rw [ix_mr, ix_ar, nI_add]
      simp (disch := omega) only [t10, ↓reduceIte, ↓bnd e, ix_cl, ix_n0, ix_nge, or_self]
  · rw [zi_f hw]
    exact ⟨-1001, rfl, rfl⟩
theorem p_board {n P Q : Nat} (hn : 5000 ≤ n) (b w : Int32) : Pr P Q (f_X4_board n P b w) (f_X5_board n Q b w) := by
  refine Pr.look fun M hT => ?_
  obtain ⟨l, hl, hI, hE, hR⟩ := hT.oven
  unfold f_X4_board f_X5_board
  rw [bnd (c_hasBoard b hR), r_isBoard_b]
  by_cases hb : 0 ≤ b ∧ b ≤ M (Q + 1) 53 - 1
  rotate_left
  · rw [zi_f hb]
    exact ⟨-1001, rfl, rfl⟩
  rw [zi_t hb]
  have hb' := hb
  rw [hI.2.1] at hb'
  obtain ⟨bn, hbn, rfl⟩ := (brd_iff (by omega)).mp hb'
  have hRb := hR.2.2.2.2 bn hbn
  simp only [t10, ↓reduceIte]
  rw [r_in_b, c_in_b]
  by_cases hw : 0 ≤ w ∧ w ≤ 10
  rotate_left
  · rw [zi_f hw]
    exact ⟨-1001, rfl, rfl⟩
  rw [zi_t hw]
  have hw' := hw
  obtain ⟨wn, hwn, rfl⟩ := i_rng (m := 10) (by omega) hw'.1 hw'.2
  have h41 : f_X5_board_41 n Q (nI bn) (nI wn) M = some (M (Q + 1) (56 + 21 * bn + wn), M) := by
    unfold f_X5_board_41
    rw [r_ofn_b]
    simp (disch := omega) only [ix_cl, ix_n0, ix_nge, or_self, ↓reduceIte]
  by_cases h3 : wn = 3
  · subst h3
    by_cases hon : M (Q + 1) (56 + 21 * bn + 2) = 0
    · refine ⟨M (Q + 1) (56 + 21 * bn + 3), ?_, ?_⟩
      · have e3 := (hRb.2.1 hon).1
        simp (disch := omega) only [t10, ix_ml, nI_add, ix_cl, ix_n0, ix_nge, or_self, ↓reduceIte, e3]
      · show (if (1 : Int32) = 0 then _ else if nI 3 = 3 then _ else _) = _
        rw [if_neg (by decide), if_pos (show nI 3 = 3 from rfl), r_isOn_b (by omega), zi_t hon]
        exact h41
    · refine ⟨-1009, ?_, ?_⟩
      · have e3 := hRb.2.2.1 hon
        simp (disch := omega) only [t10, ix_ml, nI_add, ix_cl, ix_n0, ix_nge, or_self, ↓reduceIte, e3]
      · show (if (1 : Int32) = 0 then _ else if nI 3 = 3 then _ else _) = _
        rw [if_neg (by decide), if_pos (show nI 3 = 3 from rfl), r_isOn_b (by omega), zi_f hon]
        rfl
  · refine ⟨M (Q + 1) (56 + 21 * bn + wn), ?_, ?_⟩
    · have e3 := hRb.1 wn (by omega) h3
      simp (disch := omega) only [t10, ix_ml, nI_add, ix_cl, ix_n0, ix_nge, or_self, ↓reduceIte, e3]
    · show (if (1 : Int32) = 0 then _ else if nI wn = 3 then _ else _) = _
      rw [if_neg (by decide), if_neg (show ¬ nI wn = 3 from fun h => h3 ((nI_eq (b := 3) (by omega) (by omega)).mp h))]
      exact h41
theorem and1 (y : Int32) : (y &&& 1 = 1) ↔ ¬ (y &&& 1 = 0) := by
  obtain ⟨j, hj, h⟩ := pk_andE y (m := 1) 1 (by decide)
  rw [h]
  rcases (show j = 0 ∨ j = 1 by omega) with rfl | rfl
  · decide
  · decide
theorem r_hasFault {n p b k : Nat} (M : vv_M) (hb : b ≤ 31) : f_X5_hasFault n p (nI b) (nI k) M = some (zi (gbit (M (p + 1) (56 + 21 * b + 8)) k), M) := by
  unfold f_X5_hasFault
  simp (disch := omega) only [↓r_of_b, ix_cl, ix_n0, ix_nge, or_self, ↓reduceIte]
  by_cases h : gbit (M (p + 1) (56 + 21 * b + 8)) k
  · rw [if_pos ((and1 _).mpr h), zi_t h]
  · rw [if_neg (fun q => h ((and1 _).mp q)), zi_f h]
theorem p_fault {n P Q : Nat} (hn : 5000 ≤ n) (b k w : Int32) : Pr P Q (f_X4_fault n P b k w) (f_X5_fault n Q b k w) := by
  refine Pr.look fun M hT => ?_
  obtain ⟨l, hl, hI, hE, hR⟩ := hT.oven
  unfold f_X4_fault f_X5_fault
  rw [bnd (c_hasBoard b hR), r_isBoard_b]
  by_cases hb : 0 ≤ b ∧ b ≤ M (Q + 1) 53 - 1
  rotate_left
  · rw [zi_f hb]
    exact ⟨-1001, rfl, rfl⟩
  rw [zi_t hb]
  have hb' := hb
  rw [hI.2.1] at hb'
  obtain ⟨bn, hbn, rfl⟩ := (brd_iff (by omega)).mp hb'
  have hRb := hR.2.2.2.2 bn hbn
  simp only [t10, ↓reduceIte]
  rw [r_in_b, c_in_b]
  by_cases hk : 0 ≤ k ∧ k ≤ 4
  rotate_left
  · rw [zi_f hk]
    exact ⟨-1001, rfl, rfl⟩
  rw [zi_t hk]
  have hk' := hk
  obtain ⟨kn, hkn, rfl⟩ := i_rng (m := 4) (by omega) hk'.1 hk'.2
  simp only [t10, ↓reduceIte]
  rw [r_in_b, c_in_b]
  by_cases hw : 0 ≤ w ∧ w ≤ 1
  rotate_left
  · rw [zi_f hw]
    exact ⟨-1001, rfl, rfl⟩
  rw [zi_t hw]
  simp only [t10, ↓reduceIte]
  rw [bnd (r_hasFault M (by omega))]
  have h55 : ∀ s : Nat, s = 11 ∨ s = 16 → f_X5_fault_55 n (nI kn) (Q + 1) (nI bn) (nI s) M = some (M (Q + 1) (56 + 21 * bn + (s + kn)), M) := by
    intro s hs
    unfold f_X5_fault_55
    rw [nI_add, r_ofn_b]
    simp (disch := omega) only [ix_cl, ix_n0, ix_nge, or_self, ↓reduceIte]
  have h47 : ∀ s : Nat, s ≤ 17 → f_X4_fault_47 n P (nI bn) (nI kn) (nI s) M = some (M (P + 1 + 1 + 4) (bn * 22 + (s + kn)), M) := by
    intro s hs
    unfold f_X4_fault_47
    rw [ix_ml, nI_add, nI_add, Nat.add_assoc]
    simp (disch := omega) only [ix_cl, ix_n0, ix_nge, or_self, ↓reduceIte]
  obtain ⟨q1, q2⟩ := hRb.2.2.2 kn (by omega)
  by_cases hg : gbit (M (Q + 1) (56 + 21 * bn + 8)) kn
  · obtain ⟨e1, e2⟩ := q1 hg
    rw [zi_t hg]
    by_cases h0 : w = 0
    · rw [if_pos h0, if_pos h0]
      exact ⟨_, (h47 12 (by omega)).trans (by rw [e1]), h55 11 (Or.inl rfl)⟩
    · rw [if_neg h0, if_neg h0]
      exact ⟨_, (h47 17 (by omega)).trans (by rw [e2]), h55 16 (Or.inr rfl)⟩
  · obtain ⟨e1, e2⟩ := q2 hg
    rw [zi_f hg]
    refine ⟨-1009, ?_, rfl⟩
    by_cases h0 : w = 0
    · rw [if_pos h0]
      exact (h47 12 (by omega)).trans (by rw [e1])
    · rw [if_neg h0]
      exact (h47 17 (by omega)).trans (by rw [e2])
