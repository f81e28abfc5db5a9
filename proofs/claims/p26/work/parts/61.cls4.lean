/-! the weights and the warmths -/
theorem c_sum23 {n p l : Nat} (hn : 40 ≤ n) {M : vv_M} {g : Nat → Int32} (hI : gInv g l) (hR : Ro p M g l) : ∀ (j b k : Nat) (W : Nat → Int32), b + j = l → j < k → (∀ z, z < 6 → W z = gW g z b) → ∃ W', f_X2_sumWeights_23 n k p (nI b) (va_up M (p + 5) W) = some ((), va_up M (p + 5) W') ∧ ∀ z, z < 6 → W' z = gW g z l := by
  have h31 := hI.2.2.1
  have h6 : M p 6 = nI l := hR.2.2.2.1.2.1.trans hI.2.1
  intro j
  induction j with
  | zero =>
    intro b k W hb hk hW
    obtain ⟨k, rfl⟩ : ∃ q, k = q + 1 := ⟨k - 1, by omega⟩
    obtain rfl : b = l := by omega
    refine ⟨W, ?_, hW⟩
    rw [f_X2_sumWeights_23.eq_2, up_n (by omega), h6, if_pos (nI_le (Nat.le_refl _) (by omega))]
  | succ j ih =>
    intro b k W hb hk hW
    obtain ⟨k, rfl⟩ : ∃ q, k = q + 1 := ⟨k - 1, by omega⟩
    have hRb := hR.2.2.2.2 b (by omega)
    have h6' : (nI l ≤ nI b) = False := eq_false (fun h => absurd ((nI_leI (by omega) (by omega)).mp h) (by omega))
    have e2 : M (p + 4) (b * 22 + 2) = g (56 + 21 * b + 2) := hRb.1 2 (by omega) (by omega)
    have e1 : M (p + 4) (b * 22 + 1) = g (56 + 21 * b + 1) := hRb.1 1 (by omega) (by omega)
    rw [f_X2_sumWeights_23.eq_2]
    by_cases hon : g (56 + 21 * b + 2) = 0
    · have hz7 := gZone_lt g (gcell g b)
      have e11 := (hRb.2.1 hon).2
      obtain ⟨W', h1, h2⟩ := ih (b + 1) k (upd W (gZone g (gcell g b)) (W (gZone g (gcell g b)) + g (56 + 21 * b + 1))) (by omega) (by omega) (by
        intro z hz
        show _ = if g (56 + 21 * b + 2) = 0 ∧ gZone g (gcell g b) = z then gW g z b + g (56 + 21 * b + 1) else gW g z b
        by_cases hzz : gZone g (gcell g b) = z
        · rw [if_pos ⟨hon, hzz⟩, hzz, ud_s, hW z hz]
        · rw [if_neg (fun q => hzz q.2), ud_ne (fun q => hzz q.symm), hW z hz])
      refine ⟨W', ?_, h2⟩
      rw [← h1]
      simp (disch := omega) only [ix_al, ix_ar, ix_ml, ix_mr, ix_cl, ix_cll, ix_n0, ix_l0, ix_nge, or_self, ↓reduceIte, ↓ix_let, ix_bs, up_s, bx_uu, up_n, h6, h6', e2, hon, e1, e11, f_X2_sumWeights_72]
    · obtain ⟨W', h1, h2⟩ := ih (b + 1) k W (by omega) (by omega) (by
        intro z hz
        show _ = if g (56 + 21 * b + 2) = 0 ∧ gZone g (gcell g b) = z then gW g z b + g (56 + 21 * b + 1) else gW g z b
        rw [if_neg (fun q => hon q.1), hW z hz])
      refine ⟨W', ?_, h2⟩
      rw [← h1]
      simp (disch := omega) only [ix_al, ix_ar, ix_ml, ix_mr, ix_cl, ix_cll, ix_n0, ix_l0, ix_nge, or_self, ↓reduceIte, ↓ix_let, ix_bs, up_s, bx_uu, up_n, h6, h6', e2, hon, f_X2_sumWeights_72]
theorem c_sum2 {n p l : Nat} (hn : 40 ≤ n) {M : vv_M} {g : Nat → Int32} (hI : gInv g l) (hR : Ro p M g l) : ∀ (j z k : Nat) (W : Nat → Int32), z + j = 6 → j < k → (∀ q, q < z → W q = 0) → ∃ W', f_X2_sumWeights_2 n k p (nI z) (va_up M (p + 5) W) = some ((), va_up M (p + 5) W') ∧ ∀ z, z < 6 → W' z = gW g z l := by
  intro j
  induction j with
  | zero =>
    intro z k W hz hk hW
    obtain ⟨k, rfl⟩ : ∃ q, k = q + 1 := ⟨k - 1, by omega⟩
    obtain rfl : z = 6 := by omega
    rw [f_X2_sumWeights_2.eq_2]
    have h31 := hI.2.2.1
    exact c_sum23 hn hI hR l 0 n W (by omega) (by omega) (fun q hq => hW q hq)
  | succ j ih =>
    intro z k W hz hk hW
    obtain ⟨k, rfl⟩ : ∃ q, k = q + 1 := ⟨k - 1, by omega⟩
    obtain ⟨W', h1, h2⟩ := ih (z + 1) k (upd W z 0) (by omega) (by omega) (by
      intro q hq
      by_cases hqz : q = z
      · rw [hqz, ud_s]
      · rw [ud_ne hqz]
        exact hW q (by omega))
    refine ⟨W', ?_, h2⟩
    rw [f_X2_sumWeights_2.eq_2, ← h1]
    simp (disch := omega) only [ix_al, ix_ar, ix_ml, ix_mr, ix_cl, ix_cll, ix_n0, ix_l0, ix_nge, or_self, ↓reduceIte, ↓ix_let, ix_bs, up_s, bx_uu, ix_lel]
theorem c_sumWeights {n p l : Nat} (hn : 40 ≤ n) {M : vv_M} {g : Nat → Int32} (hI : gInv g l) (hR : Ro p M g l) : ∃ W, f_X2_sumWeights n p M = some ((), va_up M (p + 5) W) ∧ ∀ z, z < 6 → W z = gW g z l := by
  have h := c_sum2 hn hI hR 6 0 n (M (p + 5)) (by omega) (by omega) (fun q hq => absurd hq (Nat.not_lt_zero q))
  rw [up_id] at h
  exact h
theorem Ro_w {p l : Nat} {M : vv_M} {g W : Nat → Int32} (h : Ro p M g l) : Ro p (va_up M (p + 5) W) g l := by
  obtain ⟨h1, h2, h3, ⟨h4, h5, h6, h7⟩, h8⟩ := h
  refine ⟨?_, ?_, ?_, ?_, ?_⟩
  · rw [up_n (by omega)]; exact h1
  · rw [up_n (by omega)]; exact h2
  · rw [up_n (by omega)]; exact h3
  · rw [up_n (by omega)]; exact ⟨h4, h5, h6, h7⟩
  · rw [up_n (by omega)]; exact h8
theorem gW_congr {g g' : Nat → Int32} (hz : ∀ z, z < 6 → g' (0 + 4 * z + 0) = g (0 + 4 * z + 0)) (h : ∀ i, 56 ≤ i → g' i = g i) (z : Nat) : ∀ l, gW g' z l = gW g z l := by
  intro l
  induction l with
  | zero => rfl
  | succ l ih =>
    show (if g' (56 + 21 * l + 2) = 0 ∧ gZone g' (gcell g' l) = z then gW g' z l + g' (56 + 21 * l + 1) else gW g' z l) = (if g (56 + 21 * l + 2) = 0 ∧ gZone g (gcell g l) = z then gW g z l + g (56 + 21 * l + 1) else gW g z l)
    have e : gcell g' l = gcell g l := by
      unfold gcell
      rw [h _ (by omega)]
    rw [e, gZone_congr hz, ih, h _ (by omega), h _ (by omega)]
/-- a change below the boards, on both sides -/
theorem Ro_zone {p l z : Nat} {M : vv_M} {g : Nat → Int32} {v : Int32} (h : Ro p M g l) (hz : z < 6) : Ro p (va_up M (p + 1) (upd (M (p + 1)) (z * 4 + 3) v)) (upd g (0 + 4 * z + 3) v) l := by
  obtain ⟨h1, h2, h3, ⟨h4, h5, h6, h7⟩, h8⟩ := h
  refine ⟨fun k hk => ?_, fun k hk => ?_, fun k hk => ?_, ⟨?_, ?_, ?_, ?_⟩, fun b hb => ?_⟩
  · rw [up_s]
    by_cases hk2 : k = z * 4 + 3
    · rw [hk2, ud_s, show z * 4 + 3 = 0 + 4 * z + 3 by omega, ud_s]
    · rw [ud_ne hk2, ud_ne (by omega)]; exact h1 k hk
  · rw [up_n (by omega), ud_ne (by omega)]; exact h2 k hk
  · rw [up_n (by omega), ud_ne (by omega)]; exact h3 k hk
  · rw [up_n (by omega), ud_ne (by omega)]; exact h4
  · rw [up_n (by omega), ud_ne (by omega)]; exact h5
  · rw [up_n (by omega), ud_ne (by omega)]; exact h6
  · rw [up_n (by omega), ud_ne (by omega)]; exact h7
  · rw [up_n (by omega)]
    exact Rb_congr (h8 b hb) (fun j hj => rfl) (fun j hj => ud_ne (by omega)) (fun x => gZone_congr (fun q hq => ud_ne (by omega)) x)
theorem max_i (n : Nat) (x y : Int32) (M : vv_M) : f_J9_max_7cf53 n x y M = some (if y ≤ x then x else y, M) := by
  unfold f_J9_max_7cf53
  by_cases h : x < y
  · rw [if_pos h, if_neg (Int32.not_le.mpr h)]
  · rw [if_neg h, if_pos (Int32.not_lt.mp h)]
theorem min_i (n : Nat) (x y : Int32) (M : vv_M) : f_J9_min_7cf53 n x y M = some (if x ≤ y then x else y, M) := by
  unfold f_J9_min_7cf53
  by_cases h : y < x
  · rw [if_pos h, if_neg (Int32.not_le.mpr h)]
  · rw [if_neg h, if_pos (Int32.not_lt.mp h)]
theorem c_cool (w : Int32) : (if w ≤ 20 then (20 : Int32) else w) = if 20 ≤ w then w else 20 := by
  by_cases h : w ≤ 20
  · rw [if_pos h]
    by_cases h2 : (20 : Int32) ≤ w
    · rw [if_pos h2]; exact Int32.le_antisymm h2 h
    · rw [if_neg h2]
  · rw [if_neg h, if_pos (Int32.le_of_lt (Int32.not_le.mp h))]
theorem c_warmths {n p l : Nat} (hn : 40 ≤ n) : ∀ (j z k : Nat) (M : vv_M) (g : Nat → Int32), z + j = 6 → j < k → gInv g l → Ro p M g l → (∀ z, z < 6 → M (p + 5) z = gW g z l) → ∃ M', f_X2_changeWarmths_6 n k p (nI z) M = some ((), M') ∧ Ro p M' (pif (gHeat l) z j g) l ∧ Fr p M M' := by
  intro j
  induction j with
  | zero =>
    intro z k M g hz hk hI hR hW
    obtain ⟨k, rfl⟩ : ∃ q, k = q + 1 := ⟨k - 1, by omega⟩
    obtain rfl : z = 6 := by omega
    refine ⟨M, ?_, hR, Fr.rf⟩
    rw [f_X2_changeWarmths_6.eq_2]
    rfl
  | succ j ih =>
    intro z k M g hz hk hI hR hW
    obtain ⟨k, rfl⟩ : ∃ q, k = q + 1 := ⟨k - 1, by omega⟩
    have ew := hW z (by omega)
    have d1 : M (p + 1) (z * 4 + 1) = g (0 + 4 * z + 1) := by rw [hR.1 _ (by omega), show z * 4 + 1 = 0 + 4 * z + 1 by omega]
    have d2 : M (p + 1) (z * 4 + 2) = g (0 + 4 * z + 2) := by rw [hR.1 _ (by omega), show z * 4 + 2 = 0 + 4 * z + 2 by omega]
    have d3 : M (p + 1) (z * 4 + 3) = g (0 + 4 * z + 3) := by rw [hR.1 _ (by omega), show z * 4 + 3 = 0 + 4 * z + 3 by omega]
    have d51 : M (p + 3) 3 = g 51 := hR.2.2.1 3 (by omega)
    have h5 : ((5 : Int32) = 0) = False := by decide
    have hR2 := Ro_zone (z := z) (v := gNew (g (0 + 4 * z + 3) - g 51 * gW g z l / 5) (g (0 + 4 * z + 1)) (g (0 + 4 * z + 2))) hR (by omega)
    obtain ⟨M', h1, h2, h3⟩ := ih (z + 1) k _ (gHeat l z g) (by omega) (by omega) (gHeat_inv hI (by omega)) hR2 (by
      intro q hq
      rw [up_n (by omega), hW q hq]
      exact (gW_congr (fun z hz => ud_ne (by omega)) (fun i hi => ud_ne (by omega)) q l).symm)
    refine ⟨M', ?_, h2, Fr.tr (Fr.up (by omega)) h3⟩
    rw [f_X2_changeWarmths_6.eq_2, ← h1]
    simp (disch := omega) only [ix_al, ix_ar, ix_ml, ix_mr, ix_cl, ix_cll, ix_n0, ix_l0, ix_nge, or_self, ↓reduceIte, ↓ix_let, ix_bs, up_s, bx_uu, ix_lel, d1, d2, d3, d51, h5, ew, max_i, min_i, c_cool, f_X2_changeWarmths_66, f_X2_changeWarmths_97]
    unfold gNew
    generalize (if (20 : Int32) ≤ g (0 + 4 * z + 3) - g 51 * gW g z l / 5 then g (0 + 4 * z + 3) - g 51 * gW g z l / 5 else 20) = w
    refine ife (fun h => ?_) (fun h => ?_)
    · rw [if_pos h]
    · rw [if_neg h]
theorem c_changeWarmths {n p l : Nat} (hn : 40 ≤ n) {M : vv_M} {g : Nat → Int32} (hI : gInv g l) (hR : Ro p M g l) : ∃ M', f_X2_changeWarmths n p M = some ((), M') ∧ Ro p M' (pif (gHeat l) 0 6 g) l ∧ Fr p M M' := by
  obtain ⟨W, h1, h2⟩ := c_sumWeights hn hI hR
  obtain ⟨M', h3, h4, h5⟩ := c_warmths hn 6 0 n (va_up M (p + 5) W) g (by omega) (by omega) hI (Ro_w hR) (by
    intro z hz
    rw [up_s]
    exact h2 z hz)
  refine ⟨M', ?_, h4, Fr.tr (Fr.up (by omega)) h5⟩
  unfold f_X2_changeWarmths
  rw [bnd h1]
  exact h3
