/-! looks at the whole object -/
theorem Gq.oven {P r len : Nat} {M : vv_M} {f T : Nat → Int32} {h : Nat → Nat → Int32} (hG : Gq P M f h r len T) : gl f ≤ 30 ∧ gInv f (gl f) ∧ gE f ∧ Ro (P + 1 + 1) M f (gl f) := by
  obtain ⟨⟨l, h1, h2, h3, h4⟩, -⟩ := hG.1
  have e := gl_eq h2
  rw [e]
  exact ⟨h1, h2, h3, h4⟩
def vC (f : Nat → Int32) (x : Int32) : Int32 := if x = 0 then f 52 else if x = 1 then f 53 else if x = 2 then gMany f 0 (gl f) else if x = 3 then gMany f 1 (gl f) else if x = 4 then gOkn f (gl f) else if x = 5 then gMany f 2 (gl f) else if x = 6 then nI (gPre f 6) else if x = 7 then f 48 else if x = 8 then f 49 else if x = 9 then f 50 else if x = 10 then f 51 else if x = 11 then f 54 else if x = 12 then f 55 else if x = 13 then f 2121 + f 2122 else -1001
theorem q_count {n P r len : Nat} {M : vv_M} {f T : Nat → Int32} {h : Nat → Nat → Int32} (hn : 5000 ≤ n) (hG : Gq P M f h r len T) (x : Int32) (h14 : x ≠ 14) (h15 : x ≠ 15) : f_X4_count n P x M = some (vC f x, M) := by
  obtain ⟨hl, hI, hE, hR⟩ := hG.oven
  obtain ⟨hMo, -, -⟩ := hG
  obtain ⟨e52, e53, e54, e55⟩ := hR.2.2.2.1
  have e48 := hR.2.2.1 0 (by omega)
  have e49 := hR.2.2.1 1 (by omega)
  have e50 := hR.2.2.1 2 (by omega)
  have e51 := hR.2.2.1 3 (by omega)
  have hm : ∀ s, f_X2_boardsThatAre n (P + 1 + 1) s M = some (gMany f s (gl f), M) := fun s => c_many (by omega) s hI hR
  unfold f_X4_count vC
  by_cases h0 : x = 0
  · rw [if_pos h0, if_pos h0, e52]
  rw [if_neg h0, if_neg h0]
  by_cases h1 : x = 1
  · rw [if_pos h1, if_pos h1, e53]
  rw [if_neg h1, if_neg h1]
  by_cases h2 : x = 2
  · rw [if_pos h2, if_pos h2]
    exact bnd (hm 0)
  rw [if_neg h2, if_neg h2]
  by_cases h3 : x = 3
  · rw [if_pos h3, if_pos h3]
    exact bnd (hm 1)
  rw [if_neg h3, if_neg h3]
  by_cases h4 : x = 4
  · rw [if_pos h4, if_pos h4]
    exact bnd (c_okn (by omega) hI hR)
  rw [if_neg h4, if_neg h4]
  by_cases h5 : x = 5
  · rw [if_pos h5, if_pos h5]
    exact bnd (hm 2)
  rw [if_neg h5, if_neg h5]
  by_cases h6 : x = 6
  · rw [if_pos h6, if_pos h6]
    exact bnd (c_belt M hR.1 hI.1 (by omega))
  rw [if_neg h6, if_neg h6]
  by_cases h7 : x = 7
  · rw [if_pos h7, if_pos h7]
    simp (disch := omega) only [ix_cll, ix_l0, ix_nge, or_self, ↓reduceIte, e48]
  rw [if_neg h7, if_neg h7]
  by_cases h8 : x = 8
  · rw [if_pos h8, if_pos h8]
    simp (disch := omega) only [ix_cll, ix_l0, ix_nge, or_self, ↓reduceIte, e49]
  rw [if_neg h8, if_neg h8]
  by_cases h9 : x = 9
  · rw [if_pos h9, if_pos h9]
    simp (disch := omega) only [ix_cll, ix_l0, ix_nge, or_self, ↓reduceIte, e50]
  rw [if_neg h9, if_neg h9]
  by_cases h10 : x = 10
  · rw [if_pos h10, if_pos h10]
    simp (disch := omega) only [ix_cll, ix_l0, ix_nge, or_self, ↓reduceIte, e51]
  rw [if_neg h10, if_neg h10]
  by_cases h11 : x = 11
  · rw [if_pos h11, if_pos h11, e54]
  rw [if_neg h11, if_neg h11]
  by_cases h12 : x = 12
  · rw [if_pos h12, if_pos h12, e55]
  rw [if_neg h12, if_neg h12]
  by_cases h13 : x = 13
  · rw [if_pos h13, if_pos h13]
    exact bnd (c_snaps (by omega) hMo)
  rw [if_neg h13, if_neg h13, if_neg h14, if_neg h15]
def vZ (f : Nat → Int32) (z w : Nat) : Int32 := if w < 4 then f (0 + 4 * z + w) else if w = 4 then nI (gPre f z) else if w = 5 then gBi f z (gl f) else gW f z (gl f)
theorem q_zone {n P r len z w : Nat} {M : vv_M} {f T : Nat → Int32} {h : Nat → Nat → Int32} (hn : 5000 ≤ n) (hG : Gq P M f h r len T) (hz : z < 6) (hw : w < 7) : f_X4_zone n P (nI z) (nI w) M = some (vZ f z w, M) := by
  obtain ⟨hl, hI, hE, hR⟩ := hG.oven
  unfold f_X4_zone vZ
  rw [c_in_b, zi_t ⟨nI_pos' (by omega), nI_le (b := 5) (by omega) (by omega)⟩]
  simp only [t10, ↓reduceIte]
  have hM : ∀ k, k < 4 → M (P + 1 + 1 + 1) (z * 4 + k) = f (0 + 4 * z + k) := by
    intro k hk
    rw [hR.1 _ (by omega), show z * 4 + k = 0 + 4 * z + k by omega]
  by_cases h4 : w < 4
  · rw [if_pos h4, ← hM w h4]
    simp (disch := omega) only [ix_ml, nI_add, ix_cl, ix_n0, ix_nge, or_self, ↓reduceIte]
    rcases (show w = 0 ∨ w = 1 ∨ w = 2 ∨ w = 3 by omega) with rfl | rfl | rfl | rfl <;> rfl
  · rw [if_neg h4]
    rcases (show w = 4 ∨ w = 5 ∨ w = 6 by omega) with rfl | rfl | rfl
    · exact bnd (c_first M hR.1 hI.1 (by omega) (by omega))
    · exact bnd (c_bi (by omega) (by omega) hI hR)
    · exact bnd (c_wi (by omega) (by omega) hI hR)
theorem q_curve {n P r len c w : Nat} {M : vv_M} {f T : Nat → Int32} {h : Nat → Nat → Int32} (hG : Gq P M f h r len T) (hc : c < 4) (hw : w < 6) : f_X4_curve n P (nI c) (nI w) M = some (f (24 + 6 * c + w), M) := by
  obtain ⟨hl, hI, hE, hR⟩ := hG.oven
  unfold f_X4_curve
  rw [c_in_b, zi_t ⟨nI_pos' (by omega), nI_le (b := 3) (by omega) (by omega)⟩]
  simp only [t10, ↓reduceIte]
  rw [c_in_b, zi_t ⟨nI_pos' (by omega), nI_le (b := 5) (by omega) (by omega)⟩]
  have e0 : M (P + 1 + 1 + 2) (c * 6 + w) = f (24 + 6 * c + w) := by
    rw [hR.2.1 _ (by omega), show 24 + (c * 6 + w) = 24 + 6 * c + w by omega]
  simp (disch := omega) only [t10, ix_ml, nI_add, ix_cl, ix_n0, ix_nge, or_self, ↓reduceIte, e0]
def vB (f : Nat → Int32) (b w : Nat) : Int32 := if w = 3 then (if f (56 + 21 * b + 2) = 0 then f (56 + 21 * b + 3) else -1009) else f (56 + 21 * b + w)
theorem q_board {n P r len b w : Nat} {M : vv_M} {f T : Nat → Int32} {h : Nat → Nat → Int32} (hG : Gq P M f h r len T) (hb : b < gl f) (hw : w < 11) : f_X4_board n P (nI b) (nI w) M = some (vB f b w, M) := by
  obtain ⟨hl, hI, hE, hR⟩ := hG.oven
  have hRb := hR.2.2.2.2 b hb
  unfold f_X4_board vB
  rw [bnd (c_hasBoard (nI b) hR), zi_t (by rw [hI.2.1]; exact (brd_iff (by omega)).mpr ⟨b, hb, rfl⟩)]
  simp only [t10, ↓reduceIte]
  rw [c_in_b, zi_t ⟨nI_pos' (by omega), nI_le (b := 10) (by omega) (by omega)⟩]
  by_cases h3 : w = 3
  · subst h3
    rw [if_pos rfl]
    by_cases hon : f (56 + 21 * b + 2) = 0
    · have e3 := (hRb.2.1 hon).1
      rw [if_pos hon]
      simp (disch := omega) only [t10, ix_ml, nI_add, ix_cl, ix_n0, ix_nge, or_self, ↓reduceIte, e3]
    · have e3 := hRb.2.2.1 hon
      rw [if_neg hon]
      simp (disch := omega) only [t10, ix_ml, nI_add, ix_cl, ix_n0, ix_nge, or_self, ↓reduceIte, e3]
  · rw [if_neg h3]
    have e3 := hRb.1 w (by omega) h3
    simp (disch := omega) only [t10, ix_ml, nI_add, ix_cl, ix_n0, ix_nge, or_self, ↓reduceIte, e3]
theorem q_noboard {n P r len : Nat} {M : vv_M} {f T : Nat → Int32} {h : Nat → Nat → Int32} (hG : Gq P M f h r len T) (w : Int32) : f_X4_board n P 30 w M = some (-1001, M) ∧ f_X4_foretell n P 30 w M = some (-1001, M) := by
  obtain ⟨hl, hI, hE, hR⟩ := hG.oven
  have hno : ¬ ((0 : Int32) ≤ 30 ∧ (30 : Int32) ≤ f 53 - 1) := by
    rw [hI.2.1]
    intro q
    obtain ⟨b, hb, e⟩ := (brd_iff (x := 30) (by omega)).mp q
    have := (nI_eq (a := 30) (b := b) (by omega) (by omega)).mp e
    omega
  constructor
  · unfold f_X4_board
    rw [bnd (c_hasBoard 30 hR), zi_f hno]
    rfl
  · unfold f_X4_foretell
    rw [bnd (c_hasBoard 30 hR), zi_f hno]
    rfl
def vF (f : Nat → Int32) (b k w : Nat) : Int32 := if gbit (f (56 + 21 * b + 8)) k then f (56 + 21 * b + (11 + 5 * w + k)) else -1009
theorem q_fault {n P r len b k w : Nat} {M : vv_M} {f T : Nat → Int32} {h : Nat → Nat → Int32} (hG : Gq P M f h r len T) (hb : b < gl f) (hk : k < 5) (hw : w < 2) : f_X4_fault n P (nI b) (nI k) (nI w) M = some (vF f b k w, M) := by
  obtain ⟨hl, hI, hE, hR⟩ := hG.oven
  have hRb := hR.2.2.2.2 b hb
  unfold f_X4_fault vF
  rw [bnd (c_hasBoard (nI b) hR), zi_t (by rw [hI.2.1]; exact (brd_iff (by omega)).mpr ⟨b, hb, rfl⟩)]
  simp only [t10, ↓reduceIte]
  rw [c_in_b, zi_t ⟨nI_pos' (by omega), nI_le (b := 4) (by omega) (by omega)⟩]
  simp only [t10, ↓reduceIte]
  rw [c_in_b, zi_t ⟨nI_pos' (by omega), nI_le (b := 1) (by omega) (by omega)⟩]
  simp only [t10, ↓reduceIte]
  have h47 : ∀ s : Nat, s ≤ 17 → f_X4_fault_47 n P (nI b) (nI k) (nI s) M = some (M (P + 1 + 1 + 4) (b * 22 + (s + k)), M) := by
    intro s hs
    unfold f_X4_fault_47
    rw [ix_ml, nI_add, nI_add, Nat.add_assoc]
    simp (disch := omega) only [ix_cl, ix_n0, ix_nge, or_self, ↓reduceIte]
  obtain ⟨q1, q2⟩ := hRb.2.2.2 k hk
  rcases (show w = 0 ∨ w = 1 by omega) with rfl | rfl
  · rw [if_pos (show nI 0 = 0 from rfl)]
    refine (h47 12 (by omega)).trans ?_
    by_cases hg : gbit (f (56 + 21 * b + 8)) k
    · rw [if_pos hg, (q1 hg).1]
    · rw [if_neg hg, (q2 hg).1]
  · rw [if_neg (show ¬ nI 1 = 0 by decide)]
    refine (h47 17 (by omega)).trans ?_
    by_cases hg : gbit (f (56 + 21 * b + 8)) k
    · rw [if_pos hg, (q1 hg).2]
    · rw [if_neg hg, (q2 hg).2]
/-! the worst cell -/
def wst (f : Nat → Int32) (κ : Nat) : Nat → Int32 × Nat
  | 0 => (-1009, 0)
  | c + 1 => if gN f κ c (gl f) ≤ (wst f κ c).2 then wst f κ c else (nI c, gN f κ c (gl f))
theorem wst_s (f : Nat → Int32) (κ c : Nat) : wst f κ (c + 1) = if gN f κ c (gl f) ≤ (wst f κ c).2 then wst f κ c else (nI c, gN f κ c (gl f)) := rfl
theorem q_worst {n P r len κ w : Nat} {M : vv_M} {f T : Nat → Int32} {h : Nat → Nat → Int32} (hn : 5000 ≤ n) (hG : Gq P M f h r len T) (hκ : κ < 5) (hw : w < 2) : f_X4_worstCell n P (nI κ) (nI w) M = some (if w = 0 then (wst f κ 49).1 else nI (wst f κ 49).2, M) := by
  obtain ⟨hl, hI, hE, hR⟩ := hG.oven
  unfold f_X4_worstCell
  rw [c_in_b, zi_t ⟨nI_pos' (by omega), nI_le (b := 4) (by omega) (by omega)⟩]
  simp only [t10, ↓reduceIte]
  rw [c_in_b, zi_t ⟨nI_pos' (by omega), nI_le (b := 1) (by omega) (by omega)⟩]
  simp only [t10, ↓reduceIte]
  have hle : ∀ c, (wst f κ c).2 ≤ 150 := by
    intro c
    induction c with
    | zero => exact Nat.zero_le _
    | succ c ih =>
      have := gN_le f κ c (gl f)
      unfold wst
      split
      · exact ih
      · show gN f κ c (gl f) ≤ 150
        omega
  have st : ∀ (j c q : Nat), c + j = 49 → j < q → f_X4_worstCell_32 n q P (nI κ) (nI w) (wst f κ c).1 (nI (wst f κ c).2) (nI c) M = some (if w = 0 then (wst f κ 49).1 else nI (wst f κ 49).2, M) := by
    intro j
    induction j with
    | zero =>
      intro c q hc hq
      obtain ⟨q, rfl⟩ : ∃ z, q = z + 1 := ⟨q - 1, by omega⟩
      obtain rfl : c = 49 := by omega
      rw [f_X4_worstCell_32.eq_2, if_pos (show (48 : Int32) < nI 49 by decide)]
      rcases (show w = 0 ∨ w = 1 by omega) with rfl | rfl
      · rfl
      · rfl
    | succ j ih =>
      intro c q hc hq
      obtain ⟨q, rfl⟩ : ∃ z, q = z + 1 := ⟨q - 1, by omega⟩
      have a1 := c_bwf (n := n) (κ := κ) (c := c) (by omega) (by omega) (by omega) hI hR
      have g1 := gN_le f κ c (gl f)
      have g2 := hle c
      have e := ih (c + 1) q (by omega) (by omega)
      rw [f_X4_worstCell_32.eq_2, if_neg (show ¬ (48 : Int32) < nI c from fun h => absurd ((nI_ltI (a := 48) (by omega) (by omega)).mp h) (by omega)), bnd a1, ix_let]
      unfold f_X4_worstCell_68
      rw [← e, wst_s]
      dsimp only
      by_cases hq2 : gN f κ c (gl f) ≤ (wst f κ c).2
      · rw [if_pos (nI_le hq2 (by omega)), if_pos hq2, ix_let, ix_al]
      · rw [if_neg (fun h => hq2 ((nI_leI (by omega) (by omega)).mp h)), if_neg hq2]
        simp only [ix_let, ix_al]
  exact st 49 0 n (by omega) (by omega)
theorem q_noworst {n P : Nat} {M : vv_M} (w : Int32) : f_X4_worstCell n P 5 w M = some (-1001, M) := by
  unfold f_X4_worstCell
  rw [c_in_b, zi_f (by decide)]
  rfl
/-- what the worst cell is -/
theorem wst_spec (f : Nat → Int32) (κ : Nat) : ∀ c, (∀ q, q < c → gN f κ q (gl f) ≤ (wst f κ c).2) ∧ ((wst f κ c).2 = 0 ∧ (wst f κ c).1 = -1009 ∨ 0 < (wst f κ c).2 ∧ ∃ d, d < c ∧ (wst f κ c).1 = nI d ∧ gN f κ d (gl f) = (wst f κ c).2 ∧ ∀ q, q < d → gN f κ q (gl f) < (wst f κ c).2) := by
  intro c
  induction c with
  | zero => exact ⟨fun q hq => absurd hq (Nat.not_lt_zero q), Or.inl ⟨rfl, rfl⟩⟩
  | succ c ih =>
    obtain ⟨i1, i2⟩ := ih
    unfold wst
    by_cases h : gN f κ c (gl f) ≤ (wst f κ c).2
    · rw [if_pos h]
      refine ⟨fun q hq => ?_, ?_⟩
      · by_cases hqc : q = c
        · subst hqc; exact h
        · exact i1 q (by omega)
      · rcases i2 with i2 | ⟨a, d, b1, b2⟩
        · exact Or.inl i2
        · exact Or.inr ⟨a, d, by omega, b2⟩
    · rw [if_neg h]
      refine ⟨fun q hq => ?_, Or.inr ⟨by show 0 < gN f κ c (gl f); omega, c, by omega, rfl, rfl, fun q hq => ?_⟩⟩
      · show gN f κ q (gl f) ≤ gN f κ c (gl f)
        by_cases hqc : q = c
        · subst hqc; exact Nat.le_refl _
        · have := i1 q (by omega)
          omega
      · show gN f κ q (gl f) < gN f κ c (gl f)
        have := i1 q hq
        omega
theorem cnt_le (f : Nat → Bool) : ∀ m, cnt f m ≤ m := by
  intro m
  induction m with
  | zero => exact Nat.le_refl _
  | succ m ih =>
    show cnt f m + (f m).toNat ≤ m + 1
    have : (f m).toNat ≤ 1 := by cases f m <;> decide
    omega
theorem q_faultCells {n P r len : Nat} {M : vv_M} {f T : Nat → Int32} {h : Nat → Nat → Int32} (hn : 5000 ≤ n) (hG : Gq P M f h r len T) : ∃ x, f_X4_faultCells n P M = some (x, M) ∧ ¬ x < 0 := by
  obtain ⟨hl, hI, hE, hR⟩ := hG.oven
  obtain ⟨X, h1, h2, h3⟩ := c_set (n := n) (by omega) hI hR
  have h264 : X < 2 ^ 64 := by omega
  refine ⟨nI (cnt X.testBit 64), ?_, ?_⟩
  · unfold f_X4_faultCells
    rw [bnd h1, bnd (c_bitCount M h264)]
  · have := cnt_le X.testBit 64
    exact nI_pos (by omega)
