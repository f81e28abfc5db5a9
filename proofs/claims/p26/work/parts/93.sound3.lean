/-! isSound -/
theorem gPre_up {g : Nat → Int32} : ∀ {a b : Nat}, a ≤ b → gPre g a ≤ gPre g b := by
  intro a b
  induction b with
  | zero =>
    intro h
    rw [Nat.le_zero.mp h]
    exact Nat.le_refl _
  | succ b ih =>
    intro h
    by_cases hab : a = b + 1
    · subst hab; exact Nat.le_refl _
    · have h1 := ih (by omega)
      show gPre g a ≤ gPre g b + gln g b
      omega
theorem zone_ex {g : Nat → Int32} {c : Nat} : ∀ k, c < gPre g k → ∃ z, z < k ∧ gPre g z ≤ c ∧ c < gPre g (z + 1) := by
  intro k
  induction k with
  | zero => intro h; exact absurd h (Nat.not_lt_zero c)
  | succ k ih =>
    intro h
    by_cases hk : c < gPre g k
    · obtain ⟨z, h1, h2⟩ := ih hk
      exact ⟨z, by omega, h2⟩
    · exact ⟨k, by omega, by omega, h⟩
theorem zone_iff {g : Nat → Int32} {c z : Nat} (hc : c < gPre g 6) (hz : z < 6) : gZone g c = z ↔ gPre g z ≤ c ∧ c < gPre g z + gln g z := by
  constructor
  · intro h
    obtain ⟨z', h1, h2, h3⟩ := zone_ex 6 hc
    have := gZone_eq h1 h2 h3
    obtain rfl : z' = z := by omega
    exact ⟨h2, h3⟩
  · intro h
    exact gZone_eq hz h.1 h.2
def biN (f : Nat → Int32) (z : Nat) : Nat → Nat
  | 0 => 0
  | b + 1 => biN f z b + if f (56 + 21 * b + 2) = 0 ∧ gZone f (gcell f b) = z then 1 else 0
theorem biN_eq (f : Nat → Int32) (z : Nat) : ∀ b, gBi f z b = nI (biN f z b) := by
  intro b
  induction b with
  | zero => rfl
  | succ b ih =>
    unfold gBi biN
    split
    · rw [ih, ix_al]
    · rw [ih]
      rfl
theorem biN_le (f : Nat → Int32) (z : Nat) : ∀ b, biN f z b ≤ b := by
  intro b
  induction b with
  | zero => exact Nat.le_refl _
  | succ b ih =>
    unfold biN
    split <;> omega
theorem gW_bi {f : Nat → Int32} {l : Nat} (z : Nat) (hI : gInv f l) : ∀ b, b ≤ l → ∃ w, biN f z b ≤ w ∧ w ≤ 9 * b ∧ gW f z b = nI w := by
  intro b
  induction b with
  | zero => intro _; exact ⟨0, Nat.le_refl _, Nat.le_refl _, rfl⟩
  | succ b ih =>
    intro hb
    obtain ⟨w, h0, h1, h2⟩ := ih (by omega)
    unfold gW biN
    split
    · obtain ⟨-, ⟨v, v1, v9, e⟩, -⟩ := hI.2.2.2.2.2 b (by omega)
      exact ⟨w + v, by omega, by omega, by rw [h2, e, nI_add]⟩
    · exact ⟨w, by omega, by omega, h2⟩
def sB (f : Nat → Int32) (b : Nat) : Nat → Nat
  | 0 => 0
  | z + 1 => sB f b z + biN f z b
theorem sB_le (f : Nat → Int32) (b : Nat) : ∀ z, sB f b z ≤ b * z := by
  intro z
  induction z with
  | zero => exact Nat.le_refl _
  | succ z ih =>
    have := biN_le f z b
    unfold sB
    rw [Nat.mul_add]
    omega
theorem sB_6 (f : Nat → Int32) : ∀ b, sB f b 6 = gMn f 0 b := by
  intro b
  induction b with
  | zero => rfl
  | succ b ih =>
    have hz := gZone_lt f (gcell f b)
    show 0 + biN f 0 (b + 1) + biN f 1 (b + 1) + biN f 2 (b + 1) + biN f 3 (b + 1) + biN f 4 (b + 1) + biN f 5 (b + 1) = _
    have e : 0 + biN f 0 b + biN f 1 b + biN f 2 b + biN f 3 b + biN f 4 b + biN f 5 b = gMn f 0 b := ih
    unfold biN gMn
    by_cases h0 : f (56 + 21 * b + 2) = 0
    · rw [if_pos h0]
      rcases (show gZone f (gcell f b) = 0 ∨ gZone f (gcell f b) = 1 ∨ gZone f (gcell f b) = 2 ∨ gZone f (gcell f b) = 3 ∨ gZone f (gcell f b) = 4 ∨ gZone f (gcell f b) = 5 by omega) with h | h | h | h | h | h
      all_goals
        simp only [h0, h, true_and]
        simp
        omega
    · rw [if_neg h0]
      simp only [h0, false_and, ↓reduceIte]
      omega
theorem gMn_3 {f : Nat → Int32} : ∀ l, (∀ b, b < l → f (56 + 21 * b + 2) = 0 ∨ f (56 + 21 * b + 2) = 1 ∨ f (56 + 21 * b + 2) = 2) → gMn f 0 l + gMn f 1 l + gMn f 2 l = l := by
  intro l
  induction l with
  | zero => intro _; rfl
  | succ l ih =>
    intro h
    have h1 := ih (fun b hb => h b (by omega))
    have n01 : ¬ (0 : Int32) = 1 := by decide
    have n02 : ¬ (0 : Int32) = 2 := by decide
    have n10 : ¬ (1 : Int32) = 0 := by decide
    have n12 : ¬ (1 : Int32) = 2 := by decide
    have n20 : ¬ (2 : Int32) = 0 := by decide
    have n21 : ¬ (2 : Int32) = 1 := by decide
    unfold gMn
    rcases h l (by omega) with e | e | e
    · rw [e, if_pos rfl, if_neg n01, if_neg n02]
      omega
    · rw [e, if_neg n10, if_pos rfl, if_neg n12]
      omega
    · rw [e, if_neg n20, if_neg n21, if_pos rfl]
      omega
section SS
variable {n P r len : Nat} {M : vv_M} {f T : Nat → Int32} {h : Nat → Nat → Int32}
theorem ss_221 (hn : 5000 ≤ n) (hG : Gq P M f h r len T) (hS : Snd f) {w : Nat} (hw : sB f (gl f) 6 ≤ w) (hw2 : w < 1000000) : ∀ (j b k : Nat), b + j = gl f → j < k → f_L_isSound_221 n k P (nI (sB f (gl f) 6)) (nI w) (nI (gPre f 6)) (gOkn f b) (nI b) M = some (1, M) := by
  obtain ⟨hl, hI, hE, hR⟩ := hG.oven
  have hp6 := gPre_6 hI.1
  have hc : ∀ q : Nat, q < 14 → f_X4_count n P (nI q) M = some (vC f (nI q), M) := fun q hq => q_count hn hG (nI q) (fun e => by
    have := (nI_eq (a := q) (b := 14) (by omega) (by omega)).mp e
    omega) (fun e => by
    have := (nI_eq (a := q) (b := 15) (by omega) (by omega)).mp e
    omega)
  have hc2 : f_X4_count n P 2 M = some (nI (sB f (gl f) 6), M) := by
    rw [sB_6, ← gMn_eq]
    exact hc 2 (by omega)
  have hc3 : f_X4_count n P 3 M = some (nI (gMn f 1 (gl f)), M) := by
    rw [← gMn_eq]
    exact hc 3 (by omega)
  have hc4 : f_X4_count n P 4 M = some (gOkn f (gl f), M) := hc 4 (by omega)
  have hc5 : f_X4_count n P 5 M = some (nI (gMn f 2 (gl f)), M) := by
    rw [← gMn_eq]
    exact hc 5 (by omega)
  have hc6 : f_X4_count n P 6 M = some (nI (gPre f 6), M) := hc 6 (by omega)
  have hc7 : f_X4_count n P 7 M = some (f 48, M) := hc 7 (by omega)
  have h3 := gMn_3 (f := f) (gl f) (fun b hb => (hS.2.choose_spec.2.2.2.2 b hb).1)
  rw [← sB_6] at h3
  have hi := fun b hb => bs_ok (b := b) hn hG hS hb
  intro j
  induction j with
  | zero =>
    intro b k hb hk
    obtain ⟨k, rfl⟩ : ∃ x, k = x + 1 := ⟨k - 1, by omega⟩
    obtain rfl : b = gl f := by omega
    obtain ⟨s, e48, s1, s3⟩ := hI.2.2.2.1
    rw [f_L_isSound_221.eq_2, bnd (vC_1 hn hG), if_pos (show nI (gl f) ≤ nI (gl f) from nI_le (by omega) (by omega)), bnd hc6, if_pos rfl, bnd hc2, if_pos rfl, if_neg (nI_nlt hw (by omega)), bnd hc2, bnd hc3, bnd hc5, bnd (vC_1 hn hG)]
    dsimp only
    rw [nI_add, nI_add, h3, if_pos rfl]
    unfold f_L_isSound_329
    rw [bnd hc4, if_pos rfl, bnd hc7]
    dsimp only
    rw [e48, if_neg (nI_nle (by omega) (by omega)), bnd hc7]
    dsimp only
    rw [e48, if_neg (show ¬ (4 : Int32) ≤ nI s from nI_ge (a := s) (b := 4) (by omega) (by omega))]
  | succ j ih =>
    intro b k hb hk
    obtain ⟨k, rfl⟩ : ∃ x, k = x + 1 := ⟨k - 1, by omega⟩
    have hb' : b < gl f := by omega
    have hh := ih (b + 1) k (by omega) (by omega)
    have hb2 : f_X4_board n P (nI b) 2 M = some (f (56 + 21 * b + 2), M) := q_board (n := n) (w := 2) hG hb' (by omega)
    have hb8 : f_X4_board n P (nI b) 8 M = some (f (56 + 21 * b + 8), M) := q_board (n := n) (w := 8) hG hb' (by omega)
    have h271 : ∀ x : Int32, gOkn f b + x = gOkn f (b + 1) → f_L_isSound_271 n (f_L_isSound_221 n k) P (nI (sB f (gl f) 6)) (nI w) (nI (gPre f 6)) (nI b) (gOkn f b) x M = some (1, M) := by
      intro x hx
      unfold f_L_isSound_271
      rw [ix_let, ix_let, ix_al, hx]
      exact hh
    have ho : gOkn f (b + 1) = if f (56 + 21 * b + 2) = 1 then (if f (56 + 21 * b + 8) = 0 then gOkn f b + 1 else gOkn f b) else gOkn f b := rfl
    rw [f_L_isSound_221.eq_2, bnd (vC_1 hn hG), if_neg (show ¬ nI (gl f) ≤ nI b from nI_ge (by omega) (by omega)), bnd (hi b hb'), if_neg (show ¬ (1 : Int32) = 0 by decide), bnd hb2]
    by_cases h1 : f (56 + 21 * b + 2) = 1
    · rw [if_pos h1, bnd hb8]
      rw [if_pos h1] at ho
      by_cases h8 : f (56 + 21 * b + 8) = 0
      · rw [if_pos h8]
        rw [if_pos h8] at ho
        exact h271 1 ho.symm
      · rw [if_neg h8]
        rw [if_neg h8] at ho
        exact h271 0 (by rw [Int32.add_zero]; exact ho.symm)
    · rw [if_neg h1]
      rw [if_neg h1] at ho
      exact h271 0 (by rw [Int32.add_zero]; exact ho.symm)
theorem ss_25 {z : Nat} {B W : Int32} {K : Nat → Int32 → Int32 → Int32 → Int32 → vv_M → Option (Int32 × vv_M)} (hn : 5000 ≤ n) (hG : Gq P M f h r len T) (hS : Snd f) (hz : z < 6) (hK : K P (B + gBi f z (gl f)) (W + gW f z (gl f)) (nI (gPre f (z + 1))) (nI (z + 1)) M = some (1, M)) : ∀ (j b k : Nat), b + j = gl f → j < k → f_L_isSound_25 n K k P B W (nI (gPre f z)) (nI z) (gBi f z b) (gW f z b) (nI b) M = some (1, M) := by
  obtain ⟨hl, hI, hE, hR⟩ := hG.oven
  have hp6 := gPre_6 hI.1
  obtain ⟨el, l2, l8⟩ := hI.1 z hz
  have hz0 : f_X4_zone n P (nI z) 0 M = some (nI (gln f z), M) := by
    rw [← el]
    exact q_zone (w := 0) hn hG hz (by omega)
  have hz3 : f_X4_zone n P (nI z) 3 M = some (f (0 + 4 * z + 3), M) := q_zone (w := 3) hn hG hz (by omega)
  have hz4 : f_X4_zone n P (nI z) 4 M = some (nI (gPre f z), M) := q_zone (w := 4) hn hG hz (by omega)
  have hz5 : f_X4_zone n P (nI z) 5 M = some (gBi f z (gl f), M) := q_zone (w := 5) hn hG hz (by omega)
  have hz6 : f_X4_zone n P (nI z) 6 M = some (gW f z (gl f), M) := q_zone (w := 6) hn hG hz (by omega)
  obtain ⟨-, -, w3, w3'⟩ := hS.2.choose_spec.2.2.1 z hz
  have hpz : gPre f z ≤ 48 := Nat.le_trans (gPre_up (by omega)) hp6.1
  have hpz1 : gPre f z + gln f z = gPre f (z + 1) := rfl
  intro j
  induction j with
  | zero =>
    intro b k hb hk
    obtain ⟨k, rfl⟩ : ∃ x, k = x + 1 := ⟨k - 1, by omega⟩
    obtain rfl : b = gl f := by omega
    rw [f_L_isSound_25.eq_2, bnd (vC_1 hn hG), if_pos (show nI (gl f) ≤ nI (gl f) from nI_le (by omega) (by omega)), bnd hz5, if_pos rfl, bnd hz6, if_pos rfl, bnd hz4, if_pos rfl, bnd hz3, if_neg (show ¬ f (0 + 4 * z + 3) < 20 from rg_nlt.mpr w3)]
    unfold f_L_isSound_174
    rw [bnd hz3, if_pos (show f (0 + 4 * z + 3) ≤ 300 from rg_le.mpr w3'), ix_let, ix_let, bnd hz0, ix_let]
    unfold f_L_isSound_209
    rw [ix_let]
    dsimp only
    rw [nI_add, ix_al, hpz1]
    exact hK
  | succ j ih =>
    intro b k hb hk
    obtain ⟨k, rfl⟩ : ∃ x, k = x + 1 := ⟨k - 1, by omega⟩
    have hb' : b < gl f := by omega
    have hh := ih (b + 1) k (by omega) (by omega)
    have hb3 : f_X4_board n P (nI b) 3 M = some (vB f b 3, M) := q_board (n := n) (w := 3) hG hb' (by omega)
    have hb1 : f_X4_board n P (nI b) 1 M = some (f (56 + 21 * b + 1), M) := q_board (n := n) (w := 1) hG hb' (by omega)
    have ebi : gBi f z (b + 1) = if f (56 + 21 * b + 2) = 0 ∧ gZone f (gcell f b) = z then gBi f z b + 1 else gBi f z b := rfl
    have ew : gW f z (b + 1) = if f (56 + 21 * b + 2) = 0 ∧ gZone f (gcell f b) = z then gW f z b + f (56 + 21 * b + 1) else gW f z b := rfl
    obtain ⟨-, -, hon, -⟩ := hI.2.2.2.2.2 b hb'
    have h81 : ¬ (f (56 + 21 * b + 2) = 0 ∧ gZone f (gcell f b) = z) → f_L_isSound_81 n K (f_L_isSound_25 n K k) P B W (nI (gPre f z)) (nI z) (gBi f z b) (gW f z b) (nI b) M = some (1, M) := by
      intro hne
      rw [if_neg hne] at ebi ew
      unfold f_L_isSound_81 f_L_isSound_82
      rw [if_pos rfl]
      unfold f_L_isSound_96
      rw [ix_let, if_pos rfl]
      unfold f_L_isSound_117
      rw [ix_let, ix_let, ix_al, Int32.add_zero, Int32.add_zero, ← ebi, ← ew]
      exact hh
    have h77 : (f (56 + 21 * b + 2) = 0 ∧ gZone f (gcell f b) = z) → f_L_isSound_77 n K (f_L_isSound_25 n K k) P B W (nI (gPre f z)) (nI z) (gBi f z b) (gW f z b) (nI b) M = some (1, M) := by
      intro he
      rw [if_pos he] at ebi ew
      unfold f_L_isSound_77 f_L_isSound_82
      rw [if_neg (by decide)]
      unfold f_L_isSound_96
      rw [ix_let, if_neg (by decide), bnd hb1]
      unfold f_L_isSound_117
      rw [ix_let, ix_let, ix_al]
      dsimp only
      rw [← ebi, ← ew]
      exact hh
    rw [f_L_isSound_25.eq_2, bnd (vC_1 hn hG), if_neg (show ¬ nI (gl f) ≤ nI b from nI_ge (by omega) (by omega)), bnd hb3, bnd hz4, bnd hb3, bnd hz4, bnd hz0]
    dsimp only
    unfold vB
    rw [if_pos rfl]
    by_cases h0 : f (56 + 21 * b + 2) = 0
    · obtain ⟨c1, c2⟩ := hon h0
      have hzi := zone_iff (g := f) c2 hz
      rw [if_pos h0, c1, nI_add]
      by_cases q1 : gcell f b < gPre f z
      · rw [if_pos (nI_lt q1 (by omega))]
        exact h81 (fun q => by have := hzi.mp q.2; omega)
      · rw [if_neg (nI_nlt (by omega) (by omega))]
        by_cases q2 : gPre f z + gln f z ≤ gcell f b
        · rw [if_pos (nI_le q2 (by omega))]
          exact h81 (fun q => by have := hzi.mp q.2; omega)
        · rw [if_neg (nI_ge (by omega) (by omega))]
          exact h77 ⟨h0, hzi.mpr ⟨by omega, by omega⟩⟩
    · rw [if_neg h0, if_pos (Int32.lt_iff_toInt_lt.mpr (by
        rw [nI_toInt (by omega), show (-1009 : Int32).toInt = -1009 from rfl]
        omega))]
      exact h81 (fun q => h0 q.1)
theorem ss_9 (hn : 5000 ≤ n) (hG : Gq P M f h r len T) (hS : Snd f) : ∀ (j z k w : Nat), z + j = 6 → j < k → sB f (gl f) z ≤ w → w ≤ 270 * z → f_L_isSound_9 n k P (nI (sB f (gl f) z)) (nI w) (nI (gPre f z)) (nI z) M = some (1, M) := by
  obtain ⟨hl, hI, -, -⟩ := hG.oven
  intro j
  induction j with
  | zero =>
    intro z k w hz hk hw hw2
    obtain ⟨k, rfl⟩ : ∃ x, k = x + 1 := ⟨k - 1, by omega⟩
    obtain rfl : z = 6 := by omega
    rw [f_L_isSound_9.eq_2, if_pos (show (6 : Int32) ≤ nI 6 by decide)]
    exact ss_221 hn hG hS hw (by omega) (gl f) 0 n (by omega) (by omega)
  | succ j ih =>
    intro z k w hz hk hw hw2
    obtain ⟨k, rfl⟩ : ∃ x, k = x + 1 := ⟨k - 1, by omega⟩
    obtain ⟨v, v1, v2, v3⟩ := gW_bi z hI (gl f) (Nat.le_refl _)
    have hs : sB f (gl f) (z + 1) = sB f (gl f) z + biN f z (gl f) := rfl
    have hh := ih (z + 1) k (w + v) (by omega) (by omega) (by omega) (by omega)
    rw [f_L_isSound_9.eq_2, if_neg (show ¬ (6 : Int32) ≤ nI z from nI_ge (a := z) (b := 6) (by omega) (by omega))]
    refine ss_25 (K := f_L_isSound_9 n k) hn hG hS (by omega) ?_ (gl f) 0 n (by omega) (by omega)
    rw [biN_eq, v3, nI_add, nI_add, ← hs]
    exact hh
theorem ss_ok (hn : 5000 ≤ n) (hG : Gq P M f h r len T) (hS : Snd f) : f_L_isSound n P M = some (1, M) := ss_9 hn hG hS 6 0 n 0 (by omega) (by omega) (Nat.le_refl _) (by omega)
end SS
