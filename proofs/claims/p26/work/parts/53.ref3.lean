def gln (g : Nat → Int32) (z : Nat) : Nat := (g (0 + 4 * z + 0)).toNatClampNeg
def gPre (g : Nat → Int32) : Nat → Nat
  | 0 => 0
  | z + 1 => gPre g z + gln g z
def gZone (g : Nat → Int32) (c : Nat) : Nat := if c < gPre g 1 then 0 else if c < gPre g 2 then 1 else if c < gPre g 3 then 2 else if c < gPre g 4 then 3 else if c < gPre g 5 then 4 else 5
def gcell (g : Nat → Int32) (b : Nat) : Nat := (g (56 + 21 * b + 3)).toNatClampNeg
def gLen (g : Nat → Int32) : Prop := ∀ z, z < 6 → g (0 + 4 * z + 0) = nI (gln g z) ∧ 2 ≤ gln g z ∧ gln g z ≤ 8
def gBrd (g : Nat → Int32) (b : Nat) : Prop := (∃ c, c < 4 ∧ g (56 + 21 * b + 0) = nI c) ∧ (∃ w, 1 ≤ w ∧ w ≤ 9 ∧ g (56 + 21 * b + 1) = nI w) ∧ (g (56 + 21 * b + 2) = 0 → g (56 + 21 * b + 3) = nI (gcell g b) ∧ gcell g b < gPre g 6) ∧ ∀ k, k < 5 → gbit (g (56 + 21 * b + 8)) k → ∃ c, c ≤ 48 ∧ g (56 + 21 * b + (11 + k)) = nI c
def gInv (g : Nat → Int32) (l : Nat) : Prop := gLen g ∧ g 53 = nI l ∧ l ≤ 31 ∧ (∃ s, g 48 = nI s ∧ 1 ≤ s ∧ s ≤ 3) ∧ (∃ a, g 49 = nI a ∧ 1 ≤ a ∧ a ≤ 20) ∧ ∀ b, b < l → gBrd g b
theorem gPre_6 {g : Nat → Int32} (h : gLen g) : gPre g 6 ≤ 48 ∧ 12 ≤ gPre g 6 := by
  have h0 := (h 0 (by omega)).2
  have h1 := (h 1 (by omega)).2
  have h2 := (h 2 (by omega)).2
  have h3 := (h 3 (by omega)).2
  have h4 := (h 4 (by omega)).2
  have h5 := (h 5 (by omega)).2
  simp only [gPre]
  omega
theorem gBelt_nI {g : Nat → Int32} (h : gLen g) : gBelt g = nI (gPre g 6) := by
  have h0 := (h 0 (by omega)).1
  have h1 := (h 1 (by omega)).1
  have h2 := (h 2 (by omega)).1
  have h3 := (h 3 (by omega)).1
  have h4 := (h 4 (by omega)).1
  have h5 := (h 5 (by omega)).1
  unfold gBelt
  rw [h0, h1, h2, h3, h4, h5]
  simp only [gPre, ix_ar, nI_add]
theorem gZone_eq {g : Nat → Int32} {z c : Nat} (hz : z < 6) (h1 : gPre g z ≤ c) (h2 : c < gPre g (z + 1)) : gZone g c = z := by
  unfold gZone
  rcases (show z = 0 ∨ z = 1 ∨ z = 2 ∨ z = 3 ∨ z = 4 ∨ z = 5 by omega) with rfl | rfl | rfl | rfl | rfl | rfl <;> simp only [gPre] at h1 h2 ⊢ <;> simp (disch := omega) only [ix_ylt, ix_nlt, if_true, if_false]
theorem gZone_lt (g : Nat → Int32) (c : Nat) : gZone g c < 6 := by
  unfold gZone
  split
  · omega
  split
  · omega
  split
  · omega
  split
  · omega
  split <;> omega
/-- whether a board may be loaded -/
def gFree (g : Nat → Int32) : Nat → Bool
  | 0 => true
  | b + 1 => gFree g b && !(decide (g (56 + 21 * b + 2) = 0) && decide (g (56 + 21 * b + 3) < g 49))
theorem gFree_iff (g : Nat → Int32) (l : Nat) : gFree g l = true ↔ ∀ b, b < l → ¬ (g (56 + 21 * b + 2) = 0 ∧ g (56 + 21 * b + 3) < g 49) := by
  induction l with
  | zero => simp [gFree]
  | succ l ih =>
    simp only [gFree, Bool.and_eq_true, ih, Bool.not_eq_true', Bool.and_eq_false_iff, decide_eq_false_iff_not]
    constructor
    · intro ⟨h1, h2⟩ b hb
      rcases Nat.lt_or_ge b l with h | h
      · exact h1 b h
      · obtain rfl : b = l := by omega
        rintro ⟨g1, g2⟩
        rcases h2 with h2 | h2
        · exact h2 g1
        · exact h2 g2
    · intro h
      refine ⟨fun b hb => h b (by omega), ?_⟩
      by_cases g1 : g (56 + 21 * l + 2) = 0
      · exact Or.inr (fun g2 => h l (by omega) ⟨g1, g2⟩)
      · exact Or.inl g1
/-- the weights in a zone -/
def gW (g : Nat → Int32) (z : Nat) : Nat → Int32
  | 0 => 0
  | b + 1 => if g (56 + 21 * b + 2) = 0 ∧ gZone g (gcell g b) = z then gW g z b + g (56 + 21 * b + 1) else gW g z b
