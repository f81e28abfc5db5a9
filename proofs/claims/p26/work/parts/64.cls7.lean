/-! letPass against doPass -/
def gTicks (l : Nat) : Nat → (Nat → Int32) → (Nat → Int32)
  | 0, g => g
  | j + 1, g => gTicks l j (gTick l g)
theorem gTicks_inv {l : Nat} : ∀ (j : Nat) (g : Nat → Int32), gInv g l → gInv (gTicks l j g) l := by
  intro j
  induction j with
  | zero => intro g h; exact h
  | succ j ih => intro g h; exact ih _ (gTick_inv h)
theorem c_letPass34 {n p l : Nat} (hn : 40 ≤ n) : ∀ (j a k : Nat) (x : Int32) (M : vv_M) (g : Nat → Int32), a + j < 2147483648 → j < k → gInv g l → Ro p M g l → ∃ M', f_X2_letPass_34 n k p (nI (a + j)) x (nI a) M = some (x + (gMany (gTicks l j g) 1 l - gMany g 1 l), M') ∧ Ro p M' (gTicks l j g) l ∧ Fr p M M' := by
  intro j
  induction j with
  | zero =>
    intro a k x M g ha hk hI hR
    obtain ⟨k, rfl⟩ : ∃ q, k = q + 1 := ⟨k - 1, by omega⟩
    refine ⟨M, ?_, hR, Fr.rf⟩
    rw [f_X2_letPass_34.eq_2, if_pos (show nI (a + 0) ≤ nI a from nI_le (Nat.le_refl _) (by omega))]
    show _ = some (x + (gMany g 1 l - gMany g 1 l), M)
    rw [Int32.sub_self, Int32.add_zero]
  | succ j ih =>
    intro a k x M g ha hk hI hR
    obtain ⟨k, rfl⟩ : ∃ q, k = q + 1 := ⟨k - 1, by omega⟩
    obtain ⟨M1, a1, a2, a3⟩ := c_tick hn hI hR
    obtain ⟨M', b1, b2, b3⟩ := ih (a + 1) k (x + (gMany (gTick l g) 1 l - gMany g 1 l)) M1 (gTick l g) (by omega) (by omega) (gTick_inv hI) a2
    refine ⟨M', ?_, b2, Fr.tr a3 b3⟩
    rw [show a + 1 + j = a + (j + 1) by omega] at b1
    have h' : (nI (a + (j + 1)) ≤ nI a) = False := eq_false (fun h => absurd ((nI_leI (by omega) (by omega)).mp h) (by omega))
    rw [f_X2_letPass_34.eq_2]
    simp (disch := omega) only [ix_al, ↓reduceIte, ↓ix_let, h', ↓bnd a1, b1]
    show some (_, M') = some (x + (gMany (gTicks l j (gTick l g)) 1 l - gMany g 1 l), M')
    have e : ∀ x u v w : Int32, x + (u - v) + (w - u) = x + (w - v) := by
      intro x u v w
      grind
    rw [e]
/-! what a tick leaves -/
theorem pif_keep {F : Nat → (Nat → Int32) → Nat → Int32} {i l : Nat} (hF : ∀ b a, b < l → F b a i = a i) : ∀ j b a, b + j ≤ l → pif F b j a i = a i := by
  intro j
  induction j with
  | zero => intro b a _; rfl
  | succ j ih => intro b a hb; exact (ih (b + 1) _ (by omega)).trans (hF b a (by omega))
theorem gTick_hi {g : Nat → Int32} {l i : Nat} (hl : l ≤ 31) (hi : 56 + 21 * l ≤ i) : gTick l g i = g i := by
  unfold gTick gTk
  rw [ud_ne (by omega), gHear_hi (by omega), pif_keep (l := l) (fun b a hb => gWm_out (by unfold gOut; omega)) l 0 _ (by omega), pif_keep (l := 6) (fun b a hb => gHeat_hi hb (by omega)) 6 0 _ (by omega), pif_keep (l := l) (fun b a hb => gMv_out (by unfold gOut; omega)) l 0 _ (by omega)]
theorem gHear_lo {g : Nat → Int32} {l i : Nat} (h1 : i ≠ 48) (h2 : i ≠ 54) (h3 : i ≠ 55) : gHear l g i = g i := by
  unfold gHear gHear2
  split
  · rfl
  split
  · split
    · rfl
    split
    · rfl
    rw [ud_ne (by omega), ud_ne (by omega)]
  split
  · split
    · rfl
    split
    · rfl
    rw [ud_ne (by omega), ud_ne (by omega)]
  rw [ud_ne (by omega), ud_ne (by omega)]
theorem gTick_lo {g : Nat → Int32} {l i : Nat} (h0 : 24 ≤ i) (h1 : i ≠ 48) (h2 : i ≠ 54) (h3 : i ≠ 55) (h4 : i ≠ 52) (hi : i < 56) : gTick l g i = g i := by
  unfold gTick gTk
  rw [ud_ne (by omega), gHear_lo (by omega) (by omega) (by omega), pif_keep (l := l) (fun b a hb => gWm_out (by unfold gOut; omega)) l 0 _ (by omega), pif_keep (l := 6) (fun b a hb => gHeat_hi hb (by omega)) 6 0 _ (by omega), pif_keep (l := l) (fun b a hb => gMv_out (by unfold gOut; omega)) l 0 _ (by omega)]
theorem gTick_52 {g : Nat → Int32} {l : Nat} : gTick l g 52 = g 52 + 1 := by
  unfold gTick gTk
  rw [ud_s, gHear_lo (by omega) (by omega) (by omega), pif_keep (l := l) (fun b a hb => gWm_out (by unfold gOut; omega)) l 0 _ (by omega), pif_keep (l := 6) (fun b a hb => gHeat_hi hb (by omega)) 6 0 _ (by omega), pif_keep (l := l) (fun b a hb => gMv_out (by unfold gOut; omega)) l 0 _ (by omega)]
theorem gTicks_hi {l i : Nat} (hl : l ≤ 31) (hi : 56 + 21 * l ≤ i) : ∀ (j : Nat) (g : Nat → Int32), gTicks l j g i = g i := by
  intro j
  induction j with
  | zero => intro g; rfl
  | succ j ih => intro g; exact (ih _).trans (gTick_hi hl hi)
theorem gTicks_lo {l i : Nat} (h0 : 24 ≤ i) (h1 : i ≠ 48) (h2 : i ≠ 54) (h3 : i ≠ 55) (h4 : i ≠ 52) (hi : i < 56) : ∀ (j : Nat) (g : Nat → Int32), gTicks l j g i = g i := by
  intro j
  induction j with
  | zero => intro g; rfl
  | succ j ih => intro g; exact (ih _).trans (gTick_lo h0 h1 h2 h3 h4 hi)
theorem gTicks_52 {l t : Nat} : ∀ (j : Nat) (g : Nat → Int32) (t : Nat), g 52 = nI t → gTicks l j g 52 = nI (t + j) := by
  intro j
  induction j with
  | zero => intro g t h; exact h
  | succ j ih =>
    intro g t h
    show gTicks l j (gTick l g) 52 = _
    rw [ih _ (t + 1) (by rw [gTick_52, h, ix_al]), show t + 1 + j = t + (j + 1) by omega]
/-! how many are in a state, as a natural number -/
def gMn (g : Nat → Int32) (s : Int32) : Nat → Nat
  | 0 => 0
  | l + 1 => gMn g s l + if g (56 + 21 * l + 2) = s then 1 else 0
theorem gMn_eq (g : Nat → Int32) (s : Int32) : ∀ l, gMany g s l = nI (gMn g s l) := by
  intro l
  induction l with
  | zero => rfl
  | succ l ih =>
    show gMany g s l + (if g (56 + 21 * l + 2) = s then 1 else 0) = nI (gMn g s l + if g (56 + 21 * l + 2) = s then 1 else 0)
    rw [ih]
    split
    · exact ix_al _ 1
    · exact Int32.add_zero _
theorem gMn_le (g : Nat → Int32) (s : Int32) : ∀ l, gMn g s l ≤ l := by
  intro l
  induction l with
  | zero => exact Nat.le_refl _
  | succ l ih =>
    show gMn g s l + (if g (56 + 21 * l + 2) = s then 1 else 0) ≤ l + 1
    split <;> omega
theorem gMn_mono {g g' : Nat → Int32} {s : Int32} : ∀ l, (∀ b, b < l → g (56 + 21 * b + 2) = s → g' (56 + 21 * b + 2) = s) → gMn g s l ≤ gMn g' s l := by
  intro l
  induction l with
  | zero => intro _; exact Nat.le_refl _
  | succ l ih =>
    intro h
    have h1 := ih (fun b hb => h b (by omega))
    have h2 := h l (by omega)
    show gMn g s l + (if g (56 + 21 * l + 2) = s then 1 else 0) ≤ gMn g' s l + (if g' (56 + 21 * l + 2) = s then 1 else 0)
    by_cases h3 : g (56 + 21 * l + 2) = s
    · rw [if_pos h3, if_pos (h2 h3)]; omega
    · rw [if_neg h3]; omega
theorem gMn_zero {g : Nat → Int32} {s : Int32} : ∀ l, (gMn g s l = 0 ↔ ∀ b, b < l → g (56 + 21 * b + 2) ≠ s) := by
  intro l
  induction l with
  | zero => exact ⟨fun _ b hb => absurd hb (Nat.not_lt_zero b), fun _ => rfl⟩
  | succ l ih =>
    show gMn g s l + (if g (56 + 21 * l + 2) = s then 1 else 0) = 0 ↔ _
    by_cases h3 : g (56 + 21 * l + 2) = s
    · rw [if_pos h3]
      exact ⟨fun h => by omega, fun h => absurd h3 (h l (by omega))⟩
    · rw [if_neg h3]
      constructor
      · intro h b hb
        rcases Nat.lt_or_ge b l with h1 | h1
        · exact ih.mp (by omega) b h1
        · obtain rfl : b = l := by omega
          exact h3
      · intro h
        have := ih.mpr (fun b hb => h b (by omega))
        omega
theorem gMv_1 {g : Nat → Int32} {b q : Nat} {s : Int32} (hs : s ≠ 0) (h : g (56 + 21 * q + 2) = s) : gMv b g (56 + 21 * q + 2) = s := by
  by_cases hq : q = b
  · subst hq
    unfold gMv
    rw [if_neg (fun e => hs (h.symm.trans e))]
    exact h
  · rw [gMv_out (by unfold gOut; omega)]
    exact h
theorem gTicks_1 {l q : Nat} {s : Int32} (hs : s ≠ 0) : ∀ (j : Nat) (g : Nat → Int32), g (56 + 21 * q + 2) = s → gTicks l j g (56 + 21 * q + 2) = s := by
  intro j
  induction j with
  | zero => intro g h; exact h
  | succ j ih =>
    intro g h
    refine ih _ ?_
    rw [gTick_2]
    exact pif_inv (F := gMv) (P := fun a => a (56 + 21 * q + 2) = s) (l := l) (fun b a _ h => gMv_1 hs h) l 0 _ (by omega) h
theorem gLeftN {l j : Nat} {g : Nat → Int32} (h31 : l ≤ 31) : gMany (gTicks l j g) 1 l - gMany g 1 l = nI (gMn (gTicks l j g) 1 l - gMn g 1 l) := by
  rw [gMn_eq, gMn_eq, pk_sub (gMn_mono l (fun b hb h => gTicks_1 (by decide) j g h))]
