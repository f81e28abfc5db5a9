/-! rides end: pure -/
theorem pif_split {α : Type} {F : Nat → α → α} : ∀ (i s j : Nat) (a : α), pif F s (i + j) a = pif F (s + i) j (pif F s i a) := by
  intro i
  induction i with
  | zero => intro s j a; rw [Nat.zero_add]; rfl
  | succ i ih =>
    intro s j a
    rw [Nat.add_right_comm]
    show pif F (s + 1) (i + j) (F s a) = pif F (s + (i + 1)) j (pif F (s + 1) i (F s a))
    rw [ih, show s + 1 + i = s + (i + 1) by omega]
theorem pif_keep2 {F : Nat → (Nat → Int32) → Nat → Int32} {x : Nat} : ∀ (j s : Nat) (a : Nat → Int32), (∀ q a, s ≤ q → q < s + j → F q a x = a x) → pif F s j a x = a x := by
  intro j
  induction j with
  | zero => intro s a _; rfl
  | succ j ih => intro s a hF; exact (ih (s + 1) _ (fun q a h1 h2 => hF q a (by omega) (by omega))).trans (hF s a (by omega) (by omega))
theorem gTick_3 {g : Nat → Int32} {l q : Nat} : gTick l g (56 + 21 * q + 3) = pif gMv 0 l g (56 + 21 * q + 3) := by
  have hw : ∀ (b : Nat) (a : Nat → Int32), gWm b a (56 + 21 * q + 3) = a (56 + 21 * q + 3) := by
    intro b a
    unfold gWm
    split
    · by_cases hq : q = b
      · subst hq
        exact gWarm_col (by omega)
      · exact gWarm_out (by unfold gOut; omega)
    · rfl
  unfold gTick gTk
  rw [ud_ne (by omega), gHear_hi (by omega), pif_keep2 l 0 _ (fun b a _ _ => hw b a), pif_keep2 6 0 _ (fun z a _ h => gHeat_hi (by omega) (by omega))]
theorem tick_cell {g : Nat → Int32} {l b : Nat} (hI : gInv g l) (hb : b < l) (h : gTick l g (56 + 21 * b + 2) = 0) : g (56 + 21 * b + 2) = 0 ∧ gcell g b + 1 ≤ gcell (gTick l g) b := by
  have hl : l = b + (1 + (l - b - 1)) := by omega
  have e0 : ∀ j, j < 21 → pif gMv 0 b g (56 + 21 * b + j) = g (56 + 21 * b + j) := fun j hj => pif_keep2 b 0 _ (fun q a _ h2 => gMv_out (by unfold gOut; omega))
  have e1 : ∀ i, i < 56 → pif gMv 0 b g i = g i := fun i hi => pif_keep2 b 0 _ (fun q a _ _ => gMv_out (Or.inl (by omega)))
  have e2 : ∀ j, j < 21 → pif gMv 0 l g (56 + 21 * b + j) = gMv b (pif gMv 0 b g) (56 + 21 * b + j) := by
    intro j hj
    conv => lhs; rw [hl]
    rw [pif_split, pif_split]
    rw [pif_keep2 (l - b - 1) (0 + b + 1) _ (fun q a h1 h2 => gMv_out (by unfold gOut; omega))]
    show gMv (0 + b) _ _ = _
    rw [Nat.zero_add]
  rw [gTick_2, e2 2 (by omega)] at h
  have h3 : gTick l g (56 + 21 * b + 3) = gMv b (pif gMv 0 b g) (56 + 21 * b + 3) := by rw [gTick_3, e2 3 (by omega)]
  have hc0 : gcell (pif gMv 0 b g) b = gcell g b := by
    unfold gcell
    rw [e0 3 (by omega)]
  generalize hA : pif gMv 0 b g = A at h h3 e0 e1 hc0
  have hIA : gInv A l := by
    rw [← hA]
    exact pif_inv (P := fun g => gInv g l) (l := l) (fun b a hb h => gMv_inv hb h) b 0 _ (by omega) hI
  unfold gMv at h h3
  by_cases hon : A (56 + 21 * b + 2) = 0
  · rw [if_pos hon] at h h3
    obtain ⟨q1, q2⟩ := (hIA.2.2.2.2.2 b hb).2.2.1 hon
    obtain ⟨s, hs, hs1, hs3⟩ := hIA.2.2.2.1
    have hp6 := gPre_6 hIA.1
    unfold gGoOn at h h3
    by_cases hlt : A (56 + 21 * b + 3) + A 48 < gBelt A
    · rw [if_pos hlt] at h3
      refine ⟨by rw [← e0 2 (by omega)]; exact hon, ?_⟩
      have : gcell (gTick l g) b = gcell g b + s := by
        show (gTick l g (56 + 21 * b + 3)).toNatClampNeg = _
        rw [h3, ud_s, q1, hs, nI_add, ix_cl (by omega), hc0]
      omega
    · rw [if_neg hlt] at h
      unfold gLeft at h
      rw [gFault_ne (by omega) (by omega) (by omega), gFault_ne (by omega) (by omega) (by omega), ud_ne (by omega), ud_s] at h
      exact absurd h (by decide)
  · rw [if_neg hon] at h
    exact absurd h hon
theorem ride_ex {l b : Nat} (hb : b < l) : ∀ (j : Nat) (g : Nat → Int32), gInv g l → (g (56 + 21 * b + 2) = 0 → 48 ≤ gcell g b + j) → ∃ i, i ≤ j ∧ gTicks l i g (56 + 21 * b + 2) ≠ 0 ∧ ∀ i', i' < i → gTicks l i' g (56 + 21 * b + 2) = 0 := by
  intro j
  induction j with
  | zero =>
    intro g hI h
    refine ⟨0, Nat.le_refl _, fun hon => ?_, fun i' hi => absurd hi (Nat.not_lt_zero _)⟩
    have h1 := h hon
    have h2 := ((hI.2.2.2.2.2 b hb).2.2.1 hon).2
    have h3 := gPre_6 hI.1
    omega
  | succ j ih =>
    intro g hI h
    by_cases hon : g (56 + 21 * b + 2) = 0
    · obtain ⟨i, h1, h2, h3⟩ := ih (gTick l g) (gTick_inv hI) (fun h4 => by
        have := (tick_cell hI hb h4).2
        have := h hon
        omega)
      refine ⟨i + 1, by omega, h2, fun i' hi => ?_⟩
      cases i' with
      | zero => exact hon
      | succ i' => exact h3 i' (by omega)
    · exact ⟨0, by omega, hon, fun i' hi => absurd hi (Nat.not_lt_zero _)⟩
theorem free_ex {l : Nat} : ∀ (j : Nat) (g : Nat → Int32), gInv g l → (∀ b, b < l → g (56 + 21 * b + 2) = 0 → 48 ≤ gcell g b + j) → ∃ i, i ≤ j ∧ gFree (gTicks l i g) l = true ∧ ∀ i', i' < i → gFree (gTicks l i' g) l = false := by
  intro j
  induction j with
  | zero =>
    intro g hI h
    refine ⟨0, Nat.le_refl _, ?_, fun i' hi => absurd hi (Nat.not_lt_zero _)⟩
    refine (gFree_iff _ _).mpr fun b hb hx => ?_
    have h1 := h b hb hx.1
    have h2 := ((hI.2.2.2.2.2 b hb).2.2.1 hx.1).2
    have h3 := gPre_6 hI.1
    omega
  | succ j ih =>
    intro g hI h
    by_cases hf : gFree g l = true
    · exact ⟨0, by omega, hf, fun i' hi => absurd hi (Nat.not_lt_zero _)⟩
    · obtain ⟨i, h1, h2, h3⟩ := ih (gTick l g) (gTick_inv hI) (fun b hb h4 => by
        have h5 := tick_cell hI hb h4
        have := h b hb h5.1
        omega)
      refine ⟨i + 1, by omega, h2, fun i' hi => ?_⟩
      cases i' with
      | zero => exact Bool.eq_false_iff.mpr hf
      | succ i' => exact h3 i' (by omega)
/-! rides, on both sides -/
theorem c_ride {n p l b : Nat} (hn : 40 ≤ n) (hb : b < l) : ∀ (i c k : Nat) (M : vv_M) (g : Nat → Int32), c + i ≤ 48 → i < k → gInv g l → Ro p M g l → (∀ i', i' < i → gTicks l i' g (56 + 21 * b + 2) = 0) → gTicks l i g (56 + 21 * b + 2) ≠ 0 → ∃ M', f_X2_passUntilLeft_2 n k p (nI b) (nI c) M = some (nI (c + i), M') ∧ Ro p M' (gTicks l i g) l ∧ Fr p M M' := by
  intro i
  induction i with
  | zero =>
    intro c k M g hc hk hI hR h1 h2
    obtain ⟨k, rfl⟩ : ∃ q, k = q + 1 := ⟨k - 1, by omega⟩
    have h31 := hI.2.2.1
    have e2 : M (p + 4) (b * 22 + 2) = g (56 + 21 * b + 2) := (hR.2.2.2.2 b hb).1 2 (by omega) (by omega)
    have hon := c_isOnBelt (n := n) (p := p) (b := b) M (by omega)
    rw [e2, zi_f (show ¬ g (56 + 21 * b + 2) = 0 from h2)] at hon
    refine ⟨M, ?_, hR, Fr.rf⟩
    rw [f_X2_passUntilLeft_2.eq_2, bnd hon]
    rfl
  | succ i ih =>
    intro c k M g hc hk hI hR h1 h2
    obtain ⟨k, rfl⟩ : ∃ q, k = q + 1 := ⟨k - 1, by omega⟩
    have h31 := hI.2.2.1
    have e2 : M (p + 4) (b * 22 + 2) = g (56 + 21 * b + 2) := (hR.2.2.2.2 b hb).1 2 (by omega) (by omega)
    have hon := c_isOnBelt (n := n) (p := p) (b := b) M (by omega)
    have h0 : g (56 + 21 * b + 2) = 0 := h1 0 (by omega)
    rw [e2, zi_t h0] at hon
    obtain ⟨M1, a1, a2, a3⟩ := c_tick hn hI hR
    obtain ⟨M', b1, b2, b3⟩ := ih (c + 1) k M1 (gTick l g) (by omega) (by omega) (gTick_inv hI) a2 (fun i' hi => h1 (i' + 1) (by omega)) h2
    refine ⟨M', ?_, b2, Fr.tr a3 b3⟩
    rw [f_X2_passUntilLeft_2.eq_2, bnd hon]
    show (if (1 : Int32) = 0 then _ else if (48 : Int32) ≤ nI c then _ else _) = _
    rw [if_neg (by decide), if_neg (show ¬ (48 : Int32) ≤ nI c from fun h => absurd ((nI_leI (a := 48) (by omega) (by omega)).mp h) (by omega)), bnd a1, ix_let, ix_al]
    show f_X2_passUntilLeft_2 n k p (nI b) (nI (c + 1)) M1 = _
    rw [b1, show c + 1 + i = c + (i + 1) by omega]
theorem c_frees {n p l : Nat} (hn : 40 ≤ n) : ∀ (i c k : Nat) (M : vv_M) (g : Nat → Int32), c + i ≤ 48 → i < k → gInv g l → Ro p M g l → (∀ i', i' < i → gFree (gTicks l i' g) l = false) → gFree (gTicks l i g) l = true → ∃ M', f_X2_passUntilFree_2 n k p (nI c) M = some (nI (c + i), M') ∧ Fr p M M' := by
  intro i
  induction i with
  | zero =>
    intro c k M g hc hk hI hR h1 h2
    obtain ⟨k, rfl⟩ : ∃ q, k = q + 1 := ⟨k - 1, by omega⟩
    refine ⟨M, ?_, Fr.rf⟩
    rw [f_X2_passUntilFree_2.eq_2, bnd (c_free hn hI hR), zi_t (show gFree g l = true from h2)]
    rfl
  | succ i ih =>
    intro c k M g hc hk hI hR h1 h2
    obtain ⟨k, rfl⟩ : ∃ q, k = q + 1 := ⟨k - 1, by omega⟩
    have h0 : ¬ gFree g l = true := by
      have := h1 0 (by omega)
      intro h
      rw [show gTicks l 0 g = g from rfl, h] at this
      cases this
    obtain ⟨M1, a1, a2, a3⟩ := c_tick hn hI hR
    obtain ⟨M', b1, b3⟩ := ih (c + 1) k M1 (gTick l g) (by omega) (by omega) (gTick_inv hI) a2 (fun i' hi => h1 (i' + 1) (by omega)) h2
    refine ⟨M', ?_, Fr.tr a3 b3⟩
    rw [f_X2_passUntilFree_2.eq_2, bnd (c_free hn hI hR), zi_f h0]
    show (if (0 : Int32) = 0 then (if (48 : Int32) ≤ nI c then _ else _) else _) = _
    rw [if_pos rfl, if_neg (show ¬ (48 : Int32) ≤ nI c from fun h => absurd ((nI_leI (a := 48) (by omega) (by omega)).mp h) (by omega)), bnd a1, ix_let, ix_al]
    show f_X2_passUntilFree_2 n k p (nI (c + 1)) M1 = _
    rw [b1, show c + 1 + i = c + (i + 1) by omega]
