/-! THE CLASS'S OVEN AT p AGAINST THE PICTURE g -/
def Rb (B g : Nat → Int32) (b : Nat) : Prop := (∀ j, j < 11 → j ≠ 3 → B (b * 22 + j) = g (56 + 21 * b + j)) ∧ (g (56 + 21 * b + 2) = 0 → B (b * 22 + 3) = g (56 + 21 * b + 3) ∧ B (b * 22 + 11) = nI (gZone g (gcell g b))) ∧ (g (56 + 21 * b + 2) ≠ 0 → B (b * 22 + 3) = -1009) ∧ ∀ k, k < 5 → (gbit (g (56 + 21 * b + 8)) k → B (b * 22 + (12 + k)) = g (56 + 21 * b + (11 + k)) ∧ B (b * 22 + (17 + k)) = g (56 + 21 * b + (16 + k))) ∧ (¬ gbit (g (56 + 21 * b + 8)) k → B (b * 22 + (12 + k)) = -1009 ∧ B (b * 22 + (17 + k)) = -1009)
def Ro (p : Nat) (M : vv_M) (g : Nat → Int32) (l : Nat) : Prop := (∀ k, k < 24 → M (p + 1) k = g k) ∧ (∀ k, k < 24 → M (p + 2) k = g (24 + k)) ∧ (∀ k, k < 4 → M (p + 3) k = g (48 + k)) ∧ (M p 5 = g 52 ∧ M p 6 = g 53 ∧ M p 7 = g 54 ∧ M p 8 = g 55) ∧ ∀ b, b < l → Rb (M (p + 4)) g b
def Fr (p : Nat) (M M' : vv_M) : Prop := ∀ q, q < p ∨ p + 6 ≤ q → M' q = M q
theorem Fr.rf {p : Nat} {M : vv_M} : Fr p M M := fun _ _ => rfl
theorem Fr.tr {p : Nat} {M M' M'' : vv_M} (h1 : Fr p M M') (h2 : Fr p M' M'') : Fr p M M'' := fun q hq => (h2 q hq).trans (h1 q hq)
theorem Fr.up {p i : Nat} {M : vv_M} {r : Nat → Int32} (hi : i < 6) : Fr p M (va_up M (p + i) r) := fun q hq => up_n (by omega)
theorem c_first {n p z : Nat} {g : Nat → Int32} (M : vv_M) (hM : ∀ k, k < 24 → M (p + 1) k = g k) (hL : gLen g) (hz : z ≤ 6) (hn : 8 ≤ n) : f_X2_firstCellOf n p (nI z) M = some (nI (gPre g z), M) := by
  have st : ∀ (j q k : Nat), q + j = z → j < k → f_X2_firstCellOf_4 n k p (nI z) (nI (gPre g q)) (nI q) M = some (nI (gPre g z), M) := by
    intro j
    induction j with
    | zero =>
      intro q k hq hk
      obtain ⟨k, rfl⟩ : ∃ m, k = m + 1 := ⟨k - 1, by omega⟩
      obtain rfl : q = z := by omega
      rw [f_X2_firstCellOf_4.eq_2, if_pos (nI_le (Nat.le_refl _) (by omega))]
    | succ j ih =>
      intro q k hq hk
      obtain ⟨k, rfl⟩ : ∃ m, k = m + 1 := ⟨k - 1, by omega⟩
      rw [f_X2_firstCellOf_4.eq_2]
      have e := (hL q (by omega)).1
      have e2 : M (p + 1) (q * 4 + 0) = nI (gln g q) := by rw [hM _ (by omega), show q * 4 + 0 = 0 + 4 * q + 0 by omega]; exact e
      simp (disch := omega) only [ix_al, ix_ar, ix_ml, ix_mr, ix_cl, ix_cll, ix_n0, ix_l0, ix_nge, or_self, ↓reduceIte, ↓ix_let, ix_bs, up_s, bx_uu, ix_le, ix_lel, e2, nI_add]
      exact ih (q + 1) k (by omega) (by omega)
  exact st z 0 n (by omega) (by omega)
theorem c_belt {n p : Nat} {g : Nat → Int32} (M : vv_M) (hM : ∀ k, k < 24 → M (p + 1) k = g k) (hL : gLen g) (hn : 8 ≤ n) : f_X2_beltLength n p M = some (nI (gPre g 6), M) := by
  unfold f_X2_beltLength
  rw [show (6 : Int32) = nI 6 from rfl, bnd (c_first M hM hL (by omega) hn)]
theorem c_zoneAt {n p c : Nat} {g : Nat → Int32} (M : vv_M) (hM : ∀ k, k < 24 → M (p + 1) k = g k) (hL : gLen g) (hc : c < gPre g 6) (hn : 8 ≤ n) : f_X2_zoneAt n p (nI c) M = some (nI (gZone g c), M) := by
  have h6 := gPre_6 hL
  have hmono : ∀ q, q < 6 → gPre g (q + 1) ≤ gPre g 6 := by
    intro q hq
    rcases (show q = 0 ∨ q = 1 ∨ q = 2 ∨ q = 3 ∨ q = 4 ∨ q = 5 by omega) with rfl | rfl | rfl | rfl | rfl | rfl <;> simp only [gPre] <;> omega
  have st : ∀ (j q k : Nat), q + j = 5 → j < k → gPre g q ≤ c → f_X2_zoneAt_4 n k p (nI c) (nI (gPre g q)) (nI q) M = some (nI (gZone g c), M) := by
    intro j
    induction j with
    | zero =>
      intro q k hq hk h
      obtain ⟨k, rfl⟩ : ∃ m, k = m + 1 := ⟨k - 1, by omega⟩
      obtain rfl : q = 5 := by omega
      rw [f_X2_zoneAt_4.eq_2, if_pos (show (5 : Int32) ≤ nI 5 from nI_le (a := 5) (b := 5) (Nat.le_refl _) (by omega)), gZone_eq (z := 5) (by omega) h hc]
      rfl
    | succ j ih =>
      intro q k hq hk h
      obtain ⟨k, rfl⟩ : ∃ m, k = m + 1 := ⟨k - 1, by omega⟩
      rw [f_X2_zoneAt_4.eq_2]
      have e := (hL q (by omega)).1
      have h9 := hmono q (by omega)
      have h8 : gPre g (q + 1) = gPre g q + gln g q := rfl
      have e2 : M (p + 1) (q * 4 + 0) = nI (gln g q) := by rw [hM _ (by omega), show q * 4 + 0 = 0 + 4 * q + 0 by omega]; exact e
      simp (disch := omega) only [ix_al, ix_ar, ix_ml, ix_mr, ix_cl, ix_cll, ix_n0, ix_l0, ix_nge, or_self, ↓reduceIte, ↓ix_let, ix_bs, up_s, bx_uu, ix_lel, e2, nI_add]
      refine ife (fun h2 => ?_) (fun h2 => ?_)
      · rw [ix_le (by omega) (by omega)] at h2
        exact ih (q + 1) k (by omega) (by omega) h2
      · rw [ix_le (by omega) (by omega)] at h2
        rw [gZone_eq (z := q) (by omega) h (by omega)]
  exact st 5 0 n (by omega) (by omega) (Nat.zero_le _)
def cFault (B : Nat → Int32) (t : Int32) (b κ : Nat) (c : Int32) : Nat → Int32 := if B (b * 22 + 8) &&& ((1 : Int32) <<< (nI κ &&& 31)) = 0 then upd (upd (upd B (b * 22 + 8) (B (b * 22 + 8) ||| ((1 : Int32) <<< (nI κ &&& 31)))) (b * 22 + (12 + κ)) c) (b * 22 + (17 + κ)) t else B
theorem c_noteFault {n p b κ : Nat} (c : Int32) (M : vv_M) (hb : b ≤ 30) (hκ : κ < 5) : f_X2_noteFault n p (nI (b * 22)) (nI κ) c M = some ((), va_up M (p + 4) (cFault (M (p + 4)) (M p 5) b κ c)) := by
  unfold f_X2_noteFault cFault
  have e1 : ∀ q : Nat, p ≠ p + 4 := fun _ => by omega
  simp (disch := omega) only [ix_al, ix_ar, ix_ml, ix_mr, ix_cl, ix_cll, ix_n0, ix_l0, ix_nge, or_self, ↓reduceIte, ↓ix_let, ix_bs, up_s, bx_uu, nI_add, up_n]
  refine ife (fun h => ?_) (fun h => ?_)
  · rw [if_pos h, show b * 22 + 12 + κ = b * 22 + (12 + κ) by omega, show b * 22 + 17 + κ = b * 22 + (17 + κ) by omega]
  · rw [if_neg h, up_id]
theorem gFault_10 {g : Nat → Int32} {P : Prop} [Decidable P] {b k : Nat} {c : Int32} : gFault g (if P then 0 else 1) b k c = if P then g else gFault g 1 b k c := by
  by_cases h : P
  · rw [if_pos h, if_pos h]
    unfold gFault
    rw [if_pos rfl]
  · rw [if_neg h, if_neg h]
theorem cFault_ne {B : Nat → Int32} {t c : Int32} {b κ j : Nat} (h1 : j ≠ b * 22 + 8) (h2 : j ≠ b * 22 + (12 + κ)) (h3 : j ≠ b * 22 + (17 + κ)) : cFault B t b κ c j = B j := by
  unfold cFault
  split
  · rw [ud_ne h3, ud_ne h2, ud_ne h1]
  · rfl
/-- a fault is kept on both sides -/
theorem Rb_fault {B g : Nat → Int32} {b κ : Nat} {c : Int32} (h : Rb B g b) (hκ : κ < 5) : Rb (cFault B (g 52) b κ c) (gFault g 1 b κ c) b := by
  obtain ⟨h1, h2, h3, h4⟩ := h
  have e8 := h1 8 (by omega) (by omega)
  have h10 : ((1 : Int32) = 0) = False := by decide
  unfold gFault
  rw [if_neg (by decide)]
  unfold cFault
  rw [e8]
  by_cases hb : gbit (g (56 + 21 * b + 8)) κ
  · rw [if_pos hb, if_neg (fun q => (cbit_iff (by omega)).mp q hb)]
    exact ⟨h1, h2, h3, h4⟩
  · rw [if_neg hb, if_pos ((cbit_iff (by omega)).mpr hb)]
    have hz : ∀ G : Nat → Int32, (∀ i, i < 56 → G i = g i) → ∀ x, gZone G x = gZone g x := fun G hG x => gZone_congr (fun z hz => hG _ (by omega)) x
    refine ⟨fun j hj h9 => ?_, fun h5 => ?_, fun h5 => ?_, fun k hk => ?_⟩
    · by_cases hj8 : j = 8
      · subst hj8
        rw [ud_ne (by omega), ud_ne (by omega), ud_s, ud_ne (by omega), ud_ne (by omega), ud_s]
      · rw [ud_ne (by omega), ud_ne (by omega), ud_ne (by omega), ud_ne (by omega), ud_ne (by omega), ud_ne (by omega)]
        exact h1 j hj h9
    · rw [ud_ne (by omega), ud_ne (by omega), ud_ne (by omega)] at h5
      obtain ⟨a1, a2⟩ := h2 h5
      unfold gcell at a2 ⊢
      rw [hz _ (fun i hi => by rw [ud_ne (by omega), ud_ne (by omega), ud_ne (by omega)])]
      rw [ud_ne (by omega), ud_ne (by omega), ud_ne (by omega), ud_ne (by omega), ud_ne (by omega), ud_ne (by omega), ud_ne (by omega), ud_ne (by omega), ud_ne (by omega)]
      exact ⟨a1, a2⟩
    · rw [ud_ne (by omega), ud_ne (by omega), ud_ne (by omega)] at h5
      rw [ud_ne (by omega), ud_ne (by omega), ud_ne (by omega)]
      exact h3 h5
    · have e9 : upd (upd (upd g (56 + 21 * b + 8) (g (56 + 21 * b + 8) ||| ((1 : Int32) <<< (nI κ &&& 31)))) (56 + 21 * b + (11 + κ)) c) (56 + 21 * b + (16 + κ)) (g 52) (56 + 21 * b + 8) = g (56 + 21 * b + 8) ||| ((1 : Int32) <<< (nI κ &&& 31)) := by
        rw [ud_ne (by omega), ud_ne (by omega), ud_s]
      rw [e9, gbit_or (by omega) (by omega)]
      by_cases hk2 : k = κ
      · subst hk2
        refine ⟨fun _ => ?_, fun q => absurd (Or.inr rfl) q⟩
        rw [ud_ne (by omega), ud_s, ud_ne (by omega), ud_s, ud_s, ud_s]
        exact ⟨rfl, rfl⟩
      · obtain ⟨a1, a2⟩ := h4 k hk
        rw [ud_ne (by omega), ud_ne (by omega), ud_ne (by omega), ud_ne (by omega), ud_ne (by omega), ud_ne (by omega), ud_ne (by omega), ud_ne (by omega), ud_ne (by omega), ud_ne (by omega), ud_ne (by omega), ud_ne (by omega)]
        exact ⟨fun q => a1 (q.resolve_right hk2), fun q => a2 (fun z => q (Or.inl z))⟩
/-- a board that isn't touched -/
theorem Rb_congr {B B' g g' : Nat → Int32} {b : Nat} (h : Rb B g b) (hB : ∀ j, j < 22 → B' (b * 22 + j) = B (b * 22 + j)) (hg : ∀ j, j < 21 → g' (56 + 21 * b + j) = g (56 + 21 * b + j)) (hz : ∀ x, gZone g' x = gZone g x) : Rb B' g' b := by
  obtain ⟨h1, h2, h3, h4⟩ := h
  refine ⟨fun j hj h9 => by rw [hB j (by omega), hg j (by omega)]; exact h1 j hj h9, fun h5 => ?_, fun h5 => ?_, fun k hk => ?_⟩
  · rw [hg 2 (by omega)] at h5
    unfold gcell
    rw [hB 3 (by omega), hB 11 (by omega), hg 3 (by omega), hz]
    exact h2 h5
  · rw [hg 2 (by omega)] at h5
    rw [hB 3 (by omega)]
    exact h3 h5
  · rw [hg 8 (by omega), hB (12 + k) (by omega), hB (17 + k) (by omega), hg (11 + k) (by omega), hg (16 + k) (by omega)]
    exact h4 k hk
