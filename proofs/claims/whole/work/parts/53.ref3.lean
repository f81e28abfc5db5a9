
def gln (g : Nat → Int32) (z : Nat) : Nat := (g (0 + 4 * z + 0)).toNatClampNeg
def gPre (g : Nat → Int32) : Nat → Nat
  | 0 => 0
  | z + 1 => gPre g z + gln g z
def gZone (g : Nat → Int32) (c : Nat) : Nat := if c < gPre g 1 then 0 else if c < gPre g 2 then 1 else if c < gPre g 3 then 2 else if c < gPre g 4 then 3 else if c < gPre g 5 then 4 else 5
def gcell (g : Nat → Int32) (b : Nat) : Nat := (g (56 + 21 * b + 3)).toNatClampNeg
def gLen (g : Nat → Int32) : Prop := ∀ z, z < 6 → g (0 + 4 * z + 0) = nI (gln g z) ∧ 2 ≤ gln g z ∧ gln g z ≤ 8
def gBrd (g : Nat → Int32) (b : Nat) : Prop := (∃ c, c < 4 ∧ g (56 + 21 * b + 0) = nI c) ∧ (∃ w, 1 ≤ w ∧ w ≤ 9 ∧ g (56 + 21 * b + 1) = nI w) ∧ (g (56 + 21 * b + 2) = 0 → g (56 + 21 * b + 3) = nI (gcell g b) ∧ gcell g b < gPre g 6) ∧ ∀ k, k < 5 → gbit (g (56 + 21 * b + 8)) k → ∃ c, c ≤ 48 ∧ g (56 + 21 * b + (11 + k)) = nI c
def gInv (g : Nat → Int32) (l : Nat) : Prop := gLen g ∧ g 53 = nI l ∧ l ≤ 31 ∧ (∃ s, g 48 = nI s ∧ 1 ≤ s ∧ s ≤ 3) ∧ (∃ a, g 49 = nI a ∧ 1 ≤ a ∧ a ≤ 20) ∧ ∀ b, b < l → gBrd g b
theorem gPre_6 {g : Nat → Int32} (h : gLen g) : gPre g 6 ≤ 48 ∧ 12 ≤ gPre g 6 := by
  have h0 := (h 0 (by omega)).2
  have h1 := (h 1 (by omega)).2
  have h2 := (h 2 (by omega)).2
  have h3 := (h 3 (by omega)).2
  have h4 := (h 4 (by omega)).2
  have h5 := (h 5 (by omega)).2
  simp only [gPre]
  omega
theorem gBelt_nI {g : Nat → Int32} (h : gLen g) : gBelt g = nI (gPre g 6) := by
  have h0 := (h 0 (by omega)).1
  have h1 := (h 1 (by omega)).1
  have h2 := (h 2 (by omega)).1
  have h3 := (h 3 (by omega)).1
  have h4 := (h 4 (by omega)).1
  have h5 := (h 5 (by omega)).1
  unfold gBelt
  rw [h0, h1, h2, h3, h4, h5]
  simp only [gPre, ix_ar, nI_add]
theorem gZone_eq {g : Nat → Int32} {z c : Nat} (hz : z < 6) (h1 : gPre g z ≤ c) (h2 : c < gPre g (z + 1)) : gZone g c = z := by
  unfold gZone
  rcases (show z = 0 ∨ z = 1 ∨ z = 2 ∨ z = 3 ∨ z = 4 ∨ z = 5 by omega) with rfl | rfl | rfl | rfl | rfl | rfl <;> simp only [gPre] at h1 h2 ⊢ <;> simp (disch := omega) only [ix_ylt, ix_nlt, if_true, if_false]
theorem gZone_lt (g : Nat → Int32) (c : Nat) : gZone g c < 6 := by
  unfold gZone
  split
  · omega
  split
  · omega
  split
  · omega
  split
  · omega
  split <;> omega
theorem r_zoneOf {n p c : Nat} (M : vv_M) (hL : gLen (M (p + 1))) (hc : c < gPre (M (p + 1)) 6) (hn : 7 ≤ n) : f_X5_zoneOf n p (nI c) M = some (nI (gZone (M (p + 1)) c), M) := by
  have h6 := gPre_6 hL
  have st : ∀ (j z k : Nat), z + j = 6 → j < k → gPre (M (p + 1)) z ≤ c → f_X5_zoneOf_4 n k p (nI z) (nI (c - gPre (M (p + 1)) z)) M = some (nI (gZone (M (p + 1)) c), M) := by
    intro j
    induction j with
    | zero =>
      intro z k hz hk h
      obtain rfl : z = 6 := by omega
      omega
    | succ j ih =>
      intro z k hz hk h
      obtain ⟨k, rfl⟩ : ∃ q, k = q + 1 := ⟨k - 1, by omega⟩
      obtain ⟨e1, e2, e3⟩ := hL z (by omega)
      rw [f_X5_zoneOf_4.eq_2]
      simp (disch := omega) only [ix_al, ix_ar, ix_ml, ix_mr, ix_cl, ix_cll, ix_n0, ix_l0, ix_nge, or_self, if_false, if_true, ix_let, ix_bs, up_s, bx_uu, r_ofZ, e1, ix_lt]
      by_cases h9 : c - gPre (M (p + 1)) z < gln (M (p + 1)) z
      · rw [if_pos h9, gZone_eq (by omega) h (by show c < gPre _ z + gln _ z; omega)]
      · rw [if_neg h9, pk_sub (by omega)]
        have e : c - gPre (M (p + 1)) z - gln (M (p + 1)) z = c - gPre (M (p + 1)) (z + 1) := by
          show _ = c - (gPre _ z + gln _ z)
          omega
        rw [e]
        exact ih (z + 1) k (by omega) (by omega) (by show gPre _ z + gln _ z ≤ c; omega)
  exact st 6 0 n (by omega) (by omega) (Nat.zero_le _)
/-- whether a board may be loaded -/
def gFree (g : Nat → Int32) : Nat → Bool
  | 0 => true
  | b + 1 => gFree g b && !(decide (g (56 + 21 * b + 2) = 0) && decide (g (56 + 21 * b + 3) < g 49))
theorem gFree_iff (g : Nat → Int32) (l : Nat) : gFree g l = true ↔ ∀ b, b < l → ¬ (g (56 + 21 * b + 2) = 0 ∧ g (56 + 21 * b + 3) < g 49) := by
  induction l with
  | zero => simp [gFree]
  | succ l ih =>
    simp only [gFree, Bool.and_eq_true, ih, Bool.not_eq_true', Bool.and_eq_false_iff, decide_eq_false_iff_not]
    constructor
    · intro ⟨h1, h2⟩ b hb
      rcases Nat.lt_or_ge b l with h | h
      · exact h1 b h
      · obtain rfl : b = l := by omega
        rintro ⟨g1, g2⟩
        rcases h2 with h2 | h2
        · exact h2 g1
        · exact h2 g2
    · intro h
      refine ⟨fun b hb => h b (by omega), ?_⟩
      by_cases g1 : g (56 + 21 * l + 2) = 0
      · exact Or.inr (fun g2 => h l (by omega) ⟨g1, g2⟩)
      · exact Or.inl g1
theorem r_hasRoom {n p l : Nat} (M : vv_M) (hl : M (p + 1) 53 = nI l) (h31 : l ≤ 31) (hn : 40 ≤ n) : f_X5_hasRoom n p M = some (zi (gFree (M (p + 1)) l = true), M) := by
  have st : ∀ (j b k : Nat), b + j = l → j < k → (∀ q, q < b → ¬ (M (p + 1) (56 + 21 * q + 2) = 0 ∧ M (p + 1) (56 + 21 * q + 3) < M (p + 1) 49)) → f_X5_hasRoom_2 n k p (nI b) M = some (zi (gFree (M (p + 1)) l = true), M) := by
    intro j
    induction j with
    | zero =>
      intro b k hb hk hx
      obtain ⟨k, rfl⟩ : ∃ q, k = q + 1 := ⟨k - 1, by omega⟩
      obtain rfl : b = l := by omega
      rw [f_X5_hasRoom_2.eq_2]
      simp (disch := omega) only [ix_al, ix_ar, ix_ml, ix_mr, ix_cl, ix_cll, ix_n0, ix_l0, ix_nge, or_self, if_false, if_true, ix_let, ix_bs, up_s, bx_uu, hl, ix_le, Nat.le_refl]
      rw [zi_t ((gFree_iff _ _).mpr hx)]
    | succ j ih =>
      intro b k hb hk hx
      obtain ⟨k, rfl⟩ : ∃ q, k = q + 1 := ⟨k - 1, by omega⟩
      rw [f_X5_hasRoom_2.eq_2]
      have hs : ∀ (h : ¬ (M (p + 1) (56 + 21 * b + 2) = 0 ∧ M (p + 1) (56 + 21 * b + 3) < M (p + 1) 49)), ∀ q, q < b + 1 → ¬ (M (p + 1) (56 + 21 * q + 2) = 0 ∧ M (p + 1) (56 + 21 * q + 3) < M (p + 1) 49) := by
        intro h q hq
        rcases Nat.lt_or_ge q b with g1 | g1
        · exact hx q g1
        · obtain rfl : q = b := by omega
          exact h
      simp (disch := omega) only [ix_al, ix_ar, ix_ml, ix_mr, ix_cl, ix_cll, ix_n0, ix_l0, ix_nge, or_self, if_false, if_true, ix_let, ix_bs, up_s, bx_uu, hl, ix_le, r_of, r_isOn (show b ≤ 31 by omega), zi_0, f_X5_hasRoom_43]
      by_cases h : M (p + 1) (56 + 21 * b + 2) = 0
      · rw [if_neg (not_not_intro h)]
        by_cases h2 : M (p + 1) 49 ≤ M (p + 1) (56 + 21 * b + 3)
        · rw [if_pos h2]
          exact ih (b + 1) k (by omega) (by omega) (hs (fun q => absurd q.2 (Int32.not_lt.mpr h2)))
        · rw [if_neg h2, zi_f]
          intro q
          exact (gFree_iff _ _).mp q b (by omega) ⟨h, Int32.not_le.mp h2⟩
      · rw [if_pos h]
        exact ih (b + 1) k (by omega) (by omega) (hs (fun q => h q.1))
  exact st l 0 n (by omega) (by omega) (fun q hq => absurd hq (Nat.not_lt_zero q))
/-- the weights in a zone -/
def gW (g : Nat → Int32) (z : Nat) : Nat → Int32
  | 0 => 0
  | b + 1 => if g (56 + 21 * b + 2) = 0 ∧ gZone g (gcell g b) = z then gW g z b + g (56 + 21 * b + 1) else gW g z b
theorem r_weightsIn {n p l z : Nat} (M : vv_M) (hI : gInv (M (p + 1)) l) (hn : 40 ≤ n) (hz : z < 6) : f_X5_weightsIn n p (nI z) M = some (gW (M (p + 1)) z l, M) := by
  obtain ⟨hL, hl, h31, -, -, hB⟩ := hI
  have st : ∀ (j b k : Nat), b + j = l → j < k → f_X5_weightsIn_4 n k p (nI z) (gW (M (p + 1)) z b) (nI b) M = some (gW (M (p + 1)) z l, M) := by
    intro j
    induction j with
    | zero =>
      intro b k hb hk
      obtain ⟨k, rfl⟩ : ∃ q, k = q + 1 := ⟨k - 1, by omega⟩
      obtain rfl : b = l := by omega
      rw [f_X5_weightsIn_4.eq_2]
      simp (disch := omega) only [ix_al, ix_ar, ix_ml, ix_mr, ix_cl, ix_cll, ix_n0, ix_l0, ix_nge, or_self, if_false, if_true, ix_let, ix_bs, up_s, bx_uu, hl, ix_le, Nat.le_refl]
    | succ j ih =>
      intro b k hb hk
      obtain ⟨k, rfl⟩ : ∃ q, k = q + 1 := ⟨k - 1, by omega⟩
      rw [f_X5_weightsIn_4.eq_2]
      have hi := ih (b + 1) k (by omega) (by omega)
      simp only [gW] at hi
      simp (disch := omega) only [ix_al, ix_ar, ix_ml, ix_mr, ix_cl, ix_cll, ix_n0, ix_l0, ix_nge, or_self, if_false, if_true, ix_let, ix_bs, up_s, bx_uu, hl, ix_le, r_of, r_isOn (show b ≤ 31 by omega), zi_0, f_X5_weightsIn_55, f_X5_weightsIn_56, Int32.add_zero]
      by_cases h : M (p + 1) (56 + 21 * b + 2) = 0
      · obtain ⟨e1, e2⟩ := (hB b (by omega)).2.2.1 h
        have h6 := gPre_6 hL
        have h7 := gZone_lt (M (p + 1)) (gcell (M (p + 1)) b)
        rw [if_neg (not_not_intro h), e1]
        simp (disch := omega) only [ix_al, ix_ar, ix_ml, ix_mr, ix_cl, ix_cll, ix_n0, ix_l0, ix_nge, or_self, if_false, if_true, ix_let, ix_bs, up_s, bx_uu, r_zoneOf (n := n) M hL e2 (by omega), ix_eq]
        by_cases h2 : gZone (M (p + 1)) (gcell (M (p + 1)) b) = z
        · rw [if_pos h2]
          rw [if_pos ⟨h, h2⟩] at hi
          exact hi
        · rw [if_neg h2]
          rw [if_neg (fun q => h2 q.2)] at hi
          exact hi
      · rw [if_pos h]
        rw [if_neg (fun q => h q.1)] at hi
        exact hi
  exact st l 0 n (by omega) (by omega)
