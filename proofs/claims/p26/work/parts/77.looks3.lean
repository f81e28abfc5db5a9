/-! worstCell, faultCells -/
abbrev gHit (g : Nat → Int32) (b k c : Nat) : Prop := gbit (g (56 + 21 * b + 8)) k ∧ g (56 + 21 * b + (11 + k)) = nI c
def hN (g : Nat → Int32) (b K c k : Nat) : Nat := if (K = 5 ∨ k = K) ∧ gHit g b k c then 1 else 0
def hS (g : Nat → Int32) (b K c : Nat) : Nat → Nat
  | 0 => 0
  | k + 1 => hS g b K c k + hN g b K c k
def gN (g : Nat → Int32) (K c : Nat) : Nat → Nat
  | 0 => 0
  | b + 1 => gN g K c b + hS g b K c 5
theorem hS_le (g : Nat → Int32) (b K c : Nat) : ∀ k, hS g b K c k ≤ k := by
  intro k
  induction k with
  | zero => exact Nat.le_refl _
  | succ k ih =>
    show hS g b K c k + hN g b K c k ≤ k + 1
    have : hN g b K c k ≤ 1 := by unfold hN; split <;> omega
    omega
theorem gN_le (g : Nat → Int32) (K c : Nat) : ∀ b, gN g K c b ≤ 5 * b := by
  intro b
  induction b with
  | zero => exact Nat.le_refl _
  | succ b ih =>
    have := hS_le g b K c 5
    show gN g K c b + hS g b K c 5 ≤ 5 * (b + 1)
    omega
theorem hS_one (g : Nat → Int32) (b c : Nat) {κ : Nat} (hκ : κ < 5) : hS g b κ c 5 = if gHit g b κ c then 1 else 0 := by
  have h5 : (κ = 5) = False := eq_false (by omega)
  show 0 + hN g b κ c 0 + hN g b κ c 1 + hN g b κ c 2 + hN g b κ c 3 + hN g b κ c 4 = _
  have e0 : ∀ k, k ≠ κ → hN g b κ c k = 0 := fun k hk => if_neg (fun h => by rcases h.1 with h | h <;> omega)
  have e1 : hN g b κ c κ = if gHit g b κ c then 1 else 0 := by
    unfold hN
    by_cases h : gHit g b κ c
    · rw [if_pos h, if_pos ⟨Or.inr rfl, h⟩]
    · rw [if_neg h, if_neg (fun q => h q.2)]
  rcases (show κ = 0 ∨ κ = 1 ∨ κ = 2 ∨ κ = 3 ∨ κ = 4 by omega) with rfl | rfl | rfl | rfl | rfl
  · rw [e1, e0 1 (by omega), e0 2 (by omega), e0 3 (by omega), e0 4 (by omega)]
    generalize (if gHit g b 0 c then 1 else 0) = u
    omega
  · rw [e1, e0 0 (by omega), e0 2 (by omega), e0 3 (by omega), e0 4 (by omega)]
    generalize (if gHit g b 1 c then 1 else 0) = u
    omega
  · rw [e1, e0 0 (by omega), e0 1 (by omega), e0 3 (by omega), e0 4 (by omega)]
    generalize (if gHit g b 2 c then 1 else 0) = u
    omega
  · rw [e1, e0 0 (by omega), e0 1 (by omega), e0 2 (by omega), e0 4 (by omega)]
    generalize (if gHit g b 3 c then 1 else 0) = u
    omega
  · rw [e1, e0 0 (by omega), e0 1 (by omega), e0 2 (by omega), e0 3 (by omega)]
    generalize (if gHit g b 4 c then 1 else 0) = u
    omega
theorem c_cellIs {B g : Nat → Int32} {b k c : Nat} (h : Rb B g b) (hk : k < 5) (hc : c ≤ 48) : (B (b * 22 + (12 + k)) = nI c) ↔ gHit g b k c := by
  obtain ⟨q1, q2⟩ := h.2.2.2 k hk
  by_cases hg : gbit (g (56 + 21 * b + 8)) k
  · rw [(q1 hg).1]
    exact ⟨fun h => ⟨hg, h⟩, fun h => h.2⟩
  · rw [(q2 hg).1]
    refine ⟨fun h => ?_, fun h => absurd h.1 hg⟩
    have : nI c < 0 := by rw [← h]; decide
    exact absurd this (nI_pos (by omega))
theorem c_bwf {n p l κ c : Nat} (hn : 40 ≤ n) (hκ : κ < 5) (hc : c ≤ 48) {M : vv_M} {g : Nat → Int32} (hI : gInv g l) (hR : Ro p M g l) : f_X2_boardsWithFault n p (nI κ) (nI c) M = some (nI (gN g κ c l), M) := by
  have h31 := hI.2.2.1
  have h6 : M p 6 = nI l := hR.2.2.2.1.2.1.trans hI.2.1
  have st : ∀ (j b k : Nat), b + j = l → j < k → f_X2_boardsWithFault_5 n k p (nI κ) (nI c) (nI (gN g κ c b)) (nI b) M = some (nI (gN g κ c l), M) := by
    intro j
    induction j with
    | zero =>
      intro b k hb hk
      obtain ⟨k, rfl⟩ : ∃ q, k = q + 1 := ⟨k - 1, by omega⟩
      obtain rfl : b = l := by omega
      rw [f_X2_boardsWithFault_5.eq_2, h6, if_pos (nI_le (Nat.le_refl _) (by omega))]
    | succ j ih =>
      intro b k hb hk
      obtain ⟨k, rfl⟩ : ∃ q, k = q + 1 := ⟨k - 1, by omega⟩
      have hRb := hR.2.2.2.2 b (by omega)
      have hci := c_cellIs hRb hκ hc
      have h6' : (nI l ≤ nI b) = False := eq_false (fun h => absurd ((nI_leI (by omega) (by omega)).mp h) (by omega))
      have hi := ih (b + 1) k (by omega) (by omega)
      simp only [gN] at hi
      rw [hS_one g b c hκ] at hi
      rw [f_X2_boardsWithFault_5.eq_2]
      simp (disch := omega) only [ix_al, ix_ml, nI_add, ix_cl, ix_n0, ix_nge, or_self, ↓reduceIte, ↓ix_let, h6, h6', f_X2_boardsWithFault_36, Nat.add_assoc]
      refine ife (fun h => ?_) (fun h => ?_)
      · rw [if_pos (hci.mp h)] at hi
        exact hi
      · rw [if_neg (fun q => h (hci.mpr q))] at hi
        exact hi
  exact st l 0 n (by omega) (by omega)
/-! the cells of faults -/
def aK (g : Nat → Int32) (b c : Nat) : Nat → Bool
  | 0 => false
  | k + 1 => aK g b c k || decide (gHit g b k c)
def aB (g : Nat → Int32) (c : Nat) : Nat → Bool
  | 0 => false
  | b + 1 => aB g c b || aK g b c 5
theorem hS_aK (g : Nat → Int32) (b c : Nat) : ∀ k, decide (0 < hS g b 5 c k) = aK g b c k := by
  intro k
  induction k with
  | zero => rfl
  | succ k ih =>
    show decide (0 < hS g b 5 c k + hN g b 5 c k) = (aK g b c k || decide (gHit g b k c))
    rw [← ih]
    unfold hN
    by_cases h : gHit g b k c
    · rw [if_pos ⟨Or.inl rfl, h⟩, decide_eq_true h, Bool.or_true, decide_eq_true (by omega)]
    · rw [if_neg (fun q => h q.2), decide_eq_false h, Bool.or_false, Nat.add_zero]
theorem gN_aB (g : Nat → Int32) (c : Nat) : ∀ b, decide (0 < gN g 5 c b) = aB g c b := by
  intro b
  induction b with
  | zero => rfl
  | succ b ih =>
    show decide (0 < gN g 5 c b + hS g b 5 c 5) = (aB g c b || aK g b c 5)
    rw [← ih, ← hS_aK]
    by_cases h1 : 0 < gN g 5 c b
    · rw [decide_eq_true h1, Bool.true_or, decide_eq_true (by omega)]
    · rw [decide_eq_false h1, Bool.false_or]
      have : gN g 5 c b = 0 := by omega
      rw [this, Nat.zero_add]
theorem c_set15 {n p l b : Nat} {k4 : Nat → Int64 → Int32 → vv_M → Option (Int64 × vv_M)} {M : vv_M} {g : Nat → Int32} (hI : gInv g l) (hR : Ro p M g l) (hb : b < l) : ∀ (j k q X : Nat), k + j = 5 → j < q → X < 2 ^ 49 → (∀ c, c < 49 → X.testBit c = (aB g c b || aK g b c k)) → ∃ X', f_X2_setOfFaultCells_15 n k4 q p (lN X) (nI b) (nI k) M = k4 p (lN X') (nI (b + 1)) M ∧ X' < 2 ^ 49 ∧ ∀ c, c < 49 → X'.testBit c = aB g c (b + 1) := by
  have h31 := hI.2.2.1
  have hRb := hR.2.2.2.2 b hb
  have hB := (hI.2.2.2.2.2 b hb).2.2.2
  intro j
  induction j with
  | zero =>
    intro k q X hk hq hX hT
    obtain ⟨q, rfl⟩ : ∃ z, q = z + 1 := ⟨q - 1, by omega⟩
    obtain rfl : k = 5 := by omega
    refine ⟨X, ?_, hX, hT⟩
    rw [f_X2_setOfFaultCells_15.eq_2, if_pos (show (5 : Int32) ≤ nI 5 from nI_le (a := 5) (b := 5) (Nat.le_refl _) (by omega)), ix_let, ix_al]
  | succ j ih =>
    intro k q X hk hq hX hT
    obtain ⟨q, rfl⟩ : ∃ z, q = z + 1 := ⟨q - 1, by omega⟩
    obtain ⟨q1, q2⟩ := hRb.2.2.2 k (by omega)
    have h5' : ((5 : Int32) ≤ nI k) = False := eq_false (fun h => absurd ((nI_leI (a := 5) (by omega) (by omega)).mp h) (by omega))
    by_cases hg : gbit (g (56 + 21 * b + 8)) k
    · obtain ⟨c0, hc0, hc1⟩ := hB k (by omega) hg
      have e12 : M (p + 4) (b * 22 + (12 + k)) = nI c0 := (q1 hg).1.trans hc1
      have hne : (nI c0 = (-1009 : Int32)) = False := eq_false (fun h => by
        have : nI c0 < 0 := by rw [h]; decide
        exact absurd this (nI_pos (by omega)))
      have hX2 : 2 ^ c0 < 2 ^ 49 := Nat.pow_lt_pow_right (by decide) (by omega)
      have hXo : X ||| 2 ^ c0 < 2 ^ 49 := Nat.or_lt_two_pow hX hX2
      obtain ⟨X', h1, h2, h3⟩ := ih (k + 1) q (X ||| 2 ^ c0) (by omega) (by omega) hXo (by
        intro c hc
        rw [Nat.testBit_or, hT c hc, Nat.testBit_two_pow]
        show _ = (aB g c b || (aK g b c k || decide (gHit g b k c)))
        rw [Bool.or_assoc]
        congr 2
        have : (c0 = c) ↔ gHit g b k c := by
          constructor
          · intro h
            exact ⟨hg, by rw [hc1, h]⟩
          · rintro ⟨-, h⟩
            rw [hc1] at h
            exact (nI_eq (by omega) (by omega)).mp h
        exact decide_eq_decide.mpr this)
      refine ⟨X', ?_, h2, h3⟩
      rw [f_X2_setOfFaultCells_15.eq_2, ← h1]
      have es : (1 : Int64) <<< ((nI c0).toInt64 &&& 63) = lN (1 * 2 ^ c0) := wb_shl 1 (by omega)
      simp (disch := omega) only [h5', ix_al, ix_ml, nI_add, ix_cl, ix_n0, ix_nge, or_self, ↓reduceIte, ↓ix_let, Nat.add_assoc]
      have e12' : M (p + 4) (b * 22 + (OfNat.ofNat 12 + k)) = nI c0 := e12
      rw [e12', if_neg (fun h => hne ▸ h), es, Nat.one_mul, wb_or (by omega) (by omega)]
      unfold f_X2_setOfFaultCells_53
      rw [ix_let, ix_al]
    · have e12 : M (p + 4) (b * 22 + (12 + k)) = -1009 := (q2 hg).1
      obtain ⟨X', h1, h2, h3⟩ := ih (k + 1) q X (by omega) (by omega) hX (by
        intro c hc
        rw [hT c hc]
        show _ = (aB g c b || (aK g b c k || decide (gHit g b k c)))
        rw [decide_eq_false (fun q => hg q.1), Bool.or_false])
      refine ⟨X', ?_, h2, h3⟩
      rw [f_X2_setOfFaultCells_15.eq_2, ← h1]
      simp (disch := omega) only [h5', ix_al, ix_ml, nI_add, ix_cl, ix_n0, ix_nge, or_self, ↓reduceIte, ↓ix_let, Nat.add_assoc]
      have e12' : M (p + 4) (b * 22 + (OfNat.ofNat 12 + k)) = -1009 := e12
      rw [e12', if_pos rfl]
      unfold f_X2_setOfFaultCells_53
      rw [ix_let, ix_al]
theorem c_set {n p l : Nat} (hn : 40 ≤ n) {M : vv_M} {g : Nat → Int32} (hI : gInv g l) (hR : Ro p M g l) : ∃ X, f_X2_setOfFaultCells n p M = some (lN X, M) ∧ X < 2 ^ 49 ∧ ∀ c, c < 49 → X.testBit c = aB g c l := by
  have h31 := hI.2.2.1
  have h6 : M p 6 = nI l := hR.2.2.2.1.2.1.trans hI.2.1
  have st : ∀ (j b k X : Nat), b + j = l → j < k → X < 2 ^ 49 → (∀ c, c < 49 → X.testBit c = aB g c b) → ∃ X', f_X2_setOfFaultCells_4 n k p (lN X) (nI b) M = some (lN X', M) ∧ X' < 2 ^ 49 ∧ ∀ c, c < 49 → X'.testBit c = aB g c l := by
    intro j
    induction j with
    | zero =>
      intro b k X hb hk hX hT
      obtain ⟨k, rfl⟩ : ∃ q, k = q + 1 := ⟨k - 1, by omega⟩
      obtain rfl : b = l := by omega
      refine ⟨X, ?_, hX, hT⟩
      rw [f_X2_setOfFaultCells_4.eq_2, h6, if_pos (nI_le (Nat.le_refl _) (by omega))]
    | succ j ih =>
      intro b k X hb hk hX hT
      obtain ⟨k, rfl⟩ : ∃ q, k = q + 1 := ⟨k - 1, by omega⟩
      obtain ⟨X1, a1, a2, a3⟩ := c_set15 (n := n) (k4 := f_X2_setOfFaultCells_4 n k) hI hR (show b < l by omega) 5 0 n X (by omega) (by omega) hX (fun c hc => by rw [hT c hc]; exact (Bool.or_false _).symm)
      obtain ⟨X2, b1, b2, b3⟩ := ih (b + 1) k X1 (by omega) (by omega) a2 a3
      refine ⟨X2, ?_, b2, b3⟩
      rw [f_X2_setOfFaultCells_4.eq_2, h6, if_neg (fun h => absurd ((nI_leI (by omega) (by omega)).mp h) (by omega)), ← b1]
      exact a1
  exact st l 0 n 0 (by omega) (by omega) (by decide) (fun c hc => Nat.zero_testBit c)
