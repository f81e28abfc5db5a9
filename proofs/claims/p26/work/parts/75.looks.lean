/-! looks -/
theorem Top.oven {P Q : Nat} {M : vv_M} (h : Top P Q M) : ∃ l, l ≤ 30 ∧ gInv (M (Q + 1)) l ∧ gE (M (Q + 1)) ∧ Ro (P + 1 + 1) M (M (Q + 1)) l := by
  obtain ⟨r, len, -, -, ⟨h1, -⟩, -⟩ := h
  exact h1
theorem Pr.look {P Q : Nat} {fC fR : vv_M → Option (Int32 × vv_M)} (h : ∀ M, Top P Q M → ∃ x, fC M = some (x, M) ∧ fR M = some (x, M)) : Pr P Q fC fR := by
  intro M hT
  obtain ⟨x, h1, h2⟩ := h M hT
  exact ⟨x, M, M, h1, h2, hT⟩
def gOkn (g : Nat → Int32) : Nat → Int32
  | 0 => 0
  | b + 1 => if g (56 + 21 * b + 2) = 1 then (if g (56 + 21 * b + 8) = 0 then gOkn g b + 1 else gOkn g b) else gOkn g b
theorem c_okn {n p l : Nat} (hn : 40 ≤ n) {M : vv_M} {g : Nat → Int32} (hI : gInv g l) (hR : Ro p M g l) : f_X2_boardsLeftFaultless n p M = some (gOkn g l, M) := by
  have h31 := hI.2.2.1
  have h6 : M p 6 = nI l := hR.2.2.2.1.2.1.trans hI.2.1
  have st : ∀ (j b k : Nat), b + j = l → j < k → f_X2_boardsLeftFaultless_4 n k p (gOkn g b) (nI b) M = some (gOkn g l, M) := by
    intro j
    induction j with
    | zero =>
      intro b k hb hk
      obtain ⟨k, rfl⟩ : ∃ q, k = q + 1 := ⟨k - 1, by omega⟩
      obtain rfl : b = l := by omega
      rw [f_X2_boardsLeftFaultless_4.eq_2, h6, if_pos (nI_le (Nat.le_refl _) (by omega))]
    | succ j ih =>
      intro b k hb hk
      obtain ⟨k, rfl⟩ : ∃ q, k = q + 1 := ⟨k - 1, by omega⟩
      have hRb := hR.2.2.2.2 b (by omega)
      have e2 : M (p + 4) (b * 22 + 2) = g (56 + 21 * b + 2) := hRb.1 2 (by omega) (by omega)
      have e8 : M (p + 4) (b * 22 + 8) = g (56 + 21 * b + 8) := hRb.1 8 (by omega) (by omega)
      have h6' : (nI l ≤ nI b) = False := eq_false (fun h => absurd ((nI_leI (by omega) (by omega)).mp h) (by omega))
      have hi := ih (b + 1) k (by omega) (by omega)
      simp only [gOkn] at hi
      rw [f_X2_boardsLeftFaultless_4.eq_2]
      simp (disch := omega) only [ix_al, ix_ml, ix_cl, ix_cll, ix_n0, ix_l0, ix_nge, or_self, ↓reduceIte, ↓ix_let, h6, h6', e2, e8, f_X2_boardsLeftFaultless_44]
      refine ife (fun h => ?_) (fun h => ?_)
      · rw [if_pos h] at hi
        refine ife (fun h2 => ?_) (fun h2 => ?_)
        · rw [if_pos h2] at hi
          exact hi
        · rw [if_neg h2] at hi
          exact hi
      · rw [if_neg h] at hi
        exact hi
  exact st l 0 n (by omega) (by omega)
def gBi (g : Nat → Int32) (z : Nat) : Nat → Int32
  | 0 => 0
  | b + 1 => if g (56 + 21 * b + 2) = 0 ∧ gZone g (gcell g b) = z then gBi g z b + 1 else gBi g z b
theorem c_bi {n p l z : Nat} (hn : 40 ≤ n) (hz : z < 6) {M : vv_M} {g : Nat → Int32} (hI : gInv g l) (hR : Ro p M g l) : f_X2_boardsIn n p (nI z) M = some (gBi g z l, M) := by
  have h31 := hI.2.2.1
  have h6 : M p 6 = nI l := hR.2.2.2.1.2.1.trans hI.2.1
  have st : ∀ (j b k : Nat), b + j = l → j < k → f_X2_boardsIn_4 n k p (nI z) (gBi g z b) (nI b) M = some (gBi g z l, M) := by
    intro j
    induction j with
    | zero =>
      intro b k hb hk
      obtain ⟨k, rfl⟩ : ∃ q, k = q + 1 := ⟨k - 1, by omega⟩
      obtain rfl : b = l := by omega
      rw [f_X2_boardsIn_4.eq_2, h6, if_pos (nI_le (Nat.le_refl _) (by omega))]
    | succ j ih =>
      intro b k hb hk
      obtain ⟨k, rfl⟩ : ∃ q, k = q + 1 := ⟨k - 1, by omega⟩
      have hRb := hR.2.2.2.2 b (by omega)
      have e2 : M (p + 4) (b * 22 + 2) = g (56 + 21 * b + 2) := hRb.1 2 (by omega) (by omega)
      have h6' : (nI l ≤ nI b) = False := eq_false (fun h => absurd ((nI_leI (by omega) (by omega)).mp h) (by omega))
      have hon := c_isOnBelt (n := n) (p := p) (b := b) M (by omega)
      rw [e2] at hon
      have hi := ih (b + 1) k (by omega) (by omega)
      simp only [gBi] at hi
      rw [f_X2_boardsIn_4.eq_2]
      by_cases h : g (56 + 21 * b + 2) = 0
      · have e11 := (hRb.2.1 h).2
        have h7 := gZone_lt g (gcell g b)
        rw [zi_t h] at hon
        simp (disch := omega) only [ix_al, ix_ml, ix_cl, ix_cll, ix_n0, ix_l0, ix_nge, or_self, ↓reduceIte, ↓ix_let, h6, h6', ↓bnd hon, t10, e11, ix_eq, f_X2_boardsIn_39]
        by_cases h2 : gZone g (gcell g b) = z
        · rw [if_pos ⟨h, h2⟩] at hi
          rw [if_pos h2]
          exact hi
        · rw [if_neg (fun q => h2 q.2)] at hi
          rw [if_neg h2]
          exact hi
      · rw [zi_f h] at hon
        rw [if_neg (fun q => h q.1)] at hi
        simp (disch := omega) only [↓reduceIte, h6, h6', ↓bnd hon, f_X2_boardsIn_39, ix_let, ix_al]
        exact hi
  exact st l 0 n (by omega) (by omega)
theorem c_wi {n p l z : Nat} (hn : 40 ≤ n) (hz : z < 6) {M : vv_M} {g : Nat → Int32} (hI : gInv g l) (hR : Ro p M g l) : f_X2_weightIn n p (nI z) M = some (gW g z l, M) := by
  have h31 := hI.2.2.1
  have h6 : M p 6 = nI l := hR.2.2.2.1.2.1.trans hI.2.1
  have st : ∀ (j b k : Nat), b + j = l → j < k → f_X2_weightIn_4 n k p (nI z) (gW g z b) (nI b) M = some (gW g z l, M) := by
    intro j
    induction j with
    | zero =>
      intro b k hb hk
      obtain ⟨k, rfl⟩ : ∃ q, k = q + 1 := ⟨k - 1, by omega⟩
      obtain rfl : b = l := by omega
      rw [f_X2_weightIn_4.eq_2, h6, if_pos (nI_le (Nat.le_refl _) (by omega))]
    | succ j ih =>
      intro b k hb hk
      obtain ⟨k, rfl⟩ : ∃ q, k = q + 1 := ⟨k - 1, by omega⟩
      have hRb := hR.2.2.2.2 b (by omega)
      have e2 : M (p + 4) (b * 22 + 2) = g (56 + 21 * b + 2) := hRb.1 2 (by omega) (by omega)
      have e1 : M (p + 4) (b * 22 + 1) = g (56 + 21 * b + 1) := hRb.1 1 (by omega) (by omega)
      have h6' : (nI l ≤ nI b) = False := eq_false (fun h => absurd ((nI_leI (by omega) (by omega)).mp h) (by omega))
      have hon := c_isOnBelt (n := n) (p := p) (b := b) M (by omega)
      rw [e2] at hon
      have hi := ih (b + 1) k (by omega) (by omega)
      simp only [gW] at hi
      rw [f_X2_weightIn_4.eq_2]
      by_cases h : g (56 + 21 * b + 2) = 0
      · have e11 := (hRb.2.1 h).2
        have h7 := gZone_lt g (gcell g b)
        rw [zi_t h] at hon
        simp (disch := omega) only [ix_al, ix_ml, ix_cl, ix_cll, ix_n0, ix_l0, ix_nge, or_self, ↓reduceIte, ↓ix_let, h6, h6', ↓bnd hon, t10, e11, e1, ix_eq, f_X2_weightIn_50]
        by_cases h2 : gZone g (gcell g b) = z
        · rw [if_pos ⟨h, h2⟩] at hi
          rw [if_pos h2]
          exact hi
        · rw [if_neg (fun q => h2 q.2)] at hi
          rw [if_neg h2]
          exact hi
      · rw [zi_f h] at hon
        rw [if_neg (fun q => h q.1)] at hi
        simp (disch := omega) only [↓reduceIte, h6, h6', ↓bnd hon, f_X2_weightIn_50, ix_let, ix_al]
        exact hi
  exact st l 0 n (by omega) (by omega)
theorem c_snaps {n p : Nat} (hn : 40 ≤ n) {M : vv_M} {f : Nat → Int32} (h : Mo p M f) : f_X1_snapshots n p M = some (f 2121 + f 2122, M) := by
  obtain ⟨-, h2⟩ := h
  obtain ⟨a1, a2, -⟩ := h2 0 (by omega)
  obtain ⟨b1, b2, -⟩ := h2 1 (by omega)
  obtain ⟨n, rfl⟩ : ∃ m, n = m + 3 := ⟨n - 3, by omega⟩
  unfold f_X1_snapshots
  show f_X1_snapshots_4 (n + 3) (n + 2 + 1) p 0 (nI 0) M = _
  have st : ∀ (j k : Nat) (x : Int32), j < 2 → M (p + 8) j = f (2121 + j) → (f (2121 + j) = 0 ∨ f (2121 + j) = 1) → f_X1_snapshots_4 (n + 3) (k + 1) p x (nI j) M = f_X1_snapshots_4 (n + 3) k p (x + f (2121 + j)) (nI (j + 1)) M := by
    intro j k x hj c1 c2
    have h2' : ((2 : Int32) ≤ nI j) = False := eq_false (fun h => absurd ((nI_leI (a := 2) (by omega) (by omega)).mp h) (by omega))
    rw [f_X1_snapshots_4.eq_2]
    simp (disch := omega) only [h2', ix_n0, ix_nge, or_self, ↓reduceIte, ↓ix_let, ix_cl, c1, f_X1_snapshots_21, ix_al]
    rcases c2 with c2 | c2
    · rw [if_pos c2, c2, Int32.add_zero]
    · rw [if_neg (by rw [c2]; decide), c2]
  rw [st 0 _ _ (by omega) a1 a2]
  show f_X1_snapshots_4 (n + 3) (n + 1 + 1) p (0 + f 2121) (nI 1) M = _
  rw [st 1 _ _ (by omega) b1 b2, f_X1_snapshots_4.eq_2]
  show some (0 + f 2121 + f 2122, M) = _
  rw [Int32.zero_add]
