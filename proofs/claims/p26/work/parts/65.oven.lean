/-! an oven that may stand: the class's against the picture -/
def gE (g : Nat → Int32) : Prop := (∀ k, k < 24 → ¬ g (24 + k) < 0) ∧ (¬ g 50 < 0 ∧ ¬ g 51 < 0) ∧ ∃ t, t ≤ 5000 ∧ g 52 = nI t
def Ov (p : Nat) (M : vv_M) (g : Nat → Int32) : Prop := ∃ l, l ≤ 30 ∧ gInv g l ∧ gE g ∧ Ro p M g l
theorem gInv_ext {g g' : Nat → Int32} {l : Nat} (h31 : l ≤ 31) (h : ∀ k, k < 56 + 21 * l → g' k = g k) (hI : gInv g l) : gInv g' l := by
  obtain ⟨hL, hl, -, hs, ha, hBs⟩ := hI
  have hz : ∀ z, z < 6 → g' (0 + 4 * z + 0) = g (0 + 4 * z + 0) := fun z hz => h _ (by omega)
  exact ⟨gLen_congr hz hL, by rw [h 53 (by omega)]; exact hl, h31, by rw [h 48 (by omega)]; exact hs, by rw [h 49 (by omega)]; exact ha, fun q hq => gBrd_congr (gPre_congr hz 6 (by omega)) (fun j hj => h _ (by omega)) (hBs q hq)⟩
theorem gE_ext {g g' : Nat → Int32} (h : ∀ k, k < 56 → g' k = g k) (hI : gE g) : gE g' := by
  obtain ⟨h1, ⟨h2, h3⟩, t, h4, h5⟩ := hI
  exact ⟨fun k hk => by rw [h _ (by omega)]; exact h1 k hk, ⟨by rw [h _ (by omega)]; exact h2, by rw [h _ (by omega)]; exact h3⟩, t, h4, by rw [h _ (by omega)]; exact h5⟩
theorem Ro_ext {p l : Nat} {M M' : vv_M} {g g' : Nat → Int32} (hM : ∀ q, p ≤ q → q < p + 5 → M' q = M q) (h : ∀ k, k < 56 + 21 * l → g' k = g k) (hR : Ro p M g l) : Ro p M' g' l := by
  obtain ⟨h1, h2, h3, ⟨h4, h5, h6, h7⟩, h8⟩ := hR
  refine ⟨fun k hk => ?_, fun k hk => ?_, fun k hk => ?_, ⟨?_, ?_, ?_, ?_⟩, fun q hq => ?_⟩
  · rw [hM _ (by omega) (by omega), h _ (by omega)]; exact h1 k hk
  · rw [hM _ (by omega) (by omega), h _ (by omega)]; exact h2 k hk
  · rw [hM _ (by omega) (by omega), h _ (by omega)]; exact h3 k hk
  · rw [hM _ (by omega) (by omega), h _ (by omega)]; exact h4
  · rw [hM _ (by omega) (by omega), h _ (by omega)]; exact h5
  · rw [hM _ (by omega) (by omega), h _ (by omega)]; exact h6
  · rw [hM _ (by omega) (by omega), h _ (by omega)]; exact h7
  · rw [hM _ (by omega) (by omega)]
    exact Rb_congr (h8 q hq) (fun j hj => rfl) (fun j hj => h _ (by omega)) (fun x => gZone_congr (fun z hz => h _ (by omega)) x)
theorem Ov_ext {p : Nat} {M M' : vv_M} {g g' : Nat → Int32} (hM : ∀ q, p ≤ q → q < p + 5 → M' q = M q) (h : ∀ k, k < 707 → g' k = g k) (hO : Ov p M g) : Ov p M' g' := by
  obtain ⟨l, hl, h1, h2, h3⟩ := hO
  exact ⟨l, hl, gInv_ext (by omega) (fun k hk => h k (by omega)) h1, gE_ext (fun k hk => h k (by omega)) h2, Ro_ext hM (fun k hk => h k (by omega)) h3⟩
/-! its looks -/
theorem i_rng {x : Int32} {m : Nat} (hm : m < 2147483648) (h0 : 0 ≤ x) (h : x ≤ nI m) : ∃ a, a ≤ m ∧ x = nI a := by
  obtain ⟨j, hj, rfl⟩ := nI_of (Int32.not_lt.mpr h0)
  exact ⟨j, (nI_leI hj (by omega)).mp h, rfl⟩
theorem i_rngE {x : Int32} {m : Nat} (hm : m < 2147483648) : (0 ≤ x ∧ x ≤ nI m) ↔ ∃ a, a ≤ m ∧ x = nI a := by
  constructor
  · intro h
    exact i_rng hm h.1 h.2
  · rintro ⟨a, h1, rfl⟩
    exact ⟨nI_le (a := 0) (Nat.zero_le _) (by omega), nI_le h1 (by omega)⟩
theorem c_isOnBelt {n p b : Nat} (M : vv_M) (hb : b ≤ 30) : f_X2_isOnBelt n p (nI b) M = some (zi (M (p + 4) (b * 22 + 2) = 0), M) := by
  unfold f_X2_isOnBelt
  simp (disch := omega) only [ix_al, ix_ml, ix_cl, ix_n0, ix_nge, or_self, if_false]
  unfold zi
  refine ife (fun h => ?_) (fun h => ?_)
  · rw [if_pos h]
  · rw [if_neg h]
theorem c_free {n p l : Nat} (hn : 40 ≤ n) {M : vv_M} {g : Nat → Int32} (hI : gInv g l) (hR : Ro p M g l) : f_X2_isStartFree n p M = some (zi (gFree g l = true), M) := by
  have h31 := hI.2.2.1
  have h6 : M p 6 = nI l := hR.2.2.2.1.2.1.trans hI.2.1
  have e49 : M (p + 3) 1 = g 49 := hR.2.2.1 1 (by omega)
  have st : ∀ (j b k : Nat), b + j = l → j < k → (∀ q, q < b → ¬ (g (56 + 21 * q + 2) = 0 ∧ g (56 + 21 * q + 3) < g 49)) → f_X2_isStartFree_2 n k p (nI b) M = some (zi (gFree g l = true), M) := by
    intro j
    induction j with
    | zero =>
      intro b k hb hk hx
      obtain ⟨k, rfl⟩ : ∃ q, k = q + 1 := ⟨k - 1, by omega⟩
      obtain rfl : b = l := by omega
      rw [f_X2_isStartFree_2.eq_2, h6, if_pos (nI_le (Nat.le_refl _) (by omega)), zi_t ((gFree_iff _ _).mpr hx)]
    | succ j ih =>
      intro b k hb hk hx
      obtain ⟨k, rfl⟩ : ∃ q, k = q + 1 := ⟨k - 1, by omega⟩
      have hRb := hR.2.2.2.2 b (by omega)
      have e2 : M (p + 4) (b * 22 + 2) = g (56 + 21 * b + 2) := hRb.1 2 (by omega) (by omega)
      have h6' : (nI l ≤ nI b) = False := eq_false (fun h => absurd ((nI_leI (by omega) (by omega)).mp h) (by omega))
      have hs : ∀ (h : ¬ (g (56 + 21 * b + 2) = 0 ∧ g (56 + 21 * b + 3) < g 49)), ∀ q, q < b + 1 → ¬ (g (56 + 21 * q + 2) = 0 ∧ g (56 + 21 * q + 3) < g 49) := by
        intro h q hq
        rcases Nat.lt_or_ge q b with g1 | g1
        · exact hx q g1
        · obtain rfl : q = b := by omega
          exact h
      have hon := c_isOnBelt (n := n) (p := p) (b := b) M (by omega)
      rw [e2] at hon
      rw [f_X2_isStartFree_2.eq_2]
      by_cases h : g (56 + 21 * b + 2) = 0
      · have e3 := (hRb.2.1 h).1
        rw [zi_t h] at hon
        have h10 : ((1 : Int32) = 0) = False := by decide
        simp (disch := omega) only [ix_al, ix_ml, ix_cl, ix_cll, ix_n0, ix_l0, ix_nge, or_self, ↓reduceIte, h6, h6', ↓bnd hon, h10, e3, e49]
        refine ife (fun h2 => ?_) (fun h2 => ?_)
        · unfold f_X2_isStartFree_40
          rw [ix_let, ix_al]
          exact ih (b + 1) k (by omega) (by omega) (hs (fun q => absurd q.2 (Int32.not_lt.mpr h2)))
        · rw [zi_f]
          intro q
          exact (gFree_iff _ _).mp q b (by omega) ⟨h, Int32.not_le.mp h2⟩
      · rw [zi_f h] at hon
        simp (disch := omega) only [↓reduceIte, h6, h6', ↓bnd hon]
        unfold f_X2_isStartFree_40
        rw [ix_let, ix_al]
        exact ih (b + 1) k (by omega) (by omega) (hs (fun q => h q.1))
  exact st l 0 n (by omega) (by omega) (fun q hq => absurd hq (Nat.not_lt_zero q))
theorem c_many {n p l : Nat} (hn : 40 ≤ n) (s : Int32) {M : vv_M} {g : Nat → Int32} (hI : gInv g l) (hR : Ro p M g l) : f_X2_boardsThatAre n p s M = some (gMany g s l, M) := by
  have h31 := hI.2.2.1
  have h6 : M p 6 = nI l := hR.2.2.2.1.2.1.trans hI.2.1
  have st : ∀ (j b k : Nat) (x : Int32), b + j = l → j < k → x = gMany g s b → f_X2_boardsThatAre_4 n k p s x (nI b) M = some (gMany g s l, M) := by
    intro j
    induction j with
    | zero =>
      intro b k x hb hk hx
      obtain ⟨k, rfl⟩ : ∃ q, k = q + 1 := ⟨k - 1, by omega⟩
      obtain rfl : b = l := by omega
      rw [f_X2_boardsThatAre_4.eq_2, h6, if_pos (nI_le (Nat.le_refl _) (by omega)), hx]
    | succ j ih =>
      intro b k x hb hk hx
      obtain ⟨k, rfl⟩ : ∃ q, k = q + 1 := ⟨k - 1, by omega⟩
      have e2 : M (p + 4) (b * 22 + 2) = g (56 + 21 * b + 2) := (hR.2.2.2.2 b (by omega)).1 2 (by omega) (by omega)
      have h6' : (nI l ≤ nI b) = False := eq_false (fun h => absurd ((nI_leI (by omega) (by omega)).mp h) (by omega))
      rw [f_X2_boardsThatAre_4.eq_2]
      simp (disch := omega) only [ix_al, ix_ml, ix_cl, ix_cll, ix_n0, ix_l0, ix_nge, or_self, ↓reduceIte, ↓ix_let, h6, h6', e2, f_X2_boardsThatAre_30]
      have e : gMany g s (b + 1) = gMany g s b + if g (56 + 21 * b + 2) = s then 1 else 0 := rfl
      refine ife (fun h => ?_) (fun h => ?_)
      · exact ih (b + 1) k _ (by omega) (by omega) (by rw [e, if_pos h, hx])
      · exact ih (b + 1) k _ (by omega) (by omega) (by rw [e, if_neg h, hx, Int32.add_zero])
  exact st l 0 n 0 (by omega) (by omega) rfl
theorem c_hasBoard {n p : Nat} (x : Int32) {M : vv_M} {g : Nat → Int32} {l : Nat} (hR : Ro p M g l) : f_X2_hasBoard n p x M = some (zi (0 ≤ x ∧ x ≤ g 53 - 1), M) := by
  have h6 : M p 6 = g 53 := hR.2.2.2.1.2.1
  unfold f_X2_hasBoard
  simp only [c_in, ix_bs, zi_01, if_true, h6]
/-- which boards there are -/
theorem brd_iff {x : Int32} {l : Nat} (h31 : l ≤ 31) : (0 ≤ x ∧ x ≤ nI l - 1) ↔ ∃ b, b < l ∧ x = nI b := by
  rcases Nat.eq_zero_or_pos l with rfl | h
  · constructor
    · rintro ⟨h1, h2⟩
      exact absurd (Int32.le_trans h1 h2) (by decide)
    · rintro ⟨b, h1, -⟩
      omega
  · have e : nI l - 1 = nI (l - 1) := pk_sub (a := l) (b := 1) h
    rw [e, i_rngE (by omega)]
    constructor
    · rintro ⟨a, h1, h2⟩
      exact ⟨a, by omega, h2⟩
    · rintro ⟨a, h1, h2⟩
      exact ⟨a, by omega, h2⟩
