/-! SOUNDNESS of a picture: numbers in their ranges -/
theorem ti_add {x y : Int32} (h1 : -2147483648 ≤ x.toInt + y.toInt) (h2 : x.toInt + y.toInt < 2147483648) : (x + y).toInt = x.toInt + y.toInt := by
  rw [Int32.toInt_add]
  exact Int.bmod_eq_of_le (by omega) (by omega)
theorem ti_sub {x y : Int32} (h1 : -2147483648 ≤ x.toInt - y.toInt) (h2 : x.toInt - y.toInt < 2147483648) : (x - y).toInt = x.toInt - y.toInt := by
  rw [Int32.toInt_sub]
  exact Int.bmod_eq_of_le (by omega) (by omega)
theorem tdiv_b (a k : Int) (hk : 1 ≤ k) : (0 ≤ a → 0 ≤ a.tdiv k ∧ a.tdiv k ≤ a) ∧ (a ≤ 0 → a ≤ a.tdiv k ∧ a.tdiv k ≤ 0) := by
  obtain ⟨m, rfl⟩ : ∃ m : Nat, k = (m : Int) := ⟨k.toNat, by omega⟩
  have key : ∀ n : Nat, (n : Int).tdiv (m : Int) = ((n / m : Nat) : Int) := fun n => (Int.ofNat_tdiv n m).symm
  constructor
  · intro h
    obtain ⟨n, rfl⟩ : ∃ n : Nat, a = (n : Int) := ⟨a.toNat, by omega⟩
    rw [key]
    have := Nat.div_le_self n m
    generalize n / m = c at this ⊢
    omega
  · intro h
    obtain ⟨n, rfl⟩ : ∃ n : Nat, a = -(n : Int) := ⟨(-a).toNat, by omega⟩
    rw [Int.neg_tdiv, key]
    have := Nat.div_le_self n m
    generalize n / m = c at this ⊢
    omega
theorem ti_div {x y : Int32} (hy : 1 ≤ y.toInt) : (0 ≤ x.toInt → 0 ≤ (x / y).toInt ∧ (x / y).toInt ≤ x.toInt) ∧ (x.toInt ≤ 0 → x.toInt ≤ (x / y).toInt ∧ (x / y).toInt ≤ 0) := by
  obtain ⟨h1, h2⟩ := tdiv_b x.toInt y.toInt hy
  have b1 := Int32.le_toInt x
  have b2 := Int32.toInt_lt x
  have e : (x / y).toInt = x.toInt.tdiv y.toInt := by
    rw [Int32.toInt_div]
    rcases Int.le_total 0 x.toInt with h | h
    · have := h1 h
      exact Int.bmod_eq_of_le (by omega) (by omega)
    · have := h2 h
      exact Int.bmod_eq_of_le (by omega) (by omega)
  rw [e]
  exact ⟨h1, h2⟩
abbrev rg (a b : Int) (x : Int32) : Prop := a ≤ x.toInt ∧ x.toInt ≤ b
theorem rg_le {x y : Int32} : (x ≤ y) ↔ x.toInt ≤ y.toInt := Int32.le_iff_toInt_le
def Sz (g : Nat → Int32) : Prop := ∀ z, z < 6 → rg 20 300 (g (0 + 4 * z + 1)) ∧ rg 1 20 (g (0 + 4 * z + 2)) ∧ rg 20 300 (g (0 + 4 * z + 3))
def Sb (g : Nat → Int32) (b m : Nat) : Prop := (g (56 + 21 * b + 2) = 0 ∨ g (56 + 21 * b + 2) = 1 ∨ g (56 + 21 * b + 2) = 2) ∧ (rg 20 300 (g (56 + 21 * b + 4)) ∧ (g (56 + 21 * b + 4)).toInt ≤ (g (56 + 21 * b + 6)).toInt ∧ (g (56 + 21 * b + 6)).toInt ≤ 300) ∧ (∃ q, q < 32 ∧ g (56 + 21 * b + 8) = nI q) ∧ ((g (56 + 21 * b + 2) = 1 → 0 ≤ (g (56 + 21 * b + 10)).toInt ∧ (g (56 + 21 * b + 10)).toInt < m) ∧ (g (56 + 21 * b + 2) ≠ 1 → g (56 + 21 * b + 10) = -1009)) ∧ ∀ k, k < 5 → gbit (g (56 + 21 * b + 8)) k → (0 ≤ (g (56 + 21 * b + (16 + k))).toInt ∧ (g (56 + 21 * b + (16 + k))).toInt < m) ∧ (3 ≤ k → g (56 + 21 * b + 2) = 1 ∧ g (56 + 21 * b + (16 + k)) = g (56 + 21 * b + 10))
theorem Sb_congr {g g' : Nat → Int32} {b m : Nat} (h : ∀ j, j < 21 → j ≠ 3 → j ≠ 5 → j ≠ 7 → j ≠ 9 → (j < 11 ∨ 15 < j) → g' (56 + 21 * b + j) = g (56 + 21 * b + j)) (hS : Sb g b m) : Sb g' b m := by
  unfold Sb
  rw [h 2 (by omega) (by omega) (by omega) (by omega) (by omega) (by omega), h 4 (by omega) (by omega) (by omega) (by omega) (by omega) (by omega), h 6 (by omega) (by omega) (by omega) (by omega) (by omega) (by omega), h 8 (by omega) (by omega) (by omega) (by omega) (by omega) (by omega), h 10 (by omega) (by omega) (by omega) (by omega) (by omega) (by omega)]
  refine ⟨hS.1, hS.2.1, hS.2.2.1, hS.2.2.2.1, fun k hk hg => ?_⟩
  rw [h (16 + k) (by omega) (by omega) (by omega) (by omega) (by omega) (by omega)]
  exact hS.2.2.2.2 k hk hg
theorem Sb_mono {g : Nat → Int32} {b m m' : Nat} (hm : m ≤ m') (hS : Sb g b m) : Sb g b m' := by
  obtain ⟨h1, h2, h3, ⟨h4, h5⟩, h6⟩ := hS
  refine ⟨h1, h2, h3, ⟨fun h => ?_, h5⟩, fun k hk hg => ?_⟩
  · have := h4 h
    omega
  · have := h6 k hk hg
    exact ⟨by omega, this.2⟩
theorem or_32 : ∀ q, q < 32 → ∀ k, k < 5 → ∃ q', q' < 32 ∧ nI q ||| ((1 : Int32) <<< (nI k &&& 31)) = nI q' := by decide +kernel
theorem Sb_fault {g : Nat → Int32} {x c : Int32} {b k m : Nat} (hk : k < 5) (ht : 0 ≤ (g 52).toInt ∧ (g 52).toInt < m) (h3 : 3 ≤ k → g (56 + 21 * b + 2) = 1 ∧ g (56 + 21 * b + 10) = g 52) (hS : Sb g b m) : Sb (gFault g x b k c) b m := by
  unfold gFault
  split
  · exact hS
  split
  · exact hS
  obtain ⟨s1, s2, ⟨q, s3, s4⟩, s5, s6⟩ := hS
  have e : ∀ j, j ≠ 8 → j ≠ 11 + k → j ≠ 16 + k → upd (upd (upd g (56 + 21 * b + 8) (g (56 + 21 * b + 8) ||| ((1 : Int32) <<< (nI k &&& 31)))) (56 + 21 * b + (11 + k)) c) (56 + 21 * b + (16 + k)) (g 52) (56 + 21 * b + j) = g (56 + 21 * b + j) := fun j h1 h2 h3 => by rw [ud_ne (by omega), ud_ne (by omega), ud_ne (by omega)]
  have e8 : upd (upd (upd g (56 + 21 * b + 8) (g (56 + 21 * b + 8) ||| ((1 : Int32) <<< (nI k &&& 31)))) (56 + 21 * b + (11 + k)) c) (56 + 21 * b + (16 + k)) (g 52) (56 + 21 * b + 8) = g (56 + 21 * b + 8) ||| ((1 : Int32) <<< (nI k &&& 31)) := by rw [ud_ne (by omega), ud_ne (by omega), ud_s]
  have ek : upd (upd (upd g (56 + 21 * b + 8) (g (56 + 21 * b + 8) ||| ((1 : Int32) <<< (nI k &&& 31)))) (56 + 21 * b + (11 + k)) c) (56 + 21 * b + (16 + k)) (g 52) (56 + 21 * b + (16 + k)) = g 52 := ud_s _ _ _
  generalize upd (upd (upd g (56 + 21 * b + 8) (g (56 + 21 * b + 8) ||| ((1 : Int32) <<< (nI k &&& 31)))) (56 + 21 * b + (11 + k)) c) (56 + 21 * b + (16 + k)) (g 52) = G at e e8 ek ⊢
  unfold Sb
  rw [e 2 (by omega) (by omega) (by omega), e 4 (by omega) (by omega) (by omega), e 6 (by omega) (by omega) (by omega), e 10 (by omega) (by omega) (by omega), e8]
  refine ⟨s1, s2, ?_, s5, fun j hj hg => ?_⟩
  · rw [s4]
    exact or_32 q s3 k hk
  · by_cases hjk : j = k
    · subst hjk
      rw [ek]
      exact ⟨ht, fun h => ⟨(h3 h).1, (h3 h).2.symm⟩⟩
    · rw [e (16 + j) (by omega) (by omega) (by omega)]
      exact s6 j hj (((gbit_or (by omega) (by omega)).mp hg).resolve_right hjk)
def Sd (g : Nat → Int32) (l m : Nat) : Prop := Sz g ∧ (∃ d, d ≤ 9 ∧ g 51 = nI d) ∧ ∀ b, b < l → Sb g b m
theorem Sz_congr {g g' : Nat → Int32} (h : ∀ i, i < 24 → g' i = g i) (hS : Sz g) : Sz g' := by
  intro z hz
  rw [h _ (by omega), h _ (by omega), h _ (by omega)]
  exact hS z hz
/-- a change of one board -/
theorem Sd_board {g g' : Nat → Int32} {l b m : Nat} (h : ∀ i, gOut b i → g' i = g i) (hS : Sd g l m) (hb : Sb g' b m) : Sd g' l m := by
  obtain ⟨h1, h2, h3⟩ := hS
  refine ⟨Sz_congr (fun i hi => h i (Or.inl (by omega))) h1, by rw [h _ (Or.inl (by omega))]; exact h2, fun q hq => ?_⟩
  by_cases hqb : q = b
  · subst hqb; exact hb
  · exact Sb_congr (fun j hj _ _ _ _ _ => h _ (by unfold gOut; omega)) (h3 q hq)
theorem Sb_left {g : Nat → Int32} {b m : Nat} {v e : Int32} (ht : 0 ≤ (g 52).toInt ∧ (g 52).toInt < m) (hon : g (56 + 21 * b + 2) = 0) (hS : Sb g b m) : Sb (gLeft (upd g (56 + 21 * b + 3) v) b e) b m := by
  unfold gLeft
  have e52 : upd g (56 + 21 * b + 3) v 52 = g 52 := ud_ne (by omega)
  have hB : Sb (upd (upd (upd g (56 + 21 * b + 3) v) (56 + 21 * b + 2) 1) (56 + 21 * b + 10) (upd g (56 + 21 * b + 3) v 52)) b m := by
    rw [e52]
    have f : ∀ j, j ≠ 3 → j ≠ 2 → j ≠ 10 → upd (upd (upd g (56 + 21 * b + 3) v) (56 + 21 * b + 2) 1) (56 + 21 * b + 10) (g 52) (56 + 21 * b + j) = g (56 + 21 * b + j) := fun j h1 h2 h3 => by rw [ud_ne (by omega), ud_ne (by omega), ud_ne (by omega)]
    have f2 : upd (upd (upd g (56 + 21 * b + 3) v) (56 + 21 * b + 2) 1) (56 + 21 * b + 10) (g 52) (56 + 21 * b + 2) = 1 := by rw [ud_ne (by omega), ud_s]
    have f10 : upd (upd (upd g (56 + 21 * b + 3) v) (56 + 21 * b + 2) 1) (56 + 21 * b + 10) (g 52) (56 + 21 * b + 10) = g 52 := ud_s _ _ _
    obtain ⟨s1, s2, s3, s5, s6⟩ := hS
    unfold Sb
    rw [f2, f10, f 4 (by omega) (by omega) (by omega), f 6 (by omega) (by omega) (by omega), f 8 (by omega) (by omega) (by omega)]
    refine ⟨Or.inr (Or.inl rfl), s2, s3, ⟨fun _ => ht, fun h => absurd rfl h⟩, fun k hk hg => ?_⟩
    rw [f (16 + k) (by omega) (by omega) (by omega)]
    obtain ⟨q1, q2⟩ := s6 k hk hg
    refine ⟨q1, fun h3 => ?_⟩
    have := (q2 h3).1
    rw [hon] at this
    exact absurd this (by decide)
  have g52 : upd (upd (upd g (56 + 21 * b + 3) v) (56 + 21 * b + 2) 1) (56 + 21 * b + 10) (upd g (56 + 21 * b + 3) v 52) 52 = g 52 := by rw [ud_ne (by omega), ud_ne (by omega), ud_ne (by omega)]
  have g2 : upd (upd (upd g (56 + 21 * b + 3) v) (56 + 21 * b + 2) 1) (56 + 21 * b + 10) (upd g (56 + 21 * b + 3) v 52) (56 + 21 * b + 2) = 1 := by rw [ud_ne (by omega), ud_s]
  have g10 : upd (upd (upd g (56 + 21 * b + 3) v) (56 + 21 * b + 2) 1) (56 + 21 * b + 10) (upd g (56 + 21 * b + 3) v 52) (56 + 21 * b + 10) = g 52 := by rw [ud_s, e52]
  generalize upd (upd (upd g (56 + 21 * b + 3) v) (56 + 21 * b + 2) 1) (56 + 21 * b + 10) (upd g (56 + 21 * b + 3) v 52) = G at hB g52 g2 g10 ⊢
  refine Sb_fault (by omega) ?_ (fun _ => ?_) (Sb_fault (by omega) (by rw [g52]; exact ht) (fun _ => ⟨g2, by rw [g10, g52]⟩) hB)
  · rw [gFault_ne (by omega) (by omega) (by omega), g52]
    exact ht
  · rw [gFault_ne (by omega) (by omega) (by omega), gFault_ne (by omega) (by omega) (by omega), gFault_ne (by omega) (by omega) (by omega), g10, g52]
    exact ⟨g2, rfl⟩
theorem Sd_mv {g : Nat → Int32} {l b m : Nat} (hb : b < l) (ht : 0 ≤ (g 52).toInt ∧ (g 52).toInt < m) (hS : Sd g l m) : Sd (gMv b g) l m := by
  unfold gMv
  split
  · rename_i hon
    refine Sd_board (fun i hi => gGoOn_out hi) hS ?_
    unfold gGoOn
    split
    · exact Sb_congr (fun j _ h3 _ _ _ _ => ud_ne (by omega)) (hS.2.2 b hb)
    · exact Sb_left ht hon (hS.2.2 b hb)
  · exact hS
/-! the warmth of a zone -/
theorem gW_n {g : Nat → Int32} {l : Nat} (z : Nat) (hI : gInv g l) : ∀ b, b ≤ l → ∃ w, w ≤ 9 * b ∧ gW g z b = nI w := by
  intro b
  induction b with
  | zero => intro _; exact ⟨0, Nat.le_refl _, rfl⟩
  | succ b ih =>
    intro hb
    obtain ⟨w, h1, h2⟩ := ih (by omega)
    unfold gW
    split
    · obtain ⟨-, ⟨v, v1, v9, e⟩, -⟩ := hI.2.2.2.2.2 b (by omega)
      exact ⟨w + v, by omega, by rw [h2, e, nI_add]⟩
    · exact ⟨w, by omega, h2⟩
theorem gNew_rg {y t q : Int32} (hy : y.toInt ≤ 300) (ht : rg 20 300 t) (hq : rg 1 20 q) : rg 20 300 (gNew y t q) := by
  unfold gNew
  have hc : rg 20 300 (if 20 ≤ y then y else 20) := by
    split
    · rename_i h
      have := rg_le.mp h
      exact ⟨this, hy⟩
    · exact ⟨by decide, by decide⟩
  generalize (if 20 ≤ y then y else 20) = c at hc ⊢
  have e1 : (c - q).toInt = c.toInt - q.toInt := ti_sub (by omega) (by omega)
  have e2 : (c + q).toInt = c.toInt + q.toInt := ti_add (by omega) (by omega)
  split
  · split
    · exact ht
    · rename_i h1 h2
      rw [rg_le, e1] at h2
      exact ⟨by omega, by omega⟩
  · split
    · exact ht
    · rename_i h1 h2
      rw [rg_le, e2] at h2
      exact ⟨by omega, by omega⟩
theorem Sd_heat {g : Nat → Int32} {l z m : Nat} (hz : z < 6) (hI : gInv g l) (hS : Sd g l m) : Sd (gHeat l z g) l m := by
  obtain ⟨h1, ⟨d, hd, e51⟩, h3⟩ := hS
  unfold gHeat
  refine ⟨fun q hq => ?_, ⟨d, hd, by rw [ud_ne (by omega)]; exact e51⟩, fun b hb => Sb_congr (fun j _ _ _ _ _ _ => ud_ne (by omega)) (h3 b hb)⟩
  rw [ud_ne (by omega), ud_ne (by omega)]
  obtain ⟨q1, q2, q3⟩ := h1 q hq
  refine ⟨q1, q2, ?_⟩
  by_cases hqz : q = z
  · subst hqz
    rw [ud_s]
    refine gNew_rg ?_ q1 q2
    obtain ⟨w, w1, w2⟩ := gW_n q hI l (Nat.le_refl _)
    have h31 := hI.2.2.1
    have hdw : d * w ≤ 9 * 279 := Nat.mul_le_mul hd (by omega)
    have e : g 51 * gW g q l / 5 = nI (d * w / 5) := by
      rw [e51, w2, pk_mul]
      exact pk_div (d := 5) (by omega) (by omega) (by omega)
    rw [e]
    have hx : (nI (d * w / 5)).toInt = ((d * w / 5 : Nat) : Int) := nI_toInt (by omega)
    rw [ti_sub (by omega) (by omega), hx]
    omega
  · rw [ud_ne (by omega)]
    exact q3
theorem Sd_wm {g : Nat → Int32} {l b m : Nat} (hb : b < l) (hI : gInv g l) (ht : 0 ≤ (g 52).toInt ∧ (g 52).toInt < m) (hS : Sd g l m) : Sd (gWm b g) l m := by
  unfold gWm
  split
  · rename_i hon
    refine Sd_board (fun i hi => gWarm_out hi) hS ?_
    obtain ⟨s1, ⟨s2, s2', s2''⟩, s3, s5, s6⟩ := hS.2.2 b hb
    obtain ⟨-, ⟨w, w1, w9, ew⟩, -⟩ := hI.2.2.2.2.2 b hb
    have hz := gZone_lt g (gcell g b)
    obtain ⟨-, -, z3⟩ := hS.1 _ hz
    have hr : rg 20 300 (g (56 + 21 * b + 4) + gRise g b) := by
      unfold gRise
      have e1 : (g (0 + 4 * gZone g (gcell g b) + 3) - g (56 + 21 * b + 4)).toInt = (g (0 + 4 * gZone g (gcell g b) + 3)).toInt - (g (56 + 21 * b + 4)).toInt := ti_sub (by omega) (by omega)
      have e2 : (g (56 + 21 * b + 1) + 1).toInt = (w : Int) + 1 := by
        rw [ew, ix_al]
        exact nI_toInt (by have : (OfNat.ofNat 1 : Nat) = 1 := rfl; omega)
      obtain ⟨d1, d2⟩ := ti_div (x := g (0 + 4 * gZone g (gcell g b) + 3) - g (56 + 21 * b + 4)) (y := g (56 + 21 * b + 1) + 1) (by rw [e2]; omega)
      rw [e1] at d1 d2
      generalize (g (0 + 4 * gZone g (gcell g b) + 3) - g (56 + 21 * b + 4)) / (g (56 + 21 * b + 1) + 1) = x at d1 d2 ⊢
      rcases Int.le_total 0 ((g (0 + 4 * gZone g (gcell g b) + 3)).toInt - (g (56 + 21 * b + 4)).toInt) with h | h
      · have := d1 h
        unfold rg
        rw [ti_add (by omega) (by omega)]
        omega
      · have := d2 h
        unfold rg
        rw [ti_add (by omega) (by omega)]
        omega
    unfold gWarm
    generalize gRise g b = rise at hr ⊢
    generalize hdg : g (56 + 21 * b + 4) + rise = deg at hr ⊢
    generalize gcv g b = c
    -- the numbers of the board
    have hA : Sb (gWarmA g b c rise deg) b m := by
      unfold gWarmA
      have f : ∀ j, j ≠ 5 → j ≠ 4 → j ≠ 6 → j ≠ 7 → upd (upd (upd (upd g (56 + 21 * b + 5) rise) (56 + 21 * b + 4) deg) (56 + 21 * b + 6) (if deg ≤ g (56 + 21 * b + 6) then g (56 + 21 * b + 6) else deg)) (56 + 21 * b + 7) (g (56 + 21 * b + 7) + gLe deg (g (24 + 6 * c + 1))) (56 + 21 * b + j) = g (56 + 21 * b + j) := fun j h1 h2 h3 h4 => by rw [ud_ne (by omega), ud_ne (by omega), ud_ne (by omega), ud_ne (by omega)]
      unfold Sb
      rw [f 2 (by omega) (by omega) (by omega) (by omega), f 8 (by omega) (by omega) (by omega) (by omega), f 10 (by omega) (by omega) (by omega) (by omega)]
      refine ⟨s1, ?_, s3, s5, fun k hk hg => ?_⟩
      · rw [ud_ne (show 56 + 21 * b + 4 ≠ 56 + 21 * b + 7 by omega), ud_ne (show 56 + 21 * b + 4 ≠ 56 + 21 * b + 6 by omega), ud_s, ud_ne (show 56 + 21 * b + 6 ≠ 56 + 21 * b + 7 by omega), ud_s]
        refine ⟨hr, ?_⟩
        split
        · rename_i h
          exact ⟨rg_le.mp h, s2''⟩
        · exact ⟨Int.le_refl _, hr.2⟩
      · rw [f (16 + k) (by omega) (by omega) (by omega) (by omega)]
        exact s6 k hk hg
    have hA52 : (gWarmA g b c rise deg) 52 = g 52 := by
      unfold gWarmA
      rw [ud_ne (by omega), ud_ne (by omega), ud_ne (by omega), ud_ne (by omega)]
    rw [← hA52] at ht
    generalize gWarmA g b c rise deg = G at hA ht ⊢
    unfold gWarmB
    refine Sb_congr (fun j _ _ _ _ h9 _ => ud_ne (by omega)) ?_
    have t1 : ∀ x c', gFault G x b 0 c' 52 = G 52 := fun x c' => gFault_ne (by omega) (by omega) (by omega)
    have t2 : ∀ x c' x2 c2, gFault (gFault G x b 0 c') x2 b 1 c2 52 = G 52 := fun x c' x2 c2 => (gFault_ne (by omega) (by omega) (by omega)).trans (t1 _ _)
    exact Sb_fault (by omega) (by rw [t2]; exact ht) (fun h => absurd h (by omega)) (Sb_fault (by omega) (by rw [t1]; exact ht) (fun h => absurd h (by omega)) (Sb_fault (by omega) ht (fun h => absurd h (by omega)) hA))
  · exact hS
theorem Sd_lo {g g' : Nat → Int32} {l m : Nat} (hz : ∀ i, i < 24 → g' i = g i) (h51 : g' 51 = g 51) (h : ∀ i, 56 ≤ i → g' i = g i) (hS : Sd g l m) : Sd g' l m := by
  obtain ⟨h1, h2, h3⟩ := hS
  exact ⟨Sz_congr hz h1, by rw [h51]; exact h2, fun b hb => Sb_congr (fun j _ _ _ _ _ _ => h _ (by omega)) (h3 b hb)⟩
theorem pif_inv2 {α : Type} {F : Nat → α → α} {P : α → Prop} {l : Nat} (hF : ∀ b a, b < l → P a → P (F b a)) {a : α} (h : P a) : P (pif F 0 l a) := pif_inv hF l 0 a (by omega) h
theorem Sd_tick {g : Nat → Int32} {l t : Nat} (hI : gInv g l) (ht : t < 1000000) (h52 : g 52 = nI t) (hS : Sd g l t) : Sd (gTick l g) l (t + 1) := by
  have hS1 : Sd g l (t + 1) := ⟨hS.1, hS.2.1, fun b hb => Sb_mono (by omega) (hS.2.2 b hb)⟩
  have k52 : ∀ a : Nat → Int32, a 52 = nI t → 0 ≤ (a 52).toInt ∧ (a 52).toInt < ((t + 1 : Nat) : Int) := fun a h => by
    rw [h, nI_toInt (by omega)]
    omega
  have m1 := pif_inv2 (F := gMv) (P := fun a => gInv a l ∧ a 52 = nI t ∧ Sd a l (t + 1)) (l := l) (fun b a hb h => ⟨gMv_inv hb h.1, (gMv_out (Or.inl (by omega))).trans h.2.1, Sd_mv hb (k52 a h.2.1) h.2.2⟩) ⟨hI, h52, hS1⟩
  have m2 := pif_inv2 (F := gHeat l) (P := fun a => gInv a l ∧ a 52 = nI t ∧ Sd a l (t + 1)) (l := 6) (fun z a hz h => ⟨gHeat_inv h.1 hz, (gHeat_hi hz (by omega)).trans h.2.1, Sd_heat hz h.1 h.2.2⟩) m1
  have m3 := pif_inv2 (F := gWm) (P := fun a => gInv a l ∧ a 52 = nI t ∧ Sd a l (t + 1)) (l := l) (fun b a hb h => ⟨gWm_inv hb h.1, (gWm_out (Or.inl (by omega))).trans h.2.1, Sd_wm hb h.1 (k52 a h.2.1) h.2.2⟩) m2
  unfold gTick gTk
  refine Sd_lo (fun i hi => ud_ne (by omega)) (ud_ne (by omega)) (fun i hi => ud_ne (by omega)) ?_
  exact Sd_lo (fun i hi => gHear_lo (by omega) (by omega) (by omega)) (gHear_lo (by omega) (by omega) (by omega)) (fun i hi => gHear_hi hi) m3.2.2
theorem Sd_ticks {l : Nat} : ∀ (j : Nat) (g : Nat → Int32) (t : Nat), gInv g l → t + j < 1000000 → g 52 = nI t → Sd g l t → Sd (gTicks l j g) l (t + j) := by
  intro j
  induction j with
  | zero => intro g t _ _ _ h; exact h
  | succ j ih =>
    intro g t hI ht h52 hS
    have h := ih (gTick l g) (t + 1) (gTick_inv hI) (by omega) (by rw [gTick_52, h52, ix_al]) (Sd_tick hI (by omega) h52 hS)
    rw [show t + (j + 1) = t + 1 + j by omega]
    exact h
