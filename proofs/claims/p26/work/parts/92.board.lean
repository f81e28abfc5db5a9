/-! isBoardSound -/
theorem m9 : ((-1009 : Int32) < 0) = True := by decide
theorem vF_hit {f : Nat → Int32} {b κ c : Nat} (hc : c ≤ 48) : (vF f b κ 0 = nI c) ↔ gHit f b κ c := by
  unfold vF
  by_cases hg : gbit (f (56 + 21 * b + 8)) κ
  · rw [if_pos hg]
    exact ⟨fun h => ⟨hg, h⟩, fun h => h.2⟩
  · rw [if_neg hg]
    exact ⟨fun h => absurd h.symm (nI_ne9 (by omega)), fun h => absurd h.1 hg⟩
section BS
variable {n P r len : Nat} {M : vv_M} {f T : Nat → Int32} {h : Nat → Nat → Int32}
theorem bs_348 {b κ : Nat} {s : Int32} {K : Nat → Int32 → Int32 → Int32 → vv_M → Option (Int32 × vv_M)} (hn : 5000 ≤ n) (hG : Gq P M f h r len T) (hκ : κ < 5) (hK : K P (nI b) s (nI (κ + 1)) M = some (1, M)) : f_L_isBoardSound_348 n K P (nI b) s (nI κ) (wst f κ 49).1 M = some (1, M) := by
  obtain ⟨-, hsp⟩ := wst_spec f κ 49
  have h73 : ∀ x, f_L_isBoardSound_373 n K P (nI b) s (nI κ) x x M = some (1, M) := by
    intro x
    unfold f_L_isBoardSound_373
    rw [if_pos rfl, ix_let, ix_al]
    exact hK
  have hw : f_X4_worstCell n P (nI κ) 1 M = some (nI (wst f κ 49).2, M) := q_worst (w := 1) hn hG hκ (by omega)
  unfold f_L_isBoardSound_348
  rcases hsp with ⟨q1, q2⟩ | ⟨q1, d, q2, q3, -, -⟩
  · rw [q2, if_neg (show ¬ (0 : Int32) ≤ -1009 by decide)]
    unfold f_L_isBoardSound_358
    rw [bnd hw, q1, if_pos (show nI 0 = 0 from rfl)]
    exact h73 1
  · rw [q3, if_pos (nI_pos' (by omega))]
    unfold f_L_isBoardSound_358
    have hle : (wst f κ 49).2 ≤ 150 := by
      obtain ⟨-, hsp2⟩ := wst_spec f κ 49
      rcases hsp2 with ⟨e, -⟩ | ⟨-, d, -, -, e, -⟩
      · omega
      · rw [← e]
        have := gN_le f κ d (gl f)
        have := hG.oven.1
        omega
    rw [bnd hw, if_neg (nI_ne0 q1 (by omega))]
    exact h73 0
/-- the loop over the boards, when the board has the fault -/
theorem bs_258h {b κ c : Nat} {s : Int32} {K : Nat → Int32 → Int32 → Int32 → vv_M → Option (Int32 × vv_M)} (hn : 5000 ≤ n) (hG : Gq P M f h r len T) (hκ : κ < 5) (hc : c ≤ 48) (hK : K P (nI b) s (nI (κ + 1)) M = some (1, M)) : ∀ (j q k : Nat), q + j = gl f → j < k → f_L_isBoardSound_258 n K k P (nI b) s (nI κ) 1 (nI c) (nI (gN f κ c q)) (nI q) M = some (1, M) := by
  have hl := hG.oven.1
  have hw0 : f_X4_worstCell n P (nI κ) 0 M = some ((wst f κ 49).1, M) := q_worst (w := 0) hn hG hκ (by omega)
  have hw1 : f_X4_worstCell n P (nI κ) 1 M = some (nI (wst f κ 49).2, M) := q_worst (w := 1) hn hG hκ (by omega)
  obtain ⟨hs1, hs2⟩ := wst_spec f κ 49
  have hle : (wst f κ 49).2 ≤ 150 := by
    rcases hs2 with ⟨e, -⟩ | ⟨-, d, -, -, e, -⟩
    · omega
    · rw [← e]
      have := gN_le f κ d (gl f)
      omega
  intro j
  induction j with
  | zero =>
    intro q k hq hk
    obtain ⟨k, rfl⟩ : ∃ x, k = x + 1 := ⟨k - 1, by omega⟩
    obtain rfl : q = gl f := by omega
    have hm := hs1 c (by omega)
    rw [f_L_isBoardSound_258.eq_2, bnd (vC_1 hn hG), if_pos (show nI (gl f) ≤ nI (gl f) from nI_le (by omega) (by omega)), bnd hw0, ix_let, bnd hw1, if_neg (nI_nlt hm (by omega)), if_neg (by decide), bnd hw1]
    have h348 := bs_348 (b := b) hn hG hκ hK
    split
    · rename_i he
      have he' := (nI_eq (by omega) (by omega)).mp he
      unfold f_L_isBoardSound_341
      rw [if_neg ?_]
      · exact h348
      · rcases hs2 with ⟨e1, e2⟩ | ⟨-, d, e1, e2, -, e4⟩
        · rw [e2]
          intro hlt
          have := Int32.lt_iff_toInt_lt.mp hlt
          rw [nI_toInt (by omega), show (-1009 : Int32).toInt = -1009 from rfl] at this
          omega
        · rw [e2]
          refine nI_nlt ?_ (by omega)
          rcases Nat.lt_or_ge c d with hcd | hcd
          · have := e4 c hcd
            omega
          · exact hcd
    · exact h348
  | succ j ih =>
    intro q k hq hk
    obtain ⟨k, rfl⟩ : ∃ x, k = x + 1 := ⟨k - 1, by omega⟩
    have hf : f_X4_fault n P (nI q) (nI κ) 0 M = some (vF f q κ 0, M) := q_fault (n := n) (w := 0) hG (show q < gl f by omega) hκ (by omega)
    have hi := ih (q + 1) k (by omega) (by omega)
    have h294 : ∀ x : Nat, gN f κ c q + x = gN f κ c (q + 1) → f_L_isBoardSound_294 n K (f_L_isBoardSound_258 n K k) P (nI b) s (nI κ) 1 (nI c) (nI q) (nI (gN f κ c q)) (nI x) M = some (1, M) := by
      intro x hx
      unfold f_L_isBoardSound_294
      rw [ix_let, ix_let, ix_al, nI_add, hx]
      exact hi
    have hone := hS_one f q c hκ
    have hgs : gN f κ c (q + 1) = gN f κ c q + hS f q κ c 5 := rfl
    rw [f_L_isBoardSound_258.eq_2, bnd (vC_1 hn hG), if_neg (show ¬ nI (gl f) ≤ nI q from nI_ge (by omega) (by omega)), if_neg (by decide), bnd hf]
    by_cases hh : gHit f q κ c
    · rw [if_pos ((vF_hit hc).mpr hh)]
      rw [if_pos hh] at hone
      exact h294 1 (by omega)
    · rw [if_neg (fun e => hh ((vF_hit hc).mp e))]
      rw [if_neg hh] at hone
      exact h294 0 (by omega)
/-- and when it has not -/
theorem bs_258n {b κ : Nat} {s w : Int32} {K : Nat → Int32 → Int32 → Int32 → vv_M → Option (Int32 × vv_M)} (hn : 5000 ≤ n) (hG : Gq P M f h r len T) (hκ : κ < 5) (hK : K P (nI b) s (nI (κ + 1)) M = some (1, M)) : ∀ (j q k : Nat), q + j = gl f → j < k → f_L_isBoardSound_258 n K k P (nI b) s (nI κ) 0 w 0 (nI q) M = some (1, M) := by
  have hl := hG.oven.1
  have hw0 : f_X4_worstCell n P (nI κ) 0 M = some ((wst f κ 49).1, M) := q_worst (w := 0) hn hG hκ (by omega)
  have hw1 : f_X4_worstCell n P (nI κ) 1 M = some (nI (wst f κ 49).2, M) := q_worst (w := 1) hn hG hκ (by omega)
  obtain ⟨hs1, hs2⟩ := wst_spec f κ 49
  have hle : (wst f κ 49).2 ≤ 150 := by
    rcases hs2 with ⟨e, -⟩ | ⟨-, d, -, -, e, -⟩
    · omega
    · rw [← e]
      have := gN_le f κ d (gl f)
      omega
  intro j
  induction j with
  | zero =>
    intro q k hq hk
    obtain ⟨k, rfl⟩ : ∃ x, k = x + 1 := ⟨k - 1, by omega⟩
    obtain rfl : q = gl f := by omega
    rw [f_L_isBoardSound_258.eq_2, bnd (vC_1 hn hG), if_pos (show nI (gl f) ≤ nI (gl f) from nI_le (by omega) (by omega)), bnd hw0, ix_let, bnd hw1, if_neg (show ¬ nI (wst f κ 49).2 < 0 from nI_pos (by omega)), if_pos rfl]
    exact bs_348 (b := b) hn hG hκ hK
  | succ j ih =>
    intro q k hq hk
    obtain ⟨k, rfl⟩ : ∃ x, k = x + 1 := ⟨k - 1, by omega⟩
    have hi := ih (q + 1) k (by omega) (by omega)
    rw [f_L_isBoardSound_258.eq_2, bnd (vC_1 hn hG), if_neg (show ¬ nI (gl f) ≤ nI q from nI_ge (by omega) (by omega)), if_pos rfl]
    unfold f_L_isBoardSound_293 f_L_isBoardSound_294
    rw [ix_let, ix_let, ix_al, Int32.add_zero]
    exact hi
theorem bs_126 {b t : Nat} (hn : 5000 ≤ n) (hG : Gq P M f h r len T) (hb : b < gl f) (ht5 : t ≤ 5000) (h52 : f 52 = nI t) (hS : Sb f b t) : ∀ (j κ k : Nat), κ + j = 5 → j < k → f_L_isBoardSound_126 n k P (nI b) (f (56 + 21 * b + 2)) (nI κ) M = some (1, M) := by
  obtain ⟨hl, hI, hE, hR⟩ := hG.oven
  obtain ⟨-, -, -, hfl⟩ := hI.2.2.2.2.2 b hb
  obtain ⟨s1, s2, s3, ⟨s4, s5⟩, s6⟩ := hS
  have hb8 : f_X4_board n P (nI b) 8 M = some (f (56 + 21 * b + 8), M) := q_board (n := n) (w := 8) hG hb (by omega)
  have hb10 : f_X4_board n P (nI b) 10 M = some (f (56 + 21 * b + 10), M) := q_board (n := n) (w := 10) hG hb (by omega)
  have hc0 : f_X4_count n P 0 M = some (nI t, M) := by
    rw [q_count hn hG 0 (by decide) (by decide)]
    show some (f 52, M) = _
    rw [h52]
  intro j
  induction j with
  | zero =>
    intro κ k hκ hk
    obtain ⟨k, rfl⟩ : ∃ x, k = x + 1 := ⟨k - 1, by omega⟩
    obtain rfl : κ = 5 := by omega
    rw [f_L_isBoardSound_126.eq_2, if_pos (show (5 : Int32) ≤ nI 5 by decide)]
  | succ j ih =>
    intro κ k hκ hk
    obtain ⟨k, rfl⟩ : ∃ x, k = x + 1 := ⟨k - 1, by omega⟩
    have hK := ih (κ + 1) k (by omega) (by omega)
    have hf0 : f_X4_fault n P (nI b) (nI κ) 0 M = some (vF f b κ 0, M) := q_fault (n := n) (w := 0) hG hb (by omega) (by omega)
    have hf1 : f_X4_fault n P (nI b) (nI κ) 1 M = some (vF f b κ 1, M) := q_fault (n := n) (w := 1) hG hb (by omega) (by omega)
    rw [f_L_isBoardSound_126.eq_2, if_neg (show ¬ (5 : Int32) ≤ nI κ from nI_ge (a := κ) (b := 5) (by omega) (by omega)), bnd hb8]
    by_cases hg : gbit (f (56 + 21 * b + 8)) κ
    · rw [if_pos ((and1 _).mpr hg)]
      obtain ⟨c, hc, ec⟩ := hfl κ (by omega) hg
      obtain ⟨⟨w1, w2⟩, w3⟩ := s6 κ (by omega) hg
      have v0 : vF f b κ 0 = nI c := (if_pos hg).trans ec
      have v1 : vF f b κ 1 = f (56 + 21 * b + (16 + κ)) := if_pos hg
      have n0 : ¬ f (56 + 21 * b + (16 + κ)) < 0 := fun q => by
        have := Int32.lt_iff_toInt_lt.mp q
        rw [show (0 : Int32).toInt = 0 from rfl] at this
        omega
      have nt : ¬ nI t ≤ f (56 + 21 * b + (16 + κ)) := fun q => by
        have := rg_le.mp q
        rw [nI_toInt (by omega)] at this
        omega
      have h252 : f_L_isBoardSound_252 n (f_L_isBoardSound_126 n k) P (nI b) (f (56 + 21 * b + 2)) (nI κ) 1 (nI c) M = some (1, M) := bs_258h hn hG (by omega) hc hK (gl f) 0 n (by omega) (by omega)
      unfold f_L_isBoardSound_153
      rw [bnd hf0, ix_let, bnd hf1, ix_let]
      dsimp only
      rw [v0, v1]
      unfold f_L_isBoardSound_175
      rw [if_neg (nI_pos (by omega))]
      unfold f_L_isBoardSound_187
      rw [if_pos rfl, if_neg n0]
      unfold f_L_isBoardSound_202
      rw [if_pos rfl, bnd hc0, if_neg nt, if_neg (show ¬ (48 : Int32) < nI c from nI_nlt (a := 48) (by omega) (by omega))]
      by_cases h2 : κ ≤ 2
      · rw [if_pos (show nI κ ≤ 2 from nI_le (b := 2) h2 (by omega))]
        exact h252
      · obtain ⟨w4, w5⟩ := w3 (by omega)
        rw [if_neg (show ¬ nI κ ≤ 2 from nI_ge (a := 2) (by omega) (by omega)), if_neg (by decide), if_pos w4, bnd hb10, if_pos w5]
        exact h252
    · rw [if_neg (fun q => hg ((and1 _).mp q))]
      have v0 : vF f b κ 0 = -1009 := if_neg hg
      have v1 : vF f b κ 1 = -1009 := if_neg hg
      have nt : ¬ nI t ≤ -1009 := fun q => by
        have := rg_le.mp q
        rw [nI_toInt (by omega), show (-1009 : Int32).toInt = -1009 from rfl] at this
        omega
      have h252 : f_L_isBoardSound_252 n (f_L_isBoardSound_126 n k) P (nI b) (f (56 + 21 * b + 2)) (nI κ) 0 (-1009) M = some (1, M) := bs_258n hn hG (by omega) hK (gl f) 0 n (by omega) (by omega)
      unfold f_L_isBoardSound_153
      rw [bnd hf0, ix_let, bnd hf1, ix_let]
      dsimp only
      rw [v0, v1]
      unfold f_L_isBoardSound_175
      rw [if_pos (by decide)]
      unfold f_L_isBoardSound_187
      rw [if_pos rfl, if_pos (by decide)]
      unfold f_L_isBoardSound_202
      rw [if_pos rfl, bnd hc0, if_neg nt, if_neg (by decide)]
      by_cases h2 : κ ≤ 2
      · rw [if_pos (show nI κ ≤ 2 from nI_le (b := 2) h2 (by omega))]
        exact h252
      · rw [if_neg (show ¬ nI κ ≤ 2 from nI_ge (a := 2) (by omega) (by omega)), if_pos rfl]
        exact h252
theorem rg_nlt {x y : Int32} : ¬ x < y ↔ y.toInt ≤ x.toInt := by
  rw [Int32.not_lt, rg_le]
theorem bs_ok {b : Nat} (hn : 5000 ≤ n) (hG : Gq P M f h r len T) (hS : Snd f) (hb : b < gl f) : f_L_isBoardSound n P (nI b) M = some (1, M) := by
  obtain ⟨hl, hI, hE, hR⟩ := hG.oven
  obtain ⟨-, t, t1, t2, t3⟩ := hS
  have hSb := t3.2.2 b hb
  have h126 : f_L_isBoardSound_126 n n P (nI b) (f (56 + 21 * b + 2)) 0 M = some (1, M) := bs_126 hn hG hb t1 t2 hSb 5 0 n (by omega) (by omega)
  obtain ⟨-, -, hon, -⟩ := hI.2.2.2.2.2 b hb
  obtain ⟨s1, ⟨⟨s2, s2'⟩, s3, s3'⟩, -, ⟨s4, s5⟩, -⟩ := hSb
  have hb2 : f_X4_board n P (nI b) 2 M = some (f (56 + 21 * b + 2), M) := q_board (n := n) (w := 2) hG hb (by omega)
  have hb3 : f_X4_board n P (nI b) 3 M = some (vB f b 3, M) := q_board (n := n) (w := 3) hG hb (by omega)
  have hb4 : f_X4_board n P (nI b) 4 M = some (f (56 + 21 * b + 4), M) := q_board (n := n) (w := 4) hG hb (by omega)
  have hb6 : f_X4_board n P (nI b) 6 M = some (f (56 + 21 * b + 6), M) := q_board (n := n) (w := 6) hG hb (by omega)
  have hb10 : f_X4_board n P (nI b) 10 M = some (f (56 + 21 * b + 10), M) := q_board (n := n) (w := 10) hG hb (by omega)
  have hc6 : f_X4_count n P 6 M = some (nI (gPre f 6), M) := q_count hn hG 6 (by decide) (by decide)
  have hp6 := gPre_6 hI.1
  have h118 : ∀ x, f_L_isBoardSound_118 n P (nI b) (f (56 + 21 * b + 2)) x x M = some (1, M) := by
    intro x
    unfold f_L_isBoardSound_118
    rw [if_pos rfl]
    exact h126
  -- behind the cell
  have h80b : (if f (56 + 21 * b + 2) = 1 then f_L_isBoardSound_103 n P (nI b) (f (56 + 21 * b + 2)) 1 M else f_L_isBoardSound_103 n P (nI b) (f (56 + 21 * b + 2)) 0 M) = some (1, M) := by
    unfold f_L_isBoardSound_103
    by_cases h1 : f (56 + 21 * b + 2) = 1
    · rw [if_pos h1, bnd hb10, if_neg (show ¬ f (56 + 21 * b + 10) < 0 from rg_nlt.mpr (s4 h1).1)]
      exact h118 1
    · rw [if_neg h1, bnd hb10, s5 h1, if_pos (show (-1009 : Int32) < 0 by decide)]
      exact h118 0
  unfold f_L_isBoardSound
  rw [bnd hb2, ix_let, bnd hb3, ix_let, bnd hb4, ix_let]
  unfold f_L_isBoardSound_22
  dsimp only
  rw [if_neg (show ¬ f (56 + 21 * b + 4) < 20 from rg_nlt.mpr s2), if_neg (show ¬ 300 < f (56 + 21 * b + 4) from rg_nlt.mpr s2'), bnd hb6, if_neg (show ¬ f (56 + 21 * b + 6) < f (56 + 21 * b + 4) from rg_nlt.mpr s3), bnd hb6, if_neg (show ¬ 300 < f (56 + 21 * b + 6) from rg_nlt.mpr s3')]
  unfold f_L_isBoardSound_71 vB
  rw [if_pos rfl]
  by_cases h0 : f (56 + 21 * b + 2) = 0
  · obtain ⟨c1, c2⟩ := hon h0
    rw [if_pos h0, if_pos h0, c1, if_neg (nI_pos (by omega))]
    unfold f_L_isBoardSound_80
    rw [if_pos rfl, bnd hc6, if_neg (nI_ge c2 (by omega))]
    exact h80b
  · rw [if_neg h0, if_neg h0, if_pos (by decide)]
    unfold f_L_isBoardSound_80
    rw [if_pos rfl, bnd hc6, if_neg (fun q => by
      have := rg_le.mp q
      rw [nI_toInt (by omega), show (-1009 : Int32).toInt = -1009 from rfl] at this
      omega)]
    exact h80b
end BS
