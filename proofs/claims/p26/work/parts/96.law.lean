/-! the law -/
section LW
variable {n P len : Nat} {f T : Nat → Int32}
/-- the end's small refusals -/
theorem lw_337 {r : Nat} {M : vv_M} {h : Nat → Nat → Int32} {sc : List Int32} (hn : 5000 ≤ n) (hS : St P M f h r len T) : ∃ M', f_L_law_337 n sc P M = some (1, M') := by
  have k1 : aRest (-1) f = -1001 := if_neg (by decide)
  obtain ⟨M1, a1, a2, -⟩ := s_restore (P := P) hn (-1) M f T h r len hS
  rw [k1] at a1 a2
  have hS1 := a2 (by decide)
  obtain ⟨b1, b2⟩ := q_noboard (n := n) hS1.1 0
  have hc : f_X4_count n P 16 M1 = some (-1001, M1) := by
    rw [q_count hn hS1.1 16 (by decide) (by decide)]
    rfl
  obtain ⟨e1, e2⟩ := q_nos (n := n) (P := P) (M := M1)
  obtain ⟨x, x1, x2⟩ := q_faultCells hn hS1.1
  unfold f_L_law_337
  rw [bnd a1, if_pos rfl, bnd b1, if_pos rfl, bnd hc, if_pos rfl, bnd (q_noworst (n := n) (P := P) (M := M1) 0), if_pos rfl, bnd b2, if_pos rfl]
  unfold f_L_law_398
  rw [bnd e1, if_pos rfl, bnd e2, if_pos rfl, bnd x1, if_neg x2]
  exact ⟨M1, rfl⟩
/-- what the end does after the snapshot -/
theorem lw_256 {r t : Nat} {M : vv_M} {h : Nat → Nat → Int32} {sc : List Int32} {v : Int64} (hn : 5000 ≤ n) (hv : ∀ (M : vv_M) (T : Nat → Int32) (h : Nat → Nat → Int32) (r len : Nat), Gq P M f h r len T → f_L_all n P M = some (v, M)) (h52 : f 52 = nI t) (ht : t ≤ 4900) (h2122 : f 2122 = 1) (hsl : ∀ k, k < 707 → f (1414 + k) = f k) (hS : St P M f h r len T) : ∃ M', f_L_law_256 n sc P v M = some (1, M') := by
  obtain ⟨hl, hI, hE, -⟩ := hS.1.oven
  unfold f_L_law_256
  -- the ticks
  obtain ⟨ep, ew⟩ := pass_ok (j := 9) h52 (by omega) (by omega) (by omega) (show gl f ≤ 31 by omega)
  have hm := gMn_le (gTicks (gl f) 9 f) 1 (gl f)
  have hw2 : ∀ k, 707 ≤ k → nPass (nI 9) f k = f k := fun k hk => w_pass hl hI hk
  obtain ⟨M1, a1, -, a3⟩ := s_pass (P := P) hn (nI 9) M f T h r len hS
  rw [ep] at a1 a3
  have hS1 := a3 (nI_pos (by omega))
  generalize nPass (nI 9) f = f2 at hS1 hw2
  have a1' : f_X4_pass n P 9 M = some (nI (gMn (gTicks (gl f) 9 f) 1 (gl f) - gMn f 1 (gl f)), M1) := a1
  rw [bnd a1']
  -- the curve
  have hE2 := hS1.1.oven.2.2.1
  have ec : aCurve 0 1 200 f2 = f2 (24 + 1) := if_pos (by decide)
  have nc : ¬ aCurve 0 1 200 f2 < 0 := by
    rw [ec]
    exact hE2.1 1 (by omega)
  have hw3 : ∀ k, 707 ≤ k → nCurve 0 1 200 f2 k = f k := fun k hk => (w_curve nc hk).trans (hw2 k hk)
  obtain ⟨M2, b1, -, b3⟩ := s_setCurve (P := P) hn 0 1 200 M1 f2 T _ _ len hS1
  have hS2 := b3 nc
  generalize nCurve 0 1 200 f2 = f3 at hS2 hw3
  rw [bnd b1]
  -- the drop
  have hE3 := hS2.1.oven.2.2.1
  have ed : aNum 3 5 f3 = f3 51 := if_pos (by decide)
  have nd : ¬ aNum 3 5 f3 < 0 := by
    rw [ed]
    exact hE3.2.1.2
  have hw4 : ∀ k, 707 ≤ k → nNum 3 5 f3 k = f k := fun k hk => (w_num nd hk).trans (hw3 k hk)
  obtain ⟨M3, d1, -, d3⟩ := s_set (P := P) hn 3 5 M2 f3 T _ _ len hS2
  have hS3 := d3 nd
  generalize nNum 3 5 f3 = f4 at hS3 hw4
  rw [bnd d1]
  -- restored
  have er : aRest 1 f4 = nI t := by
    unfold aRest
    rw [if_pos (by decide), show (1 : Int32).toNatClampNeg = 1 from rfl, if_neg (by rw [hw4 _ (by omega), h2122]; decide), hw4 _ (by omega), ← h52]
    exact hsl 52 (by omega)
  have efn : nRest 1 f4 = f := by
    funext k
    unfold nRest
    rw [show (1 : Int32).toNatClampNeg = 1 from rfl]
    by_cases hk : k < 707
    · rw [if_pos hk, hw4 _ (by omega)]
      exact hsl k hk
    · rw [if_neg hk, hw4 _ (by omega)]
  obtain ⟨M4, e1, -, e3⟩ := s_restore (P := P) hn 1 M3 f4 T _ _ len hS3
  rw [er] at e1 e3
  rw [efn] at e3
  have hS4 := e3 (nI_pos (by omega))
  have hc0 : f_X4_count n P 0 M4 = some (nI t, M4) := by
    rw [q_count hn hS4.1 0 (by decide) (by decide)]
    show some (f 52, M4) = _
    rw [h52]
  rw [bnd e1, bnd hc0, if_pos rfl]
  unfold f_L_law_293
  have hr3 := hS3.1.2.1.1
  rw [bnd (hv M4 _ _ _ _ hS4.1), if_pos (cmp_s v)]
  obtain ⟨M5, g1, g2⟩ := s_undo hn rNext_pos hS4
  rw [hPush_top hr3] at g2
  have hr4 := rNext_le hr3
  rw [bnd g1, if_neg (nI_pos (by omega))]
  obtain ⟨M6, k1, -, k3⟩ := s_restore (P := P) hn 1 M5 f4 T _ _ len g2
  rw [er] at k1 k3
  rw [efn] at k3
  have hS6 := k3 (nI_pos (by omega))
  rw [bnd k1, if_neg (nI_pos (by omega)), bnd (hv M6 _ _ _ _ hS6.1), if_pos (cmp_s v)]
  have et : aTake 2 f = -1001 := if_neg (by decide)
  obtain ⟨M7, l1, l2, -⟩ := s_take (P := P) hn 2 M6 f T _ _ len hS6
  rw [et] at l1 l2
  rw [bnd l1, if_pos rfl]
  exact lw_337 hn (l2 (by decide))
theorem lw_234 {r : Nat} {M : vv_M} {h : Nat → Nat → Int32} {sc : List Int32} {t : Nat} (hn : 5000 ≤ n) (h52 : f 52 = nI t) (ht : t ≤ 5000) (h49 : ¬ t ≤ 4900) (hS : St P M f h r len T) : ∃ M', f_L_law_234 n sc P M = some (1, M') := by
  have hc0 : f_X4_count n P 0 M = some (nI t, M) := by
    rw [q_count hn hS.1 0 (by decide) (by decide)]
    show some (f 52, M) = _
    rw [h52]
  unfold f_L_law_234
  rw [bnd hc0, if_neg (show ¬ nI t ≤ 4900 from nI_ge (a := 4900) (by omega) (by omega))]
  exact ⟨M, rfl⟩
theorem cell_ok {sc : List Int32} (hs : sc.length ≤ 260) {x : Nat} (hx : x < 1000) : ∃ y, ∀ M, f_L_cell n sc (nI x) M = some (y, M) := by
  unfold f_L_cell
  rw [show Int32.ofNat sc.length = nI sc.length from rfl]
  by_cases h : nI sc.length ≤ nI x
  · exact ⟨_, fun M => if_pos h⟩
  · have hlt : x < sc.length := Nat.not_le.mp (fun q => h (nI_le q (by omega)))
    exact ⟨_, fun M => by rw [if_neg h, if_neg (nI_in hlt (by omega))]⟩
theorem lw_168 {r t : Nat} {M : vv_M} {h : Nat → Nat → Int32} {sc : List Int32} {y : Int32} {K : Nat → Int32 → vv_M → Option (Int32 × vv_M)} (hn : 5000 ≤ n) (ht : t < 24) (hK : ∀ M f h r len T, St P M f h r len T → ∃ M', K P (nI (t + 1)) M = some (1, M')) (hS : St P M f h r len T) : ∃ M', f_L_law_168 n sc K P (nI t) y M = some (1, M') := by
  have z3 : ((3 : Int32) = 0) = False := by decide
  have z6 : ((6 : Int32) = 0) = False := by decide
  have h204 : ∀ M f h r len T, St P M f h r len T → ∃ M', f_L_law_204 n sc K P (nI t) M = some (1, M') := by
    intro M f h r len T hS
    unfold f_L_law_204
    rw [ix_let, ix_al]
    exact hK M f h r len T hS
  have h182 : ∃ M', f_L_law_182 n sc K P (nI t) y M = some (1, M') := by
    unfold f_L_law_182
    rw [if_neg (by rw [z6]; exact id)]
    split
    · obtain ⟨M1, h', r', a1, a2⟩ := ft_ok (y >>> ((7 : Int32) &&& 31)) hn hS
      rw [bnd a1, if_neg (show ¬ (1 : Int32) = 0 by decide)]
      exact h204 M1 f h' r' len T a2
    · exact h204 M f h r len T hS
  unfold f_L_law_168
  rw [if_neg (by rw [z3]; exact id)]
  split
  · rw [bnd (ss_ok hn hS.1 hS.2.1.1), if_neg (show ¬ (1 : Int32) = 0 by decide)]
    exact h182
  · exact h182
theorem lw_103 {r t : Nat} {M : vv_M} {h : Nat → Nat → Int32} {sc : List Int32} {y : Int32} {v : Int64} {K : Nat → Int32 → vv_M → Option (Int32 × vv_M)} (hn : 5000 ≤ n) (ht : t < 24) (hK : ∀ M f h r len T, St P M f h r len T → ∃ M', K P (nI (t + 1)) M = some (1, M')) (hv : ∀ (M : vv_M) (T : Nat → Int32) (h : Nat → Nat → Int32) (r len : Nat), Gq P M f h r len T → f_L_all n P M = some (v, M)) (hS : St P M f h r len T) : ∃ M', f_L_law_103 n sc K P (nI t) y v M = some (1, M') := by
  obtain ⟨x, M1, len', T', a1, a2⟩ := acts_ok y hn hS
  unfold f_L_law_103
  rw [bnd a1, ix_let]
  dsimp only
  rcases a2 with ⟨b1, b2⟩ | ⟨b1, f', b2⟩
  · have hx := rg_le.mp b1
    rw [show (-1001 : Int32).toInt = -1001 from rfl] at hx
    rw [if_neg (fun q => by
      have := rg_le.mp q
      rw [show (-1000 : Int32).toInt = -1000 from rfl] at this
      omega), bnd (hv M1 _ _ _ _ b2.1), if_pos (cmp_s v)]
    unfold f_L_law_131
    rw [if_pos (rg_le.mpr (by rw [show (-1000 : Int32).toInt = -1000 from rfl]; omega))]
    exact lw_168 hn ht hK b2
  · have hx : 0 ≤ x.toInt := rg_nlt.mp b1
    rw [if_pos (rg_le.mpr (by rw [show (-1000 : Int32).toInt = -1000 from rfl]; omega))]
    unfold f_L_law_131
    rw [if_neg (fun q => by
      have := rg_le.mp q
      rw [show (-1000 : Int32).toInt = -1000 from rfl] at this
      omega)]
    split
    · have hr5 := hS.1.2.1.1
      obtain ⟨M2, c1, c2⟩ := s_undo hn rNext_pos b2
      rw [hPush_top hr5] at c2
      have hrn := rNext_le hr5
      rw [bnd c1, if_neg (nI_pos (by omega)), bnd (hv M2 _ _ _ _ c2.1), if_pos (cmp_s v)]
      exact lw_168 hn ht hK c2
    · exact lw_168 hn ht hK b2
end LW
theorem law_ok {n P : Nat} {sc : List Int32} (hn : 5000 ≤ n) (hs : sc.length ≤ 260) : ∀ (j t k : Nat) (M : vv_M) (f : Nat → Int32) (h : Nat → Nat → Int32) (r len : Nat) (T : Nat → Int32), t + j = 24 → j < k → St P M f h r len T → ∃ M', f_L_law_51 n sc k P (nI t) M = some (1, M') := by
  intro j
  induction j with
  | zero =>
    intro t k M f h r len T ht hk hS
    obtain ⟨k, rfl⟩ : ∃ x, k = x + 1 := ⟨k - 1, by omega⟩
    obtain rfl : t = 24 := by omega
    obtain ⟨hl, hI, hE, -⟩ := hS.1.oven
    obtain ⟨tk, t1, h52⟩ := hE.2.2
    have et : aTake 1 f = nI tk := by
      unfold aTake
      rw [if_pos (by decide), h52]
    obtain ⟨M1, a1, -, a3⟩ := s_take (P := P) hn 1 M f T h r len hS
    rw [et] at a1 a3
    have hS1 := a3 (nI_pos (by omega))
    have ek : ∀ q, q < 707 → nTake 1 f q = f q := fun q hq => by
      unfold nTake
      rw [show (1 : Int32).toNatClampNeg = 1 from rfl, if_neg (by omega), if_neg (by omega)]
    have es : ∀ q, q < 707 → nTake 1 f (1414 + q) = nTake 1 f q := fun q hq => by
      rw [ek q hq]
      unfold nTake
      rw [show (1 : Int32).toNatClampNeg = 1 from rfl, if_pos (by omega), show 1414 + q - (707 + 707 * 1) = q by omega]
    have e2 : nTake 1 f 2122 = 1 := by
      unfold nTake
      rw [show (1 : Int32).toNatClampNeg = 1 from rfl, if_neg (by omega), if_pos (by omega)]
    have e52 : nTake 1 f 52 = nI tk := (ek 52 (by omega)).trans h52
    generalize nTake 1 f = f1 at *
    have hl1 := hS1.1.oven.1
    obtain ⟨v, hv⟩ := all_ok (n := n) (P := P) hl1 hn
    have hv : ∀ (M : vv_M) (T : Nat → Int32) (h : Nat → Nat → Int32) (r len : Nat), Gq P M f1 h r len T → f_L_all n P M = some (v, M) := hv
    have hc0 : f_X4_count n P 0 M1 = some (nI tk, M1) := by
      rw [q_count hn hS1.1 0 (by decide) (by decide)]
      show some (f1 52, M1) = _
      rw [e52]
    rw [f_L_law_51.eq_2, if_pos (show (24 : Int32) ≤ nI 24 by decide), bnd a1, bnd hc0, if_pos rfl, bnd hc0]
    by_cases h49 : tk ≤ 4900
    · rw [if_pos (show nI tk ≤ 4900 from nI_le (b := 4900) h49 (by omega)), bnd (hv M1 _ _ _ _ hS1.1), ix_let]
      exact lw_256 hn hv e52 h49 e2 es hS1
    · rw [if_neg (show ¬ nI tk ≤ 4900 from nI_ge (a := 4900) (by omega) (by omega))]
      exact lw_234 hn e52 t1 h49 hS1
  | succ j ih =>
    intro t k M f h r len T ht hk hS
    obtain ⟨k, rfl⟩ : ∃ x, k = x + 1 := ⟨k - 1, by omega⟩
    have hl := hS.1.oven.1
    obtain ⟨v, hv⟩ := all_ok (n := n) (P := P) hl hn
    have hv : ∀ (M : vv_M) (T : Nat → Int32) (h : Nat → Nat → Int32) (r len : Nat), Gq P M f h r len T → f_L_all n P M = some (v, M) := hv
    have hK : ∀ M f h r len T, St P M f h r len T → ∃ M', f_L_law_51 n sc k P (nI (t + 1)) M = some (1, M') := fun M f h r len T q => ih (t + 1) k M f h r len T (by omega) (by omega) q
    obtain ⟨y, hy⟩ := cell_ok (n := n) (sc := sc) hs (x := t + 1) (by omega)
    have z5 : ((5 : Int32) = 0) = False := by decide
    rw [f_L_law_51.eq_2, if_neg (show ¬ (24 : Int32) ≤ nI t from nI_ge (a := t) (b := 24) (by omega) (by omega)), show (1 : Int32) + nI t = nI (t + 1) by rw [Int32.add_comm, ix_al], bnd (hy M), ix_let, bnd (hv M _ _ _ _ hS.1), ix_let, if_neg (by rw [z5]; exact id)]
    dsimp only
    split
    · obtain ⟨w, -, ew⟩ := low_ex n (y >>> ((20 : Int32) &&& 31)) (d := 9) (by omega) (by omega)
      have ew : ∀ M, f_L_low n (y >>> ((20 : Int32) &&& 31)) 9 M = some (nI w, M) := ew
      obtain ⟨y1, M1, len1, T1, a1, a2⟩ := s_append (n := n) 112 hS
      obtain ⟨y2, M2, len2, T2, b1, b2⟩ := s_append (n := n) (49 + nI w) a2
      rw [bnd a1, bnd (ew M1)]
      dsimp only
      rw [bnd b1]
      exact lw_103 hn (by omega) hK hv b2
    · exact lw_103 hn (by omega) hK hv hS
/-! the start -/
def vv_M0 : vv_M := vv_bI 0 (fun _ => fun _ => 0)
theorem m0_a : ∀ k, k < 24 → vv_M0 3 k = g0 k := by decide +kernel
theorem m0_b : ∀ k, k < 24 → vv_M0 4 k = g0 (24 + k) := by decide +kernel
theorem m0_c : ∀ k, k < 4 → vv_M0 5 k = g0 (48 + k) := by decide +kernel
theorem m0_d : vv_M0 2 5 = g0 52 ∧ vv_M0 2 6 = g0 53 ∧ vv_M0 2 7 = g0 54 ∧ vv_M0 2 8 = g0 55 := by decide +kernel
theorem m0_e : ∀ z, z < 6 → g0 (0 + 4 * z + 0) = nI (gln g0 z) ∧ 2 ≤ gln g0 z ∧ gln g0 z ≤ 8 := by decide +kernel
theorem m0_f : g0 53 = nI 0 ∧ g0 48 = nI 2 ∧ g0 49 = nI 3 ∧ ¬ g0 50 < 0 ∧ ¬ g0 51 < 0 ∧ g0 52 = nI 0 := by decide +kernel
theorem m0_g : ∀ k, k < 24 → ¬ g0 (24 + k) < 0 := by decide +kernel
theorem m0_h : ∀ j, j < 2 → vv_M0 9 j = g0 (2121 + j) ∧ g0 (2121 + j) = 0 := by decide +kernel
theorem m0_i : vv_M0 22 1 = nI 0 ∧ vv_M0 22 2 = nI 0 ∧ vv_M0 150 1 = nI 0 ∧ vv_M0 150 2 = 0 := by decide +kernel
theorem m0_z : ∀ z, z < 6 → (20 ≤ (g0 (0 + 4 * z + 1)).toInt ∧ (g0 (0 + 4 * z + 1)).toInt ≤ 300) ∧ (1 ≤ (g0 (0 + 4 * z + 2)).toInt ∧ (g0 (0 + 4 * z + 2)).toInt ≤ 20) ∧ 20 ≤ (g0 (0 + 4 * z + 3)).toInt ∧ (g0 (0 + 4 * z + 3)).toInt ≤ 300 := by decide +kernel
theorem m0_l : gl g0 = 0 ∧ g0 51 = nI 1 := by decide +kernel
theorem m0_st : St 0 vv_M0 g0 (fun _ => g0) 0 0 (fun _ => 0) := by
  obtain ⟨f1, f2, f3, f4, f5, f6⟩ := m0_f
  obtain ⟨i1, i2, i3, i4⟩ := m0_i
  obtain ⟨l1, l2⟩ := m0_l
  refine ⟨⟨⟨⟨0, by omega, ⟨m0_e, f1, by omega, ⟨2, f2, by omega, by omega⟩, ⟨3, f3, by omega, by omega⟩, fun b hb => absurd hb (Nat.not_lt_zero b)⟩, ⟨m0_g, ⟨f4, f5⟩, 0, by omega, f6⟩, m0_a, m0_b, m0_c, m0_d, fun b hb => absurd hb (Nat.not_lt_zero b)⟩, fun j hj => ?_⟩, ⟨by omega, 0, by omega, i1, i2, fun i hi => absurd hi (Nat.not_lt_zero i)⟩, ⟨i3, i4, by omega, fun k hk => absurd hk (Nat.not_lt_zero k)⟩⟩, ⟨⟨by omega, 0, by omega, f6, m0_z, ⟨1, by omega, l2⟩, fun b hb => ?_⟩, fun j hj he => ?_⟩, fun i hi => absurd hi (Nat.not_lt_zero i)⟩
  · obtain ⟨h1, h2⟩ := m0_h j hj
    exact ⟨h1, Or.inl h2, fun h => absurd (h2.symm.trans h) (by decide)⟩
  · rw [l1] at hb
    exact absurd hb (Nat.not_lt_zero b)
  · obtain ⟨h1, h2⟩ := m0_h j hj
    exact absurd (h2.symm.trans he) (by decide)
theorem Oc.st {P r : Nat} {f : Nat → Int32} {h : Nat → Nat → Int32} {o : Option (Int32 × vv_M)} (hO : Oc P f h r o) : ∃ x M1 f' h' r' len' T', o = some (x, M1) ∧ St P M1 f' h' r' len' T' := by
  obtain ⟨x, M1, len', T', h1, h2⟩ := hO
  rcases h2 with ⟨-, h2⟩ | ⟨-, f', h2⟩
  · exact ⟨x, M1, _, _, _, _, _, h1, h2⟩
  · exact ⟨x, M1, _, _, _, _, _, h1, h2⟩
theorem law_runs (sc : List Int32) (hs : sc.length ≤ 260) : ∃ M', f_L_law_8 5000 sc 0 (vv_bI 0 (fun _ => fun _ => 0)) = some (1, M') := by
  have hn : 5000 ≤ 5000 := Nat.le_refl _
  obtain ⟨y, hy⟩ := cell_ok (n := 5000) (sc := sc) hs (x := 0) (by omega)
  have hy : ∀ M, f_L_cell 5000 sc 0 M = some (y, M) := hy
  obtain ⟨a, -, ea⟩ := low_ex 5000 y (d := 12) (by omega) (by omega)
  have ea : ∀ M, f_L_low 5000 y 12 M = some (nI a, M) := ea
  obtain ⟨b, -, eb⟩ := low_ex 5000 (y >>> ((4 : Int32) &&& 31)) (d := 4) (by omega) (by omega)
  have eb : ∀ M, f_L_low 5000 (y >>> ((4 : Int32) &&& 31)) 4 M = some (nI b, M) := eb
  obtain ⟨c, -, ec⟩ := low_ex 5000 (y >>> ((7 : Int32) &&& 31)) (d := 9) (by omega) (by omega)
  have ec : ∀ M, f_L_low 5000 (y >>> ((7 : Int32) &&& 31)) 9 M = some (nI c, M) := ec
  obtain ⟨x1, M1, f1, h1, r1, len1, T1, s1, s2⟩ := (a_set hn 2 (nI a) m0_st).st
  obtain ⟨x2, M2, f2, h2, r2, len2, T2, u1, u2⟩ := (a_load hn (nI b) (1 + nI c) s2).st
  obtain ⟨M', hM'⟩ := law_ok (P := 0) (sc := sc) hn hs 24 0 5000 M2 f2 h2 r2 len2 T2 (by omega) (by omega) u2
  refine ⟨M', ?_⟩
  show f_L_law_8 5000 sc 0 vv_M0 = _
  unfold f_L_law_8
  rw [bnd (hy vv_M0), ix_let, bnd (ea vv_M0), bnd s1, bnd (eb M1), bnd (ec M1), bnd u1]
  unfold f_L_law_49
  exact hM'
