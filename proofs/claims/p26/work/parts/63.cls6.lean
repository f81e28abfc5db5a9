/-! warmBoards, hearPleas, a tick -/
theorem c_step {n p l b : Nat} {M : vv_M} {g : Nat → Int32} (hI : gInv g l) (hR : Ro p M g l) (hb : b < l) (hon : g (56 + 21 * b + 2) = 0) : ∃ B1 B2, f_X2_warm n p (nI (b * 22)) M = some ((), va_up M (p + 4) B1) ∧ f_X2_judgeOnBelt n p (nI (b * 22)) (va_up M (p + 4) B1) = some ((), va_up M (p + 4) B2) ∧ Ro p (va_up M (p + 4) B2) (gWarm b g) l := by
  have h31 := hI.2.2.1
  have hb30 : b ≤ 30 := by omega
  obtain ⟨⟨c, hc4, hc⟩, ⟨w, hw1, hw9, hw⟩, -, -⟩ := hI.2.2.2.2.2 b hb
  have hRb := hR.2.2.2.2 b hb
  have e0 : M (p + 4) (b * 22 + 0) = nI c := (hRb.1 0 (by omega) (by omega)).trans hc
  have e1 : M (p + 4) (b * 22 + 1) = nI w := (hRb.1 1 (by omega) (by omega)).trans hw
  have e4 : M (p + 4) (b * 22 + 4) = g (56 + 21 * b + 4) := hRb.1 4 (by omega) (by omega)
  have e11 := (hRb.2.1 hon).2
  have hcv : gcv g b = c := gcv_eq hc hc4
  have hz := gZone_lt g (gcell g b)
  have ew : M (p + 1) (gZone g (gcell g b) * 4 + 3) = g (0 + 4 * gZone g (gcell g b) + 3) := by rw [hR.1 _ (by omega), show gZone g (gcell g b) * 4 + 3 = 0 + 4 * gZone g (gcell g b) + 3 by omega]
  have ek : ∀ k, k < 6 → M (p + 2) (c * 6 + k) = g (24 + 6 * c + k) := by
    intro k hk
    rw [hR.2.1 _ (by omega), show 24 + (c * 6 + k) = 24 + 6 * c + k by omega]
  have hrise : gRise g b = (M (p + 1) (gZone g (gcell g b) * 4 + 3) - M (p + 4) (b * 22 + 4)) / nI (w + 1) := by
    unfold gRise
    rw [hw, ix_al, ew, e4]
  have h1 := c_warm (n := n) (p := p) (b := b) M hb30 e0 hc4 e11 hz e1 hw9 (gRise g b) hrise
  have hB0 : cWarmA (M (p + 4)) b (gRise g b) (M (p + 4) (b * 22 + 4) + gRise g b) (M (p + 2) (c * 6 + 1)) (b * 22 + 0) = nI c := by
    unfold cWarmA
    split <;> simp (disch := omega) only [ud_ne, e0]
  have h2 := c_judge (n := n) (p := p) M hb30 hB0 hc4
  refine ⟨_, _, h1, h2, ?_⟩
  have hA := Rb_warmA (c := c) (rise := gRise g b) (deg := M (p + 4) (b * 22 + 4) + gRise g b) hRb hon (ek 1 (by omega))
  have hG : ∀ i, i < 56 → gWarmA g b c (gRise g b) (M (p + 4) (b * 22 + 4) + gRise g b) i = g i := by
    intro i hi
    unfold gWarmA
    simp (disch := omega) only [ud_ne]
  have hG2 : gWarmA g b c (gRise g b) (M (p + 4) (b * 22 + 4) + gRise g b) (56 + 21 * b + 2) = g (56 + 21 * b + 2) := by
    unfold gWarmA
    simp (disch := omega) only [ud_ne]
  have hJ := Rb_judge (t := M p 5) (c := c) (c0 := M (p + 2) (c * 6 + 0)) (c3 := M (p + 2) (c * 6 + 3)) (c5 := M (p + 2) (c * 6 + 5)) hA (hG2.trans hon) (by rw [hG _ (by omega)]; exact hR.2.2.2.1.1) (by rw [hG _ (by omega)]; exact ek 0 (by omega)) (by rw [hG _ (by omega)]; exact ek 3 (by omega)) (by rw [hG _ (by omega)]; exact ek 5 (by omega))
  refine Ro_board (b := b) hR (fun i hi => gWarm_out hi) (fun i hi => ?_) ?_
  · have hi' := hi
    unfold bOut at hi'
    unfold cJudge
    rw [ud_ne (by omega), cF_out (by omega) hi, cF_out (by omega) hi, cF_out (by omega) hi]
    unfold cWarmA
    split <;> simp (disch := omega) only [ud_ne]
  · have e : gWarm b g = gWarmB (gWarmA g b c (gRise g b) (M (p + 4) (b * 22 + 4) + gRise g b)) b c (gWarmA g b c (gRise g b) (M (p + 4) (b * 22 + 4) + gRise g b) (56 + 21 * b + 3)) (gWarmA g b c (gRise g b) (M (p + 4) (b * 22 + 4) + gRise g b) (56 + 21 * b + 4)) (gLe (gWarmA g b c (gRise g b) (M (p + 4) (b * 22 + 4) + gRise g b) (56 + 21 * b + 5)) (gWarmA g b c (gRise g b) (M (p + 4) (b * 22 + 4) + gRise g b) (24 + 6 * c + 0))) (gLe (gWarmA g b c (gRise g b) (M (p + 4) (b * 22 + 4) + gRise g b) (56 + 21 * b + 7)) (gWarmA g b c (gRise g b) (M (p + 4) (b * 22 + 4) + gRise g b) (24 + 6 * c + 3))) := by
      unfold gWarm
      rw [hcv, e4]
      unfold gWarmA
      simp (disch := omega) only [ud_ne, ud_s]
    rw [e]
    exact hJ
theorem c_warmBoards {n p l : Nat} (hn : 40 ≤ n) : ∀ (j b k : Nat) (M : vv_M) (g : Nat → Int32), b + j = l → j < k → gInv g l → Ro p M g l → ∃ M', f_X2_warmBoards_2 n k p (nI b) M = some ((), M') ∧ Ro p M' (pif gWm b j g) l ∧ Fr p M M' := by
  intro j
  induction j with
  | zero =>
    intro b k M g hb hk hI hR
    obtain ⟨k, rfl⟩ : ∃ q, k = q + 1 := ⟨k - 1, by omega⟩
    obtain rfl : b = l := by omega
    have h31 := hI.2.2.1
    have h6 : M p 6 = nI b := hR.2.2.2.1.2.1.trans hI.2.1
    refine ⟨M, ?_, hR, Fr.rf⟩
    rw [f_X2_warmBoards_2.eq_2, h6, if_pos (nI_le (Nat.le_refl _) (by omega))]
  | succ j ih =>
    intro b k M g hb hk hI hR
    obtain ⟨k, rfl⟩ : ∃ q, k = q + 1 := ⟨k - 1, by omega⟩
    have h31 := hI.2.2.1
    have h6 : M p 6 = nI l := hR.2.2.2.1.2.1.trans hI.2.1
    have hRb := hR.2.2.2.2 b (by omega)
    have e2 : M (p + 4) (b * 22 + 2) = g (56 + 21 * b + 2) := hRb.1 2 (by omega) (by omega)
    have h6' : (nI l ≤ nI b) = False := eq_false (fun h => absurd ((nI_leI (by omega) (by omega)).mp h) (by omega))
    have hJ : gInv (gWm b g) l := gWm_inv (by omega) hI
    rw [f_X2_warmBoards_2.eq_2]
    by_cases hon : g (56 + 21 * b + 2) = 0
    · obtain ⟨B1, B2, h1, h2, h3⟩ := c_step (n := n) hI hR (by omega) hon
      have hwm : gWm b g = gWarm b g := if_pos hon
      rw [← hwm] at h3
      obtain ⟨M', h4, h5, h7⟩ := ih (b + 1) k _ (gWm b g) (by omega) (by omega) hJ h3
      refine ⟨M', ?_, h5, Fr.tr (Fr.up (by omega)) h7⟩
      rw [← h4]
      simp (disch := omega) only [ix_al, ix_ar, ix_ml, ix_mr, ix_cl, ix_cll, ix_n0, ix_l0, ix_nge, or_self, ↓reduceIte, ↓ix_let, ix_bs, up_s, bx_uu, h6, h6', e2, hon, ↓bnd h1, ↓bnd h2, f_X2_warmBoards_36]
    · have hwm : gWm b g = g := if_neg hon
      obtain ⟨M', h4, h5, h7⟩ := ih (b + 1) k M g (by omega) (by omega) hI hR
      refine ⟨M', ?_, by show Ro p M' (pif gWm (b + 1) j (gWm b g)) l; rw [hwm]; exact h5, h7⟩
      rw [← h4]
      simp (disch := omega) only [ix_al, ix_ar, ix_ml, ix_mr, ix_cl, ix_cll, ix_n0, ix_l0, ix_nge, or_self, ↓reduceIte, ↓ix_let, ix_bs, up_s, bx_uu, h6, h6', e2, hon, f_X2_warmBoards_36]
theorem c_by {n p l : Nat} (hn : 40 ≤ n) {M : vv_M} {g : Nat → Int32} (hI : gInv g l) (hR : Ro p M g l) : f_X2_weightForSlower n p M = some (gBy g l, M) := by
  have h31 := hI.2.2.1
  have h6 : M p 6 = nI l := hR.2.2.2.1.2.1.trans hI.2.1
  have st : ∀ (j b k : Nat), b + j = l → j < k → f_X2_weightForSlower_4 n k p (gBy g b) (nI b) M = some (gBy g l, M) := by
    intro j
    induction j with
    | zero =>
      intro b k hb hk
      obtain ⟨k, rfl⟩ : ∃ q, k = q + 1 := ⟨k - 1, by omega⟩
      obtain rfl : b = l := by omega
      rw [f_X2_weightForSlower_4.eq_2, h6, if_pos (nI_le (Nat.le_refl _) (by omega))]
    | succ j ih =>
      intro b k hb hk
      obtain ⟨k, rfl⟩ : ∃ q, k = q + 1 := ⟨k - 1, by omega⟩
      have hRb := hR.2.2.2.2 b (by omega)
      have e2 : M (p + 4) (b * 22 + 2) = g (56 + 21 * b + 2) := hRb.1 2 (by omega) (by omega)
      have e1 : M (p + 4) (b * 22 + 1) = g (56 + 21 * b + 1) := hRb.1 1 (by omega) (by omega)
      have e9 : M (p + 4) (b * 22 + 9) = g (56 + 21 * b + 9) := hRb.1 9 (by omega) (by omega)
      have h6' : (nI l ≤ nI b) = False := eq_false (fun h => absurd ((nI_leI (by omega) (by omega)).mp h) (by omega))
      have hi := ih (b + 1) k (by omega) (by omega)
      simp only [gBy] at hi
      rw [f_X2_weightForSlower_4.eq_2]
      simp (disch := omega) only [ix_al, ix_ar, ix_ml, ix_mr, ix_cl, ix_cll, ix_n0, ix_l0, ix_nge, or_self, ↓reduceIte, ↓ix_let, ix_bs, up_s, bx_uu, h6, h6', e2, e1, e9, f_X2_weightForSlower_79]
      refine ife (fun h => ?_) (fun h => ?_)
      · rw [if_pos h] at hi
        refine ife (fun h2 => ?_) (fun h2 => ?_)
        · rw [if_pos h2] at hi
          exact hi
        · rw [if_neg h2] at hi
          refine ife (fun h3 => ?_) (fun h3 => ?_)
          · rw [if_pos h3] at hi
            rw [Int32.sub_eq_add_neg]
            exact hi
          · rw [if_neg h3] at hi
            exact hi
      · rw [if_neg h] at hi
        exact hi
  exact st l 0 n (by omega) (by omega)
/-- a number of the belt and a count, on both sides -/
theorem Ro_num {p l i j : Nat} {M : vv_M} {g : Nat → Int32} {v w : Int32} (hij : i = 7 ∧ j = 54 ∨ i = 8 ∧ j = 55) (h : Ro p M g l) : Ro p (va_up (va_up M (p + 3) (upd (M (p + 3)) 0 v)) p (upd (M p) i w)) (upd (upd g 48 v) j w) l := by
  obtain ⟨h1, h2, h3, ⟨h4, h5, h6, h7⟩, h8⟩ := h
  refine ⟨fun k hk => ?_, fun k hk => ?_, fun k hk => ?_, ?_, fun b hb => ?_⟩
  · rw [up_n (by omega), up_n (by omega), ud_ne (by omega), ud_ne (by omega)]; exact h1 k hk
  · rw [up_n (by omega), up_n (by omega), ud_ne (by omega), ud_ne (by omega)]; exact h2 k hk
  · have e48 : upd (upd g 48 v) j w (48 + k) = upd g 48 v (48 + k) := ud_ne (by omega)
    rw [up_n (by omega), up_s, e48]
    by_cases hk0 : k = 0
    · subst hk0
      rw [ud_s, show 48 + 0 = 48 from rfl, ud_s]
    · rw [ud_ne hk0, ud_ne (by omega)]; exact h3 k hk
  · rw [up_s]
    rcases hij with ⟨rfl, rfl⟩ | ⟨rfl, rfl⟩
    · simp (disch := omega) only [ud_ne, ud_s]; exact ⟨h4, h5, trivial, h7⟩
    · simp (disch := omega) only [ud_ne, ud_s]; exact ⟨h4, h5, h6, trivial⟩
  · rw [up_n (by omega), up_n (by omega)]
    exact Rb_congr (h8 b hb) (fun j hj => rfl) (fun j hj => by rw [ud_ne (by omega), ud_ne (by omega)]) (fun x => gZone_congr (fun q hq => by rw [ud_ne (by omega), ud_ne (by omega)]) x)
theorem Ro_tick {p l : Nat} {M : vv_M} {g : Nat → Int32} {v : Int32} (h : Ro p M g l) : Ro p (va_up M p (upd (M p) 5 v)) (upd g 52 v) l := by
  obtain ⟨h1, h2, h3, ⟨h4, h5, h6, h7⟩, h8⟩ := h
  refine ⟨fun k hk => ?_, fun k hk => ?_, fun k hk => ?_, ?_, fun b hb => ?_⟩
  · rw [up_n (by omega), ud_ne (by omega)]; exact h1 k hk
  · rw [up_n (by omega), ud_ne (by omega)]; exact h2 k hk
  · rw [up_n (by omega), ud_ne (by omega)]; exact h3 k hk
  · rw [up_s]
    simp (disch := omega) only [ud_ne, ud_s]; exact ⟨trivial, h5, h6, h7⟩
  · rw [up_n (by omega)]
    exact Rb_congr (h8 b hb) (fun j hj => rfl) (fun j hj => by rw [ud_ne (by omega)]) (fun x => gZone_congr (fun q hq => by rw [ud_ne (by omega)]) x)
theorem Fr.up0 {p : Nat} {M : vv_M} {r : Nat → Int32} : Fr p M (va_up M p r) := fun q hq => up_n (by omega)
theorem c_hear56 {n p l : Nat} {M : vv_M} {g : Nat → Int32} (x : Int32) (hR : Ro p M g l) : ∃ M', f_X2_hearPleas_56 n p (g 50) (g 48) x M = some ((), M') ∧ Ro p M' (gHear2 x g) l ∧ Fr p M M' := by
  unfold f_X2_hearPleas_56 gHear2
  by_cases h1 : -x < g 50
  · rw [if_pos h1, if_pos h1]
    exact ⟨M, rfl, hR, Fr.rf⟩
  · rw [if_neg h1, if_neg h1]
    by_cases h2 : 3 ≤ g 48
    · rw [if_pos h2, if_pos h2]
      exact ⟨M, rfl, hR, Fr.rf⟩
    · rw [if_neg h2, if_neg h2]
      have e8 := hR.2.2.2.1.2.2.2
      refine ⟨_, ?_, Ro_num (i := 8) (j := 55) (v := g 48 + 1) (w := g 55 + 1) (Or.inr ⟨rfl, rfl⟩) hR, Fr.tr (Fr.up (by omega)) Fr.up0⟩
      simp (disch := omega) only [ix_cll, ix_l0, ix_nge, or_self, ↓reduceIte, ↓ix_let, up_n, e8]
theorem c_hear {n p l : Nat} (hn : 40 ≤ n) {M : vv_M} {g : Nat → Int32} (hI : gInv g l) (hR : Ro p M g l) : ∃ M', f_X2_hearPleas n p M = some ((), M') ∧ Ro p M' (gHear l g) l ∧ Fr p M M' := by
  have e2 : M (p + 3) 2 = g 50 := hR.2.2.1 2 (by omega)
  have e0 : M (p + 3) 0 = g 48 := hR.2.2.1 0 (by omega)
  have e7 := hR.2.2.2.1.2.2.1
  have hby := c_by hn hI hR
  have hq : ∀ {o : Option (Unit × vv_M)} {P : vv_M → Prop} (o' : Option (Unit × vv_M)), o = o' → (∃ M', o' = some ((), M') ∧ P M') → ∃ M', o = some ((), M') ∧ P M' := by
    intro o P o' h1 h2
    rw [h1]; exact h2
  refine hq (if g 50 = 0 then some ((), M) else if gBy g l < g 50 then f_X2_hearPleas_56 n p (g 50) (g 48) (gBy g l) M else if g 48 ≤ 1 then f_X2_hearPleas_56 n p (g 50) (g 48) (gBy g l) M else some ((), va_up (va_up M (p + 3) (upd (M (p + 3)) 0 (g 48 - 1))) p (upd (M p) 7 (g 54 + 1)))) ?_ ?_
  · unfold f_X2_hearPleas
    simp (disch := omega) only [ix_cll, ix_l0, ix_nge, or_self, ↓reduceIte, ↓ix_let, up_n, e2, e0, ↓bnd hby, e7]
  · unfold gHear
    by_cases h0 : g 50 = 0
    · rw [if_pos h0, if_pos h0]
      exact ⟨M, rfl, hR, Fr.rf⟩
    · rw [if_neg h0, if_neg h0]
      by_cases h1 : gBy g l < g 50
      · rw [if_pos h1, if_pos h1]
        exact c_hear56 _ hR
      · rw [if_neg h1, if_neg h1]
        by_cases h2 : g 48 ≤ 1
        · rw [if_pos h2, if_pos h2]
          exact c_hear56 _ hR
        · rw [if_neg h2, if_neg h2]
          exact ⟨_, rfl, Ro_num (i := 7) (j := 54) (Or.inl ⟨rfl, rfl⟩) hR, Fr.tr (Fr.up (by omega)) Fr.up0⟩
theorem gHeat_hi {g : Nat → Int32} {l z i : Nat} (hz : z < 6) (hi : 24 ≤ i) : gHeat l z g i = g i := ud_ne (by omega)
theorem gWm_out {g : Nat → Int32} {b i : Nat} (h : gOut b i) : gWm b g i = g i := by
  unfold gWm
  split
  · exact gWarm_out h
  · rfl
theorem gWm_2 {g : Nat → Int32} {b q : Nat} : gWm b g (56 + 21 * q + 2) = g (56 + 21 * q + 2) := by
  unfold gWm
  split
  · by_cases hq : q = b
    · subst hq
      exact gWarm_col (by omega)
    · exact gWarm_out (by unfold gOut; omega)
  · rfl
theorem gHear_hi {g : Nat → Int32} {l i : Nat} (hi : 56 ≤ i) : gHear l g i = g i := by
  unfold gHear gHear2
  split
  · rfl
  split
  · split
    · rfl
    split
    · rfl
    rw [ud_ne (by omega), ud_ne (by omega)]
  split
  · split
    · rfl
    split
    · rfl
    rw [ud_ne (by omega), ud_ne (by omega)]
  rw [ud_ne (by omega), ud_ne (by omega)]
/-- the boards' states after a tick are those after the moving -/
theorem gTick_2 {g : Nat → Int32} {l q : Nat} : gTick l g (56 + 21 * q + 2) = pif gMv 0 l g (56 + 21 * q + 2) := by
  unfold gTick gTk
  rw [ud_ne (by omega), gHear_hi (by omega)]
  have h1 := pif_inv (F := gWm) (P := fun a => a (56 + 21 * q + 2) = pif (gHeat l) 0 6 (pif gMv 0 l g) (56 + 21 * q + 2)) (l := l) (fun b a _ h => gWm_2.trans h) l 0 _ (by omega) rfl
  have h2 := pif_inv (F := gHeat l) (P := fun a => a (56 + 21 * q + 2) = pif gMv 0 l g (56 + 21 * q + 2)) (l := 6) (fun b a hb h => (gHeat_hi hb (by omega)).trans h) 6 0 _ (by omega) rfl
  exact h1.trans h2
theorem c_tick {n p l : Nat} (hn : 40 ≤ n) {M : vv_M} {g : Nat → Int32} (hI : gInv g l) (hR : Ro p M g l) : ∃ M', f_X2_letOnePass n p M = some (gMany (gTick l g) 1 l - gMany g 1 l, M') ∧ Ro p M' (gTick l g) l ∧ Fr p M M' := by
  have h31 := hI.2.2.1
  have hL := hI.1
  have hI1 := pif_inv (P := fun g => gInv g l) (fun b a hb h => gMv_inv hb h) l 0 _ (by omega) hI
  have hI2 := pif_inv (P := fun g => gInv g l) (l := 6) (fun b a hb h => gHeat_inv h hb) 6 0 _ (by omega) hI1
  have hI3 := pif_inv (P := fun g => gInv g l) (fun b a hb h => gWm_inv hb h) l 0 _ (by omega) hI2
  have hb := c_belt (n := n) (p := p) M hR.1 hL (by omega)
  obtain ⟨M1, a1, a2, a3⟩ := c_moveBoards (L := gPre g 6) hn l 0 n 0 M g (by omega) (by omega) hI hR rfl
  obtain ⟨M2, b1, b2, b3⟩ := c_changeWarmths hn hI1 a2
  obtain ⟨M3, d1, d2, d3⟩ := c_warmBoards hn l 0 n M2 _ (by omega) (by omega) hI2 b2
  obtain ⟨M4, e1, e2, e3⟩ := c_hear hn hI3 d2
  have h52 := e2.2.2.2.1.1
  refine ⟨va_up M4 p (upd (M4 p) 5 (gHear l (pif gWm 0 l (pif (gHeat l) 0 6 (pif gMv 0 l g))) 52 + 1)), ?_, Ro_tick e2, Fr.tr (Fr.tr (Fr.tr (Fr.tr a3 b3) d3) e3) Fr.up0⟩
  unfold f_X2_letOnePass f_X2_moveBoards f_X2_warmBoards
  have a1' : f_X2_moveBoards_9 n n p (nI (gPre g 6)) 0 0 M = some (0 + (gMany (pif gMv 0 l g) 1 l - gMany g 1 l), M1) := a1
  have d1' : f_X2_warmBoards_2 n n p 0 M2 = some ((), M3) := d1
  rw [bnd hb, ix_let, bnd a1', ix_let, bnd b1, bnd d1', bnd e1, ix_let, Int32.zero_add, gMany_congr (g := pif gMv 0 l g) (g' := gTick l g) (fun b _ => gTick_2)]
  have h52' : M4 p 5 = gHear l (pif gWm 0 l (pif (gHeat l) 0 6 (pif gMv 0 l g))) 52 := h52
  rw [← h52']
