/-! moveBoards -/
def gEq2 (l : Nat) (g g' : Nat → Int32) : Prop := ∀ b, b < l → g' (56 + 21 * b + 2) = g (56 + 21 * b + 2)
theorem gMany_congr {g g' : Nat → Int32} {s : Int32} : ∀ {l : Nat}, gEq2 l g g' → gMany g' s l = gMany g s l := by
  intro l
  induction l with
  | zero => intro _; rfl
  | succ l ih =>
    intro h
    show gMany g' s l + (if g' (56 + 21 * l + 2) = s then 1 else 0) = gMany g s l + (if g (56 + 21 * l + 2) = s then 1 else 0)
    rw [ih (fun b hb => h b (by omega)), h l (by omega)]
theorem gMany_one {g g' : Nat → Int32} {s : Int32} {b : Nat} (h : ∀ q, q ≠ b → g' (56 + 21 * q + 2) = g (56 + 21 * q + 2)) : ∀ {l : Nat}, b < l → gMany g' s l = gMany g s l + ((if g' (56 + 21 * b + 2) = s then 1 else 0) - (if g (56 + 21 * b + 2) = s then 1 else 0)) := by
  intro l
  induction l with
  | zero => intro h; omega
  | succ l ih =>
    intro hb
    show gMany g' s l + (if g' (56 + 21 * l + 2) = s then 1 else 0) = gMany g s l + (if g (56 + 21 * l + 2) = s then 1 else 0) + _
    by_cases hl : b = l
    · subst hl
      rw [gMany_congr (g := g) (g' := g') (fun q hq => h q (by omega))]
      generalize (if g' (56 + 21 * b + 2) = s then (1 : Int32) else 0) = u
      generalize (if g (56 + 21 * b + 2) = s then (1 : Int32) else 0) = v
      generalize gMany g s b = w
      grind
    · rw [ih (by omega), h l (fun e => hl e.symm)]
      rw [Int32.add_assoc, Int32.add_comm (_ - _), ← Int32.add_assoc]
theorem b_le_31 {l b : Nat} (h31 : l ≤ 31) (hb : b < l) : b ≤ 30 := by omega
theorem gGoOn_z {g : Nat → Int32} {b x : Nat} : gZone (gGoOn g b) x = gZone g x := gZone_congr (fun z hz => gGoOn_out (Or.inl (by omega))) x
theorem gMv_out {g : Nat → Int32} {b i : Nat} (h : gOut b i) : gMv b g i = g i := by
  unfold gMv
  split
  · exact gGoOn_out h
  · rfl
theorem gMv_many {g : Nat → Int32} {l b : Nat} (hb : b < l) : gMany (gMv b g) 1 l = gMany g 1 l + ((if gMv b g (56 + 21 * b + 2) = 1 then 1 else 0) - (if g (56 + 21 * b + 2) = 1 then 1 else 0)) := gMany_one (fun q hq => gMv_out (by unfold gOut; omega)) hb
theorem c_moveBoards {n p l L : Nat} (hn : 40 ≤ n) : ∀ (j b k : Nat) (x : Int32) (M : vv_M) (g : Nat → Int32), b + j = l → j < k → gInv g l → Ro p M g l → gPre g 6 = L → ∃ M', f_X2_moveBoards_9 n k p (nI L) x (nI b) M = some (x + (gMany (pif gMv b j g) 1 l - gMany g 1 l), M') ∧ Ro p M' (pif gMv b j g) l ∧ Fr p M M' := by
  intro j
  induction j with
  | zero =>
    intro b k x M g hb hk hI hR hP
    obtain ⟨k, rfl⟩ : ∃ q, k = q + 1 := ⟨k - 1, by omega⟩
    obtain rfl : b = l := by omega
    have h31 := hI.2.2.1
    have h6 : M p 6 = nI b := hR.2.2.2.1.2.1.trans hI.2.1
    refine ⟨M, ?_, hR, Fr.rf⟩
    rw [f_X2_moveBoards_9.eq_2, h6, if_pos (nI_le (Nat.le_refl _) (by omega))]
    show _ = some (x + (gMany g 1 b - gMany g 1 b), M)
    rw [Int32.sub_self, Int32.add_zero]
  | succ j ih =>
    intro b k x M g hb hk hI hR hP
    obtain ⟨k, rfl⟩ : ∃ q, k = q + 1 := ⟨k - 1, by omega⟩
    have h31 := hI.2.2.1
    have hb30 : b ≤ 30 := by omega
    have h6 : M p 6 = nI l := hR.2.2.2.1.2.1.trans hI.2.1
    obtain ⟨⟨c, hc4, hc⟩, -, hcell, -⟩ := hI.2.2.2.2.2 b (by omega)
    have hRb := hR.2.2.2.2 b (by omega)
    have hp6 := gPre_6 hI.1
    have e2 : M (p + 4) (b * 22 + 2) = g (56 + 21 * b + 2) := hRb.1 2 (by omega) (by omega)
    have e0 : M (p + 4) (b * 22 + 0) = nI c := (hRb.1 0 (by omega) (by omega)).trans hc
    obtain ⟨s, hs, hs1, hs3⟩ := hI.2.2.2.1
    have e48 : M (p + 3) 0 = nI s := (hR.2.2.1 0 (by omega)).trans hs
    have hcv : gcv g b = c := gcv_eq hc hc4
    have hJ : gInv (gMv b g) l := gMv_inv (by omega) hI
    have hPP : gPre (gMv b g) 6 = L := (gPre_congr (fun z hz => gMv_out (Or.inl (by omega))) 6 (by omega)).trans hP
    rw [f_X2_moveBoards_9.eq_2]
    show ∃ M', _ = some (x + (gMany (pif gMv (b + 1) j (gMv b g)) 1 l - gMany g 1 l), M') ∧ Ro p M' (pif gMv (b + 1) j (gMv b g)) l ∧ Fr p M M'
    by_cases hon : g (56 + 21 * b + 2) = 0
    · obtain ⟨q1, q2⟩ := hcell hon
      have e3 : M (p + 4) (b * 22 + 3) = nI (gcell g b) := (hRb.2.1 hon).1.trans q1
      have hmv : gMv b g = gGoOn g b := if_pos hon
      by_cases hlt : gcell g b + s < L
      · have hB : Ro p (va_up M (p + 4) (upd (upd (M (p + 4)) (b * 22 + 3) (nI (gcell g b + s))) (b * 22 + 11) (nI (gZone g (gcell g b + s))))) (gMv b g) l := by
          rw [hmv]
          refine Ro_board (b := b) hR (fun i hi => gGoOn_out hi) (fun i hi => by unfold bOut at hi; rw [ud_ne (by omega), ud_ne (by omega)]) ?_
          have hg : gGoOn g b = upd g (56 + 21 * b + 3) (nI (gcell g b + s)) := by
            unfold gGoOn
            rw [gBelt_nI hI.1, q1, hs, nI_add, hP, if_pos ((nI_ltI (by omega) (by omega)).mpr hlt)]
          have hz : ∀ y, gZone (upd g (56 + 21 * b + 3) (nI (gcell g b + s))) y = gZone g y := fun y => gZone_congr (fun z hz => ud_ne (by omega)) y
          rw [hg]
          obtain ⟨a1, a2, a3, a4⟩ := hRb
          refine ⟨fun j hj h9 => ?_, fun h5 => ?_, fun h5 => ?_, fun k hk => ?_⟩
          · simp (disch := omega) only [ud_ne]
            exact a1 j hj h9
          · have ec : gcell (upd g (56 + 21 * b + 3) (nI (gcell g b + s))) b = gcell g b + s := by
              show (upd g (56 + 21 * b + 3) (nI (gcell g b + s)) (56 + 21 * b + 3)).toNatClampNeg = _
              rw [ud_s, ix_cl (by omega)]
            rw [ec, hz, ud_ne (by omega), ud_s, ud_s, ud_s]
            exact ⟨rfl, rfl⟩
          · simp (disch := omega) only [ud_ne] at h5
            exact absurd hon h5
          · simp (disch := omega) only [ud_ne]
            exact a4 k hk
        obtain ⟨M', h1, h2, h3⟩ := ih (b + 1) k x _ (gMv b g) (by omega) (by omega) hJ hB hPP
        refine ⟨M', ?_, h2, Fr.tr (Fr.up (by omega)) h3⟩
        have hz := c_zoneAt (n := n) (p := p) (c := gcell g b + s) (g := g) (va_up M (p + 4) (upd (M (p + 4)) (b * 22 + 3) (nI (gcell g b + s)))) (fun k hk => by rw [up_n (by omega)]; exact hR.1 k hk) hI.1 (by omega) (by omega)
        have hlt' : (nI L ≤ nI (gcell g b + s)) = False := eq_false (fun h => absurd ((nI_leI (by omega) (by omega)).mp h) (by omega))
        have h6' : (nI l ≤ nI b) = False := eq_false (fun h => absurd ((nI_leI (by omega) (by omega)).mp h) (by omega))
        simp (disch := omega) only [ix_al, ix_ar, ix_ml, ix_mr, ix_cl, ix_cll, ix_n0, ix_l0, ix_nge, or_self, ↓reduceIte, ↓ix_let, ix_bs, up_s, bx_uu, h6, h6', e2, hon, e3, e48, nI_add, hlt', ↓bnd hz, f_X2_moveBoards_86, f_X2_moveBoards_99]
        rw [h1, gMv_many (by omega)]
        have h0 : gMv b g (56 + 21 * b + 2) = 0 := by
          rw [hmv]
          unfold gGoOn
          rw [gBelt_nI hI.1, q1, hs, nI_add, hP, if_pos ((nI_ltI (by omega) (by omega)).mpr hlt), ud_ne (by omega), hon]
        rw [h0, hon, Int32.sub_self, Int32.add_zero]
      · have hg : gGoOn g b = gLeft (upd g (56 + 21 * b + 3) (nI (gcell g b + s))) b (nI L) := by
          unfold gGoOn
          rw [gBelt_nI hI.1, q1, hs, nI_add, hP, if_neg (fun h => hlt ((nI_ltI (by omega) (by omega)).mp h))]
        have hB : Ro p (va_up M (p + 4) (cLeave (M (p + 4)) (M p 5) (M (p + 2) (c * 6 + 2)) (M (p + 2) (c * 6 + 4)) b (nI L))) (gMv b g) l := by
          rw [hmv]
          refine Ro_board (b := b) hR (fun i hi => gGoOn_out hi) (fun i hi => cLeave_out hi) ?_
          rw [hg]
          refine Rb_leave hRb hon hR.2.2.2.1.1 ?_ ?_ (by omega)
          · rw [hR.2.1 _ (by omega)]
            unfold gC
            rw [hcv, show 24 + (c * 6 + 2) = 24 + 6 * c + 2 by omega]
          · rw [hR.2.1 _ (by omega)]
            unfold gC
            rw [hcv, show 24 + (c * 6 + 4) = 24 + 6 * c + 4 by omega]
        obtain ⟨M', h1, h2, h3⟩ := ih (b + 1) k (x + 1) _ (gMv b g) (by omega) (by omega) hJ hB hPP
        refine ⟨M', ?_, h2, Fr.tr (Fr.up (by omega)) h3⟩
        have hlt' : (nI L ≤ nI (gcell g b + s)) = True := eq_true ((nI_leI (by omega) (by omega)).mpr (by omega))
        have h6' : (nI l ≤ nI b) = False := eq_false (fun h => absurd ((nI_leI (by omega) (by omega)).mp h) (by omega))
        have hl := c_leave (n := n) (p := p) (nI L) M hb30 e0 hc4
        simp (disch := omega) only [ix_al, ix_ar, ix_ml, ix_mr, ix_cl, ix_cll, ix_n0, ix_l0, ix_nge, or_self, ↓reduceIte, ↓ix_let, ix_bs, up_s, bx_uu, h6, h6', e2, hon, e3, e48, nI_add, hlt', ↓bnd hl, f_X2_moveBoards_86, f_X2_moveBoards_99]
        rw [h1, gMv_many (by omega)]
        have h0 : gMv b g (56 + 21 * b + 2) = 1 := by
          rw [hmv, hg]
          unfold gLeft
          rw [gFault_ne (by omega) (by omega) (by omega), gFault_ne (by omega) (by omega) (by omega), ud_ne (by omega), ud_s]
        rw [h0, hon, if_pos rfl, if_neg (by decide)]
        have e : ∀ u v w : Int32, u + 1 + (v - (w + (1 - 0))) = u + (v - w) := by
          intro u v w
          grind
        rw [e]
    · have hmv : gMv b g = g := if_neg hon
      rw [hmv]
      obtain ⟨M', h1, h2, h3⟩ := ih (b + 1) k x M g (by omega) (by omega) hI hR hP
      refine ⟨M', ?_, h2, h3⟩
      have h6' : (nI l ≤ nI b) = False := eq_false (fun h => absurd ((nI_leI (by omega) (by omega)).mp h) (by omega))
      simp (disch := omega) only [ix_al, ix_ar, ix_ml, ix_mr, ix_cl, ix_cll, ix_n0, ix_l0, ix_nge, or_self, ↓reduceIte, ↓ix_let, ix_bs, up_s, bx_uu, h6, h6', e2, hon, f_X2_moveBoards_99]
      exact h1
