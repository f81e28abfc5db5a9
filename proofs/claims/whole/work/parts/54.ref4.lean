
def gcv (g : Nat → Int32) (b : Nat) : Nat := (g (56 + 21 * b + 0)).toNatClampNeg
def gC (g : Nat → Int32) (b k : Nat) : Int32 := g (24 + 6 * gcv g b + k)
theorem gcv_eq {g : Nat → Int32} {b c : Nat} (h : g (56 + 21 * b + 0) = nI c) (h4 : c < 4) : gcv g b = c := by
  unfold gcv
  rw [h, ix_cl (by omega)]
theorem gFault_ne {g : Nat → Int32} {x c : Int32} {b k j : Nat} (h1 : j ≠ 56 + 21 * b + 8) (h2 : j ≠ 56 + 21 * b + (11 + k)) (h3 : j ≠ 56 + 21 * b + (16 + k)) : gFault g x b k c j = g j := by
  unfold gFault
  split
  · rfl
  split
  · rfl
  rw [ud_ne h3, ud_ne h2, ud_ne h1]
theorem r_curveU {n p b k c : Nat} {M : vv_M} {G : Nat → Int32} (hb : b ≤ 31) (hk : OfNat.ofNat k < 6) (hc : G (56 + 21 * b + 0) = nI c) (h4 : c < 4) : f_X5_curveOf n p (nI b) (no_index (OfNat.ofNat k)) (va_up M (p + 1) G) = some (G (24 + 6 * c + OfNat.ofNat k), va_up M (p + 1) G) := by
  rw [r_curveOf (c := c) _ hb hk (by rw [up_s]; exact hc) h4, up_s]
def gLeft (g : Nat → Int32) (b : Nat) (e : Int32) : Nat → Int32 := gFault (gFault (upd (upd g (56 + 21 * b + 2) 1) (56 + 21 * b + 10) (g 52)) (if gC g b 2 ≤ g (56 + 21 * b + 7) then 0 else 1) b 3 e) (if gC g b 4 ≤ g (56 + 21 * b + 6) then 0 else 1) b 4 e
def gGoOn (g : Nat → Int32) (b : Nat) : Nat → Int32 := if g (56 + 21 * b + 3) + g 48 < gBelt g then upd g (56 + 21 * b + 3) (g (56 + 21 * b + 3) + g 48) else gLeft (upd g (56 + 21 * b + 3) (g (56 + 21 * b + 3) + g 48)) b (gBelt g)
theorem r_goOn {n p b c : Nat} (M : vv_M) (hn : 40 ≤ n) (hb : b ≤ 31) (hc : M (p + 1) (56 + 21 * b + 0) = nI c) (h4 : c < 4) : f_X5_goOn n p (nI b) M = some ((), va_up M (p + 1) (gGoOn (M (p + 1)) b)) := by
  generalize hg : M (p + 1) = g at hc
  unfold f_X5_goOn f_X5_goOn_39 gGoOn
  simp (disch := omega) only [ix_al, ix_ar, ix_ml, ix_mr, ix_cl, ix_cll, ix_n0, ix_l0, ix_nge, or_self, if_false, if_true, ix_let, ix_bs, up_s, bx_uu, r_belt (n := n) (show 7 ≤ n by omega), r_of, hg, ud_s, ud_ne]
  by_cases h : g (56 + 21 * b + 3) + g 48 < gBelt g
  · rw [if_pos h, if_pos h]
  · rw [if_neg h, if_neg h]
    have hcv : gcv (upd g (56 + 21 * b + 3) (g (56 + 21 * b + 3) + g 48)) b = c := gcv_eq (by rw [ud_ne (by omega)]; exact hc) h4
    rw [r_curveU (c := c) hb (by omega) (by simp (disch := omega) only [ud_ne, hc]) h4]
    unfold gLeft gC
    rw [hcv]
    have e2 : ∀ (s : Int32) (G : Nat → Int32), G (56 + 21 * b + 0) = nI c → f_X5_goOn_94 n p (nI b) (gBelt g) p s (va_up M (p + 1) G) = some ((), va_up M (p + 1) (gFault (gFault G s b 3 (gBelt g)) (if G (24 + 6 * c + 4) ≤ G (56 + 21 * b + 6) then 0 else 1) b 4 (gBelt g))) := by
      intro s G hG
      unfold f_X5_goOn_94 f_X5_goOn_126
      simp (disch := omega) only [ix_al, ix_ar, ix_ml, ix_mr, ix_cl, ix_cll, ix_n0, ix_l0, ix_nge, or_self, if_false, if_true, ix_let, ix_bs, up_s, bx_uu, r_fault, r_of]
      rw [r_curveU (c := c) hb (by omega) (by rw [gFault_ne (by omega) (by omega) (by omega)]; exact hG) h4]
      simp (disch := omega) only [ix_al, ix_ar, ix_ml, ix_mr, ix_cl, ix_cll, ix_n0, ix_l0, ix_nge, or_self, if_false, if_true, ix_let, ix_bs, up_s, bx_uu, r_fault, gFault_ne]
      by_cases h9 : G (24 + 6 * c + 4) ≤ G (56 + 21 * b + 6)
      · rw [if_pos h9, if_pos h9]
      · rw [if_neg h9, if_neg h9]
    simp (disch := omega) only [ix_al, ix_ar, ix_ml, ix_mr, ix_cl, ix_cll, ix_n0, ix_l0, ix_nge, or_self, if_false, if_true, ix_let, ix_bs, up_s, bx_uu, ud_ne]
    by_cases h8 : g (24 + 6 * c + 2) ≤ g (56 + 21 * b + 7)
    · rw [if_pos h8, if_pos h8, e2 _ _ (by simp (disch := omega) only [ud_ne, hc])]
      simp (disch := omega) only [ud_ne]
    · rw [if_neg h8, if_neg h8, e2 _ _ (by simp (disch := omega) only [ud_ne, hc])]
      simp (disch := omega) only [ud_ne]
/-- a zone's warmth, by the weight in it -/
def gNew (w t q : Int32) : Int32 := if t ≤ (if 20 ≤ w then w else 20) then (if (if 20 ≤ w then w else 20) - q ≤ t then t else (if 20 ≤ w then w else 20) - q) else if t ≤ (if 20 ≤ w then w else 20) + q then t else (if 20 ≤ w then w else 20) + q
def gHeat (l : Nat) (z : Nat) (g : Nat → Int32) : Nat → Int32 := upd g (0 + 4 * z + 3) (gNew (g (0 + 4 * z + 3) - g 51 * gW g z l / 5) (g (0 + 4 * z + 1)) (g (0 + 4 * z + 2)))
theorem r_heat105 {n p z : Nat} (x : Int32) (M : vv_M) (hz : z < 6) : f_X5_heat_105 n p (nI z) x M = some ((), va_up M (p + 1) (upd (M (p + 1)) (0 + 4 * z + 3) x)) := by
  unfold f_X5_heat_105
  simp (disch := omega) only [ix_al, ix_ar, ix_ml, ix_mr, ix_cl, ix_cll, ix_n0, ix_l0, ix_nge, or_self, if_false, if_true, ix_let, ix_bs, up_s, bx_uu, r_ofZ]
theorem r_heat62 {n p z : Nat} (t q w : Int32) (M : vv_M) (hz : z < 6) : f_X5_heat_62 n p (nI z) t q w M = some ((), va_up M (p + 1) (upd (M (p + 1)) (0 + 4 * z + 3) (if t ≤ w then (if w - q ≤ t then t else w - q) else if t ≤ w + q then t else w + q))) := by
  unfold f_X5_heat_62 f_X5_heat_84 f_X5_heat_104
  simp only [r_heat105 _ _ hz]
  split
  · split <;> rfl
  · split <;> rfl
theorem r_heat {n p l z : Nat} (M : vv_M) (hI : gInv (M (p + 1)) l) (hn : 40 ≤ n) (hz : z < 6) : f_X5_heat n p (nI z) M = some ((), va_up M (p + 1) (gHeat l z (M (p + 1)))) := by
  unfold f_X5_heat gHeat
  have h5 : ((5 : Int32) = 0) = False := by decide
  simp (disch := omega) only [ix_al, ix_ar, ix_ml, ix_mr, ix_cl, ix_cll, ix_n0, ix_l0, ix_nge, or_self, if_false, if_true, ix_let, ix_bs, up_s, bx_uu, r_ofZ, r_weightsIn M hI hn hz, h5, f_X5_heat_38, r_heat62]
  unfold gNew
  generalize M (p + 1) (0 + 4 * z + 3) - M (p + 1) 51 * gW (M (p + 1)) z l / 5 = w
  by_cases h1 : (20 : Int32) ≤ w
  · simp only [if_pos h1]
  · simp only [if_neg h1]
