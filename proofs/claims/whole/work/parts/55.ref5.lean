
def gLe (x y : Int32) : Int32 := if x ≤ y then 0 else 1
def gWarmA (g : Nat → Int32) (b c : Nat) (rise deg : Int32) : Nat → Int32 := upd (upd (upd (upd g (56 + 21 * b + 5) rise) (56 + 21 * b + 4) deg) (56 + 21 * b + 6) (if deg ≤ g (56 + 21 * b + 6) then g (56 + 21 * b + 6) else deg)) (56 + 21 * b + 7) (g (56 + 21 * b + 7) + gLe deg (g (24 + 6 * c + 1)))
def gPlea (steep long : Int32) : Int32 := if steep = 0 then (if long = 0 then 0 else 2) else 1
def gWarmB (G : Nat → Int32) (b c : Nat) (cell deg steep long : Int32) : Nat → Int32 := upd (gFault (gFault (gFault G steep b 0 cell) long b 1 cell) (gLe deg (G (24 + 6 * c + 5))) b 2 cell) (56 + 21 * b + 9) (gPlea steep long)
def gRise (g : Nat → Int32) (b : Nat) : Int32 := (g (0 + 4 * gZone g (gcell g b) + 3) - g (56 + 21 * b + 4)) / (g (56 + 21 * b + 1) + 1)
def gWarm (b : Nat) (g : Nat → Int32) : Nat → Int32 := gWarmB (gWarmA g b (gcv g b) (gRise g b) (g (56 + 21 * b + 4) + gRise g b)) b (gcv g b) (g (56 + 21 * b + 3)) (g (56 + 21 * b + 4) + gRise g b) (gLe (gRise g b) (g (24 + 6 * gcv g b + 0))) (gLe (g (56 + 21 * b + 7) + gLe (g (56 + 21 * b + 4) + gRise g b) (g (24 + 6 * gcv g b + 1))) (g (24 + 6 * gcv g b + 3)))
theorem gLe_p {x y : Int32} (h : x ≤ y) : gLe x y = 0 := if_pos h
theorem gLe_n {x y : Int32} (h : ¬ x ≤ y) : gLe x y = 1 := if_neg h
theorem r_w274 {n p j : Nat} (x : Int32) (M : vv_M) (hj : j < 13445) : f_X5_warmUp_274 n (p + 1) (nI j) x M = some ((), va_up M (p + 1) (upd (M (p + 1)) j x)) := by
  unfold f_X5_warmUp_274
  simp (disch := omega) only [ix_al, ix_ar, ix_ml, ix_mr, ix_cl, ix_cll, ix_n0, ix_l0, ix_nge, or_self, if_false, if_true, ix_let, ix_bs, up_s, bx_uu]
theorem r_w239 {n p b : Nat} (cell x5 x6 s1 : Int32) (M : vv_M) (hb : b ≤ 31) : f_X5_warmUp_239 n p (nI b) cell x5 x6 p s1 M = some ((), va_up M (p + 1) (upd (gFault (M (p + 1)) s1 b 2 cell) (56 + 21 * b + 9) (gPlea x5 x6))) := by
  unfold f_X5_warmUp_239 gPlea
  simp (disch := omega) only [ix_al, ix_ar, ix_ml, ix_mr, ix_cl, ix_cll, ix_n0, ix_l0, ix_nge, or_self, if_false, if_true, ix_let, ix_bs, up_s, bx_uu, r_fault, r_of, r_w274]
  by_cases h1 : x5 = 0
  · rw [if_pos h1, if_pos h1]
    by_cases h2 : x6 = 0
    · rw [if_pos h2, if_pos h2]
    · rw [if_neg h2, if_neg h2]
  · rw [if_neg h1, if_neg h1]
theorem r_w202 {n p b c : Nat} (cell deg x5 s0 : Int32) {M : vv_M} {G : Nat → Int32} (hb : b ≤ 31) (hc : G (56 + 21 * b + 0) = nI c) (h4 : c < 4) : f_X5_warmUp_202 n p (nI b) cell deg x5 s0 (va_up M (p + 1) G) = some ((), va_up M (p + 1) (gWarmB G b c cell deg x5 s0)) := by
  unfold f_X5_warmUp_202 gWarmB
  simp (disch := omega) only [ix_al, ix_ar, ix_ml, ix_mr, ix_cl, ix_cll, ix_n0, ix_l0, ix_nge, or_self, if_false, if_true, ix_let, ix_bs, up_s, bx_uu, r_fault]
  rw [r_curveU (c := c) hb (by omega) (by rw [gFault_ne (by omega) (by omega) (by omega), gFault_ne (by omega) (by omega) (by omega)]; exact hc) h4]
  simp (disch := omega) only [ix_al, ix_ar, ix_ml, ix_mr, ix_cl, ix_cll, ix_n0, ix_l0, ix_nge, or_self, if_false, if_true, ix_let, ix_bs, up_s, bx_uu, r_w239, gFault_ne]
  refine ife (fun h => ?_) (fun h => ?_)
  · rw [gLe_p h]
  · rw [gLe_n h]
theorem r_w175 {n p b c : Nat} (cell deg s0 : Int32) {M : vv_M} {G : Nat → Int32} (hb : b ≤ 31) (hc : G (56 + 21 * b + 0) = nI c) (h4 : c < 4) : f_X5_warmUp_175 n p (nI b) cell deg s0 (va_up M (p + 1) G) = some ((), va_up M (p + 1) (gWarmB G b c cell deg s0 (gLe (G (56 + 21 * b + 7)) (G (24 + 6 * c + 3))))) := by
  unfold f_X5_warmUp_175
  simp (disch := omega) only [ix_al, ix_ar, ix_ml, ix_mr, ix_cl, ix_cll, ix_n0, ix_l0, ix_nge, or_self, if_false, if_true, ix_let, ix_bs, up_s, bx_uu, r_of]
  rw [r_curveU (c := c) hb (by omega) hc h4]
  simp (disch := omega) only [ix_al, ix_ar, ix_ml, ix_mr, ix_cl, ix_cll, ix_n0, ix_l0, ix_nge, or_self, if_false, if_true, ix_let, ix_bs, up_s, bx_uu]
  refine ife (fun h => ?_) (fun h => ?_)
  · rw [r_w202 _ _ _ _ hb hc h4, gLe_p h]
  · rw [r_w202 _ _ _ _ hb hc h4, gLe_n h]
theorem r_w158 {n p b c : Nat} (cell rise deg s3 : Int32) {M : vv_M} {G : Nat → Int32} (hb : b ≤ 31) (hc : G (56 + 21 * b + 0) = nI c) (h4 : c < 4) (s2 : Int32) : f_X5_warmUp_158 n p (nI b) cell rise deg (p + 1) (nI (56 + 21 * b + 7)) s2 s3 (va_up M (p + 1) G) = some ((), va_up M (p + 1) (gWarmB (upd G (56 + 21 * b + 7) (s2 + s3)) b c cell deg (gLe rise (G (24 + 6 * c + 0))) (gLe (s2 + s3) (G (24 + 6 * c + 3))))) := by
  unfold f_X5_warmUp_158
  simp (disch := omega) only [ix_al, ix_ar, ix_ml, ix_mr, ix_cl, ix_cll, ix_n0, ix_l0, ix_nge, or_self, if_false, if_true, ix_let, ix_bs, up_s, bx_uu]
  have hc' : upd G (56 + 21 * b + 7) (s2 + s3) (56 + 21 * b + 0) = nI c := by rw [ud_ne (by omega)]; exact hc
  rw [r_curveU (c := c) hb (by omega) hc' h4]
  simp (disch := omega) only [ix_al, ix_ar, ix_ml, ix_mr, ix_cl, ix_cll, ix_n0, ix_l0, ix_nge, or_self, if_false, if_true, ix_let, ix_bs, up_s, bx_uu, ud_ne]
  refine ife (fun h => ?_) (fun h => ?_)
  · rw [r_w175 _ _ _ hb hc' h4, gLe_p h]
    simp (disch := omega) only [ud_ne, ud_s]
  · rw [r_w175 _ _ _ hb hc' h4, gLe_n h]
    simp (disch := omega) only [ud_ne, ud_s]
theorem r_w129 {n p b c : Nat} (cell rise deg : Int32) {M : vv_M} {G : Nat → Int32} (hb : b ≤ 31) (hc : G (56 + 21 * b + 0) = nI c) (h4 : c < 4) (s2 : Int32) : f_X5_warmUp_129 n p (nI b) cell rise deg (p + 1) (nI (56 + 21 * b + 6)) s2 (va_up M (p + 1) G) = some ((), va_up M (p + 1) (gWarmB (upd (upd G (56 + 21 * b + 6) s2) (56 + 21 * b + 7) (G (56 + 21 * b + 7) + gLe deg (G (24 + 6 * c + 1)))) b c cell deg (gLe rise (G (24 + 6 * c + 0))) (gLe (G (56 + 21 * b + 7) + gLe deg (G (24 + 6 * c + 1))) (G (24 + 6 * c + 3))))) := by
  unfold f_X5_warmUp_129
  simp (disch := omega) only [ix_al, ix_ar, ix_ml, ix_mr, ix_cl, ix_cll, ix_n0, ix_l0, ix_nge, or_self, if_false, if_true, ix_let, ix_bs, up_s, bx_uu, r_of]
  have hc' : upd G (56 + 21 * b + 6) s2 (56 + 21 * b + 0) = nI c := by rw [ud_ne (by omega)]; exact hc
  rw [r_curveU (c := c) hb (by omega) hc' h4]
  simp (disch := omega) only [ix_al, ix_ar, ix_ml, ix_mr, ix_cl, ix_cll, ix_n0, ix_l0, ix_nge, or_self, if_false, if_true, ix_let, ix_bs, up_s, bx_uu, ud_ne]
  refine ife (fun h => ?_) (fun h => ?_)
  · rw [r_w158 _ _ _ _ hb hc' h4, gLe_p h]
    simp (disch := omega) only [ud_ne]
  · rw [r_w158 _ _ _ _ hb hc' h4, gLe_n h]
    simp (disch := omega) only [ud_ne]
theorem i32_ne0 {w : Nat} (h : w < 100) : (nI (w + 1) = 0) = False := by
  rw [show (0 : Int32) = nI 0 from rfl, ix_eq (by omega) (by omega)]
  exact eq_false (by omega)
theorem r_w87 {n p b c : Nat} (cell rise deg : Int32) {M : vv_M} {G : Nat → Int32} (hb : b ≤ 31) (hc : G (56 + 21 * b + 0) = nI c) (h4 : c < 4) : f_X5_warmUp_87 n p (nI b) cell rise deg (va_up M (p + 1) G) = some ((), va_up M (p + 1) (gWarmB (upd (upd G (56 + 21 * b + 6) (if deg ≤ G (56 + 21 * b + 6) then G (56 + 21 * b + 6) else deg)) (56 + 21 * b + 7) (G (56 + 21 * b + 7) + gLe deg (G (24 + 6 * c + 1)))) b c cell deg (gLe rise (G (24 + 6 * c + 0))) (gLe (G (56 + 21 * b + 7) + gLe deg (G (24 + 6 * c + 1))) (G (24 + 6 * c + 3))))) := by
  unfold f_X5_warmUp_87
  simp (disch := omega) only [ix_al, ix_ar, ix_ml, ix_mr, ix_cl, ix_cll, ix_n0, ix_l0, ix_nge, or_self, ↓reduceIte, ↓ix_let, ix_bs, up_s, bx_uu, ↓r_of_b]
  refine ife (fun h => ?_) (fun h => ?_)
  · rw [r_w129 _ _ _ hb hc h4, if_pos h]
  · rw [r_w129 _ _ _ hb hc h4, if_neg h]
theorem r_w50 {n p b c : Nat} (cell rise : Int32) (M : vv_M) (hb : b ≤ 31) (hc : M (p + 1) (56 + 21 * b + 0) = nI c) (h4 : c < 4) (deg : Int32) (hd : M (p + 1) (56 + 21 * b + 4) + rise = deg) : f_X5_warmUp_50 n p (nI b) cell rise M = some ((), va_up M (p + 1) (gWarmB (gWarmA (M (p + 1)) b c rise deg) b c cell deg (gLe rise (M (p + 1) (24 + 6 * c + 0))) (gLe (M (p + 1) (56 + 21 * b + 7) + gLe deg (M (p + 1) (24 + 6 * c + 1))) (M (p + 1) (24 + 6 * c + 3))))) := by
  unfold f_X5_warmUp_50
  simp (disch := omega) only [ix_al, ix_ar, ix_ml, ix_mr, ix_cl, ix_cll, ix_n0, ix_l0, ix_nge, or_self, ↓reduceIte, ↓ix_let, ix_bs, up_s, bx_uu, ↓r_of_b, hd]
  have hc' : upd (upd (M (p + 1)) (56 + 21 * b + 5) rise) (56 + 21 * b + 4) deg (56 + 21 * b + 0) = nI c := by
    rw [ud_ne (by omega), ud_ne (by omega)]; exact hc
  rw [r_w87 _ _ _ hb hc' h4]
  unfold gWarmA
  simp (disch := omega) only [ud_ne]
theorem r_warmUp {n p l b : Nat} (M : vv_M) (hI : gInv (M (p + 1)) l) (hn : 40 ≤ n) (hb : b < l) (hon : M (p + 1) (56 + 21 * b + 2) = 0) : f_X5_warmUp n p (nI b) M = some ((), va_up M (p + 1) (gWarm b (M (p + 1)))) := by
  obtain ⟨hL, hl, h31, -, -, hB⟩ := hI
  obtain ⟨⟨c, h4, hc⟩, ⟨w, hw1, hw2, hw⟩, hcell, -⟩ := hB b hb
  obtain ⟨e1, e2⟩ := hcell hon
  have h6 := gPre_6 hL
  have h7 := gZone_lt (M (p + 1)) (gcell (M (p + 1)) b)
  have hz := r_zoneOf (n := n) M hL e2 (by omega)
  have hcv : gcv (M (p + 1)) b = c := gcv_eq hc h4
  have hr : gRise (M (p + 1)) b = (M (p + 1) (0 + 4 * gZone (M (p + 1)) (gcell (M (p + 1)) b) + 3) - M (p + 1) (56 + 21 * b + 4)) / nI (w + 1) := by
    unfold gRise
    rw [hw, ix_al]
  unfold gWarm
  rw [hcv, hr, e1]
  unfold f_X5_warmUp
  simp (disch := omega) only [ix_al, ix_ar, ix_ml, ix_mr, ix_cl, ix_cll, ix_n0, ix_l0, ix_nge, or_self, ↓reduceIte, ↓ix_let, ix_bs, up_s, bx_uu, ↓r_of_b, e1, ↓bnd hz, ↓r_ofZ_b, hw, i32_ne0]
  rw [r_w50 _ _ _ (by omega) hc h4 _ rfl]
