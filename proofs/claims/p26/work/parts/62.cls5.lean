/-! warm and judgeOnBelt -/
def cWarmA (B : Nat → Int32) (b : Nat) (rise deg c1 : Int32) : Nat → Int32 := if deg ≤ c1 then upd (upd (upd B (b * 22 + 5) rise) (b * 22 + 4) deg) (b * 22 + 6) (if deg ≤ B (b * 22 + 6) then B (b * 22 + 6) else deg) else upd (upd (upd (upd B (b * 22 + 5) rise) (b * 22 + 4) deg) (b * 22 + 6) (if deg ≤ B (b * 22 + 6) then B (b * 22 + 6) else deg)) (b * 22 + 7) (B (b * 22 + 7) + 1)
theorem c_warm {n p b c z w : Nat} (M : vv_M) (hb : b ≤ 30) (hc : M (p + 4) (b * 22 + 0) = nI c) (h4 : c < 4) (hz : M (p + 4) (b * 22 + 11) = nI z) (hz6 : z < 6) (hw : M (p + 4) (b * 22 + 1) = nI w) (hw9 : w ≤ 9) (rise : Int32) (hr : rise = (M (p + 1) (z * 4 + 3) - M (p + 4) (b * 22 + 4)) / nI (w + 1)) : f_X2_warm n p (nI (b * 22)) M = some ((), va_up M (p + 4) (cWarmA (M (p + 4)) b rise (M (p + 4) (b * 22 + 4) + rise) (M (p + 2) (c * 6 + 1)))) := by
  unfold f_X2_warm f_X2_warm_59
  simp (disch := omega) only [ix_al, ix_ar, ix_ml, ix_mr, ix_cl, ix_cll, ix_n0, ix_l0, ix_nge, or_self, ↓reduceIte, ↓ix_let, ix_bs, up_s, bx_uu, up_n, hz, hw, i32_ne0, ← hr, max_i, hc, ud_ne]
  unfold cWarmA
  refine ife (fun h => ?_) (fun h => ?_)
  · rw [if_pos h]
  · rw [if_neg h]
theorem Rb_warmA {B g : Nat → Int32} {b c : Nat} {rise deg c1 : Int32} (h : Rb B g b) (hon : g (56 + 21 * b + 2) = 0) (h1 : c1 = g (24 + 6 * c + 1)) : Rb (cWarmA B b rise deg c1) (gWarmA g b c rise deg) b := by
  obtain ⟨a1, a2, a3, a4⟩ := h
  have e6 := a1 6 (by omega) (by omega)
  have e7 := a1 7 (by omega) (by omega)
  have hgc : ∀ v1 v2 v3 v4 : Int32, gcell (upd (upd (upd (upd g (56 + 21 * b + 5) v1) (56 + 21 * b + 4) v2) (56 + 21 * b + 6) v3) (56 + 21 * b + 7) v4) b = gcell g b := by
    intro v1 v2 v3 v4
    unfold gcell
    simp (disch := omega) only [ud_ne]
  have hgz : ∀ (v1 v2 v3 v4 : Int32) (x : Nat), gZone (upd (upd (upd (upd g (56 + 21 * b + 5) v1) (56 + 21 * b + 4) v2) (56 + 21 * b + 6) v3) (56 + 21 * b + 7) v4) x = gZone g x := by
    intro v1 v2 v3 v4 x
    exact gZone_congr (fun z hz => by simp (disch := omega) only [ud_ne]) x
  have hB : ∀ i, i ≠ b * 22 + 5 → i ≠ b * 22 + 4 → i ≠ b * 22 + 6 → i ≠ b * 22 + 7 → cWarmA B b rise deg c1 i = B i := by
    intro i h1 h2 h3 h4
    unfold cWarmA
    split
    · rw [ud_ne h3, ud_ne h2, ud_ne h1]
    · rw [ud_ne h4, ud_ne h3, ud_ne h2, ud_ne h1]
  unfold gWarmA
  refine ⟨fun j hj h9 => ?_, fun h5 => ?_, fun h5 => ?_, fun k hk => ?_⟩
  · by_cases j5 : j = 5
    · subst j5
      unfold cWarmA
      split <;> simp (disch := omega) only [ud_ne, ud_s]
    by_cases j4 : j = 4
    · subst j4
      unfold cWarmA
      split <;> simp (disch := omega) only [ud_ne, ud_s]
    by_cases j6 : j = 6
    · subst j6
      unfold cWarmA
      rw [e6]
      split <;> simp (disch := omega) only [ud_ne, ud_s]
    by_cases j7 : j = 7
    · subst j7
      unfold cWarmA
      rw [e7, h1]
      split
      · rename_i hd
        rw [gLe_p hd, ud_s, ud_ne (by omega), ud_ne (by omega), ud_ne (by omega), e7, Int32.add_zero]
      · rename_i hd
        rw [gLe_n hd, ud_s, ud_s]
    · rw [hB _ (by omega) (by omega) (by omega) (by omega)]
      simp (disch := omega) only [ud_ne]
      exact a1 j hj h9
  · rw [hB _ (by omega) (by omega) (by omega) (by omega), hB _ (by omega) (by omega) (by omega) (by omega), hgc, hgz]
    simp (disch := omega) only [ud_ne]
    exact a2 hon
  · simp (disch := omega) only [ud_ne] at h5
    exact absurd hon h5
  · rw [hB _ (by omega) (by omega) (by omega) (by omega), hB _ (by omega) (by omega) (by omega) (by omega)]
    simp (disch := omega) only [ud_ne]
    exact a4 k hk
def cPlea (rise c0 above c3 : Int32) : Int32 := if rise ≤ c0 then (if above ≤ c3 then 0 else 2) else 1
def cJudge (B : Nat → Int32) (t : Int32) (b : Nat) (c0 c3 c5 : Int32) : Nat → Int32 := upd (cF (B (b * 22 + 4) ≤ c5) (cF (B (b * 22 + 5) ≤ c0) (cF (B (b * 22 + 7) ≤ c3) B t b 1 (B (b * 22 + 3))) t b 0 (B (b * 22 + 3))) t b 2 (B (b * 22 + 3))) (b * 22 + 9) (cPlea (B (b * 22 + 5)) c0 (B (b * 22 + 7)) c3)
theorem c_j83 {n p b c : Nat} {B : Nat → Int32} (cell pl : Int32) (M : vv_M) (hb : b ≤ 30) (h4 : c < 4) : f_X2_judgeOnBelt_83 n p (nI (b * 22)) (nI (c * 6)) cell pl (va_up M (p + 4) B) = some ((), va_up M (p + 4) (upd (cF (B (b * 22 + 4) ≤ M (p + 2) (c * 6 + 5)) B (M p 5) b 2 cell) (b * 22 + 9) pl)) := by
  unfold f_X2_judgeOnBelt_83 f_X2_judgeOnBelt_109 cF
  simp (disch := omega) only [ix_al, ix_ar, ix_ml, ix_mr, ix_cl, ix_cll, ix_n0, ix_l0, ix_nge, or_self, ↓reduceIte, ↓ix_let, ix_bs, up_s, bx_uu, up_n, ↓bnd (c_nf2 _ _ hb), c_nf2 _ _ hb]
  refine ife (fun h => ?_) (fun h => ?_)
  · rw [if_pos h]
  · rw [if_neg h]
theorem c_j54 {n p b c : Nat} {B : Nat → Int32} (cell pl : Int32) (M : vv_M) (hb : b ≤ 30) (h4 : c < 4) : f_X2_judgeOnBelt_54 n p (nI (b * 22)) (nI (c * 6)) cell pl (va_up M (p + 4) B) = some ((), va_up M (p + 4) (upd (cF (B (b * 22 + 4) ≤ M (p + 2) (c * 6 + 5)) (cF (B (b * 22 + 5) ≤ M (p + 2) (c * 6 + 0)) B (M p 5) b 0 cell) (M p 5) b 2 cell) (b * 22 + 9) (if B (b * 22 + 5) ≤ M (p + 2) (c * 6 + 0) then pl else 1))) := by
  unfold f_X2_judgeOnBelt_54
  simp (disch := omega) only [ix_al, ix_ar, ix_ml, ix_mr, ix_cl, ix_cll, ix_n0, ix_l0, ix_nge, or_self, ↓reduceIte, ↓ix_let, ix_bs, up_s, bx_uu, up_n, ↓bnd (c_nf0 _ _ hb), c_nf0 _ _ hb, c_j83 _ _ _ hb h4]
  refine ife (fun h => ?_) (fun h => ?_)
  · have hx : cF (B (b * 22 + 5) ≤ M (p + 2) (c * 6 + 0)) B (M p 5) b 0 cell = B := if_pos h
    rw [hx, if_pos h]
  · have hx : cF (B (b * 22 + 5) ≤ M (p + 2) (c * 6 + 0)) B (M p 5) b 0 cell = cFault B (M p 5) b 0 cell := if_neg h
    rw [hx, if_neg h, cFault_ne (by omega) (by omega) (by omega)]
theorem c_judge {n p b c : Nat} {B : Nat → Int32} (M : vv_M) (hb : b ≤ 30) (hc : B (b * 22 + 0) = nI c) (h4 : c < 4) : f_X2_judgeOnBelt n p (nI (b * 22)) (va_up M (p + 4) B) = some ((), va_up M (p + 4) (cJudge B (M p 5) b (M (p + 2) (c * 6 + 0)) (M (p + 2) (c * 6 + 3)) (M (p + 2) (c * 6 + 5)))) := by
  unfold f_X2_judgeOnBelt
  simp (disch := omega) only [ix_al, ix_ar, ix_ml, ix_mr, ix_cl, ix_cll, ix_n0, ix_l0, ix_nge, or_self, ↓reduceIte, ↓ix_let, ix_bs, up_s, bx_uu, up_n, hc, ↓bnd (c_nf1 _ _ hb), c_nf1 _ _ hb, c_j54 _ _ _ hb h4]
  unfold cJudge cPlea
  refine ife (fun h => ?_) (fun h => ?_)
  · have hx : cF (B (b * 22 + 7) ≤ M (p + 2) (c * 6 + 3)) B (M p 5) b 1 (B (b * 22 + 3)) = B := if_pos h
    rw [hx, if_pos h]
  · have hx : cF (B (b * 22 + 7) ≤ M (p + 2) (c * 6 + 3)) B (M p 5) b 1 (B (b * 22 + 3)) = cFault B (M p 5) b 1 (B (b * 22 + 3)) := if_neg h
    rw [hx, if_neg h, cFault_ne (by omega) (by omega) (by omega), cFault_ne (by omega) (by omega) (by omega)]
theorem gFault_8 {g : Nat → Int32} {x c : Int32} {b κ k : Nat} (hκ : κ < 5) (hk : k < 5) (hne : k ≠ κ) : gbit (gFault g x b κ c (56 + 21 * b + 8)) k ↔ gbit (g (56 + 21 * b + 8)) k := by
  unfold gFault
  split
  · exact Iff.rfl
  split
  · exact Iff.rfl
  rw [ud_ne (by omega), ud_ne (by omega), ud_s, gbit_or (by omega) (by omega)]
  exact ⟨fun h => h.resolve_right hne, Or.inl⟩
theorem ud_comm {f : Nat → Int32} {i j : Nat} {v w : Int32} (h : i ≠ j) : upd (upd f i v) j w = upd (upd f j w) i v := by
  funext q
  by_cases h1 : q = i
  · subst h1
    rw [ud_ne h, ud_s, ud_s]
  · by_cases h2 : q = j
    · subst h2
      rw [ud_s, ud_ne h1, ud_s]
    · rw [ud_ne h2, ud_ne h1, ud_ne h1, ud_ne h2]
theorem gFault_comm {g : Nat → Int32} {x y c d : Int32} {b : Nat} : gFault (gFault g x b 0 c) y b 1 d = gFault (gFault g y b 1 d) x b 0 c := by
  by_cases hx : x = 0
  · have e : ∀ G, gFault G x b 0 c = G := fun G => if_pos hx
    rw [e, e]
  by_cases hy : y = 0
  · have e : ∀ G, gFault G y b 1 d = G := fun G => if_pos hy
    rw [e, e]
  by_cases h0 : gbit (g (56 + 21 * b + 8)) 0
  · have e : ∀ G : Nat → Int32, gbit (G (56 + 21 * b + 8)) 0 → gFault G x b 0 c = G := fun G hG => by
      unfold gFault
      rw [if_neg hx, if_pos hG]
    rw [e g h0, e _ ((gFault_8 (by omega) (by omega) (by omega)).mpr h0)]
  by_cases h1 : gbit (g (56 + 21 * b + 8)) 1
  · have e : ∀ G : Nat → Int32, gbit (G (56 + 21 * b + 8)) 1 → gFault G y b 1 d = G := fun G hG => by
      unfold gFault
      rw [if_neg hy, if_pos hG]
    rw [e g h1, e _ ((gFault_8 (by omega) (by omega) (by omega)).mpr h1)]
  have e0 : ∀ G : Nat → Int32, ¬ gbit (G (56 + 21 * b + 8)) 0 → gFault G x b 0 c = upd (upd (upd G (56 + 21 * b + 8) (G (56 + 21 * b + 8) ||| ((1 : Int32) <<< (nI 0 &&& 31)))) (56 + 21 * b + (11 + 0)) c) (56 + 21 * b + (16 + 0)) (G 52) := fun G hG => by
    unfold gFault
    rw [if_neg hx, if_neg hG]
  have e1 : ∀ G : Nat → Int32, ¬ gbit (G (56 + 21 * b + 8)) 1 → gFault G y b 1 d = upd (upd (upd G (56 + 21 * b + 8) (G (56 + 21 * b + 8) ||| ((1 : Int32) <<< (nI 1 &&& 31)))) (56 + 21 * b + (11 + 1)) d) (56 + 21 * b + (16 + 1)) (G 52) := fun G hG => by
    unfold gFault
    rw [if_neg hy, if_neg hG]
  rw [e1 (gFault g x b 0 c) (fun h => h1 ((gFault_8 (by omega) (by omega) (by omega)).mp h)), e0 (gFault g y b 1 d) (fun h => h0 ((gFault_8 (by omega) (by omega) (by omega)).mp h)), e0 g h0, e1 g h1]
  funext q
  generalize hA : (1 : Int32) <<< (nI 0 &&& 31) = A
  generalize hB : (1 : Int32) <<< (nI 1 &&& 31) = B
  by_cases q8 : q = 56 + 21 * b + 8
  · subst q8
    simp (disch := omega) only [ud_ne, ud_s]
    exact or_comm3 _ _ _
  by_cases q11 : q = 56 + 21 * b + (11 + 0)
  · subst q11
    simp (disch := omega) only [ud_ne, ud_s]
  by_cases q12 : q = 56 + 21 * b + (11 + 1)
  · subst q12
    simp (disch := omega) only [ud_ne, ud_s]
  by_cases q16 : q = 56 + 21 * b + (16 + 0)
  · subst q16
    simp (disch := omega) only [ud_ne, ud_s]
  by_cases q17 : q = 56 + 21 * b + (16 + 1)
  · subst q17
    simp (disch := omega) only [ud_ne, ud_s]
  simp (disch := assumption) only [ud_ne]
theorem gLe_0 {x y : Int32} : (gLe x y = 0) = (x ≤ y) := by
  unfold gLe
  by_cases h : x ≤ y
  · rw [if_pos h]; simp [h]
  · rw [if_neg h]; simp [h]
theorem cPlea_eq {a b c d : Int32} : cPlea a b c d = gPlea (gLe a b) (gLe c d) := by
  unfold cPlea gPlea
  by_cases h : a ≤ b
  · rw [if_pos h, if_pos (gLe_p h)]
    by_cases h2 : c ≤ d
    · rw [if_pos h2, if_pos (gLe_p h2)]
    · rw [if_neg h2, if_neg (by rw [gLe_n h2]; decide)]
  · rw [if_neg h, if_neg (by rw [gLe_n h]; decide)]
theorem Rb_judge {B G : Nat → Int32} {b c : Nat} {t c0 c3 c5 : Int32} (h : Rb B G b) (hon : G (56 + 21 * b + 2) = 0) (ht : t = G 52) (h0 : c0 = G (24 + 6 * c + 0)) (h3 : c3 = G (24 + 6 * c + 3)) (h5 : c5 = G (24 + 6 * c + 5)) : Rb (cJudge B t b c0 c3 c5) (gWarmB G b c (G (56 + 21 * b + 3)) (G (56 + 21 * b + 4)) (gLe (G (56 + 21 * b + 5)) (G (24 + 6 * c + 0))) (gLe (G (56 + 21 * b + 7)) (G (24 + 6 * c + 3)))) b := by
  have h' := h
  obtain ⟨a1, a2, a3, a4⟩ := h'
  unfold cJudge gWarmB
  rw [a1 4 (by omega) (by omega), a1 5 (by omega) (by omega), a1 7 (by omega) (by omega), (a2 hon).1, ← h0, ← h3, ← h5, gFault_comm, cPlea_eq]
  have hk := Rb_F (P := G (56 + 21 * b + 4) ≤ c5) (c := G (56 + 21 * b + 3)) (κ := 2) (t := t) (Rb_F (P := G (56 + 21 * b + 5) ≤ c0) (c := G (56 + 21 * b + 3)) (κ := 0) (t := t) (Rb_F (P := G (56 + 21 * b + 7) ≤ c3) (c := G (56 + 21 * b + 3)) (κ := 1) h (by omega) ht) (by omega) (by rw [gFault_ne (by omega) (by omega) (by omega)]; exact ht)) (by omega) (by rw [gFault_ne (by omega) (by omega) (by omega), gFault_ne (by omega) (by omega) (by omega)]; exact ht)
  show Rb (upd _ (b * 22 + 9) _) (upd (gFault (gFault (gFault G (gLe (G (56 + 21 * b + 7)) c3) b 1 _) (gLe (G (56 + 21 * b + 5)) c0) b 0 _) (gLe (G (56 + 21 * b + 4)) c5) b 2 _) _ _) b
  unfold gLe at hk ⊢
  generalize gFault (gFault (gFault G (if G (56 + 21 * b + 7) ≤ c3 then 0 else 1) b 1 (G (56 + 21 * b + 3))) (if G (56 + 21 * b + 5) ≤ c0 then 0 else 1) b 0 (G (56 + 21 * b + 3))) (if G (56 + 21 * b + 4) ≤ c5 then 0 else 1) b 2 (G (56 + 21 * b + 3)) = H at hk ⊢
  generalize cF (G (56 + 21 * b + 4) ≤ c5) (cF (G (56 + 21 * b + 5) ≤ c0) (cF (G (56 + 21 * b + 7) ≤ c3) B t b 1 (G (56 + 21 * b + 3))) t b 0 (G (56 + 21 * b + 3))) t b 2 (G (56 + 21 * b + 3)) = K at hk ⊢
  generalize gPlea _ _ = v
  obtain ⟨b1, b2, b3, b4⟩ := hk
  have hgc : gcell (upd H (56 + 21 * b + 9) v) b = gcell H b := by
    unfold gcell
    rw [ud_ne (by omega)]
  have hgz : ∀ x, gZone (upd H (56 + 21 * b + 9) v) x = gZone H x := fun x => gZone_congr (fun z hz => by rw [ud_ne (by omega)]) x
  refine ⟨fun j hj h9 => ?_, fun q => ?_, fun q => ?_, fun k hk => ?_⟩
  · by_cases j9 : j = 9
    · subst j9
      rw [ud_s, ud_s]
    · rw [ud_ne (by omega), ud_ne (by omega)]
      exact b1 j hj h9
  · rw [ud_ne (by omega)] at q
    rw [ud_ne (by omega), ud_ne (by omega), ud_ne (by omega), hgc, hgz]
    exact b2 q
  · rw [ud_ne (by omega)] at q
    rw [ud_ne (by omega)]
    exact b3 q
  · simp (disch := omega) only [ud_ne]
    exact b4 k hk
