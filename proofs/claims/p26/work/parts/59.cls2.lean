/-! a board on both sides -/
def bOut (b i : Nat) : Prop := i < b * 22 ∨ b * 22 + 22 ≤ i
theorem Ro_board {p l b : Nat} {M : vv_M} {g g' B' : Nat → Int32} (h : Ro p M g l) (hg : ∀ i, gOut b i → g' i = g i) (hB : ∀ i, bOut b i → B' i = M (p + 4) i) (hb : Rb B' g' b) : Ro p (va_up M (p + 4) B') g' l := by
  obtain ⟨h1, h2, h3, ⟨h4, h5, h6, h7⟩, h8⟩ := h
  have e : ∀ i, i < 56 → g' i = g i := fun i hi => hg i (Or.inl (by omega))
  refine ⟨fun k hk => ?_, fun k hk => ?_, fun k hk => ?_, ⟨?_, ?_, ?_, ?_⟩, fun q hq => ?_⟩
  · rw [up_n (by omega), e k (by omega)]; exact h1 k hk
  · rw [up_n (by omega), e _ (by omega)]; exact h2 k hk
  · rw [up_n (by omega), e _ (by omega)]; exact h3 k hk
  · rw [up_n (by omega), e _ (by omega)]; exact h4
  · rw [up_n (by omega), e _ (by omega)]; exact h5
  · rw [up_n (by omega), e _ (by omega)]; exact h6
  · rw [up_n (by omega), e _ (by omega)]; exact h7
  · rw [up_s]
    by_cases hqb : q = b
    · rw [hqb]; exact hb
    · exact Rb_congr (h8 q hq) (fun j hj => hB _ (by unfold bOut; omega)) (fun j hj => hg _ (by unfold gOut; omega)) (fun x => gZone_congr (fun z hz => e _ (by omega)) x)
theorem cFault_out {B : Nat → Int32} {t c : Int32} {b κ i : Nat} (hκ : κ < 5) (h : bOut b i) : cFault B t b κ c i = B i := by
  unfold bOut at h
  exact cFault_ne (by omega) (by omega) (by omega)
def cF (P : Prop) [Decidable P] (B : Nat → Int32) (t : Int32) (b κ : Nat) (c : Int32) : Nat → Int32 := if P then B else cFault B t b κ c
theorem cF_out {P : Prop} [Decidable P] {B : Nat → Int32} {t c : Int32} {b κ i : Nat} (hκ : κ < 5) (h : bOut b i) : cF P B t b κ c i = B i := by
  unfold cF
  split
  · rfl
  · exact cFault_out hκ h
theorem cF_ne {P : Prop} [Decidable P] {B : Nat → Int32} {t c : Int32} {b κ j : Nat} (h1 : j ≠ b * 22 + 8) (h2 : j ≠ b * 22 + (12 + κ)) (h3 : j ≠ b * 22 + (17 + κ)) : cF P B t b κ c j = B j := by
  unfold cF
  split
  · rfl
  · exact cFault_ne h1 h2 h3
theorem Rb_F {P : Prop} [Decidable P] {B g : Nat → Int32} {t : Int32} {b κ : Nat} {c : Int32} (h : Rb B g b) (hκ : κ < 5) (ht : t = g 52) : Rb (cF P B t b κ c) (gFault g (if P then 0 else 1) b κ c) b := by
  rw [gFault_10, ht]
  unfold cF
  by_cases hp : P
  · rw [if_pos hp, if_pos hp]; exact h
  · rw [if_neg hp, if_neg hp]; exact Rb_fault h hκ
def cLeave0 (B : Nat → Int32) (t : Int32) (b : Nat) : Nat → Int32 := upd (upd (upd B (b * 22 + 2) 1) (b * 22 + 3) (-1009)) (b * 22 + 10) t
def cLeave (B : Nat → Int32) (t c2 c4 : Int32) (b : Nat) (e : Int32) : Nat → Int32 := cF (c4 ≤ B (b * 22 + 6)) (cF (c2 ≤ B (b * 22 + 7)) (cLeave0 B t b) t b 3 e) t b 4 e
theorem c_nf3 {n p b : Nat} (c : Int32) (M : vv_M) (hb : b ≤ 30) : f_X2_noteFault n p (nI (b * 22)) 3 c M = some ((), va_up M (p + 4) (cFault (M (p + 4)) (M p 5) b 3 c)) := c_noteFault (κ := 3) c M hb (by omega)
theorem c_nf4 {n p b : Nat} (c : Int32) (M : vv_M) (hb : b ≤ 30) : f_X2_noteFault n p (nI (b * 22)) 4 c M = some ((), va_up M (p + 4) (cFault (M (p + 4)) (M p 5) b 4 c)) := c_noteFault (κ := 4) c M hb (by omega)
theorem c_nf0 {n p b : Nat} (c : Int32) (M : vv_M) (hb : b ≤ 30) : f_X2_noteFault n p (nI (b * 22)) 0 c M = some ((), va_up M (p + 4) (cFault (M (p + 4)) (M p 5) b 0 c)) := c_noteFault (κ := 0) c M hb (by omega)
theorem c_nf1 {n p b : Nat} (c : Int32) (M : vv_M) (hb : b ≤ 30) : f_X2_noteFault n p (nI (b * 22)) 1 c M = some ((), va_up M (p + 4) (cFault (M (p + 4)) (M p 5) b 1 c)) := c_noteFault (κ := 1) c M hb (by omega)
theorem c_nf2 {n p b : Nat} (c : Int32) (M : vv_M) (hb : b ≤ 30) : f_X2_noteFault n p (nI (b * 22)) 2 c M = some ((), va_up M (p + 4) (cFault (M (p + 4)) (M p 5) b 2 c)) := c_noteFault (κ := 2) c M hb (by omega)
theorem c_leave72 {n p b c : Nat} {B : Nat → Int32} (e : Int32) (M : vv_M) (hb : b ≤ 30) (h4 : c < 4) : f_X2_leave_72 n p (nI (b * 22)) e (nI (c * 6)) (va_up M (p + 4) B) = some ((), va_up M (p + 4) (cF (M (p + 2) (c * 6 + 4) ≤ B (b * 22 + 6)) B (M p 5) b 4 e)) := by
  unfold f_X2_leave_72 cF
  simp (disch := omega) only [ix_al, ix_ar, ix_ml, ix_mr, ix_cl, ix_cll, ix_n0, ix_l0, ix_nge, or_self, ↓reduceIte, ↓ix_let, ix_bs, up_s, bx_uu, up_n, ↓bnd (c_nf4 _ _ hb), c_nf4 _ _ hb]
  refine ife (fun h => ?_) (fun h => ?_)
  · rw [if_pos h]
  · rw [if_neg h]
theorem c_leave {n p b c : Nat} (e : Int32) (M : vv_M) (hb : b ≤ 30) (hc : M (p + 4) (b * 22 + 0) = nI c) (h4 : c < 4) : f_X2_leave n p (nI (b * 22)) e M = some ((), va_up M (p + 4) (cLeave (M (p + 4)) (M p 5) (M (p + 2) (c * 6 + 2)) (M (p + 2) (c * 6 + 4)) b e)) := by
  unfold f_X2_leave
  simp (disch := omega) only [ix_al, ix_ar, ix_ml, ix_mr, ix_cl, ix_cll, ix_n0, ix_l0, ix_nge, or_self, ↓reduceIte, ↓ix_let, ix_bs, up_s, bx_uu, up_n, hc, ↓bnd (c_nf3 _ _ hb), c_nf3 _ _ hb, c_leave72 _ _ hb h4, ud_ne]
  unfold cLeave
  refine ife (fun h => ?_) (fun h => ?_)
  · have hx : cF (M (p + 2) (c * 6 + 2) ≤ M (p + 4) (b * 22 + 7)) (cLeave0 (M (p + 4)) (M p 5) b) (M p 5) b 3 e = cLeave0 (M (p + 4)) (M p 5) b := if_pos h
    have e6 : cLeave0 (M (p + 4)) (M p 5) b (b * 22 + 6) = M (p + 4) (b * 22 + 6) := by
      unfold cLeave0
      rw [ud_ne (by omega), ud_ne (by omega), ud_ne (by omega)]
    rw [hx, ← e6]
    rfl
  · have hx : cF (M (p + 2) (c * 6 + 2) ≤ M (p + 4) (b * 22 + 7)) (cLeave0 (M (p + 4)) (M p 5) b) (M p 5) b 3 e = cFault (cLeave0 (M (p + 4)) (M p 5) b) (M p 5) b 3 e := if_neg h
    rw [hx, cFault_ne (by omega) (by omega) (by omega), ud_ne (by omega), ud_ne (by omega), ud_ne (by omega)]
    rfl
theorem cLeave_out {B : Nat → Int32} {t c2 c4 e : Int32} {b i : Nat} (h : bOut b i) : cLeave B t c2 c4 b e i = B i := by
  have h' := h
  unfold bOut at h'
  unfold cLeave cLeave0
  rw [cF_out (by omega) h, cF_out (by omega) h, ud_ne (by omega), ud_ne (by omega), ud_ne (by omega)]
theorem Rb_leave {B g : Nat → Int32} {b : Nat} {t e x c2 c4 : Int32} (h : Rb B g b) (hon : g (56 + 21 * b + 2) = 0) (ht : t = g 52) (h2 : c2 = gC g b 2) (h4 : c4 = gC g b 4) (hcv : gcv g b < 4) : Rb (cLeave B t c2 c4 b e) (gLeft (upd g (56 + 21 * b + 3) x) b e) b := by
  obtain ⟨a1, a2, a3, a4⟩ := h
  have ec : ∀ k, k < 6 → gC (upd g (56 + 21 * b + 3) x) b k = gC g b k := by
    intro k hk
    have e9 : gcv (upd g (56 + 21 * b + 3) x) b = gcv g b := by
      unfold gcv
      rw [ud_ne (by omega)]
    unfold gC
    rw [e9, ud_ne (by omega)]
  unfold gLeft cLeave
  rw [ec 2 (by omega), ec 4 (by omega), ← h2, ← h4, a1 6 (by omega) (by omega), a1 7 (by omega) (by omega)]
  simp (disch := omega) only [ud_ne]
  refine Rb_F (Rb_F ?_ (by omega) ?_) (by omega) ?_
  · unfold cLeave0
    refine ⟨fun j hj h9 => ?_, fun h5 => ?_, fun h5 => ?_, fun k hk => ?_⟩
    · by_cases hj2 : j = 2
      · subst hj2
        simp (disch := omega) only [ud_ne, ud_s]
      · by_cases hj10 : j = 10
        · subst hj10
          simp (disch := omega) only [ud_ne, ud_s]
          exact ht
        · simp (disch := omega) only [ud_ne]
          exact a1 j hj h9
    · simp (disch := omega) only [ud_ne, ud_s] at h5
      exact absurd h5 (by decide)
    · simp (disch := omega) only [ud_ne, ud_s]
    · simp (disch := omega) only [ud_ne]
      exact a4 k hk
  · simp (disch := omega) only [ud_ne, ht]
  · rw [gFault_ne (by omega) (by omega) (by omega)]
    simp (disch := omega) only [ud_ne, ht]
