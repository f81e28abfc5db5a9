
theorem r_isOn_b {β : Type} {n p b : Nat} {M : vv_M} {f : Int32 × vv_M → Option β} (hb : b ≤ 31) : (f_X5_isOn n p (nI b) M).bind f = f (zi (M (p + 1) (56 + 21 * b + 2) = 0), M) := bnd (r_isOn hb M)
/-- the pleas, weighed -/
def gBy (g : Nat → Int32) : Nat → Int32
  | 0 => 0
  | b + 1 => if g (56 + 21 * b + 2) = 0 then (if g (56 + 21 * b + 9) = 1 then gBy g b + g (56 + 21 * b + 1) else if g (56 + 21 * b + 9) = 2 then gBy g b + -g (56 + 21 * b + 1) else gBy g b) else gBy g b
def gHear2 (by0 : Int32) (g : Nat → Int32) : Nat → Int32 := if -by0 < g 50 then g else if 3 ≤ g 48 then g else upd (upd g 48 (g 48 + 1)) 55 (g 55 + 1)
def gHear (l : Nat) (g : Nat → Int32) : Nat → Int32 := if g 50 = 0 then g else if gBy g l < g 50 then gHear2 (gBy g l) g else if g 48 ≤ 1 then gHear2 (gBy g l) g else upd (upd g 48 (g 48 - 1)) 54 (g 54 + 1)
theorem r_hear144 {n p : Nat} (x : Int32) (M : vv_M) : f_X5_hear_144 n p x M = some ((), va_up M (p + 1) (gHear2 x (M (p + 1)))) := by
  unfold f_X5_hear_144 gHear2
  simp (disch := omega) only [ix_al, ix_ar, ix_ml, ix_mr, ix_cl, ix_cll, ix_n0, ix_l0, ix_nge, or_self, ↓reduceIte, ↓ix_let, ix_bs, up_s, bx_uu, ud_ne]
  refine ife (fun h => ?_) (fun h => ?_)
  · rw [if_pos h, up_id]
  · rw [if_neg h]
    refine ife (fun h => ?_) (fun h => ?_)
    · rw [if_pos h, up_id]
    · rw [if_neg h]
theorem r_hear {n p l : Nat} (M : vv_M) (hl : M (p + 1) 53 = nI l) (h31 : l ≤ 31) (hn : 40 ≤ n) : f_X5_hear n p M = some ((), va_up M (p + 1) (gHear l (M (p + 1)))) := by
  have st : ∀ (j b k : Nat), b + j = l → j < k → f_X5_hear_4 n k p (gBy (M (p + 1)) b) (nI b) M = some ((), va_up M (p + 1) (gHear l (M (p + 1)))) := by
    intro j
    induction j with
    | zero =>
      intro b k hb hk
      obtain ⟨k, rfl⟩ : ∃ q, k = q + 1 := ⟨k - 1, by omega⟩
      obtain rfl : b = l := by omega
      rw [f_X5_hear_4.eq_2]
      simp (disch := omega) only [ix_al, ix_ar, ix_ml, ix_mr, ix_cl, ix_cll, ix_n0, ix_l0, ix_nge, or_self, ↓reduceIte, ↓ix_let, ix_bs, up_s, bx_uu, hl, ix_le, Nat.le_refl, ud_ne, r_hear144]
      unfold gHear
      refine ife (fun h => ?_) (fun h => ?_)
      · rw [if_pos h, up_id]
      · rw [if_neg h]
        refine ife (fun h => ?_) (fun h => ?_)
        · rw [if_pos h]
        · rw [if_neg h]
          refine ife (fun h => ?_) (fun h => ?_)
          · rw [if_pos h]
          · rw [if_neg h]
    | succ j ih =>
      intro b k hb hk
      obtain ⟨k, rfl⟩ : ∃ q, k = q + 1 := ⟨k - 1, by omega⟩
      rw [f_X5_hear_4.eq_2]
      have hi := ih (b + 1) k (by omega) (by omega)
      simp only [gBy] at hi
      simp (disch := omega) only [ix_al, ix_ar, ix_ml, ix_mr, ix_cl, ix_cll, ix_n0, ix_l0, ix_nge, or_self, ↓reduceIte, ↓ix_let, ix_bs, up_s, bx_uu, hl, ix_le, ↓r_of_b, ↓r_isOn_b, zi_0, f_X5_hear_38, f_X5_hear_78, Int32.add_zero]
      have h01 : ((0 : Int32) = 1) = False := by decide
      have h02 : ((0 : Int32) = 2) = False := by decide
      refine ife (fun h => ?_) (fun h => ?_)
      · rw [if_neg h] at hi
        simp only [h01, h02, if_false, Int32.add_zero]
        exact hi
      · rw [if_pos (Classical.not_not.mp h)] at hi
        refine ife (fun h2 => ?_) (fun h2 => ?_)
        · rw [if_pos h2] at hi
          exact hi
        · rw [if_neg h2] at hi
          refine ife (fun h3 => ?_) (fun h3 => ?_)
          · rw [if_pos h3] at hi
            exact hi
          · rw [if_neg h3] at hi
            exact hi
  exact st l 0 n (by omega) (by omega)
theorem gHear2_inv {g : Nat → Int32} {l : Nat} {x : Int32} (hI : gInv g l) : gInv (gHear2 x g) l := by
  unfold gHear2
  split
  · exact hI
  split
  · exact hI
  rename_i h1 h2
  obtain ⟨s, hs, hs1, hs3⟩ := hI.2.2.2.1
  refine gInv_low hI (fun q hq => by rw [ud_ne (by omega), ud_ne (by omega)]) (by rw [ud_ne (by omega), ud_ne (by omega)]) ⟨s + 1, ?_⟩ (by rw [ud_ne (by omega), ud_ne (by omega)]) (fun i hi => by rw [ud_ne (by omega), ud_ne (by omega)])
  rw [hs, ix_lel (by omega) (by omega)] at h2
  rw [ud_ne (by omega), ud_s, hs, ix_al]
  exact ⟨rfl, by omega, by omega⟩
theorem gHear_inv {g : Nat → Int32} {l : Nat} (hI : gInv g l) : gInv (gHear l g) l := by
  unfold gHear
  split
  · exact hI
  split
  · exact gHear2_inv hI
  split
  · exact gHear2_inv hI
  rename_i h1 h2 h3
  obtain ⟨s, hs, hs1, hs3⟩ := hI.2.2.2.1
  refine gInv_low hI (fun q hq => by rw [ud_ne (by omega), ud_ne (by omega)]) (by rw [ud_ne (by omega), ud_ne (by omega)]) ⟨s - 1, ?_⟩ (by rw [ud_ne (by omega), ud_ne (by omega)]) (fun i hi => by rw [ud_ne (by omega), ud_ne (by omega)])
  rw [hs, ix_ler (by omega) (by omega)] at h3
  rw [ud_ne (by omega), ud_s, hs, ix_sl (by omega)]
  exact ⟨rfl, by omega, by omega⟩
def gMv (b : Nat) (g : Nat → Int32) : Nat → Int32 := if g (56 + 21 * b + 2) = 0 then gGoOn g b else g
def gWm (b : Nat) (g : Nat → Int32) : Nat → Int32 := if g (56 + 21 * b + 2) = 0 then gWarm b g else g
def gTk (g : Nat → Int32) : Nat → Int32 := upd g 52 (g 52 + 1)
def gTick (l : Nat) (g : Nat → Int32) : Nat → Int32 := gTk (gHear l (pif gWm 0 l (pif (gHeat l) 0 6 (pif gMv 0 l g))))
theorem gMv_inv {g : Nat → Int32} {l b : Nat} (hb : b < l) (hI : gInv g l) : gInv (gMv b g) l := by
  unfold gMv
  split
  · exact gGoOn_inv hI hb (by assumption)
  · exact hI
theorem gWm_inv {g : Nat → Int32} {l b : Nat} (hb : b < l) (hI : gInv g l) : gInv (gWm b g) l := by
  unfold gWm
  split
  · exact gWarm_inv hI hb (by assumption)
  · exact hI
theorem gTk_inv {g : Nat → Int32} {l : Nat} (hI : gInv g l) : gInv (gTk g) l := by
  unfold gTk
  refine gInv_low hI (fun q hq => by rw [ud_ne (by omega)]) (by rw [ud_ne (by omega)]) (by rw [ud_ne (by omega)]; exact hI.2.2.2.1) (by rw [ud_ne (by omega)]) (fun i hi => by rw [ud_ne (by omega)])
theorem gTick_inv {g : Nat → Int32} {l : Nat} (hI : gInv g l) : gInv (gTick l g) l :=
  gTk_inv (gHear_inv (pif_inv (P := fun g => gInv g l) (fun b a hb h => gWm_inv hb h) l 0 _ (by omega) (pif_inv (P := fun g => gInv g l) (l := 6) (fun b a hb h => gHeat_inv h hb) 6 0 _ (by omega) (pif_inv (P := fun g => gInv g l) (fun b a hb h => gMv_inv hb h) l 0 _ (by omega) hI))))
theorem r_tick53 {n p l : Nat} {M : vv_M} (hn : 40 ≤ n) : ∀ (j b k : Nat) (g : Nat → Int32), b + j = l → j < k → gInv g l → f_X5_tick_53 n k p (nI b) (va_up M (p + 1) g) = some ((), va_up M (p + 1) (gTk (gHear l (pif gWm b j g)))) := by
  intro j
  induction j with
  | zero =>
    intro b k g hb hk hI
    have h31 := hI.2.2.1
    obtain ⟨k, rfl⟩ : ∃ q, k = q + 1 := ⟨k - 1, by omega⟩
    obtain rfl : b = l := by omega
    rw [f_X5_tick_53.eq_2]
    have hh := r_hear (n := n) (p := p) (l := b) (va_up M (p + 1) g) (by rw [up_s]; exact hI.2.1) h31 hn
    rw [up_s, bx_uu] at hh
    simp (disch := omega) only [ix_al, ix_ar, ix_ml, ix_mr, ix_cl, ix_cll, ix_n0, ix_l0, ix_nge, or_self, ↓reduceIte, ↓ix_let, ix_bs, up_s, bx_uu, hI.2.1, ix_le, Nat.le_refl, ↓bnd hh]
    rfl
  | succ j ih =>
    intro b k g hb hk hI
    have h31 := hI.2.2.1
    obtain ⟨k, rfl⟩ : ∃ q, k = q + 1 := ⟨k - 1, by omega⟩
    rw [f_X5_tick_53.eq_2]
    have hi := ih (b + 1) k (gWm b g) (by omega) (by omega) (gWm_inv (by omega) hI)
    show _ = some ((), va_up M (p + 1) (gTk (gHear l (pif gWm (b + 1) j (gWm b g)))))
    rw [← hi]
    simp (disch := omega) only [ix_al, ix_ar, ix_ml, ix_mr, ix_cl, ix_cll, ix_n0, ix_l0, ix_nge, or_self, ↓reduceIte, ↓ix_let, ix_bs, up_s, bx_uu, hI.2.1, ix_le, ↓r_isOn_b, zi_0, f_X5_tick_77]
    unfold gWm
    refine ife (fun h => ?_) (fun h => ?_)
    · rw [if_neg h]
    · rw [if_pos (Classical.not_not.mp h)]
      have hw := r_warmUp (n := n) (p := p) (l := l) (b := b) (va_up M (p + 1) g) (by rw [up_s]; exact hI) hn (by omega) (by rw [up_s]; exact Classical.not_not.mp h)
      rw [up_s, bx_uu] at hw
      rw [bnd hw]
theorem r_tick34 {n p l : Nat} {M : vv_M} (hn : 40 ≤ n) : ∀ (j z k : Nat) (g : Nat → Int32), z + j = 6 → j < k → gInv g l → f_X5_tick_34 n k p (nI z) (va_up M (p + 1) g) = some ((), va_up M (p + 1) (gTk (gHear l (pif gWm 0 l (pif (gHeat l) z j g))))) := by
  intro j
  induction j with
  | zero =>
    intro z k g hz hk hI
    have h31 := hI.2.2.1
    obtain ⟨k, rfl⟩ : ∃ q, k = q + 1 := ⟨k - 1, by omega⟩
    obtain rfl : z = 6 := by omega
    rw [f_X5_tick_34.eq_2]
    exact r_tick53 hn l 0 n g (by omega) (by omega) hI
  | succ j ih =>
    intro z k g hz hk hI
    obtain ⟨k, rfl⟩ : ∃ q, k = q + 1 := ⟨k - 1, by omega⟩
    rw [f_X5_tick_34.eq_2]
    have hi := ih (z + 1) k (gHeat l z g) (by omega) (by omega) (gHeat_inv hI (by omega))
    have hh := r_heat (n := n) (p := p) (l := l) (z := z) (va_up M (p + 1) g) (by rw [up_s]; exact hI) hn (by omega)
    rw [up_s, bx_uu] at hh
    simp (disch := omega) only [ix_al, ix_ar, ix_ml, ix_mr, ix_cl, ix_cll, ix_n0, ix_l0, ix_nge, or_self, ↓reduceIte, ↓ix_let, ix_bs, up_s, bx_uu, ix_lel, ↓bnd hh]
    exact hi
theorem r_tick2 {n p l : Nat} {M : vv_M} (hn : 40 ≤ n) : ∀ (j b k : Nat) (g : Nat → Int32), b + j = l → j < k → gInv g l → f_X5_tick_2 n k p (nI b) (va_up M (p + 1) g) = some ((), va_up M (p + 1) (gTk (gHear l (pif gWm 0 l (pif (gHeat l) 0 6 (pif gMv b j g)))))) := by
  intro j
  induction j with
  | zero =>
    intro b k g hb hk hI
    have h31 := hI.2.2.1
    obtain ⟨k, rfl⟩ : ∃ q, k = q + 1 := ⟨k - 1, by omega⟩
    obtain rfl : b = l := by omega
    rw [f_X5_tick_2.eq_2]
    simp (disch := omega) only [ix_al, ix_ar, ix_ml, ix_mr, ix_cl, ix_cll, ix_n0, ix_l0, ix_nge, or_self, ↓reduceIte, ↓ix_let, ix_bs, up_s, bx_uu, hI.2.1, ix_le, Nat.le_refl]
    exact r_tick34 hn 6 0 n g (by omega) (by omega) hI
  | succ j ih =>
    intro b k g hb hk hI
    have h31 := hI.2.2.1
    obtain ⟨k, rfl⟩ : ∃ q, k = q + 1 := ⟨k - 1, by omega⟩
    rw [f_X5_tick_2.eq_2]
    have hi := ih (b + 1) k (gMv b g) (by omega) (by omega) (gMv_inv (by omega) hI)
    show _ = some ((), va_up M (p + 1) (gTk (gHear l (pif gWm 0 l (pif (gHeat l) 0 6 (pif gMv (b + 1) j (gMv b g)))))))
    rw [← hi]
    simp (disch := omega) only [ix_al, ix_ar, ix_ml, ix_mr, ix_cl, ix_cll, ix_n0, ix_l0, ix_nge, or_self, ↓reduceIte, ↓ix_let, ix_bs, up_s, bx_uu, hI.2.1, ix_le, ↓r_isOn_b, zi_0, f_X5_tick_26]
    unfold gMv
    refine ife (fun h => ?_) (fun h => ?_)
    · rw [if_neg h]
    · rw [if_pos (Classical.not_not.mp h)]
      obtain ⟨⟨c, h4, hc⟩, -⟩ := hI.2.2.2.2.2 b (by omega)
      have hw := r_goOn (n := n) (p := p) (b := b) (c := c) (va_up M (p + 1) g) hn (by omega) (by rw [up_s]; exact hc) h4
      rw [up_s, bx_uu] at hw
      rw [bnd hw]
/-- THE REFERENCE'S TICK -/
theorem r_tick {n p l : Nat} (M : vv_M) (hn : 40 ≤ n) (hI : gInv (M (p + 1)) l) : f_X5_tick n p M = some ((), va_up M (p + 1) (gTick l (M (p + 1)))) := by
  have h31 := hI.2.2.1
  have h := r_tick2 (M := M) (p := p) hn l 0 n (M (p + 1)) (by omega) (by omega) hI
  rw [up_id] at h
  exact h
