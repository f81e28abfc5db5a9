/-- the pleas, weighed -/
def gBy (g : Nat → Int32) : Nat → Int32
  | 0 => 0
  | b + 1 => if g (56 + 21 * b + 2) = 0 then (if g (56 + 21 * b + 9) = 1 then gBy g b + g (56 + 21 * b + 1) else if g (56 + 21 * b + 9) = 2 then gBy g b + -g (56 + 21 * b + 1) else gBy g b) else gBy g b
def gHear2 (by0 : Int32) (g : Nat → Int32) : Nat → Int32 := if -by0 < g 50 then g else if 3 ≤ g 48 then g else upd (upd g 48 (g 48 + 1)) 55 (g 55 + 1)
def gHear (l : Nat) (g : Nat → Int32) : Nat → Int32 := if g 50 = 0 then g else if gBy g l < g 50 then gHear2 (gBy g l) g else if g 48 ≤ 1 then gHear2 (gBy g l) g else upd (upd g 48 (g 48 - 1)) 54 (g 54 + 1)
theorem gHear2_inv {g : Nat → Int32} {l : Nat} {x : Int32} (hI : gInv g l) : gInv (gHear2 x g) l := by
  unfold gHear2
  split
  · exact hI
  split
  · exact hI
  rename_i h1 h2
  obtain ⟨s, hs, hs1, hs3⟩ := hI.2.2.2.1
  refine gInv_low hI (fun q hq => by rw [ud_ne (by omega), ud_ne (by omega)]) (by rw [ud_ne (by omega), ud_ne (by omega)]) ⟨s + 1, ?_⟩ (by rw [ud_ne (by omega), ud_ne (by omega)]) (fun i hi => by rw [ud_ne (by omega), ud_ne (by omega)])
  rw [hs, ix_lel (by omega) (by omega)] at h2
  rw [ud_ne (by omega), ud_s, hs, ix_al]
  exact ⟨rfl, by omega, by omega⟩
theorem gHear_inv {g : Nat → Int32} {l : Nat} (hI : gInv g l) : gInv (gHear l g) l := by
  unfold gHear
  split
  · exact hI
  split
  · exact gHear2_inv hI
  split
  · exact gHear2_inv hI
  rename_i h1 h2 h3
  obtain ⟨s, hs, hs1, hs3⟩ := hI.2.2.2.1
  refine gInv_low hI (fun q hq => by rw [ud_ne (by omega), ud_ne (by omega)]) (by rw [ud_ne (by omega), ud_ne (by omega)]) ⟨s - 1, ?_⟩ (by rw [ud_ne (by omega), ud_ne (by omega)]) (fun i hi => by rw [ud_ne (by omega), ud_ne (by omega)])
  rw [hs, ix_ler (by omega) (by omega)] at h3
  rw [ud_ne (by omega), ud_s, hs, ix_sl (by omega)]
  exact ⟨rfl, by omega, by omega⟩
def gMv (b : Nat) (g : Nat → Int32) : Nat → Int32 := if g (56 + 21 * b + 2) = 0 then gGoOn g b else g
def gWm (b : Nat) (g : Nat → Int32) : Nat → Int32 := if g (56 + 21 * b + 2) = 0 then gWarm b g else g
def gTk (g : Nat → Int32) : Nat → Int32 := upd g 52 (g 52 + 1)
def gTick (l : Nat) (g : Nat → Int32) : Nat → Int32 := gTk (gHear l (pif gWm 0 l (pif (gHeat l) 0 6 (pif gMv 0 l g))))
theorem gMv_inv {g : Nat → Int32} {l b : Nat} (hb : b < l) (hI : gInv g l) : gInv (gMv b g) l := by
  unfold gMv
  split
  · exact gGoOn_inv hI hb (by assumption)
  · exact hI
theorem gWm_inv {g : Nat → Int32} {l b : Nat} (hb : b < l) (hI : gInv g l) : gInv (gWm b g) l := by
  unfold gWm
  split
  · exact gWarm_inv hI hb (by assumption)
  · exact hI
theorem gTk_inv {g : Nat → Int32} {l : Nat} (hI : gInv g l) : gInv (gTk g) l := by
  unfold gTk
  refine gInv_low hI (fun q hq => by rw [ud_ne (by omega)]) (by rw [ud_ne (by omega)]) (by rw [ud_ne (by omega)]; exact hI.2.2.2.1) (by rw [ud_ne (by omega)]) (fun i hi => by rw [ud_ne (by omega)])
theorem gTick_inv {g : Nat → Int32} {l : Nat} (hI : gInv g l) : gInv (gTick l g) l :=
  gTk_inv (gHear_inv (pif_inv (P := fun g => gInv g l) (fun b a hb h => gWm_inv hb h) l 0 _ (by omega) (pif_inv (P := fun g => gInv g l) (l := 6) (fun b a hb h => gHeat_inv h hb) 6 0 _ (by omega) (pif_inv (P := fun g => gInv g l) (fun b a hb h => gMv_inv hb h) l 0 _ (by omega) hI))))
