def pif {α : Type} (F : Nat → α → α) : Nat → Nat → α → α
  | _, 0, a => a
  | b, j + 1, a => pif F (b + 1) j (F b a)
theorem pif_inv {α : Type} {F : Nat → α → α} {P : α → Prop} {l : Nat} (hF : ∀ b a, b < l → P a → P (F b a)) : ∀ j b a, b + j ≤ l → P a → P (pif F b j a) := by
  intro j
  induction j with
  | zero => intro b a _ h; exact h
  | succ j ih => intro b a hb h; exact ih (b + 1) _ (by omega) (hF b a (by omega) h)
/-! what keeps the invariant -/
def gOut (b i : Nat) : Prop := i < 56 + 21 * b ∨ 56 + 21 * b + 21 ≤ i
def gFl (g : Nat → Int32) (b : Nat) : Prop := ∀ k, k < 5 → gbit (g (56 + 21 * b + 8)) k → ∃ c, c ≤ 48 ∧ g (56 + 21 * b + (11 + k)) = nI c
theorem gPre_congr {g g' : Nat → Int32} (h : ∀ z, z < 6 → g' (0 + 4 * z + 0) = g (0 + 4 * z + 0)) : ∀ z, z ≤ 6 → gPre g' z = gPre g z := by
  intro z
  induction z with
  | zero => intro _; rfl
  | succ z ih =>
    intro hz
    show gPre g' z + gln g' z = gPre g z + gln g z
    rw [ih (by omega)]
    unfold gln
    rw [h z (by omega)]
theorem gLen_congr {g g' : Nat → Int32} (h : ∀ z, z < 6 → g' (0 + 4 * z + 0) = g (0 + 4 * z + 0)) (hL : gLen g) : gLen g' := by
  intro z hz
  have := hL z hz
  unfold gln at this ⊢
  rw [h z hz]
  exact this
theorem gZone_congr {g g' : Nat → Int32} (h : ∀ z, z < 6 → g' (0 + 4 * z + 0) = g (0 + 4 * z + 0)) (c : Nat) : gZone g' c = gZone g c := by
  unfold gZone
  rw [gPre_congr h 1 (by omega), gPre_congr h 2 (by omega), gPre_congr h 3 (by omega), gPre_congr h 4 (by omega), gPre_congr h 5 (by omega)]
theorem gBrd_congr {g g' : Nat → Int32} {b : Nat} (hp : gPre g' 6 = gPre g 6) (h : ∀ j, j < 21 → g' (56 + 21 * b + j) = g (56 + 21 * b + j)) (hB : gBrd g b) : gBrd g' b := by
  obtain ⟨⟨c, h1, h2⟩, ⟨w, h3, h4, h5⟩, h6, h7⟩ := hB
  refine ⟨⟨c, h1, by rw [h 0 (by omega)]; exact h2⟩, ⟨w, h3, h4, by rw [h 1 (by omega)]; exact h5⟩, fun h8 => ?_, fun k hk hb => ?_⟩
  · rw [h 2 (by omega)] at h8
    obtain ⟨a1, a2⟩ := h6 h8
    unfold gcell at a1 a2 ⊢
    rw [h 3 (by omega), hp]
    exact ⟨a1, a2⟩
  · rw [h 8 (by omega)] at hb
    rw [h (11 + k) (by omega)]
    exact h7 k hk hb
theorem gInv_board {g g' : Nat → Int32} {l b : Nat} (hI : gInv g l) (h : ∀ i, gOut b i → g' i = g i) (hB : gBrd g' b) : gInv g' l := by
  obtain ⟨hL, hl, h31, hs, ha, hBs⟩ := hI
  have hz : ∀ z, z < 6 → g' (0 + 4 * z + 0) = g (0 + 4 * z + 0) := fun z hz => h _ (Or.inl (by omega))
  refine ⟨gLen_congr hz hL, by rw [h 53 (Or.inl (by omega))]; exact hl, h31, by rw [h 48 (Or.inl (by omega))]; exact hs, by rw [h 49 (Or.inl (by omega))]; exact ha, fun q hq => ?_⟩
  by_cases hqb : q = b
  · rw [hqb]
    exact hB
  · exact gBrd_congr (gPre_congr hz 6 (by omega)) (fun j hj => h _ (by unfold gOut; omega)) (hBs q hq)
theorem gFault_out {g : Nat → Int32} {x c : Int32} {b k i : Nat} (hk : k < 5) (h : gOut b i) : gFault g x b k c i = g i := by
  unfold gOut at h
  exact gFault_ne (by omega) (by omega) (by omega)
theorem gFault_fl {g : Nat → Int32} {x : Int32} {b κ c : Nat} (h : gFl g b) (hk : κ < 5) (hc : c ≤ 48) : gFl (gFault g x b κ (nI c)) b := by
  unfold gFault
  split
  · exact h
  split
  · exact h
  intro k hk2 hb
  rw [ud_ne (by omega), ud_ne (by omega), ud_s, gbit_or (by omega) (by omega)] at hb
  rw [ud_ne (by omega)]
  by_cases he : k = κ
  · subst he
    exact ⟨c, hc, by rw [ud_s]⟩
  · rw [ud_ne (by omega), ud_ne (by omega)]
    rcases hb with hb | hb
    · exact h k hk2 hb
    · exact absurd hb he
theorem gUpd_fl {g : Nat → Int32} {v : Int32} {b i : Nat} (h : gFl g b) (h1 : i ≠ 56 + 21 * b + 8) (h2 : i < 56 + 21 * b + 11 ∨ 56 + 21 * b + 15 < i) : gFl (upd g i v) b := by
  intro k hk hb
  rw [ud_ne (fun e => h1 e.symm)] at hb
  rw [ud_ne (by omega)]
  exact h k hk hb
theorem gGoOn_out {g : Nat → Int32} {b i : Nat} (h : gOut b i) : gGoOn g b i = g i := by
  have h' := h
  unfold gOut at h'
  unfold gGoOn gLeft
  split
  · rw [ud_ne (by omega)]
  · rw [gFault_out (by omega) h, gFault_out (by omega) h, ud_ne (by omega), ud_ne (by omega), ud_ne (by omega)]
theorem gGoOn_inv {g : Nat → Int32} {l b : Nat} (hI : gInv g l) (hb : b < l) (hon : g (56 + 21 * b + 2) = 0) : gInv (gGoOn g b) l := by
  have hI' := hI
  obtain ⟨hL, hl, h31, ⟨s, hs, hs1, hs3⟩, ha, hBs⟩ := hI'
  refine gInv_board hI (fun i hi => gGoOn_out hi) ?_
  obtain ⟨⟨c, h1, h2⟩, ⟨w, h3, h4, h5⟩, h6, h7⟩ := hBs b hb
  obtain ⟨e1, e2⟩ := h6 hon
  have hp := gPre_6 hL
  have hpre : gPre (gGoOn g b) 6 = gPre g 6 := gPre_congr (fun z hz => gGoOn_out (Or.inl (by omega))) 6 (by omega)
  unfold gBrd gcell
  rw [hpre]
  unfold gGoOn
  rw [gBelt_nI hL, e1, hs, nI_add]
  split
  · rename_i hlt
    rw [ix_lt (by omega) (by omega)] at hlt
    refine ⟨⟨c, h1, by rw [ud_ne (by omega)]; exact h2⟩, ⟨w, h3, h4, by rw [ud_ne (by omega)]; exact h5⟩, fun _ => ?_, gUpd_fl h7 (by omega) (by omega)⟩
    rw [ud_s, ix_cl (by omega)]
    exact ⟨rfl, hlt⟩
  · unfold gLeft
    refine ⟨⟨c, h1, ?_⟩, ⟨w, h3, h4, ?_⟩, fun h9 => ?_, ?_⟩
    · rw [gFault_ne (by omega) (by omega) (by omega), gFault_ne (by omega) (by omega) (by omega), ud_ne (by omega), ud_ne (by omega), ud_ne (by omega)]; exact h2
    · rw [gFault_ne (by omega) (by omega) (by omega), gFault_ne (by omega) (by omega) (by omega), ud_ne (by omega), ud_ne (by omega), ud_ne (by omega)]; exact h5
    · rw [gFault_ne (by omega) (by omega) (by omega), gFault_ne (by omega) (by omega) (by omega), ud_ne (by omega), ud_s] at h9
      exact absurd h9 (by decide)
    · exact gFault_fl (gFault_fl (gUpd_fl (gUpd_fl (gUpd_fl h7 (by omega) (by omega)) (by omega) (by omega)) (by omega) (by omega)) (by omega) hp.1) (by omega) hp.1
theorem gWarm_out {g : Nat → Int32} {b i : Nat} (h : gOut b i) : gWarm b g i = g i := by
  have h' := h
  unfold gOut at h'
  unfold gWarm gWarmB gWarmA
  rw [ud_ne (by omega), gFault_out (by omega) h, gFault_out (by omega) h, gFault_out (by omega) h, ud_ne (by omega), ud_ne (by omega), ud_ne (by omega), ud_ne (by omega)]
theorem gWarm_col {g : Nat → Int32} {b j : Nat} (h : j < 4) : gWarm b g (56 + 21 * b + j) = g (56 + 21 * b + j) := by
  unfold gWarm gWarmB gWarmA
  rw [ud_ne (by omega), gFault_ne (by omega) (by omega) (by omega), gFault_ne (by omega) (by omega) (by omega), gFault_ne (by omega) (by omega) (by omega), ud_ne (by omega), ud_ne (by omega), ud_ne (by omega), ud_ne (by omega)]
theorem gWarm_inv {g : Nat → Int32} {l b : Nat} (hI : gInv g l) (hb : b < l) (hon : g (56 + 21 * b + 2) = 0) : gInv (gWarm b g) l := by
  have hI' := hI
  obtain ⟨hL, hl, h31, ⟨s, hs, hs1, hs3⟩, ha, hBs⟩ := hI'
  refine gInv_board hI (fun i hi => gWarm_out hi) ?_
  obtain ⟨⟨c, h1, h2⟩, ⟨w, h3, h4, h5⟩, h6, h7⟩ := hBs b hb
  obtain ⟨e1, e2⟩ := h6 hon
  have hp := gPre_6 hL
  have hpre : gPre (gWarm b g) 6 = gPre g 6 := gPre_congr (fun z hz => gWarm_out (Or.inl (by omega))) 6 (by omega)
  refine ⟨⟨c, h1, by rw [gWarm_col (by omega)]; exact h2⟩, ⟨w, h3, h4, by rw [gWarm_col (by omega)]; exact h5⟩, fun h9 => ?_, ?_⟩
  · rw [gWarm_col (by omega)] at h9
    unfold gcell
    rw [gWarm_col (by omega), hpre]
    exact h6 h9
  · unfold gWarm gWarmB gWarmA
    rw [e1]
    refine gUpd_fl ?_ (by omega) (by omega)
    refine gFault_fl (gFault_fl (gFault_fl ?_ (by omega) (by omega)) (by omega) (by omega)) (by omega) (by omega)
    exact gUpd_fl (gUpd_fl (gUpd_fl (gUpd_fl h7 (by omega) (by omega)) (by omega) (by omega)) (by omega) (by omega)) (by omega) (by omega)
/-- a change below the boards that leaves the lengths and the numbers -/
theorem gInv_low {g g' : Nat → Int32} {l : Nat} (hI : gInv g l) (hz : ∀ z, z < 6 → g' (0 + 4 * z + 0) = g (0 + 4 * z + 0)) (h53 : g' 53 = g 53) (hs : ∃ s, g' 48 = nI s ∧ 1 ≤ s ∧ s ≤ 3) (h49 : g' 49 = g 49) (h : ∀ i, 56 ≤ i → g' i = g i) : gInv g' l := by
  obtain ⟨hL, hl, h31, -, ha, hBs⟩ := hI
  exact ⟨gLen_congr hz hL, h53.trans hl, h31, hs, by rw [h49]; exact ha, fun q hq => gBrd_congr (gPre_congr hz 6 (by omega)) (fun j hj => h _ (by omega)) (hBs q hq)⟩
theorem gHeat_inv {g : Nat → Int32} {l z : Nat} (hI : gInv g l) (hz : z < 6) : gInv (gHeat l z g) l := by
  unfold gHeat
  refine gInv_low hI (fun q hq => by rw [ud_ne (by omega)]) (by rw [ud_ne (by omega)]) ?_ (by rw [ud_ne (by omega)]) (fun i hi => by rw [ud_ne (by omega)])
  rw [ud_ne (by omega)]
  exact hI.2.2.2.1
