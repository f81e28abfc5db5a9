/-! what the calls change in an oven: pure pictures -/
def gLay0 (l : Nat) (g : Nat → Int32) : Nat → Nat → Int32 := fun k i => if 56 + 21 * l ≤ i ∧ i < 56 + 21 * l + k then 0 else g i
def gLay (l : Nat) (c w : Int32) (g : Nat → Int32) : Nat → Int32 := upd (upd (upd (upd (upd (gLay0 l g 21) (56 + 21 * l + 0) c) (56 + 21 * l + 1) w) (56 + 21 * l + 4) 20) (56 + 21 * l + 6) 20) (56 + 21 * l + 10) (-1009)
def gLoad (l : Nat) (c w : Int32) (g : Nat → Int32) : Nat → Int32 := upd (gLay l c w g) 53 (nI (l + 1))
/-- the class's board -/
def cLay0 (l : Nat) (B : Nat → Int32) : Nat → Nat → Int32 := fun k i => if l * 22 ≤ i ∧ i < l * 22 + k then (if i < l * 22 + 12 then 0 else -1009) else B i
def cLay (l : Nat) (c w : Int32) (B : Nat → Int32) : Nat → Int32 := upd (upd (upd (upd (upd (cLay0 l B 22) (l * 22 + 0) c) (l * 22 + 1) w) (l * 22 + 4) 20) (l * 22 + 6) 20) (l * 22 + 10) (-1009)
theorem c_place11 {n p l : Nat} (c w : Int32) (M : vv_M) (hl : l ≤ 30) (h6 : M p 6 = nI l) : ∀ (j k q : Nat) (B : Nat → Int32), k + j = 22 → j < q → B = cLay0 l (M (p + 4)) k → f_X2_placeBoard_11 n q p c w (nI (l * 22)) (nI k) (va_up M (p + 4) B) = some (nI l, va_up (va_up M (p + 4) (cLay l c w (M (p + 4)))) p (upd (M p) 6 (nI (l + 1)))) := by
  intro j
  induction j with
  | zero =>
    intro k q B hk hq hB
    obtain ⟨q, rfl⟩ : ∃ m, q = m + 1 := ⟨q - 1, by omega⟩
    obtain rfl : k = 22 := by omega
    have e2 : nI l + 1 - 1 = nI l := by grind
    rw [f_X2_placeBoard_11.eq_2, if_pos (show (22 : Int32) ≤ nI 22 from nI_le (a := 22) (b := 22) (Nat.le_refl _) (by omega))]
    unfold f_X2_placeBoard_98
    simp (disch := omega) only [ix_al, ix_cl, ix_cll, ix_n0, ix_l0, ix_nge, or_self, ↓reduceIte, ↓ix_let, ix_bs, up_s, bx_uu, hB, up_n, h6, ud_s]
    show some (_, _) = some (_, _)
    rw [← ix_al l 1]
    show some (nI l + 1 - 1, _) = _
    rw [e2]
    rfl
  | succ j ih =>
    intro k q B hk hq hB
    obtain ⟨q, rfl⟩ : ∃ m, q = m + 1 := ⟨q - 1, by omega⟩
    have hs : ∀ v : Int32, v = (if k < 12 then 0 else -1009) → upd B (l * 22 + k) v = cLay0 l (M (p + 4)) (k + 1) := by
      intro v hv
      rw [hB, hv]
      funext i
      unfold upd cLay0
      by_cases h1 : i = l * 22 + k
      · rw [if_pos h1]
        by_cases h2 : k < 12
        · rw [if_pos h2, if_pos (by omega : l * 22 ≤ i ∧ i < l * 22 + (k + 1)), if_pos (by omega)]
        · rw [if_neg h2, if_pos (by omega : l * 22 ≤ i ∧ i < l * 22 + (k + 1)), if_neg (by omega)]
      · rw [if_neg h1]
        by_cases h2 : l * 22 ≤ i ∧ i < l * 22 + k
        · rw [if_pos h2, if_pos (by omega : l * 22 ≤ i ∧ i < l * 22 + (k + 1))]
        · rw [if_neg h2, if_neg (by omega)]
    rw [f_X2_placeBoard_11.eq_2]
    by_cases h12 : k < 12
    · rw [← ih (k + 1) q (upd B (l * 22 + k) 0) (by omega) (by omega) (hs 0 (by rw [if_pos h12]))]
      have h12' : ((12 : Int32) ≤ nI k) = False := eq_false (fun h => absurd ((nI_leI (a := 12) (by omega) (by omega)).mp h) (by omega))
      have h22' : ((22 : Int32) ≤ nI k) = False := eq_false (fun h => absurd ((nI_leI (a := 22) (by omega) (by omega)).mp h) (by omega))
      simp (disch := omega) only [ix_al, ix_cl, ix_cll, ix_n0, ix_l0, ix_nge, or_self, ↓reduceIte, ↓ix_let, ix_bs, up_s, bx_uu, h12', h22', nI_add, f_X2_placeBoard_40]
    · rw [← ih (k + 1) q (upd B (l * 22 + k) (-1009)) (by omega) (by omega) (hs (-1009) (by rw [if_neg h12]))]
      have h12' : ((12 : Int32) ≤ nI k) = True := eq_true ((nI_leI (a := 12) (by omega) (by omega)).mpr (by omega))
      have h22' : ((22 : Int32) ≤ nI k) = False := eq_false (fun h => absurd ((nI_leI (a := 22) (by omega) (by omega)).mp h) (by omega))
      simp (disch := omega) only [ix_al, ix_cl, ix_cll, ix_n0, ix_l0, ix_nge, or_self, ↓reduceIte, ↓ix_let, ix_bs, up_s, bx_uu, h12', h22', nI_add, f_X2_placeBoard_40]
theorem c_place {n p l : Nat} (c w : Int32) (M : vv_M) (hl : l ≤ 30) (h6 : M p 6 = nI l) (hn : 40 ≤ n) : f_X2_placeBoard n p c w M = some (nI l, va_up (va_up M (p + 4) (cLay l c w (M (p + 4)))) p (upd (M p) 6 (nI (l + 1)))) := by
  have h := c_place11 (n := n) c w M hl h6 22 0 n (M (p + 4)) (by omega) (by omega) (by
    funext i
    unfold cLay0
    rw [if_neg (by omega)])
  rw [up_id] at h
  unfold f_X2_placeBoard
  rw [ix_let, h6, ix_ml]
  exact h
theorem gLoad_out {l i : Nat} {c w : Int32} {g : Nat → Int32} (h : gOut l i) (h53 : i ≠ 53) : gLoad l c w g i = g i := by
  unfold gOut at h
  unfold gLoad gLay gLay0
  rw [ud_ne (by omega), ud_ne (by omega), ud_ne (by omega), ud_ne (by omega), ud_ne (by omega), ud_ne (by omega), if_neg (by omega)]
theorem gLoad_brd {l j : Nat} {c w : Int32} {g : Nat → Int32} (hj : j < 21) : gLoad l c w g (56 + 21 * l + j) = if j = 0 then c else if j = 1 then w else if j = 4 ∨ j = 6 then 20 else if j = 10 then -1009 else 0 := by
  unfold gLoad gLay
  by_cases h10 : j = 10
  · subst h10
    rw [ud_ne (by omega), ud_s]
    rfl
  by_cases h6 : j = 6
  · subst h6
    rw [ud_ne (by omega), ud_ne (by omega), ud_s]
    rfl
  by_cases h4 : j = 4
  · subst h4
    rw [ud_ne (by omega), ud_ne (by omega), ud_ne (by omega), ud_s]
    rfl
  by_cases h1 : j = 1
  · subst h1
    rw [ud_ne (by omega), ud_ne (by omega), ud_ne (by omega), ud_ne (by omega), ud_s]
    rfl
  by_cases h0 : j = 0
  · subst h0
    rw [ud_ne (by omega), ud_ne (by omega), ud_ne (by omega), ud_ne (by omega), ud_ne (by omega), ud_s]
    rfl
  rw [if_neg h0, if_neg h1, if_neg (by omega), if_neg h10, ud_ne (by omega), ud_ne (by omega), ud_ne (by omega), ud_ne (by omega), ud_ne (by omega), ud_ne (by omega)]
  exact if_pos (by omega)
theorem cLay_brd {l j : Nat} {c w : Int32} {B : Nat → Int32} (hj : j < 22) : cLay l c w B (l * 22 + j) = if j = 0 then c else if j = 1 then w else if j = 4 ∨ j = 6 then 20 else if j = 10 then -1009 else if j < 12 then 0 else -1009 := by
  unfold cLay
  by_cases h10 : j = 10
  · subst h10
    rw [ud_s]
    rfl
  by_cases h6 : j = 6
  · subst h6
    rw [ud_ne (by omega), ud_s]
    rfl
  by_cases h4 : j = 4
  · subst h4
    rw [ud_ne (by omega), ud_ne (by omega), ud_s]
    rfl
  by_cases h1 : j = 1
  · subst h1
    rw [ud_ne (by omega), ud_ne (by omega), ud_ne (by omega), ud_s]
    rfl
  by_cases h0 : j = 0
  · subst h0
    rw [ud_ne (by omega), ud_ne (by omega), ud_ne (by omega), ud_ne (by omega), ud_s]
    rfl
  rw [if_neg h0, if_neg h1, if_neg (by omega), if_neg h10, ud_ne (by omega), ud_ne (by omega), ud_ne (by omega), ud_ne (by omega), ud_ne (by omega)]
  unfold cLay0
  rw [if_pos (by omega)]
  by_cases h12 : j < 12
  · rw [if_pos h12, if_pos (by omega)]
  · rw [if_neg h12, if_neg (by omega)]
theorem cLay_out {l i : Nat} {c w : Int32} {B : Nat → Int32} (h : bOut l i) : cLay l c w B i = B i := by
  unfold bOut at h
  unfold cLay cLay0
  rw [ud_ne (by omega), ud_ne (by omega), ud_ne (by omega), ud_ne (by omega), ud_ne (by omega), if_neg (by omega)]
theorem gZone_0 {g : Nat → Int32} (hL : gLen g) : gZone g 0 = 0 := by
  have := (hL 0 (by omega)).2
  exact gZone_eq (z := 0) (by omega) (Nat.zero_le _) (by show 0 < 0 + gln g 0; omega)
theorem Ro_load {p l c w : Nat} {M : vv_M} {g : Nat → Int32} (hl : l ≤ 30) (hI : gInv g l) (hR : Ro p M g l) (hc : c < 4) (hw1 : 1 ≤ w) (hw9 : w ≤ 9) : gInv (gLoad l (nI c) (nI w) g) (l + 1) ∧ Ro p (va_up (va_up M (p + 4) (cLay l (nI c) (nI w) (M (p + 4)))) p (upd (M p) 6 (nI (l + 1)))) (gLoad l (nI c) (nI w) g) (l + 1) := by
  obtain ⟨hL, hl53, -, hs, ha, hBs⟩ := hI
  obtain ⟨h1, h2, h3, ⟨h4, h5, h6, h7⟩, h8⟩ := hR
  have hlo : ∀ i, i < 56 → i ≠ 53 → gLoad l (nI c) (nI w) g i = g i := fun i hi h53 => gLoad_out (Or.inl (by omega)) h53
  have hz : ∀ z, z < 6 → gLoad l (nI c) (nI w) g (0 + 4 * z + 0) = g (0 + 4 * z + 0) := fun z hz => hlo _ (by omega) (by omega)
  have h53 : gLoad l (nI c) (nI w) g 53 = nI (l + 1) := by unfold gLoad; rw [ud_s]
  have hp6 := gPre_6 hL
  have hL' := gLen_congr hz hL
  have hc0 : gcell (gLoad l (nI c) (nI w) g) l = 0 := by
    unfold gcell
    rw [gLoad_brd (by omega)]
    rfl
  have hbit : ∀ k, k < 5 → ¬ gbit (gLoad l (nI c) (nI w) g (56 + 21 * l + 8)) k := by
    intro k hk
    rw [gLoad_brd (by omega)]
    exact gbit_0 (by omega)
  refine ⟨⟨hL', h53, by omega, by rw [hlo 48 (by omega) (by omega)]; exact hs, by rw [hlo 49 (by omega) (by omega)]; exact ha, fun q hq => ?_⟩, ⟨fun k hk => ?_, fun k hk => ?_, fun k hk => ?_, ⟨?_, ?_, ?_, ?_⟩, fun q hq => ?_⟩⟩
  · by_cases hql : q = l
    · subst hql
      refine ⟨⟨c, hc, ?_⟩, ⟨w, hw1, hw9, ?_⟩, fun _ => ⟨?_, ?_⟩, fun k hk hb => absurd hb (hbit k hk)⟩
      · rw [gLoad_brd (by omega)]; rfl
      · rw [gLoad_brd (by omega)]; rfl
      · rw [hc0, gLoad_brd (by omega)]; rfl
      · rw [hc0, gPre_congr hz 6 (by omega)]; omega
    · exact gBrd_congr (gPre_congr hz 6 (by omega)) (fun j hj => gLoad_out (by unfold gOut; omega) (by omega)) (hBs q (by omega))
  · rw [up_n (by omega), up_n (by omega), hlo k (by omega) (by omega)]; exact h1 k hk
  · rw [up_n (by omega), up_n (by omega), hlo _ (by omega) (by omega)]; exact h2 k hk
  · rw [up_n (by omega), up_n (by omega), hlo _ (by omega) (by omega)]; exact h3 k hk
  · rw [up_s, ud_ne (by omega), hlo _ (by omega) (by omega)]; exact h4
  · rw [up_s, ud_s, h53]
  · rw [up_s, ud_ne (by omega), hlo _ (by omega) (by omega)]; exact h6
  · rw [up_s, ud_ne (by omega), hlo _ (by omega) (by omega)]; exact h7
  · rw [up_n (by omega), up_s]
    by_cases hql : q = l
    · subst hql
      refine ⟨fun j hj h9 => ?_, fun _ => ⟨?_, ?_⟩, fun h => ?_, fun k hk => ⟨fun hb => absurd hb (hbit k hk), fun _ => ⟨?_, ?_⟩⟩⟩
      · rw [cLay_brd (by omega), gLoad_brd (by omega), if_pos (by omega : j < 12)]
      · rw [cLay_brd (by omega), gLoad_brd (by omega)]; rfl
      · rw [cLay_brd (by omega), hc0, gZone_0 hL']; rfl
      · rw [gLoad_brd (by omega)] at h
        exact absurd rfl h
      · rw [cLay_brd (by omega), if_neg (by omega), if_neg (by omega), if_neg (by omega), if_neg (by omega), if_neg (by omega)]
      · rw [cLay_brd (by omega), if_neg (by omega), if_neg (by omega), if_neg (by omega), if_neg (by omega), if_neg (by omega)]
    · exact Rb_congr (h8 q (by omega)) (fun j hj => cLay_out (by unfold bOut; omega)) (fun j hj => gLoad_out (by unfold gOut; omega) (by omega)) (fun x => gZone_congr hz x)
