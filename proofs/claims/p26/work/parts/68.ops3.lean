/-! the ovens' other calls, in the class -/
theorem gE_up {g : Nat → Int32} {i : Nat} {v : Int32} (hE : gE g) (hi : i ≠ 52) (hv : ¬ v < 0) : gE (upd g i v) := by
  obtain ⟨e1, ⟨e2, e3⟩, t, e4, e5⟩ := hE
  have h : ∀ k, ¬ g k < 0 → ¬ upd g i v k < 0 := by
    intro k hk
    by_cases hki : k = i
    · rw [hki, ud_s]; exact hv
    · rw [ud_ne hki]; exact hk
  exact ⟨fun k hk => h _ (e1 k hk), ⟨h _ e2, h _ e3⟩, t, e4, by rw [ud_ne (by omega)]; exact e5⟩
theorem ge_0 {v w : Int32} (h1 : 0 ≤ w) (h2 : w ≤ v) : ¬ v < 0 := Int32.not_lt.mpr (Int32.le_trans h1 h2)
/-- a change below the boards that touches no length -/
theorem Ro_lo {p l : Nat} {M M' : vv_M} {g g' : Nat → Int32} (hR : Ro p M g l) (h1 : ∀ k, k < 24 → M' (p + 1) k = g' k) (h2 : ∀ k, k < 24 → M' (p + 2) k = g' (24 + k)) (h3 : ∀ k, k < 4 → M' (p + 3) k = g' (48 + k)) (h0 : M' p = M p) (h4 : M' (p + 4) = M (p + 4)) (hg : ∀ k, 52 ≤ k → g' k = g k) (hz : (∀ z, z < 6 → g' (0 + 4 * z + 0) = g (0 + 4 * z + 0)) ∨ (∀ b, b < l → g (56 + 21 * b + 2) ≠ 0)) : Ro p M' g' l := by
  obtain ⟨-, -, -, ⟨q4, q5, q6, q7⟩, q8⟩ := hR
  refine ⟨h1, h2, h3, ⟨by rw [h0, hg _ (by omega)]; exact q4, by rw [h0, hg _ (by omega)]; exact q5, by rw [h0, hg _ (by omega)]; exact q6, by rw [h0, hg _ (by omega)]; exact q7⟩, fun b hb => ?_⟩
  rw [h4]
  rcases hz with hz | hz
  · exact Rb_congr (q8 b hb) (fun j hj => rfl) (fun j hj => hg _ (by omega)) (fun x => gZone_congr hz x)
  · obtain ⟨a1, a2, a3, a4⟩ := q8 b hb
    refine ⟨fun j hj h9 => by rw [hg _ (by omega)]; exact a1 j hj h9, fun h => ?_, fun h => ?_, fun k hk => ?_⟩
    · rw [hg _ (by omega)] at h
      exact absurd h (hz b hb)
    · exact a3 (hz b hb)
    · rw [hg _ (by omega), hg _ (by omega), hg _ (by omega)]
      exact a4 k hk
theorem o_zone {n p : Nat} (hn : 200 ≤ n) (z v t w : Int32) : OpC p (aZone z v t w) (nZone z v t w) (f_X2_changeZone n p z v t w) := by
  rintro M g ⟨l, hl, hI, hE, hR⟩
  have hO : Ov p M g := ⟨l, hl, hI, hE, hR⟩
  have hg := gl_eq hI
  unfold f_X2_changeZone
  rw [c_in_b]
  by_cases hz : 0 ≤ z ∧ z ≤ 5
  rotate_left
  · refine OpC.no (e := -1001) hO ?_ (by decide) ?_
    · unfold aZone
      rw [if_neg hz]
    · rw [zi_f hz]; rfl
  rw [zi_t hz]
  show ∃ M', (if (1 : Int32) = 0 then _ else _) = _ ∧ _
  rw [if_neg (by decide), c_in_b]
  by_cases hv : 2 ≤ v ∧ v ≤ 8
  rotate_left
  · refine OpC.no (e := -1001) hO ?_ (by decide) ?_
    · unfold aZone
      rw [if_pos hz, if_neg hv]
    · rw [zi_f hv]; rfl
  rw [zi_t hv]
  show ∃ M', (if (1 : Int32) = 0 then _ else _) = _ ∧ _
  rw [if_neg (by decide), c_in_b]
  by_cases ht : 20 ≤ t ∧ t ≤ 300
  rotate_left
  · refine OpC.no (e := -1001) hO ?_ (by decide) ?_
    · unfold aZone
      rw [if_pos hz, if_pos hv, if_neg ht]
    · rw [zi_f ht]; rfl
  rw [zi_t ht]
  show ∃ M', (if (1 : Int32) = 0 then _ else _) = _ ∧ _
  rw [if_neg (by decide), c_in_b]
  by_cases hw : 1 ≤ w ∧ w ≤ 20
  rotate_left
  · refine OpC.no (e := -1001) hO ?_ (by decide) ?_
    · unfold aZone
      rw [if_pos hz, if_pos hv, if_pos ht, if_neg hw]
    · rw [zi_f hw]; rfl
  rw [zi_t hw]
  show ∃ M', (if (1 : Int32) = 0 then _ else _) = _ ∧ _
  rw [if_neg (by decide), bnd (c_many (by omega) 0 hI hR)]
  show ∃ M', (if gMany g 0 l ≤ 0 then f_X2_changeZone_58 n p z v t w M else some (-1002, M)) = _ ∧ _
  by_cases hm : gMany g 0 l ≤ 0
  rotate_left
  · refine OpC.no (e := -1002) hO ?_ (by decide) ?_
    · unfold aZone
      rw [if_pos hz, if_pos hv, if_pos ht, if_pos hw, hg, if_neg hm]
    · rw [if_neg hm]
  rw [if_pos hm]
  obtain ⟨zn, hzn, rfl⟩ := i_rng (m := 5) (by omega) hz.1 hz.2
  obtain ⟨vn, hvn, rfl⟩ := i_rng (m := 8) (by omega) (Int32.le_trans (by decide) hv.1) hv.2
  have hv2 : 2 ≤ vn := (nI_leI (a := 2) (by omega) (by omega)).mp hv.1
  have hle := gMn_le g 0 l
  have hno : ∀ b, b < l → g (56 + 21 * b + 2) ≠ 0 := by
    rw [gMn_eq] at hm
    have h0 : gMn g 0 l ≤ 0 := (nI_leI (b := 0) (by omega) (by omega)).mp hm
    exact (gMn_zero l).mp (by omega)
  have hhi : ∀ i, 24 ≤ i → nZone (nI zn) (nI vn) t w g i = g i := by
    intro i hi
    unfold nZone
    rw [ix_cl (by omega), ud_ne (by omega), ud_ne (by omega), ud_ne (by omega), ud_ne (by omega)]
  have hlen : ∀ q, q < 6 → nZone (nI zn) (nI vn) t w g (0 + 4 * q + 0) = if q = zn then nI vn else g (0 + 4 * q + 0) := by
    intro q hq
    unfold nZone
    rw [ix_cl (by omega)]
    by_cases hqz : q = zn
    · subst hqz
      rw [if_pos rfl, ud_ne (by omega), ud_ne (by omega), ud_ne (by omega), ud_s]
    · rw [if_neg hqz, ud_ne (by omega), ud_ne (by omega), ud_ne (by omega), ud_ne (by omega)]
  have hL' : gLen (nZone (nI zn) (nI vn) t w g) := by
    intro q hq
    unfold gln
    rw [hlen q hq]
    by_cases hqz : q = zn
    · rw [if_pos hqz, ix_cl (by omega)]
      exact ⟨rfl, hv2, hvn⟩
    · rw [if_neg hqz]
      exact hI.1 q hq
  have hp6 := gPre_6 hL'
  have hI' : gInv (nZone (nI zn) (nI vn) t w g) l := by
    obtain ⟨hL, hl53, h31, hs, ha, hBs⟩ := hI
    refine ⟨hL', by rw [hhi _ (by omega)]; exact hl53, h31, by rw [hhi _ (by omega)]; exact hs, by rw [hhi _ (by omega)]; exact ha, fun b hb => ?_⟩
    obtain ⟨⟨c, b1, b2⟩, ⟨u, b3, b4, b5⟩, -, b7⟩ := hBs b hb
    refine ⟨⟨c, b1, by rw [hhi _ (by omega)]; exact b2⟩, ⟨u, b3, b4, by rw [hhi _ (by omega)]; exact b5⟩, fun h => ?_, fun k hk h => ?_⟩
    · rw [hhi _ (by omega)] at h
      exact absurd h (hno b hb)
    · rw [hhi _ (by omega)] at h ⊢
      exact b7 k hk h
  have hE' : gE (nZone (nI zn) (nI vn) t w g) := by
    obtain ⟨e1, ⟨e2, e3⟩, u, e4, e5⟩ := hE
    exact ⟨fun k hk => by rw [hhi _ (by omega)]; exact e1 k hk, ⟨by rw [hhi _ (by omega)]; exact e2, by rw [hhi _ (by omega)]; exact e3⟩, u, e4, by rw [hhi _ (by omega)]; exact e5⟩
  have hR' : Ro p (va_up M (p + 1) (upd (upd (upd (upd (M (p + 1)) (zn * 4 + 0) (nI vn)) (zn * 4 + 1) t) (zn * 4 + 2) w) (zn * 4 + 3) t)) (nZone (nI zn) (nI vn) t w g) l := by
    refine Ro_lo hR (fun k hk => ?_) (fun k hk => ?_) (fun k hk => ?_) (up_n (by omega)) (up_n (by omega)) (fun k hk => hhi k (by omega)) (Or.inr hno)
    · rw [up_s]
      unfold nZone
      rw [ix_cl (by omega), show zn * 4 + 0 = 0 + 4 * zn + 0 by omega, show zn * 4 + 1 = 0 + 4 * zn + 1 by omega, show zn * 4 + 2 = 0 + 4 * zn + 2 by omega, show zn * 4 + 3 = 0 + 4 * zn + 3 by omega]
      have hk1 := hR.1 k hk
      unfold upd
      split
      · rfl
      split
      · rfl
      split
      · rfl
      split
      · rfl
      exact hk1
    · rw [up_n (by omega), hhi _ (by omega)]
      exact hR.2.1 k hk
    · rw [up_n (by omega), hhi _ (by omega)]
      exact hR.2.2.1 k hk
  have ha : aZone (nI zn) (nI vn) t w g = nI (gPre (nZone (nI zn) (nI vn) t w g) 6) := by
    unfold aZone
    rw [if_pos hz, if_pos hv, if_pos ht, if_pos hw, hg, if_pos hm, gBelt_nI hL']
  have hb := c_belt (n := n) (p := p) (g := nZone (nI zn) (nI vn) t w g) _ hR'.1 hL' (by omega)
  rw [ha]
  refine ⟨_, ?_, Fr.up (by omega), fun h => absurd h (nI_pos (by omega)), fun _ => ⟨l, hl, hI', hE', hR'⟩⟩
  unfold f_X2_changeZone_58 f_X2_changeZone_104
  simp (disch := omega) only [ix_al, ix_ml, ix_cl, ix_cll, ix_n0, ix_l0, ix_nge, or_self, ↓reduceIte, ↓ix_let, up_s, bx_uu]
  rw [bnd hb]
theorem i_05 {x : Int32} (h : 0 ≤ x ∧ x ≤ 5) : ∃ a, a ≤ 5 ∧ x = nI a := i_rng (m := 5) (by omega) h.1 h.2
theorem i_03 {x : Int32} (h : 0 ≤ x ∧ x ≤ 3) : ∃ a, a ≤ 3 ∧ x = nI a := i_rng (m := 3) (by omega) h.1 h.2
theorem okC_0 {w v : Int32} (h : okC w v) : ¬ v < 0 := by
  obtain ⟨h1, h2, -⟩ := h
  refine ge_0 ?_ h2
  obtain ⟨a, ha, rfl⟩ := i_05 h1
  rw [ix_cl (by omega)]
  rcases (show a = 0 ∨ a = 1 ∨ a = 2 ∨ a = 3 ∨ a = 4 ∨ a = 5 by omega) with rfl | rfl | rfl | rfl | rfl | rfl <;> decide
theorem okN_0 {w v : Int32} (h : okN w v) : ¬ v < 0 := by
  obtain ⟨h1, h2, -⟩ := h
  refine ge_0 ?_ h2
  obtain ⟨a, ha, rfl⟩ := i_03 h1
  rw [ix_cl (by omega)]
  rcases (show a = 0 ∨ a = 1 ∨ a = 2 ∨ a = 3 by omega) with rfl | rfl | rfl | rfl <;> decide
theorem o_curve {n p : Nat} (hn : 200 ≤ n) (c w v : Int32) : OpC p (aCurve c w v) (nCurve c w v) (f_X2_changeCurve n p c w v) := by
  rintro M g ⟨l, hl, hI, hE, hR⟩
  have hO : Ov p M g := ⟨l, hl, hI, hE, hR⟩
  unfold f_X2_changeCurve
  rw [c_in_b]
  by_cases hc : 0 ≤ c ∧ c ≤ 3
  rotate_left
  · refine OpC.no (e := -1001) hO ?_ (by decide) ?_
    · unfold aCurve
      rw [if_neg (fun h => hc h.1)]
    · rw [zi_f hc]; rfl
  rw [zi_t hc]
  show ∃ M', (if (1 : Int32) = 0 then _ else _) = _ ∧ _
  rw [if_neg (by decide), c_in_b]
  by_cases hw : 0 ≤ w ∧ w ≤ 5
  rotate_left
  · refine OpC.no (e := -1001) hO ?_ (by decide) ?_
    · unfold aCurve
      rw [if_neg (fun h => hw h.2.1)]
    · rw [zi_f hw]; rfl
  rw [zi_t hw]
  have hw' := hw
  obtain ⟨wn, hwn, rfl⟩ := i_05 hw'
  have hgd : (nI wn < 0 ∨ 6 ≤ (nI wn).toNatClampNeg) = False := ix_gd (by omega) (by omega)
  show ∃ M', (if (1 : Int32) = 0 then _ else if nI wn < 0 ∨ 6 ≤ (nI wn).toNatClampNeg then _ else if nI wn < 0 ∨ 6 ≤ (nI wn).toNatClampNeg then _ else _) = _ ∧ _
  rw [if_neg (by decide), if_neg (fun h => hgd ▸ h), if_neg (fun h => hgd ▸ h), c_in_b]
  by_cases hk : okC (nI wn) v
  rotate_left
  · refine OpC.no (e := -1001) hO ?_ (by decide) ?_
    · unfold aCurve
      rw [if_neg (fun h => hk h.2)]
    · rw [zi_f (fun h => hk ⟨hw, h⟩)]; rfl
  rw [zi_t hk.2]
  have hc' := hc
  obtain ⟨cn, hcn, rfl⟩ := i_03 hc'
  have e0 : M (p + 2) (cn * 6 + wn) = g (24 + 6 * cn + wn) := by
    rw [hR.2.1 _ (by omega), show 24 + (cn * 6 + wn) = 24 + 6 * cn + wn by omega]
  have ha : aCurve (nI cn) (nI wn) v g = g (24 + 6 * cn + wn) := by
    unfold aCurve
    rw [if_pos ⟨hc, hk⟩, ix_cl (by omega), ix_cl (by omega)]
  have hneg : ¬ g (24 + 6 * cn + wn) < 0 := by
    have := hE.1 (6 * cn + wn) (by omega)
    rw [show 24 + (6 * cn + wn) = 24 + 6 * cn + wn by omega] at this
    exact this
  rw [ha]
  refine ⟨va_up M (p + 2) (upd (M (p + 2)) (cn * 6 + wn) v), ?_, Fr.up (by omega), fun h => absurd h hneg, fun _ => ?_⟩
  · simp (disch := omega) only [ix_al, ix_ml, nI_add, ix_cl, ix_cll, ix_n0, ix_l0, ix_nge, or_self, ↓reduceIte, ↓ix_let, up_s, bx_uu, e0, show ((1 : Int32) = 0) = False from by decide]
  · unfold nCurve
    rw [ix_cl (by omega), ix_cl (by omega)]
    refine ⟨l, hl, gInv_low hI (fun q hq => ud_ne (by omega)) (ud_ne (by omega)) (by rw [ud_ne (by omega)]; exact hI.2.2.2.1) (ud_ne (by omega)) (fun i hi => ud_ne (by omega)), gE_up hE (by omega) (okC_0 hk), ?_⟩
    refine Ro_lo hR (fun k hk => ?_) (fun k hk => ?_) (fun k hk => ?_) (up_n (by omega)) (up_n (by omega)) (fun k hk => ud_ne (by omega)) (Or.inl (fun q hq => ud_ne (by omega)))
    · rw [up_n (by omega), ud_ne (by omega)]
      exact hR.1 k hk
    · rw [up_s]
      by_cases hkk : k = cn * 6 + wn
      · rw [hkk, ud_s, show 24 + (cn * 6 + wn) = 24 + 6 * cn + wn by omega, ud_s]
      · rw [ud_ne hkk, ud_ne (by omega)]
        exact hR.2.1 k hk
    · rw [up_n (by omega), ud_ne (by omega)]
      exact hR.2.2.1 k hk
theorem nNum_inv {g : Nat → Int32} {l wn : Nat} {v : Int32} (hwn : wn ≤ 3) (hI : gInv g l) (hk : okN (nI wn) v) : gInv (upd g (48 + wn) v) l := by
  obtain ⟨hL, hl53, h31, hs, ha, hBs⟩ := hI
  have hz : ∀ z, z < 6 → upd g (48 + wn) v (0 + 4 * z + 0) = g (0 + 4 * z + 0) := fun z hz => ud_ne (by omega)
  obtain ⟨hk1, hk2, hk3⟩ := hk
  refine ⟨gLen_congr hz hL, by rw [ud_ne (by omega)]; exact hl53, h31, ?_, ?_, fun b hb => gBrd_congr (gPre_congr hz 6 (by omega)) (fun j hj => ud_ne (by omega)) (hBs b hb)⟩
  · by_cases h0 : wn = 0
    · subst h0
      rw [ud_s]
      obtain ⟨a, b1, b2⟩ := i_rng (m := 3) (by omega) (Int32.le_trans (by decide) hk2) hk3
      refine ⟨a, b2, ?_, b1⟩
      rw [b2] at hk2
      exact (nI_leI (a := 1) (by omega) (by omega)).mp hk2
    · rw [ud_ne (by omega)]
      exact hs
  · by_cases h0 : wn = 1
    · subst h0
      rw [ud_s]
      obtain ⟨a, b1, b2⟩ := i_rng (m := 20) (by omega) (Int32.le_trans (by decide) hk2) hk3
      refine ⟨a, b2, ?_, b1⟩
      rw [b2] at hk2
      exact (nI_leI (a := 1) (by omega) (by omega)).mp hk2
    · rw [ud_ne (by omega)]
      exact ha
theorem o_num {n p : Nat} (hn : 200 ≤ n) (w v : Int32) : OpC p (aNum w v) (nNum w v) (f_X2_changeNumber n p w v) := by
  rintro M g ⟨l, hl, hI, hE, hR⟩
  have hO : Ov p M g := ⟨l, hl, hI, hE, hR⟩
  unfold f_X2_changeNumber
  rw [c_in_b]
  by_cases hw : 0 ≤ w ∧ w ≤ 3
  rotate_left
  · refine OpC.no (e := -1001) hO ?_ (by decide) ?_
    · unfold aNum
      rw [if_neg (fun h => hw h.1)]
    · rw [zi_f hw]; rfl
  rw [zi_t hw]
  have hw' := hw
  obtain ⟨wn, hwn, rfl⟩ := i_03 hw'
  have hgd : (nI wn < 0 ∨ 4 ≤ (nI wn).toNatClampNeg) = False := ix_gd (by omega) (by omega)
  show ∃ M', (if (1 : Int32) = 0 then _ else if nI wn < 0 ∨ 4 ≤ (nI wn).toNatClampNeg then _ else if nI wn < 0 ∨ 4 ≤ (nI wn).toNatClampNeg then _ else _) = _ ∧ _
  rw [if_neg (by decide), if_neg (fun h => hgd ▸ h), if_neg (fun h => hgd ▸ h), c_in_b]
  by_cases hk : okN (nI wn) v
  rotate_left
  · refine OpC.no (e := -1001) hO ?_ (by decide) ?_
    · unfold aNum
      rw [if_neg hk]
    · rw [zi_f (fun h => hk ⟨hw, h⟩)]; rfl
  rw [zi_t hk.2]
  have e0 : M (p + 3) wn = g (48 + wn) := hR.2.2.1 wn (by omega)
  have ha : aNum (nI wn) v g = g (48 + wn) := by
    unfold aNum
    rw [if_pos hk, ix_cl (by omega)]
  have hneg : ¬ g (48 + wn) < 0 := by
    obtain ⟨s, s1, -, s3⟩ := hI.2.2.2.1
    obtain ⟨a, a1, -, a3⟩ := hI.2.2.2.2.1
    rcases (show wn = 0 ∨ wn = 1 ∨ wn = 2 ∨ wn = 3 by omega) with rfl | rfl | rfl | rfl
    · show ¬ g 48 < 0
      rw [s1]; exact nI_pos (by omega)
    · show ¬ g 49 < 0
      rw [a1]; exact nI_pos (by omega)
    · exact hE.2.1.1
    · exact hE.2.1.2
  rw [ha]
  refine ⟨va_up M (p + 3) (upd (M (p + 3)) wn v), ?_, Fr.up (by omega), fun h => absurd h hneg, fun _ => ?_⟩
  · simp (disch := omega) only [ix_al, ix_ml, nI_add, ix_cl, ix_cll, ix_n0, ix_l0, ix_nge, or_self, ↓reduceIte, ↓ix_let, up_s, bx_uu, e0, show ((1 : Int32) = 0) = False from by decide]
  · unfold nNum
    rw [ix_cl (by omega)]
    refine ⟨l, hl, nNum_inv hwn hI hk, gE_up hE (by omega) (okN_0 hk), ?_⟩
    refine Ro_lo hR (fun k hk => ?_) (fun k hk => ?_) (fun k hk => ?_) (up_n (by omega)) (up_n (by omega)) (fun k hk => ud_ne (by omega)) (Or.inl (fun q hq => ud_ne (by omega)))
    · rw [up_n (by omega), ud_ne (by omega)]
      exact hR.1 k hk
    · rw [up_n (by omega), ud_ne (by omega)]
      exact hR.2.1 k hk
    · rw [up_s]
      by_cases hkk : k = wn
      · rw [hkk, ud_s, ud_s]
      · rw [ud_ne hkk, ud_ne (by omega)]
        exact hR.2.2.1 k hk
