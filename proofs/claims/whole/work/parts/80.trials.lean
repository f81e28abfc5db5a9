/-! trials: wouldFail, heaviest -/
theorem ud_id {f : Nat → Int32} {k : Nat} : upd f k (f k) = f := by
  funext j
  unfold upd
  by_cases h : j = k
  · rw [if_pos h, h]
  · rw [if_neg h]
/-- the speed and the bound of a trial -/
def gSp (s : Int32) (g : Nat → Int32) : Nat → Int32 := if s = 0 then g else upd (upd g 50 0) 48 s
theorem gSp_load {l : Nat} {c w s : Int32} {g : Nat → Int32} : gLoad l c w (gSp s g) = gSp s (gLoad l c w g) := by
  unfold gSp
  by_cases hs : s = 0
  · rw [if_pos hs, if_pos hs]
  rw [if_neg hs, if_neg hs]
  funext i
  by_cases h53 : i = 53
  · subst h53
    unfold gLoad
    rw [ud_s, ud_ne (by omega), ud_ne (by omega), ud_s]
  by_cases ho : gOut l i
  · rw [gLoad_out ho h53]
    by_cases h48 : i = 48
    · subst h48
      rw [ud_s, ud_s]
    rw [ud_ne h48, ud_ne h48]
    by_cases h50 : i = 50
    · subst h50
      rw [ud_s, ud_s]
    rw [ud_ne h50, ud_ne h50, gLoad_out ho h53]
  · obtain ⟨j, hj, rfl⟩ : ∃ j, j < 21 ∧ i = 56 + 21 * l + j := by
      unfold gOut at ho
      exact ⟨i - (56 + 21 * l), by omega, by omega⟩
    rw [ud_ne (by omega), ud_ne (by omega), gLoad_brd hj, gLoad_brd hj]
theorem gSp_inv {g : Nat → Int32} {l : Nat} {s : Int32} (hs : 0 ≤ s ∧ s ≤ 3) (hI : gInv g l) : gInv (gSp s g) l := by
  unfold gSp
  by_cases h0 : s = 0
  · rw [if_pos h0]
    exact hI
  rw [if_neg h0]
  obtain ⟨sn, hsn, rfl⟩ := i_03 hs
  have h1 : 1 ≤ sn := by
    rcases Nat.eq_zero_or_pos sn with rfl | h
    · exact absurd rfl h0
    · exact h
  exact nNum_inv (wn := 0) (by omega) (nNum_inv (wn := 2) (by omega) hI (nv_2.mpr (by decide))) (nv_0.mpr ⟨nI_le (a := 1) h1 (by omega), nI_le (b := 3) hsn (by omega)⟩)
theorem gSp_hi {g : Nat → Int32} {s : Int32} {k : Nat} (h1 : k ≠ 48) (h2 : k ≠ 50) : gSp s g k = g k := by
  unfold gSp
  split
  · rfl
  · rw [ud_ne h1, ud_ne h2]
theorem Ro_sp {p l : Nat} {M : vv_M} {g : Nat → Int32} {s : Int32} (hR : Ro p M g l) (hs : s ≠ 0) : Ro p (va_up M (p + 3) (upd (upd (M (p + 3)) 0 s) 2 0)) (gSp s g) l := by
  refine Ro_lo hR (fun k hk => ?_) (fun k hk => ?_) (fun k hk => ?_) (up_n (by omega)) (up_n (by omega)) (fun k hk => gSp_hi (by omega) (by omega)) (Or.inl (fun q hq => gSp_hi (by omega) (by omega)))
  · rw [up_n (by omega), gSp_hi (by omega) (by omega)]
    exact hR.1 k hk
  · rw [up_n (by omega), gSp_hi (by omega) (by omega)]
    exact hR.2.1 k hk
  · rw [up_s]
    unfold gSp
    rw [if_neg hs]
    by_cases h0 : k = 0
    · subst h0
      rw [ud_ne (by omega), ud_s, ud_s]
    · by_cases h2 : k = 2
      · subst h2
        rw [ud_s, ud_ne (by omega), ud_s]
      · rw [ud_ne (by omega), ud_ne (by omega), ud_ne (by omega), ud_ne (by omega)]
        exact hR.2.2.1 k hk
theorem gLoad_inv {l c w : Nat} {g : Nat → Int32} (hl : l ≤ 30) (hI : gInv g l) (hc : c < 4) (hw1 : 1 ≤ w) (hw9 : w ≤ 9) : gInv (gLoad l (nI c) (nI w) g) (l + 1) := by
  obtain ⟨hL, hl53, -, hs, ha, hBs⟩ := hI
  have hlo : ∀ i, i < 56 → i ≠ 53 → gLoad l (nI c) (nI w) g i = g i := fun i hi h53 => gLoad_out (Or.inl (by omega)) h53
  have hz : ∀ z, z < 6 → gLoad l (nI c) (nI w) g (0 + 4 * z + 0) = g (0 + 4 * z + 0) := fun z hz => hlo _ (by omega) (by omega)
  have h53 : gLoad l (nI c) (nI w) g 53 = nI (l + 1) := by unfold gLoad; rw [ud_s]
  have hp6 := gPre_6 hL
  have hc0 : gcell (gLoad l (nI c) (nI w) g) l = 0 := by
    unfold gcell
    rw [gLoad_brd (by omega)]
    rfl
  refine ⟨gLen_congr hz hL, h53, by omega, by rw [hlo 48 (by omega) (by omega)]; exact hs, by rw [hlo 49 (by omega) (by omega)]; exact ha, fun q hq => ?_⟩
  by_cases hql : q = l
  · subst hql
    refine ⟨⟨c, hc, ?_⟩, ⟨w, hw1, hw9, ?_⟩, fun _ => ⟨?_, ?_⟩, fun k hk hb => absurd hb ?_⟩
    · rw [gLoad_brd (by omega)]; rfl
    · rw [gLoad_brd (by omega)]; rfl
    · rw [hc0, gLoad_brd (by omega)]; rfl
    · rw [hc0, gPre_congr hz 6 (by omega)]; omega
    · rw [gLoad_brd (by omega)]
      exact gbit_0 (by omega)
  · exact gBrd_congr (gPre_congr hz 6 (by omega)) (fun j hj => gLoad_out (by unfold gOut; omega) (by omega)) (hBs q (by omega))
theorem trial {n P Q l cn wn : Nat} {R : Nat → Int32} {s : Int32} (hPQ : P + 158 ≤ Q) (hn : 5000 ≤ n) (hl : l ≤ 30) (hI : gInv R l) (hE : gE R) (hc : cn < 4) (hw1 : 1 ≤ wn) (hw9 : wn ≤ 9) (hs : 0 ≤ s ∧ s ≤ 3) : ∃ x, (∀ M, Ov (P + 1 + 1) M R → ∃ M1, f_X4_faultsInTrial n P (nI cn) (nI wn) s M = some (x, M1) ∧ FrS (P + 152) (P + 158) M M1) ∧ (∀ M, Ag R (M (Q + 1)) → ∃ M2, f_X5_failsBy n Q (nI cn) (nI wn) s M = some (x, M2) ∧ (∀ q, q ≠ Q + 1 → M2 q = M q) ∧ Ag R (M2 (Q + 1))) := by
  have hag : ∀ k, k < 707 → gCpy 0 12738 707 R k = R k := fun k hk => by unfold gCpy; rw [if_neg (by omega)]
  generalize hG : gCpy 0 12738 707 R = G at hag
  have hI1 : gInv G l := gInv_ext (by omega) (fun k hk => hag k (by omega)) hI
  have hIs := gSp_inv hs hI1
  have hH : gInv (gLoad l (nI cn) (nI wn) (gSp s G)) (l + 1) := gLoad_inv hl hIs hc hw1 hw9
  obtain ⟨i, i1, i2, i3⟩ := ride_ex (show l < l + 1 by omega) 48 _ hH (fun _ => by omega)
  have hHG : ∀ k, 707 ≤ k → gLoad l (nI cn) (nI wn) (gSp s G) k = G k := fun k hk => by
    rw [gLoad_out (by unfold gOut; omega) (by omega), gSp_hi (by omega) (by omega)]
  generalize hHd : gLoad l (nI cn) (nI wn) (gSp s G) = H at hH i2 i3 hHG
  refine ⟨gTicks (l + 1) i H (56 + 21 * l + 8), fun M hM => ?_, fun M hM => ?_⟩
  · have hO1 : Ov (P + 1 + 1) M G := Ov_ext (fun _ _ _ => rfl) hag hM
    obtain ⟨M1, a1, a2, a3⟩ := c_become (n := n) (p := P + 152) hO1 (by omega)
    obtain ⟨l', hl', hI', -, hR'⟩ := a2
    obtain rfl : l' = l := by
      have e1 := gl_eq hI'
      have e3 := gl_eq hI1
      omega
    have h38 : ∀ Mt, Ro (P + 152) Mt (gSp s G) l' → ∃ M4, f_X4_faultsInTrial_38 n P (nI cn) (nI wn) Mt = some (gTicks (l' + 1) i H (56 + 21 * l' + 8), M4) ∧ FrS (P + 152) (P + 158) Mt M4 := by
      intro Mt hMt
      have h6 : Mt (P + 152) 6 = nI l' := hMt.2.2.2.1.2.1.trans hIs.2.1
      have hp := c_place (n := n) (p := P + 152) (nI cn) (nI wn) Mt hl h6 (by omega)
      have hRl := (Ro_load hl hIs hMt hc hw1 hw9).2
      rw [hHd] at hRl
      obtain ⟨M4, b1, b2, b3⟩ := c_ride (n := n) (p := P + 152) (b := l') (by omega) (by omega) i 0 n _ H (by omega) (by omega) hH hRl i3 i2
      rw [Nat.zero_add] at b1
      refine ⟨M4, ?_, FrS.tr (FrS.tr (FrS.up (by omega) (by omega)) (FrS.up (by omega) (by omega))) (FrS.of b3 (by omega) (by omega))⟩
      have b1' : f_X2_passUntilLeft n (P + 152) (nI l') (va_up (va_up Mt (P + 152 + 4) (cLay l' (nI cn) (nI wn) (Mt (P + 152 + 4)))) (P + 152) (upd (Mt (P + 152)) 6 (nI (l' + 1)))) = some (nI i, M4) := b1
      have e8 : M4 (P + 152 + 4) (l' * 22 + 8) = gTicks (l' + 1) i H (56 + 21 * l' + 8) := (b2.2.2.2.2 l' (by omega)).1 8 (by omega) (by omega)
      unfold f_X4_faultsInTrial_38
      simp (disch := omega) only [↓bnd hp, ↓ix_let, ↓bnd b1', ix_ml, ix_al, ix_cl, ix_n0, ix_nge, or_self, ↓reduceIte, e8]
    unfold f_X4_faultsInTrial
    rw [bnd a1]
    by_cases h0 : s = 0
    · have hsp : gSp s G = G := if_pos h0
      rw [hsp] at h38
      obtain ⟨M4, d1, d2⟩ := h38 M1 hR'
      refine ⟨M4, ?_, FrS.tr (FrS.of a3 (by omega) (by omega)) d2⟩
      rw [if_pos h0]
      exact d1
    · obtain ⟨M4, d1, d2⟩ := h38 _ (Ro_sp hR' h0)
      refine ⟨M4, ?_, FrS.tr (FrS.tr (FrS.of a3 (by omega) (by omega)) (FrS.up (by omega) (by omega))) d2⟩
      rw [if_neg h0]
      simp (disch := omega) only [ix_cll, ix_l0, ix_nge, or_self, ↓reduceIte, ↓ix_let, up_s, bx_uu]
      exact d1
  · have hc1 := r_copy (n := n) (p := Q) (a := 0) (b := 12738) (m := 707) (x1 := 0) (x2 := 12738) (x3 := 707) M rfl rfl rfl (by omega) (by omega) (by omega) hn (by omega)
    rw [Ag_copy hM, hG] at hc1
    have hd := r_doLoad (n := n) (p := Q) (l := l) (nI cn) (nI wn) (va_up M (Q + 1) G) hl (by rw [up_s]; exact hI1.2.1) (by omega)
    rw [up_s, bx_uu] at hd
    have hr := r_ride (n := n) (p := Q) (b := l) (by omega) (show l < l + 1 by omega) i 0 n (va_up M (Q + 1) H) (by omega) (by omega) (by rw [up_s]; exact hH) (by rw [up_s]; exact i3) (by rw [up_s]; exact i2)
    rw [up_s, bx_uu, Nat.zero_add] at hr
    have hr' : f_X5_ride n Q (nI l) (va_up M (Q + 1) H) = some (nI i, va_up M (Q + 1) (gTicks (l + 1) i H)) := hr
    have hc2 := r_copy (n := n) (p := Q) (a := 12738) (b := 0) (m := 707) (x1 := 12738) (x2 := 0) (x3 := 707) (va_up M (Q + 1) (gTicks (l + 1) i H)) rfl rfl rfl (by omega) (by omega) (by omega) hn (by omega)
    rw [up_s, bx_uu] at hc2
    refine ⟨va_up M (Q + 1) (gCpy 12738 0 707 (gTicks (l + 1) i H)), ?_, fun q hq => up_n hq, ?_⟩
    · have h62 : ∀ (W : Nat → Int32) (v : Int32), upd W 48 v = H → f_X5_failsBy_62 n Q (nI l) (Q + 1) 48 v (va_up M (Q + 1) W) = some (gTicks (l + 1) i H (56 + 21 * l + 8), va_up M (Q + 1) (gCpy 12738 0 707 (gTicks (l + 1) i H))) := by
        intro W v hW
        unfold f_X5_failsBy_62
        simp (disch := omega) only [ix_cll, ix_l0, ix_cl, ix_n0, ix_nge, or_self, ↓reduceIte, ↓ix_let, up_s, bx_uu, hW, ↓bnd hr', ↓r_of_b, ↓bnd hc2]
      unfold f_X5_failsBy
      rw [bnd hc1, bnd hd, ix_let]
      have hL : gSp s (gLoad l (nI cn) (nI wn) G) = H := by rw [← gSp_load, hHd]
      unfold gSp at hL
      by_cases h0 : s = 0
      · rw [if_pos h0] at hL
        have hle : s ≤ 0 := by rw [h0]; decide
        have h62' := h62 (gLoad l (nI cn) (nI wn) G) (gLoad l (nI cn) (nI wn) G 48) (by rw [ud_id]; exact hL)
        rw [if_pos hle]
        unfold f_X5_failsBy_40
        simp (disch := omega) only [ix_cll, ix_l0, ix_nge, or_self, ↓reduceIte, ↓ix_let, up_s, bx_uu, if_pos hle, ud_id]
        exact h62'
      · rw [if_neg h0] at hL
        have hle : ¬ s ≤ 0 := fun h => h0 (Int32.le_antisymm h hs.1)
        have h62' := h62 (upd (gLoad l (nI cn) (nI wn) G) 50 0) s hL
        rw [if_neg hle]
        unfold f_X5_failsBy_40
        simp (disch := omega) only [ix_cll, ix_l0, ix_nge, or_self, ↓reduceIte, ↓ix_let, up_s, bx_uu, if_neg hle]
        exact h62'
    · rw [up_s]
      refine Ag_back (fun k hk => ?_)
      rw [gTicks_hi (by omega) (by omega), hHG k hk, hG]
theorem Top.trial {P Q : Nat} {M M1 : vv_M} (hPQ : P + 158 ≤ Q) (hT : Top P Q M) (h : FrS (P + 152) (P + 158) M M1) : Ov (P + 1 + 1) M1 (M (Q + 1)) ∧ M1 (Q + 1) = M (Q + 1) := by
  obtain ⟨l, hl, hI, hE, hR⟩ := hT.oven
  exact ⟨Ov_ext (fun q h1 h2 => h q (Or.inl (by omega))) (fun _ _ => rfl) ⟨l, hl, hI, hE, hR⟩, h _ (Or.inr (by omega))⟩
theorem p_wouldFail {n P Q : Nat} (hPQ : P + 158 ≤ Q) (hn : 5000 ≤ n) (c w s : Int32) : Pr P Q (f_X4_wouldFail n P c w s) (f_X5_wouldFail n Q c w s) := by
  intro M hT
  obtain ⟨l, hl, hI, hE, hR⟩ := hT.oven
  unfold f_X4_wouldFail f_X5_wouldFail
  rw [c_in_b]
  by_cases hc : 0 ≤ c ∧ c ≤ 3
  rotate_left
  · rw [zi_f hc]
    exact ⟨-1001, M, M, rfl, by rw [r_isCurve_b, zi_f hc]; rfl, hT⟩
  rw [zi_t hc]
  simp only [t10, ↓reduceIte]
  rw [c_in_b]
  by_cases hw : 1 ≤ w ∧ w ≤ 9
  rotate_left
  · rw [zi_f hw]
    refine ⟨-1001, M, M, rfl, ?_, hT⟩
    rw [r_isCurve_b, zi_t hc]
    show (if (1 : Int32) = 0 then _ else _) = _
    rw [if_neg (by decide), r_in_b, zi_f hw]
    rfl
  rw [zi_t hw]
  simp only [t10, ↓reduceIte]
  rw [c_in_b]
  by_cases hs : 0 ≤ s ∧ s ≤ 3
  rotate_left
  · rw [zi_f hs]
    refine ⟨-1001, M, M, rfl, ?_, hT⟩
    rw [r_isCurve_b, zi_t hc]
    show (if (1 : Int32) = 0 then _ else _) = _
    rw [if_neg (by decide), r_in_b, zi_t hw]
    show (if (1 : Int32) = 0 then _ else _) = _
    rw [if_neg (by decide), r_in_b, zi_f hs]
    rfl
  rw [zi_t hs]
  simp only [t10, ↓reduceIte]
  have hc' := hc
  obtain ⟨cn, hcn, rfl⟩ := i_03 hc'
  have hw' := hw
  obtain ⟨wn, hwn, rfl⟩ := i_rng (m := 9) (by omega) (Int32.le_trans (by decide) hw'.1) hw'.2
  have hw1 : 1 ≤ wn := (nI_leI (a := 1) (by omega) (by omega)).mp hw.1
  obtain ⟨x, h1, h2⟩ := trial (n := n) hPQ hn hl hI hE (show cn < 4 by omega) hw1 hwn hs
  obtain ⟨M1, a1, a2⟩ := h1 M ⟨l, hl, hI, hE, hR⟩
  have e1 := (Top.trial hPQ hT a2).2
  obtain ⟨M2, b1, b2, b3⟩ := h2 M1 (by rw [e1]; exact Ag.rf)
  refine ⟨x, M1, M2, bnd a1, ?_, Top.back hPQ hT a2 b2 b3⟩
  rw [r_isCurve_b, zi_t hc]
  show (if (1 : Int32) = 0 then _ else _) = _
  rw [if_neg (by decide), r_in_b, zi_t hw]
  show (if (1 : Int32) = 0 then _ else _) = _
  rw [if_neg (by decide), r_in_b, zi_t hs]
  show (if (1 : Int32) = 0 then _ else _) = _
  rw [if_neg (by decide), bnd b1]
theorem p_heaviest {n P Q : Nat} (hPQ : P + 158 ≤ Q) (hn : 5000 ≤ n) (c : Int32) : Pr P Q (f_X4_heaviest n P c) (f_X5_heaviest n Q c) := by
  intro M hT
  obtain ⟨l, hl, hI, hE, hR⟩ := hT.oven
  unfold f_X4_heaviest f_X5_heaviest
  rw [c_in_b]
  by_cases hc : 0 ≤ c ∧ c ≤ 3
  rotate_left
  · rw [zi_f hc]
    exact ⟨-1001, M, M, rfl, by rw [r_isCurve_b, zi_f hc]; rfl, hT⟩
  rw [zi_t hc]
  simp only [t10, ↓reduceIte]
  have hc' := hc
  obtain ⟨cn, hcn, rfl⟩ := i_03 hc'
  have st : ∀ w, w ≤ 9 → ∃ x, (∀ Mc k, w < k → Ov (P + 1 + 1) Mc (M (Q + 1)) → ∃ M1, f_X4_heaviest_16 n k P (nI cn) (nI w) Mc = some (x, M1) ∧ FrS (P + 152) (P + 158) Mc M1) ∧ (∀ Mr k, w < k → Ag (M (Q + 1)) (Mr (Q + 1)) → ∃ M2, f_X5_heaviest_14 n k Q (nI cn) (nI w) Mr = some (x, M2) ∧ (∀ q, q ≠ Q + 1 → M2 q = Mr q) ∧ Ag (M (Q + 1)) (M2 (Q + 1))) := by
    intro w
    induction w with
    | zero =>
      intro _
      refine ⟨-1009, fun Mc k hk hO => ⟨Mc, ?_, FrS.rf⟩, fun Mr k hk hA => ⟨Mr, ?_, fun _ _ => rfl, hA⟩⟩
      · obtain ⟨k, rfl⟩ : ∃ q, k = q + 1 := ⟨k - 1, by omega⟩
        rw [f_X4_heaviest_16.eq_2]
        rfl
      · obtain ⟨k, rfl⟩ : ∃ q, k = q + 1 := ⟨k - 1, by omega⟩
        rw [f_X5_heaviest_14.eq_2]
        rfl
    | succ w ih =>
      intro hw
      obtain ⟨x, h1, h2⟩ := ih (by omega)
      obtain ⟨y, t1, t2⟩ := trial (n := n) (s := 0) (wn := w + 1) hPQ hn hl hI hE (show cn < 4 by omega) (by omega) hw (by decide)
      have hlt : ¬ nI (w + 1) < 1 := nI_nlt (b := 1) (by omega) (by omega)
      have hnle : ¬ nI (w + 1) ≤ 0 := nI_nle (by omega) (by omega)
      have hn0 : ¬ nI (w + 1) = 0 := nI_ne0 (by omega) (by omega)
      have hm1 : nI (w + 1) + (-1) = nI w := pk_m1 w
      by_cases hy : y = 0
      · refine ⟨nI (w + 1), fun Mc k hk hO => ?_, fun Mr k hk hA => ?_⟩
        · obtain ⟨k, rfl⟩ : ∃ q, k = q + 1 := ⟨k - 1, by omega⟩
          obtain ⟨M1, a1, a2⟩ := t1 Mc hO
          refine ⟨M1, ?_, a2⟩
          rw [f_X4_heaviest_16.eq_2, if_neg hlt, bnd a1, if_pos hy]
        · obtain ⟨k, rfl⟩ : ∃ q, k = q + 1 := ⟨k - 1, by omega⟩
          obtain ⟨M2, b1, b2, b3⟩ := t2 Mr hA
          refine ⟨M2, ?_, b2, b3⟩
          rw [f_X5_heaviest_14.eq_2, if_neg hnle, bnd b1, if_pos hy]
          unfold f_X5_heaviest_34
          rw [if_neg hn0]
      · refine ⟨x, fun Mc k hk hO => ?_, fun Mr k hk hA => ?_⟩
        · obtain ⟨k, rfl⟩ : ∃ q, k = q + 1 := ⟨k - 1, by omega⟩
          obtain ⟨M1, a1, a2⟩ := t1 Mc hO
          obtain ⟨M3, c1, c2⟩ := h1 M1 k (by omega) (Ov_ext (fun q g1 g2 => a2 q (Or.inl (by omega))) (fun _ _ => rfl) hO)
          refine ⟨M3, ?_, FrS.tr a2 c2⟩
          rw [f_X4_heaviest_16.eq_2, if_neg hlt, bnd a1, if_neg hy, ix_let, hm1]
          exact c1
        · obtain ⟨k, rfl⟩ : ∃ q, k = q + 1 := ⟨k - 1, by omega⟩
          obtain ⟨M2, b1, b2, b3⟩ := t2 Mr hA
          obtain ⟨M3, c1, c2, c3⟩ := h2 M2 k (by omega) b3
          refine ⟨M3, ?_, fun q hq => (c2 q hq).trans (b2 q hq), c3⟩
          rw [f_X5_heaviest_14.eq_2, if_neg hnle, bnd b1, if_neg hy, ix_let, hm1]
          exact c1
  obtain ⟨x, h1, h2⟩ := st 9 (by omega)
  obtain ⟨M1, a1, a2⟩ := h1 M n (by omega) ⟨l, hl, hI, hE, hR⟩
  have e1 := (Top.trial hPQ hT a2).2
  obtain ⟨M2, b1, b2, b3⟩ := h2 M1 n (by omega) (by rw [e1]; exact Ag.rf)
  refine ⟨x, M1, M2, a1, ?_, Top.back hPQ hT a2 b2 b3⟩
  rw [r_isCurve_b, zi_t hc]
  exact b1
