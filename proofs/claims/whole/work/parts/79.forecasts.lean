/-! forecasts -/
theorem Gc_mem2 {P r len : Nat} {M M' : vv_M} {R T : Nat → Int32} (h : ∀ x, P ≤ x → x < P + 152 → M' x = M x) (hG : Gc P M R r len T) : Gc P M' R r len T := by
  obtain ⟨h1, ⟨h2, o, h3, h4, h5, h6⟩, h7⟩ := hG
  refine ⟨Mo_ext (fun q a b => h q (by omega) (by omega)) (fun k hk => rfl) h1, ⟨h2, o, h3, by rw [h _ (by omega) (by omega)]; exact h4, by rw [h _ (by omega) (by omega)]; exact h5, fun i hi => ?_⟩, Tx_ext h7 (h _ (by omega) (by omega)) (h _ (by omega) (by omega))⟩
  have : (o + i) % 6 < 6 := Nat.mod_lt _ (by omega)
  exact Mo_ext (fun q a b => h q (by omega) (by omega)) (fun k hk => rfl) (h6 i hi)
/-- agreement outside the place of a trial -/
def Ag (R R' : Nat → Int32) : Prop := ∀ k, k < 12738 ∨ 13445 ≤ k → R' k = R k
theorem Ag.rf {R : Nat → Int32} : Ag R R := fun _ _ => rfl
theorem Ag_copy {R R' : Nat → Int32} (h : Ag R R') : gCpy 0 12738 707 R' = gCpy 0 12738 707 R := by
  funext k
  unfold gCpy
  by_cases hk : 12738 ≤ k ∧ k < 12738 + 707
  · rw [if_pos hk, if_pos hk]
    exact h _ (Or.inl (by omega))
  · rw [if_neg hk, if_neg hk]
    exact h _ (by omega)
/-- what is copied back is what was there -/
theorem Ag_back {R W : Nat → Int32} (h : ∀ k, 707 ≤ k → W k = gCpy 0 12738 707 R k) : Ag R (gCpy 12738 0 707 W) := by
  intro k hk
  unfold gCpy
  by_cases h7 : k < 707
  · rw [if_pos (by omega), h _ (by omega)]
    unfold gCpy
    rw [if_pos (by omega), show 0 + (12738 + (k - 0) - 12738) = k by omega]
  · rw [if_neg (by omega), h _ (by omega)]
    unfold gCpy
    rw [if_neg (by omega)]
theorem Top.back {P Q : Nat} {M M1 M2 : vv_M} (hPQ : P + 158 ≤ Q) (hT : Top P Q M) (h1 : FrS (P + 152) (P + 158) M M1) (h2 : ∀ x, x ≠ Q + 1 → M2 x = M1 x) (h3 : Ag (M (Q + 1)) (M2 (Q + 1))) : Top P Q M2 := by
  obtain ⟨r, len, q1, q2, hG⟩ := hT
  have e : ∀ x, x ≠ Q + 1 → (x < P + 152 ∨ P + 158 ≤ x) → M2 x = M x := fun x hx hx2 => (h2 x hx).trans (h1 x hx2)
  refine ⟨r, len, by rw [e Q (by omega) (by omega)]; exact q1, by rw [e Q (by omega) (by omega)]; exact q2, ?_⟩
  rw [e (Q + 2) (by omega) (by omega)]
  exact Gc_ext (fun k hk => h3 k (Or.inl hk)) (Gc_mem2 (fun x _ hx => e x (by omega) (by omega)) hG)
theorem p_foretell {n P Q : Nat} (hPQ : P + 158 ≤ Q) (hn : 5000 ≤ n) (b w : Int32) : Pr P Q (f_X4_foretell n P b w) (f_X5_foretell n Q b w) := by
  intro M hT
  obtain ⟨l, hl, hI, hE, hR⟩ := hT.oven
  unfold f_X4_foretell f_X5_foretell
  rw [bnd (c_hasBoard b hR)]
  by_cases hb : 0 ≤ b ∧ b ≤ M (Q + 1) 53 - 1
  rotate_left
  · rw [zi_f hb]
    exact ⟨-1001, M, M, rfl, by rw [r_isBoard_b, zi_f hb]; rfl, hT⟩
  rw [zi_t hb]
  have hb' := hb
  rw [hI.2.1] at hb'
  obtain ⟨bn, hbn, rfl⟩ := (brd_iff (by omega)).mp hb'
  simp only [t10, ↓reduceIte]
  rw [c_in_b]
  by_cases hw : 0 ≤ w ∧ w ≤ 3
  rotate_left
  · rw [zi_f hw]
    refine ⟨-1001, M, M, rfl, ?_, hT⟩
    rw [r_isBoard_b, zi_t hb]
    show (if (1 : Int32) = 0 then _ else _) = _
    rw [if_neg (by decide), r_in_b, zi_f hw]
    rfl
  rw [zi_t hw]
  have hon := c_isOnBelt (n := n) (p := P + 1 + 1) (b := bn) M (by omega)
  have e2 : M (P + 1 + 1 + 4) (bn * 22 + 2) = M (Q + 1) (56 + 21 * bn + 2) := (hR.2.2.2.2 bn hbn).1 2 (by omega) (by omega)
  rw [e2] at hon
  simp only [t10, ↓reduceIte]
  rw [bnd hon]
  by_cases h0 : M (Q + 1) (56 + 21 * bn + 2) = 0
  rotate_left
  · rw [zi_f h0]
    refine ⟨-1002, M, M, rfl, ?_, hT⟩
    rw [r_isBoard_b, zi_t hb]
    show (if (1 : Int32) = 0 then _ else _) = _
    rw [if_neg (by decide), r_in_b, zi_t hw]
    show (if (1 : Int32) = 0 then _ else _) = _
    rw [if_neg (by decide), r_isOn_b (by omega), zi_f h0]
    rfl
  rw [zi_t h0]
  simp only [t10, ↓reduceIte]
  have hag : ∀ k, k < 707 → gCpy 0 12738 707 (M (Q + 1)) k = M (Q + 1) k := fun k hk => by unfold gCpy; rw [if_neg (by omega)]
  generalize hG : gCpy 0 12738 707 (M (Q + 1)) = G at hag
  have hI1 : gInv G l := gInv_ext (by omega) (fun k hk => hag k (by omega)) hI
  have hO1 : Ov (P + 1 + 1) M G := Ov_ext (fun _ _ _ => rfl) hag ⟨l, hl, hI, hE, hR⟩
  obtain ⟨M1, a1, a2, a3⟩ := c_become (n := n) (p := P + 152) hO1 (by omega)
  obtain ⟨l', hl', hI', -, hR'⟩ := a2
  obtain rfl : l' = l := by
    have e1 := gl_eq hI'
    have e3 := gl_eq hI1
    omega
  obtain ⟨i, i1, i2, i3⟩ := ride_ex hbn 48 G hI1 (fun _ => by omega)
  obtain ⟨M2, b1, b2, b3⟩ := c_ride (n := n) (p := P + 152) (by omega) hbn i 0 n M1 G (by omega) (by omega) hI1 hR' i3 i2
  rw [Nat.zero_add] at b1
  have hF : FrS (P + 152) (P + 158) M M2 := FrS.tr (FrS.of a3 (by omega) (by omega)) (FrS.of b3 (by omega) (by omega))
  have hRb := b2.2.2.2.2 bn hbn
  -- the reference
  have hM2 : ∀ x, P + 158 ≤ x → M2 x = M x := fun x hx => hF x (Or.inr hx)
  have hc := r_copy (n := n) (p := Q) (a := 0) (b := 12738) (m := 707) (x1 := 0) (x2 := 12738) (x3 := 707) M2 rfl rfl rfl (by omega) (by omega) (by omega) hn (by omega)
  rw [hM2 (Q + 1) (by omega), hG] at hc
  have hr := r_ride (n := n) (p := Q) (b := bn) (by omega) hbn i 0 n (va_up M2 (Q + 1) G) (by omega) (by omega) (by rw [up_s]; exact hI1) (by rw [up_s]; exact i3) (by rw [up_s]; exact i2)
  rw [up_s, bx_uu, Nat.zero_add] at hr
  have hc2 := r_copy (n := n) (p := Q) (a := 12738) (b := 0) (m := 707) (x1 := 12738) (x2 := 0) (x3 := 707) (va_up M2 (Q + 1) (gTicks l' i G)) rfl rfl rfl (by omega) (by omega) (by omega) hn (by omega)
  rw [up_s, bx_uu] at hc2
  have h88 : ∀ v, f_X5_foretell_88 n Q v (va_up M2 (Q + 1) (gTicks l' i G)) = some (v, va_up M2 (Q + 1) (gCpy 12738 0 707 (gTicks l' i G))) := by
    intro v
    unfold f_X5_foretell_88
    rw [bnd hc2]
  have h84 : ∀ k : Nat, k < 21 → f_X5_foretell_84 n Q (Q + 1) (nI bn) (nI k) (va_up M2 (Q + 1) (gTicks l' i G)) = some (gTicks l' i G (56 + 21 * bn + k), va_up M2 (Q + 1) (gCpy 12738 0 707 (gTicks l' i G))) := by
    intro k hk
    unfold f_X5_foretell_84
    rw [r_ofn_b]
    simp (disch := omega) only [ix_cl, ix_n0, ix_nge, or_self, ↓reduceIte, up_s, h88]
  have hcol : ∀ k : Nat, k < 11 → k ≠ 3 → M2 (P + 152 + 4) (bn * 22 + k) = gTicks l' i G (56 + 21 * bn + k) := fun k h1 h2 => hRb.1 k h1 h2
  have hTop : Top P Q (va_up M2 (Q + 1) (gCpy 12738 0 707 (gTicks l' i G))) := by
    refine Top.back hPQ hT hF (fun x hx => up_n hx) ?_
    rw [up_s]
    exact Ag_back (fun k hk => by rw [hG]; exact gTicks_hi (by omega) (by omega) i G)
  have b1' : f_X2_passUntilLeft n (P + 152) (nI bn) M1 = some (nI i, M2) := b1
  have hr' : f_X5_ride n Q (nI bn) (va_up M2 (Q + 1) G) = some (nI i, va_up M2 (Q + 1) (gTicks l' i G)) := hr
  have hC : (f_X2_become n (P + 152) (P + 1 + 1) M).bind (fun (u7 : Unit × vv_M) => (f_X2_passUntilLeft n (P + 152) (nI bn) u7.2).bind (fun (u8 : Int32 × vv_M) => vv_let u8.1 (fun (y9 : Int32) => f_X4_foretell_68 n P (nI bn) w y9 u8.2))) = f_X4_foretell_68 n P (nI bn) w (nI i) M2 := by
    rw [bnd a1, bnd b1', ix_let]
  have hR2 : (f_X5_isBoard n Q (nI bn) M2).bind (fun (u1 : Int32 × vv_M) => if u1.1 = 0 then some ((-1001 : Int32), u1.2) else (f_X5_in n w (0 : Int32) (3 : Int32) u1.2).bind (fun (u3 : Int32 × vv_M) => if u3.1 = 0 then some ((-1001 : Int32), u3.2) else (f_X5_isOn n Q (nI bn) u3.2).bind (fun (u5 : Int32 × vv_M) => if u5.1 = 0 then some ((-1002 : Int32), u5.2) else (f_X5_copy n Q (0 : Int32) (12738 : Int32) (707 : Int32) u5.2).bind (fun (u7 : Unit × vv_M) => (f_X5_ride n Q (nI bn) u7.2).bind (fun (u8 : Int32 × vv_M) => vv_let u8.1 (fun (y9 : Int32) => f_X5_foretell_50 n Q (nI bn) w y9 u8.2)))))) = f_X5_foretell_50 n Q (nI bn) w (nI i) (va_up M2 (Q + 1) (gTicks l' i G)) := by
    rw [r_isBoard_b, hM2 (Q + 1) (by omega), zi_t hb]
    show (if (1 : Int32) = 0 then _ else _) = _
    rw [if_neg (by decide), r_in_b, zi_t hw]
    show (if (1 : Int32) = 0 then _ else _) = _
    rw [if_neg (by decide), r_isOn_b (by omega), zi_t (show M2 (Q + 1) (56 + 21 * bn + 2) = 0 by rw [hM2 (Q + 1) (by omega)]; exact h0)]
    show (if (1 : Int32) = 0 then _ else _) = _
    rw [if_neg (by decide), bnd hc, bnd hr', ix_let]
  have hfin : ∃ x, f_X4_foretell_68 n P (nI bn) w (nI i) M2 = some (x, M2) ∧ f_X5_foretell_50 n Q (nI bn) w (nI i) (va_up M2 (Q + 1) (gTicks l' i G)) = some (x, va_up M2 (Q + 1) (gCpy 12738 0 707 (gTicks l' i G))) := by
    have hw' := hw
    obtain ⟨wn, hwn, rfl⟩ := i_03 hw'
    have hcc : ∀ k : Nat, k < 11 → k ≠ 3 → (if nI (bn * 22) + nI k < 0 ∨ 682 ≤ (nI (bn * 22) + nI k).toNatClampNeg then none else some (M2 (P + 152 + 4) (nI (bn * 22) + nI k).toNatClampNeg, M2)) = some (gTicks l' i G (56 + 21 * bn + k), M2) := by
      intro k h1 h2
      rw [nI_add, if_neg (nI_in (c := bn * 22 + k) (N := 682) (by omega) (by omega)), ix_cl (by omega), hcol k h1 h2]
    unfold f_X4_foretell_68 f_X5_foretell_50
    rw [ix_ml, ix_let]
    rcases (show wn = 0 ∨ wn = 1 ∨ wn = 2 ∨ wn = 3 by omega) with rfl | rfl | rfl | rfl
    · exact ⟨_, hcc 8 (by omega) (by omega), h84 8 (by omega)⟩
    · exact ⟨_, hcc 6 (by omega) (by omega), h84 6 (by omega)⟩
    · exact ⟨nI i, rfl, h88 (nI i)⟩
    · exact ⟨_, hcc 4 (by omega) (by omega), h84 4 (by omega)⟩
  obtain ⟨x, f1, f2⟩ := hfin
  exact ⟨x, M2, _, hC.trans f1, hR2.trans f2, hTop⟩
theorem p_room {n P Q : Nat} (hPQ : P + 158 ≤ Q) (hn : 5000 ≤ n) : Pr P Q (f_X4_room n P) (f_X5_room n Q) := by
  intro M hT
  obtain ⟨l, hl, hI, hE, hR⟩ := hT.oven
  have hag : ∀ k, k < 707 → gCpy 0 12738 707 (M (Q + 1)) k = M (Q + 1) k := fun k hk => by unfold gCpy; rw [if_neg (by omega)]
  generalize hG : gCpy 0 12738 707 (M (Q + 1)) = G at hag
  have hI1 : gInv G l := gInv_ext (by omega) (fun k hk => hag k (by omega)) hI
  have hO1 : Ov (P + 1 + 1) M G := Ov_ext (fun _ _ _ => rfl) hag ⟨l, hl, hI, hE, hR⟩
  obtain ⟨M1, a1, a2, a3⟩ := c_become (n := n) (p := P + 152) hO1 (by omega)
  obtain ⟨l', hl', hI', -, hR'⟩ := a2
  obtain rfl : l' = l := by
    have e1 := gl_eq hI'
    have e3 := gl_eq hI1
    omega
  obtain ⟨i, i1, i2, i3⟩ := free_ex 48 G hI1 (fun _ _ _ => by omega)
  obtain ⟨M2, b1, b3⟩ := c_frees (n := n) (p := P + 152) (by omega) i 0 n M1 G (by omega) (by omega) hI1 hR' i3 i2
  rw [Nat.zero_add] at b1
  have hF : FrS (P + 152) (P + 158) M M2 := FrS.tr (FrS.of a3 (by omega) (by omega)) (FrS.of b3 (by omega) (by omega))
  have hM2 : ∀ x, P + 158 ≤ x → M2 x = M x := fun x hx => hF x (Or.inr hx)
  have hc := r_copy (n := n) (p := Q) (a := 0) (b := 12738) (m := 707) (x1 := 0) (x2 := 12738) (x3 := 707) M2 rfl rfl rfl (by omega) (by omega) (by omega) hn (by omega)
  rw [hM2 (Q + 1) (by omega), hG] at hc
  have hr := r_frees (n := n) (p := Q) (l := l') (hl := by omega) hn i 0 n (va_up M2 (Q + 1) G) (by omega) (by omega) (by rw [up_s]; exact hI1) (by rw [up_s]; exact i3) (by rw [up_s]; exact i2)
  rw [up_s, bx_uu, Nat.zero_add] at hr
  refine ⟨nI i, M2, va_up M2 (Q + 1) (gCpy 12738 0 707 (gTicks l' i G)), ?_, ?_, ?_⟩
  · have b1' : f_X2_passUntilFree n (P + 152) M1 = some (nI i, M2) := b1
    unfold f_X4_room
    rw [bnd a1, bnd b1']
  · unfold f_X5_room
    rw [bnd hc]
    exact hr
  · refine Top.back hPQ hT hF (fun x hx => up_n hx) ?_
    rw [up_s]
    exact Ag_back (fun k hk => by rw [hG]; exact gTicks_hi (by omega) (by omega) i G)
