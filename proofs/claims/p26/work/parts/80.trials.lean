/-! trials: wouldFail, heaviest -/
theorem ud_id {f : Nat → Int32} {k : Nat} : upd f k (f k) = f := by
  funext j
  unfold upd
  by_cases h : j = k
  · rw [if_pos h, h]
  · rw [if_neg h]
/-- the speed and the bound of a trial -/
def gSp (s : Int32) (g : Nat → Int32) : Nat → Int32 := if s = 0 then g else upd (upd g 50 0) 48 s
theorem gSp_load {l : Nat} {c w s : Int32} {g : Nat → Int32} : gLoad l c w (gSp s g) = gSp s (gLoad l c w g) := by
  unfold gSp
  by_cases hs : s = 0
  · rw [if_pos hs, if_pos hs]
  rw [if_neg hs, if_neg hs]
  funext i
  by_cases h53 : i = 53
  · subst h53
    unfold gLoad
    rw [ud_s, ud_ne (by omega), ud_ne (by omega), ud_s]
  by_cases ho : gOut l i
  · rw [gLoad_out ho h53]
    by_cases h48 : i = 48
    · subst h48
      rw [ud_s, ud_s]
    rw [ud_ne h48, ud_ne h48]
    by_cases h50 : i = 50
    · subst h50
      rw [ud_s, ud_s]
    rw [ud_ne h50, ud_ne h50, gLoad_out ho h53]
  · obtain ⟨j, hj, rfl⟩ : ∃ j, j < 21 ∧ i = 56 + 21 * l + j := by
      unfold gOut at ho
      exact ⟨i - (56 + 21 * l), by omega, by omega⟩
    rw [ud_ne (by omega), ud_ne (by omega), gLoad_brd hj, gLoad_brd hj]
theorem gSp_inv {g : Nat → Int32} {l : Nat} {s : Int32} (hs : 0 ≤ s ∧ s ≤ 3) (hI : gInv g l) : gInv (gSp s g) l := by
  unfold gSp
  by_cases h0 : s = 0
  · rw [if_pos h0]
    exact hI
  rw [if_neg h0]
  obtain ⟨sn, hsn, rfl⟩ := i_03 hs
  have h1 : 1 ≤ sn := by
    rcases Nat.eq_zero_or_pos sn with rfl | h
    · exact absurd rfl h0
    · exact h
  exact nNum_inv (wn := 0) (by omega) (nNum_inv (wn := 2) (by omega) hI (nv_2.mpr (by decide))) (nv_0.mpr ⟨nI_le (a := 1) h1 (by omega), nI_le (b := 3) hsn (by omega)⟩)
theorem gSp_hi {g : Nat → Int32} {s : Int32} {k : Nat} (h1 : k ≠ 48) (h2 : k ≠ 50) : gSp s g k = g k := by
  unfold gSp
  split
  · rfl
  · rw [ud_ne h1, ud_ne h2]
theorem Ro_sp {p l : Nat} {M : vv_M} {g : Nat → Int32} {s : Int32} (hR : Ro p M g l) (hs : s ≠ 0) : Ro p (va_up M (p + 3) (upd (upd (M (p + 3)) 0 s) 2 0)) (gSp s g) l := by
  refine Ro_lo hR (fun k hk => ?_) (fun k hk => ?_) (fun k hk => ?_) (up_n (by omega)) (up_n (by omega)) (fun k hk => gSp_hi (by omega) (by omega)) (Or.inl (fun q hq => gSp_hi (by omega) (by omega)))
  · rw [up_n (by omega), gSp_hi (by omega) (by omega)]
    exact hR.1 k hk
  · rw [up_n (by omega), gSp_hi (by omega) (by omega)]
    exact hR.2.1 k hk
  · rw [up_s]
    unfold gSp
    rw [if_neg hs]
    by_cases h0 : k = 0
    · subst h0
      rw [ud_ne (by omega), ud_s, ud_s]
    · by_cases h2 : k = 2
      · subst h2
        rw [ud_s, ud_ne (by omega), ud_s]
      · rw [ud_ne (by omega), ud_ne (by omega), ud_ne (by omega), ud_ne (by omega)]
        exact hR.2.2.1 k hk
theorem gLoad_inv {l c w : Nat} {g : Nat → Int32} (hl : l ≤ 30) (hI : gInv g l) (hc : c < 4) (hw1 : 1 ≤ w) (hw9 : w ≤ 9) : gInv (gLoad l (nI c) (nI w) g) (l + 1) := by
  obtain ⟨hL, hl53, -, hs, ha, hBs⟩ := hI
  have hlo : ∀ i, i < 56 → i ≠ 53 → gLoad l (nI c) (nI w) g i = g i := fun i hi h53 => gLoad_out (Or.inl (by omega)) h53
  have hz : ∀ z, z < 6 → gLoad l (nI c) (nI w) g (0 + 4 * z + 0) = g (0 + 4 * z + 0) := fun z hz => hlo _ (by omega) (by omega)
  have h53 : gLoad l (nI c) (nI w) g 53 = nI (l + 1) := by unfold gLoad; rw [ud_s]
  have hp6 := gPre_6 hL
  have hc0 : gcell (gLoad l (nI c) (nI w) g) l = 0 := by
    unfold gcell
    rw [gLoad_brd (by omega)]
    rfl
  refine ⟨gLen_congr hz hL, h53, by omega, by rw [hlo 48 (by omega) (by omega)]; exact hs, by rw [hlo 49 (by omega) (by omega)]; exact ha, fun q hq => ?_⟩
  by_cases hql : q = l
  · subst hql
    refine ⟨⟨c, hc, ?_⟩, ⟨w, hw1, hw9, ?_⟩, fun _ => ⟨?_, ?_⟩, fun k hk hb => absurd hb ?_⟩
    · rw [gLoad_brd (by omega)]; rfl
    · rw [gLoad_brd (by omega)]; rfl
    · rw [hc0, gLoad_brd (by omega)]; rfl
    · rw [hc0, gPre_congr hz 6 (by omega)]; omega
    · rw [gLoad_brd (by omega)]
      exact gbit_0 (by omega)
  · exact gBrd_congr (gPre_congr hz 6 (by omega)) (fun j hj => gLoad_out (by unfold gOut; omega) (by omega)) (hBs q (by omega))
theorem Top.trial {P Q : Nat} {M M1 : vv_M} (hPQ : P + 158 ≤ Q) (hT : Top P Q M) (h : FrS (P + 152) (P + 158) M M1) : Ov (P + 1 + 1) M1 (M (Q + 1)) ∧ M1 (Q + 1) = M (Q + 1) := by
  obtain ⟨l, hl, hI, hE, hR⟩ := hT.oven
  exact ⟨Ov_ext (fun q h1 h2 => h q (Or.inl (by omega))) (fun _ _ => rfl) ⟨l, hl, hI, hE, hR⟩, h _ (Or.inr (by omega))⟩
