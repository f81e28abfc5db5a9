/-! an action, in the class -/
theorem c_rec {n P r len : Nat} {M : vv_M} {R R1 T : Nat → Int32} {x : Int32} {o : Nat} (hr : r ≤ 5) (ho : o < 6) (h1 : M (P + 22) 1 = nI o) (h2 : M (P + 22) 2 = nI r) (hx : ¬ x < 0) (hMo : Mo (P + 1) M R1) (hB : ∀ i, i < r → Mo (P + 22 + 2 + 21 * ((o + i) % 6)) M (fun k => R (2123 + 2123 * i + k))) (hB2 : Mo (P + 22 + 2 + 21 * ((o + r) % 6)) M R) (hT : Tx P M len T) (hR1 : ∀ k, 2123 ≤ k → R1 k = gRec R r k) : ∃ M', f_X0_recordUnlessError n (P + 22) x M = some (x, M') ∧ Gc P M' R1 (rNext r) len T ∧ FrS (P + 22) (P + 23) M M' := by
  unfold f_X0_recordUnlessError
  rw [if_neg hx, h2]
  have hm : ∀ (q : Nat) (v : Nat → Int32) (p : Nat) (f f' : Nat → Int32), (p + 21 ≤ P + 22 ∨ P + 22 < p) → (∀ k, k < 2123 → f' k = f k) → Mo p M f → Mo p (va_up M (P + 22) v) f' := fun q v p f f' hp hf h => Mo_ext (fun x hx1 hx2 => up_n (by omega)) hf h
  by_cases h5 : r = 5
  · subst h5
    rw [if_pos (show (5 : Int32) ≤ nI 5 from nI_le (a := 5) (b := 5) (Nat.le_refl _) (by omega)), if_neg (by decide), ix_let, h1, ix_al o 1, ix_rem6 (o + OfNat.ofNat 1) (by have : (OfNat.ofNat 1 : Nat) = 1 := rfl; omega)]
    refine ⟨_, rfl, ⟨hm 0 _ _ _ _ (by omega) (fun k hk => rfl) hMo, ⟨by decide, (o + 1) % 6, by omega, ?_, ?_, fun i hi => ?_⟩, Tx_ext hT (up_n (by omega)) (up_n (by omega))⟩, FrS.up (by omega) (by omega)⟩
    · rw [up_s, ud_s]
    · rw [up_s, ud_ne (by omega)]
      exact h2
    · have hi5 : i < 5 := hi
      by_cases h4 : i = 4
      · subst h4
        have e : ((o + 1) % 6 + 4) % 6 = (o + 5) % 6 := by omega
        rw [e]
        refine hm 0 _ _ _ _ (by omega) (fun k hk => ?_) hB2
        show R1 (2123 + 2123 * 4 + k) = R k
        rw [hR1 _ (by omega)]
        unfold gRec
        rw [if_neg (by omega), if_pos rfl, if_neg (by omega), if_pos (by omega), show 2123 + 2123 * 4 + k - 10615 = k by omega]
      · have e : ((o + 1) % 6 + i) % 6 = (o + (i + 1)) % 6 := by omega
        rw [e]
        refine hm 0 _ _ _ _ (by omega) (fun k hk => ?_) (hB (i + 1) (by omega))
        show R1 (2123 + 2123 * i + k) = R (2123 + 2123 * (i + 1) + k)
        rw [hR1 _ (by omega)]
        unfold gRec
        rw [if_neg (by omega), if_pos rfl, if_pos (by omega), show 2123 + 2123 * i + k + 2123 = 2123 + 2123 * (i + 1) + k by omega]
  · rw [if_neg (show ¬ (5 : Int32) ≤ nI r from fun h => absurd ((nI_leI (a := 5) (by omega) (by omega)).mp h) (by omega)), ix_let, ix_al r 1]
    have hn : rNext r = r + 1 := if_neg h5
    rw [hn]
    refine ⟨_, rfl, ⟨hm 0 _ _ _ _ (by omega) (fun k hk => rfl) hMo, ⟨by omega, o, ho, ?_, ?_, fun i hi => ?_⟩, Tx_ext hT (up_n (by omega)) (up_n (by omega))⟩, FrS.up (by omega) (by omega)⟩
    · rw [up_s, ud_ne (by omega)]
      exact h1
    · rw [up_s, ud_s]
    · by_cases hir : i = r
      · subst hir
        refine hm 0 _ _ _ _ (by omega) (fun k hk => ?_) hB2
        show R1 (2123 + 2123 * i + k) = R k
        rw [hR1 _ (by omega)]
        unfold gRec
        rw [if_neg (by omega), if_neg h5, if_pos (by omega), show 2123 + 2123 * i + k - (2123 + 2123 * i) = k by omega]
      · refine hm 0 _ _ _ _ (by omega) (fun k hk => ?_) (hB i (by omega))
        show R1 (2123 + 2123 * i + k) = R (2123 + 2123 * i + k)
        rw [hR1 _ (by omega)]
        unfold gRec
        rw [if_neg (by omega), if_neg h5, if_neg (by omega)]
def OpM (p : Nat) (a : (Nat → Int32) → Int32) (w : (Nat → Int32) → Nat → Int32) (f : vv_M → Option (Int32 × vv_M)) : Prop := ∀ M g, Mo p M g → ∃ M', f M = some (a g, M') ∧ FrS p (p + 21) M M' ∧ (a g < 0 → Mo p M' g) ∧ (¬ a g < 0 → Mo p M' (w g))
theorem OpC.m {p : Nat} {a : (Nat → Int32) → Int32} {w : (Nat → Int32) → Nat → Int32} {f : vv_M → Option (Int32 × vv_M)} (h : OpC (p + 1) a w f) (hw : ∀ g k, (∃ l, l ≤ 30 ∧ gInv g l) → ¬ a g < 0 → 707 ≤ k → w g k = g k) : OpM p a w f := by
  intro M g hM
  obtain ⟨h1, h2⟩ := hM
  obtain ⟨M', b1, b2, b3, b4⟩ := h M g h1
  have hk : ∀ f' : Nat → Int32, (∀ k, 707 ≤ k → f' k = g k) → Ov (p + 1) M' f' → Mo p M' f' := by
    intro f' hf hO
    refine ⟨hO, fun j hj => ?_⟩
    obtain ⟨d1, d2, d3⟩ := h2 j hj
    rw [b2 _ (by omega), hf _ (by omega)]
    exact ⟨d1, d2, fun h9 => Ov_ext (fun x hx1 hx2 => b2 x (by omega)) (fun k hk => hf _ (by omega)) (d3 h9)⟩
  have hl : ∃ l, l ≤ 30 ∧ gInv g l := by
    obtain ⟨l, q1, q2, -⟩ := h1
    exact ⟨l, q1, q2⟩
  exact ⟨M', b1, FrS.of b2 (by omega) (by omega), fun h => hk g (fun k _ => rfl) (b3 h), fun h => hk _ (fun k hk2 => hw g k hl h hk2) (b4 h)⟩
theorem act_c {n P r len : Nat} {M : vv_M} {R T : Nat → Int32} {a : (Nat → Int32) → Int32} {w : (Nat → Int32) → Nat → Int32} {f : vv_M → Option (Int32 × vv_M)} (hn : 40 ≤ n) (hop : OpM (P + 1) a w f) (hw : ∀ g k, (∃ l, l ≤ 30 ∧ gInv g l) → ¬ a g < 0 → 2123 ≤ k → w g k = g k) (hG : Gc P M R r len T) : ∃ M1, (f_X0_keep n (P + 22) (P + 1) M).bind (fun u1 => (f u1.2).bind (fun u2 => (f_X0_recordUnlessError n (P + 22) u2.1 u2.2).bind (fun u3 => some (u3.1, u3.2)))) = some (a R, M1) ∧ FrS P (P + 158) M M1 ∧ a (gRec R r) = a R ∧ (a R < 0 → Gc P M1 R r len T) ∧ (¬ a R < 0 → Gc P M1 (w (gRec R r)) (rNext r) len T) := by
  obtain ⟨h1, ⟨h2, o, h3, h4, h5, h6⟩, h7⟩ := hG
  have hm6 : ∀ i, (o + i) % 6 < 6 := fun i => Nat.mod_lt _ (by omega)
  obtain ⟨M1, a1, a2, a3⟩ := c_keep (n := n) hn h3 h2 h4 h5 h1
  have hor := hm6 r
  have hM1 : Mo (P + 1) M1 R := Mo_ext (fun x hx1 hx2 => a3 x (by omega)) (fun k hk => rfl) h1
  have hM1r : Mo (P + 1) M1 (gRec R r) := Mo_ext (fun x hx1 hx2 => rfl) (fun k hk => gRec_lo hk) hM1
  obtain ⟨M2, b1, b2, b3, -⟩ := hop M1 R hM1
  obtain ⟨M2', e1, e2, e3, e4⟩ := hop M1 (gRec R r) hM1r
  have hE := b1.symm.trans e1
  have hE1 : a (gRec R r) = a R := (congrArg Prod.fst (Option.some.inj hE)).symm
  have hE2 : M2' = M2 := (congrArg Prod.snd (Option.some.inj hE)).symm
  subst hE2
  rw [hE1] at e4
  have hB : ∀ i, i < r → Mo (P + 22 + 2 + 21 * ((o + i) % 6)) M2' (fun k => R (2123 + 2123 * i + k)) := by
    intro i hi
    have hoi := hm6 i
    refine Mo_ext (fun x hx1 hx2 => ?_) (fun k hk => rfl) (h6 i hi)
    rw [b2 x (by omega), a3 x (by omega)]
  have hB2 : Mo (P + 22 + 2 + 21 * ((o + r) % 6)) M2' R := Mo_ext (fun x hx1 hx2 => b2 x (by omega)) (fun k hk => rfl) a2
  have hT : Tx P M2' len T := Tx_ext h7 (by rw [b2 _ (by omega), a3 _ (by omega)]) (by rw [b2 _ (by omega), a3 _ (by omega)])
  have g1 : M2' (P + 22) 1 = nI o := by rw [b2 _ (by omega), a3 _ (by omega)]; exact h4
  have g2 : M2' (P + 22) 2 = nI r := by rw [b2 _ (by omega), a3 _ (by omega)]; exact h5
  have hl : ∃ l, l ≤ 30 ∧ gInv (gRec R r) l := by
    obtain ⟨⟨l, q1, q2, -⟩, -⟩ := hM1r
    exact ⟨l, q1, q2⟩
  by_cases hneg : a R < 0
  · refine ⟨M2', ?_, fun x hx => by rw [b2 x (by omega), a3 x (by omega)], hE1, fun _ => ⟨b3 hneg, ⟨h2, o, h3, g1, g2, hB⟩, hT⟩, fun h => absurd hneg h⟩
    rw [bnd a1, bnd b1]
    have e : f_X0_recordUnlessError n (P + 22) (a R) M2' = some (a R, M2') := by
      unfold f_X0_recordUnlessError
      rw [if_pos hneg]
    rw [bnd e]
  · obtain ⟨M3, d1, d2, d3⟩ := c_rec (n := n) (R1 := w (gRec R r)) h2 h3 g1 g2 hneg (e4 hneg) hB hB2 hT (fun k hk => hw _ k hl (by rw [hE1]; exact hneg) hk)
    refine ⟨M3, ?_, fun x hx => by rw [d3 x (by omega), b2 x (by omega), a3 x (by omega)], hE1, fun h => absurd h hneg, fun _ => d2⟩
    rw [bnd a1, bnd b1, bnd d1]
/-- take and restore -/
def aTake (x : Int32) (g : Nat → Int32) : Int32 := if 0 ≤ x ∧ x ≤ 1 then g 52 else -1001
def nTake (x : Int32) (g : Nat → Int32) : Nat → Int32 := fun k => if 707 + 707 * x.toNatClampNeg ≤ k ∧ k < 1414 + 707 * x.toNatClampNeg then g (k - (707 + 707 * x.toNatClampNeg)) else if k = 2121 + x.toNatClampNeg then 1 else g k
def aRest (x : Int32) (g : Nat → Int32) : Int32 := if 0 ≤ x ∧ x ≤ 1 then (if g (2121 + x.toNatClampNeg) = 0 then -1002 else g (707 + 707 * x.toNatClampNeg + 52)) else -1001
def nRest (x : Int32) (g : Nat → Int32) : Nat → Int32 := fun k => if k < 707 then g (707 + 707 * x.toNatClampNeg + k) else g k
theorem i_01 {x : Int32} (h : 0 ≤ x ∧ x ≤ 1) : ∃ a, a < 2 ∧ x = nI a := by
  obtain ⟨a, h1, h2⟩ := i_rng (m := 1) (by omega) h.1 h.2
  exact ⟨a, by omega, h2⟩
theorem OpM.no {p : Nat} {a : (Nat → Int32) → Int32} {w : (Nat → Int32) → Nat → Int32} {o : Option (Int32 × vv_M)} {M : vv_M} {g : Nat → Int32} {e : Int32} (hO : Mo p M g) (ha : a g = e) (he : e < 0) (ho : o = some (e, M)) : ∃ M', o = some (a g, M') ∧ FrS p (p + 21) M M' ∧ (a g < 0 → Mo p M' g) ∧ (¬ a g < 0 → Mo p M' (w g)) := ⟨M, by rw [ho, ha], FrS.rf, fun _ => hO, fun h => absurd (ha ▸ he) h⟩
theorem Ov_52 {p : Nat} {M : vv_M} {g : Nat → Int32} (h : Ov p M g) : M p 5 = g 52 ∧ ¬ g 52 < 0 := by
  obtain ⟨l, hl, hI, hE, hR⟩ := h
  refine ⟨hR.2.2.2.1.1, ?_⟩
  obtain ⟨t, t1, t2⟩ := hE.2.2
  rw [t2]
  exact nI_pos (by omega)
theorem o_take {n p : Nat} (hn : 40 ≤ n) (x : Int32) : OpM p (aTake x) (nTake x) (f_X1_takeSnapshot n p x) := by
  intro M g hM
  have hM0 := hM
  obtain ⟨h1, h2⟩ := hM0
  unfold f_X1_takeSnapshot
  rw [c_in_b]
  by_cases hx : 0 ≤ x ∧ x ≤ 1
  rotate_left
  · refine OpM.no (e := -1001) hM ?_ (by decide) ?_
    · unfold aTake
      rw [if_neg hx]
    · rw [zi_f hx]; rfl
  rw [zi_t hx]
  have hx' := hx
  obtain ⟨j, hj, rfl⟩ := i_01 hx'
  obtain ⟨M1, b1, b2, b3⟩ := c_become (n := n) (p := p + 9 + 6 * j) h1 (by omega)
  have h52 := Ov_52 h1
  have ha : aTake (nI j) g = g 52 := by
    unfold aTake
    rw [if_pos hx]
  have e1 : (vp_nar .boolean (1 : Int32)) = 1 := nar_01 (Or.inr rfl)
  rw [ha]
  refine ⟨va_up M1 (p + 8) (upd (M1 (p + 8)) j 1), ?_, fun q hq => by rw [up_n (by omega), b3 q (by omega)], fun h => absurd h h52.2, fun _ => ⟨?_, fun i hi => ?_⟩⟩
  · have e5 : M1 (p + 1) = M (p + 1) := b3 _ (by omega)
    simp (disch := omega) only [show ((1 : Int32) = 0) = False from by decide, ↓reduceIte, ix_n0, ix_nge, or_self, ix_cl, ↓bnd b1, ↓ix_let, e1, up_n, e5, h52.1]
  · refine Ov_ext (fun q hq1 hq2 => by rw [up_n (by omega), b3 q (by omega)]) (fun k hk => ?_) h1
    unfold nTake
    rw [ix_cl (by omega), if_neg (by omega), if_neg (by omega)]
  · unfold nTake
    rw [ix_cl (by omega), up_s]
    by_cases hij : i = j
    · subst hij
      rw [ud_s, if_neg (by omega), if_pos rfl]
      refine ⟨rfl, Or.inr rfl, fun _ => Ov_ext (fun q hq1 hq2 => up_n (by omega)) (fun k hk => ?_) b2⟩
      rw [if_pos (by omega), show 707 + 707 * i + k - (707 + 707 * i) = k by omega]
    · obtain ⟨d1, d2, d3⟩ := h2 i hi
      rw [ud_ne hij, if_neg (by omega), if_neg (by omega), b3 _ (by omega)]
      refine ⟨d1, d2, fun h => Ov_ext (fun q hq1 hq2 => by rw [up_n (by omega), b3 q (by omega)]) (fun k hk => ?_) (d3 h)⟩
      rw [if_neg (by omega), if_neg (by omega)]
theorem o_rest {n p : Nat} (hn : 40 ≤ n) (x : Int32) : OpM p (aRest x) (nRest x) (f_X1_restoreSnapshot n p x) := by
  intro M g hM
  have hM0 := hM
  obtain ⟨h1, h2⟩ := hM0
  unfold f_X1_restoreSnapshot
  rw [c_in_b]
  by_cases hx : 0 ≤ x ∧ x ≤ 1
  rotate_left
  · refine OpM.no (e := -1001) hM ?_ (by decide) ?_
    · unfold aRest
      rw [if_neg hx]
    · rw [zi_f hx]; rfl
  rw [zi_t hx]
  have hx' := hx
  obtain ⟨j, hj, rfl⟩ := i_01 hx'
  obtain ⟨d1, d2, d3⟩ := h2 j hj
  by_cases h0 : g (2121 + j) = 0
  · refine OpM.no (e := -1002) hM ?_ (by decide) ?_
    · unfold aRest
      rw [if_pos hx, ix_cl (by omega), if_pos h0]
    · simp (disch := omega) only [show ((1 : Int32) = 0) = False from by decide, ↓reduceIte, ix_n0, ix_nge, or_self, ix_cl, d1, h0]
  have hO := d3 (d2.resolve_left h0)
  obtain ⟨M1, b1, b2, b3⟩ := c_become (n := n) (p := p + 1) hO (by omega)
  have h52 := Ov_52 b2
  have ha : aRest (nI j) g = g (707 + 707 * j + 52) := by
    unfold aRest
    rw [if_pos hx, ix_cl (by omega), if_neg h0]
  rw [ha]
  refine ⟨M1, ?_, fun q hq => b3 q (by omega), fun h => absurd h h52.2, fun _ => ⟨?_, fun i hi => ?_⟩⟩
  · have e0 : (g (2121 + j) = 0) = False := eq_false h0
    simp (disch := omega) only [show ((1 : Int32) = 0) = False from by decide, ↓reduceIte, ix_n0, ix_nge, or_self, ix_cl, d1, e0, ↓bnd b1, h52.1]
  · refine Ov_ext (fun q hq1 hq2 => rfl) (fun k hk => ?_) b2
    unfold nRest
    rw [ix_cl (by omega), if_pos hk]
  · obtain ⟨q1, q2, q3⟩ := h2 i hi
    unfold nRest
    rw [if_neg (by omega), b3 _ (by omega)]
    refine ⟨q1, q2, fun h => Ov_ext (fun q hq1 hq2 => b3 q (by omega)) (fun k hk => ?_) (q3 h)⟩
    rw [if_neg (by omega)]
