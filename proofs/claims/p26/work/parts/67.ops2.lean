/-! the calls on an oven: answers and new pictures -/
def gl (g : Nat → Int32) : Nat := (g 53).toNatClampNeg
theorem gl_eq {g : Nat → Int32} {l : Nat} (hI : gInv g l) : gl g = l := by
  unfold gl
  have := hI.2.2.1
  rw [hI.2.1, ix_cl (by omega)]
def aOff (x : Int32) (g : Nat → Int32) : Int32 := if 0 ≤ x ∧ x ≤ g 53 - 1 then (if g (56 + 21 * x.toNatClampNeg + 2) = 0 then g (56 + 21 * x.toNatClampNeg + 3) else -1002) else -1001
def nOff (x : Int32) (g : Nat → Int32) : Nat → Int32 := upd g (56 + 21 * x.toNatClampNeg + 2) 2
def aLoad (c w : Int32) (g : Nat → Int32) : Int32 := if 0 ≤ c ∧ c ≤ 3 then (if 1 ≤ w ∧ w ≤ 9 then (if gFree g (gl g) = true then (if gl g < 30 then nI (gl g) else -1003) else -1002) else -1001) else -1001
def nLoad (c w : Int32) (g : Nat → Int32) : Nat → Int32 := gLoad (gl g) c w g
def aPass (x : Int32) (g : Nat → Int32) : Int32 := if 1 ≤ x ∧ x ≤ 99 then (if g 52 + x ≤ 5000 then gMany (gTicks (gl g) x.toNatClampNeg g) 1 (gl g) - gMany g 1 (gl g) else -1003) else -1001
def nPass (x : Int32) (g : Nat → Int32) : Nat → Int32 := gTicks (gl g) x.toNatClampNeg g
def nZone (z v t w : Int32) (g : Nat → Int32) : Nat → Int32 := upd (upd (upd (upd g (0 + 4 * z.toNatClampNeg + 0) v) (0 + 4 * z.toNatClampNeg + 1) t) (0 + 4 * z.toNatClampNeg + 2) w) (0 + 4 * z.toNatClampNeg + 3) t
def aZone (z v t w : Int32) (g : Nat → Int32) : Int32 := if 0 ≤ z ∧ z ≤ 5 then (if 2 ≤ v ∧ v ≤ 8 then (if 20 ≤ t ∧ t ≤ 300 then (if 1 ≤ w ∧ w ≤ 20 then (if gMany g 0 (gl g) ≤ 0 then gBelt (nZone z v t w g) else -1002) else -1001) else -1001) else -1001) else -1001
abbrev okC (w v : Int32) : Prop := (0 ≤ w ∧ w ≤ 5) ∧ (([1, 20, 0, 0, 20, 20] : List Int32).getD w.toNatClampNeg 0) ≤ v ∧ v ≤ (([99, 300, 99, 99, 300, 300] : List Int32).getD w.toNatClampNeg 0)
def aCurve (c w v : Int32) (g : Nat → Int32) : Int32 := if (0 ≤ c ∧ c ≤ 3) ∧ okC w v then g (24 + 6 * c.toNatClampNeg + w.toNatClampNeg) else -1001
def nCurve (c w v : Int32) (g : Nat → Int32) : Nat → Int32 := upd g (24 + 6 * c.toNatClampNeg + w.toNatClampNeg) v
abbrev okN (w v : Int32) : Prop := (0 ≤ w ∧ w ≤ 3) ∧ (([1, 1, 0, 0] : List Int32).getD w.toNatClampNeg 0) ≤ v ∧ v ≤ (([3, 20, 99, 9] : List Int32).getD w.toNatClampNeg 0)
def aNum (w v : Int32) (g : Nat → Int32) : Int32 := if okN w v then g (48 + w.toNatClampNeg) else -1001
def nNum (w v : Int32) (g : Nat → Int32) : Nat → Int32 := upd g (48 + w.toNatClampNeg) v
/-- what a call on an oven does in the class -/
def OpC (p : Nat) (a : (Nat → Int32) → Int32) (w : (Nat → Int32) → Nat → Int32) (f : vv_M → Option (Int32 × vv_M)) : Prop := ∀ M g, Ov p M g → ∃ M', f M = some (a g, M') ∧ Fr p M M' ∧ (a g < 0 → Ov p M' g) ∧ (¬ a g < 0 → Ov p M' (w g))
theorem OpC.no {p : Nat} {a : (Nat → Int32) → Int32} {w : (Nat → Int32) → Nat → Int32} {o : Option (Int32 × vv_M)} {M : vv_M} {g : Nat → Int32} {e : Int32} (hO : Ov p M g) (ha : a g = e) (he : e < 0) (ho : o = some (e, M)) : ∃ M', o = some (a g, M') ∧ Fr p M M' ∧ (a g < 0 → Ov p M' g) ∧ (¬ a g < 0 → Ov p M' (w g)) := ⟨M, by rw [ho, ha], Fr.rf, fun _ => hO, fun h => absurd (ha ▸ he) h⟩
theorem c_in_b' {β : Type} {n : Nat} {x lo hi : Int32} {M : vv_M} {f : Int32 × vv_M → Option β} : (f_X4_isWithin n x lo hi M).bind f = f (zi (lo ≤ x ∧ x ≤ hi), M) := bnd (c_in n x lo hi M)
theorem o_off {n p : Nat} (hn : 200 ≤ n) (x : Int32) : OpC p (aOff x) (nOff x) (f_X2_removeBoard n p x) := by
  rintro M g ⟨l, hl, hI, hE, hR⟩
  have hO : Ov p M g := ⟨l, hl, hI, hE, hR⟩
  have h53 := hI.2.1
  unfold f_X2_removeBoard
  by_cases hx : 0 ≤ x ∧ x ≤ g 53 - 1
  · obtain ⟨b, hb, rfl⟩ := (brd_iff (by omega)).mp (h53 ▸ hx)
    have hRb := hR.2.2.2.2 b hb
    have e2 : M (p + 4) (b * 22 + 2) = g (56 + 21 * b + 2) := hRb.1 2 (by omega) (by omega)
    have hon := c_isOnBelt (n := n) (p := p) (b := b) M (by omega)
    rw [e2] at hon
    rw [bnd (c_hasBoard _ hR), zi_t hx]
    show ∃ M', (if (1 : Int32) = 0 then _ else _) = _ ∧ _
    rw [if_neg (by decide), bnd hon]
    by_cases h2 : g (56 + 21 * b + 2) = 0
    · obtain ⟨q1, q2⟩ := (hI.2.2.2.2.2 b hb).2.2.1 h2
      have e3 := (hRb.2.1 h2).1
      have hp6 := gPre_6 hI.1
      have ha : aOff (nI b) g = g (56 + 21 * b + 3) := by
        unfold aOff
        rw [if_pos hx, ix_cl (by omega), if_pos h2]
      rw [zi_t h2, ha, e3.symm]
      have hneg : ¬ M (p + 4) (b * 22 + 3) < 0 := by
        rw [e3, q1]
        exact nI_pos (by omega)
      refine ⟨va_up M (p + 4) (upd (upd (M (p + 4)) (b * 22 + 2) 2) (b * 22 + 3) (-1009)), ?_, Fr.up (by omega), fun h => absurd h hneg, fun _ => ?_⟩
      · simp (disch := omega) only [ix_al, ix_ml, ix_cl, ix_cll, ix_n0, ix_l0, ix_nge, or_self, ↓reduceIte, ↓ix_let, up_s, bx_uu, f_X2_removeBoard_47, show ((1 : Int32) = 0) = False from by decide]
      · unfold nOff
        rw [ix_cl (by omega)]
        have hout : ∀ i, gOut b i → upd g (56 + 21 * b + 2) 2 i = g i := fun i hi => ud_ne (by unfold gOut at hi; omega)
        have hgz : ∀ y, gZone (upd g (56 + 21 * b + 2) 2) y = gZone g y := fun y => gZone_congr (fun z hz => hout _ (by unfold gOut; omega)) y
        refine ⟨l, hl, gInv_board hI hout ?_, gE_ext (fun k hk => hout k (by unfold gOut; omega)) hE, Ro_board (b := b) hR hout (fun i hi => by unfold bOut at hi; rw [ud_ne (by omega), ud_ne (by omega)]) ?_⟩
        · obtain ⟨⟨c, c1, c2⟩, ⟨w, w1, w2, w3⟩, -, w5⟩ := hI.2.2.2.2.2 b hb
          refine ⟨⟨c, c1, by rw [ud_ne (by omega)]; exact c2⟩, ⟨w, w1, w2, by rw [ud_ne (by omega)]; exact w3⟩, fun h => ?_, gUpd_fl w5 (by omega) (by omega)⟩
          rw [ud_s] at h
          exact absurd h (by decide)
        · obtain ⟨a1, a2, a3, a4⟩ := hRb
          refine ⟨fun j hj h9 => ?_, fun h => ?_, fun h => ?_, fun k hk => ?_⟩
          · by_cases j2 : j = 2
            · subst j2
              simp (disch := omega) only [ud_ne, ud_s]
            · simp (disch := omega) only [ud_ne]
              exact a1 j hj h9
          · rw [ud_s] at h
            exact absurd h (by decide)
          · rw [ud_s]
          · simp (disch := omega) only [ud_ne]
            exact a4 k hk
    · refine OpC.no (e := -1002) hO ?_ (by decide) ?_
      · unfold aOff
        rw [if_pos hx, ix_cl (by omega), if_neg h2]
      · rw [zi_f h2]
        rfl
  · refine OpC.no (e := -1001) hO ?_ (by decide) ?_
    · unfold aOff
      rw [if_neg hx]
    · rw [bnd (c_hasBoard _ hR), zi_f hx]
      rfl
theorem o_load {n p : Nat} (hn : 200 ≤ n) (c w : Int32) : OpC p (aLoad c w) (nLoad c w) (f_X2_addBoard n p c w) := by
  rintro M g ⟨l, hl, hI, hE, hR⟩
  have hO : Ov p M g := ⟨l, hl, hI, hE, hR⟩
  have hg := gl_eq hI
  have h6 : M p 6 = nI l := hR.2.2.2.1.2.1.trans hI.2.1
  unfold f_X2_addBoard
  rw [c_in_b]
  by_cases hc : 0 ≤ c ∧ c ≤ 3
  rotate_left
  · refine OpC.no (e := -1001) hO ?_ (by decide) ?_
    · unfold aLoad
      rw [if_neg hc]
    · rw [zi_f hc]; rfl
  by_cases hw : 1 ≤ w ∧ w ≤ 9
  rotate_left
  · refine OpC.no (e := -1001) hO ?_ (by decide) ?_
    · unfold aLoad
      rw [if_pos hc, if_neg hw]
    · rw [zi_t hc]
      show (if (1 : Int32) = 0 then _ else _) = _
      rw [if_neg (by decide), c_in_b, zi_f hw]; rfl
  rw [zi_t hc]
  show ∃ M', (if (1 : Int32) = 0 then _ else _) = _ ∧ _
  rw [if_neg (by decide), c_in_b, zi_t hw]
  show ∃ M', (if (1 : Int32) = 0 then _ else _) = _ ∧ _
  rw [if_neg (by decide), bnd (c_free (by omega) hI hR)]
  by_cases hf : gFree g l = true
  rotate_left
  · refine OpC.no (e := -1002) hO ?_ (by decide) ?_
    · unfold aLoad
      rw [if_pos hc, if_pos hw, hg, if_neg hf]
    · rw [zi_f hf]; rfl
  rw [zi_t hf]
  show ∃ M', (if (1 : Int32) = 0 then _ else if M p 6 < 30 then _ else _) = _ ∧ _
  rw [if_neg (by decide), h6]
  by_cases h30 : l < 30
  rotate_left
  · refine OpC.no (e := -1003) hO ?_ (by decide) ?_
    · unfold aLoad
      rw [if_pos hc, if_pos hw, hg, if_pos hf, if_neg h30]
    · rw [if_neg (show ¬ nI l < 30 from fun h => h30 ((nI_ltI (b := 30) (by omega) (by omega)).mp h))]
  rw [if_pos (show nI l < 30 from nI_lt (b := 30) h30 (by omega))]
  obtain ⟨cn, hcn, rfl⟩ := i_rng (m := 3) (by omega) hc.1 hc.2
  obtain ⟨wn, hwn, rfl⟩ := i_rng (m := 9) (by omega) (Int32.le_trans (by decide) hw.1) hw.2
  have hw1 : 1 ≤ wn := (nI_leI (a := 1) (by omega) (by omega)).mp hw.1
  have ha : aLoad (nI cn) (nI wn) g = nI l := by
    unfold aLoad
    rw [if_pos hc, if_pos hw, hg, if_pos hf, if_pos h30]
  rw [bnd (c_place _ _ M (by omega) h6 (by omega)), ha]
  obtain ⟨k1, k2⟩ := Ro_load (c := cn) (w := wn) (by omega) hI hR (by omega) hw1 hwn
  refine ⟨_, rfl, Fr.tr (Fr.up (by omega)) Fr.up0, fun h => absurd h (nI_pos (by omega)), fun _ => ?_⟩
  unfold nLoad
  rw [hg]
  refine ⟨l + 1, by omega, k1, ?_, k2⟩
  obtain ⟨e1, ⟨e2, e3⟩, t, e4, e5⟩ := hE
  have hlo : ∀ i, i < 56 → i ≠ 53 → gLoad l (nI cn) (nI wn) g i = g i := fun i hi h53 => gLoad_out (Or.inl (by omega)) h53
  exact ⟨fun k hk => by rw [hlo _ (by omega) (by omega)]; exact e1 k hk, ⟨by rw [hlo _ (by omega) (by omega)]; exact e2, by rw [hlo _ (by omega) (by omega)]; exact e3⟩, t, e4, by rw [hlo _ (by omega) (by omega)]; exact e5⟩
theorem o_pass {n p : Nat} (hn : 200 ≤ n) (x : Int32) : OpC p (aPass x) (nPass x) (f_X2_letPass n p x) := by
  rintro M g ⟨l, hl, hI, hE, hR⟩
  have hO : Ov p M g := ⟨l, hl, hI, hE, hR⟩
  have hg := gl_eq hI
  have h5 : M p 5 = g 52 := hR.2.2.2.1.1
  unfold f_X2_letPass
  rw [c_in_b]
  by_cases hx : 1 ≤ x ∧ x ≤ 99
  rotate_left
  · refine OpC.no (e := -1001) hO ?_ (by decide) ?_
    · unfold aPass
      rw [if_neg hx]
    · rw [zi_f hx]; rfl
  rw [zi_t hx]
  show ∃ M', (if (1 : Int32) = 0 then _ else if M p 5 + x ≤ 5000 then f_X2_letPass_34 n n p x 0 0 M else some (-1003, M)) = _ ∧ _
  rw [if_neg (by decide), h5]
  by_cases hs : g 52 + x ≤ 5000
  rotate_left
  · refine OpC.no (e := -1003) hO ?_ (by decide) ?_
    · unfold aPass
      rw [if_pos hx, if_neg hs]
    · rw [if_neg hs]
  rw [if_pos hs]
  obtain ⟨j, hj, rfl⟩ := i_rng (m := 99) (by omega) (Int32.le_trans (by decide) hx.1) hx.2
  obtain ⟨M', h1, h2, h3⟩ := c_letPass34 (n := n) (p := p) (l := l) (by omega) j 0 n 0 M g (by omega) (by omega) hI hR
  rw [Nat.zero_add, Int32.zero_add, gLeftN (by omega)] at h1
  have ha : aPass (nI j) g = nI (gMn (gTicks l j g) 1 l - gMn g 1 l) := by
    unfold aPass
    rw [if_pos hx, if_pos hs, hg, ix_cl (by omega), gLeftN (by omega)]
  have hle := gMn_le (gTicks l j g) 1 l
  rw [ha]
  refine ⟨M', h1, h3, fun h => absurd h (nI_pos (by omega)), fun _ => ?_⟩
  unfold nPass
  rw [hg, ix_cl (by omega)]
  obtain ⟨e1, ⟨e2, e3⟩, t, e4, e5⟩ := hE
  rw [e5, nI_add] at hs
  have ht : t + j ≤ 5000 := (nI_leI (b := 5000) (by omega) (by omega)).mp hs
  exact ⟨l, hl, gTicks_inv j g hI, ⟨fun k hk => by rw [gTicks_lo (by omega) (by omega) (by omega) (by omega) (by omega) (by omega)]; exact e1 k hk, ⟨by rw [gTicks_lo (by omega) (by omega) (by omega) (by omega) (by omega) (by omega)]; exact e2, by rw [gTicks_lo (by omega) (by omega) (by omega) (by omega) (by omega) (by omega)]; exact e3⟩, t + j, ht, gTicks_52 (t := t) j g t e5⟩, h2⟩
