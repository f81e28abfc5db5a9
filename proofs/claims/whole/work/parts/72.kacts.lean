/-! the reference's actions -/
theorem t10 : ((1 : Int32) = 0) = False := by decide
theorem tm1 : ((-1001 : Int32) = 0) = False := by decide
theorem tm2 : ((-1002 : Int32) = 0) = False := by decide
theorem tm3 : ((-1003 : Int32) = 0) = False := by decide
def eLoad (c w : Int32) (g : Nat → Int32) : Int32 := if 0 ≤ c ∧ c ≤ 3 then (if 1 ≤ w ∧ w ≤ 9 then (if gFree g (gl g) = true then (if gl g < 30 then 0 else -1003) else -1002) else -1001) else -1001
theorem r_noLoad {n p l : Nat} (c w : Int32) (M : vv_M) (hn : 40 ≤ n) (hl : l ≤ 30) (hI : gInv (M (p + 1)) l) : f_X5_noLoad n p c w M = some (eLoad c w (M (p + 1)), M) := by
  unfold f_X5_noLoad eLoad
  rw [gl_eq hI]
  by_cases hc : 0 ≤ c ∧ c ≤ 3
  · by_cases hw : 1 ≤ w ∧ w ≤ 9
    · by_cases hf : gFree (M (p + 1)) l = true
      · simp (disch := omega) only [r_isCurve_b, r_in_b, zi_t hc, zi_t hw, t10, ↓reduceIte, ↓bnd (r_hasRoom (n := n) M hI.2.1 (show l ≤ 31 by omega) hn), zi_t hf, ix_l0, ix_cll, ix_nge, or_self, hI.2.1, if_pos hc, if_pos hw, if_pos hf]
        by_cases h30 : l < 30
        · rw [if_pos h30, if_neg (show ¬ nI l = 30 from fun h => absurd ((nI_eq (b := 30) (by omega) (by omega)).mp h) (by omega))]
        · rw [if_neg h30, if_pos (show nI l = 30 from (nI_eq (b := 30) (by omega) (by omega)).mpr (by omega))]
      · simp (disch := omega) only [r_isCurve_b, r_in_b, zi_t hc, zi_t hw, t10, ↓reduceIte, ↓bnd (r_hasRoom (n := n) M hI.2.1 (show l ≤ 31 by omega) hn), zi_f hf, if_pos hc, if_pos hw, if_neg hf]
    · simp (disch := omega) only [r_isCurve_b, r_in_b, zi_t hc, zi_f hw, t10, ↓reduceIte, if_pos hc, if_neg hw]
  · simp (disch := omega) only [r_isCurve_b, zi_f hc, ↓reduceIte, if_neg hc]
theorem e_load {c w : Int32} {g : Nat → Int32} (h : eLoad c w g = 0) : aLoad c w g = nI (gl g) ∧ gl g < 30 ∧ (0 ≤ c ∧ c ≤ 3) ∧ (1 ≤ w ∧ w ≤ 9) := by
  unfold eLoad at h
  unfold aLoad
  by_cases hc : 0 ≤ c ∧ c ≤ 3
  · rw [if_pos hc] at h ⊢
    by_cases hw : 1 ≤ w ∧ w ≤ 9
    · rw [if_pos hw] at h ⊢
      by_cases hf : gFree g (gl g) = true
      · rw [if_pos hf] at h ⊢
        by_cases h30 : gl g < 30
        · rw [if_pos h30]; exact ⟨rfl, h30, hc, hw⟩
        · rw [if_neg h30] at h; exact absurd h (by decide)
      · rw [if_neg hf] at h; exact absurd h (by decide)
    · rw [if_neg hw] at h; exact absurd h (by decide)
  · rw [if_neg hc] at h; exact absurd h (by decide)
theorem e_load2 {c w : Int32} {g : Nat → Int32} (h : eLoad c w g ≠ 0) : aLoad c w g = eLoad c w g ∧ eLoad c w g < 0 := by
  unfold eLoad at h ⊢
  unfold aLoad
  by_cases hc : 0 ≤ c ∧ c ≤ 3
  · rw [if_pos hc] at h
    rw [if_pos hc, if_pos hc]
    by_cases hw : 1 ≤ w ∧ w ≤ 9
    · rw [if_pos hw] at h
      rw [if_pos hw, if_pos hw]
      by_cases hf : gFree g (gl g) = true
      · rw [if_pos hf] at h
        rw [if_pos hf, if_pos hf]
        by_cases h30 : gl g < 30
        · rw [if_pos h30] at h
          exact absurd rfl h
        · rw [if_neg h30, if_neg h30]; exact ⟨rfl, by decide⟩
      · rw [if_neg hf, if_neg hf]; exact ⟨rfl, by decide⟩
    · rw [if_neg hw, if_neg hw]; exact ⟨rfl, by decide⟩
  · rw [if_neg hc, if_neg hc]; exact ⟨rfl, by decide⟩
/-- the memory after record -/
def mRec (Q r : Nat) (M : vv_M) : vv_M := va_up (va_up M (Q + 1) (gRec (M (Q + 1)) r)) Q (upd (M Q) 1 (nI (rNext r)))
theorem mRec_1 {Q r : Nat} {M : vv_M} : mRec Q r M (Q + 1) = gRec (M (Q + 1)) r := by
  unfold mRec
  rw [up_n (by omega), up_s]
theorem r_rec {n p r : Nat} (M : vv_M) (hn : 5000 ≤ n) (hr : r ≤ 5) (h1 : M p 1 = nI r) : f_X5_record n p M = some ((), mRec p r M) := r_record M hn hr h1
theorem k_load {n Q : Nat} (hn : 5000 ≤ n) (c w : Int32) : Kx Q (aLoad c w) (nLoad c w) (f_X5_load n Q c w) := by
  rintro M r hr h1 ⟨l, hl, hI, hE⟩ hx -
  have hno := r_noLoad (n := n) (p := Q) c w M (by omega) hl hI
  have hg := gl_eq hI
  unfold f_X5_load
  by_cases he : eLoad c w (M (Q + 1)) = 0
  · obtain ⟨q1, q2, -, -⟩ := e_load he
    have hd := r_doLoad (n := n) (p := Q) (l := l) c w (mRec Q r M) (by omega) (by rw [mRec_1, gRec_lo (by omega)]; exact hI.2.1) (by omega)
    refine Kx.yes (e := nI l) (by rw [q1, hg]) (nI_pos (by omega)) ?_
    rw [bnd hno, ix_let, he, if_pos rfl, bnd (r_rec M hn hr h1), bnd hd, mRec_1]
    unfold nLoad mRec
    rw [gl_rec, hg]
  · obtain ⟨q1, q2⟩ := e_load2 he
    refine Kx.no h1 q1 q2 ?_
    rw [bnd hno, ix_let, if_neg he]
def eOff (x : Int32) (g : Nat → Int32) : Int32 := if 0 ≤ x ∧ x ≤ g 53 - 1 then (if g (56 + 21 * x.toNatClampNeg + 2) = 0 then 0 else -1002) else -1001
theorem r_noOff {n p l : Nat} (x : Int32) (M : vv_M) (hl : l ≤ 30) (hI : gInv (M (p + 1)) l) : f_X5_noTakeOff n p x M = some (eOff x (M (p + 1)), M) := by
  unfold f_X5_noTakeOff eOff
  rw [r_isBoard_b]
  by_cases hx : 0 ≤ x ∧ x ≤ M (p + 1) 53 - 1
  · rw [zi_t hx, if_pos hx]
    have hx' := hx
    rw [hI.2.1] at hx'
    obtain ⟨b, hb, rfl⟩ := (brd_iff (by omega)).mp hx'
    show (if (1 : Int32) = 0 then _ else _) = _
    rw [if_neg (by decide), r_isOn_b (by omega), ix_cl (by omega)]
    by_cases h2 : M (p + 1) (56 + 21 * b + 2) = 0
    · rw [zi_t h2, if_pos h2]; rfl
    · rw [zi_f h2, if_neg h2]; rfl
  · rw [zi_f hx, if_neg hx]; rfl
theorem k_off {n Q : Nat} (hn : 5000 ≤ n) (x : Int32) : Kx Q (aOff x) (nOff x) (f_X5_takeOff n Q x) := by
  rintro M r hr h1 ⟨l, hl, hI, hE⟩ hxx -
  have hno := r_noOff (n := n) (p := Q) x M hl hI
  unfold f_X5_takeOff
  by_cases hx : 0 ≤ x ∧ x ≤ M (Q + 1) 53 - 1
  · have hx' := hx
    rw [hI.2.1] at hx'
    obtain ⟨b, hb, rfl⟩ := (brd_iff (by omega)).mp hx'
    have hp6 := gPre_6 hI.1
    by_cases h2 : M (Q + 1) (56 + 21 * b + 2) = 0
    · obtain ⟨q1, q2⟩ := (hI.2.2.2.2.2 b hb).2.2.1 h2
      have e0 : eOff (nI b) (M (Q + 1)) = 0 := by
        unfold eOff
        rw [if_pos hx, ix_cl (by omega), if_pos h2]
      refine Kx.yes (e := M (Q + 1) (56 + 21 * b + 3)) ?_ (by rw [q1]; exact nI_pos (by omega)) ?_
      · unfold aOff
        rw [if_pos hx, ix_cl (by omega), if_pos h2]
      · rw [bnd hno, ix_let, e0, if_pos rfl, bnd (r_rec M hn hr h1)]
        unfold f_X5_takeOff_27 nOff
        simp (disch := omega) only [↓r_of_b, ix_cl, ix_n0, ix_nge, or_self, ↓reduceIte, ↓ix_let, up_s, mRec_1, ud_ne, gRec_lo]
        rfl
    · have e0 : eOff (nI b) (M (Q + 1)) = -1002 := by
        unfold eOff
        rw [if_pos hx, ix_cl (by omega), if_neg h2]
      refine Kx.no (e := -1002) h1 ?_ (by decide) ?_
      · unfold aOff
        rw [if_pos hx, ix_cl (by omega), if_neg h2]
      · rw [bnd hno, ix_let, e0, if_neg (show ¬ (-1002 : Int32) = 0 by decide)]
  · have e0 : eOff x (M (Q + 1)) = -1001 := by
      unfold eOff
      rw [if_neg hx]
    refine Kx.no (e := -1001) h1 ?_ (by decide) ?_
    · unfold aOff
      rw [if_neg hx]
    · rw [bnd hno, ix_let, e0, if_neg (show ¬ (-1001 : Int32) = 0 by decide)]
def ePass (x : Int32) (g : Nat → Int32) : Int32 := if 1 ≤ x ∧ x ≤ 99 then (if g 52 + x ≤ 5000 then 0 else -1003) else -1001
theorem r_noPass {n p : Nat} (x : Int32) (M : vv_M) : f_X5_noPass n p x M = some (ePass x (M (p + 1)), M) := by
  unfold f_X5_noPass ePass
  rw [r_in_b]
  by_cases hx : 1 ≤ x ∧ x ≤ 99
  · rw [zi_t hx, if_pos hx]
    simp (disch := omega) only [t10, ↓reduceIte, ix_l0, ix_cll, ix_nge, or_self]
    refine ife (fun h => ?_) (fun h => ?_)
    · rw [if_pos h]
    · rw [if_neg h]
  · rw [zi_f hx, if_neg hx]; rfl
theorem k_pass {n Q : Nat} (hn : 5000 ≤ n) (x : Int32) : Kx Q (aPass x) (nPass x) (f_X5_pass n Q x) := by
  rintro M r hr h1 ⟨l, hl, hI, hE⟩ hxx -
  have hno := r_noPass (n := n) (p := Q) x M
  have hg := gl_eq hI
  unfold f_X5_pass
  by_cases hx : 1 ≤ x ∧ x ≤ 99
  · by_cases hs : M (Q + 1) 52 + x ≤ 5000
    · have hx' := hx
      obtain ⟨j, hj, rfl⟩ := i_rng (m := 99) (by omega) (Int32.le_trans (by decide) hx'.1) hx'.2
      have e0 : ePass (nI j) (M (Q + 1)) = 0 := by
        unfold ePass
        rw [if_pos hx, if_pos hs]
      have hd := r_doPass (n := n) (p := Q) (l := l) (j := j) (mRec Q r M) (by omega) (by omega) (by rw [mRec_1]; exact gRec_inv hl hI)
      have ha : aPass (nI j) (gRec (M (Q + 1)) r) = gMany (gTicks l j (gRec (M (Q + 1)) r)) 1 l - gMany (gRec (M (Q + 1)) r) 1 l := by
        unfold aPass
        rw [if_pos hx, gRec_lo (by omega), if_pos hs, gl_rec, hg, ix_cl (by omega)]
      refine Kx.yes (e := aPass (nI j) (gRec (M (Q + 1)) r)) hxx.symm ?_ ?_
      · have hle := gMn_le (gTicks l j (gRec (M (Q + 1)) r)) 1 l
        rw [ha, gLeftN (by omega)]
        exact nI_pos (by omega)
      · rw [bnd hno, ix_let, e0, if_pos rfl, bnd (r_rec M hn hr h1), bnd hd, mRec_1, ha]
        unfold nPass mRec
        rw [gl_rec, hg, ix_cl (by omega)]
    · have e0 : ePass x (M (Q + 1)) = -1003 := by
        unfold ePass
        rw [if_pos hx, if_neg hs]
      refine Kx.no (e := -1003) h1 ?_ (by decide) ?_
      · unfold aPass
        rw [if_pos hx, if_neg hs]
      · rw [bnd hno, ix_let, e0, if_neg (show ¬ (-1003 : Int32) = 0 by decide)]
  · have e0 : ePass x (M (Q + 1)) = -1001 := by
      unfold ePass
      rw [if_neg hx]
    refine Kx.no (e := -1001) h1 ?_ (by decide) ?_
    · unfold aPass
      rw [if_neg hx]
    · rw [bnd hno, ix_let, e0, if_neg (show ¬ (-1001 : Int32) = 0 by decide)]
theorem gMany_rec {R : Nat → Int32} {l r : Nat} {s : Int32} (hl : l ≤ 31) : gMany (gRec R r) s l = gMany R s l := gMany_congr (fun b hb => gRec_lo (by omega))
theorem r_ofZn_b {β : Type} {n b k : Nat} {M : vv_M} {f : Int32 × vv_M → Option β} : (f_X5_ofZone n (nI b) (nI k) M).bind f = f (nI (0 + 4 * b + k), M) := by
  refine bnd ?_
  unfold f_X5_ofZone
  rw [ix_mr, ix_ar, nI_add]
theorem k_zone {n Q : Nat} (hn : 5000 ≤ n) (z v t w : Int32) : Kx Q (aZone z v t w) (nZone z v t w) (f_X5_setZone n Q z v t w) := by
  rintro M r hr h1 ⟨l, hl, hI, hE⟩ hxx -
  have hg := gl_eq hI
  unfold f_X5_setZone
  rw [r_isZone_b]
  by_cases hz : 0 ≤ z ∧ z ≤ 5
  rotate_left
  · refine Kx.no (e := -1001) h1 ?_ (by decide) ?_
    · unfold aZone
      rw [if_neg hz]
    · rw [zi_f hz]; rfl
  rw [zi_t hz]
  show ∃ M2, (if (1 : Int32) = 0 then _ else _) = _ ∧ _
  rw [if_neg (by decide), r_in_b]
  by_cases hv : 2 ≤ v ∧ v ≤ 8
  rotate_left
  · refine Kx.no (e := -1001) h1 ?_ (by decide) ?_
    · unfold aZone
      rw [if_pos hz, if_neg hv]
    · rw [zi_f hv]; rfl
  rw [zi_t hv]
  show ∃ M2, (if (1 : Int32) = 0 then _ else _) = _ ∧ _
  rw [if_neg (by decide), r_in_b]
  by_cases ht : 20 ≤ t ∧ t ≤ 300
  rotate_left
  · refine Kx.no (e := -1001) h1 ?_ (by decide) ?_
    · unfold aZone
      rw [if_pos hz, if_pos hv, if_neg ht]
    · rw [zi_f ht]; rfl
  rw [zi_t ht]
  show ∃ M2, (if (1 : Int32) = 0 then _ else _) = _ ∧ _
  rw [if_neg (by decide), r_in_b]
  by_cases hw : 1 ≤ w ∧ w ≤ 20
  rotate_left
  · refine Kx.no (e := -1001) h1 ?_ (by decide) ?_
    · unfold aZone
      rw [if_pos hz, if_pos hv, if_pos ht, if_neg hw]
    · rw [zi_f hw]; rfl
  rw [zi_t hw]
  show ∃ M2, (if (1 : Int32) = 0 then _ else _) = _ ∧ _
  rw [if_neg (by decide), bnd (r_many 0 M hI.2.1 (by omega) (by omega))]
  show ∃ M2, (if gMany (M (Q + 1)) 0 l ≤ 0 then f_X5_setZone_56 n Q z v t w M else some (-1002, M)) = _ ∧ _
  by_cases hm : gMany (M (Q + 1)) 0 l ≤ 0
  rotate_left
  · refine Kx.no (e := -1002) h1 ?_ (by decide) ?_
    · unfold aZone
      rw [if_pos hz, if_pos hv, if_pos ht, if_pos hw, hg, if_neg hm]
    · rw [if_neg hm]
  rw [if_pos hm]
  have ha : aZone z v t w (gRec (M (Q + 1)) r) = gBelt (nZone z v t w (gRec (M (Q + 1)) r)) := by
    unfold aZone
    rw [if_pos hz, if_pos hv, if_pos ht, if_pos hw, gl_rec, hg, gMany_rec (by omega), if_pos hm]
  obtain ⟨zn, hzn, rfl⟩ := i_rng (m := 5) (by omega) hz.1 hz.2
  obtain ⟨vn, hvn, rfl⟩ := i_rng (m := 8) (by omega) (Int32.le_trans (by decide) hv.1) hv.2
  have hv2 : 2 ≤ vn := (nI_leI (a := 2) (by omega) (by omega)).mp hv.1
  have hlen : ∀ q, q < 6 → nZone (nI zn) (nI vn) t w (gRec (M (Q + 1)) r) (0 + 4 * q + 0) = if q = zn then nI vn else M (Q + 1) (0 + 4 * q + 0) := by
    intro q hq
    unfold nZone
    rw [ix_cl (by omega)]
    by_cases hqz : q = zn
    · subst hqz
      rw [if_pos rfl, ud_ne (by omega), ud_ne (by omega), ud_ne (by omega), ud_s]
    · rw [if_neg hqz, ud_ne (by omega), ud_ne (by omega), ud_ne (by omega), ud_ne (by omega), gRec_lo (by omega)]
  have hL' : gLen (nZone (nI zn) (nI vn) t w (gRec (M (Q + 1)) r)) := by
    intro q hq
    unfold gln
    rw [hlen q hq]
    by_cases hqz : q = zn
    · rw [if_pos hqz, ix_cl (by omega)]
      exact ⟨rfl, hv2, hvn⟩
    · rw [if_neg hqz]
      exact hI.1 q hq
  have hp6 := gPre_6 hL'
  refine Kx.yes (e := aZone (nI zn) (nI vn) t w (gRec (M (Q + 1)) r)) hxx.symm ?_ ?_
  · rw [ha, gBelt_nI hL']
    exact nI_pos (by omega)
  · unfold f_X5_setZone_56 f_X5_setZone_82
    rw [bnd (r_rec M hn hr h1), ha]
    have hb := r_belt (n := n) (p := Q) (by omega) (va_up (mRec Q r M) (Q + 1) (nZone (nI zn) (nI vn) t w (gRec (M (Q + 1)) r)))
    rw [up_s] at hb
    have hb' := hb
    unfold nZone at hb'
    rw [ix_cl (by omega)] at hb'
    simp (disch := omega) only [↓r_ofZ_b, ix_cl, ix_n0, ix_nge, or_self, ↓reduceIte, ↓ix_let, up_s, bx_uu, mRec_1, ↓bnd hb']
    unfold nZone mRec
    rw [ix_cl (by omega)]
theorem r_put {n Q r : Nat} {M : vv_M} (hn : 5000 ≤ n) (hr : r ≤ 5) (h1 : M Q 1 = nI r) (j : Nat) (hj : j < 2123) (v : Int32) : f_X5_put n Q 1 (nI j) v M = some (M (Q + 1) j, va_up (mRec Q r M) (Q + 1) (upd (gRec (M (Q + 1)) r) j v)) := by
  unfold f_X5_put
  rw [if_neg (by decide), bnd (r_rec M hn hr h1)]
  simp (disch := omega) only [ix_cl, ix_n0, ix_nge, or_self, ↓reduceIte, ↓ix_let, mRec_1, gRec_lo]
theorem cv_0 {v : Int32} : okC 0 v ↔ (1 ≤ v ∧ v ≤ 99) := ⟨fun h => h.2, fun h => ⟨by decide, h⟩⟩
theorem cv_2 {v : Int32} : okC 2 v ↔ (0 ≤ v ∧ v ≤ 99) := ⟨fun h => h.2, fun h => ⟨by decide, h⟩⟩
theorem cv_3 {v : Int32} : okC 3 v ↔ (0 ≤ v ∧ v ≤ 99) := ⟨fun h => h.2, fun h => ⟨by decide, h⟩⟩
theorem cv_e {x v : Int32} (h0 : x ≠ 0) (h2 : x ≠ 2) (h3 : x ≠ 3) : okC x v ↔ (1 ≤ x ∧ x ≤ 5) ∧ (20 ≤ v ∧ v ≤ 300) := by
  constructor
  · rintro ⟨k1, k2⟩
    obtain ⟨a, ha, rfl⟩ := i_05 k1
    rcases (show a = 0 ∨ a = 1 ∨ a = 2 ∨ a = 3 ∨ a = 4 ∨ a = 5 by omega) with rfl | rfl | rfl | rfl | rfl | rfl
    · exact absurd rfl h0
    · exact ⟨by decide, k2⟩
    · exact absurd rfl h2
    · exact absurd rfl h3
    · exact ⟨by decide, k2⟩
    · exact ⟨by decide, k2⟩
  · rintro ⟨k1, k2⟩
    have k3 : 0 ≤ x ∧ x ≤ 5 := ⟨Int32.le_trans (by decide) k1.1, k1.2⟩
    obtain ⟨a, ha, rfl⟩ := i_05 k3
    rcases (show a = 0 ∨ a = 1 ∨ a = 2 ∨ a = 3 ∨ a = 4 ∨ a = 5 by omega) with rfl | rfl | rfl | rfl | rfl | rfl
    · exact absurd rfl h0
    · exact ⟨by decide, k2⟩
    · exact absurd rfl h2
    · exact absurd rfl h3
    · exact ⟨by decide, k2⟩
    · exact ⟨by decide, k2⟩
theorem zi_if {P Q : Prop} [Decidable P] [Decidable Q] (h : P ↔ Q) : zi P = zi Q := by
  unfold zi
  by_cases hp : P
  · rw [if_pos hp, if_pos (h.mp hp)]
  · rw [if_neg hp, if_neg (fun q => hp (h.mpr q))]
theorem r_isCurveNumber {n : Nat} (x v : Int32) (M : vv_M) : f_X5_isCurveNumber n x v M = some (zi (okC x v), M) := by
  unfold f_X5_isCurveNumber
  by_cases h0 : x = 0
  · rw [if_pos h0, r_in_b]
    simp only [zi_01, ↓reduceIte]
    subst h0
    rw [zi_if cv_0]
  rw [if_neg h0]
  by_cases h2 : x = 2
  · rw [if_pos h2, r_in_b]
    simp only [zi_01, ↓reduceIte]
    subst h2
    rw [zi_if cv_2]
  rw [if_neg h2]
  by_cases h3 : x = 3
  · rw [if_pos h3, r_in_b]
    simp only [zi_01, ↓reduceIte]
    subst h3
    rw [zi_if cv_3]
  rw [if_neg h3, r_in_b, zi_if (cv_e h0 h2 h3)]
  by_cases k1 : 1 ≤ x ∧ x ≤ 5
  · rw [zi_t k1]
    show (if (1 : Int32) = 0 then _ else _) = _
    rw [if_neg (by decide), r_in_b]
    by_cases k2 : 20 ≤ v ∧ v ≤ 300
    · rw [zi_t k2, zi_t ⟨k1, k2⟩]; rfl
    · rw [zi_f k2, zi_f (fun h => k2 h.2)]; rfl
  · rw [zi_f k1, zi_f (fun h => k1 h.1)]; rfl
theorem k_curve {n Q : Nat} (hn : 5000 ≤ n) (c x v : Int32) : Kx Q (aCurve c x v) (nCurve c x v) (f_X5_setCurve n Q c x v) := by
  rintro M r hr h1 ⟨l, hl, hI, hE⟩ hxx -
  have hput0 : f_X5_setCurve_19 n Q c x v M = some (-1001, M) := by
    unfold f_X5_setCurve_19 f_X5_setCurve_20 f_X5_setCurve_39 f_X5_put
    rfl
  unfold f_X5_setCurve
  rw [r_isCurve_b]
  by_cases hc : 0 ≤ c ∧ c ≤ 3
  rotate_left
  · refine Kx.no (e := -1001) h1 ?_ (by decide) ?_
    · unfold aCurve
      rw [if_neg (fun h => hc h.1)]
    · rw [zi_f hc]
      exact hput0
  rw [zi_t hc]
  show ∃ M2, (if (1 : Int32) = 0 then _ else _) = _ ∧ _
  rw [if_neg (by decide), bnd (r_isCurveNumber x v M)]
  by_cases hk : okC x v
  rotate_left
  · refine Kx.no (e := -1001) h1 ?_ (by decide) ?_
    · unfold aCurve
      rw [if_neg (fun h => hk h.2)]
    · rw [zi_f hk]
      exact hput0
  rw [zi_t hk]
  have hc' := hc
  obtain ⟨cn, hcn, rfl⟩ := i_03 hc'
  have hw' := hk.1
  obtain ⟨xn, hxn, rfl⟩ := i_05 hw'
  refine Kx.yes (e := M (Q + 1) (24 + 6 * cn + xn)) ?_ ?_ ?_
  · unfold aCurve
    rw [if_pos ⟨hc, hk⟩, ix_cl (by omega), ix_cl (by omega)]
  · have := hE.1 (6 * cn + xn) (by omega)
    rw [show 24 + (6 * cn + xn) = 24 + 6 * cn + xn by omega] at this
    exact this
  · show (if (1 : Int32) = 0 then _ else f_X5_setCurve_20 n Q (nI cn) (nI xn) v 1 M) = _
    rw [if_neg (by decide)]
    unfold f_X5_setCurve_20 f_X5_setCurve_39
    have e : f_X5_ofCurve n (nI cn) (nI xn) M = some (nI (24 + 6 * cn + xn), M) := by
      unfold f_X5_ofCurve
      rw [ix_mr, ix_ar, nI_add]
    rw [if_neg (by decide), bnd e]
    show (f_X5_put n Q 1 (nI (24 + 6 * cn + xn)) v M).bind _ = _
    rw [bnd (r_put hn hr h1 (24 + 6 * cn + xn) (by omega) v)]
    unfold nCurve mRec
    rw [ix_cl (by omega), ix_cl (by omega)]
theorem nv_0 {v : Int32} : okN 0 v ↔ (1 ≤ v ∧ v ≤ 3) := ⟨fun h => h.2, fun h => ⟨by decide, h⟩⟩
theorem nv_1 {v : Int32} : okN 1 v ↔ (1 ≤ v ∧ v ≤ 20) := ⟨fun h => h.2, fun h => ⟨by decide, h⟩⟩
theorem nv_2 {v : Int32} : okN 2 v ↔ (0 ≤ v ∧ v ≤ 99) := ⟨fun h => h.2, fun h => ⟨by decide, h⟩⟩
theorem nv_3 {v : Int32} : okN 3 v ↔ (0 ≤ v ∧ v ≤ 9) := ⟨fun h => h.2, fun h => ⟨by decide, h⟩⟩
theorem r_isBeltNumber {n : Nat} (x v : Int32) (M : vv_M) : f_X5_isBeltNumber n x v M = some (zi (okN x v), M) := by
  unfold f_X5_isBeltNumber
  by_cases h0 : x = 0
  · rw [if_pos h0, r_in_b]
    simp only [zi_01, ↓reduceIte]
    subst h0
    rw [zi_if nv_0]
  rw [if_neg h0]
  by_cases h1 : x = 1
  · rw [if_pos h1, r_in_b]
    simp only [zi_01, ↓reduceIte]
    subst h1
    rw [zi_if nv_1]
  rw [if_neg h1]
  by_cases h2 : x = 2
  · rw [if_pos h2, r_in_b]
    simp only [zi_01, ↓reduceIte]
    subst h2
    rw [zi_if nv_2]
  rw [if_neg h2]
  by_cases h3 : x = 3
  · rw [if_pos h3, r_in_b]
    subst h3
    rw [zi_if nv_3]
    by_cases k : 0 ≤ v ∧ v ≤ 9
    · rw [zi_t k]; rfl
    · rw [zi_f k]; rfl
  rw [if_neg h3, zi_f]
  rintro ⟨k1, -⟩
  obtain ⟨a, ha, rfl⟩ := i_03 k1
  rcases (show a = 0 ∨ a = 1 ∨ a = 2 ∨ a = 3 by omega) with rfl | rfl | rfl | rfl
  · exact h0 rfl
  · exact h1 rfl
  · exact h2 rfl
  · exact h3 rfl
theorem k_num {n Q : Nat} (hn : 5000 ≤ n) (x v : Int32) : Kx Q (aNum x v) (nNum x v) (f_X5_set n Q x v) := by
  rintro M r hr h1 ⟨l, hl, hI, hE⟩ hxx -
  unfold f_X5_set
  rw [bnd (r_isBeltNumber x v M), ix_let]
  by_cases hk : okN x v
  rotate_left
  · refine Kx.no (e := -1001) h1 ?_ (by decide) ?_
    · unfold aNum
      rw [if_neg hk]
    · rw [zi_f hk]; rfl
  rw [zi_t hk]
  have hw' := hk.1
  obtain ⟨xn, hxn, rfl⟩ := i_03 hw'
  refine Kx.yes (e := M (Q + 1) (48 + xn)) ?_ ?_ ?_
  · unfold aNum
    rw [if_pos hk, ix_cl (by omega)]
  · obtain ⟨s, s1, -, s3⟩ := hI.2.2.2.1
    obtain ⟨a, a1, -, a3⟩ := hI.2.2.2.2.1
    rcases (show xn = 0 ∨ xn = 1 ∨ xn = 2 ∨ xn = 3 by omega) with rfl | rfl | rfl | rfl
    · show ¬ M (Q + 1) 48 < 0
      rw [s1]; exact nI_pos (by omega)
    · show ¬ M (Q + 1) 49 < 0
      rw [a1]; exact nI_pos (by omega)
    · exact hE.2.1.1
    · exact hE.2.1.2
  · show (if (1 : Int32) = 0 then _ else f_X5_set_20 n v Q 1 (48 + nI xn) M) = _
    rw [if_neg (by decide), ix_ar]
    unfold f_X5_set_20
    rw [bnd (r_put hn hr h1 (48 + xn) (by omega) v)]
    unfold nNum mRec
    rw [ix_cl (by omega)]
theorem k_take {n Q : Nat} (hn : 5000 ≤ n) (x : Int32) : Kx Q (aTake x) (nTake x) (f_X5_take n Q x) := by
  rintro M r hr h1 ⟨l, hl, hI, hE⟩ hxx -
  unfold f_X5_take
  rw [r_in_b]
  by_cases hx : 0 ≤ x ∧ x ≤ 1
  rotate_left
  · refine Kx.no (e := -1001) h1 ?_ (by decide) ?_
    · unfold aTake
      rw [if_neg hx]
    · rw [zi_f hx]; rfl
  rw [zi_t hx]
  have hx' := hx
  obtain ⟨j, hj, rfl⟩ := i_01 hx'
  refine Kx.yes (e := M (Q + 1) 52) ?_ ?_ ?_
  · unfold aTake
    rw [if_pos hx]
  · obtain ⟨t, t1, t2⟩ := hE.2.2
    rw [t2]
    exact nI_pos (by omega)
  · have hc := r_copy (n := n) (p := Q) (a := 0) (b := 707 + 707 * j) (m := 707) (x1 := 0) (x2 := 707 + 707 * nI j) (x3 := 707) (mRec Q r M) rfl (by rw [ix_mr, ix_ar]) rfl (by omega) (by omega) (by omega) hn (by omega)
    have e : upd (gCpy 0 (707 + 707 * j) 707 (gRec (M (Q + 1)) r)) (2121 + j) 1 = nTake (nI j) (gRec (M (Q + 1)) r) := by
      funext k
      unfold upd gCpy nTake
      rw [ix_cl (by omega)]
      by_cases c1 : k = 2121 + j
      · rw [if_pos c1, if_neg (by omega), if_pos c1]
      · rw [if_neg c1]
        by_cases c2 : 707 + 707 * j ≤ k ∧ k < 707 + 707 * j + 707
        · rw [if_pos c2, if_pos (by omega), Nat.zero_add]
        · rw [if_neg c2, if_neg (by omega), if_neg c1]
    have e52 : nTake (nI j) (gRec (M (Q + 1)) r) 52 = M (Q + 1) 52 := by
      unfold nTake
      rw [ix_cl (by omega), if_neg (by omega), if_neg (by omega), gRec_lo (by omega)]
    show (if (1 : Int32) = 0 then _ else _) = _
    rw [if_neg (by decide), bnd (r_rec M hn hr h1), bnd hc, mRec_1]
    simp (disch := omega) only [ix_ar, ix_cl, ix_cll, ix_n0, ix_l0, ix_nge, or_self, ↓reduceIte, ↓ix_let, up_s, bx_uu, e, e52]
    rfl
theorem k_rest {n Q : Nat} (hn : 5000 ≤ n) (x : Int32) : Kx Q (aRest x) (nRest x) (f_X5_restore n Q x) := by
  rintro M r hr h1 ⟨l, hl, hI, hE⟩ hxx hsl
  unfold f_X5_restore
  rw [r_in_b]
  by_cases hx : 0 ≤ x ∧ x ≤ 1
  rotate_left
  · refine Kx.no (e := -1001) h1 ?_ (by decide) ?_
    · unfold aRest
      rw [if_neg hx]
    · rw [zi_f hx]; rfl
  rw [zi_t hx]
  have hx' := hx
  obtain ⟨j, hj, rfl⟩ := i_01 hx'
  by_cases h0 : M (Q + 1) (2121 + j) = 0
  · refine Kx.no (e := -1002) h1 ?_ (by decide) ?_
    · unfold aRest
      rw [if_pos hx, ix_cl (by omega), if_pos h0]
    · simp (disch := omega) only [t10, ix_ar, ix_cl, ix_cll, ix_n0, ix_l0, ix_nge, or_self, ↓reduceIte, h0]
  have h9 := (hsl j hj).2 ((hsl j hj).1.resolve_left h0)
  refine Kx.yes (e := M (Q + 1) (707 + 707 * j + 52)) ?_ h9 ?_
  · unfold aRest
    rw [if_pos hx, ix_cl (by omega), if_neg h0]
  · have hc := r_copy (n := n) (p := Q) (a := 707 + 707 * j) (b := 0) (m := 707) (x1 := 707 + 707 * nI j) (x2 := 0) (x3 := 707) (mRec Q r M) (by rw [ix_mr, ix_ar]) rfl rfl (by omega) (by omega) (by omega) hn (by omega)
    have e : gCpy (707 + 707 * j) 0 707 (gRec (M (Q + 1)) r) = nRest (nI j) (gRec (M (Q + 1)) r) := by
      funext k
      unfold gCpy nRest
      rw [ix_cl (by omega)]
      by_cases c1 : k < 707
      · rw [if_pos (by omega), if_pos c1, Nat.sub_zero]
      · rw [if_neg (by omega), if_neg c1]
    have e52 : nRest (nI j) (gRec (M (Q + 1)) r) 52 = M (Q + 1) (707 + 707 * j + 52) := by
      unfold nRest
      rw [ix_cl (by omega), if_pos (by omega), gRec_lo (by omega)]
    have e0 : (M (Q + 1) (2121 + j) = 0) = False := eq_false h0
    simp (disch := omega) only [t10, ix_ar, ix_cl, ix_cll, ix_n0, ix_l0, ix_nge, or_self, ↓reduceIte, e0, ↓bnd (r_rec M hn hr h1), ↓bnd hc, mRec_1, up_s, e, e52]
    rfl
