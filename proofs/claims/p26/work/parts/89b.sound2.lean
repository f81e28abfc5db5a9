/-! soundness, call by call -/
def Snd (g : Nat → Int32) : Prop := gl g ≤ 30 ∧ ∃ t, t ≤ 5000 ∧ g 52 = nI t ∧ Sd g (gl g) t
theorem Snd_ext {g g' : Nat → Int32} (h : ∀ k, k < 707 → g' k = g k) (hS : Snd g) : Snd g' := by
  obtain ⟨h1, t, h2, h3, h4, h5, h6⟩ := hS
  have e : gl g' = gl g := by
    unfold gl
    rw [h 53 (by omega)]
  unfold Snd
  rw [e]
  refine ⟨h1, t, h2, by rw [h 52 (by omega)]; exact h3, Sz_congr (fun i hi => h i (by omega)) h4, by rw [h 51 (by omega)]; exact h5, fun b hb => Sb_congr (fun j hj _ _ _ _ _ => h _ (by omega)) (h6 b hb)⟩
theorem S_num {x v : Int32} {f : Nat → Int32} (hS : Snd f) (ha : ¬ aNum x v f < 0) : Snd (nNum x v f) := by
  unfold aNum at ha
  by_cases ho : okN x v
  rotate_left
  · rw [if_neg ho] at ha
    exact absurd (by decide) ha
  obtain ⟨h1, t, h2, h3, h4, h5, h6⟩ := hS
  obtain ⟨a, ha3, rfl⟩ := i_03 ho.1
  unfold nNum
  rw [ix_cl (by omega)]
  have e : gl (upd f (48 + a) v) = gl f := by
    unfold gl
    rw [ud_ne (by omega)]
  unfold Snd
  rw [e]
  refine ⟨h1, t, h2, by rw [ud_ne (by omega)]; exact h3, Sz_congr (fun i hi => ud_ne (by omega)) h4, ?_, fun b hb => Sb_congr (fun j hj _ _ _ _ _ => ud_ne (by omega)) (h6 b hb)⟩
  by_cases h9 : a = 3
  · subst h9
    obtain ⟨q1, q2⟩ := nv_3.mp ho
    obtain ⟨d, hd, rfl⟩ := i_rng (m := 9) (by omega) q1 q2
    exact ⟨d, hd, by rw [ud_s]⟩
  · rw [ud_ne (by omega)]
    exact h5
theorem S_curve {c x v : Int32} {f : Nat → Int32} (hS : Snd f) (ha : ¬ aCurve c x v f < 0) : Snd (nCurve c x v f) := by
  unfold aCurve at ha
  by_cases ho : (0 ≤ c ∧ c ≤ 3) ∧ okC x v
  rotate_left
  · rw [if_neg ho] at ha
    exact absurd (by decide) ha
  obtain ⟨h1, t, h2, h3, h4, h5, h6⟩ := hS
  obtain ⟨a, ha3, rfl⟩ := i_03 ho.1
  obtain ⟨q, hq, rfl⟩ := i_05 ho.2.1
  unfold nCurve
  rw [ix_cl (by omega), ix_cl (by omega)]
  have e : gl (upd f (24 + 6 * a + q) v) = gl f := by
    unfold gl
    rw [ud_ne (by omega)]
  unfold Snd
  rw [e]
  exact ⟨h1, t, h2, by rw [ud_ne (by omega)]; exact h3, Sz_congr (fun i hi => ud_ne (by omega)) h4, by rw [ud_ne (by omega)]; exact h5, fun b hb => Sb_congr (fun j hj _ _ _ _ _ => ud_ne (by omega)) (h6 b hb)⟩
theorem ti_rg {x : Int32} {a b : Nat} (ha : a < 2147483648) (hb : b < 2147483648) (h : nI a ≤ x ∧ x ≤ nI b) : rg a b x := by
  have h1 := rg_le.mp h.1
  have h2 := rg_le.mp h.2
  rw [nI_toInt (by omega)] at h1 h2
  exact ⟨h1, h2⟩
theorem S_zone {z v t w : Int32} {f : Nat → Int32} (hS : Snd f) (ha : ¬ aZone z v t w f < 0) : Snd (nZone z v t w f) := by
  unfold aZone at ha
  by_cases o1 : 0 ≤ z ∧ z ≤ 5
  rotate_left
  · rw [if_neg o1] at ha
    exact absurd (by decide) ha
  rw [if_pos o1] at ha
  by_cases o2 : 2 ≤ v ∧ v ≤ 8
  rotate_left
  · rw [if_neg o2] at ha
    exact absurd (by decide) ha
  rw [if_pos o2] at ha
  by_cases o3 : 20 ≤ t ∧ t ≤ 300
  rotate_left
  · rw [if_neg o3] at ha
    exact absurd (by decide) ha
  rw [if_pos o3] at ha
  by_cases o4 : 1 ≤ w ∧ w ≤ 20
  rotate_left
  · rw [if_neg o4] at ha
    exact absurd (by decide) ha
  obtain ⟨h1, tk, h2, h3, h4, h5, h6⟩ := hS
  obtain ⟨a, ha3, rfl⟩ := i_05 o1
  unfold nZone
  rw [ix_cl (by omega)]
  have k : ∀ i, 24 ≤ i → upd (upd (upd (upd f (0 + 4 * a + 0) v) (0 + 4 * a + 1) t) (0 + 4 * a + 2) w) (0 + 4 * a + 3) t i = f i := fun i hi => by rw [ud_ne (by omega), ud_ne (by omega), ud_ne (by omega), ud_ne (by omega)]
  have k0 : ∀ q, q < 6 → ∀ j, j < 4 → 1 ≤ j → upd (upd (upd (upd f (0 + 4 * a + 0) v) (0 + 4 * a + 1) t) (0 + 4 * a + 2) w) (0 + 4 * a + 3) t (0 + 4 * q + j) = if q = a then (if j = 2 then w else t) else f (0 + 4 * q + j) := by
    intro q hq j hj hj1
    by_cases hqa : q = a
    · subst hqa
      rw [if_pos rfl]
      rcases (show j = 1 ∨ j = 2 ∨ j = 3 by omega) with rfl | rfl | rfl
      · rw [ud_ne (by omega), ud_ne (by omega), ud_s, if_neg (by omega)]
      · rw [ud_ne (by omega), ud_s, if_pos rfl]
      · rw [ud_s, if_neg (by omega)]
    · rw [if_neg hqa, ud_ne (by omega), ud_ne (by omega), ud_ne (by omega), ud_ne (by omega)]
  generalize upd (upd (upd (upd f (0 + 4 * a + 0) v) (0 + 4 * a + 1) t) (0 + 4 * a + 2) w) (0 + 4 * a + 3) t = G at k k0 ⊢
  have e : gl G = gl f := by
    unfold gl
    rw [k 53 (by omega)]
  unfold Snd
  rw [e]
  refine ⟨h1, tk, h2, by rw [k 52 (by omega)]; exact h3, fun q hq => ?_, by rw [k 51 (by omega)]; exact h5, fun b hb => Sb_congr (fun j hj _ _ _ _ _ => k _ (by omega)) (h6 b hb)⟩
  rw [k0 q hq 1 (by omega) (by omega), k0 q hq 2 (by omega) (by omega), k0 q hq 3 (by omega) (by omega)]
  have ht : rg 20 300 t := ti_rg (a := 20) (b := 300) (by omega) (by omega) o3
  have hw : rg 1 20 w := ti_rg (a := 1) (b := 20) (by omega) (by omega) o4
  by_cases hqa : q = a
  · rw [if_pos hqa, if_pos hqa, if_pos hqa, if_neg (by omega), if_pos rfl, if_neg (by omega)]
    exact ⟨ht, hw, ht⟩
  · rw [if_neg hqa, if_neg hqa, if_neg hqa]
    exact h4 q hq
theorem S_off {x : Int32} {f : Nat → Int32} (hO : gOk f) (hS : Snd f) (ha : ¬ aOff x f < 0) : Snd (nOff x f) := by
  obtain ⟨l, hl, hI, -⟩ := hO
  unfold aOff at ha
  by_cases o1 : 0 ≤ x ∧ x ≤ f 53 - 1
  rotate_left
  · rw [if_neg o1] at ha
    exact absurd (by decide) ha
  rw [if_pos o1] at ha
  rw [hI.2.1] at o1
  obtain ⟨b, hb, rfl⟩ := (brd_iff (by omega)).mp o1
  rw [ix_cl (by omega)] at ha
  by_cases o2 : f (56 + 21 * b + 2) = 0
  rotate_left
  · rw [if_neg o2] at ha
    exact absurd (by decide) ha
  obtain ⟨h1, tk, h2, h3, h4⟩ := hS
  unfold nOff
  rw [ix_cl (by omega)]
  have e : gl (upd f (56 + 21 * b + 2) 2) = gl f := by
    unfold gl
    rw [ud_ne (by omega)]
  unfold Snd
  rw [e]
  refine ⟨h1, tk, h2, by rw [ud_ne (by omega)]; exact h3, Sd_board (b := b) (fun i hi => ud_ne (by unfold gOut at hi; omega)) h4 ?_⟩
  have hbl : b < gl f := by rw [gl_eq hI]; exact hb
  obtain ⟨s1, s2, s3, s5, s6⟩ := h4.2.2 b hbl
  have k : ∀ j, j ≠ 2 → upd f (56 + 21 * b + 2) 2 (56 + 21 * b + j) = f (56 + 21 * b + j) := fun j hj => ud_ne (by omega)
  unfold Sb
  rw [k 4 (by omega), k 6 (by omega), k 8 (by omega), k 10 (by omega), ud_s]
  refine ⟨Or.inr (Or.inr rfl), s2, s3, ⟨fun h => absurd h (by decide), fun _ => s5.2 (by rw [o2]; decide)⟩, fun q hq hg => ?_⟩
  rw [k (16 + q) (by omega)]
  obtain ⟨q1, q2⟩ := s6 q hq hg
  refine ⟨q1, fun h3 => ?_⟩
  have := (q2 h3).1
  rw [o2] at this
  exact absurd this (by decide)
theorem Sd_load {l c w t : Nat} {f : Nat → Int32} (hS : Sd f l t) : Sd (gLoad l (nI c) (nI w) f) (l + 1) t := by
  obtain ⟨h4, h5, h6⟩ := hS
  refine ⟨Sz_congr (fun i hi => gLoad_out (Or.inl (by omega)) (by omega)) h4, by rw [gLoad_out (Or.inl (by omega)) (by omega)]; exact h5, fun b hb => ?_⟩
  by_cases hbl : b = l
  · subst hbl
    have e2 : gLoad b (nI c) (nI w) f (56 + 21 * b + 2) = 0 := gLoad_brd (by omega)
    have e4 : gLoad b (nI c) (nI w) f (56 + 21 * b + 4) = 20 := gLoad_brd (by omega)
    have e6 : gLoad b (nI c) (nI w) f (56 + 21 * b + 6) = 20 := gLoad_brd (by omega)
    have e8 : gLoad b (nI c) (nI w) f (56 + 21 * b + 8) = 0 := gLoad_brd (by omega)
    have e10 : gLoad b (nI c) (nI w) f (56 + 21 * b + 10) = -1009 := gLoad_brd (by omega)
    unfold Sb
    rw [e2, e4, e6, e8, e10]
    refine ⟨Or.inl rfl, ⟨⟨by decide, by decide⟩, by decide, by decide⟩, ⟨0, by omega, rfl⟩, ⟨fun h => absurd h (by decide), fun _ => rfl⟩, fun k hk hg => ?_⟩
    exact absurd hg (gbit_0 (by omega))
  · exact Sb_congr (fun j hj _ _ _ _ _ => gLoad_out (by unfold gOut; omega) (by omega)) (h6 b (by omega))
theorem gl_load {l : Nat} {c w : Int32} {f : Nat → Int32} (hl : l ≤ 31) : gl (gLoad l c w f) = l + 1 := by
  unfold gl gLoad
  rw [ud_s, ix_cl (by omega)]
theorem S_load {c w : Int32} {f : Nat → Int32} (hS : Snd f) (ha : ¬ aLoad c w f < 0) : Snd (nLoad c w f) := by
  unfold aLoad at ha
  by_cases o1 : 0 ≤ c ∧ c ≤ 3
  rotate_left
  · rw [if_neg o1] at ha
    exact absurd (by decide) ha
  rw [if_pos o1] at ha
  by_cases o2 : 1 ≤ w ∧ w ≤ 9
  rotate_left
  · rw [if_neg o2] at ha
    exact absurd (by decide) ha
  rw [if_pos o2] at ha
  by_cases o3 : gFree f (gl f) = true
  rotate_left
  · rw [if_neg o3] at ha
    exact absurd (by decide) ha
  rw [if_pos o3] at ha
  by_cases o4 : gl f < 30
  rotate_left
  · rw [if_neg o4] at ha
    exact absurd (by decide) ha
  obtain ⟨h1, tk, h2, h3, h4⟩ := hS
  obtain ⟨cn, hc, rfl⟩ := i_03 o1
  obtain ⟨wn, hw, rfl⟩ := i_rng (m := 9) (by omega) (Int32.le_trans (by decide) o2.1) o2.2
  unfold nLoad Snd
  rw [gl_load (by omega)]
  exact ⟨by omega, tk, h2, by rw [gLoad_out (Or.inl (by omega)) (by omega)]; exact h3, Sd_load h4⟩
theorem gl_ticks {l j : Nat} {f : Nat → Int32} : gl (gTicks l j f) = gl f := by
  unfold gl
  rw [gTicks_lo (by omega) (by omega) (by omega) (by omega) (by omega) (by omega)]
theorem S_ticks {f : Nat → Int32} {j t : Nat} (hI : gInv f (gl f)) (hS : Snd f) (h52 : f 52 = nI t) (ht : t + j ≤ 5000) : Snd (gTicks (gl f) j f) := by
  obtain ⟨h1, tk, h2, h3, h4⟩ := hS
  obtain rfl : tk = t := (nI_eq (by omega) (by omega)).mp (h3.symm.trans h52)
  unfold Snd
  rw [gl_ticks]
  exact ⟨h1, tk + j, ht, gTicks_52 (t := 0) j f tk h3, Sd_ticks j f tk hI (by omega) h3 h4⟩
theorem S_pass {x : Int32} {f : Nat → Int32} (hO : gOk f) (hS : Snd f) (ha : ¬ aPass x f < 0) : Snd (nPass x f) := by
  obtain ⟨l, hl, hI, hE⟩ := hO
  unfold aPass at ha
  by_cases o1 : 1 ≤ x ∧ x ≤ 99
  rotate_left
  · rw [if_neg o1] at ha
    exact absurd (by decide) ha
  rw [if_pos o1] at ha
  by_cases o2 : f 52 + x ≤ 5000
  rotate_left
  · rw [if_neg o2] at ha
    exact absurd (by decide) ha
  obtain ⟨j, hj, rfl⟩ := i_rng (m := 99) (by omega) (Int32.le_trans (by decide) o1.1) o1.2
  obtain ⟨t, ht, e52⟩ := hE.2.2
  unfold nPass
  rw [ix_cl (by omega)]
  rw [e52, nI_add] at o2
  have := (nI_leI (b := 5000) (by omega) (by omega)).mp o2
  exact S_ticks (by rw [gl_eq hI]; exact hI) hS e52 this
theorem S_order {L v1 v2 : Int32} {g : Nat → Int32} (hO : gOk g) (hS : Snd g) (ha : ¬ aO L v1 v2 g < 0) : Snd (wO L v1 v2 g) := by
  unfold aO at ha
  unfold wO
  split
  · rename_i h
    rw [if_pos h] at ha
    exact S_load hS ha
  · rename_i h
    rw [if_neg h] at ha
    split
    · rename_i h2
      rw [if_pos h2] at ha
      exact S_pass hO hS ha
    · rename_i h2
      rw [if_neg h2] at ha
      split
      · rename_i h3
        rw [if_pos h3] at ha
        exact S_off hO hS ha
      · rename_i h3
        rw [if_neg h3] at ha
        exact S_num hS ha
/-! moments, and the whole object -/
def SdM (f : Nat → Int32) : Prop := Snd f ∧ ∀ j, j < 2 → f (2121 + j) = 1 → Snd (fun k => f (707 + 707 * j + k))
theorem SdM_w {f f' : Nat → Int32} (h : ∀ k, 707 ≤ k → f' k = f k) (hS : SdM f) (h' : Snd f') : SdM f' := by
  refine ⟨h', fun j hj he => ?_⟩
  rw [h _ (by omega)] at he
  exact Snd_ext (fun k hk => h _ (by omega)) (hS.2 j hj he)
theorem SdM_take {x : Int32} {f : Nat → Int32} (hS : SdM f) (ha : ¬ aTake x f < 0) : SdM (nTake x f) := by
  unfold aTake at ha
  by_cases o1 : 0 ≤ x ∧ x ≤ 1
  rotate_left
  · rw [if_neg o1] at ha
    exact absurd (by decide) ha
  obtain ⟨a, ha2, rfl⟩ := i_01 o1
  unfold nTake
  rw [ix_cl (by omega)]
  refine ⟨Snd_ext (fun k hk => by rw [if_neg (by omega), if_neg (by omega)]) hS.1, fun j hj he => ?_⟩
  by_cases hja : j = a
  · subst hja
    refine Snd_ext (fun k hk => ?_) hS.1
    dsimp only
    rw [if_pos (by omega), show 707 + 707 * j + k - (707 + 707 * j) = k by omega]
  · dsimp only at he
    rw [if_neg (by omega), if_neg (by omega)] at he
    refine Snd_ext (fun k hk => ?_) (hS.2 j hj he)
    dsimp only
    rw [if_neg (by omega), if_neg (by omega)]
theorem SdM_rest {x : Int32} {f : Nat → Int32} {p : Nat} {M : vv_M} (hM : Mo p M f) (hS : SdM f) (ha : ¬ aRest x f < 0) : SdM (nRest x f) := by
  unfold aRest at ha
  by_cases o1 : 0 ≤ x ∧ x ≤ 1
  rotate_left
  · rw [if_neg o1] at ha
    exact absurd (by decide) ha
  rw [if_pos o1] at ha
  obtain ⟨a, ha2, rfl⟩ := i_01 o1
  rw [ix_cl (by omega)] at ha
  by_cases o2 : f (2121 + a) = 0
  · rw [if_pos o2] at ha
    exact absurd (by decide) ha
  have o3 := ((hM.2 a ha2).2.1).resolve_left o2
  unfold nRest
  rw [ix_cl (by omega)]
  refine SdM_w (fun k hk => if_neg (by omega)) hS (Snd_ext (fun k hk => if_pos hk) (hS.2 a ha2 o3))
def St (P : Nat) (M : vv_M) (f : Nat → Int32) (h : Nat → Nat → Int32) (r len : Nat) (T : Nat → Int32) : Prop := Gq P M f h r len T ∧ SdM f ∧ ∀ i, i < r → SdM (h i)
def As (P : Nat) (F : vv_M → Option (Int32 × vv_M)) (a : (Nat → Int32) → Int32) (w : (Nat → Int32) → Nat → Int32) : Prop := ∀ (M : vv_M) (f T : Nat → Int32) (h : Nat → Nat → Int32) (r len : Nat), St P M f h r len T → ∃ M1, F M = some (a f, M1) ∧ (a f < 0 → St P M1 f h r len T) ∧ (¬ a f < 0 → St P M1 (w f) (hPush h r f) (rNext r) len T)
theorem St_push {h : Nat → Nat → Int32} {r : Nat} {f : Nat → Int32} (hr : r ≤ 5) (hf : SdM f) (hh : ∀ i, i < r → SdM (h i)) : ∀ i, i < rNext r → SdM (hPush h r f i) := by
  intro i hi
  unfold rNext at hi
  unfold hPush
  by_cases h5 : r = 5
  · rw [if_pos h5] at hi ⊢
    split
    · exact hf
    · exact hh _ (by omega)
  · rw [if_neg h5] at hi ⊢
    split
    · exact hf
    · exact hh _ (by omega)
theorem Gq.ok {P r len : Nat} {M : vv_M} {f T : Nat → Int32} {h : Nat → Nat → Int32} (hG : Gq P M f h r len T) : gOk f := ⟨gl f, hG.oven.1, hG.oven.2.1, hG.oven.2.2.1⟩
theorem As.of {P : Nat} {F : vv_M → Option (Int32 × vv_M)} {a : (Nat → Int32) → Int32} {w : (Nat → Int32) → Nat → Int32} (h1 : Aq P F a w) (h2 : ∀ f p M, Mo p M f → gOk f → SdM f → ¬ a f < 0 → SdM (w f)) : As P F a w := by
  intro M f T h r len ⟨hG, hS, hh⟩
  obtain ⟨M1, b1, b2, b3⟩ := h1 M f T h r len hG
  exact ⟨M1, b1, fun q => ⟨b2 q, hS, hh⟩, fun q => ⟨b3 q, h2 f _ _ hG.1 hG.ok hS q, St_push hG.2.1.1 hS hh⟩⟩
theorem s_setZone {n P : Nat} (hn : 5000 ≤ n) (z v t w : Int32) : As P (f_X4_setZone n P z v t w) (aZone z v t w) (nZone z v t w) := As.of (q_setZone hn z v t w) (fun f _ _ _ _ hS ha => SdM_w (fun k hk => w_zone ha hk) hS (S_zone hS.1 ha))
theorem s_setCurve {n P : Nat} (hn : 5000 ≤ n) (c x v : Int32) : As P (f_X4_setCurve n P c x v) (aCurve c x v) (nCurve c x v) := As.of (q_setCurve hn c x v) (fun f _ _ _ _ hS ha => SdM_w (fun k hk => w_curve ha hk) hS (S_curve hS.1 ha))
theorem s_set {n P : Nat} (hn : 5000 ≤ n) (x v : Int32) : As P (f_X4_set n P x v) (aNum x v) (nNum x v) := As.of (q_set hn x v) (fun f _ _ _ _ hS ha => SdM_w (fun k hk => w_num ha hk) hS (S_num hS.1 ha))
theorem s_load {n P : Nat} (hn : 5000 ≤ n) (c w : Int32) : As P (f_X4_load n P c w) (aLoad c w) (nLoad c w) := As.of (q_load hn c w) (fun f _ _ _ hO hS ha => SdM_w (fun k hk => w_load hO.choose_spec.1 hO.choose_spec.2.1 ha hk) hS (S_load hS.1 ha))
theorem s_takeOff {n P : Nat} (hn : 5000 ≤ n) (x : Int32) : As P (f_X4_takeOff n P x) (aOff x) (nOff x) := As.of (q_takeOff hn x) (fun f _ _ _ hO hS ha => SdM_w (fun k hk => w_off hO.choose_spec.1 hO.choose_spec.2.1 ha hk) hS (S_off hO hS.1 ha))
theorem s_pass {n P : Nat} (hn : 5000 ≤ n) (x : Int32) : As P (f_X4_pass n P x) (aPass x) (nPass x) := As.of (q_pass hn x) (fun f _ _ _ hO hS ha => SdM_w (fun k hk => w_pass hO.choose_spec.1 hO.choose_spec.2.1 hk) hS (S_pass hO hS.1 ha))
theorem s_take {n P : Nat} (hn : 5000 ≤ n) (x : Int32) : As P (f_X4_take n P x) (aTake x) (nTake x) := As.of (q_take hn x) (fun f _ _ _ _ hS ha => SdM_take hS ha)
theorem s_restore {n P : Nat} (hn : 5000 ≤ n) (x : Int32) : As P (f_X4_restore n P x) (aRest x) (nRest x) := As.of (q_restore hn x) (fun f _ _ hM _ hS ha => SdM_rest hM hS ha)
theorem s_undo {n P r len : Nat} {M : vv_M} {f T : Nat → Int32} {h : Nat → Nat → Int32} (hn : 5000 ≤ n) (h0 : 1 ≤ r) (hG : St P M f h r len T) : ∃ M1, f_X4_undo n P M = some (nI (r - 1), M1) ∧ St P M1 (h (r - 1)) h (r - 1) len T := by
  obtain ⟨M1, a1, a2⟩ := q_undo hn h0 hG.1
  exact ⟨M1, a1, a2, hG.2.2 _ (by omega), fun i hi => hG.2.2 i (by omega)⟩
theorem s_append {n P r len : Nat} {M : vv_M} {f T : Nat → Int32} {h : Nat → Nat → Int32} (x : Int32) (hG : St P M f h r len T) : ∃ y M1 len' T', f_X4_append n P x M = some (y, M1) ∧ St P M1 f h r len' T' := by
  obtain ⟨y, M1, len', T', a1, a2⟩ := q_append (n := n) x hG.1
  exact ⟨y, M1, len', T', a1, a2, hG.2⟩
theorem s_carryOut {n P r len : Nat} {M : vv_M} {f T : Nat → Int32} {h : Nat → Nat → Int32} (hn : 5000 ≤ n) (hG : St P M f h r len T) : ∃ x M1 len' T', f_X4_carryOut n P M = some (x, M1) ∧ (x ≤ -1100 ∧ St P M1 f h r len' T' ∨ (∃ c, c ≤ 100 ∧ x = nI c) ∧ ∃ f', (∀ k, 707 ≤ k → f' k = f k) ∧ St P M1 f' (hPush h r f) (rNext r) len' T') := by
  obtain ⟨x, M1, len', T', a1, a2⟩ := q_carryOut (Z := Snd) (fun L v1 v2 g hO hS ha => S_order hO hS ha) hn hG.1 hG.2.1.1
  refine ⟨x, M1, len', T', a1, ?_⟩
  rcases a2 with ⟨b1, b2⟩ | ⟨b1, f', b2, b3, b4⟩
  · exact Or.inl ⟨b1, b2, hG.2⟩
  · exact Or.inr ⟨b1, f', b2, b4, SdM_w b2 hG.2.1 b3, St_push hG.1.2.1.1 hG.2.1 hG.2.2⟩
theorem St.back {P r len : Nat} {M M1 : vv_M} {f T : Nat → Int32} {h : Nat → Nat → Int32} (hS : St P M f h r len T) (hG : Gq P M1 f h r len T) : St P M1 f h r len T := ⟨hG, hS.2⟩
