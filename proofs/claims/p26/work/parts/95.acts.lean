/-! acts: what the law does at a step -/
def Oc (P : Nat) (f : Nat → Int32) (h : Nat → Nat → Int32) (r : Nat) (o : Option (Int32 × vv_M)) : Prop := ∃ x M1 len' T', o = some (x, M1) ∧ (x ≤ -1001 ∧ St P M1 f h r len' T' ∨ ¬ x < 0 ∧ ∃ f', St P M1 f' (hPush h r f) (rNext r) len' T')
theorem Oc_b {P r : Nat} {f : Nat → Int32} {h : Nat → Nat → Int32} {o : Option (Int32 × vv_M)} (hO : Oc P f h r o) : Oc P f h r (o.bind (fun (u : Int32 × vv_M) => some (u.1, u.2))) := by
  obtain ⟨x, M1, len', T', rfl, h2⟩ := hO
  exact ⟨x, M1, len', T', rfl, h2⟩
theorem As.ac {P r len : Nat} {F : vv_M → Option (Int32 × vv_M)} {a : (Nat → Int32) → Int32} {w : (Nat → Int32) → Nat → Int32} {M : vv_M} {f T : Nat → Int32} {h : Nat → Nat → Int32} (h1 : As P F a w) (h2 : ∀ f p M, Mo p M f → gOk f → a f < 0 → a f ≤ -1001) (hS : St P M f h r len T) : Oc P f h r (F M) := by
  obtain ⟨M1, a1, a2, a3⟩ := h1 M f T h r len hS
  by_cases hn : a f < 0
  · exact ⟨a f, M1, len, T, a1, Or.inl ⟨h2 f _ _ hS.1.1 hS.1.ok hn, a2 hn⟩⟩
  · exact ⟨a f, M1, len, T, a1, Or.inr ⟨hn, _, a3 hn⟩⟩
theorem m1le : (-1001 : Int32) ≤ -1001 := by decide
theorem m2le : (-1002 : Int32) ≤ -1001 := by decide
theorem m3le : (-1003 : Int32) ≤ -1001 := by decide
theorem er_num {x v : Int32} {f : Nat → Int32} (hO : gOk f) (h : aNum x v f < 0) : aNum x v f ≤ -1001 := by
  unfold aNum at h ⊢
  split
  · rename_i ho
    rw [if_pos ho] at h
    exfalso
    obtain ⟨l, hl, hI, hE⟩ := hO
    obtain ⟨a, ha, rfl⟩ := i_03 ho.1
    rw [ix_cl (by omega)] at h
    obtain ⟨s, e1, -⟩ := hI.2.2.2.1
    obtain ⟨g, e2, -, g20⟩ := hI.2.2.2.2.1
    rcases (show a = 0 ∨ a = 1 ∨ a = 2 ∨ a = 3 by omega) with rfl | rfl | rfl | rfl
    · rw [show f (48 + 0) = nI s from e1] at h
      obtain ⟨s', e1', s1, s3⟩ := hI.2.2.2.1
      rw [← e1, e1'] at h
      exact nI_pos (by omega) h
    · rw [show f (48 + 1) = nI g from e2] at h
      exact nI_pos (by omega) h
    · exact hE.2.1.1 h
    · exact hE.2.1.2 h
  · exact m1le
theorem er_curve {c x v : Int32} {f : Nat → Int32} (hO : gOk f) (h : aCurve c x v f < 0) : aCurve c x v f ≤ -1001 := by
  unfold aCurve at h ⊢
  split
  · rename_i ho
    rw [if_pos ho] at h
    exfalso
    obtain ⟨l, hl, hI, hE⟩ := hO
    obtain ⟨a, ha, rfl⟩ := i_03 ho.1
    obtain ⟨q, hq, rfl⟩ := i_05 ho.2.1
    rw [ix_cl (by omega), ix_cl (by omega)] at h
    exact hE.1 (6 * a + q) (by omega) (by rw [← Nat.add_assoc]; exact h)
  · exact m1le
theorem er_zone {z v t w : Int32} {f : Nat → Int32} (hO : gOk f) (h : aZone z v t w f < 0) : aZone z v t w f ≤ -1001 := by
  unfold aZone at h ⊢
  by_cases o1 : 0 ≤ z ∧ z ≤ 5
  rotate_left
  · rw [if_neg o1]; exact m1le
  rw [if_pos o1] at h ⊢
  by_cases o2 : 2 ≤ v ∧ v ≤ 8
  rotate_left
  · rw [if_neg o2]; exact m1le
  rw [if_pos o2] at h ⊢
  split
  rotate_left
  · exact m1le
  rename_i o3
  rw [if_pos o3] at h
  split
  rotate_left
  · exact m1le
  rename_i o4
  rw [if_pos o4] at h
  split
  rotate_left
  · exact m2le
  rename_i o5
  rw [if_pos o5] at h
  exfalso
  obtain ⟨l, hl, hI, -⟩ := hO
  obtain ⟨a, ha, rfl⟩ := i_05 o1
  obtain ⟨vn, hvn, rfl⟩ := i_rng (m := 8) (by omega) (Int32.le_trans (by decide) o2.1) o2.2
  have hv2 : 2 ≤ vn := (nI_leI (a := 2) (by omega) (by omega)).mp o2.1
  have hL : gLen (nZone (nI a) (nI vn) t w f) := by
    intro q hq
    have e : nZone (nI a) (nI vn) t w f (0 + 4 * q + 0) = if q = a then nI vn else f (0 + 4 * q + 0) := by
      unfold nZone
      rw [ix_cl (by omega), ud_ne (by omega), ud_ne (by omega), ud_ne (by omega)]
      by_cases hqa : q = a
      · subst hqa
        rw [ud_s, if_pos rfl]
      · rw [ud_ne (by omega), if_neg hqa]
    unfold gln
    rw [e]
    by_cases hqa : q = a
    · rw [if_pos hqa, ix_cl (by omega)]
      exact ⟨rfl, hv2, hvn⟩
    · rw [if_neg hqa]
      exact hI.1 q hq
  rw [gBelt_nI hL] at h
  have := gPre_6 hL
  exact nI_pos (by omega) h
theorem er_load {c w : Int32} {f : Nat → Int32} (hO : gOk f) (h : aLoad c w f < 0) : aLoad c w f ≤ -1001 := by
  unfold aLoad at h ⊢
  split
  rotate_left
  · exact m1le
  rename_i o1
  rw [if_pos o1] at h
  split
  rotate_left
  · exact m1le
  rename_i o2
  rw [if_pos o2] at h
  split
  rotate_left
  · exact m2le
  rename_i o3
  rw [if_pos o3] at h
  split
  rotate_left
  · exact m3le
  rename_i o4
  rw [if_pos o4] at h
  exact absurd h (nI_pos (by omega))
theorem er_off {x : Int32} {f : Nat → Int32} (hO : gOk f) (h : aOff x f < 0) : aOff x f ≤ -1001 := by
  unfold aOff at h ⊢
  split
  rotate_left
  · exact m1le
  rename_i o1
  rw [if_pos o1] at h
  split
  rotate_left
  · exact m2le
  rename_i o2
  rw [if_pos o2] at h
  exfalso
  obtain ⟨l, hl, hI, -⟩ := hO
  rw [hI.2.1] at o1
  obtain ⟨b, hb, rfl⟩ := (brd_iff (by omega)).mp o1
  rw [ix_cl (by omega)] at h o2
  obtain ⟨-, -, q, -⟩ := hI.2.2.2.2.2 b hb
  obtain ⟨q1, q2⟩ := q o2
  have := gPre_6 hI.1
  rw [q1] at h
  exact nI_pos (by omega) h
theorem er_pass {x : Int32} {f : Nat → Int32} (hO : gOk f) (h : aPass x f < 0) : aPass x f ≤ -1001 := by
  unfold aPass at h ⊢
  split
  rotate_left
  · exact m1le
  rename_i o1
  rw [if_pos o1] at h
  split
  rotate_left
  · exact m3le
  rename_i o2
  rw [if_pos o2] at h
  exfalso
  obtain ⟨l, hl, hI, -⟩ := hO
  rw [gl_eq hI, gLeftN (by omega)] at h
  have := gMn_le (gTicks l x.toNatClampNeg f) 1 l
  exact nI_pos (by omega) h
theorem er_take {x : Int32} {f : Nat → Int32} (hO : gOk f) (h : aTake x f < 0) : aTake x f ≤ -1001 := by
  unfold aTake at h ⊢
  split
  rotate_left
  · exact m1le
  rename_i o1
  rw [if_pos o1] at h
  obtain ⟨l, hl, hI, -, -, t, ht, e⟩ := hO
  rw [e] at h
  exact absurd h (nI_pos (by omega))
theorem er_rest {x : Int32} {f : Nat → Int32} {p : Nat} {M : vv_M} (hM : Mo p M f) (h : aRest x f < 0) : aRest x f ≤ -1001 := by
  unfold aRest at h ⊢
  split
  rotate_left
  · exact m1le
  rename_i o1
  rw [if_pos o1] at h
  split
  · exact m2le
  rename_i o2
  rw [if_neg o2] at h
  obtain ⟨a, ha, rfl⟩ := i_01 o1
  rw [ix_cl (by omega)] at h o2
  obtain ⟨-, d2, d3⟩ := hM.2 a ha
  exact absurd h (Ov_52 (d3 (d2.resolve_left o2))).2
section AC
variable {n P r len : Nat} {M : vv_M} {f T : Nat → Int32} {h : Nat → Nat → Int32}
theorem a_setZone (hn : 5000 ≤ n) (z v t w : Int32) (hS : St P M f h r len T) : Oc P f h r (f_X4_setZone n P z v t w M) := (s_setZone hn z v t w).ac (fun _ _ _ _ hO q => er_zone hO q) hS
theorem a_setCurve (hn : 5000 ≤ n) (c x v : Int32) (hS : St P M f h r len T) : Oc P f h r (f_X4_setCurve n P c x v M) := (s_setCurve hn c x v).ac (fun _ _ _ _ hO q => er_curve hO q) hS
theorem a_set (hn : 5000 ≤ n) (x v : Int32) (hS : St P M f h r len T) : Oc P f h r (f_X4_set n P x v M) := (s_set hn x v).ac (fun _ _ _ _ hO q => er_num hO q) hS
theorem a_load (hn : 5000 ≤ n) (c w : Int32) (hS : St P M f h r len T) : Oc P f h r (f_X4_load n P c w M) := (s_load hn c w).ac (fun _ _ _ _ hO q => er_load hO q) hS
theorem a_takeOff (hn : 5000 ≤ n) (x : Int32) (hS : St P M f h r len T) : Oc P f h r (f_X4_takeOff n P x M) := (s_takeOff hn x).ac (fun _ _ _ _ hO q => er_off hO q) hS
theorem a_pass (hn : 5000 ≤ n) (x : Int32) (hS : St P M f h r len T) : Oc P f h r (f_X4_pass n P x M) := (s_pass hn x).ac (fun _ _ _ _ hO q => er_pass hO q) hS
theorem a_take (hn : 5000 ≤ n) (x : Int32) (hS : St P M f h r len T) : Oc P f h r (f_X4_take n P x M) := (s_take hn x).ac (fun _ _ _ _ hO q => er_take hO q) hS
theorem a_restore (hn : 5000 ≤ n) (x : Int32) (hS : St P M f h r len T) : Oc P f h r (f_X4_restore n P x M) := (s_restore hn x).ac (fun _ _ _ hM _ q => er_rest hM q) hS
theorem a_carryOut (hn : 5000 ≤ n) (hS : St P M f h r len T) : Oc P f h r (f_X4_carryOut n P M) := by
  obtain ⟨x, M1, len', T', a1, a2⟩ := s_carryOut hn hS
  refine ⟨x, M1, len', T', a1, ?_⟩
  rcases a2 with ⟨b1, b2⟩ | ⟨⟨c, c1, rfl⟩, f', -, b3⟩
  · exact Or.inl ⟨Int32.le_trans b1 (by decide), b2⟩
  · exact Or.inr ⟨nI_pos (by omega), f', b3⟩
theorem acts_ok (y : Int32) (hn : 5000 ≤ n) (hS : St P M f h r len T) : Oc P f h r (f_L_acts n P y M) := by
  obtain ⟨u, hu, eu⟩ := low_ex n y (d := 14) (by omega) (by omega)
  have eu : ∀ M, f_L_low n y 14 M = some (nI u, M) := eu
  unfold f_L_acts
  rw [bnd (eu M)]
  dsimp only
  by_cases c0 : nI u = (0 : Int32)
  · rw [if_pos c0]
    obtain ⟨v1, -, e1⟩ := low_ex n (y >>> ((4 : Int32) &&& 31)) (d := 7) (by omega) (by omega)
    have e1 : ∀ M, f_L_low n (y >>> ((4 : Int32) &&& 31)) 7 M = some (nI v1, M) := e1
    obtain ⟨v2, -, e2⟩ := low_ex n (y >>> ((7 : Int32) &&& 31)) (d := 8) (by omega) (by omega)
    have e2 : ∀ M, f_L_low n (y >>> ((7 : Int32) &&& 31)) 8 M = some (nI v2, M) := e2
    obtain ⟨v3, -, e3⟩ := low_ex n (y >>> ((10 : Int32) &&& 31)) (d := 290) (by omega) (by omega)
    have e3 : ∀ M, f_L_low n (y >>> ((10 : Int32) &&& 31)) 290 M = some (nI v3, M) := e3
    obtain ⟨v4, -, e4⟩ := low_ex n (y >>> ((19 : Int32) &&& 31)) (d := 21) (by omega) (by omega)
    have e4 : ∀ M, f_L_low n (y >>> ((19 : Int32) &&& 31)) 21 M = some (nI v4, M) := e4
    rw [bnd (e1 M), bnd (e2 M), bnd (e3 M), bnd (e4 M)]
    exact Oc_b (a_setZone hn _ _ _ _ hS)
  rw [if_neg c0]
  by_cases c1 : nI u = (1 : Int32)
  · rw [if_pos c1]
    obtain ⟨v5, -, e5⟩ := low_ex n (y >>> ((4 : Int32) &&& 31)) (d := 4) (by omega) (by omega)
    have e5 : ∀ M, f_L_low n (y >>> ((4 : Int32) &&& 31)) 4 M = some (nI v5, M) := e5
    obtain ⟨v6, -, e6⟩ := low_ex n (y >>> ((6 : Int32) &&& 31)) (d := 7) (by omega) (by omega)
    have e6 : ∀ M, f_L_low n (y >>> ((6 : Int32) &&& 31)) 7 M = some (nI v6, M) := e6
    obtain ⟨v7, -, e7⟩ := low_ex n (y >>> ((9 : Int32) &&& 31)) (d := 310) (by omega) (by omega)
    have e7 : ∀ M, f_L_low n (y >>> ((9 : Int32) &&& 31)) 310 M = some (nI v7, M) := e7
    rw [bnd (e5 M), bnd (e6 M), bnd (e7 M)]
    exact Oc_b (a_setCurve hn _ _ _ hS)
  rw [if_neg c1]
  by_cases c2 : nI u = (2 : Int32)
  · rw [if_pos c2]
    obtain ⟨v8, -, e8⟩ := low_ex n (y >>> ((4 : Int32) &&& 31)) (d := 4) (by omega) (by omega)
    have e8 : ∀ M, f_L_low n (y >>> ((4 : Int32) &&& 31)) 4 M = some (nI v8, M) := e8
    obtain ⟨v9, -, e9⟩ := low_ex n (y >>> ((6 : Int32) &&& 31)) (d := 7) (by omega) (by omega)
    have e9 : ∀ M, f_L_low n (y >>> ((6 : Int32) &&& 31)) 7 M = some (nI v9, M) := e9
    obtain ⟨v10, -, e10⟩ := low_ex n (y >>> ((9 : Int32) &&& 31)) (d := 310) (by omega) (by omega)
    have e10 : ∀ M, f_L_low n (y >>> ((9 : Int32) &&& 31)) 310 M = some (nI v10, M) := e10
    rw [bnd (e8 M), bnd (e9 M), bnd (e10 M)]
    exact Oc_b (a_setCurve hn _ _ _ hS)
  rw [if_neg c2]
  by_cases c3 : nI u = (3 : Int32)
  · rw [if_pos c3]
    obtain ⟨v11, -, e11⟩ := low_ex n (y >>> ((4 : Int32) &&& 31)) (d := 5) (by omega) (by omega)
    have e11 : ∀ M, f_L_low n (y >>> ((4 : Int32) &&& 31)) 5 M = some (nI v11, M) := e11
    obtain ⟨v12, -, e12⟩ := low_ex n (y >>> ((7 : Int32) &&& 31)) (d := 22) (by omega) (by omega)
    have e12 : ∀ M, f_L_low n (y >>> ((7 : Int32) &&& 31)) 22 M = some (nI v12, M) := e12
    rw [bnd (e11 M), bnd (e12 M)]
    exact Oc_b (a_set hn _ _ hS)
  rw [if_neg c3]
  by_cases c4 : nI u = (4 : Int32)
  · rw [if_pos c4]
    obtain ⟨v13, -, e13⟩ := low_ex n (y >>> ((4 : Int32) &&& 31)) (d := 5) (by omega) (by omega)
    have e13 : ∀ M, f_L_low n (y >>> ((4 : Int32) &&& 31)) 5 M = some (nI v13, M) := e13
    obtain ⟨v14, -, e14⟩ := low_ex n (y >>> ((7 : Int32) &&& 31)) (d := 10) (by omega) (by omega)
    have e14 : ∀ M, f_L_low n (y >>> ((7 : Int32) &&& 31)) 10 M = some (nI v14, M) := e14
    rw [bnd (e13 M), bnd (e14 M)]
    exact Oc_b (a_load hn _ _ hS)
  rw [if_neg c4]
  by_cases c5 : nI u = (5 : Int32)
  · rw [if_pos c5]
    obtain ⟨v15, -, e15⟩ := low_ex n (y >>> ((4 : Int32) &&& 31)) (d := 5) (by omega) (by omega)
    have e15 : ∀ M, f_L_low n (y >>> ((4 : Int32) &&& 31)) 5 M = some (nI v15, M) := e15
    obtain ⟨v16, -, e16⟩ := low_ex n (y >>> ((7 : Int32) &&& 31)) (d := 10) (by omega) (by omega)
    have e16 : ∀ M, f_L_low n (y >>> ((7 : Int32) &&& 31)) 10 M = some (nI v16, M) := e16
    rw [bnd (e15 M), bnd (e16 M)]
    exact Oc_b (a_load hn _ _ hS)
  rw [if_neg c5]
  by_cases c6 : nI u = (6 : Int32)
  · rw [if_pos c6]
    obtain ⟨v17, -, e17⟩ := low_ex n (y >>> ((4 : Int32) &&& 31)) (d := 5) (by omega) (by omega)
    have e17 : ∀ M, f_L_low n (y >>> ((4 : Int32) &&& 31)) 5 M = some (nI v17, M) := e17
    obtain ⟨v18, -, e18⟩ := low_ex n (y >>> ((7 : Int32) &&& 31)) (d := 10) (by omega) (by omega)
    have e18 : ∀ M, f_L_low n (y >>> ((7 : Int32) &&& 31)) 10 M = some (nI v18, M) := e18
    rw [bnd (e17 M), bnd (e18 M)]
    exact Oc_b (a_load hn _ _ hS)
  rw [if_neg c6]
  by_cases c7 : nI u = (7 : Int32)
  · rw [if_pos c7]
    have e7 : (1 : Int32) + nI (gl f) = nI (gl f + 1) := by rw [Int32.add_comm, ix_al]
    obtain ⟨v, -, e⟩ := low_ex n (y >>> ((4 : Int32) &&& 31)) (d := gl f + 1) (by omega) (by have := hS.1.oven.1; omega)
    rw [bnd (vC_1 hn hS.1)]
    dsimp only
    rw [e7, bnd (e M)]
    exact Oc_b (a_takeOff hn _ hS)
  rw [if_neg c7]
  by_cases c8 : nI u = (8 : Int32)
  · rw [if_pos c8]
    obtain ⟨v19, -, e19⟩ := low_ex n (y >>> ((4 : Int32) &&& 31)) (d := 3) (by omega) (by omega)
    have e19 : ∀ M, f_L_low n (y >>> ((4 : Int32) &&& 31)) 3 M = some (nI v19, M) := e19
    rw [bnd (e19 M)]
    exact Oc_b (a_take hn _ hS)
  rw [if_neg c8]
  by_cases c9 : nI u = (9 : Int32)
  · rw [if_pos c9]
    obtain ⟨v20, -, e20⟩ := low_ex n (y >>> ((4 : Int32) &&& 31)) (d := 3) (by omega) (by omega)
    have e20 : ∀ M, f_L_low n (y >>> ((4 : Int32) &&& 31)) 3 M = some (nI v20, M) := e20
    rw [bnd (e20 M)]
    exact Oc_b (a_restore hn _ hS)
  rw [if_neg c9]
  by_cases c10 : nI u = (10 : Int32)
  · rw [if_pos c10]
    exact Oc_b (a_carryOut hn hS)
  rw [if_neg c10]
  obtain ⟨v21, -, e21⟩ := low_ex n (y >>> ((4 : Int32) &&& 31)) (d := 101) (by omega) (by omega)
  have e21 : ∀ M, f_L_low n (y >>> ((4 : Int32) &&& 31)) 101 M = some (nI v21, M) := e21
  obtain ⟨v22, -, e22⟩ := low_ex n (y >>> ((4 : Int32) &&& 31)) (d := 8) (by omega) (by omega)
  have e22 : ∀ M, f_L_low n (y >>> ((4 : Int32) &&& 31)) 8 M = some (nI v22, M) := e22
  split
  · unfold f_L_acts_254
    rw [bnd (e21 M)]
    exact Oc_b (a_pass hn _ hS)
  · unfold f_L_acts_254
    rw [bnd (e22 M)]
    exact Oc_b (a_pass hn _ hS)
end AC
