/-! isForetold -/
theorem low_ex (n : Nat) (x : Int32) {d : Nat} (h0 : 0 < d) (hd : d < 2147483648) : ∃ v, v < d ∧ ∀ M, f_L_low n x (nI d) M = some (nI v, M) := by
  obtain ⟨a, ha, e⟩ := pk_andE x (m := 2147483647) 31 (by decide)
  refine ⟨a % d, Nat.mod_lt _ h0, fun M => ?_⟩
  unfold f_L_low
  rw [if_neg (nI_ne0 h0 (by omega)), e, pk_rem (by omega) h0 (by omega)]
theorem cmp_s (v : Int64) : lg_cmp v v = 0 := (lg_cmp_eq v v).mpr rfl
theorem gMn_lt {g g' : Nat → Int32} {s : Int32} {b : Nat} : ∀ l, (∀ q, q < l → g (56 + 21 * q + 2) = s → g' (56 + 21 * q + 2) = s) → b < l → g (56 + 21 * b + 2) ≠ s → g' (56 + 21 * b + 2) = s → gMn g s l < gMn g' s l := by
  intro l
  induction l with
  | zero => intro _ h; exact absurd h (Nat.not_lt_zero _)
  | succ l ih =>
    intro h hb h1 h2
    unfold gMn
    by_cases hbl : b = l
    · subst hbl
      have := gMn_mono (g := g) (g' := g') (s := s) b (fun q hq => h q (by omega))
      rw [if_neg h1, if_pos h2]
      omega
    · have h3 := ih (fun q hq => h q (by omega)) (by omega) h1 h2
      by_cases h4 : g (56 + 21 * l + 2) = s
      · rw [if_pos h4, if_pos (h l (by omega) h4)]
        omega
      · rw [if_neg h4]
        omega
theorem mv_not2 {g : Nat → Int32} {b q : Nat} (h : g (56 + 21 * b + 2) ≠ 2) : gMv q g (56 + 21 * b + 2) ≠ 2 := by
  by_cases hq : q = b
  · subst hq
    unfold gMv
    split
    · rename_i h0
      unfold gGoOn
      split
      · rw [ud_ne (by omega), h0]
        decide
      · unfold gLeft
        rw [gFault_ne (by omega) (by omega) (by omega), gFault_ne (by omega) (by omega) (by omega), ud_ne (by omega), ud_s]
        decide
    · exact h
  · rw [gMv_out (by unfold gOut; omega)]
    exact h
theorem ticks_not2 {l b : Nat} : ∀ (j : Nat) (g : Nat → Int32), g (56 + 21 * b + 2) ≠ 2 → gTicks l j g (56 + 21 * b + 2) ≠ 2 := by
  intro j
  induction j with
  | zero => intro g h; exact h
  | succ j ih =>
    intro g h
    refine ih (gTick l g) ?_
    rw [gTick_2]
    exact pif_inv2 (F := gMv) (P := fun a => a (56 + 21 * b + 2) ≠ 2) (l := l) (fun q a _ ha => mv_not2 ha) h
theorem pass_ok {g : Nat → Int32} {t j : Nat} (h52 : g 52 = nI t) (h1 : 1 ≤ j) (h99 : j ≤ 99) (ht : t + j ≤ 5000) (hl : gl g ≤ 31) : aPass (nI j) g = nI (gMn (gTicks (gl g) j g) 1 (gl g) - gMn g 1 (gl g)) ∧ nPass (nI j) g = gTicks (gl g) j g := by
  have e : (nI j).toNatClampNeg = j := ix_cl (by omega)
  constructor
  · unfold aPass
    rw [if_pos ⟨nI_le (a := 1) h1 (by omega), nI_le (b := 99) h99 (by omega)⟩, h52, nI_add, if_pos (show nI (t + j) ≤ 5000 from nI_le (b := 5000) ht (by omega)), e, gLeftN hl]
  · unfold nPass
    rw [e]
theorem tv_rg {f : Nat → Int32} {c w : Nat} {s : Int32} (hl : gl f ≤ 30) (hI : gInv f (gl f)) (hS : Snd f) (hc : c < 4) (hw1 : 1 ≤ w) (hw9 : w ≤ 9) (hs : 0 ≤ s ∧ s ≤ 3) : ∃ q, q < 32 ∧ tv f c w s = nI q := by
  obtain ⟨-, t, t1, t2, t3⟩ := hS
  have hH : gInv (tH f c w s) (gl f + 1) := gLoad_inv hl (gSp_inv hs hI) hc hw1 hw9
  have hsp : Sd (gSp s f) (gl f) t := Sd_lo (fun i hi => gSp_hi (by omega) (by omega)) (gSp_hi (by omega) (by omega)) (fun i hi => gSp_hi (by omega) (by omega)) t3
  have h2 : Sd (tH f c w s) (gl f + 1) t := Sd_load hsp
  have h52 : tH f c w s 52 = nI t := by
    unfold tH
    rw [gLoad_out (Or.inl (by omega)) (by omega), gSp_hi (by omega) (by omega)]
    exact t2
  have hr := (rideN_ok (show gl f < gl f + 1 by omega) hH).1
  have h3 := Sd_ticks (rideN (gl f + 1) (gl f) 48 (tH f c w s)) (tH f c w s) t hH (by omega) h52 h2
  exact (h3.2.2 (gl f) (by omega)).2.2.1
section FT
variable {n P len : Nat} {f T : Nat → Int32}
theorem ft_425 {r : Nat} {M : vv_M} {h : Nat → Nat → Int32} {v : Int64} (hv : ∀ (M : vv_M) (T : Nat → Int32) (h : Nat → Nat → Int32) (r len : Nat), Gq P M f h r len T → f_L_all n P M = some (v, M)) (hS : St P M f h r len T) : ∃ M1 h' r', f_L_isForetold_425 n P v M = some (1, M1) ∧ St P M1 f h' r' len T := by
  refine ⟨M, h, r, ?_, hS⟩
  unfold f_L_isForetold_425
  rw [bnd (hv M T h r len hS.1), if_pos (cmp_s v)]
theorem ft_349 {r c w i t : Nat} {M : vv_M} {h : Nat → Nat → Int32} {v : Int64} (hn : 5000 ≤ n) (hv : ∀ (M : vv_M) (T : Nat → Int32) (h : Nat → Nat → Int32) (r len : Nat), Gq P M f h r len T → f_L_all n P M = some (v, M)) (hc : c < 4) (hw1 : 1 ≤ w) (hw9 : w ≤ 9) (h52 : f 52 = nI t) (ht : t ≤ 4000) (i1 : i ≤ 48) (i2 : gFree (gTicks (gl f) i f) (gl f) = true) (i3 : ∀ i', i' < i → gFree (gTicks (gl f) i' f) (gl f) = false) (hS : St P M f h r len T) : ∃ M1 h' r', f_L_isForetold_349 n P v (nI c) (nI w) (nI i) M = some (1, M1) ∧ St P M1 f h' r' len T := by
  have hl := hS.1.oven.1
  unfold f_L_isForetold_349
  by_cases hi : i = 0
  · subst hi
    rw [if_pos (show nI 0 ≤ 0 by decide)]
    exact ft_425 hv hS
  rw [if_neg (nI_nle (by omega) (by omega))]
  -- the load is refused
  have hf0 : gFree f (gl f) = false := i3 0 (by omega)
  have eld : aLoad (nI c) (nI w) f = -1002 := by
    unfold aLoad
    rw [if_pos ⟨nI_pos' (by omega), nI_le (b := 3) (by omega) (by omega)⟩, if_pos ⟨nI_le (a := 1) hw1 (by omega), nI_le (b := 9) hw9 (by omega)⟩, if_neg (by rw [hf0]; decide)]
  obtain ⟨M1, a1, a2, -⟩ := s_load (P := P) hn (nI c) (nI w) M f T h r len hS
  rw [eld] at a1 a2
  have hS1 := a2 (by decide)
  rw [bnd a1, if_pos rfl]
  -- the ticks pass
  obtain ⟨ep, ew⟩ := pass_ok (j := i) h52 (by omega) (by omega) (by omega) (show gl f ≤ 31 by omega)
  obtain ⟨M2, b1, -, b3⟩ := s_pass (P := P) hn (nI i) M1 f T h r len hS1
  have hm := gMn_le (gTicks (gl f) i f) 1 (gl f)
  have np : ∀ x y : Nat, x ≤ 31 → ¬ nI (x - y) < 0 := fun x y hx => nI_pos (by omega)
  rw [ep] at b1 b3
  rw [ew] at b3
  have hS2 := b3 (np _ _ (by omega))
  rw [bnd b1, if_neg (np _ _ (by omega))]
  obtain ⟨M3, d1, d2⟩ := q_room (i := 0) hn hS2.1 (by omega) (by rw [gl_ticks]; exact i2) (fun i' h => absurd h (Nat.not_lt_zero _))
  have hS3 := hS2.back d2
  rw [bnd d1, if_pos (show nI 0 = 0 from rfl)]
  have hr5 := hS.1.2.1.1
  obtain ⟨M4, e1, e2⟩ := s_undo hn rNext_pos hS3
  rw [hPush_top hr5] at e2
  have hrn := rNext_le hr5
  rw [bnd e1, if_neg (nI_pos (by omega))]
  by_cases h1 : i = 1
  · subst h1
    rw [if_pos (show nI 1 ≤ 1 by decide)]
    exact ft_425 hv e2
  rw [if_neg (show ¬ nI i ≤ 1 from nI_ge (a := 1) (by omega) (by omega)), show nI i - 1 = nI (i - 1) from pk_sub (b := 1) (by omega)]
  obtain ⟨ep2, ew2⟩ := pass_ok (j := i - 1) h52 (by omega) (by omega) (by omega) (show gl f ≤ 31 by omega)
  obtain ⟨M5, c1, -, c3⟩ := s_pass (P := P) hn (nI (i - 1)) M4 f T _ _ len e2
  have hm2 := gMn_le (gTicks (gl f) (i - 1) f) 1 (gl f)
  rw [ep2] at c1 c3
  rw [ew2] at c3
  have hS5 := c3 (np _ _ (by omega))
  rw [bnd c1, if_neg (np _ _ (by omega))]
  unfold f_L_isForetold_408
  obtain ⟨M6, k1, k2⟩ := q_room (i := 1) hn hS5.1 (by omega) (by rw [gl_ticks, ← gTicks_add, show i - 1 + 1 = i by omega]; exact i2) (fun i' hi' => by
    obtain rfl : i' = 0 := by omega
    rw [gl_ticks]
    exact i3 (i - 1) (by omega))
  have hS6 := hS5.back k2
  rw [bnd k1, if_pos (show nI 1 = 1 from rfl)]
  obtain ⟨M7, l1, l2⟩ := s_undo hn rNext_pos hS6
  rw [hPush_top (by omega)] at l2
  have hrn2 := rNext_le (show rNext r - 1 ≤ 5 by omega)
  rw [bnd l1, if_pos (nI_pos' (by omega))]
  exact ft_425 hv l2
theorem ft_169 {r c w i : Nat} {M : vv_M} {h : Nat → Nat → Int32} {v : Int64} (hn : 5000 ≤ n) (hv : ∀ (M : vv_M) (T : Nat → Int32) (h : Nat → Nat → Int32) (r len : Nat), Gq P M f h r len T → f_L_all n P M = some (v, M)) (hc : c < 4) (hw1 : 1 ≤ w) (hw9 : w ≤ 9) (i1 : i ≤ 48) (i2 : gFree (gTicks (gl f) i f) (gl f) = true) (i3 : ∀ i', i' < i → gFree (gTicks (gl f) i' f) (gl f) = false) (hS : St P M f h r len T) : ∃ M1 h' r', f_L_isForetold_169 n P v (nI c) (nI w) (tv f c w 0) (nI i) M = some (1, M1) ∧ St P M1 f h' r' len T := by
  obtain ⟨hl, hI, hE, -⟩ := hS.1.oven
  have hSn := hS.2.1.1
  obtain ⟨-, t, t1, h52, t3⟩ := hSn
  have hc0 : f_X4_count n P 0 M = some (nI t, M) := by
    rw [q_count hn hS.1 0 (by decide) (by decide)]
    show some (f 52, M) = _
    rw [h52]
  unfold f_L_isForetold_169
  rw [bnd hc0]
  by_cases ht : t ≤ 4000
  rotate_left
  · rw [if_neg (show ¬ nI t ≤ 4000 from nI_ge (a := 4000) (by omega) (by omega))]
    exact ⟨M, h, r, rfl, hS⟩
  rw [if_pos (show nI t ≤ 4000 from nI_le (b := 4000) ht (by omega))]
  by_cases hi : i = 0
  rotate_left
  · rw [if_neg (nI_ne0 (by omega) (by omega))]
    exact ft_349 hn hv hc hw1 hw9 h52 ht i1 i2 i3 hS
  subst hi
  rw [if_pos (show nI 0 = 0 from rfl), bnd (vC_1 hn hS.1)]
  by_cases h30 : gl f = 30
  · rw [if_pos (show (30 : Int32) ≤ nI (gl f) from nI_le (a := 30) (by omega) (by omega))]
    exact ft_349 hn hv hc hw1 hw9 h52 ht i1 i2 i3 hS
  rw [if_neg (show ¬ (30 : Int32) ≤ nI (gl f) from nI_ge (b := 30) (by omega) (by omega))]
  have hr5 := hS.1.2.1.1
  -- the load
  have hf0 : gFree f (gl f) = true := i2
  have eld : aLoad (nI c) (nI w) f = nI (gl f) := by
    unfold aLoad
    rw [if_pos ⟨nI_pos' (by omega), nI_le (b := 3) (by omega) (by omega)⟩, if_pos ⟨nI_le (a := 1) hw1 (by omega), nI_le (b := 9) hw9 (by omega)⟩, if_pos hf0, if_pos (by omega)]
  obtain ⟨M1, a1, -, a3⟩ := s_load (P := P) hn (nI c) (nI w) M f T h r len hS
  rw [eld] at a1 a3
  have hS1 := a3 (nI_pos (by omega))
  rw [bnd a1, ix_let]
  -- the moment after it
  have hld : nLoad (nI c) (nI w) f = tH f c w 0 := by
    unfold nLoad tH gSp
    rw [if_pos rfl]
  have htv : tv f c w 0 = gTicks (gl f + 1) (rideN (gl f + 1) (gl f) 48 (tH f c w 0)) (tH f c w 0) (56 + 21 * gl f + 8) := rfl
  have hgl : gl (tH f c w 0) = gl f + 1 := gl_load (by omega)
  have hI1 : gInv (tH f c w 0) (gl f + 1) := gLoad_inv hl (gSp_inv (by decide) hI) hc hw1 hw9
  have h152 : tH f c w 0 52 = nI t := by
    unfold tH
    rw [gLoad_out (Or.inl (by omega)) (by omega), gSp_hi (by omega) (by omega)]
    exact h52
  have hon : tH f c w 0 (56 + 21 * gl f + 2) = 0 := gLoad_brd (by omega)
  obtain ⟨j1, j2, j3⟩ := rideN_ok (show gl f < gl f + 1 by omega) hI1
  rw [hld] at hS1
  have hi0 : ∀ (M' : vv_M) (h' : Nat → Nat → Int32) (r' : Nat), St P M' f h' r' len T → ∃ M1 h'' r'', f_L_isForetold_349 n P v (nI c) (nI w) (nI 0) M' = some (1, M1) ∧ St P M1 f h'' r'' len T := fun M' h' r' q => ft_349 hn hv hc hw1 hw9 h52 ht i1 i2 i3 q
  generalize tH f c w 0 = f1 at *
  have hq : ∀ (M : vv_M) (x : Nat), x < 4 → Gq P M f1 (hPush h r f) (rNext r) len T → ∃ M1, f_X4_foretell n P (nI (gl f)) (nI x) M = some (if x = 2 then nI (rideN (gl f + 1) (gl f) 48 f1) else gTicks (gl f + 1) (rideN (gl f + 1) (gl f) 48 f1) f1 (56 + 21 * gl f + if x = 0 then 8 else if x = 1 then 6 else 4), M1) ∧ Gq P M1 f1 (hPush h r f) (rNext r) len T := by
    intro M x hx hG
    have := q_foretell (b := gl f) (w := x) hn hG (by omega) hon hx
    rw [hgl] at this
    exact this
  generalize rideN (gl f + 1) (gl f) 48 f1 = j at j1 j2 j3 hq htv
  have hj1 : 1 ≤ j := by
    rcases Nat.eq_zero_or_pos j with rfl | h
    · exact absurd hon j2
    · exact h
  obtain ⟨M2, b1, b2⟩ := hq M1 2 (by omega) hS1.1
  have b1' : f_X4_foretell n P (nI (gl f)) 2 M1 = some (nI j, M2) := b1
  rw [bnd b1', ix_let]
  unfold f_L_isForetold_216
  obtain ⟨M3, d1, d2⟩ := hq M2 1 (by omega) b2
  have d1' : f_X4_foretell n P (nI (gl f)) 1 M2 = some (gTicks (gl f + 1) j f1 (56 + 21 * gl f + 6), M3) := d1
  rw [bnd d1', ix_let]
  obtain ⟨M4, e1, e2⟩ := hq M3 3 (by omega) d2
  have e1' : f_X4_foretell n P (nI (gl f)) 3 M3 = some (gTicks (gl f + 1) j f1 (56 + 21 * gl f + 4), M4) := e1
  have hc1 := vC_1 hn e2
  rw [hgl] at hc1
  rw [bnd e1', ix_let, bnd hc1]
  dsimp only
  rw [nI_pred, if_pos rfl]
  unfold f_L_isForetold_246
  obtain ⟨M5, g1, g2⟩ := hq M4 0 (by omega) e2
  have g1' : f_X4_foretell n P (nI (gl f)) 0 M4 = some (gTicks (gl f + 1) j f1 (56 + 21 * gl f + 8), M5) := g1
  rw [bnd g1', if_pos htv.symm, if_neg (show ¬ nI j < 1 from nI_nlt (b := 1) hj1 (by omega))]
  -- the ticks
  have hS5 := hS1.back g2
  obtain ⟨ep, ew⟩ := pass_ok (j := j) h152 hj1 (by omega) (by omega) (show gl f1 ≤ 31 by omega)
  rw [hgl] at ep ew
  have hst : gTicks (gl f + 1) j f1 (56 + 21 * gl f + 2) = 1 := by
    have n2 : f1 (56 + 21 * gl f + 2) ≠ 2 := by rw [hon]; decide
    have n3 := ticks_not2 (l := gl f + 1) j f1 n2
    obtain ⟨-, t', u1, u2, u3⟩ := hS5.2.1.1
    rw [hgl] at u3
    have : t' = t := (nI_eq (by omega) (by omega)).mp (u2.symm.trans h152)
    subst this
    have u4 := (Sd_ticks j f1 t' hI1 (by omega) h152 u3).2.2 (gl f) (by omega)
    rcases u4.1 with u | u | u
    · exact absurd u j2
    · exact u
    · exact absurd u n3
  have hlt : gMn f1 1 (gl f + 1) < gMn (gTicks (gl f + 1) j f1) 1 (gl f + 1) := gMn_lt (b := gl f) (gl f + 1) (fun q _ hq => gTicks_1 (by decide) j f1 hq) (by omega) (by rw [hon]; decide) hst
  have hm := gMn_le (gTicks (gl f + 1) j f1) 1 (gl f + 1)
  obtain ⟨M6, k1, -, k3⟩ := s_pass (P := P) hn (nI j) M5 f1 T _ _ len hS5
  rw [ep] at k1 k3
  rw [ew] at k3
  have hS6 := k3 (nI_pos (by omega))
  have hgl6 : gl (gTicks (gl f + 1) j f1) = gl f + 1 := gl_ticks.trans hgl
  have hb : ∀ x, x < 11 → f_X4_board n P (nI (gl f)) (nI x) M6 = some (vB (gTicks (gl f + 1) j f1) (gl f) x, M6) := fun x hx => q_board (n := n) hS6.1 (by omega) hx
  have hb2 : f_X4_board n P (nI (gl f)) 2 M6 = some (1, M6) := by
    rw [← hst]
    exact hb 2 (by omega)
  have hb8 : f_X4_board n P (nI (gl f)) 8 M6 = some (gTicks (gl f + 1) j f1 (56 + 21 * gl f + 8), M6) := hb 8 (by omega)
  have hb6 : f_X4_board n P (nI (gl f)) 6 M6 = some (gTicks (gl f + 1) j f1 (56 + 21 * gl f + 6), M6) := hb 6 (by omega)
  have hb4 : f_X4_board n P (nI (gl f)) 4 M6 = some (gTicks (gl f + 1) j f1 (56 + 21 * gl f + 4), M6) := hb 4 (by omega)
  rw [bnd k1, if_neg (show ¬ nI (gMn (gTicks (gl f + 1) j f1) 1 (gl f + 1) - gMn f1 1 (gl f + 1)) < 1 from nI_nlt (b := 1) (by omega) (by omega)), bnd hb2, if_pos rfl, bnd hb8, if_pos htv.symm, bnd hb6, if_pos rfl]
  unfold f_L_isForetold_311
  rw [bnd hb4, if_pos rfl]
  have hrn := rNext_le hr5
  have hrn2 := rNext_le hrn
  obtain ⟨M7, l1, l2⟩ := s_undo hn rNext_pos hS6
  have h2 := rNext_2 (r := r)
  have hp2 := hPush_2 (h := h) (f := f) (f1 := f1) hr5
  rw [hPush_top hrn] at l2
  rw [bnd l1, if_neg (nI_pos (by omega))]
  have hb7 : f_X4_board n P (nI (gl f)) 2 M7 = some (0, M7) := by
    rw [← hon]
    exact q_board (n := n) (w := 2) l2.1 (by omega) (by omega)
  obtain ⟨M8, m1, m2⟩ := s_undo hn (show 1 ≤ rNext (rNext r) - 1 by omega) l2
  rw [hp2] at m2
  rw [bnd hb7, if_pos rfl, bnd m1, if_pos (nI_pos' (by omega))]
  exact hi0 _ _ _ m2
theorem ft_ok {r : Nat} {M : vv_M} {h : Nat → Nat → Int32} (y : Int32) (hn : 5000 ≤ n) (hS : St P M f h r len T) : ∃ M1 h' r', f_L_isForetold n P y M = some (1, M1) ∧ St P M1 f h' r' len T := by
  obtain ⟨hl, hI, hE, -⟩ := hS.1.oven
  obtain ⟨v, hv⟩ := all_ok (n := n) (P := P) hl hn
  have hv : ∀ (M : vv_M) (T : Nat → Int32) (h : Nat → Nat → Int32) (r len : Nat), Gq P M f h r len T → f_L_all n P M = some (v, M) := hv
  obtain ⟨c, hc, ec⟩ := low_ex n y (d := 4) (by omega) (by omega)
  obtain ⟨w9, hw9, ew⟩ := low_ex n (y >>> ((2 : Int32) &&& 31)) (d := 9) (by omega) (by omega)
  obtain ⟨s3, hs3, es⟩ := low_ex n (y >>> ((6 : Int32) &&& 31)) (d := 3) (by omega) (by omega)
  have ec : ∀ M, f_L_low n y 4 M = some (nI c, M) := ec
  have ew : ∀ M, f_L_low n (y >>> ((2 : Int32) &&& 31)) 9 M = some (nI w9, M) := ew
  have es : ∀ M, f_L_low n (y >>> ((6 : Int32) &&& 31)) 3 M = some (nI s3, M) := es
  unfold f_L_isForetold
  rw [bnd (hv M T h r len hS.1), ix_let, bnd (ec M), ix_let, bnd (ew M), ix_let]
  dsimp only
  rw [show (1 : Int32) + nI w9 = nI (w9 + 1) by rw [Int32.add_comm, ix_al]]
  obtain ⟨w, hw1, hw9', rfl⟩ : ∃ w, 1 ≤ w ∧ w ≤ 9 ∧ w9 + 1 = w := ⟨w9 + 1, by omega, by omega, rfl⟩
  generalize w9 + 1 = w at hw1 hw9' ⊢
  unfold f_L_isForetold_24
  obtain ⟨M1, a1, a2⟩ := q_wouldFail (s := 0) hn hS.1 hc hw1 hw9' (by decide)
  rw [bnd a1, ix_let, bnd (es M1)]
  dsimp only
  have e1 : (1 : Int32) + nI s3 = nI (s3 + 1) := by rw [Int32.add_comm, ix_al]
  have hs : 0 ≤ nI (s3 + 1) ∧ nI (s3 + 1) ≤ 3 := ⟨nI_pos' (by omega), nI_le (b := 3) (by omega) (by omega)⟩
  rw [e1]
  obtain ⟨M2, b1, b2⟩ := q_wouldFail (s := nI (s3 + 1)) hn a2 hc hw1 hw9' hs
  rw [bnd b1, ix_let]
  unfold f_L_isForetold_55
  obtain ⟨M3, d1, d2⟩ := q_heaviest hn b2 hc
  rw [bnd d1, ix_let]
  obtain ⟨i, i1, i2, i3⟩ := free_ex 48 f hI (fun _ _ _ => by omega)
  obtain ⟨M4, g1, g2⟩ := q_room hn d2 i1 i2 i3
  rw [bnd g1, ix_let, bnd (hv M4 T h r len g2), if_pos (cmp_s v)]
  have hS4 := hS.back g2
  obtain ⟨q1, q1', eq1⟩ := tv_rg hl hI hS.2.1.1 hc hw1 hw9' (show (0 : Int32) ≤ 0 ∧ (0 : Int32) ≤ 3 by decide)
  obtain ⟨q2, q2', eq2⟩ := tv_rg hl hI hS.2.1.1 hc hw1 hw9' hs
  have h169 : ∀ M', Gq P M' f h r len T → ∃ M1 h' r', f_L_isForetold_169 n P v (nI c) (nI w) (tv f c w 0) (nI i) M' = some (1, M1) ∧ St P M1 f h' r' len T := fun M' hM' => ft_169 hn hv hc hw1 hw9' i1 i2 i3 (hS.back hM')
  unfold f_L_isForetold_78
  dsimp only
  rw [eq2, if_neg (show ¬ tv f c w 0 < 0 by rw [eq1]; exact nI_pos (by omega)), if_neg (show ¬ (31 : Int32) < tv f c w 0 by rw [eq1]; exact nI_nlt (a := 31) (by omega) (by omega)), if_neg (nI_pos (by omega))]
  rcases hv_spec f c 9 with ⟨u1, u2⟩ | ⟨x, u1, u2, u3, u4, u5⟩
  · rw [u1, if_neg (by decide), if_neg (by decide), if_pos rfl]
    obtain ⟨M5, k1, k2⟩ := q_wouldFail (w := 9) (s := 0) hn g2 hc (by omega) (by omega) (by decide)
    have k1' : f_X4_wouldFail n P (nI c) 9 0 M4 = some (tv f c 9 0, M5) := k1
    rw [bnd k1', if_neg (u2 9 (by omega) (by omega))]
    unfold f_L_isForetold_129
    rw [if_pos (by decide)]
    exact h169 M5 k2
  · rw [u3, if_neg (nI_ne0 (by omega) (by omega)), if_neg (show ¬ (9 : Int32) < nI x from nI_nlt (a := 9) (by omega) (by omega)), if_neg (nI_ne9 (by omega))]
    unfold f_L_isForetold_129
    rw [if_neg (nI_nle (by omega) (by omega))]
    obtain ⟨M5, k1, k2⟩ := q_wouldFail (w := x) (s := 0) hn g2 hc u1 u2 (by decide)
    rw [bnd k1, if_pos u4]
    by_cases h9 : x = 9
    · subst h9
      rw [if_pos (show (9 : Int32) ≤ nI 9 by decide)]
      exact h169 M5 k2
    · rw [if_neg (show ¬ (9 : Int32) ≤ nI x from nI_ge (b := 9) (by omega) (by omega)), ix_al]
      obtain ⟨M6, l1, l2⟩ := q_wouldFail (w := x + 1) (s := 0) hn k2 hc (by omega) (by omega) (by decide)
      have l1' : f_X4_wouldFail n P (nI c) (nI (x + OfNat.ofNat 1)) 0 M5 = some (tv f c (x + 1) 0, M6) := l1
      rw [bnd l1', if_neg (u5 (x + 1) (by omega) (by omega))]
      exact h169 M6 l2
end FT
