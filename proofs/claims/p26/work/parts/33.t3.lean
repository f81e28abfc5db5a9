set_option maxRecDepth 20000 in
theorem t_L_isBoardSound_373 {S : List vv_Sh} (n : Nat) (k126 : Nat → Int32 → Int32 → Int32 → vv_M → Option (Int32 × vv_M)) (u : Int32 × vv_M) (hk126 : ∀ (p0 : Nat) (x1 : Int32) (x2 : Int32) (x5 : Int32) (M : vv_M) (h0 : vv_bb S p0) (hf : k126 p0 x1 x2 x5 M = some u), vv_V [] yL_isBoardSound.cls yL_isBoardSound.name cL_isBoardSound 11 (some .boolean) (vv_R 3 0 0) S.length (vv_sz S) (vv_fi S u) 126 [(0, .ref p0), (1, .int x1), (2, .int x2), (5, .int x5)] [] S M) (p0 : Nat) (x1 : Int32) (x2 : Int32) (x5 : Int32) (s0 : Int32) (s1 : Int32) (M : vv_M) (h0 : vv_bb S p0) (hf : f_L_isBoardSound_373 n k126 p0 x1 x2 x5 s0 s1 M = some u) : vv_V [] yL_isBoardSound.cls yL_isBoardSound.name cL_isBoardSound 11 (some .boolean) (vv_R 3 0 0) S.length (vv_sz S) (vv_fi S u) 373 [(0, .ref p0), (1, .int x1), (2, .int x2), (5, .int x5)] [.int s1, .int s0] S M := by
  unfold f_L_isBoardSound_373 at hf
  refine vi_icmp_eq 378 dL_isBoardSound_373 (by decide) (fun c47 => ?_) (fun c47 => ?_)
  · rw [if_pos c47] at hf
    obtain ⟨y48, ey48, hf⟩ := vv_lt hf
    refine vi_iinc (v := y48) (L' := [(5, .int y48), (0, .ref p0), (1, .int x1), (2, .int x2)]) 3 dL_isBoardSound_378 rfl (by rw [ey48]; rfl) (by decide) rfl ?_
    refine vi_goto 126 dL_isBoardSound_381 (by decide) ?_
    refine vi_sub (L' := [(0, .ref p0), (1, .int x1), (2, .int x2), (5, .int y48)]) [1, 2, 3, 0] rfl ?_
    exact hk126 p0 x1 x2 y48 M h0 hf
  · rw [if_neg c47] at hf
    refine vi_iconst (v := (0 : Int32)) dL_isBoardSound_376 (by decide) ?_
    obtain rfl := Option.some.inj hf
    exact vi_ret (v := some (.int (0 : Int32))) rfl ⟨dL_isBoardSound_377, .boolean, rfl, rfl⟩ ⟨rfl, rfl, rfl⟩
set_option maxRecDepth 20000 in
theorem t_L_isBoardSound_358 {S : List vv_Sh} (n : Nat) (k126 : Nat → Int32 → Int32 → Int32 → vv_M → Option (Int32 × vv_M)) (u : Int32 × vv_M) (hk126 : ∀ (p0 : Nat) (x1 : Int32) (x2 : Int32) (x5 : Int32) (M : vv_M) (h0 : vv_bb S p0) (hf : k126 p0 x1 x2 x5 M = some u), vv_V [] yL_isBoardSound.cls yL_isBoardSound.name cL_isBoardSound 11 (some .boolean) (vv_R 3 0 0) S.length (vv_sz S) (vv_fi S u) 126 [(0, .ref p0), (1, .int x1), (2, .int x2), (5, .int x5)] [] S M) (p0 : Nat) (x1 : Int32) (x2 : Int32) (x5 : Int32) (s0 : Int32) (M : vv_M) (h0 : vv_bb S p0) (hf : f_L_isBoardSound_358 n k126 p0 x1 x2 x5 s0 M = some u) : vv_V [] yL_isBoardSound.cls yL_isBoardSound.name cL_isBoardSound 11 (some .boolean) (vv_R 3 0 0) S.length (vv_sz S) (vv_fi S u) 358 [(0, .ref p0), (1, .int x1), (2, .int x2), (5, .int x5)] [.int s0] S M := by
  unfold f_L_isBoardSound_358 at hf
  refine vi_aload_n 0 dL_isBoardSound_358 rfl rfl ?_
  refine vi_iload 3 dL_isBoardSound_359 rfl ?_
  refine vi_iconst (v := (1 : Int32)) dL_isBoardSound_361 (by decide) ?_
  obtain ⟨u45, hu45, hf⟩ := vv_bd hf
  refine vi_callV (As := [.int x5, .int (1 : Int32)]) (st := [.int s0]) (t_X4_worstCell n p0 x5 (1 : Int32) M u45 h0 hu45) rfl yo_X4_worstCell wm_L_32 wi_X4_worstCell ws_X4_worstCell wI_X4 wc_X4_worstCell (vv_bb_o h0) rfl ⟨Nat.le_of_ble_eq_true rfl, Nat.le_of_ble_eq_true rfl⟩ (vv_rm0 rfl rfl) (Nat.le_of_ble_eq_true rfl) rfl rfl dL_isBoardSound_362 ?_
  refine vi_if_ne 372 dL_isBoardSound_365 (by decide) (fun c46 => ?_) (fun c46 => ?_)
  · rw [if_neg c46] at hf
    refine vi_iconst (v := (0 : Int32)) dL_isBoardSound_372 (by decide) ?_
    exact t_L_isBoardSound_373 n k126 u hk126 p0 x1 x2 x5 s0 (0 : Int32) u45.2 h0 hf
  · rw [if_pos c46] at hf
    refine vi_iconst (v := (1 : Int32)) dL_isBoardSound_368 (by decide) ?_
    refine vi_goto 373 dL_isBoardSound_369 (by decide) ?_
    exact t_L_isBoardSound_373 n k126 u hk126 p0 x1 x2 x5 s0 (1 : Int32) u45.2 h0 hf
set_option maxRecDepth 20000 in
theorem t_L_isBoardSound_348 {S : List vv_Sh} (n : Nat) (k126 : Nat → Int32 → Int32 → Int32 → vv_M → Option (Int32 × vv_M)) (u : Int32 × vv_M) (hk126 : ∀ (p0 : Nat) (x1 : Int32) (x2 : Int32) (x5 : Int32) (M : vv_M) (h0 : vv_bb S p0) (hf : k126 p0 x1 x2 x5 M = some u), vv_V [] yL_isBoardSound.cls yL_isBoardSound.name cL_isBoardSound 11 (some .boolean) (vv_R 3 0 0) S.length (vv_sz S) (vv_fi S u) 126 [(0, .ref p0), (1, .int x1), (2, .int x2), (5, .int x5)] [] S M) (p0 : Nat) (x1 : Int32) (x2 : Int32) (x5 : Int32) (x10 : Int32) (M : vv_M) (h0 : vv_bb S p0) (hf : f_L_isBoardSound_348 n k126 p0 x1 x2 x5 x10 M = some u) : vv_V [] yL_isBoardSound.cls yL_isBoardSound.name cL_isBoardSound 11 (some .boolean) (vv_R 3 0 0) S.length (vv_sz S) (vv_fi S u) 348 [(0, .ref p0), (1, .int x1), (2, .int x2), (5, .int x5), (10, .int x10)] [] S M := by
  unfold f_L_isBoardSound_348 at hf
  refine vi_iload 4 dL_isBoardSound_348 rfl ?_
  refine vi_if_ge 357 dL_isBoardSound_350 (by decide) (fun c44 => ?_) (fun c44 => ?_)
  · rw [if_pos c44] at hf
    refine vi_iconst (v := (0 : Int32)) dL_isBoardSound_357 (by decide) ?_
    refine vi_sub (L' := [(0, .ref p0), (1, .int x1), (2, .int x2), (5, .int x5)]) [0, 1, 2, 3] rfl ?_
    exact t_L_isBoardSound_358 n k126 u hk126 p0 x1 x2 x5 (0 : Int32) M h0 hf
  · rw [if_neg c44] at hf
    refine vi_iconst (v := (1 : Int32)) dL_isBoardSound_353 (by decide) ?_
    refine vi_goto 358 dL_isBoardSound_354 (by decide) ?_
    refine vi_sub (L' := [(0, .ref p0), (1, .int x1), (2, .int x2), (5, .int x5)]) [0, 1, 2, 3] rfl ?_
    exact t_L_isBoardSound_358 n k126 u hk126 p0 x1 x2 x5 (1 : Int32) M h0 hf
set_option maxRecDepth 20000 in
theorem t_L_isBoardSound_341 {S : List vv_Sh} (n : Nat) (k126 : Nat → Int32 → Int32 → Int32 → vv_M → Option (Int32 × vv_M)) (u : Int32 × vv_M) (hk126 : ∀ (p0 : Nat) (x1 : Int32) (x2 : Int32) (x5 : Int32) (M : vv_M) (h0 : vv_bb S p0) (hf : k126 p0 x1 x2 x5 M = some u), vv_V [] yL_isBoardSound.cls yL_isBoardSound.name cL_isBoardSound 11 (some .boolean) (vv_R 3 0 0) S.length (vv_sz S) (vv_fi S u) 126 [(0, .ref p0), (1, .int x1), (2, .int x2), (5, .int x5)] [] S M) (p0 : Nat) (x1 : Int32) (x2 : Int32) (x5 : Int32) (x7 : Int32) (x10 : Int32) (M : vv_M) (h0 : vv_bb S p0) (hf : f_L_isBoardSound_341 n k126 p0 x1 x2 x5 x7 x10 M = some u) : vv_V [] yL_isBoardSound.cls yL_isBoardSound.name cL_isBoardSound 11 (some .boolean) (vv_R 3 0 0) S.length (vv_sz S) (vv_fi S u) 341 [(0, .ref p0), (1, .int x1), (2, .int x2), (5, .int x5), (7, .int x7), (10, .int x10)] [] S M := by
  unfold f_L_isBoardSound_341 at hf
  refine vi_iload 5 dL_isBoardSound_341 rfl ?_
  refine vi_iload 4 dL_isBoardSound_343 rfl ?_
  refine vi_icmp_gt 376 dL_isBoardSound_345 (by decide) (fun c51 => ?_) (fun c51 => ?_)
  · rw [if_pos c51] at hf
    refine vi_iconst (v := (0 : Int32)) dL_isBoardSound_376 (by decide) ?_
    obtain rfl := Option.some.inj hf
    exact vi_ret (v := some (.int (0 : Int32))) rfl ⟨dL_isBoardSound_377, .boolean, rfl, rfl⟩ ⟨rfl, rfl, rfl⟩
  · rw [if_neg c51] at hf
    refine vi_sub (L' := [(0, .ref p0), (1, .int x1), (2, .int x2), (5, .int x5), (10, .int x10)]) [0, 1, 2, 3, 5] rfl ?_
    exact t_L_isBoardSound_348 n k126 u hk126 p0 x1 x2 x5 x10 M h0 hf
set_option maxRecDepth 20000 in
theorem t_L_isBoardSound_294 {S : List vv_Sh} (n : Nat) (k126 : Nat → Int32 → Int32 → Int32 → vv_M → Option (Int32 × vv_M)) (k258 : Nat → Int32 → Int32 → Int32 → Int32 → Int32 → Int32 → Int32 → vv_M → Option (Int32 × vv_M)) (u : Int32 × vv_M) (hk126 : ∀ (p0 : Nat) (x1 : Int32) (x2 : Int32) (x5 : Int32) (M : vv_M) (h0 : vv_bb S p0) (hf : k126 p0 x1 x2 x5 M = some u), vv_V [] yL_isBoardSound.cls yL_isBoardSound.name cL_isBoardSound 11 (some .boolean) (vv_R 3 0 0) S.length (vv_sz S) (vv_fi S u) 126 [(0, .ref p0), (1, .int x1), (2, .int x2), (5, .int x5)] [] S M) (hk258 : ∀ (p0 : Nat) (x1 : Int32) (x2 : Int32) (x5 : Int32) (x6 : Int32) (x7 : Int32) (x9 : Int32) (x10 : Int32) (M : vv_M) (h0 : vv_bb S p0) (hf : k258 p0 x1 x2 x5 x6 x7 x9 x10 M = some u), vv_V [] yL_isBoardSound.cls yL_isBoardSound.name cL_isBoardSound 11 (some .boolean) (vv_R 3 0 0) S.length (vv_sz S) (vv_fi S u) 258 [(0, .ref p0), (1, .int x1), (2, .int x2), (5, .int x5), (6, .int x6), (7, .int x7), (9, .int x9), (10, .int x10)] [] S M) (p0 : Nat) (x1 : Int32) (x2 : Int32) (x5 : Int32) (x6 : Int32) (x7 : Int32) (x10 : Int32) (s0 : Int32) (s1 : Int32) (M : vv_M) (h0 : vv_bb S p0) (hf : f_L_isBoardSound_294 n k126 k258 p0 x1 x2 x5 x6 x7 x10 s0 s1 M = some u) : vv_V [] yL_isBoardSound.cls yL_isBoardSound.name cL_isBoardSound 11 (some .boolean) (vv_R 3 0 0) S.length (vv_sz S) (vv_fi S u) 294 [(0, .ref p0), (1, .int x1), (2, .int x2), (5, .int x5), (6, .int x6), (7, .int x7), (10, .int x10)] [.int s1, .int s0] S M := by
  unfold f_L_isBoardSound_294 at hf
  refine vi_iadd dL_isBoardSound_294 ?_
  obtain ⟨y53, ey53, hf⟩ := vv_lt hf
  refine vi_istore (L' := [(9, .int y53), (0, .ref p0), (1, .int x1), (2, .int x2), (5, .int x5), (6, .int x6), (7, .int x7), (10, .int x10)]) dL_isBoardSound_295 (by decide) (by rw [ey53]; rfl) ?_
  obtain ⟨y54, ey54, hf⟩ := vv_lt hf
  refine vi_iinc (v := y54) (L' := [(10, .int y54), (9, .int y53), (0, .ref p0), (1, .int x1), (2, .int x2), (5, .int x5), (6, .int x6), (7, .int x7)]) 7 dL_isBoardSound_297 rfl (by rw [ey54]; rfl) (by decide) rfl ?_
  refine vi_goto 258 dL_isBoardSound_300 (by decide) ?_
  refine vi_sub (L' := [(0, .ref p0), (1, .int x1), (2, .int x2), (5, .int x5), (6, .int x6), (7, .int x7), (9, .int y53), (10, .int y54)]) [2, 3, 4, 5, 6, 7, 1, 0] rfl ?_
  exact hk258 p0 x1 x2 x5 x6 x7 y53 y54 M h0 hf
set_option maxRecDepth 20000 in
theorem t_L_isBoardSound_293 {S : List vv_Sh} (n : Nat) (k126 : Nat → Int32 → Int32 → Int32 → vv_M → Option (Int32 × vv_M)) (k258 : Nat → Int32 → Int32 → Int32 → Int32 → Int32 → Int32 → Int32 → vv_M → Option (Int32 × vv_M)) (u : Int32 × vv_M) (hk126 : ∀ (p0 : Nat) (x1 : Int32) (x2 : Int32) (x5 : Int32) (M : vv_M) (h0 : vv_bb S p0) (hf : k126 p0 x1 x2 x5 M = some u), vv_V [] yL_isBoardSound.cls yL_isBoardSound.name cL_isBoardSound 11 (some .boolean) (vv_R 3 0 0) S.length (vv_sz S) (vv_fi S u) 126 [(0, .ref p0), (1, .int x1), (2, .int x2), (5, .int x5)] [] S M) (hk258 : ∀ (p0 : Nat) (x1 : Int32) (x2 : Int32) (x5 : Int32) (x6 : Int32) (x7 : Int32) (x9 : Int32) (x10 : Int32) (M : vv_M) (h0 : vv_bb S p0) (hf : k258 p0 x1 x2 x5 x6 x7 x9 x10 M = some u), vv_V [] yL_isBoardSound.cls yL_isBoardSound.name cL_isBoardSound 11 (some .boolean) (vv_R 3 0 0) S.length (vv_sz S) (vv_fi S u) 258 [(0, .ref p0), (1, .int x1), (2, .int x2), (5, .int x5), (6, .int x6), (7, .int x7), (9, .int x9), (10, .int x10)] [] S M) (p0 : Nat) (x1 : Int32) (x2 : Int32) (x5 : Int32) (x6 : Int32) (x7 : Int32) (x10 : Int32) (s0 : Int32) (M : vv_M) (h0 : vv_bb S p0) (hf : f_L_isBoardSound_293 n k126 k258 p0 x1 x2 x5 x6 x7 x10 s0 M = some u) : vv_V [] yL_isBoardSound.cls yL_isBoardSound.name cL_isBoardSound 11 (some .boolean) (vv_R 3 0 0) S.length (vv_sz S) (vv_fi S u) 293 [(0, .ref p0), (1, .int x1), (2, .int x2), (5, .int x5), (6, .int x6), (7, .int x7), (10, .int x10)] [.int s0] S M := by
  unfold f_L_isBoardSound_293 at hf
  refine vi_iconst (v := (0 : Int32)) dL_isBoardSound_293 (by decide) ?_
  exact t_L_isBoardSound_294 n k126 k258 u hk126 hk258 p0 x1 x2 x5 x6 x7 x10 s0 (0 : Int32) M h0 hf
set_option maxRecDepth 20000 in
theorem t_L_isBoardSound_258 {S : List vv_Sh} (n : Nat) (k126 : Nat → Int32 → Int32 → Int32 → vv_M → Option (Int32 × vv_M)) (u : Int32 × vv_M) (hk126 : ∀ (p0 : Nat) (x1 : Int32) (x2 : Int32) (x5 : Int32) (M : vv_M) (h0 : vv_bb S p0) (hf : k126 p0 x1 x2 x5 M = some u), vv_V [] yL_isBoardSound.cls yL_isBoardSound.name cL_isBoardSound 11 (some .boolean) (vv_R 3 0 0) S.length (vv_sz S) (vv_fi S u) 126 [(0, .ref p0), (1, .int x1), (2, .int x2), (5, .int x5)] [] S M) : ∀ (k : Nat) (p0 : Nat) (x1 : Int32) (x2 : Int32) (x5 : Int32) (x6 : Int32) (x7 : Int32) (x9 : Int32) (x10 : Int32) (M : vv_M) (h0 : vv_bb S p0) (hf : f_L_isBoardSound_258 n k126 k p0 x1 x2 x5 x6 x7 x9 x10 M = some u), vv_V [] yL_isBoardSound.cls yL_isBoardSound.name cL_isBoardSound 11 (some .boolean) (vv_R 3 0 0) S.length (vv_sz S) (vv_fi S u) 258 [(0, .ref p0), (1, .int x1), (2, .int x2), (5, .int x5), (6, .int x6), (7, .int x7), (9, .int x9), (10, .int x10)] [] S M := by
  intro k
  induction k with
  | zero =>
    intro p0 x1 x2 x5 x6 x7 x9 x10 M h0 hf
    exact absurd (show (none : Option (Int32 × vv_M)) = some u from hf) (by simp)
  | succ k ih =>
    intro p0 x1 x2 x5 x6 x7 x9 x10 M h0 hf
    rw [f_L_isBoardSound_258.eq_2] at hf
    refine vi_iload 7 dL_isBoardSound_258 rfl ?_
    refine vi_aload_n 0 dL_isBoardSound_260 rfl rfl ?_
    refine vi_iconst (v := (1 : Int32)) dL_isBoardSound_261 (by decide) ?_
    obtain ⟨u37, hu37, hf⟩ := vv_bd hf
    refine vi_callV (As := [.int (1 : Int32)]) (st := [.int x10]) (t_X4_count n p0 (1 : Int32) M u37 h0 hu37) rfl yo_X4_count wm_L_12 wi_X4_count ws_X4_count wI_X4 wc_X4_count (vv_bb_o h0) rfl ⟨Nat.le_of_ble_eq_true rfl, Nat.le_of_ble_eq_true rfl⟩ (vv_rm0 rfl rfl) (Nat.le_of_ble_eq_true rfl) rfl rfl dL_isBoardSound_262 ?_
    refine vi_icmp_ge 303 dL_isBoardSound_265 (by decide) (fun c38 => ?_) (fun c38 => ?_)
    · rw [if_pos c38] at hf
      refine vi_aload_n 0 dL_isBoardSound_303 rfl rfl ?_
      refine vi_iload 3 dL_isBoardSound_304 rfl ?_
      refine vi_iconst (v := (0 : Int32)) dL_isBoardSound_306 (by decide) ?_
      obtain ⟨u39, hu39, hf⟩ := vv_bd hf
      refine vi_callV (As := [.int x5, .int (0 : Int32)]) (st := []) (t_X4_worstCell n p0 x5 (0 : Int32) u37.2 u39 h0 hu39) rfl yo_X4_worstCell wm_L_32 wi_X4_worstCell ws_X4_worstCell wI_X4 wc_X4_worstCell (vv_bb_o h0) rfl ⟨Nat.le_of_ble_eq_true rfl, Nat.le_of_ble_eq_true rfl⟩ (vv_rm0 rfl rfl) (Nat.le_of_ble_eq_true rfl) rfl rfl dL_isBoardSound_307 ?_
      obtain ⟨y40, ey40, hf⟩ := vv_lt hf
      refine vi_istore (L' := [(10, .int y40), (0, .ref p0), (1, .int x1), (2, .int x2), (5, .int x5), (6, .int x6), (7, .int x7), (9, .int x9)]) dL_isBoardSound_310 (by decide) (by rw [ey40]; rfl) ?_
      refine vi_iload 7 dL_isBoardSound_312 rfl ?_
      refine vi_aload_n 1 dL_isBoardSound_314 rfl rfl ?_
      refine vi_iload 4 dL_isBoardSound_315 rfl ?_
      refine vi_iconst (v := (1 : Int32)) dL_isBoardSound_317 (by decide) ?_
      obtain ⟨u41, hu41, hf⟩ := vv_bd hf
      refine vi_callV (As := [.int x5, .int (1 : Int32)]) (st := [.int x9]) (t_X4_worstCell n p0 x5 (1 : Int32) u39.2 u41 h0 hu41) rfl yo_X4_worstCell wm_L_32 wi_X4_worstCell ws_X4_worstCell wI_X4 wc_X4_worstCell (vv_bb_o h0) rfl ⟨Nat.le_of_ble_eq_true rfl, Nat.le_of_ble_eq_true rfl⟩ (vv_rm0 rfl rfl) (Nat.le_of_ble_eq_true rfl) rfl rfl dL_isBoardSound_318 ?_
      refine vi_icmp_gt 376 dL_isBoardSound_321 (by decide) (fun c42 => ?_) (fun c42 => ?_)
      · rw [if_pos c42] at hf
        refine vi_iconst (v := (0 : Int32)) dL_isBoardSound_376 (by decide) ?_
        obtain rfl := Option.some.inj hf
        exact vi_ret (v := some (.int (0 : Int32))) rfl ⟨dL_isBoardSound_377, .boolean, rfl, rfl⟩ ⟨rfl, rfl, rfl⟩
      · rw [if_neg c42] at hf
        refine vi_iload 5 dL_isBoardSound_324 rfl ?_
        refine vi_if_eq 348 dL_isBoardSound_326 (by decide) (fun c43 => ?_) (fun c43 => ?_)
        · rw [if_pos c43] at hf
          refine vi_sub (L' := [(0, .ref p0), (1, .int x1), (2, .int x2), (5, .int x5), (10, .int y40)]) [1, 2, 3, 4, 0] rfl ?_
          exact t_L_isBoardSound_348 n k126 u hk126 p0 x1 x2 x5 y40 u41.2 h0 hf
        · rw [if_neg c43] at hf
          refine vi_iload 7 dL_isBoardSound_329 rfl ?_
          refine vi_aload_n 1 dL_isBoardSound_331 rfl rfl ?_
          refine vi_iload 4 dL_isBoardSound_332 rfl ?_
          refine vi_iconst (v := (1 : Int32)) dL_isBoardSound_334 (by decide) ?_
          obtain ⟨u49, hu49, hf⟩ := vv_bd hf
          refine vi_callV (As := [.int x5, .int (1 : Int32)]) (st := [.int x9]) (t_X4_worstCell n p0 x5 (1 : Int32) u41.2 u49 h0 hu49) rfl yo_X4_worstCell wm_L_32 wi_X4_worstCell ws_X4_worstCell wI_X4 wc_X4_worstCell (vv_bb_o h0) rfl ⟨Nat.le_of_ble_eq_true rfl, Nat.le_of_ble_eq_true rfl⟩ (vv_rm0 rfl rfl) (Nat.le_of_ble_eq_true rfl) rfl rfl dL_isBoardSound_335 ?_
          refine vi_icmp_ne 348 dL_isBoardSound_338 (by decide) (fun c50 => ?_) (fun c50 => ?_)
          · rw [if_neg c50] at hf
            refine vi_sub (L' := [(0, .ref p0), (1, .int x1), (2, .int x2), (5, .int x5), (10, .int y40)]) [1, 2, 3, 4, 0] rfl ?_
            exact t_L_isBoardSound_348 n k126 u hk126 p0 x1 x2 x5 y40 u49.2 h0 hf
          · rw [if_pos c50] at hf
            refine vi_sub (L' := [(0, .ref p0), (1, .int x1), (2, .int x2), (5, .int x5), (7, .int x7), (10, .int y40)]) [1, 2, 3, 4, 6, 0] rfl ?_
            exact t_L_isBoardSound_341 n k126 u hk126 p0 x1 x2 x5 x7 y40 u49.2 h0 hf
    · rw [if_neg c38] at hf
      refine vi_iload 6 dL_isBoardSound_268 rfl ?_
      refine vi_iload 4 dL_isBoardSound_270 rfl ?_
      refine vi_if_eq 293 dL_isBoardSound_272 (by decide) (fun c52 => ?_) (fun c52 => ?_)
      · rw [if_pos c52] at hf
        refine vi_sub (L' := [(0, .ref p0), (1, .int x1), (2, .int x2), (5, .int x5), (6, .int x6), (7, .int x7), (10, .int x10)]) [0, 1, 2, 3, 4, 5, 7] rfl ?_
        exact t_L_isBoardSound_293 n k126 (f_L_isBoardSound_258 n k126 k) u hk126 ih p0 x1 x2 x5 x6 x7 x10 x9 u37.2 h0 hf
      · rw [if_neg c52] at hf
        refine vi_aload_n 0 dL_isBoardSound_275 rfl rfl ?_
        refine vi_iload 7 dL_isBoardSound_276 rfl ?_
        refine vi_iload 3 dL_isBoardSound_278 rfl ?_
        refine vi_iconst (v := (0 : Int32)) dL_isBoardSound_280 (by decide) ?_
        obtain ⟨u55, hu55, hf⟩ := vv_bd hf
        refine vi_callV (As := [.int x10, .int x5, .int (0 : Int32)]) (st := [.int x9]) (t_X4_fault n p0 x10 x5 (0 : Int32) u37.2 u55 h0 hu55) rfl yo_X4_fault wm_L_28 wi_X4_fault ws_X4_fault wI_X4 wc_X4_fault (vv_bb_o h0) rfl ⟨Nat.le_of_ble_eq_true rfl, Nat.le_of_ble_eq_true rfl⟩ (vv_rm0 rfl rfl) (Nat.le_of_ble_eq_true rfl) rfl rfl dL_isBoardSound_281 ?_
        refine vi_iload 5 dL_isBoardSound_284 rfl ?_
        refine vi_icmp_ne 293 dL_isBoardSound_286 (by decide) (fun c56 => ?_) (fun c56 => ?_)
        · rw [if_neg c56] at hf
          refine vi_sub (L' := [(0, .ref p0), (1, .int x1), (2, .int x2), (5, .int x5), (6, .int x6), (7, .int x7), (10, .int x10)]) [0, 1, 2, 3, 4, 5, 7] rfl ?_
          exact t_L_isBoardSound_293 n k126 (f_L_isBoardSound_258 n k126 k) u hk126 ih p0 x1 x2 x5 x6 x7 x10 x9 u55.2 h0 hf
        · rw [if_pos c56] at hf
          refine vi_iconst (v := (1 : Int32)) dL_isBoardSound_289 (by decide) ?_
          refine vi_goto 294 dL_isBoardSound_290 (by decide) ?_
          refine vi_sub (L' := [(0, .ref p0), (1, .int x1), (2, .int x2), (5, .int x5), (6, .int x6), (7, .int x7), (10, .int x10)]) [0, 1, 2, 3, 4, 5, 7] rfl ?_
          exact t_L_isBoardSound_294 n k126 (f_L_isBoardSound_258 n k126 k) u hk126 ih p0 x1 x2 x5 x6 x7 x10 x9 (1 : Int32) u55.2 h0 hf
set_option maxRecDepth 20000 in
theorem t_L_isBoardSound_252 {S : List vv_Sh} (n : Nat) (k126 : Nat → Int32 → Int32 → Int32 → vv_M → Option (Int32 × vv_M)) (u : Int32 × vv_M) (hk126 : ∀ (p0 : Nat) (x1 : Int32) (x2 : Int32) (x5 : Int32) (M : vv_M) (h0 : vv_bb S p0) (hf : k126 p0 x1 x2 x5 M = some u), vv_V [] yL_isBoardSound.cls yL_isBoardSound.name cL_isBoardSound 11 (some .boolean) (vv_R 3 0 0) S.length (vv_sz S) (vv_fi S u) 126 [(0, .ref p0), (1, .int x1), (2, .int x2), (5, .int x5)] [] S M) (p0 : Nat) (x1 : Int32) (x2 : Int32) (x5 : Int32) (x6 : Int32) (x7 : Int32) (M : vv_M) (h0 : vv_bb S p0) (hf : f_L_isBoardSound_252 n k126 p0 x1 x2 x5 x6 x7 M = some u) : vv_V [] yL_isBoardSound.cls yL_isBoardSound.name cL_isBoardSound 11 (some .boolean) (vv_R 3 0 0) S.length (vv_sz S) (vv_fi S u) 252 [(0, .ref p0), (1, .int x1), (2, .int x2), (5, .int x5), (6, .int x6), (7, .int x7)] [] S M := by
  unfold f_L_isBoardSound_252 at hf
  refine vi_iconst (v := (0 : Int32)) dL_isBoardSound_252 (by decide) ?_
  refine vi_istore (L' := [(9, .int (0 : Int32)), (0, .ref p0), (1, .int x1), (2, .int x2), (5, .int x5), (6, .int x6), (7, .int x7)]) dL_isBoardSound_253 (by decide) rfl ?_
  refine vi_iconst (v := (0 : Int32)) dL_isBoardSound_255 (by decide) ?_
  refine vi_istore (L' := [(10, .int (0 : Int32)), (9, .int (0 : Int32)), (0, .ref p0), (1, .int x1), (2, .int x2), (5, .int x5), (6, .int x6), (7, .int x7)]) dL_isBoardSound_256 (by decide) rfl ?_
  refine vi_sub (L' := [(0, .ref p0), (1, .int x1), (2, .int x2), (5, .int x5), (6, .int x6), (7, .int x7), (9, .int (0 : Int32)), (10, .int (0 : Int32))]) [2, 3, 4, 5, 6, 7, 1, 0] rfl ?_
  exact t_L_isBoardSound_258 n k126 u hk126 n p0 x1 x2 x5 x6 x7 (0 : Int32) (0 : Int32) M h0 hf
set_option maxRecDepth 20000 in
theorem t_L_isBoardSound_202 {S : List vv_Sh} (n : Nat) (k126 : Nat → Int32 → Int32 → Int32 → vv_M → Option (Int32 × vv_M)) (u : Int32 × vv_M) (hk126 : ∀ (p0 : Nat) (x1 : Int32) (x2 : Int32) (x5 : Int32) (M : vv_M) (h0 : vv_bb S p0) (hf : k126 p0 x1 x2 x5 M = some u), vv_V [] yL_isBoardSound.cls yL_isBoardSound.name cL_isBoardSound 11 (some .boolean) (vv_R 3 0 0) S.length (vv_sz S) (vv_fi S u) 126 [(0, .ref p0), (1, .int x1), (2, .int x2), (5, .int x5)] [] S M) (p0 : Nat) (x1 : Int32) (x2 : Int32) (x5 : Int32) (x6 : Int32) (x7 : Int32) (x8 : Int32) (s0 : Int32) (s1 : Int32) (M : vv_M) (h0 : vv_bb S p0) (hf : f_L_isBoardSound_202 n k126 p0 x1 x2 x5 x6 x7 x8 s0 s1 M = some u) : vv_V [] yL_isBoardSound.cls yL_isBoardSound.name cL_isBoardSound 11 (some .boolean) (vv_R 3 0 0) S.length (vv_sz S) (vv_fi S u) 202 [(0, .ref p0), (1, .int x1), (2, .int x2), (5, .int x5), (6, .int x6), (7, .int x7), (8, .int x8)] [.int s1, .int s0] S M := by
  unfold f_L_isBoardSound_202 at hf
  refine vi_icmp_ne 250 dL_isBoardSound_202 (by decide) (fun c32 => ?_) (fun c32 => ?_)
  · rw [if_neg c32] at hf
    refine vi_iconst (v := (0 : Int32)) dL_isBoardSound_250 (by decide) ?_
    obtain rfl := Option.some.inj hf
    exact vi_ret (v := some (.int (0 : Int32))) rfl ⟨dL_isBoardSound_251, .boolean, rfl, rfl⟩ ⟨rfl, rfl, rfl⟩
  · rw [if_pos c32] at hf
    refine vi_iload 6 dL_isBoardSound_205 rfl ?_
    refine vi_aload_n 0 dL_isBoardSound_207 rfl rfl ?_
    refine vi_iconst (v := (0 : Int32)) dL_isBoardSound_208 (by decide) ?_
    obtain ⟨u33, hu33, hf⟩ := vv_bd hf
    refine vi_callV (As := [.int (0 : Int32)]) (st := [.int x8]) (t_X4_count n p0 (0 : Int32) M u33 h0 hu33) rfl yo_X4_count wm_L_12 wi_X4_count ws_X4_count wI_X4 wc_X4_count (vv_bb_o h0) rfl ⟨Nat.le_of_ble_eq_true rfl, Nat.le_of_ble_eq_true rfl⟩ (vv_rm0 rfl rfl) (Nat.le_of_ble_eq_true rfl) rfl rfl dL_isBoardSound_209 ?_
    refine vi_icmp_ge 250 dL_isBoardSound_212 (by decide) (fun c34 => ?_) (fun c34 => ?_)
    · rw [if_pos c34] at hf
      refine vi_iconst (v := (0 : Int32)) dL_isBoardSound_250 (by decide) ?_
      obtain rfl := Option.some.inj hf
      exact vi_ret (v := some (.int (0 : Int32))) rfl ⟨dL_isBoardSound_251, .boolean, rfl, rfl⟩ ⟨rfl, rfl, rfl⟩
    · rw [if_neg c34] at hf
      refine vi_iload 5 dL_isBoardSound_215 rfl ?_
      refine vi_bipush (v := (48 : Int32)) dL_isBoardSound_217 (by decide) ?_
      refine vi_icmp_gt 250 dL_isBoardSound_219 (by decide) (fun c35 => ?_) (fun c35 => ?_)
      · rw [if_pos c35] at hf
        refine vi_iconst (v := (0 : Int32)) dL_isBoardSound_250 (by decide) ?_
        obtain rfl := Option.some.inj hf
        exact vi_ret (v := some (.int (0 : Int32))) rfl ⟨dL_isBoardSound_251, .boolean, rfl, rfl⟩ ⟨rfl, rfl, rfl⟩
      · rw [if_neg c35] at hf
        refine vi_iload 3 dL_isBoardSound_222 rfl ?_
        refine vi_iconst (v := (2 : Int32)) dL_isBoardSound_224 (by decide) ?_
        refine vi_icmp_le 252 dL_isBoardSound_225 (by decide) (fun c36 => ?_) (fun c36 => ?_)
        · rw [if_pos c36] at hf
          refine vi_sub (L' := [(0, .ref p0), (1, .int x1), (2, .int x2), (5, .int x5), (6, .int x6), (7, .int x7)]) [0, 1, 2, 3, 4, 5] rfl ?_
          exact t_L_isBoardSound_252 n k126 u hk126 p0 x1 x2 x5 x6 x7 u33.2 h0 hf
        · rw [if_neg c36] at hf
          refine vi_iload 4 dL_isBoardSound_228 rfl ?_
          refine vi_if_eq 252 dL_isBoardSound_230 (by decide) (fun c57 => ?_) (fun c57 => ?_)
          · rw [if_pos c57] at hf
            refine vi_sub (L' := [(0, .ref p0), (1, .int x1), (2, .int x2), (5, .int x5), (6, .int x6), (7, .int x7)]) [0, 1, 2, 3, 4, 5] rfl ?_
            exact t_L_isBoardSound_252 n k126 u hk126 p0 x1 x2 x5 x6 x7 u33.2 h0 hf
          · rw [if_neg c57] at hf
            refine vi_iload_n 2 dL_isBoardSound_233 rfl rfl ?_
            refine vi_iconst (v := (1 : Int32)) dL_isBoardSound_234 (by decide) ?_
            refine vi_icmp_ne 250 dL_isBoardSound_235 (by decide) (fun c58 => ?_) (fun c58 => ?_)
            · rw [if_neg c58] at hf
              refine vi_iconst (v := (0 : Int32)) dL_isBoardSound_250 (by decide) ?_
              obtain rfl := Option.some.inj hf
              exact vi_ret (v := some (.int (0 : Int32))) rfl ⟨dL_isBoardSound_251, .boolean, rfl, rfl⟩ ⟨rfl, rfl, rfl⟩
            · rw [if_pos c58] at hf
              refine vi_iload 6 dL_isBoardSound_238 rfl ?_
              refine vi_aload_n 0 dL_isBoardSound_240 rfl rfl ?_
              refine vi_iload_n 1 dL_isBoardSound_241 rfl rfl ?_
              refine vi_bipush (v := (10 : Int32)) dL_isBoardSound_242 (by decide) ?_
              obtain ⟨u59, hu59, hf⟩ := vv_bd hf
              refine vi_callV (As := [.int x1, .int (10 : Int32)]) (st := [.int x8]) (t_X4_board n p0 x1 (10 : Int32) u33.2 u59 h0 hu59) rfl yo_X4_board wm_L_25 wi_X4_board ws_X4_board wI_X4 wc_X4_board (vv_bb_o h0) rfl ⟨Nat.le_of_ble_eq_true rfl, Nat.le_of_ble_eq_true rfl⟩ (vv_rm0 rfl rfl) (Nat.le_of_ble_eq_true rfl) rfl rfl dL_isBoardSound_244 ?_
              refine vi_icmp_eq 252 dL_isBoardSound_247 (by decide) (fun c60 => ?_) (fun c60 => ?_)
              · rw [if_pos c60] at hf
                refine vi_sub (L' := [(0, .ref p0), (1, .int x1), (2, .int x2), (5, .int x5), (6, .int x6), (7, .int x7)]) [0, 1, 2, 3, 4, 5] rfl ?_
                exact t_L_isBoardSound_252 n k126 u hk126 p0 x1 x2 x5 x6 x7 u59.2 h0 hf
              · rw [if_neg c60] at hf
                refine vi_iconst (v := (0 : Int32)) dL_isBoardSound_250 (by decide) ?_
                obtain rfl := Option.some.inj hf
                exact vi_ret (v := some (.int (0 : Int32))) rfl ⟨dL_isBoardSound_251, .boolean, rfl, rfl⟩ ⟨rfl, rfl, rfl⟩
set_option maxRecDepth 20000 in
theorem t_L_isBoardSound_187 {S : List vv_Sh} (n : Nat) (k126 : Nat → Int32 → Int32 → Int32 → vv_M → Option (Int32 × vv_M)) (u : Int32 × vv_M) (hk126 : ∀ (p0 : Nat) (x1 : Int32) (x2 : Int32) (x5 : Int32) (M : vv_M) (h0 : vv_bb S p0) (hf : k126 p0 x1 x2 x5 M = some u), vv_V [] yL_isBoardSound.cls yL_isBoardSound.name cL_isBoardSound 11 (some .boolean) (vv_R 3 0 0) S.length (vv_sz S) (vv_fi S u) 126 [(0, .ref p0), (1, .int x1), (2, .int x2), (5, .int x5)] [] S M) (p0 : Nat) (x1 : Int32) (x2 : Int32) (x5 : Int32) (x6 : Int32) (x7 : Int32) (x8 : Int32) (s0 : Int32) (s1 : Int32) (M : vv_M) (h0 : vv_bb S p0) (hf : f_L_isBoardSound_187 n k126 p0 x1 x2 x5 x6 x7 x8 s0 s1 M = some u) : vv_V [] yL_isBoardSound.cls yL_isBoardSound.name cL_isBoardSound 11 (some .boolean) (vv_R 3 0 0) S.length (vv_sz S) (vv_fi S u) 187 [(0, .ref p0), (1, .int x1), (2, .int x2), (5, .int x5), (6, .int x6), (7, .int x7), (8, .int x8)] [.int s1, .int s0] S M := by
  unfold f_L_isBoardSound_187 at hf
  refine vi_icmp_ne 250 dL_isBoardSound_187 (by decide) (fun c30 => ?_) (fun c30 => ?_)
  · rw [if_neg c30] at hf
    refine vi_iconst (v := (0 : Int32)) dL_isBoardSound_250 (by decide) ?_
    obtain rfl := Option.some.inj hf
    exact vi_ret (v := some (.int (0 : Int32))) rfl ⟨dL_isBoardSound_251, .boolean, rfl, rfl⟩ ⟨rfl, rfl, rfl⟩
  · rw [if_pos c30] at hf
    refine vi_iload 4 dL_isBoardSound_190 rfl ?_
    refine vi_iload 6 dL_isBoardSound_192 rfl ?_
    refine vi_if_lt 201 dL_isBoardSound_194 (by decide) (fun c31 => ?_) (fun c31 => ?_)
    · rw [if_pos c31] at hf
      refine vi_iconst (v := (0 : Int32)) dL_isBoardSound_201 (by decide) ?_
      exact t_L_isBoardSound_202 n k126 u hk126 p0 x1 x2 x5 x6 x7 x8 x6 (0 : Int32) M h0 hf
    · rw [if_neg c31] at hf
      refine vi_iconst (v := (1 : Int32)) dL_isBoardSound_197 (by decide) ?_
      refine vi_goto 202 dL_isBoardSound_198 (by decide) ?_
      exact t_L_isBoardSound_202 n k126 u hk126 p0 x1 x2 x5 x6 x7 x8 x6 (1 : Int32) M h0 hf
set_option maxRecDepth 20000 in
theorem t_L_isBoardSound_175 {S : List vv_Sh} (n : Nat) (k126 : Nat → Int32 → Int32 → Int32 → vv_M → Option (Int32 × vv_M)) (u : Int32 × vv_M) (hk126 : ∀ (p0 : Nat) (x1 : Int32) (x2 : Int32) (x5 : Int32) (M : vv_M) (h0 : vv_bb S p0) (hf : k126 p0 x1 x2 x5 M = some u), vv_V [] yL_isBoardSound.cls yL_isBoardSound.name cL_isBoardSound 11 (some .boolean) (vv_R 3 0 0) S.length (vv_sz S) (vv_fi S u) 126 [(0, .ref p0), (1, .int x1), (2, .int x2), (5, .int x5)] [] S M) (p0 : Nat) (x1 : Int32) (x2 : Int32) (x5 : Int32) (x6 : Int32) (x7 : Int32) (x8 : Int32) (M : vv_M) (h0 : vv_bb S p0) (hf : f_L_isBoardSound_175 n k126 p0 x1 x2 x5 x6 x7 x8 M = some u) : vv_V [] yL_isBoardSound.cls yL_isBoardSound.name cL_isBoardSound 11 (some .boolean) (vv_R 3 0 0) S.length (vv_sz S) (vv_fi S u) 175 [(0, .ref p0), (1, .int x1), (2, .int x2), (5, .int x5), (6, .int x6), (7, .int x7), (8, .int x8)] [] S M := by
  unfold f_L_isBoardSound_175 at hf
  refine vi_iload 4 dL_isBoardSound_175 rfl ?_
  refine vi_iload 5 dL_isBoardSound_177 rfl ?_
  refine vi_if_lt 186 dL_isBoardSound_179 (by decide) (fun c29 => ?_) (fun c29 => ?_)
  · rw [if_pos c29] at hf
    refine vi_iconst (v := (0 : Int32)) dL_isBoardSound_186 (by decide) ?_
    exact t_L_isBoardSound_187 n k126 u hk126 p0 x1 x2 x5 x6 x7 x8 x6 (0 : Int32) M h0 hf
  · rw [if_neg c29] at hf
    refine vi_iconst (v := (1 : Int32)) dL_isBoardSound_182 (by decide) ?_
    refine vi_goto 187 dL_isBoardSound_183 (by decide) ?_
    exact t_L_isBoardSound_187 n k126 u hk126 p0 x1 x2 x5 x6 x7 x8 x6 (1 : Int32) M h0 hf
set_option maxRecDepth 20000 in
theorem t_L_isBoardSound_153 {S : List vv_Sh} (n : Nat) (k126 : Nat → Int32 → Int32 → Int32 → vv_M → Option (Int32 × vv_M)) (u : Int32 × vv_M) (hk126 : ∀ (p0 : Nat) (x1 : Int32) (x2 : Int32) (x5 : Int32) (M : vv_M) (h0 : vv_bb S p0) (hf : k126 p0 x1 x2 x5 M = some u), vv_V [] yL_isBoardSound.cls yL_isBoardSound.name cL_isBoardSound 11 (some .boolean) (vv_R 3 0 0) S.length (vv_sz S) (vv_fi S u) 126 [(0, .ref p0), (1, .int x1), (2, .int x2), (5, .int x5)] [] S M) (p0 : Nat) (x1 : Int32) (x2 : Int32) (x5 : Int32) (s0 : Int32) (M : vv_M) (h0 : vv_bb S p0) (hf : f_L_isBoardSound_153 n k126 p0 x1 x2 x5 s0 M = some u) : vv_V [] yL_isBoardSound.cls yL_isBoardSound.name cL_isBoardSound 11 (some .boolean) (vv_R 3 0 0) S.length (vv_sz S) (vv_fi S u) 153 [(0, .ref p0), (1, .int x1), (2, .int x2), (5, .int x5)] [.int s0] S M := by
  unfold f_L_isBoardSound_153 at hf
  refine vi_istore (L' := [(6, .int s0), (0, .ref p0), (1, .int x1), (2, .int x2), (5, .int x5)]) dL_isBoardSound_153 (by decide) rfl ?_
  refine vi_aload_n 1 dL_isBoardSound_155 rfl rfl ?_
  refine vi_iload_n 2 dL_isBoardSound_156 rfl rfl ?_
  refine vi_iload 4 dL_isBoardSound_157 rfl ?_
  refine vi_iconst (v := (0 : Int32)) dL_isBoardSound_159 (by decide) ?_
  obtain ⟨u25, hu25, hf⟩ := vv_bd hf
  refine vi_callV (As := [.int x1, .int x5, .int (0 : Int32)]) (st := []) (t_X4_fault n p0 x1 x5 (0 : Int32) M u25 h0 hu25) rfl yo_X4_fault wm_L_28 wi_X4_fault ws_X4_fault wI_X4 wc_X4_fault (vv_bb_o h0) rfl ⟨Nat.le_of_ble_eq_true rfl, Nat.le_of_ble_eq_true rfl⟩ (vv_rm0 rfl rfl) (Nat.le_of_ble_eq_true rfl) rfl rfl dL_isBoardSound_160 ?_
  obtain ⟨y26, ey26, hf⟩ := vv_lt hf
  refine vi_istore (L' := [(7, .int y26), (6, .int s0), (0, .ref p0), (1, .int x1), (2, .int x2), (5, .int x5)]) dL_isBoardSound_163 (by decide) (by rw [ey26]; rfl) ?_
  refine vi_aload_n 2 dL_isBoardSound_165 rfl rfl ?_
  refine vi_iload_n 3 dL_isBoardSound_166 rfl rfl ?_
  refine vi_iload 5 dL_isBoardSound_167 rfl ?_
  refine vi_iconst (v := (1 : Int32)) dL_isBoardSound_169 (by decide) ?_
  obtain ⟨u27, hu27, hf⟩ := vv_bd hf
  refine vi_callV (As := [.int x1, .int x5, .int (1 : Int32)]) (st := []) (t_X4_fault n p0 x1 x5 (1 : Int32) u25.2 u27 h0 hu27) rfl yo_X4_fault wm_L_28 wi_X4_fault ws_X4_fault wI_X4 wc_X4_fault (vv_bb_o h0) rfl ⟨Nat.le_of_ble_eq_true rfl, Nat.le_of_ble_eq_true rfl⟩ (vv_rm0 rfl rfl) (Nat.le_of_ble_eq_true rfl) rfl rfl dL_isBoardSound_170 ?_
  obtain ⟨y28, ey28, hf⟩ := vv_lt hf
  refine vi_istore (L' := [(8, .int y28), (7, .int y26), (6, .int s0), (0, .ref p0), (1, .int x1), (2, .int x2), (5, .int x5)]) dL_isBoardSound_173 (by decide) (by rw [ey28]; rfl) ?_
  refine vi_sub (L' := [(0, .ref p0), (1, .int x1), (2, .int x2), (5, .int x5), (6, .int s0), (7, .int y26), (8, .int y28)]) [3, 4, 5, 6, 2, 1, 0] rfl ?_
  exact t_L_isBoardSound_175 n k126 u hk126 p0 x1 x2 x5 s0 y26 y28 u27.2 h0 hf
set_option maxRecDepth 20000 in
theorem t_L_isBoardSound_126 {S : List vv_Sh} (n : Nat)  (u : Int32 × vv_M)  : ∀ (k : Nat) (p0 : Nat) (x1 : Int32) (x2 : Int32) (x5 : Int32) (M : vv_M) (h0 : vv_bb S p0) (hf : f_L_isBoardSound_126 n  k p0 x1 x2 x5 M = some u), vv_V [] yL_isBoardSound.cls yL_isBoardSound.name cL_isBoardSound 11 (some .boolean) (vv_R 3 0 0) S.length (vv_sz S) (vv_fi S u) 126 [(0, .ref p0), (1, .int x1), (2, .int x2), (5, .int x5)] [] S M := by
  intro k
  induction k with
  | zero =>
    intro p0 x1 x2 x5 M h0 hf
    exact absurd (show (none : Option (Int32 × vv_M)) = some u from hf) (by simp)
  | succ k ih =>
    intro p0 x1 x2 x5 M h0 hf
    rw [f_L_isBoardSound_126.eq_2] at hf
    refine vi_iload 3 dL_isBoardSound_126 rfl ?_
    refine vi_iconst (v := (5 : Int32)) dL_isBoardSound_128 (by decide) ?_
    refine vi_icmp_ge 384 dL_isBoardSound_129 (by decide) (fun c22 => ?_) (fun c22 => ?_)
    · rw [if_pos c22] at hf
      refine vi_iconst (v := (1 : Int32)) dL_isBoardSound_384 (by decide) ?_
      obtain rfl := Option.some.inj hf
      exact vi_ret (v := some (.int (1 : Int32))) rfl ⟨dL_isBoardSound_385, .boolean, rfl, rfl⟩ ⟨rfl, rfl, rfl⟩
    · rw [if_neg c22] at hf
      refine vi_aload_n 0 dL_isBoardSound_132 rfl rfl ?_
      refine vi_iload_n 1 dL_isBoardSound_133 rfl rfl ?_
      refine vi_bipush (v := (8 : Int32)) dL_isBoardSound_134 (by decide) ?_
      obtain ⟨u23, hu23, hf⟩ := vv_bd hf
      refine vi_callV (As := [.int x1, .int (8 : Int32)]) (st := []) (t_X4_board n p0 x1 (8 : Int32) M u23 h0 hu23) rfl yo_X4_board wm_L_25 wi_X4_board ws_X4_board wI_X4 wc_X4_board (vv_bb_o h0) rfl ⟨Nat.le_of_ble_eq_true rfl, Nat.le_of_ble_eq_true rfl⟩ (vv_rm0 rfl rfl) (Nat.le_of_ble_eq_true rfl) rfl rfl dL_isBoardSound_136 ?_
      refine vi_iload 3 dL_isBoardSound_139 rfl ?_
      refine vi_ishr dL_isBoardSound_141 ?_
      refine vi_iconst (v := (1 : Int32)) dL_isBoardSound_142 (by decide) ?_
      refine vi_iand dL_isBoardSound_143 ?_
      refine vi_iconst (v := (1 : Int32)) dL_isBoardSound_144 (by decide) ?_
      refine vi_icmp_ne 152 dL_isBoardSound_145 (by decide) (fun c24 => ?_) (fun c24 => ?_)
      · rw [if_neg c24] at hf
        refine vi_iconst (v := (0 : Int32)) dL_isBoardSound_152 (by decide) ?_
        exact t_L_isBoardSound_153 n (f_L_isBoardSound_126 n k) u ih p0 x1 x2 x5 (0 : Int32) u23.2 h0 hf
      · rw [if_pos c24] at hf
        refine vi_iconst (v := (1 : Int32)) dL_isBoardSound_148 (by decide) ?_
        refine vi_goto 153 dL_isBoardSound_149 (by decide) ?_
        exact t_L_isBoardSound_153 n (f_L_isBoardSound_126 n k) u ih p0 x1 x2 x5 (1 : Int32) u23.2 h0 hf
set_option maxRecDepth 20000 in
theorem t_L_isBoardSound_118 {S : List vv_Sh} (n : Nat)  (u : Int32 × vv_M)  (p0 : Nat) (x1 : Int32) (x2 : Int32) (s0 : Int32) (s1 : Int32) (M : vv_M) (h0 : vv_bb S p0) (hf : f_L_isBoardSound_118 n  p0 x1 x2 s0 s1 M = some u) : vv_V [] yL_isBoardSound.cls yL_isBoardSound.name cL_isBoardSound 11 (some .boolean) (vv_R 3 0 0) S.length (vv_sz S) (vv_fi S u) 118 [(0, .ref p0), (1, .int x1), (2, .int x2)] [.int s1, .int s0] S M := by
  unfold f_L_isBoardSound_118 at hf
  refine vi_icmp_eq 123 dL_isBoardSound_118 (by decide) (fun c21 => ?_) (fun c21 => ?_)
  · rw [if_pos c21] at hf
    refine vi_iconst (v := (0 : Int32)) dL_isBoardSound_123 (by decide) ?_
    refine vi_istore (L' := [(5, .int (0 : Int32)), (0, .ref p0), (1, .int x1), (2, .int x2)]) dL_isBoardSound_124 (by decide) rfl ?_
    refine vi_sub (L' := [(0, .ref p0), (1, .int x1), (2, .int x2), (5, .int (0 : Int32))]) [1, 2, 3, 0] rfl ?_
    exact t_L_isBoardSound_126 n  u  n p0 x1 x2 (0 : Int32) M h0 hf
  · rw [if_neg c21] at hf
    refine vi_iconst (v := (0 : Int32)) dL_isBoardSound_121 (by decide) ?_
    obtain rfl := Option.some.inj hf
    exact vi_ret (v := some (.int (0 : Int32))) rfl ⟨dL_isBoardSound_122, .boolean, rfl, rfl⟩ ⟨rfl, rfl, rfl⟩
set_option maxRecDepth 20000 in
theorem t_L_isBoardSound_103 {S : List vv_Sh} (n : Nat)  (u : Int32 × vv_M)  (p0 : Nat) (x1 : Int32) (x2 : Int32) (s0 : Int32) (M : vv_M) (h0 : vv_bb S p0) (hf : f_L_isBoardSound_103 n  p0 x1 x2 s0 M = some u) : vv_V [] yL_isBoardSound.cls yL_isBoardSound.name cL_isBoardSound 11 (some .boolean) (vv_R 3 0 0) S.length (vv_sz S) (vv_fi S u) 103 [(0, .ref p0), (1, .int x1), (2, .int x2)] [.int s0] S M := by
  unfold f_L_isBoardSound_103 at hf
  refine vi_aload_n 0 dL_isBoardSound_103 rfl rfl ?_
  refine vi_iload_n 1 dL_isBoardSound_104 rfl rfl ?_
  refine vi_bipush (v := (10 : Int32)) dL_isBoardSound_105 (by decide) ?_
  obtain ⟨u19, hu19, hf⟩ := vv_bd hf
  refine vi_callV (As := [.int x1, .int (10 : Int32)]) (st := [.int s0]) (t_X4_board n p0 x1 (10 : Int32) M u19 h0 hu19) rfl yo_X4_board wm_L_25 wi_X4_board ws_X4_board wI_X4 wc_X4_board (vv_bb_o h0) rfl ⟨Nat.le_of_ble_eq_true rfl, Nat.le_of_ble_eq_true rfl⟩ (vv_rm0 rfl rfl) (Nat.le_of_ble_eq_true rfl) rfl rfl dL_isBoardSound_107 ?_
  refine vi_if_lt 117 dL_isBoardSound_110 (by decide) (fun c20 => ?_) (fun c20 => ?_)
  · rw [if_pos c20] at hf
    refine vi_iconst (v := (0 : Int32)) dL_isBoardSound_117 (by decide) ?_
    exact t_L_isBoardSound_118 n  u  p0 x1 x2 s0 (0 : Int32) u19.2 h0 hf
  · rw [if_neg c20] at hf
    refine vi_iconst (v := (1 : Int32)) dL_isBoardSound_113 (by decide) ?_
    refine vi_goto 118 dL_isBoardSound_114 (by decide) ?_
    exact t_L_isBoardSound_118 n  u  p0 x1 x2 s0 (1 : Int32) u19.2 h0 hf
set_option maxRecDepth 20000 in
theorem t_L_isBoardSound_80 {S : List vv_Sh} (n : Nat)  (u : Int32 × vv_M)  (p0 : Nat) (x1 : Int32) (x2 : Int32) (x3 : Int32) (s0 : Int32) (s1 : Int32) (M : vv_M) (h0 : vv_bb S p0) (hf : f_L_isBoardSound_80 n  p0 x1 x2 x3 s0 s1 M = some u) : vv_V [] yL_isBoardSound.cls yL_isBoardSound.name cL_isBoardSound 11 (some .boolean) (vv_R 3 0 0) S.length (vv_sz S) (vv_fi S u) 80 [(0, .ref p0), (1, .int x1), (2, .int x2), (3, .int x3)] [.int s1, .int s0] S M := by
  unfold f_L_isBoardSound_80 at hf
  refine vi_icmp_ne 121 dL_isBoardSound_80 (by decide) (fun c15 => ?_) (fun c15 => ?_)
  · rw [if_neg c15] at hf
    refine vi_iconst (v := (0 : Int32)) dL_isBoardSound_121 (by decide) ?_
    obtain rfl := Option.some.inj hf
    exact vi_ret (v := some (.int (0 : Int32))) rfl ⟨dL_isBoardSound_122, .boolean, rfl, rfl⟩ ⟨rfl, rfl, rfl⟩
  · rw [if_pos c15] at hf
    refine vi_iload_n 3 dL_isBoardSound_83 rfl rfl ?_
    refine vi_aload_n 0 dL_isBoardSound_84 rfl rfl ?_
    refine vi_bipush (v := (6 : Int32)) dL_isBoardSound_85 (by decide) ?_
    obtain ⟨u16, hu16, hf⟩ := vv_bd hf
    refine vi_callV (As := [.int (6 : Int32)]) (st := [.int x3]) (t_X4_count n p0 (6 : Int32) M u16 h0 hu16) rfl yo_X4_count wm_L_12 wi_X4_count ws_X4_count wI_X4 wc_X4_count (vv_bb_o h0) rfl ⟨Nat.le_of_ble_eq_true rfl, Nat.le_of_ble_eq_true rfl⟩ (vv_rm0 rfl rfl) (Nat.le_of_ble_eq_true rfl) rfl rfl dL_isBoardSound_87 ?_
    refine vi_icmp_ge 121 dL_isBoardSound_90 (by decide) (fun c17 => ?_) (fun c17 => ?_)
    · rw [if_pos c17] at hf
      refine vi_iconst (v := (0 : Int32)) dL_isBoardSound_121 (by decide) ?_
      obtain rfl := Option.some.inj hf
      exact vi_ret (v := some (.int (0 : Int32))) rfl ⟨dL_isBoardSound_122, .boolean, rfl, rfl⟩ ⟨rfl, rfl, rfl⟩
    · rw [if_neg c17] at hf
      refine vi_iload_n 2 dL_isBoardSound_93 rfl rfl ?_
      refine vi_iconst (v := (1 : Int32)) dL_isBoardSound_94 (by decide) ?_
      refine vi_icmp_ne 102 dL_isBoardSound_95 (by decide) (fun c18 => ?_) (fun c18 => ?_)
      · rw [if_neg c18] at hf
        refine vi_iconst (v := (0 : Int32)) dL_isBoardSound_102 (by decide) ?_
        refine vi_sub (L' := [(0, .ref p0), (1, .int x1), (2, .int x2)]) [0, 1, 2] rfl ?_
        exact t_L_isBoardSound_103 n  u  p0 x1 x2 (0 : Int32) u16.2 h0 hf
      · rw [if_pos c18] at hf
        refine vi_iconst (v := (1 : Int32)) dL_isBoardSound_98 (by decide) ?_
        refine vi_goto 103 dL_isBoardSound_99 (by decide) ?_
        refine vi_sub (L' := [(0, .ref p0), (1, .int x1), (2, .int x2)]) [0, 1, 2] rfl ?_
        exact t_L_isBoardSound_103 n  u  p0 x1 x2 (1 : Int32) u16.2 h0 hf
set_option maxRecDepth 20000 in
theorem t_L_isBoardSound_71 {S : List vv_Sh} (n : Nat)  (u : Int32 × vv_M)  (p0 : Nat) (x1 : Int32) (x2 : Int32) (x3 : Int32) (s0 : Int32) (M : vv_M) (h0 : vv_bb S p0) (hf : f_L_isBoardSound_71 n  p0 x1 x2 x3 s0 M = some u) : vv_V [] yL_isBoardSound.cls yL_isBoardSound.name cL_isBoardSound 11 (some .boolean) (vv_R 3 0 0) S.length (vv_sz S) (vv_fi S u) 71 [(0, .ref p0), (1, .int x1), (2, .int x2), (3, .int x3)] [.int s0] S M := by
  unfold f_L_isBoardSound_71 at hf
  refine vi_iload_n 3 dL_isBoardSound_71 rfl rfl ?_
  refine vi_if_lt 79 dL_isBoardSound_72 (by decide) (fun c14 => ?_) (fun c14 => ?_)
  · rw [if_pos c14] at hf
    refine vi_iconst (v := (0 : Int32)) dL_isBoardSound_79 (by decide) ?_
    exact t_L_isBoardSound_80 n  u  p0 x1 x2 x3 s0 (0 : Int32) M h0 hf
  · rw [if_neg c14] at hf
    refine vi_iconst (v := (1 : Int32)) dL_isBoardSound_75 (by decide) ?_
    refine vi_goto 80 dL_isBoardSound_76 (by decide) ?_
    exact t_L_isBoardSound_80 n  u  p0 x1 x2 x3 s0 (1 : Int32) M h0 hf
set_option maxRecDepth 20000 in
theorem t_L_isBoardSound_22 {S : List vv_Sh} (n : Nat)  (u : Int32 × vv_M)  (p0 : Nat) (x1 : Int32) (x2 : Int32) (x3 : Int32) (x4 : Int32) (M : vv_M) (h0 : vv_bb S p0) (hf : f_L_isBoardSound_22 n  p0 x1 x2 x3 x4 M = some u) : vv_V [] yL_isBoardSound.cls yL_isBoardSound.name cL_isBoardSound 11 (some .boolean) (vv_R 3 0 0) S.length (vv_sz S) (vv_fi S u) 22 [(0, .ref p0), (1, .int x1), (2, .int x2), (3, .int x3), (4, .int x4)] [] S M := by
  unfold f_L_isBoardSound_22 at hf
  refine vi_iload 4 dL_isBoardSound_22 rfl ?_
  refine vi_bipush (v := (20 : Int32)) dL_isBoardSound_24 (by decide) ?_
  refine vi_icmp_lt 121 dL_isBoardSound_26 (by decide) (fun c7 => ?_) (fun c7 => ?_)
  · rw [if_pos c7] at hf
    refine vi_iconst (v := (0 : Int32)) dL_isBoardSound_121 (by decide) ?_
    obtain rfl := Option.some.inj hf
    exact vi_ret (v := some (.int (0 : Int32))) rfl ⟨dL_isBoardSound_122, .boolean, rfl, rfl⟩ ⟨rfl, rfl, rfl⟩
  · rw [if_neg c7] at hf
    refine vi_iload 4 dL_isBoardSound_29 rfl ?_
    refine vi_sipush (v := (300 : Int32)) dL_isBoardSound_31 (by decide) ?_
    refine vi_icmp_gt 121 dL_isBoardSound_34 (by decide) (fun c8 => ?_) (fun c8 => ?_)
    · rw [if_pos c8] at hf
      refine vi_iconst (v := (0 : Int32)) dL_isBoardSound_121 (by decide) ?_
      obtain rfl := Option.some.inj hf
      exact vi_ret (v := some (.int (0 : Int32))) rfl ⟨dL_isBoardSound_122, .boolean, rfl, rfl⟩ ⟨rfl, rfl, rfl⟩
    · rw [if_neg c8] at hf
      refine vi_aload_n 0 dL_isBoardSound_37 rfl rfl ?_
      refine vi_iload_n 1 dL_isBoardSound_38 rfl rfl ?_
      refine vi_bipush (v := (6 : Int32)) dL_isBoardSound_39 (by decide) ?_
      obtain ⟨u9, hu9, hf⟩ := vv_bd hf
      refine vi_callV (As := [.int x1, .int (6 : Int32)]) (st := []) (t_X4_board n p0 x1 (6 : Int32) M u9 h0 hu9) rfl yo_X4_board wm_L_25 wi_X4_board ws_X4_board wI_X4 wc_X4_board (vv_bb_o h0) rfl ⟨Nat.le_of_ble_eq_true rfl, Nat.le_of_ble_eq_true rfl⟩ (vv_rm0 rfl rfl) (Nat.le_of_ble_eq_true rfl) rfl rfl dL_isBoardSound_41 ?_
      refine vi_iload 4 dL_isBoardSound_44 rfl ?_
      refine vi_icmp_lt 121 dL_isBoardSound_46 (by decide) (fun c10 => ?_) (fun c10 => ?_)
      · rw [if_pos c10] at hf
        refine vi_iconst (v := (0 : Int32)) dL_isBoardSound_121 (by decide) ?_
        obtain rfl := Option.some.inj hf
        exact vi_ret (v := some (.int (0 : Int32))) rfl ⟨dL_isBoardSound_122, .boolean, rfl, rfl⟩ ⟨rfl, rfl, rfl⟩
      · rw [if_neg c10] at hf
        refine vi_aload_n 0 dL_isBoardSound_49 rfl rfl ?_
        refine vi_iload_n 1 dL_isBoardSound_50 rfl rfl ?_
        refine vi_bipush (v := (6 : Int32)) dL_isBoardSound_51 (by decide) ?_
        obtain ⟨u11, hu11, hf⟩ := vv_bd hf
        refine vi_callV (As := [.int x1, .int (6 : Int32)]) (st := []) (t_X4_board n p0 x1 (6 : Int32) u9.2 u11 h0 hu11) rfl yo_X4_board wm_L_25 wi_X4_board ws_X4_board wI_X4 wc_X4_board (vv_bb_o h0) rfl ⟨Nat.le_of_ble_eq_true rfl, Nat.le_of_ble_eq_true rfl⟩ (vv_rm0 rfl rfl) (Nat.le_of_ble_eq_true rfl) rfl rfl dL_isBoardSound_53 ?_
        refine vi_sipush (v := (300 : Int32)) dL_isBoardSound_56 (by decide) ?_
        refine vi_icmp_gt 121 dL_isBoardSound_59 (by decide) (fun c12 => ?_) (fun c12 => ?_)
        · rw [if_pos c12] at hf
          refine vi_iconst (v := (0 : Int32)) dL_isBoardSound_121 (by decide) ?_
          obtain rfl := Option.some.inj hf
          exact vi_ret (v := some (.int (0 : Int32))) rfl ⟨dL_isBoardSound_122, .boolean, rfl, rfl⟩ ⟨rfl, rfl, rfl⟩
        · rw [if_neg c12] at hf
          refine vi_iload_n 2 dL_isBoardSound_62 rfl rfl ?_
          refine vi_if_ne 70 dL_isBoardSound_63 (by decide) (fun c13 => ?_) (fun c13 => ?_)
          · rw [if_neg c13] at hf
            refine vi_iconst (v := (0 : Int32)) dL_isBoardSound_70 (by decide) ?_
            refine vi_sub (L' := [(0, .ref p0), (1, .int x1), (2, .int x2), (3, .int x3)]) [0, 1, 2, 3] rfl ?_
            exact t_L_isBoardSound_71 n  u  p0 x1 x2 x3 (0 : Int32) u11.2 h0 hf
          · rw [if_pos c13] at hf
            refine vi_iconst (v := (1 : Int32)) dL_isBoardSound_66 (by decide) ?_
            refine vi_goto 71 dL_isBoardSound_67 (by decide) ?_
            refine vi_sub (L' := [(0, .ref p0), (1, .int x1), (2, .int x2), (3, .int x3)]) [0, 1, 2, 3] rfl ?_
            exact t_L_isBoardSound_71 n  u  p0 x1 x2 x3 (1 : Int32) u11.2 h0 hf
set_option maxRecDepth 20000 in
theorem t_L_isBoardSound {S : List vv_Sh} (n : Nat) (p0 : Nat) (x1 : Int32) (M : vv_M) (u : Int32 × vv_M) (h0 : vv_bb S p0) (hf : f_L_isBoardSound n p0 x1 M = some u) : vv_C yL_isBoardSound (vv_w yL_isBoardSound cL_isBoardSound 11 (some .boolean)) (vv_R 3 0 0) [.ref p0, .int x1] S M (some (.int u.1)) S u.2 := by
  refine vv_ofV (by decide +kernel) (Nat.le_of_ble_eq_true rfl) (L := [(0, .ref p0), (1, .int x1)]) rfl rfl rfl ?_
  show vv_V [] yL_isBoardSound.cls yL_isBoardSound.name cL_isBoardSound 11 (some .boolean) (vv_R 3 0 0) S.length (vv_sz S) (vv_fi S u) 0 [(0, .ref p0), (1, .int x1)] [] S M
  unfold f_L_isBoardSound at hf
  refine vi_aload_n 0 dL_isBoardSound_0 rfl rfl ?_
  refine vi_iload_n 1 dL_isBoardSound_1 rfl rfl ?_
  refine vi_iconst (v := (2 : Int32)) dL_isBoardSound_2 (by decide) ?_
  obtain ⟨u1, hu1, hf⟩ := vv_bd hf
  refine vi_callV (As := [.int x1, .int (2 : Int32)]) (st := []) (t_X4_board n p0 x1 (2 : Int32) M u1 h0 hu1) rfl yo_X4_board wm_L_25 wi_X4_board ws_X4_board wI_X4 wc_X4_board (vv_bb_o h0) rfl ⟨Nat.le_of_ble_eq_true rfl, Nat.le_of_ble_eq_true rfl⟩ (vv_rm0 rfl rfl) (Nat.le_of_ble_eq_true rfl) rfl rfl dL_isBoardSound_3 ?_
  obtain ⟨y2, ey2, hf⟩ := vv_lt hf
  refine vi_istore_n (L' := [(2, .int y2), (0, .ref p0), (1, .int x1)]) dL_isBoardSound_6 rfl (by decide) (by rw [ey2]; rfl) ?_
  refine vi_aload_n 1 dL_isBoardSound_7 rfl rfl ?_
  refine vi_iload_n 2 dL_isBoardSound_8 rfl rfl ?_
  refine vi_iconst (v := (3 : Int32)) dL_isBoardSound_9 (by decide) ?_
  obtain ⟨u3, hu3, hf⟩ := vv_bd hf
  refine vi_callV (As := [.int x1, .int (3 : Int32)]) (st := []) (t_X4_board n p0 x1 (3 : Int32) u1.2 u3 h0 hu3) rfl yo_X4_board wm_L_25 wi_X4_board ws_X4_board wI_X4 wc_X4_board (vv_bb_o h0) rfl ⟨Nat.le_of_ble_eq_true rfl, Nat.le_of_ble_eq_true rfl⟩ (vv_rm0 rfl rfl) (Nat.le_of_ble_eq_true rfl) rfl rfl dL_isBoardSound_10 ?_
  obtain ⟨y4, ey4, hf⟩ := vv_lt hf
  refine vi_istore_n (L' := [(3, .int y4), (2, .int y2), (0, .ref p0), (1, .int x1)]) dL_isBoardSound_13 rfl (by decide) (by rw [ey4]; rfl) ?_
  refine vi_aload_n 2 dL_isBoardSound_14 rfl rfl ?_
  refine vi_iload_n 3 dL_isBoardSound_15 rfl rfl ?_
  refine vi_iconst (v := (4 : Int32)) dL_isBoardSound_16 (by decide) ?_
  obtain ⟨u5, hu5, hf⟩ := vv_bd hf
  refine vi_callV (As := [.int x1, .int (4 : Int32)]) (st := []) (t_X4_board n p0 x1 (4 : Int32) u3.2 u5 h0 hu5) rfl yo_X4_board wm_L_25 wi_X4_board ws_X4_board wI_X4 wc_X4_board (vv_bb_o h0) rfl ⟨Nat.le_of_ble_eq_true rfl, Nat.le_of_ble_eq_true rfl⟩ (vv_rm0 rfl rfl) (Nat.le_of_ble_eq_true rfl) rfl rfl dL_isBoardSound_17 ?_
  obtain ⟨y6, ey6, hf⟩ := vv_lt hf
  refine vi_istore (L' := [(4, .int y6), (3, .int y4), (2, .int y2), (0, .ref p0), (1, .int x1)]) dL_isBoardSound_20 (by decide) (by rw [ey6]; rfl) ?_
  refine vi_sub (L' := [(0, .ref p0), (1, .int x1), (2, .int y2), (3, .int y4), (4, .int y6)]) [3, 4, 2, 1, 0] rfl ?_
  exact t_L_isBoardSound_22 n  u  p0 x1 y2 y4 y6 u5.2 h0 hf
set_option maxRecDepth 20000 in
theorem t_L_isSound_329 {S : List vv_Sh} (n : Nat)  (u : Int32 × vv_M)  (p0 : Nat) (x4 : Int32) (M : vv_M) (h0 : vv_bb S p0) (hf : f_L_isSound_329 n  p0 x4 M = some u) : vv_V [] yL_isSound.cls yL_isSound.name cL_isSound 9 (some .boolean) (vv_R 4 0 0) S.length (vv_sz S) (vv_fi S u) 329 [(0, .ref p0), (4, .int x4)] [] S M := by
  unfold f_L_isSound_329 at hf
  refine vi_aload_n 0 dL_isSound_329 rfl rfl ?_
  refine vi_iconst (v := (4 : Int32)) dL_isSound_330 (by decide) ?_
  obtain ⟨u14, hu14, hf⟩ := vv_bd hf
  refine vi_callV (As := [.int (4 : Int32)]) (st := []) (t_X4_count n p0 (4 : Int32) M u14 h0 hu14) rfl yo_X4_count wm_L_12 wi_X4_count ws_X4_count wI_X4 wc_X4_count (vv_bb_o h0) rfl ⟨Nat.le_of_ble_eq_true rfl, Nat.le_of_ble_eq_true rfl⟩ (vv_rm0 rfl rfl) (Nat.le_of_ble_eq_true rfl) rfl rfl dL_isSound_331 ?_
  refine vi_iload 1 dL_isSound_334 rfl ?_
  refine vi_icmp_ne 362 dL_isSound_336 (by decide) (fun c15 => ?_) (fun c15 => ?_)
  · rw [if_neg c15] at hf
    refine vi_iconst (v := (0 : Int32)) dL_isSound_362 (by decide) ?_
    obtain rfl := Option.some.inj hf
    exact vi_ret (v := some (.int (0 : Int32))) rfl ⟨dL_isSound_363, .boolean, rfl, rfl⟩ ⟨rfl, rfl, rfl⟩
  · rw [if_pos c15] at hf
    refine vi_aload_n 0 dL_isSound_339 rfl rfl ?_
    refine vi_bipush (v := (7 : Int32)) dL_isSound_340 (by decide) ?_
    obtain ⟨u16, hu16, hf⟩ := vv_bd hf
    refine vi_callV (As := [.int (7 : Int32)]) (st := []) (t_X4_count n p0 (7 : Int32) u14.2 u16 h0 hu16) rfl yo_X4_count wm_L_12 wi_X4_count ws_X4_count wI_X4 wc_X4_count (vv_bb_o h0) rfl ⟨Nat.le_of_ble_eq_true rfl, Nat.le_of_ble_eq_true rfl⟩ (vv_rm0 rfl rfl) (Nat.le_of_ble_eq_true rfl) rfl rfl dL_isSound_342 ?_
    refine vi_if_le 362 dL_isSound_345 (by decide) (fun c17 => ?_) (fun c17 => ?_)
    · rw [if_pos c17] at hf
      refine vi_iconst (v := (0 : Int32)) dL_isSound_362 (by decide) ?_
      obtain rfl := Option.some.inj hf
      exact vi_ret (v := some (.int (0 : Int32))) rfl ⟨dL_isSound_363, .boolean, rfl, rfl⟩ ⟨rfl, rfl, rfl⟩
    · rw [if_neg c17] at hf
      refine vi_aload_n 0 dL_isSound_348 rfl rfl ?_
      refine vi_bipush (v := (7 : Int32)) dL_isSound_349 (by decide) ?_
      obtain ⟨u18, hu18, hf⟩ := vv_bd hf
      refine vi_callV (As := [.int (7 : Int32)]) (st := []) (t_X4_count n p0 (7 : Int32) u16.2 u18 h0 hu18) rfl yo_X4_count wm_L_12 wi_X4_count ws_X4_count wI_X4 wc_X4_count (vv_bb_o h0) rfl ⟨Nat.le_of_ble_eq_true rfl, Nat.le_of_ble_eq_true rfl⟩ (vv_rm0 rfl rfl) (Nat.le_of_ble_eq_true rfl) rfl rfl dL_isSound_351 ?_
      refine vi_iconst (v := (4 : Int32)) dL_isSound_354 (by decide) ?_
      refine vi_icmp_ge 362 dL_isSound_355 (by decide) (fun c19 => ?_) (fun c19 => ?_)
      · rw [if_pos c19] at hf
        refine vi_iconst (v := (0 : Int32)) dL_isSound_362 (by decide) ?_
        obtain rfl := Option.some.inj hf
        exact vi_ret (v := some (.int (0 : Int32))) rfl ⟨dL_isSound_363, .boolean, rfl, rfl⟩ ⟨rfl, rfl, rfl⟩
      · rw [if_neg c19] at hf
        refine vi_iconst (v := (1 : Int32)) dL_isSound_358 (by decide) ?_
        refine vi_goto 363 dL_isSound_359 (by decide) ?_
        obtain rfl := Option.some.inj hf
        exact vi_ret (v := some (.int (1 : Int32))) rfl ⟨dL_isSound_363, .boolean, rfl, rfl⟩ ⟨rfl, rfl, rfl⟩
set_option maxRecDepth 20000 in
theorem t_L_isSound_271 {S : List vv_Sh} (n : Nat) (k221 : Nat → Int32 → Int32 → Int32 → Int32 → Int32 → vv_M → Option (Int32 × vv_M)) (u : Int32 × vv_M) (hk221 : ∀ (p0 : Nat) (x1 : Int32) (x2 : Int32) (x3 : Int32) (x4 : Int32) (x5 : Int32) (M : vv_M) (h0 : vv_bb S p0) (hf : k221 p0 x1 x2 x3 x4 x5 M = some u), vv_V [] yL_isSound.cls yL_isSound.name cL_isSound 9 (some .boolean) (vv_R 4 0 0) S.length (vv_sz S) (vv_fi S u) 221 [(0, .ref p0), (1, .int x1), (2, .int x2), (3, .int x3), (4, .int x4), (5, .int x5)] [] S M) (p0 : Nat) (x1 : Int32) (x2 : Int32) (x3 : Int32) (x5 : Int32) (s0 : Int32) (s1 : Int32) (M : vv_M) (h0 : vv_bb S p0) (hf : f_L_isSound_271 n k221 p0 x1 x2 x3 x5 s0 s1 M = some u) : vv_V [] yL_isSound.cls yL_isSound.name cL_isSound 9 (some .boolean) (vv_R 4 0 0) S.length (vv_sz S) (vv_fi S u) 271 [(0, .ref p0), (1, .int x1), (2, .int x2), (3, .int x3), (5, .int x5)] [.int s1, .int s0] S M := by
  unfold f_L_isSound_271 at hf
  refine vi_iadd dL_isSound_271 ?_
  obtain ⟨y24, ey24, hf⟩ := vv_lt hf
  refine vi_istore (L' := [(4, .int y24), (0, .ref p0), (1, .int x1), (2, .int x2), (3, .int x3), (5, .int x5)]) dL_isSound_272 (by decide) (by rw [ey24]; rfl) ?_
  obtain ⟨y25, ey25, hf⟩ := vv_lt hf
  refine vi_iinc (v := y25) (L' := [(5, .int y25), (4, .int y24), (0, .ref p0), (1, .int x1), (2, .int x2), (3, .int x3)]) 5 dL_isSound_274 rfl (by rw [ey25]; rfl) (by decide) rfl ?_
  refine vi_goto 221 dL_isSound_277 (by decide) ?_
  refine vi_sub (L' := [(0, .ref p0), (1, .int x1), (2, .int x2), (3, .int x3), (4, .int y24), (5, .int y25)]) [2, 3, 4, 5, 1, 0] rfl ?_
  exact hk221 p0 x1 x2 x3 y24 y25 M h0 hf
set_option maxRecDepth 20000 in
theorem t_L_isSound_270 {S : List vv_Sh} (n : Nat) (k221 : Nat → Int32 → Int32 → Int32 → Int32 → Int32 → vv_M → Option (Int32 × vv_M)) (u : Int32 × vv_M) (hk221 : ∀ (p0 : Nat) (x1 : Int32) (x2 : Int32) (x3 : Int32) (x4 : Int32) (x5 : Int32) (M : vv_M) (h0 : vv_bb S p0) (hf : k221 p0 x1 x2 x3 x4 x5 M = some u), vv_V [] yL_isSound.cls yL_isSound.name cL_isSound 9 (some .boolean) (vv_R 4 0 0) S.length (vv_sz S) (vv_fi S u) 221 [(0, .ref p0), (1, .int x1), (2, .int x2), (3, .int x3), (4, .int x4), (5, .int x5)] [] S M) (p0 : Nat) (x1 : Int32) (x2 : Int32) (x3 : Int32) (x5 : Int32) (s0 : Int32) (M : vv_M) (h0 : vv_bb S p0) (hf : f_L_isSound_270 n k221 p0 x1 x2 x3 x5 s0 M = some u) : vv_V [] yL_isSound.cls yL_isSound.name cL_isSound 9 (some .boolean) (vv_R 4 0 0) S.length (vv_sz S) (vv_fi S u) 270 [(0, .ref p0), (1, .int x1), (2, .int x2), (3, .int x3), (5, .int x5)] [.int s0] S M := by
  unfold f_L_isSound_270 at hf
  refine vi_iconst (v := (0 : Int32)) dL_isSound_270 (by decide) ?_
  exact t_L_isSound_271 n k221 u hk221 p0 x1 x2 x3 x5 s0 (0 : Int32) M h0 hf
set_option maxRecDepth 20000 in
theorem t_L_isSound_221 {S : List vv_Sh} (n : Nat)  (u : Int32 × vv_M)  : ∀ (k : Nat) (p0 : Nat) (x1 : Int32) (x2 : Int32) (x3 : Int32) (x4 : Int32) (x5 : Int32) (M : vv_M) (h0 : vv_bb S p0) (hf : f_L_isSound_221 n  k p0 x1 x2 x3 x4 x5 M = some u), vv_V [] yL_isSound.cls yL_isSound.name cL_isSound 9 (some .boolean) (vv_R 4 0 0) S.length (vv_sz S) (vv_fi S u) 221 [(0, .ref p0), (1, .int x1), (2, .int x2), (3, .int x3), (4, .int x4), (5, .int x5)] [] S M := by
  intro k
  induction k with
  | zero =>
    intro p0 x1 x2 x3 x4 x5 M h0 hf
    exact absurd (show (none : Option (Int32 × vv_M)) = some u from hf) (by simp)
  | succ k ih =>
    intro p0 x1 x2 x3 x4 x5 M h0 hf
    rw [f_L_isSound_221.eq_2] at hf
    refine vi_iload 5 dL_isSound_221 rfl ?_
    refine vi_aload_n 0 dL_isSound_223 rfl rfl ?_
    refine vi_iconst (v := (1 : Int32)) dL_isSound_224 (by decide) ?_
    obtain ⟨u2, hu2, hf⟩ := vv_bd hf
    refine vi_callV (As := [.int (1 : Int32)]) (st := [.int x5]) (t_X4_count n p0 (1 : Int32) M u2 h0 hu2) rfl yo_X4_count wm_L_12 wi_X4_count ws_X4_count wI_X4 wc_X4_count (vv_bb_o h0) rfl ⟨Nat.le_of_ble_eq_true rfl, Nat.le_of_ble_eq_true rfl⟩ (vv_rm0 rfl rfl) (Nat.le_of_ble_eq_true rfl) rfl rfl dL_isSound_225 ?_
    refine vi_icmp_ge 280 dL_isSound_228 (by decide) (fun c3 => ?_) (fun c3 => ?_)
    · rw [if_pos c3] at hf
      refine vi_iload_n 3 dL_isSound_280 rfl rfl ?_
      refine vi_aload_n 0 dL_isSound_281 rfl rfl ?_
      refine vi_bipush (v := (6 : Int32)) dL_isSound_282 (by decide) ?_
      obtain ⟨u4, hu4, hf⟩ := vv_bd hf
      refine vi_callV (As := [.int (6 : Int32)]) (st := [.int x3]) (t_X4_count n p0 (6 : Int32) u2.2 u4 h0 hu4) rfl yo_X4_count wm_L_12 wi_X4_count ws_X4_count wI_X4 wc_X4_count (vv_bb_o h0) rfl ⟨Nat.le_of_ble_eq_true rfl, Nat.le_of_ble_eq_true rfl⟩ (vv_rm0 rfl rfl) (Nat.le_of_ble_eq_true rfl) rfl rfl dL_isSound_284 ?_
      refine vi_icmp_ne 362 dL_isSound_287 (by decide) (fun c5 => ?_) (fun c5 => ?_)
      · rw [if_neg c5] at hf
        refine vi_iconst (v := (0 : Int32)) dL_isSound_362 (by decide) ?_
        obtain rfl := Option.some.inj hf
        exact vi_ret (v := some (.int (0 : Int32))) rfl ⟨dL_isSound_363, .boolean, rfl, rfl⟩ ⟨rfl, rfl, rfl⟩
      · rw [if_pos c5] at hf
        refine vi_iload_n 1 dL_isSound_290 rfl rfl ?_
        refine vi_aload_n 0 dL_isSound_291 rfl rfl ?_
        refine vi_iconst (v := (2 : Int32)) dL_isSound_292 (by decide) ?_
        obtain ⟨u6, hu6, hf⟩ := vv_bd hf
        refine vi_callV (As := [.int (2 : Int32)]) (st := [.int x1]) (t_X4_count n p0 (2 : Int32) u4.2 u6 h0 hu6) rfl yo_X4_count wm_L_12 wi_X4_count ws_X4_count wI_X4 wc_X4_count (vv_bb_o h0) rfl ⟨Nat.le_of_ble_eq_true rfl, Nat.le_of_ble_eq_true rfl⟩ (vv_rm0 rfl rfl) (Nat.le_of_ble_eq_true rfl) rfl rfl dL_isSound_293 ?_
        refine vi_icmp_ne 362 dL_isSound_296 (by decide) (fun c7 => ?_) (fun c7 => ?_)
        · rw [if_neg c7] at hf
          refine vi_iconst (v := (0 : Int32)) dL_isSound_362 (by decide) ?_
          obtain rfl := Option.some.inj hf
          exact vi_ret (v := some (.int (0 : Int32))) rfl ⟨dL_isSound_363, .boolean, rfl, rfl⟩ ⟨rfl, rfl, rfl⟩
        · rw [if_pos c7] at hf
          refine vi_iload_n 2 dL_isSound_299 rfl rfl ?_
          refine vi_iload_n 1 dL_isSound_300 rfl rfl ?_
          refine vi_icmp_lt 362 dL_isSound_301 (by decide) (fun c8 => ?_) (fun c8 => ?_)
          · rw [if_pos c8] at hf
            refine vi_iconst (v := (0 : Int32)) dL_isSound_362 (by decide) ?_
            obtain rfl := Option.some.inj hf
            exact vi_ret (v := some (.int (0 : Int32))) rfl ⟨dL_isSound_363, .boolean, rfl, rfl⟩ ⟨rfl, rfl, rfl⟩
          · rw [if_neg c8] at hf
            refine vi_aload_n 0 dL_isSound_304 rfl rfl ?_
            refine vi_iconst (v := (2 : Int32)) dL_isSound_305 (by decide) ?_
            obtain ⟨u9, hu9, hf⟩ := vv_bd hf
            refine vi_callV (As := [.int (2 : Int32)]) (st := []) (t_X4_count n p0 (2 : Int32) u6.2 u9 h0 hu9) rfl yo_X4_count wm_L_12 wi_X4_count ws_X4_count wI_X4 wc_X4_count (vv_bb_o h0) rfl ⟨Nat.le_of_ble_eq_true rfl, Nat.le_of_ble_eq_true rfl⟩ (vv_rm0 rfl rfl) (Nat.le_of_ble_eq_true rfl) rfl rfl dL_isSound_306 ?_
            refine vi_aload_n 0 dL_isSound_309 rfl rfl ?_
            refine vi_iconst (v := (3 : Int32)) dL_isSound_310 (by decide) ?_
            obtain ⟨u10, hu10, hf⟩ := vv_bd hf
            refine vi_callV (As := [.int (3 : Int32)]) (st := [.int u9.1]) (t_X4_count n p0 (3 : Int32) u9.2 u10 h0 hu10) rfl yo_X4_count wm_L_12 wi_X4_count ws_X4_count wI_X4 wc_X4_count (vv_bb_o h0) rfl ⟨Nat.le_of_ble_eq_true rfl, Nat.le_of_ble_eq_true rfl⟩ (vv_rm0 rfl rfl) (Nat.le_of_ble_eq_true rfl) rfl rfl dL_isSound_311 ?_
            refine vi_iadd dL_isSound_314 ?_
            refine vi_aload_n 0 dL_isSound_315 rfl rfl ?_
            refine vi_iconst (v := (5 : Int32)) dL_isSound_316 (by decide) ?_
            obtain ⟨u11, hu11, hf⟩ := vv_bd hf
            refine vi_callV (As := [.int (5 : Int32)]) (st := [.int (u9.1 + u10.1)]) (t_X4_count n p0 (5 : Int32) u10.2 u11 h0 hu11) rfl yo_X4_count wm_L_12 wi_X4_count ws_X4_count wI_X4 wc_X4_count (vv_bb_o h0) rfl ⟨Nat.le_of_ble_eq_true rfl, Nat.le_of_ble_eq_true rfl⟩ (vv_rm0 rfl rfl) (Nat.le_of_ble_eq_true rfl) rfl rfl dL_isSound_317 ?_
            refine vi_iadd dL_isSound_320 ?_
            refine vi_aload_n 0 dL_isSound_321 rfl rfl ?_
            refine vi_iconst (v := (1 : Int32)) dL_isSound_322 (by decide) ?_
            obtain ⟨u12, hu12, hf⟩ := vv_bd hf
            refine vi_callV (As := [.int (1 : Int32)]) (st := [.int ((u9.1 + u10.1) + u11.1)]) (t_X4_count n p0 (1 : Int32) u11.2 u12 h0 hu12) rfl yo_X4_count wm_L_12 wi_X4_count ws_X4_count wI_X4 wc_X4_count (vv_bb_o h0) rfl ⟨Nat.le_of_ble_eq_true rfl, Nat.le_of_ble_eq_true rfl⟩ (vv_rm0 rfl rfl) (Nat.le_of_ble_eq_true rfl) rfl rfl dL_isSound_323 ?_
            refine vi_icmp_ne 362 dL_isSound_326 (by decide) (fun c13 => ?_) (fun c13 => ?_)
            · rw [if_neg c13] at hf
              refine vi_iconst (v := (0 : Int32)) dL_isSound_362 (by decide) ?_
              obtain rfl := Option.some.inj hf
              exact vi_ret (v := some (.int (0 : Int32))) rfl ⟨dL_isSound_363, .boolean, rfl, rfl⟩ ⟨rfl, rfl, rfl⟩
            · rw [if_pos c13] at hf
              refine vi_sub (L' := [(0, .ref p0), (4, .int x4)]) [0, 4] rfl ?_
              exact t_L_isSound_329 n  u  p0 x4 u12.2 h0 hf
    · rw [if_neg c3] at hf
      refine vi_aload_n 0 dL_isSound_231 rfl rfl ?_
      refine vi_iload 5 dL_isSound_232 rfl ?_
      obtain ⟨u20, hu20, hf⟩ := vv_bd hf
      refine vi_callS (As := [.ref p0, .int x5]) (st := []) (t_L_isBoardSound n p0 x5 u2.2 u20 h0 hu20) rfl yo_L_isBoardSound wm_L_35 wi_L_isBoardSound wI_L wc_L_isBoardSound ⟨Nat.le_of_ble_eq_true rfl, Nat.le_of_ble_eq_true rfl⟩ (vv_rm0 rfl rfl) (Nat.le_of_ble_eq_true rfl) rfl rfl dL_isSound_234 ?_
      refine vi_if_ne 242 dL_isSound_237 (by decide) (fun c21 => ?_) (fun c21 => ?_)
      · rw [if_neg c21] at hf
        refine vi_iload 4 dL_isSound_242 rfl ?_
        refine vi_aload_n 0 dL_isSound_244 rfl rfl ?_
        refine vi_iload 5 dL_isSound_245 rfl ?_
        refine vi_iconst (v := (2 : Int32)) dL_isSound_247 (by decide) ?_
        obtain ⟨u22, hu22, hf⟩ := vv_bd hf
        refine vi_callV (As := [.int x5, .int (2 : Int32)]) (st := [.int x4]) (t_X4_board n p0 x5 (2 : Int32) u20.2 u22 h0 hu22) rfl yo_X4_board wm_L_25 wi_X4_board ws_X4_board wI_X4 wc_X4_board (vv_bb_o h0) rfl ⟨Nat.le_of_ble_eq_true rfl, Nat.le_of_ble_eq_true rfl⟩ (vv_rm0 rfl rfl) (Nat.le_of_ble_eq_true rfl) rfl rfl dL_isSound_248 ?_
        refine vi_iconst (v := (1 : Int32)) dL_isSound_251 (by decide) ?_
        refine vi_icmp_ne 270 dL_isSound_252 (by decide) (fun c23 => ?_) (fun c23 => ?_)
        · rw [if_neg c23] at hf
          refine vi_sub (L' := [(0, .ref p0), (1, .int x1), (2, .int x2), (3, .int x3), (5, .int x5)]) [0, 1, 2, 3, 5] rfl ?_
          exact t_L_isSound_270 n (f_L_isSound_221 n k) u ih p0 x1 x2 x3 x5 x4 u22.2 h0 hf
        · rw [if_pos c23] at hf
          refine vi_aload_n 0 dL_isSound_255 rfl rfl ?_
          refine vi_iload 5 dL_isSound_256 rfl ?_
          refine vi_bipush (v := (8 : Int32)) dL_isSound_258 (by decide) ?_
          obtain ⟨u26, hu26, hf⟩ := vv_bd hf
          refine vi_callV (As := [.int x5, .int (8 : Int32)]) (st := [.int x4]) (t_X4_board n p0 x5 (8 : Int32) u22.2 u26 h0 hu26) rfl yo_X4_board wm_L_25 wi_X4_board ws_X4_board wI_X4 wc_X4_board (vv_bb_o h0) rfl ⟨Nat.le_of_ble_eq_true rfl, Nat.le_of_ble_eq_true rfl⟩ (vv_rm0 rfl rfl) (Nat.le_of_ble_eq_true rfl) rfl rfl dL_isSound_260 ?_
          refine vi_if_ne 270 dL_isSound_263 (by decide) (fun c27 => ?_) (fun c27 => ?_)
          · rw [if_neg c27] at hf
            refine vi_sub (L' := [(0, .ref p0), (1, .int x1), (2, .int x2), (3, .int x3), (5, .int x5)]) [0, 1, 2, 3, 5] rfl ?_
            exact t_L_isSound_270 n (f_L_isSound_221 n k) u ih p0 x1 x2 x3 x5 x4 u26.2 h0 hf
          · rw [if_pos c27] at hf
            refine vi_iconst (v := (1 : Int32)) dL_isSound_266 (by decide) ?_
            refine vi_goto 271 dL_isSound_267 (by decide) ?_
            refine vi_sub (L' := [(0, .ref p0), (1, .int x1), (2, .int x2), (3, .int x3), (5, .int x5)]) [0, 1, 2, 3, 5] rfl ?_
            exact t_L_isSound_271 n (f_L_isSound_221 n k) u ih p0 x1 x2 x3 x5 x4 (1 : Int32) u26.2 h0 hf
      · rw [if_pos c21] at hf
        refine vi_iconst (v := (0 : Int32)) dL_isSound_240 (by decide) ?_
        obtain rfl := Option.some.inj hf
        exact vi_ret (v := some (.int (0 : Int32))) rfl ⟨dL_isSound_241, .boolean, rfl, rfl⟩ ⟨rfl, rfl, rfl⟩
set_option maxRecDepth 20000 in
theorem t_L_isSound_209 {S : List vv_Sh} (n : Nat) (k9 : Nat → Int32 → Int32 → Int32 → Int32 → vv_M → Option (Int32 × vv_M)) (u : Int32 × vv_M) (hk9 : ∀ (p0 : Nat) (x1 : Int32) (x2 : Int32) (x3 : Int32) (x4 : Int32) (M : vv_M) (h0 : vv_bb S p0) (hf : k9 p0 x1 x2 x3 x4 M = some u), vv_V [] yL_isSound.cls yL_isSound.name cL_isSound 9 (some .boolean) (vv_R 4 0 0) S.length (vv_sz S) (vv_fi S u) 9 [(0, .ref p0), (1, .int x1), (2, .int x2), (3, .int x3), (4, .int x4)] [] S M) (p0 : Nat) (x1 : Int32) (x2 : Int32) (x3 : Int32) (x4 : Int32) (M : vv_M) (h0 : vv_bb S p0) (hf : f_L_isSound_209 n k9 p0 x1 x2 x3 x4 M = some u) : vv_V [] yL_isSound.cls yL_isSound.name cL_isSound 9 (some .boolean) (vv_R 4 0 0) S.length (vv_sz S) (vv_fi S u) 209 [(0, .ref p0), (1, .int x1), (2, .int x2), (3, .int x3), (4, .int x4)] [] S M := by
  unfold f_L_isSound_209 at hf
  obtain ⟨y44, ey44, hf⟩ := vv_lt hf
  refine vi_iinc (v := y44) (L' := [(4, .int y44), (0, .ref p0), (1, .int x1), (2, .int x2), (3, .int x3)]) 4 dL_isSound_209 rfl (by rw [ey44]; rfl) (by decide) rfl ?_
  refine vi_goto 9 dL_isSound_212 (by decide) ?_
  refine vi_sub (L' := [(0, .ref p0), (1, .int x1), (2, .int x2), (3, .int x3), (4, .int y44)]) [1, 2, 3, 4, 0] rfl ?_
  exact hk9 p0 x1 x2 x3 y44 M h0 hf
set_option maxRecDepth 20000 in
theorem t_L_isSound_174 {S : List vv_Sh} (n : Nat) (k9 : Nat → Int32 → Int32 → Int32 → Int32 → vv_M → Option (Int32 × vv_M)) (u : Int32 × vv_M) (hk9 : ∀ (p0 : Nat) (x1 : Int32) (x2 : Int32) (x3 : Int32) (x4 : Int32) (M : vv_M) (h0 : vv_bb S p0) (hf : k9 p0 x1 x2 x3 x4 M = some u), vv_V [] yL_isSound.cls yL_isSound.name cL_isSound 9 (some .boolean) (vv_R 4 0 0) S.length (vv_sz S) (vv_fi S u) 9 [(0, .ref p0), (1, .int x1), (2, .int x2), (3, .int x3), (4, .int x4)] [] S M) (p0 : Nat) (x1 : Int32) (x2 : Int32) (x3 : Int32) (x4 : Int32) (x5 : Int32) (x6 : Int32) (M : vv_M) (h0 : vv_bb S p0) (hf : f_L_isSound_174 n k9 p0 x1 x2 x3 x4 x5 x6 M = some u) : vv_V [] yL_isSound.cls yL_isSound.name cL_isSound 9 (some .boolean) (vv_R 4 0 0) S.length (vv_sz S) (vv_fi S u) 174 [(0, .ref p0), (1, .int x1), (2, .int x2), (3, .int x3), (4, .int x4), (5, .int x5), (6, .int x6)] [] S M := by
  unfold f_L_isSound_174 at hf
  refine vi_aload_n 0 dL_isSound_174 rfl rfl ?_
  refine vi_iload 4 dL_isSound_175 rfl ?_
  refine vi_iconst (v := (3 : Int32)) dL_isSound_177 (by decide) ?_
  obtain ⟨u38, hu38, hf⟩ := vv_bd hf
  refine vi_callV (As := [.int x4, .int (3 : Int32)]) (st := []) (t_X4_zone n p0 x4 (3 : Int32) M u38 h0 hu38) rfl yo_X4_zone wm_L_18 wi_X4_zone ws_X4_zone wI_X4 wc_X4_zone (vv_bb_o h0) rfl ⟨Nat.le_of_ble_eq_true rfl, Nat.le_of_ble_eq_true rfl⟩ (vv_rm0 rfl rfl) (Nat.le_of_ble_eq_true rfl) rfl rfl dL_isSound_178 ?_
  refine vi_sipush (v := (300 : Int32)) dL_isSound_181 (by decide) ?_
  refine vi_icmp_le 189 dL_isSound_184 (by decide) (fun c39 => ?_) (fun c39 => ?_)
  · rw [if_pos c39] at hf
    refine vi_iload_n 1 dL_isSound_189 rfl rfl ?_
    refine vi_iload 5 dL_isSound_190 rfl ?_
    refine vi_iadd dL_isSound_192 ?_
    obtain ⟨y40, ey40, hf⟩ := vv_lt hf
    refine vi_istore_n (L' := [(1, .int y40), (0, .ref p0), (2, .int x2), (3, .int x3), (4, .int x4), (5, .int x5), (6, .int x6)]) dL_isSound_193 rfl (by decide) (by rw [ey40]; rfl) ?_
    refine vi_iload_n 2 dL_isSound_194 rfl rfl ?_
    refine vi_iload 6 dL_isSound_195 rfl ?_
    refine vi_iadd dL_isSound_197 ?_
    obtain ⟨y41, ey41, hf⟩ := vv_lt hf
    refine vi_istore_n (L' := [(2, .int y41), (1, .int y40), (0, .ref p0), (3, .int x3), (4, .int x4), (5, .int x5), (6, .int x6)]) dL_isSound_198 rfl (by decide) (by rw [ey41]; rfl) ?_
    refine vi_iload_n 3 dL_isSound_199 rfl rfl ?_
    refine vi_aload_n 2 dL_isSound_200 rfl rfl ?_
    refine vi_iload 4 dL_isSound_201 rfl ?_
    refine vi_iconst (v := (0 : Int32)) dL_isSound_203 (by decide) ?_
    obtain ⟨u42, hu42, hf⟩ := vv_bd hf
    refine vi_callV (As := [.int x4, .int (0 : Int32)]) (st := [.int x3]) (t_X4_zone n p0 x4 (0 : Int32) u38.2 u42 h0 hu42) rfl yo_X4_zone wm_L_18 wi_X4_zone ws_X4_zone wI_X4 wc_X4_zone (vv_bb_o h0) rfl ⟨Nat.le_of_ble_eq_true rfl, Nat.le_of_ble_eq_true rfl⟩ (vv_rm0 rfl rfl) (Nat.le_of_ble_eq_true rfl) rfl rfl dL_isSound_204 ?_
    refine vi_iadd dL_isSound_207 ?_
    obtain ⟨y43, ey43, hf⟩ := vv_lt hf
    refine vi_istore_n (L' := [(3, .int y43), (2, .int y41), (1, .int y40), (0, .ref p0), (4, .int x4), (5, .int x5), (6, .int x6)]) dL_isSound_208 rfl (by decide) (by rw [ey43]; rfl) ?_
    refine vi_sub (L' := [(0, .ref p0), (1, .int y40), (2, .int y41), (3, .int y43), (4, .int x4)]) [3, 2, 1, 0, 4] rfl ?_
    exact t_L_isSound_209 n k9 u hk9 p0 y40 y41 y43 x4 u42.2 h0 hf
  · rw [if_neg c39] at hf
    refine vi_iconst (v := (0 : Int32)) dL_isSound_187 (by decide) ?_
    obtain rfl := Option.some.inj hf
    exact vi_ret (v := some (.int (0 : Int32))) rfl ⟨dL_isSound_188, .boolean, rfl, rfl⟩ ⟨rfl, rfl, rfl⟩
set_option maxRecDepth 20000 in
theorem t_L_isSound_117 {S : List vv_Sh} (n : Nat) (k9 : Nat → Int32 → Int32 → Int32 → Int32 → vv_M → Option (Int32 × vv_M)) (k25 : Nat → Int32 → Int32 → Int32 → Int32 → Int32 → Int32 → Int32 → vv_M → Option (Int32 × vv_M)) (u : Int32 × vv_M) (hk9 : ∀ (p0 : Nat) (x1 : Int32) (x2 : Int32) (x3 : Int32) (x4 : Int32) (M : vv_M) (h0 : vv_bb S p0) (hf : k9 p0 x1 x2 x3 x4 M = some u), vv_V [] yL_isSound.cls yL_isSound.name cL_isSound 9 (some .boolean) (vv_R 4 0 0) S.length (vv_sz S) (vv_fi S u) 9 [(0, .ref p0), (1, .int x1), (2, .int x2), (3, .int x3), (4, .int x4)] [] S M) (hk25 : ∀ (p0 : Nat) (x1 : Int32) (x2 : Int32) (x3 : Int32) (x4 : Int32) (x5 : Int32) (x6 : Int32) (x7 : Int32) (M : vv_M) (h0 : vv_bb S p0) (hf : k25 p0 x1 x2 x3 x4 x5 x6 x7 M = some u), vv_V [] yL_isSound.cls yL_isSound.name cL_isSound 9 (some .boolean) (vv_R 4 0 0) S.length (vv_sz S) (vv_fi S u) 25 [(0, .ref p0), (1, .int x1), (2, .int x2), (3, .int x3), (4, .int x4), (5, .int x5), (6, .int x6), (7, .int x7)] [] S M) (p0 : Nat) (x1 : Int32) (x2 : Int32) (x3 : Int32) (x4 : Int32) (x5 : Int32) (x7 : Int32) (s0 : Int32) (s1 : Int32) (M : vv_M) (h0 : vv_bb S p0) (hf : f_L_isSound_117 n k9 k25 p0 x1 x2 x3 x4 x5 x7 s0 s1 M = some u) : vv_V [] yL_isSound.cls yL_isSound.name cL_isSound 9 (some .boolean) (vv_R 4 0 0) S.length (vv_sz S) (vv_fi S u) 117 [(0, .ref p0), (1, .int x1), (2, .int x2), (3, .int x3), (4, .int x4), (5, .int x5), (7, .int x7)] [.int s1, .int s0] S M := by
  unfold f_L_isSound_117 at hf
  refine vi_iadd dL_isSound_117 ?_
  obtain ⟨y51, ey51, hf⟩ := vv_lt hf
  refine vi_istore (L' := [(6, .int y51), (0, .ref p0), (1, .int x1), (2, .int x2), (3, .int x3), (4, .int x4), (5, .int x5), (7, .int x7)]) dL_isSound_118 (by decide) (by rw [ey51]; rfl) ?_
  obtain ⟨y52, ey52, hf⟩ := vv_lt hf
  refine vi_iinc (v := y52) (L' := [(7, .int y52), (6, .int y51), (0, .ref p0), (1, .int x1), (2, .int x2), (3, .int x3), (4, .int x4), (5, .int x5)]) 7 dL_isSound_120 rfl (by rw [ey52]; rfl) (by decide) rfl ?_
  refine vi_goto 25 dL_isSound_123 (by decide) ?_
  refine vi_sub (L' := [(0, .ref p0), (1, .int x1), (2, .int x2), (3, .int x3), (4, .int x4), (5, .int x5), (6, .int y51), (7, .int y52)]) [2, 3, 4, 5, 6, 7, 1, 0] rfl ?_
  exact hk25 p0 x1 x2 x3 x4 x5 y51 y52 M h0 hf
set_option maxRecDepth 20000 in
theorem t_L_isSound_96 {S : List vv_Sh} (n : Nat) (k9 : Nat → Int32 → Int32 → Int32 → Int32 → vv_M → Option (Int32 × vv_M)) (k25 : Nat → Int32 → Int32 → Int32 → Int32 → Int32 → Int32 → Int32 → vv_M → Option (Int32 × vv_M)) (u : Int32 × vv_M) (hk9 : ∀ (p0 : Nat) (x1 : Int32) (x2 : Int32) (x3 : Int32) (x4 : Int32) (M : vv_M) (h0 : vv_bb S p0) (hf : k9 p0 x1 x2 x3 x4 M = some u), vv_V [] yL_isSound.cls yL_isSound.name cL_isSound 9 (some .boolean) (vv_R 4 0 0) S.length (vv_sz S) (vv_fi S u) 9 [(0, .ref p0), (1, .int x1), (2, .int x2), (3, .int x3), (4, .int x4)] [] S M) (hk25 : ∀ (p0 : Nat) (x1 : Int32) (x2 : Int32) (x3 : Int32) (x4 : Int32) (x5 : Int32) (x6 : Int32) (x7 : Int32) (M : vv_M) (h0 : vv_bb S p0) (hf : k25 p0 x1 x2 x3 x4 x5 x6 x7 M = some u), vv_V [] yL_isSound.cls yL_isSound.name cL_isSound 9 (some .boolean) (vv_R 4 0 0) S.length (vv_sz S) (vv_fi S u) 25 [(0, .ref p0), (1, .int x1), (2, .int x2), (3, .int x3), (4, .int x4), (5, .int x5), (6, .int x6), (7, .int x7)] [] S M) (p0 : Nat) (x1 : Int32) (x2 : Int32) (x3 : Int32) (x4 : Int32) (x6 : Int32) (x7 : Int32) (x8 : Int32) (s0 : Int32) (s1 : Int32) (M : vv_M) (h0 : vv_bb S p0) (hf : f_L_isSound_96 n k9 k25 p0 x1 x2 x3 x4 x6 x7 x8 s0 s1 M = some u) : vv_V [] yL_isSound.cls yL_isSound.name cL_isSound 9 (some .boolean) (vv_R 4 0 0) S.length (vv_sz S) (vv_fi S u) 96 [(0, .ref p0), (1, .int x1), (2, .int x2), (3, .int x3), (4, .int x4), (6, .int x6), (7, .int x7), (8, .int x8)] [.int s1, .int s0] S M := by
  unfold f_L_isSound_96 at hf
  refine vi_iadd dL_isSound_96 ?_
  obtain ⟨y49, ey49, hf⟩ := vv_lt hf
  refine vi_istore (L' := [(5, .int y49), (0, .ref p0), (1, .int x1), (2, .int x2), (3, .int x3), (4, .int x4), (6, .int x6), (7, .int x7), (8, .int x8)]) dL_isSound_97 (by decide) (by rw [ey49]; rfl) ?_
  refine vi_iload 6 dL_isSound_99 rfl ?_
  refine vi_iload 8 dL_isSound_101 rfl ?_
  refine vi_if_eq 116 dL_isSound_103 (by decide) (fun c50 => ?_) (fun c50 => ?_)
  · rw [if_pos c50] at hf
    refine vi_iconst (v := (0 : Int32)) dL_isSound_116 (by decide) ?_
    refine vi_sub (L' := [(0, .ref p0), (1, .int x1), (2, .int x2), (3, .int x3), (4, .int x4), (5, .int y49), (7, .int x7)]) [1, 2, 3, 4, 5, 0, 7] rfl ?_
    exact t_L_isSound_117 n k9 k25 u hk9 hk25 p0 x1 x2 x3 x4 y49 x7 x6 (0 : Int32) M h0 hf
  · rw [if_neg c50] at hf
    refine vi_aload_n 1 dL_isSound_106 rfl rfl ?_
    refine vi_iload 7 dL_isSound_107 rfl ?_
    refine vi_iconst (v := (1 : Int32)) dL_isSound_109 (by decide) ?_
    obtain ⟨u53, hu53, hf⟩ := vv_bd hf
    refine vi_callV (As := [.int x7, .int (1 : Int32)]) (st := [.int x6]) (t_X4_board n p0 x7 (1 : Int32) M u53 h0 hu53) rfl yo_X4_board wm_L_25 wi_X4_board ws_X4_board wI_X4 wc_X4_board (vv_bb_o h0) rfl ⟨Nat.le_of_ble_eq_true rfl, Nat.le_of_ble_eq_true rfl⟩ (vv_rm0 rfl rfl) (Nat.le_of_ble_eq_true rfl) rfl rfl dL_isSound_110 ?_
    refine vi_goto 117 dL_isSound_113 (by decide) ?_
    refine vi_sub (L' := [(0, .ref p0), (1, .int x1), (2, .int x2), (3, .int x3), (4, .int x4), (5, .int y49), (7, .int x7)]) [1, 2, 3, 4, 5, 0, 7] rfl ?_
    exact t_L_isSound_117 n k9 k25 u hk9 hk25 p0 x1 x2 x3 x4 y49 x7 x6 u53.1 u53.2 h0 hf
set_option maxRecDepth 20000 in
theorem t_L_isSound_82 {S : List vv_Sh} (n : Nat) (k9 : Nat → Int32 → Int32 → Int32 → Int32 → vv_M → Option (Int32 × vv_M)) (k25 : Nat → Int32 → Int32 → Int32 → Int32 → Int32 → Int32 → Int32 → vv_M → Option (Int32 × vv_M)) (u : Int32 × vv_M) (hk9 : ∀ (p0 : Nat) (x1 : Int32) (x2 : Int32) (x3 : Int32) (x4 : Int32) (M : vv_M) (h0 : vv_bb S p0) (hf : k9 p0 x1 x2 x3 x4 M = some u), vv_V [] yL_isSound.cls yL_isSound.name cL_isSound 9 (some .boolean) (vv_R 4 0 0) S.length (vv_sz S) (vv_fi S u) 9 [(0, .ref p0), (1, .int x1), (2, .int x2), (3, .int x3), (4, .int x4)] [] S M) (hk25 : ∀ (p0 : Nat) (x1 : Int32) (x2 : Int32) (x3 : Int32) (x4 : Int32) (x5 : Int32) (x6 : Int32) (x7 : Int32) (M : vv_M) (h0 : vv_bb S p0) (hf : k25 p0 x1 x2 x3 x4 x5 x6 x7 M = some u), vv_V [] yL_isSound.cls yL_isSound.name cL_isSound 9 (some .boolean) (vv_R 4 0 0) S.length (vv_sz S) (vv_fi S u) 25 [(0, .ref p0), (1, .int x1), (2, .int x2), (3, .int x3), (4, .int x4), (5, .int x5), (6, .int x6), (7, .int x7)] [] S M) (p0 : Nat) (x1 : Int32) (x2 : Int32) (x3 : Int32) (x4 : Int32) (x5 : Int32) (x6 : Int32) (x7 : Int32) (s0 : Int32) (M : vv_M) (h0 : vv_bb S p0) (hf : f_L_isSound_82 n k9 k25 p0 x1 x2 x3 x4 x5 x6 x7 s0 M = some u) : vv_V [] yL_isSound.cls yL_isSound.name cL_isSound 9 (some .boolean) (vv_R 4 0 0) S.length (vv_sz S) (vv_fi S u) 82 [(0, .ref p0), (1, .int x1), (2, .int x2), (3, .int x3), (4, .int x4), (5, .int x5), (6, .int x6), (7, .int x7)] [.int s0] S M := by
  unfold f_L_isSound_82 at hf
  refine vi_istore (L' := [(8, .int s0), (0, .ref p0), (1, .int x1), (2, .int x2), (3, .int x3), (4, .int x4), (5, .int x5), (6, .int x6), (7, .int x7)]) dL_isSound_82 (by decide) rfl ?_
  refine vi_iload 6 dL_isSound_84 rfl ?_
  refine vi_iload 0 dL_isSound_86 rfl ?_
  refine vi_if_eq 95 dL_isSound_88 (by decide) (fun c48 => ?_) (fun c48 => ?_)
  · rw [if_pos c48] at hf
    refine vi_iconst (v := (0 : Int32)) dL_isSound_95 (by decide) ?_
    refine vi_sub (L' := [(0, .ref p0), (1, .int x1), (2, .int x2), (3, .int x3), (4, .int x4), (6, .int x6), (7, .int x7), (8, .int s0)]) [1, 2, 3, 4, 5, 7, 8, 0] rfl ?_
    exact t_L_isSound_96 n k9 k25 u hk9 hk25 p0 x1 x2 x3 x4 x6 x7 s0 x5 (0 : Int32) M h0 hf
  · rw [if_neg c48] at hf
    refine vi_iconst (v := (1 : Int32)) dL_isSound_91 (by decide) ?_
    refine vi_goto 96 dL_isSound_92 (by decide) ?_
    refine vi_sub (L' := [(0, .ref p0), (1, .int x1), (2, .int x2), (3, .int x3), (4, .int x4), (6, .int x6), (7, .int x7), (8, .int s0)]) [1, 2, 3, 4, 5, 7, 8, 0] rfl ?_
    exact t_L_isSound_96 n k9 k25 u hk9 hk25 p0 x1 x2 x3 x4 x6 x7 s0 x5 (1 : Int32) M h0 hf
set_option maxRecDepth 20000 in
theorem t_L_isSound_81 {S : List vv_Sh} (n : Nat) (k9 : Nat → Int32 → Int32 → Int32 → Int32 → vv_M → Option (Int32 × vv_M)) (k25 : Nat → Int32 → Int32 → Int32 → Int32 → Int32 → Int32 → Int32 → vv_M → Option (Int32 × vv_M)) (u : Int32 × vv_M) (hk9 : ∀ (p0 : Nat) (x1 : Int32) (x2 : Int32) (x3 : Int32) (x4 : Int32) (M : vv_M) (h0 : vv_bb S p0) (hf : k9 p0 x1 x2 x3 x4 M = some u), vv_V [] yL_isSound.cls yL_isSound.name cL_isSound 9 (some .boolean) (vv_R 4 0 0) S.length (vv_sz S) (vv_fi S u) 9 [(0, .ref p0), (1, .int x1), (2, .int x2), (3, .int x3), (4, .int x4)] [] S M) (hk25 : ∀ (p0 : Nat) (x1 : Int32) (x2 : Int32) (x3 : Int32) (x4 : Int32) (x5 : Int32) (x6 : Int32) (x7 : Int32) (M : vv_M) (h0 : vv_bb S p0) (hf : k25 p0 x1 x2 x3 x4 x5 x6 x7 M = some u), vv_V [] yL_isSound.cls yL_isSound.name cL_isSound 9 (some .boolean) (vv_R 4 0 0) S.length (vv_sz S) (vv_fi S u) 25 [(0, .ref p0), (1, .int x1), (2, .int x2), (3, .int x3), (4, .int x4), (5, .int x5), (6, .int x6), (7, .int x7)] [] S M) (p0 : Nat) (x1 : Int32) (x2 : Int32) (x3 : Int32) (x4 : Int32) (x5 : Int32) (x6 : Int32) (x7 : Int32) (M : vv_M) (h0 : vv_bb S p0) (hf : f_L_isSound_81 n k9 k25 p0 x1 x2 x3 x4 x5 x6 x7 M = some u) : vv_V [] yL_isSound.cls yL_isSound.name cL_isSound 9 (some .boolean) (vv_R 4 0 0) S.length (vv_sz S) (vv_fi S u) 81 [(0, .ref p0), (1, .int x1), (2, .int x2), (3, .int x3), (4, .int x4), (5, .int x5), (6, .int x6), (7, .int x7)] [] S M := by
  unfold f_L_isSound_81 at hf
  refine vi_iconst (v := (0 : Int32)) dL_isSound_81 (by decide) ?_
  exact t_L_isSound_82 n k9 k25 u hk9 hk25 p0 x1 x2 x3 x4 x5 x6 x7 (0 : Int32) M h0 hf
set_option maxRecDepth 20000 in
theorem t_L_isSound_77 {S : List vv_Sh} (n : Nat) (k9 : Nat → Int32 → Int32 → Int32 → Int32 → vv_M → Option (Int32 × vv_M)) (k25 : Nat → Int32 → Int32 → Int32 → Int32 → Int32 → Int32 → Int32 → vv_M → Option (Int32 × vv_M)) (u : Int32 × vv_M) (hk9 : ∀ (p0 : Nat) (x1 : Int32) (x2 : Int32) (x3 : Int32) (x4 : Int32) (M : vv_M) (h0 : vv_bb S p0) (hf : k9 p0 x1 x2 x3 x4 M = some u), vv_V [] yL_isSound.cls yL_isSound.name cL_isSound 9 (some .boolean) (vv_R 4 0 0) S.length (vv_sz S) (vv_fi S u) 9 [(0, .ref p0), (1, .int x1), (2, .int x2), (3, .int x3), (4, .int x4)] [] S M) (hk25 : ∀ (p0 : Nat) (x1 : Int32) (x2 : Int32) (x3 : Int32) (x4 : Int32) (x5 : Int32) (x6 : Int32) (x7 : Int32) (M : vv_M) (h0 : vv_bb S p0) (hf : k25 p0 x1 x2 x3 x4 x5 x6 x7 M = some u), vv_V [] yL_isSound.cls yL_isSound.name cL_isSound 9 (some .boolean) (vv_R 4 0 0) S.length (vv_sz S) (vv_fi S u) 25 [(0, .ref p0), (1, .int x1), (2, .int x2), (3, .int x3), (4, .int x4), (5, .int x5), (6, .int x6), (7, .int x7)] [] S M) (p0 : Nat) (x1 : Int32) (x2 : Int32) (x3 : Int32) (x4 : Int32) (x5 : Int32) (x6 : Int32) (x7 : Int32) (M : vv_M) (h0 : vv_bb S p0) (hf : f_L_isSound_77 n k9 k25 p0 x1 x2 x3 x4 x5 x6 x7 M = some u) : vv_V [] yL_isSound.cls yL_isSound.name cL_isSound 9 (some .boolean) (vv_R 4 0 0) S.length (vv_sz S) (vv_fi S u) 77 [(0, .ref p0), (1, .int x1), (2, .int x2), (3, .int x3), (4, .int x4), (5, .int x5), (6, .int x6), (7, .int x7)] [] S M := by
  unfold f_L_isSound_77 at hf
  refine vi_iconst (v := (1 : Int32)) dL_isSound_77 (by decide) ?_
  refine vi_goto 82 dL_isSound_78 (by decide) ?_
  exact t_L_isSound_82 n k9 k25 u hk9 hk25 p0 x1 x2 x3 x4 x5 x6 x7 (1 : Int32) M h0 hf
set_option maxRecDepth 20000 in
theorem t_L_isSound_25 {S : List vv_Sh} (n : Nat) (k9 : Nat → Int32 → Int32 → Int32 → Int32 → vv_M → Option (Int32 × vv_M)) (u : Int32 × vv_M) (hk9 : ∀ (p0 : Nat) (x1 : Int32) (x2 : Int32) (x3 : Int32) (x4 : Int32) (M : vv_M) (h0 : vv_bb S p0) (hf : k9 p0 x1 x2 x3 x4 M = some u), vv_V [] yL_isSound.cls yL_isSound.name cL_isSound 9 (some .boolean) (vv_R 4 0 0) S.length (vv_sz S) (vv_fi S u) 9 [(0, .ref p0), (1, .int x1), (2, .int x2), (3, .int x3), (4, .int x4)] [] S M) : ∀ (k : Nat) (p0 : Nat) (x1 : Int32) (x2 : Int32) (x3 : Int32) (x4 : Int32) (x5 : Int32) (x6 : Int32) (x7 : Int32) (M : vv_M) (h0 : vv_bb S p0) (hf : f_L_isSound_25 n k9 k p0 x1 x2 x3 x4 x5 x6 x7 M = some u), vv_V [] yL_isSound.cls yL_isSound.name cL_isSound 9 (some .boolean) (vv_R 4 0 0) S.length (vv_sz S) (vv_fi S u) 25 [(0, .ref p0), (1, .int x1), (2, .int x2), (3, .int x3), (4, .int x4), (5, .int x5), (6, .int x6), (7, .int x7)] [] S M := by
  intro k
  induction k with
  | zero =>
    intro p0 x1 x2 x3 x4 x5 x6 x7 M h0 hf
    exact absurd (show (none : Option (Int32 × vv_M)) = some u from hf) (by simp)
  | succ k ih =>
    intro p0 x1 x2 x3 x4 x5 x6 x7 M h0 hf
    rw [f_L_isSound_25.eq_2] at hf
    refine vi_iload 7 dL_isSound_25 rfl ?_
    refine vi_aload_n 0 dL_isSound_27 rfl rfl ?_
    refine vi_iconst (v := (1 : Int32)) dL_isSound_28 (by decide) ?_
    obtain ⟨u28, hu28, hf⟩ := vv_bd hf
    refine vi_callV (As := [.int (1 : Int32)]) (st := [.int x7]) (t_X4_count n p0 (1 : Int32) M u28 h0 hu28) rfl yo_X4_count wm_L_12 wi_X4_count ws_X4_count wI_X4 wc_X4_count (vv_bb_o h0) rfl ⟨Nat.le_of_ble_eq_true rfl, Nat.le_of_ble_eq_true rfl⟩ (vv_rm0 rfl rfl) (Nat.le_of_ble_eq_true rfl) rfl rfl dL_isSound_29 ?_
    refine vi_icmp_ge 126 dL_isSound_32 (by decide) (fun c29 => ?_) (fun c29 => ?_)
    · rw [if_pos c29] at hf
      refine vi_aload_n 0 dL_isSound_126 rfl rfl ?_
      refine vi_iload 4 dL_isSound_127 rfl ?_
      refine vi_iconst (v := (5 : Int32)) dL_isSound_129 (by decide) ?_
      obtain ⟨u30, hu30, hf⟩ := vv_bd hf
      refine vi_callV (As := [.int x4, .int (5 : Int32)]) (st := []) (t_X4_zone n p0 x4 (5 : Int32) u28.2 u30 h0 hu30) rfl yo_X4_zone wm_L_18 wi_X4_zone ws_X4_zone wI_X4 wc_X4_zone (vv_bb_o h0) rfl ⟨Nat.le_of_ble_eq_true rfl, Nat.le_of_ble_eq_true rfl⟩ (vv_rm0 rfl rfl) (Nat.le_of_ble_eq_true rfl) rfl rfl dL_isSound_130 ?_
      refine vi_iload 5 dL_isSound_133 rfl ?_
      refine vi_icmp_ne 187 dL_isSound_135 (by decide) (fun c31 => ?_) (fun c31 => ?_)
      · rw [if_neg c31] at hf
        refine vi_iconst (v := (0 : Int32)) dL_isSound_187 (by decide) ?_
        obtain rfl := Option.some.inj hf
        exact vi_ret (v := some (.int (0 : Int32))) rfl ⟨dL_isSound_188, .boolean, rfl, rfl⟩ ⟨rfl, rfl, rfl⟩
      · rw [if_pos c31] at hf
        refine vi_aload_n 0 dL_isSound_138 rfl rfl ?_
        refine vi_iload 4 dL_isSound_139 rfl ?_
        refine vi_bipush (v := (6 : Int32)) dL_isSound_141 (by decide) ?_
        obtain ⟨u32, hu32, hf⟩ := vv_bd hf
        refine vi_callV (As := [.int x4, .int (6 : Int32)]) (st := []) (t_X4_zone n p0 x4 (6 : Int32) u30.2 u32 h0 hu32) rfl yo_X4_zone wm_L_18 wi_X4_zone ws_X4_zone wI_X4 wc_X4_zone (vv_bb_o h0) rfl ⟨Nat.le_of_ble_eq_true rfl, Nat.le_of_ble_eq_true rfl⟩ (vv_rm0 rfl rfl) (Nat.le_of_ble_eq_true rfl) rfl rfl dL_isSound_143 ?_
        refine vi_iload 6 dL_isSound_146 rfl ?_
        refine vi_icmp_ne 187 dL_isSound_148 (by decide) (fun c33 => ?_) (fun c33 => ?_)
        · rw [if_neg c33] at hf
          refine vi_iconst (v := (0 : Int32)) dL_isSound_187 (by decide) ?_
          obtain rfl := Option.some.inj hf
          exact vi_ret (v := some (.int (0 : Int32))) rfl ⟨dL_isSound_188, .boolean, rfl, rfl⟩ ⟨rfl, rfl, rfl⟩
        · rw [if_pos c33] at hf
          refine vi_aload_n 0 dL_isSound_151 rfl rfl ?_
          refine vi_iload 4 dL_isSound_152 rfl ?_
          refine vi_iconst (v := (4 : Int32)) dL_isSound_154 (by decide) ?_
          obtain ⟨u34, hu34, hf⟩ := vv_bd hf
          refine vi_callV (As := [.int x4, .int (4 : Int32)]) (st := []) (t_X4_zone n p0 x4 (4 : Int32) u32.2 u34 h0 hu34) rfl yo_X4_zone wm_L_18 wi_X4_zone ws_X4_zone wI_X4 wc_X4_zone (vv_bb_o h0) rfl ⟨Nat.le_of_ble_eq_true rfl, Nat.le_of_ble_eq_true rfl⟩ (vv_rm0 rfl rfl) (Nat.le_of_ble_eq_true rfl) rfl rfl dL_isSound_155 ?_
          refine vi_iload_n 3 dL_isSound_158 rfl rfl ?_
          refine vi_icmp_ne 187 dL_isSound_159 (by decide) (fun c35 => ?_) (fun c35 => ?_)
          · rw [if_neg c35] at hf
            refine vi_iconst (v := (0 : Int32)) dL_isSound_187 (by decide) ?_
            obtain rfl := Option.some.inj hf
            exact vi_ret (v := some (.int (0 : Int32))) rfl ⟨dL_isSound_188, .boolean, rfl, rfl⟩ ⟨rfl, rfl, rfl⟩
          · rw [if_pos c35] at hf
            refine vi_aload_n 0 dL_isSound_162 rfl rfl ?_
            refine vi_iload 4 dL_isSound_163 rfl ?_
            refine vi_iconst (v := (3 : Int32)) dL_isSound_165 (by decide) ?_
            obtain ⟨u36, hu36, hf⟩ := vv_bd hf
            refine vi_callV (As := [.int x4, .int (3 : Int32)]) (st := []) (t_X4_zone n p0 x4 (3 : Int32) u34.2 u36 h0 hu36) rfl yo_X4_zone wm_L_18 wi_X4_zone ws_X4_zone wI_X4 wc_X4_zone (vv_bb_o h0) rfl ⟨Nat.le_of_ble_eq_true rfl, Nat.le_of_ble_eq_true rfl⟩ (vv_rm0 rfl rfl) (Nat.le_of_ble_eq_true rfl) rfl rfl dL_isSound_166 ?_
            refine vi_bipush (v := (20 : Int32)) dL_isSound_169 (by decide) ?_
            refine vi_icmp_lt 187 dL_isSound_171 (by decide) (fun c37 => ?_) (fun c37 => ?_)
            · rw [if_pos c37] at hf
              refine vi_iconst (v := (0 : Int32)) dL_isSound_187 (by decide) ?_
              obtain rfl := Option.some.inj hf
              exact vi_ret (v := some (.int (0 : Int32))) rfl ⟨dL_isSound_188, .boolean, rfl, rfl⟩ ⟨rfl, rfl, rfl⟩
            · rw [if_neg c37] at hf
              refine vi_sub (L' := [(0, .ref p0), (1, .int x1), (2, .int x2), (3, .int x3), (4, .int x4), (5, .int x5), (6, .int x6)]) [0, 1, 2, 3, 4, 5, 6] rfl ?_
              exact t_L_isSound_174 n k9 u hk9 p0 x1 x2 x3 x4 x5 x6 u36.2 h0 hf
    · rw [if_neg c29] at hf
      refine vi_aload_n 0 dL_isSound_35 rfl rfl ?_
      refine vi_iload 7 dL_isSound_36 rfl ?_
      refine vi_iconst (v := (3 : Int32)) dL_isSound_38 (by decide) ?_
      obtain ⟨u45, hu45, hf⟩ := vv_bd hf
      refine vi_callV (As := [.int x7, .int (3 : Int32)]) (st := []) (t_X4_board n p0 x7 (3 : Int32) u28.2 u45 h0 hu45) rfl yo_X4_board wm_L_25 wi_X4_board ws_X4_board wI_X4 wc_X4_board (vv_bb_o h0) rfl ⟨Nat.le_of_ble_eq_true rfl, Nat.le_of_ble_eq_true rfl⟩ (vv_rm0 rfl rfl) (Nat.le_of_ble_eq_true rfl) rfl rfl dL_isSound_39 ?_
      refine vi_aload_n 0 dL_isSound_42 rfl rfl ?_
      refine vi_iload 4 dL_isSound_43 rfl ?_
      refine vi_iconst (v := (4 : Int32)) dL_isSound_45 (by decide) ?_
      obtain ⟨u46, hu46, hf⟩ := vv_bd hf
      refine vi_callV (As := [.int x4, .int (4 : Int32)]) (st := [.int u45.1]) (t_X4_zone n p0 x4 (4 : Int32) u45.2 u46 h0 hu46) rfl yo_X4_zone wm_L_18 wi_X4_zone ws_X4_zone wI_X4 wc_X4_zone (vv_bb_o h0) rfl ⟨Nat.le_of_ble_eq_true rfl, Nat.le_of_ble_eq_true rfl⟩ (vv_rm0 rfl rfl) (Nat.le_of_ble_eq_true rfl) rfl rfl dL_isSound_46 ?_
      refine vi_icmp_lt 81 dL_isSound_49 (by decide) (fun c47 => ?_) (fun c47 => ?_)
      · rw [if_pos c47] at hf
        exact t_L_isSound_81 n k9 (f_L_isSound_25 n k9 k) u hk9 ih p0 x1 x2 x3 x4 x5 x6 x7 u46.2 h0 hf
      · rw [if_neg c47] at hf
        refine vi_aload_n 0 dL_isSound_52 rfl rfl ?_
        refine vi_iload 7 dL_isSound_53 rfl ?_
        refine vi_iconst (v := (3 : Int32)) dL_isSound_55 (by decide) ?_
        obtain ⟨u54, hu54, hf⟩ := vv_bd hf
        refine vi_callV (As := [.int x7, .int (3 : Int32)]) (st := []) (t_X4_board n p0 x7 (3 : Int32) u46.2 u54 h0 hu54) rfl yo_X4_board wm_L_25 wi_X4_board ws_X4_board wI_X4 wc_X4_board (vv_bb_o h0) rfl ⟨Nat.le_of_ble_eq_true rfl, Nat.le_of_ble_eq_true rfl⟩ (vv_rm0 rfl rfl) (Nat.le_of_ble_eq_true rfl) rfl rfl dL_isSound_56 ?_
        refine vi_aload_n 0 dL_isSound_59 rfl rfl ?_
        refine vi_iload 4 dL_isSound_60 rfl ?_
        refine vi_iconst (v := (4 : Int32)) dL_isSound_62 (by decide) ?_
        obtain ⟨u55, hu55, hf⟩ := vv_bd hf
        refine vi_callV (As := [.int x4, .int (4 : Int32)]) (st := [.int u54.1]) (t_X4_zone n p0 x4 (4 : Int32) u54.2 u55 h0 hu55) rfl yo_X4_zone wm_L_18 wi_X4_zone ws_X4_zone wI_X4 wc_X4_zone (vv_bb_o h0) rfl ⟨Nat.le_of_ble_eq_true rfl, Nat.le_of_ble_eq_true rfl⟩ (vv_rm0 rfl rfl) (Nat.le_of_ble_eq_true rfl) rfl rfl dL_isSound_63 ?_
        refine vi_aload_n 0 dL_isSound_66 rfl rfl ?_
        refine vi_iload 4 dL_isSound_67 rfl ?_
        refine vi_iconst (v := (0 : Int32)) dL_isSound_69 (by decide) ?_
        obtain ⟨u56, hu56, hf⟩ := vv_bd hf
        refine vi_callV (As := [.int x4, .int (0 : Int32)]) (st := [.int u55.1, .int u54.1]) (t_X4_zone n p0 x4 (0 : Int32) u55.2 u56 h0 hu56) rfl yo_X4_zone wm_L_18 wi_X4_zone ws_X4_zone wI_X4 wc_X4_zone (vv_bb_o h0) rfl ⟨Nat.le_of_ble_eq_true rfl, Nat.le_of_ble_eq_true rfl⟩ (vv_rm0 rfl rfl) (Nat.le_of_ble_eq_true rfl) rfl rfl dL_isSound_70 ?_
        refine vi_iadd dL_isSound_73 ?_
        refine vi_icmp_ge 81 dL_isSound_74 (by decide) (fun c57 => ?_) (fun c57 => ?_)
        · rw [if_pos c57] at hf
          exact t_L_isSound_81 n k9 (f_L_isSound_25 n k9 k) u hk9 ih p0 x1 x2 x3 x4 x5 x6 x7 u56.2 h0 hf
        · rw [if_neg c57] at hf
          exact t_L_isSound_77 n k9 (f_L_isSound_25 n k9 k) u hk9 ih p0 x1 x2 x3 x4 x5 x6 x7 u56.2 h0 hf
set_option maxRecDepth 20000 in
theorem t_L_isSound_9 {S : List vv_Sh} (n : Nat)  (u : Int32 × vv_M)  : ∀ (k : Nat) (p0 : Nat) (x1 : Int32) (x2 : Int32) (x3 : Int32) (x4 : Int32) (M : vv_M) (h0 : vv_bb S p0) (hf : f_L_isSound_9 n  k p0 x1 x2 x3 x4 M = some u), vv_V [] yL_isSound.cls yL_isSound.name cL_isSound 9 (some .boolean) (vv_R 4 0 0) S.length (vv_sz S) (vv_fi S u) 9 [(0, .ref p0), (1, .int x1), (2, .int x2), (3, .int x3), (4, .int x4)] [] S M := by
  intro k
  induction k with
  | zero =>
    intro p0 x1 x2 x3 x4 M h0 hf
    exact absurd (show (none : Option (Int32 × vv_M)) = some u from hf) (by simp)
  | succ k ih =>
    intro p0 x1 x2 x3 x4 M h0 hf
    rw [f_L_isSound_9.eq_2] at hf
    refine vi_iload 4 dL_isSound_9 rfl ?_
    refine vi_bipush (v := (6 : Int32)) dL_isSound_11 (by decide) ?_
    refine vi_icmp_ge 215 dL_isSound_13 (by decide) (fun c1 => ?_) (fun c1 => ?_)
    · rw [if_pos c1] at hf
      refine vi_iconst (v := (0 : Int32)) dL_isSound_215 (by decide) ?_
      refine vi_istore (L' := [(4, .int (0 : Int32)), (0, .ref p0), (1, .int x1), (2, .int x2), (3, .int x3)]) dL_isSound_216 (by decide) rfl ?_
      refine vi_iconst (v := (0 : Int32)) dL_isSound_218 (by decide) ?_
      refine vi_istore (L' := [(5, .int (0 : Int32)), (4, .int (0 : Int32)), (0, .ref p0), (1, .int x1), (2, .int x2), (3, .int x3)]) dL_isSound_219 (by decide) rfl ?_
      refine vi_sub (L' := [(0, .ref p0), (1, .int x1), (2, .int x2), (3, .int x3), (4, .int (0 : Int32)), (5, .int (0 : Int32))]) [2, 3, 4, 5, 1, 0] rfl ?_
      exact t_L_isSound_221 n  u  n p0 x1 x2 x3 (0 : Int32) (0 : Int32) M h0 hf
    · rw [if_neg c1] at hf
      refine vi_iconst (v := (0 : Int32)) dL_isSound_16 (by decide) ?_
      refine vi_istore (L' := [(5, .int (0 : Int32)), (0, .ref p0), (1, .int x1), (2, .int x2), (3, .int x3), (4, .int x4)]) dL_isSound_17 (by decide) rfl ?_
      refine vi_iconst (v := (0 : Int32)) dL_isSound_19 (by decide) ?_
      refine vi_istore (L' := [(6, .int (0 : Int32)), (5, .int (0 : Int32)), (0, .ref p0), (1, .int x1), (2, .int x2), (3, .int x3), (4, .int x4)]) dL_isSound_20 (by decide) rfl ?_
      refine vi_iconst (v := (0 : Int32)) dL_isSound_22 (by decide) ?_
      refine vi_istore (L' := [(7, .int (0 : Int32)), (6, .int (0 : Int32)), (5, .int (0 : Int32)), (0, .ref p0), (1, .int x1), (2, .int x2), (3, .int x3), (4, .int x4)]) dL_isSound_23 (by decide) rfl ?_
      refine vi_sub (L' := [(0, .ref p0), (1, .int x1), (2, .int x2), (3, .int x3), (4, .int x4), (5, .int (0 : Int32)), (6, .int (0 : Int32)), (7, .int (0 : Int32))]) [3, 4, 5, 6, 7, 2, 1, 0] rfl ?_
      exact t_L_isSound_25 n (f_L_isSound_9 n k) u ih n p0 x1 x2 x3 x4 (0 : Int32) (0 : Int32) (0 : Int32) M h0 hf
set_option maxRecDepth 20000 in
theorem t_L_isSound {S : List vv_Sh} (n : Nat) (p0 : Nat) (M : vv_M) (u : Int32 × vv_M) (h0 : vv_bb S p0) (hf : f_L_isSound n p0 M = some u) : vv_C yL_isSound (vv_w yL_isSound cL_isSound 9 (some .boolean)) (vv_R 4 0 0) [.ref p0] S M (some (.int u.1)) S u.2 := by
  refine vv_ofV (by decide +kernel) (Nat.le_of_ble_eq_true rfl) (L := [(0, .ref p0)]) rfl rfl rfl ?_
  show vv_V [] yL_isSound.cls yL_isSound.name cL_isSound 9 (some .boolean) (vv_R 4 0 0) S.length (vv_sz S) (vv_fi S u) 0 [(0, .ref p0)] [] S M
  unfold f_L_isSound at hf
  refine vi_iconst (v := (0 : Int32)) dL_isSound_0 (by decide) ?_
  refine vi_istore_n (L' := [(1, .int (0 : Int32)), (0, .ref p0)]) dL_isSound_1 rfl (by decide) rfl ?_
  refine vi_iconst (v := (0 : Int32)) dL_isSound_2 (by decide) ?_
  refine vi_istore_n (L' := [(2, .int (0 : Int32)), (1, .int (0 : Int32)), (0, .ref p0)]) dL_isSound_3 rfl (by decide) rfl ?_
  refine vi_iconst (v := (0 : Int32)) dL_isSound_4 (by decide) ?_
  refine vi_istore_n (L' := [(3, .int (0 : Int32)), (2, .int (0 : Int32)), (1, .int (0 : Int32)), (0, .ref p0)]) dL_isSound_5 rfl (by decide) rfl ?_
  refine vi_iconst (v := (0 : Int32)) dL_isSound_6 (by decide) ?_
  refine vi_istore (L' := [(4, .int (0 : Int32)), (3, .int (0 : Int32)), (2, .int (0 : Int32)), (1, .int (0 : Int32)), (0, .ref p0)]) dL_isSound_7 (by decide) rfl ?_
  refine vi_sub (L' := [(0, .ref p0), (1, .int (0 : Int32)), (2, .int (0 : Int32)), (3, .int (0 : Int32)), (4, .int (0 : Int32))]) [4, 3, 2, 1, 0] rfl ?_
  exact t_L_isSound_9 n  u  n p0 (0 : Int32) (0 : Int32) (0 : Int32) (0 : Int32) M h0 hf
set_option maxRecDepth 20000 in
theorem t_L_isForetold_425 {S : List vv_Sh} (n : Nat)  (u : Int32 × vv_M)  (p0 : Nat) (l2 : Int64) (M : vv_M) (h0 : vv_bb S p0) (hf : f_L_isForetold_425 n  p0 l2 M = some u) : vv_V [] yL_isForetold.cls yL_isForetold.name cL_isForetold 14 (some .boolean) (vv_R 7 0 0) S.length (vv_sz S) (vv_fi S u) 425 [(0, .ref p0), (2, .long l2)] [] S M := by
  unfold f_L_isForetold_425 at hf
  refine vi_aload_n 0 dL_isForetold_425 rfl rfl ?_
  obtain ⟨u29, hu29, hf⟩ := vv_bd hf
  refine vi_callS (As := [.ref p0]) (st := []) (t_L_all n p0 M u29 h0 hu29) rfl yo_L_all wm_L_41 wi_L_all wI_L wc_L_all ⟨Nat.le_of_ble_eq_true rfl, Nat.le_of_ble_eq_true rfl⟩ (vv_rm0 rfl rfl) (Nat.le_of_ble_eq_true rfl) rfl rfl dL_isForetold_426 ?_
  refine vi_lload_n 1 dL_isForetold_429 rfl rfl ?_
  refine vi_lcmp dL_isForetold_430 ?_
  refine vi_if_ne 438 dL_isForetold_431 (by decide) (fun c30 => ?_) (fun c30 => ?_)
  · rw [if_neg c30] at hf
    refine vi_iconst (v := (0 : Int32)) dL_isForetold_438 (by decide) ?_
    obtain rfl := Option.some.inj hf
    exact vi_ret (v := some (.int (0 : Int32))) rfl ⟨dL_isForetold_439, .boolean, rfl, rfl⟩ ⟨rfl, rfl, rfl⟩
  · rw [if_pos c30] at hf
    refine vi_iconst (v := (1 : Int32)) dL_isForetold_434 (by decide) ?_
    refine vi_goto 439 dL_isForetold_435 (by decide) ?_
    obtain rfl := Option.some.inj hf
    exact vi_ret (v := some (.int (1 : Int32))) rfl ⟨dL_isForetold_439, .boolean, rfl, rfl⟩ ⟨rfl, rfl, rfl⟩
set_option maxRecDepth 20000 in
theorem t_L_isForetold_408 {S : List vv_Sh} (n : Nat)  (u : Int32 × vv_M)  (p0 : Nat) (l2 : Int64) (M : vv_M) (h0 : vv_bb S p0) (hf : f_L_isForetold_408 n  p0 l2 M = some u) : vv_V [] yL_isForetold.cls yL_isForetold.name cL_isForetold 14 (some .boolean) (vv_R 7 0 0) S.length (vv_sz S) (vv_fi S u) 408 [(0, .ref p0), (2, .long l2)] [] S M := by
  unfold f_L_isForetold_408 at hf
  refine vi_aload_n 0 dL_isForetold_408 rfl rfl ?_
  obtain ⟨u42, hu42, hf⟩ := vv_bd hf
  refine vi_callV (As := []) (st := []) (t_X4_room n p0 M u42 h0 hu42) rfl yo_X4_room wm_L_54 wi_X4_room ws_X4_room wI_X4 wc_X4_room (vv_bb_o h0) rfl ⟨Nat.le_of_ble_eq_true rfl, Nat.le_of_ble_eq_true rfl⟩ (vv_rm0 rfl rfl) (Nat.le_of_ble_eq_true rfl) rfl rfl dL_isForetold_409 ?_
  refine vi_iconst (v := (1 : Int32)) dL_isForetold_412 (by decide) ?_
  refine vi_icmp_ne 423 dL_isForetold_413 (by decide) (fun c43 => ?_) (fun c43 => ?_)
  · rw [if_neg c43] at hf
    refine vi_iconst (v := (0 : Int32)) dL_isForetold_423 (by decide) ?_
    obtain rfl := Option.some.inj hf
    exact vi_ret (v := some (.int (0 : Int32))) rfl ⟨dL_isForetold_424, .boolean, rfl, rfl⟩ ⟨rfl, rfl, rfl⟩
  · rw [if_pos c43] at hf
    refine vi_aload_n 0 dL_isForetold_416 rfl rfl ?_
    obtain ⟨u44, hu44, hf⟩ := vv_bd hf
    refine vi_callV (As := []) (st := []) (t_X4_undo n p0 u42.2 u44 h0 hu44) rfl yo_X4_undo wm_L_67 wi_X4_undo ws_X4_undo wI_X4 wc_X4_undo (vv_bb_o h0) rfl ⟨Nat.le_of_ble_eq_true rfl, Nat.le_of_ble_eq_true rfl⟩ (vv_rm0 rfl rfl) (Nat.le_of_ble_eq_true rfl) rfl rfl dL_isForetold_417 ?_
    refine vi_if_ge 425 dL_isForetold_420 (by decide) (fun c45 => ?_) (fun c45 => ?_)
    · rw [if_pos c45] at hf
      exact t_L_isForetold_425 n  u  p0 l2 u44.2 h0 hf
    · rw [if_neg c45] at hf
      refine vi_iconst (v := (0 : Int32)) dL_isForetold_423 (by decide) ?_
      obtain rfl := Option.some.inj hf
      exact vi_ret (v := some (.int (0 : Int32))) rfl ⟨dL_isForetold_424, .boolean, rfl, rfl⟩ ⟨rfl, rfl, rfl⟩
set_option maxRecDepth 20000 in
theorem t_L_isForetold_349 {S : List vv_Sh} (n : Nat)  (u : Int32 × vv_M)  (p0 : Nat) (l2 : Int64) (x4 : Int32) (x5 : Int32) (x9 : Int32) (M : vv_M) (h0 : vv_bb S p0) (hf : f_L_isForetold_349 n  p0 l2 x4 x5 x9 M = some u) : vv_V [] yL_isForetold.cls yL_isForetold.name cL_isForetold 14 (some .boolean) (vv_R 7 0 0) S.length (vv_sz S) (vv_fi S u) 349 [(0, .ref p0), (2, .long l2), (4, .int x4), (5, .int x5), (9, .int x9)] [] S M := by
  unfold f_L_isForetold_349 at hf
  refine vi_iload 4 dL_isForetold_349 rfl ?_
  refine vi_if_le 425 dL_isForetold_351 (by decide) (fun c28 => ?_) (fun c28 => ?_)
  · rw [if_pos c28] at hf
    refine vi_sub (L' := [(0, .ref p0), (2, .long l2)]) [0, 1] rfl ?_
    exact t_L_isForetold_425 n  u  p0 l2 M h0 hf
  · rw [if_neg c28] at hf
    refine vi_aload_n 0 dL_isForetold_354 rfl rfl ?_
    refine vi_iload 2 dL_isForetold_355 rfl ?_
    refine vi_iload 3 dL_isForetold_357 rfl ?_
    obtain ⟨u31, hu31, hf⟩ := vv_bd hf
    refine vi_callV (As := [.int x4, .int x5]) (st := []) (t_X4_load n p0 x4 x5 M u31 h0 hu31) rfl yo_X4_load wm_L_58 wi_X4_load ws_X4_load wI_X4 wc_X4_load (vv_bb_o h0) rfl ⟨Nat.le_of_ble_eq_true rfl, Nat.le_of_ble_eq_true rfl⟩ (vv_rm0 rfl rfl) (Nat.le_of_ble_eq_true rfl) rfl rfl dL_isForetold_359 ?_
    refine vi_sipush (v := (-1002 : Int32)) dL_isForetold_362 (by decide) ?_
    refine vi_icmp_ne 423 dL_isForetold_365 (by decide) (fun c32 => ?_) (fun c32 => ?_)
    · rw [if_neg c32] at hf
      refine vi_iconst (v := (0 : Int32)) dL_isForetold_423 (by decide) ?_
      obtain rfl := Option.some.inj hf
      exact vi_ret (v := some (.int (0 : Int32))) rfl ⟨dL_isForetold_424, .boolean, rfl, rfl⟩ ⟨rfl, rfl, rfl⟩
    · rw [if_pos c32] at hf
      refine vi_aload_n 0 dL_isForetold_368 rfl rfl ?_
      refine vi_iload 4 dL_isForetold_369 rfl ?_
      obtain ⟨u33, hu33, hf⟩ := vv_bd hf
      refine vi_callV (As := [.int x9]) (st := []) (t_X4_pass n p0 x9 u31.2 u33 h0 hu33) rfl yo_X4_pass wm_L_64 wi_X4_pass ws_X4_pass wI_X4 wc_X4_pass (vv_bb_o h0) rfl ⟨Nat.le_of_ble_eq_true rfl, Nat.le_of_ble_eq_true rfl⟩ (vv_rm0 rfl rfl) (Nat.le_of_ble_eq_true rfl) rfl rfl dL_isForetold_371 ?_
      refine vi_if_lt 423 dL_isForetold_374 (by decide) (fun c34 => ?_) (fun c34 => ?_)
      · rw [if_pos c34] at hf
        refine vi_iconst (v := (0 : Int32)) dL_isForetold_423 (by decide) ?_
        obtain rfl := Option.some.inj hf
        exact vi_ret (v := some (.int (0 : Int32))) rfl ⟨dL_isForetold_424, .boolean, rfl, rfl⟩ ⟨rfl, rfl, rfl⟩
      · rw [if_neg c34] at hf
        refine vi_aload_n 0 dL_isForetold_377 rfl rfl ?_
        obtain ⟨u35, hu35, hf⟩ := vv_bd hf
        refine vi_callV (As := []) (st := []) (t_X4_room n p0 u33.2 u35 h0 hu35) rfl yo_X4_room wm_L_54 wi_X4_room ws_X4_room wI_X4 wc_X4_room (vv_bb_o h0) rfl ⟨Nat.le_of_ble_eq_true rfl, Nat.le_of_ble_eq_true rfl⟩ (vv_rm0 rfl rfl) (Nat.le_of_ble_eq_true rfl) rfl rfl dL_isForetold_378 ?_
        refine vi_if_ne 423 dL_isForetold_381 (by decide) (fun c36 => ?_) (fun c36 => ?_)
        · rw [if_neg c36] at hf
          refine vi_iconst (v := (0 : Int32)) dL_isForetold_423 (by decide) ?_
          obtain rfl := Option.some.inj hf
          exact vi_ret (v := some (.int (0 : Int32))) rfl ⟨dL_isForetold_424, .boolean, rfl, rfl⟩ ⟨rfl, rfl, rfl⟩
        · rw [if_pos c36] at hf
          refine vi_aload_n 0 dL_isForetold_384 rfl rfl ?_
          obtain ⟨u37, hu37, hf⟩ := vv_bd hf
          refine vi_callV (As := []) (st := []) (t_X4_undo n p0 u35.2 u37 h0 hu37) rfl yo_X4_undo wm_L_67 wi_X4_undo ws_X4_undo wI_X4 wc_X4_undo (vv_bb_o h0) rfl ⟨Nat.le_of_ble_eq_true rfl, Nat.le_of_ble_eq_true rfl⟩ (vv_rm0 rfl rfl) (Nat.le_of_ble_eq_true rfl) rfl rfl dL_isForetold_385 ?_
          refine vi_if_lt 423 dL_isForetold_388 (by decide) (fun c38 => ?_) (fun c38 => ?_)
          · rw [if_pos c38] at hf
            refine vi_iconst (v := (0 : Int32)) dL_isForetold_423 (by decide) ?_
            obtain rfl := Option.some.inj hf
            exact vi_ret (v := some (.int (0 : Int32))) rfl ⟨dL_isForetold_424, .boolean, rfl, rfl⟩ ⟨rfl, rfl, rfl⟩
          · rw [if_neg c38] at hf
            refine vi_iload 4 dL_isForetold_391 rfl ?_
            refine vi_iconst (v := (1 : Int32)) dL_isForetold_393 (by decide) ?_
            refine vi_icmp_le 425 dL_isForetold_394 (by decide) (fun c39 => ?_) (fun c39 => ?_)
            · rw [if_pos c39] at hf
              refine vi_sub (L' := [(0, .ref p0), (2, .long l2)]) [0, 1] rfl ?_
              exact t_L_isForetold_425 n  u  p0 l2 u37.2 h0 hf
            · rw [if_neg c39] at hf
              refine vi_aload_n 0 dL_isForetold_397 rfl rfl ?_
              refine vi_iload 4 dL_isForetold_398 rfl ?_
              refine vi_iconst (v := (1 : Int32)) dL_isForetold_400 (by decide) ?_
              refine vi_isub dL_isForetold_401 ?_
              obtain ⟨u40, hu40, hf⟩ := vv_bd hf
              refine vi_callV (As := [.int (x9 - (1 : Int32))]) (st := []) (t_X4_pass n p0 (x9 - (1 : Int32)) u37.2 u40 h0 hu40) rfl yo_X4_pass wm_L_64 wi_X4_pass ws_X4_pass wI_X4 wc_X4_pass (vv_bb_o h0) rfl ⟨Nat.le_of_ble_eq_true rfl, Nat.le_of_ble_eq_true rfl⟩ (vv_rm0 rfl rfl) (Nat.le_of_ble_eq_true rfl) rfl rfl dL_isForetold_402 ?_
              refine vi_if_lt 423 dL_isForetold_405 (by decide) (fun c41 => ?_) (fun c41 => ?_)
              · rw [if_pos c41] at hf
                refine vi_iconst (v := (0 : Int32)) dL_isForetold_423 (by decide) ?_
                obtain rfl := Option.some.inj hf
                exact vi_ret (v := some (.int (0 : Int32))) rfl ⟨dL_isForetold_424, .boolean, rfl, rfl⟩ ⟨rfl, rfl, rfl⟩
              · rw [if_neg c41] at hf
                refine vi_sub (L' := [(0, .ref p0), (2, .long l2)]) [0, 1] rfl ?_
                exact t_L_isForetold_408 n  u  p0 l2 u40.2 h0 hf
set_option maxRecDepth 20000 in
theorem t_L_isForetold_311 {S : List vv_Sh} (n : Nat)  (u : Int32 × vv_M)  (p0 : Nat) (l2 : Int64) (x4 : Int32) (x5 : Int32) (x9 : Int32) (x10 : Int32) (x13 : Int32) (M : vv_M) (h0 : vv_bb S p0) (hf : f_L_isForetold_311 n  p0 l2 x4 x5 x9 x10 x13 M = some u) : vv_V [] yL_isForetold.cls yL_isForetold.name cL_isForetold 14 (some .boolean) (vv_R 7 0 0) S.length (vv_sz S) (vv_fi S u) 311 [(0, .ref p0), (2, .long l2), (4, .int x4), (5, .int x5), (9, .int x9), (10, .int x10), (13, .int x13)] [] S M := by
  unfold f_L_isForetold_311 at hf
  refine vi_aload_n 0 dL_isForetold_311 rfl rfl ?_
  refine vi_iload 5 dL_isForetold_312 rfl ?_
  refine vi_iconst (v := (4 : Int32)) dL_isForetold_314 (by decide) ?_
  obtain ⟨u69, hu69, hf⟩ := vv_bd hf
  refine vi_callV (As := [.int x10, .int (4 : Int32)]) (st := []) (t_X4_board n p0 x10 (4 : Int32) M u69 h0 hu69) rfl yo_X4_board wm_L_25 wi_X4_board ws_X4_board wI_X4 wc_X4_board (vv_bb_o h0) rfl ⟨Nat.le_of_ble_eq_true rfl, Nat.le_of_ble_eq_true rfl⟩ (vv_rm0 rfl rfl) (Nat.le_of_ble_eq_true rfl) rfl rfl dL_isForetold_315 ?_
  refine vi_iload 6 dL_isForetold_318 rfl ?_
  refine vi_icmp_ne 347 dL_isForetold_320 (by decide) (fun c70 => ?_) (fun c70 => ?_)
  · rw [if_neg c70] at hf
    refine vi_iconst (v := (0 : Int32)) dL_isForetold_347 (by decide) ?_
    obtain rfl := Option.some.inj hf
    exact vi_ret (v := some (.int (0 : Int32))) rfl ⟨dL_isForetold_348, .boolean, rfl, rfl⟩ ⟨rfl, rfl, rfl⟩
  · rw [if_pos c70] at hf
    refine vi_aload_n 0 dL_isForetold_323 rfl rfl ?_
    obtain ⟨u71, hu71, hf⟩ := vv_bd hf
    refine vi_callV (As := []) (st := []) (t_X4_undo n p0 u69.2 u71 h0 hu71) rfl yo_X4_undo wm_L_67 wi_X4_undo ws_X4_undo wI_X4 wc_X4_undo (vv_bb_o h0) rfl ⟨Nat.le_of_ble_eq_true rfl, Nat.le_of_ble_eq_true rfl⟩ (vv_rm0 rfl rfl) (Nat.le_of_ble_eq_true rfl) rfl rfl dL_isForetold_324 ?_
    refine vi_if_lt 347 dL_isForetold_327 (by decide) (fun c72 => ?_) (fun c72 => ?_)
    · rw [if_pos c72] at hf
      refine vi_iconst (v := (0 : Int32)) dL_isForetold_347 (by decide) ?_
      obtain rfl := Option.some.inj hf
      exact vi_ret (v := some (.int (0 : Int32))) rfl ⟨dL_isForetold_348, .boolean, rfl, rfl⟩ ⟨rfl, rfl, rfl⟩
    · rw [if_neg c72] at hf
      refine vi_aload_n 0 dL_isForetold_330 rfl rfl ?_
      refine vi_iload 5 dL_isForetold_331 rfl ?_
      refine vi_iconst (v := (2 : Int32)) dL_isForetold_333 (by decide) ?_
      obtain ⟨u73, hu73, hf⟩ := vv_bd hf
      refine vi_callV (As := [.int x10, .int (2 : Int32)]) (st := []) (t_X4_board n p0 x10 (2 : Int32) u71.2 u73 h0 hu73) rfl yo_X4_board wm_L_25 wi_X4_board ws_X4_board wI_X4 wc_X4_board (vv_bb_o h0) rfl ⟨Nat.le_of_ble_eq_true rfl, Nat.le_of_ble_eq_true rfl⟩ (vv_rm0 rfl rfl) (Nat.le_of_ble_eq_true rfl) rfl rfl dL_isForetold_334 ?_
      refine vi_if_ne 347 dL_isForetold_337 (by decide) (fun c74 => ?_) (fun c74 => ?_)
      · rw [if_neg c74] at hf
        refine vi_iconst (v := (0 : Int32)) dL_isForetold_347 (by decide) ?_
        obtain rfl := Option.some.inj hf
        exact vi_ret (v := some (.int (0 : Int32))) rfl ⟨dL_isForetold_348, .boolean, rfl, rfl⟩ ⟨rfl, rfl, rfl⟩
      · rw [if_pos c74] at hf
        refine vi_aload_n 0 dL_isForetold_340 rfl rfl ?_
        obtain ⟨u75, hu75, hf⟩ := vv_bd hf
        refine vi_callV (As := []) (st := []) (t_X4_undo n p0 u73.2 u75 h0 hu75) rfl yo_X4_undo wm_L_67 wi_X4_undo ws_X4_undo wI_X4 wc_X4_undo (vv_bb_o h0) rfl ⟨Nat.le_of_ble_eq_true rfl, Nat.le_of_ble_eq_true rfl⟩ (vv_rm0 rfl rfl) (Nat.le_of_ble_eq_true rfl) rfl rfl dL_isForetold_341 ?_
        refine vi_if_ge 349 dL_isForetold_344 (by decide) (fun c76 => ?_) (fun c76 => ?_)
        · rw [if_pos c76] at hf
          refine vi_sub (L' := [(0, .ref p0), (2, .long l2), (4, .int x4), (5, .int x5), (9, .int x9)]) [0, 1, 2, 3, 4] rfl ?_
          exact t_L_isForetold_349 n  u  p0 l2 x4 x5 x9 u75.2 h0 hf
        · rw [if_neg c76] at hf
          refine vi_iconst (v := (0 : Int32)) dL_isForetold_347 (by decide) ?_
          obtain rfl := Option.some.inj hf
          exact vi_ret (v := some (.int (0 : Int32))) rfl ⟨dL_isForetold_348, .boolean, rfl, rfl⟩ ⟨rfl, rfl, rfl⟩
set_option maxRecDepth 20000 in
theorem t_L_isForetold_246 {S : List vv_Sh} (n : Nat)  (u : Int32 × vv_M)  (p0 : Nat) (l2 : Int64) (x4 : Int32) (x5 : Int32) (x6 : Int32) (x9 : Int32) (x10 : Int32) (x11 : Int32) (x12 : Int32) (x13 : Int32) (M : vv_M) (h0 : vv_bb S p0) (hf : f_L_isForetold_246 n  p0 l2 x4 x5 x6 x9 x10 x11 x12 x13 M = some u) : vv_V [] yL_isForetold.cls yL_isForetold.name cL_isForetold 14 (some .boolean) (vv_R 7 0 0) S.length (vv_sz S) (vv_fi S u) 246 [(0, .ref p0), (2, .long l2), (4, .int x4), (5, .int x5), (6, .int x6), (9, .int x9), (10, .int x10), (11, .int x11), (12, .int x12), (13, .int x13)] [] S M := by
  unfold f_L_isForetold_246 at hf
  refine vi_aload_n 0 dL_isForetold_246 rfl rfl ?_
  refine vi_iload 6 dL_isForetold_247 rfl ?_
  refine vi_iconst (v := (0 : Int32)) dL_isForetold_249 (by decide) ?_
  obtain ⟨u58, hu58, hf⟩ := vv_bd hf
  refine vi_callV (As := [.int x10, .int (0 : Int32)]) (st := []) (t_X4_foretell n p0 x10 (0 : Int32) M u58 h0 hu58) rfl yo_X4_foretell wm_L_61 wi_X4_foretell ws_X4_foretell wI_X4 wc_X4_foretell (vv_bb_o h0) rfl ⟨Nat.le_of_ble_eq_true rfl, Nat.le_of_ble_eq_true rfl⟩ (vv_rm0 rfl rfl) (Nat.le_of_ble_eq_true rfl) rfl rfl dL_isForetold_250 ?_
  refine vi_iload 4 dL_isForetold_253 rfl ?_
  refine vi_icmp_ne 347 dL_isForetold_255 (by decide) (fun c59 => ?_) (fun c59 => ?_)
  · rw [if_neg c59] at hf
    refine vi_iconst (v := (0 : Int32)) dL_isForetold_347 (by decide) ?_
    obtain rfl := Option.some.inj hf
    exact vi_ret (v := some (.int (0 : Int32))) rfl ⟨dL_isForetold_348, .boolean, rfl, rfl⟩ ⟨rfl, rfl, rfl⟩
  · rw [if_pos c59] at hf
    refine vi_iload 7 dL_isForetold_258 rfl ?_
    refine vi_iconst (v := (1 : Int32)) dL_isForetold_260 (by decide) ?_
    refine vi_icmp_lt 347 dL_isForetold_261 (by decide) (fun c60 => ?_) (fun c60 => ?_)
    · rw [if_pos c60] at hf
      refine vi_iconst (v := (0 : Int32)) dL_isForetold_347 (by decide) ?_
      obtain rfl := Option.some.inj hf
      exact vi_ret (v := some (.int (0 : Int32))) rfl ⟨dL_isForetold_348, .boolean, rfl, rfl⟩ ⟨rfl, rfl, rfl⟩
    · rw [if_neg c60] at hf
      refine vi_aload_n 0 dL_isForetold_264 rfl rfl ?_
      refine vi_iload 7 dL_isForetold_265 rfl ?_
      obtain ⟨u61, hu61, hf⟩ := vv_bd hf
      refine vi_callV (As := [.int x11]) (st := []) (t_X4_pass n p0 x11 u58.2 u61 h0 hu61) rfl yo_X4_pass wm_L_64 wi_X4_pass ws_X4_pass wI_X4 wc_X4_pass (vv_bb_o h0) rfl ⟨Nat.le_of_ble_eq_true rfl, Nat.le_of_ble_eq_true rfl⟩ (vv_rm0 rfl rfl) (Nat.le_of_ble_eq_true rfl) rfl rfl dL_isForetold_267 ?_
      refine vi_iconst (v := (1 : Int32)) dL_isForetold_270 (by decide) ?_
      refine vi_icmp_lt 347 dL_isForetold_271 (by decide) (fun c62 => ?_) (fun c62 => ?_)
      · rw [if_pos c62] at hf
        refine vi_iconst (v := (0 : Int32)) dL_isForetold_347 (by decide) ?_
        obtain rfl := Option.some.inj hf
        exact vi_ret (v := some (.int (0 : Int32))) rfl ⟨dL_isForetold_348, .boolean, rfl, rfl⟩ ⟨rfl, rfl, rfl⟩
      · rw [if_neg c62] at hf
        refine vi_aload_n 0 dL_isForetold_274 rfl rfl ?_
        refine vi_iload 6 dL_isForetold_275 rfl ?_
        refine vi_iconst (v := (2 : Int32)) dL_isForetold_277 (by decide) ?_
        obtain ⟨u63, hu63, hf⟩ := vv_bd hf
        refine vi_callV (As := [.int x10, .int (2 : Int32)]) (st := []) (t_X4_board n p0 x10 (2 : Int32) u61.2 u63 h0 hu63) rfl yo_X4_board wm_L_25 wi_X4_board ws_X4_board wI_X4 wc_X4_board (vv_bb_o h0) rfl ⟨Nat.le_of_ble_eq_true rfl, Nat.le_of_ble_eq_true rfl⟩ (vv_rm0 rfl rfl) (Nat.le_of_ble_eq_true rfl) rfl rfl dL_isForetold_278 ?_
        refine vi_iconst (v := (1 : Int32)) dL_isForetold_281 (by decide) ?_
        refine vi_icmp_ne 347 dL_isForetold_282 (by decide) (fun c64 => ?_) (fun c64 => ?_)
        · rw [if_neg c64] at hf
          refine vi_iconst (v := (0 : Int32)) dL_isForetold_347 (by decide) ?_
          obtain rfl := Option.some.inj hf
          exact vi_ret (v := some (.int (0 : Int32))) rfl ⟨dL_isForetold_348, .boolean, rfl, rfl⟩ ⟨rfl, rfl, rfl⟩
        · rw [if_pos c64] at hf
          refine vi_aload_n 0 dL_isForetold_285 rfl rfl ?_
          refine vi_iload 6 dL_isForetold_286 rfl ?_
          refine vi_bipush (v := (8 : Int32)) dL_isForetold_288 (by decide) ?_
          obtain ⟨u65, hu65, hf⟩ := vv_bd hf
          refine vi_callV (As := [.int x10, .int (8 : Int32)]) (st := []) (t_X4_board n p0 x10 (8 : Int32) u63.2 u65 h0 hu65) rfl yo_X4_board wm_L_25 wi_X4_board ws_X4_board wI_X4 wc_X4_board (vv_bb_o h0) rfl ⟨Nat.le_of_ble_eq_true rfl, Nat.le_of_ble_eq_true rfl⟩ (vv_rm0 rfl rfl) (Nat.le_of_ble_eq_true rfl) rfl rfl dL_isForetold_290 ?_
          refine vi_iload 4 dL_isForetold_293 rfl ?_
          refine vi_icmp_ne 347 dL_isForetold_295 (by decide) (fun c66 => ?_) (fun c66 => ?_)
          · rw [if_neg c66] at hf
            refine vi_iconst (v := (0 : Int32)) dL_isForetold_347 (by decide) ?_
            obtain rfl := Option.some.inj hf
            exact vi_ret (v := some (.int (0 : Int32))) rfl ⟨dL_isForetold_348, .boolean, rfl, rfl⟩ ⟨rfl, rfl, rfl⟩
          · rw [if_pos c66] at hf
            refine vi_aload_n 0 dL_isForetold_298 rfl rfl ?_
            refine vi_iload 6 dL_isForetold_299 rfl ?_
            refine vi_bipush (v := (6 : Int32)) dL_isForetold_301 (by decide) ?_
            obtain ⟨u67, hu67, hf⟩ := vv_bd hf
            refine vi_callV (As := [.int x10, .int (6 : Int32)]) (st := []) (t_X4_board n p0 x10 (6 : Int32) u65.2 u67 h0 hu67) rfl yo_X4_board wm_L_25 wi_X4_board ws_X4_board wI_X4 wc_X4_board (vv_bb_o h0) rfl ⟨Nat.le_of_ble_eq_true rfl, Nat.le_of_ble_eq_true rfl⟩ (vv_rm0 rfl rfl) (Nat.le_of_ble_eq_true rfl) rfl rfl dL_isForetold_303 ?_
            refine vi_iload 8 dL_isForetold_306 rfl ?_
            refine vi_icmp_ne 347 dL_isForetold_308 (by decide) (fun c68 => ?_) (fun c68 => ?_)
            · rw [if_neg c68] at hf
              refine vi_iconst (v := (0 : Int32)) dL_isForetold_347 (by decide) ?_
              obtain rfl := Option.some.inj hf
              exact vi_ret (v := some (.int (0 : Int32))) rfl ⟨dL_isForetold_348, .boolean, rfl, rfl⟩ ⟨rfl, rfl, rfl⟩
            · rw [if_pos c68] at hf
              refine vi_sub (L' := [(0, .ref p0), (2, .long l2), (4, .int x4), (5, .int x5), (9, .int x9), (10, .int x10), (13, .int x13)]) [0, 1, 2, 3, 5, 6, 9] rfl ?_
              exact t_L_isForetold_311 n  u  p0 l2 x4 x5 x9 x10 x13 u67.2 h0 hf
set_option maxRecDepth 20000 in
theorem t_L_isForetold_216 {S : List vv_Sh} (n : Nat)  (u : Int32 × vv_M)  (p0 : Nat) (l2 : Int64) (x4 : Int32) (x5 : Int32) (x6 : Int32) (x9 : Int32) (x10 : Int32) (x11 : Int32) (M : vv_M) (h0 : vv_bb S p0) (hf : f_L_isForetold_216 n  p0 l2 x4 x5 x6 x9 x10 x11 M = some u) : vv_V [] yL_isForetold.cls yL_isForetold.name cL_isForetold 14 (some .boolean) (vv_R 7 0 0) S.length (vv_sz S) (vv_fi S u) 216 [(0, .ref p0), (2, .long l2), (4, .int x4), (5, .int x5), (6, .int x6), (9, .int x9), (10, .int x10), (11, .int x11)] [] S M := by
  unfold f_L_isForetold_216 at hf
  refine vi_aload_n 0 dL_isForetold_216 rfl rfl ?_
  refine vi_iload 6 dL_isForetold_217 rfl ?_
  refine vi_iconst (v := (1 : Int32)) dL_isForetold_219 (by decide) ?_
  obtain ⟨u52, hu52, hf⟩ := vv_bd hf
  refine vi_callV (As := [.int x10, .int (1 : Int32)]) (st := []) (t_X4_foretell n p0 x10 (1 : Int32) M u52 h0 hu52) rfl yo_X4_foretell wm_L_61 wi_X4_foretell ws_X4_foretell wI_X4 wc_X4_foretell (vv_bb_o h0) rfl ⟨Nat.le_of_ble_eq_true rfl, Nat.le_of_ble_eq_true rfl⟩ (vv_rm0 rfl rfl) (Nat.le_of_ble_eq_true rfl) rfl rfl dL_isForetold_220 ?_
  obtain ⟨y53, ey53, hf⟩ := vv_lt hf
  refine vi_istore (L' := [(12, .int y53), (0, .ref p0), (2, .long l2), (4, .int x4), (5, .int x5), (6, .int x6), (9, .int x9), (10, .int x10), (11, .int x11)]) dL_isForetold_223 (by decide) (by rw [ey53]; rfl) ?_
  refine vi_aload_n 1 dL_isForetold_225 rfl rfl ?_
  refine vi_iload 7 dL_isForetold_226 rfl ?_
  refine vi_iconst (v := (3 : Int32)) dL_isForetold_228 (by decide) ?_
  obtain ⟨u54, hu54, hf⟩ := vv_bd hf
  refine vi_callV (As := [.int x10, .int (3 : Int32)]) (st := []) (t_X4_foretell n p0 x10 (3 : Int32) u52.2 u54 h0 hu54) rfl yo_X4_foretell wm_L_61 wi_X4_foretell ws_X4_foretell wI_X4 wc_X4_foretell (vv_bb_o h0) rfl ⟨Nat.le_of_ble_eq_true rfl, Nat.le_of_ble_eq_true rfl⟩ (vv_rm0 rfl rfl) (Nat.le_of_ble_eq_true rfl) rfl rfl dL_isForetold_229 ?_
  obtain ⟨y55, ey55, hf⟩ := vv_lt hf
  refine vi_istore (L' := [(13, .int y55), (12, .int y53), (0, .ref p0), (2, .long l2), (4, .int x4), (5, .int x5), (6, .int x6), (9, .int x9), (10, .int x10), (11, .int x11)]) dL_isForetold_232 (by decide) (by rw [ey55]; rfl) ?_
  refine vi_iload 8 dL_isForetold_234 rfl ?_
  refine vi_aload_n 2 dL_isForetold_236 rfl rfl ?_
  refine vi_iconst (v := (1 : Int32)) dL_isForetold_237 (by decide) ?_
  obtain ⟨u56, hu56, hf⟩ := vv_bd hf
  refine vi_callV (As := [.int (1 : Int32)]) (st := [.int x10]) (t_X4_count n p0 (1 : Int32) u54.2 u56 h0 hu56) rfl yo_X4_count wm_L_12 wi_X4_count ws_X4_count wI_X4 wc_X4_count (vv_bb_o h0) rfl ⟨Nat.le_of_ble_eq_true rfl, Nat.le_of_ble_eq_true rfl⟩ (vv_rm0 rfl rfl) (Nat.le_of_ble_eq_true rfl) rfl rfl dL_isForetold_238 ?_
  refine vi_iconst (v := (1 : Int32)) dL_isForetold_241 (by decide) ?_
  refine vi_isub dL_isForetold_242 ?_
  refine vi_icmp_ne 347 dL_isForetold_243 (by decide) (fun c57 => ?_) (fun c57 => ?_)
  · rw [if_neg c57] at hf
    refine vi_iconst (v := (0 : Int32)) dL_isForetold_347 (by decide) ?_
    obtain rfl := Option.some.inj hf
    exact vi_ret (v := some (.int (0 : Int32))) rfl ⟨dL_isForetold_348, .boolean, rfl, rfl⟩ ⟨rfl, rfl, rfl⟩
  · rw [if_pos c57] at hf
    refine vi_sub (L' := [(0, .ref p0), (2, .long l2), (4, .int x4), (5, .int x5), (6, .int x6), (9, .int x9), (10, .int x10), (11, .int x11), (12, .int y53), (13, .int y55)]) [2, 3, 4, 5, 6, 7, 8, 9, 1, 0] rfl ?_
    exact t_L_isForetold_246 n  u  p0 l2 x4 x5 x6 x9 x10 x11 y53 y55 u56.2 h0 hf
set_option maxRecDepth 20000 in
theorem t_L_isForetold_169 {S : List vv_Sh} (n : Nat)  (u : Int32 × vv_M)  (p0 : Nat) (l2 : Int64) (x4 : Int32) (x5 : Int32) (x6 : Int32) (x9 : Int32) (M : vv_M) (h0 : vv_bb S p0) (hf : f_L_isForetold_169 n  p0 l2 x4 x5 x6 x9 M = some u) : vv_V [] yL_isForetold.cls yL_isForetold.name cL_isForetold 14 (some .boolean) (vv_R 7 0 0) S.length (vv_sz S) (vv_fi S u) 169 [(0, .ref p0), (2, .long l2), (4, .int x4), (5, .int x5), (6, .int x6), (9, .int x9)] [] S M := by
  unfold f_L_isForetold_169 at hf
  refine vi_aload_n 0 dL_isForetold_169 rfl rfl ?_
  refine vi_iconst (v := (0 : Int32)) dL_isForetold_170 (by decide) ?_
  obtain ⟨u25, hu25, hf⟩ := vv_bd hf
  refine vi_callV (As := [.int (0 : Int32)]) (st := []) (t_X4_count n p0 (0 : Int32) M u25 h0 hu25) rfl yo_X4_count wm_L_12 wi_X4_count ws_X4_count wI_X4 wc_X4_count (vv_bb_o h0) rfl ⟨Nat.le_of_ble_eq_true rfl, Nat.le_of_ble_eq_true rfl⟩ (vv_rm0 rfl rfl) (Nat.le_of_ble_eq_true rfl) rfl rfl dL_isForetold_171 ?_
  refine vi_sipush (v := (4000 : Int32)) dL_isForetold_174 (by decide) ?_
  refine vi_icmp_le 182 dL_isForetold_177 (by decide) (fun c26 => ?_) (fun c26 => ?_)
  · rw [if_pos c26] at hf
    refine vi_iload 5 dL_isForetold_182 rfl ?_
    refine vi_if_ne 349 dL_isForetold_184 (by decide) (fun c27 => ?_) (fun c27 => ?_)
    · rw [if_neg c27] at hf
      refine vi_sub (L' := [(0, .ref p0), (2, .long l2), (4, .int x4), (5, .int x5), (9, .int x9)]) [0, 1, 2, 3, 5] rfl ?_
      exact t_L_isForetold_349 n  u  p0 l2 x4 x5 x9 u25.2 h0 hf
    · rw [if_pos c27] at hf
      refine vi_aload_n 0 dL_isForetold_187 rfl rfl ?_
      refine vi_iconst (v := (1 : Int32)) dL_isForetold_188 (by decide) ?_
      obtain ⟨u46, hu46, hf⟩ := vv_bd hf
      refine vi_callV (As := [.int (1 : Int32)]) (st := []) (t_X4_count n p0 (1 : Int32) u25.2 u46 h0 hu46) rfl yo_X4_count wm_L_12 wi_X4_count ws_X4_count wI_X4 wc_X4_count (vv_bb_o h0) rfl ⟨Nat.le_of_ble_eq_true rfl, Nat.le_of_ble_eq_true rfl⟩ (vv_rm0 rfl rfl) (Nat.le_of_ble_eq_true rfl) rfl rfl dL_isForetold_189 ?_
      refine vi_bipush (v := (30 : Int32)) dL_isForetold_192 (by decide) ?_
      refine vi_icmp_ge 349 dL_isForetold_194 (by decide) (fun c47 => ?_) (fun c47 => ?_)
      · rw [if_pos c47] at hf
        refine vi_sub (L' := [(0, .ref p0), (2, .long l2), (4, .int x4), (5, .int x5), (9, .int x9)]) [0, 1, 2, 3, 5] rfl ?_
        exact t_L_isForetold_349 n  u  p0 l2 x4 x5 x9 u46.2 h0 hf
      · rw [if_neg c47] at hf
        refine vi_aload_n 0 dL_isForetold_197 rfl rfl ?_
        refine vi_iload 2 dL_isForetold_198 rfl ?_
        refine vi_iload 3 dL_isForetold_200 rfl ?_
        obtain ⟨u48, hu48, hf⟩ := vv_bd hf
        refine vi_callV (As := [.int x4, .int x5]) (st := []) (t_X4_load n p0 x4 x5 u46.2 u48 h0 hu48) rfl yo_X4_load wm_L_58 wi_X4_load ws_X4_load wI_X4 wc_X4_load (vv_bb_o h0) rfl ⟨Nat.le_of_ble_eq_true rfl, Nat.le_of_ble_eq_true rfl⟩ (vv_rm0 rfl rfl) (Nat.le_of_ble_eq_true rfl) rfl rfl dL_isForetold_202 ?_
        obtain ⟨y49, ey49, hf⟩ := vv_lt hf
        refine vi_istore (L' := [(10, .int y49), (0, .ref p0), (2, .long l2), (4, .int x4), (5, .int x5), (6, .int x6), (9, .int x9)]) dL_isForetold_205 (by decide) (by rw [ey49]; rfl) ?_
        refine vi_aload_n 1 dL_isForetold_207 rfl rfl ?_
        refine vi_iload 0 dL_isForetold_208 rfl ?_
        refine vi_iconst (v := (2 : Int32)) dL_isForetold_210 (by decide) ?_
        obtain ⟨u50, hu50, hf⟩ := vv_bd hf
        refine vi_callV (As := [.int y49, .int (2 : Int32)]) (st := []) (t_X4_foretell n p0 y49 (2 : Int32) u48.2 u50 h0 hu50) rfl yo_X4_foretell wm_L_61 wi_X4_foretell ws_X4_foretell wI_X4 wc_X4_foretell (vv_bb_o h0) rfl ⟨Nat.le_of_ble_eq_true rfl, Nat.le_of_ble_eq_true rfl⟩ (vv_rm0 rfl rfl) (Nat.le_of_ble_eq_true rfl) rfl rfl dL_isForetold_211 ?_
        obtain ⟨y51, ey51, hf⟩ := vv_lt hf
        refine vi_istore (L' := [(11, .int y51), (10, .int y49), (0, .ref p0), (2, .long l2), (4, .int x4), (5, .int x5), (6, .int x6), (9, .int x9)]) dL_isForetold_214 (by decide) (by rw [ey51]; rfl) ?_
        refine vi_sub (L' := [(0, .ref p0), (2, .long l2), (4, .int x4), (5, .int x5), (6, .int x6), (9, .int x9), (10, .int y49), (11, .int y51)]) [2, 3, 4, 5, 6, 7, 1, 0] rfl ?_
        exact t_L_isForetold_216 n  u  p0 l2 x4 x5 x6 x9 y49 y51 u50.2 h0 hf
  · rw [if_neg c26] at hf
    refine vi_iconst (v := (1 : Int32)) dL_isForetold_180 (by decide) ?_
    obtain rfl := Option.some.inj hf
    exact vi_ret (v := some (.int (1 : Int32))) rfl ⟨dL_isForetold_181, .boolean, rfl, rfl⟩ ⟨rfl, rfl, rfl⟩
set_option maxRecDepth 20000 in
theorem t_L_isForetold_129 {S : List vv_Sh} (n : Nat)  (u : Int32 × vv_M)  (p0 : Nat) (l2 : Int64) (x4 : Int32) (x5 : Int32) (x6 : Int32) (x8 : Int32) (x9 : Int32) (M : vv_M) (h0 : vv_bb S p0) (hf : f_L_isForetold_129 n  p0 l2 x4 x5 x6 x8 x9 M = some u) : vv_V [] yL_isForetold.cls yL_isForetold.name cL_isForetold 14 (some .boolean) (vv_R 7 0 0) S.length (vv_sz S) (vv_fi S u) 129 [(0, .ref p0), (2, .long l2), (4, .int x4), (5, .int x5), (6, .int x6), (8, .int x8), (9, .int x9)] [] S M := by
  unfold f_L_isForetold_129 at hf
  refine vi_iload 5 dL_isForetold_129 rfl ?_
  refine vi_if_le 169 dL_isForetold_131 (by decide) (fun c24 => ?_) (fun c24 => ?_)
  · rw [if_pos c24] at hf
    refine vi_sub (L' := [(0, .ref p0), (2, .long l2), (4, .int x4), (5, .int x5), (6, .int x6), (9, .int x9)]) [0, 1, 2, 3, 4, 6] rfl ?_
    exact t_L_isForetold_169 n  u  p0 l2 x4 x5 x6 x9 M h0 hf
  · rw [if_neg c24] at hf
    refine vi_aload_n 0 dL_isForetold_134 rfl rfl ?_
    refine vi_iload 2 dL_isForetold_135 rfl ?_
    refine vi_iload 5 dL_isForetold_137 rfl ?_
    refine vi_iconst (v := (0 : Int32)) dL_isForetold_139 (by decide) ?_
    obtain ⟨u77, hu77, hf⟩ := vv_bd hf
    refine vi_callV (As := [.int x4, .int x8, .int (0 : Int32)]) (st := []) (t_X4_wouldFail n p0 x4 x8 (0 : Int32) M u77 h0 hu77) rfl yo_X4_wouldFail wm_L_48 wi_X4_wouldFail ws_X4_wouldFail wI_X4 wc_X4_wouldFail (vv_bb_o h0) rfl ⟨Nat.le_of_ble_eq_true rfl, Nat.le_of_ble_eq_true rfl⟩ (vv_rm0 rfl rfl) (Nat.le_of_ble_eq_true rfl) rfl rfl dL_isForetold_140 ?_
    refine vi_if_ne 167 dL_isForetold_143 (by decide) (fun c78 => ?_) (fun c78 => ?_)
    · rw [if_neg c78] at hf
      refine vi_iconst (v := (0 : Int32)) dL_isForetold_167 (by decide) ?_
      obtain rfl := Option.some.inj hf
      exact vi_ret (v := some (.int (0 : Int32))) rfl ⟨dL_isForetold_168, .boolean, rfl, rfl⟩ ⟨rfl, rfl, rfl⟩
    · rw [if_pos c78] at hf
      refine vi_iload 5 dL_isForetold_146 rfl ?_
      refine vi_bipush (v := (9 : Int32)) dL_isForetold_148 (by decide) ?_
      refine vi_icmp_ge 169 dL_isForetold_150 (by decide) (fun c79 => ?_) (fun c79 => ?_)
      · rw [if_pos c79] at hf
        refine vi_sub (L' := [(0, .ref p0), (2, .long l2), (4, .int x4), (5, .int x5), (6, .int x6), (9, .int x9)]) [0, 1, 2, 3, 4, 6] rfl ?_
        exact t_L_isForetold_169 n  u  p0 l2 x4 x5 x6 x9 u77.2 h0 hf
      · rw [if_neg c79] at hf
        refine vi_aload_n 0 dL_isForetold_153 rfl rfl ?_
        refine vi_iload 2 dL_isForetold_154 rfl ?_
        refine vi_iload 5 dL_isForetold_156 rfl ?_
        refine vi_iconst (v := (1 : Int32)) dL_isForetold_158 (by decide) ?_
        refine vi_iadd dL_isForetold_159 ?_
        refine vi_iconst (v := (0 : Int32)) dL_isForetold_160 (by decide) ?_
        obtain ⟨u80, hu80, hf⟩ := vv_bd hf
        refine vi_callV (As := [.int x4, .int (x8 + (1 : Int32)), .int (0 : Int32)]) (st := []) (t_X4_wouldFail n p0 x4 (x8 + (1 : Int32)) (0 : Int32) u77.2 u80 h0 hu80) rfl yo_X4_wouldFail wm_L_48 wi_X4_wouldFail ws_X4_wouldFail wI_X4 wc_X4_wouldFail (vv_bb_o h0) rfl ⟨Nat.le_of_ble_eq_true rfl, Nat.le_of_ble_eq_true rfl⟩ (vv_rm0 rfl rfl) (Nat.le_of_ble_eq_true rfl) rfl rfl dL_isForetold_161 ?_
        refine vi_if_ne 169 dL_isForetold_164 (by decide) (fun c81 => ?_) (fun c81 => ?_)
        · rw [if_neg c81] at hf
          refine vi_sub (L' := [(0, .ref p0), (2, .long l2), (4, .int x4), (5, .int x5), (6, .int x6), (9, .int x9)]) [0, 1, 2, 3, 4, 6] rfl ?_
          exact t_L_isForetold_169 n  u  p0 l2 x4 x5 x6 x9 u80.2 h0 hf
        · rw [if_pos c81] at hf
          refine vi_iconst (v := (0 : Int32)) dL_isForetold_167 (by decide) ?_
          obtain rfl := Option.some.inj hf
          exact vi_ret (v := some (.int (0 : Int32))) rfl ⟨dL_isForetold_168, .boolean, rfl, rfl⟩ ⟨rfl, rfl, rfl⟩
set_option maxRecDepth 20000 in
theorem t_L_isForetold_78 {S : List vv_Sh} (n : Nat)  (u : Int32 × vv_M)  (p0 : Nat) (l2 : Int64) (x4 : Int32) (x5 : Int32) (x6 : Int32) (x7 : Int32) (x8 : Int32) (x9 : Int32) (M : vv_M) (h0 : vv_bb S p0) (hf : f_L_isForetold_78 n  p0 l2 x4 x5 x6 x7 x8 x9 M = some u) : vv_V [] yL_isForetold.cls yL_isForetold.name cL_isForetold 14 (some .boolean) (vv_R 7 0 0) S.length (vv_sz S) (vv_fi S u) 78 [(0, .ref p0), (2, .long l2), (4, .int x4), (5, .int x5), (6, .int x6), (7, .int x7), (8, .int x8), (9, .int x9)] [] S M := by
  unfold f_L_isForetold_78 at hf
  refine vi_iload 4 dL_isForetold_78 rfl ?_
  refine vi_if_lt 127 dL_isForetold_80 (by decide) (fun c18 => ?_) (fun c18 => ?_)
  · rw [if_pos c18] at hf
    refine vi_iconst (v := (0 : Int32)) dL_isForetold_127 (by decide) ?_
    obtain rfl := Option.some.inj hf
    exact vi_ret (v := some (.int (0 : Int32))) rfl ⟨dL_isForetold_128, .boolean, rfl, rfl⟩ ⟨rfl, rfl, rfl⟩
  · rw [if_neg c18] at hf
    refine vi_iload 4 dL_isForetold_83 rfl ?_
    refine vi_bipush (v := (31 : Int32)) dL_isForetold_85 (by decide) ?_
    refine vi_icmp_gt 127 dL_isForetold_87 (by decide) (fun c19 => ?_) (fun c19 => ?_)
    · rw [if_pos c19] at hf
      refine vi_iconst (v := (0 : Int32)) dL_isForetold_127 (by decide) ?_
      obtain rfl := Option.some.inj hf
      exact vi_ret (v := some (.int (0 : Int32))) rfl ⟨dL_isForetold_128, .boolean, rfl, rfl⟩ ⟨rfl, rfl, rfl⟩
    · rw [if_neg c19] at hf
      refine vi_iload 5 dL_isForetold_90 rfl ?_
      refine vi_if_lt 127 dL_isForetold_92 (by decide) (fun c20 => ?_) (fun c20 => ?_)
      · rw [if_pos c20] at hf
        refine vi_iconst (v := (0 : Int32)) dL_isForetold_127 (by decide) ?_
        obtain rfl := Option.some.inj hf
        exact vi_ret (v := some (.int (0 : Int32))) rfl ⟨dL_isForetold_128, .boolean, rfl, rfl⟩ ⟨rfl, rfl, rfl⟩
      · rw [if_neg c20] at hf
        refine vi_iload 6 dL_isForetold_95 rfl ?_
        refine vi_if_eq 127 dL_isForetold_97 (by decide) (fun c21 => ?_) (fun c21 => ?_)
        · rw [if_pos c21] at hf
          refine vi_iconst (v := (0 : Int32)) dL_isForetold_127 (by decide) ?_
          obtain rfl := Option.some.inj hf
          exact vi_ret (v := some (.int (0 : Int32))) rfl ⟨dL_isForetold_128, .boolean, rfl, rfl⟩ ⟨rfl, rfl, rfl⟩
        · rw [if_neg c21] at hf
          refine vi_iload 6 dL_isForetold_100 rfl ?_
          refine vi_bipush (v := (9 : Int32)) dL_isForetold_102 (by decide) ?_
          refine vi_icmp_gt 127 dL_isForetold_104 (by decide) (fun c22 => ?_) (fun c22 => ?_)
          · rw [if_pos c22] at hf
            refine vi_iconst (v := (0 : Int32)) dL_isForetold_127 (by decide) ?_
            obtain rfl := Option.some.inj hf
            exact vi_ret (v := some (.int (0 : Int32))) rfl ⟨dL_isForetold_128, .boolean, rfl, rfl⟩ ⟨rfl, rfl, rfl⟩
          · rw [if_neg c22] at hf
            refine vi_iload 6 dL_isForetold_107 rfl ?_
            refine vi_sipush (v := (-1009 : Int32)) dL_isForetold_109 (by decide) ?_
            refine vi_icmp_ne 129 dL_isForetold_112 (by decide) (fun c23 => ?_) (fun c23 => ?_)
            · rw [if_neg c23] at hf
              refine vi_sub (L' := [(0, .ref p0), (2, .long l2), (4, .int x4), (5, .int x5), (6, .int x6), (8, .int x8), (9, .int x9)]) [0, 1, 2, 3, 4, 6, 7] rfl ?_
              exact t_L_isForetold_129 n  u  p0 l2 x4 x5 x6 x8 x9 M h0 hf
            · rw [if_pos c23] at hf
              refine vi_aload_n 0 dL_isForetold_115 rfl rfl ?_
              refine vi_iload 2 dL_isForetold_116 rfl ?_
              refine vi_bipush (v := (9 : Int32)) dL_isForetold_118 (by decide) ?_
              refine vi_iconst (v := (0 : Int32)) dL_isForetold_120 (by decide) ?_
              obtain ⟨u82, hu82, hf⟩ := vv_bd hf
              refine vi_callV (As := [.int x4, .int (9 : Int32), .int (0 : Int32)]) (st := []) (t_X4_wouldFail n p0 x4 (9 : Int32) (0 : Int32) M u82 h0 hu82) rfl yo_X4_wouldFail wm_L_48 wi_X4_wouldFail ws_X4_wouldFail wI_X4 wc_X4_wouldFail (vv_bb_o h0) rfl ⟨Nat.le_of_ble_eq_true rfl, Nat.le_of_ble_eq_true rfl⟩ (vv_rm0 rfl rfl) (Nat.le_of_ble_eq_true rfl) rfl rfl dL_isForetold_121 ?_
              refine vi_if_ne 129 dL_isForetold_124 (by decide) (fun c83 => ?_) (fun c83 => ?_)
              · rw [if_neg c83] at hf
                refine vi_sub (L' := [(0, .ref p0), (2, .long l2), (4, .int x4), (5, .int x5), (6, .int x6), (8, .int x8), (9, .int x9)]) [0, 1, 2, 3, 4, 6, 7] rfl ?_
                exact t_L_isForetold_129 n  u  p0 l2 x4 x5 x6 x8 x9 u82.2 h0 hf
              · rw [if_pos c83] at hf
                refine vi_iconst (v := (0 : Int32)) dL_isForetold_127 (by decide) ?_
                obtain rfl := Option.some.inj hf
                exact vi_ret (v := some (.int (0 : Int32))) rfl ⟨dL_isForetold_128, .boolean, rfl, rfl⟩ ⟨rfl, rfl, rfl⟩
set_option maxRecDepth 20000 in
theorem t_L_isForetold_55 {S : List vv_Sh} (n : Nat)  (u : Int32 × vv_M)  (p0 : Nat) (l2 : Int64) (x4 : Int32) (x5 : Int32) (x6 : Int32) (x7 : Int32) (M : vv_M) (h0 : vv_bb S p0) (hf : f_L_isForetold_55 n  p0 l2 x4 x5 x6 x7 M = some u) : vv_V [] yL_isForetold.cls yL_isForetold.name cL_isForetold 14 (some .boolean) (vv_R 7 0 0) S.length (vv_sz S) (vv_fi S u) 55 [(0, .ref p0), (2, .long l2), (4, .int x4), (5, .int x5), (6, .int x6), (7, .int x7)] [] S M := by
  unfold f_L_isForetold_55 at hf
  refine vi_aload_n 0 dL_isForetold_55 rfl rfl ?_
  refine vi_iload 2 dL_isForetold_56 rfl ?_
  obtain ⟨u12, hu12, hf⟩ := vv_bd hf
  refine vi_callV (As := [.int x4]) (st := []) (t_X4_heaviest n p0 x4 M u12 h0 hu12) rfl yo_X4_heaviest wm_L_51 wi_X4_heaviest ws_X4_heaviest wI_X4 wc_X4_heaviest (vv_bb_o h0) rfl ⟨Nat.le_of_ble_eq_true rfl, Nat.le_of_ble_eq_true rfl⟩ (vv_rm0 rfl rfl) (Nat.le_of_ble_eq_true rfl) rfl rfl dL_isForetold_58 ?_
  obtain ⟨y13, ey13, hf⟩ := vv_lt hf
  refine vi_istore (L' := [(8, .int y13), (0, .ref p0), (2, .long l2), (4, .int x4), (5, .int x5), (6, .int x6), (7, .int x7)]) dL_isForetold_61 (by decide) (by rw [ey13]; rfl) ?_
  refine vi_aload_n 1 dL_isForetold_63 rfl rfl ?_
  obtain ⟨u14, hu14, hf⟩ := vv_bd hf
  refine vi_callV (As := []) (st := []) (t_X4_room n p0 u12.2 u14 h0 hu14) rfl yo_X4_room wm_L_54 wi_X4_room ws_X4_room wI_X4 wc_X4_room (vv_bb_o h0) rfl ⟨Nat.le_of_ble_eq_true rfl, Nat.le_of_ble_eq_true rfl⟩ (vv_rm0 rfl rfl) (Nat.le_of_ble_eq_true rfl) rfl rfl dL_isForetold_64 ?_
  obtain ⟨y15, ey15, hf⟩ := vv_lt hf
  refine vi_istore (L' := [(9, .int y15), (8, .int y13), (0, .ref p0), (2, .long l2), (4, .int x4), (5, .int x5), (6, .int x6), (7, .int x7)]) dL_isForetold_67 (by decide) (by rw [ey15]; rfl) ?_
  refine vi_aload_n 2 dL_isForetold_69 rfl rfl ?_
  obtain ⟨u16, hu16, hf⟩ := vv_bd hf
  refine vi_callS (As := [.ref p0]) (st := []) (t_L_all n p0 u14.2 u16 h0 hu16) rfl yo_L_all wm_L_41 wi_L_all wI_L wc_L_all ⟨Nat.le_of_ble_eq_true rfl, Nat.le_of_ble_eq_true rfl⟩ (vv_rm0 rfl rfl) (Nat.le_of_ble_eq_true rfl) rfl rfl dL_isForetold_70 ?_
  refine vi_lload_n 3 dL_isForetold_73 rfl rfl ?_
  refine vi_lcmp dL_isForetold_74 ?_
  refine vi_if_ne 127 dL_isForetold_75 (by decide) (fun c17 => ?_) (fun c17 => ?_)
  · rw [if_neg c17] at hf
    refine vi_iconst (v := (0 : Int32)) dL_isForetold_127 (by decide) ?_
    obtain rfl := Option.some.inj hf
    exact vi_ret (v := some (.int (0 : Int32))) rfl ⟨dL_isForetold_128, .boolean, rfl, rfl⟩ ⟨rfl, rfl, rfl⟩
  · rw [if_pos c17] at hf
    refine vi_sub (L' := [(0, .ref p0), (2, .long l2), (4, .int x4), (5, .int x5), (6, .int x6), (7, .int x7), (8, .int y13), (9, .int y15)]) [2, 3, 4, 5, 6, 7, 1, 0] rfl ?_
    exact t_L_isForetold_78 n  u  p0 l2 x4 x5 x6 x7 y13 y15 u16.2 h0 hf
set_option maxRecDepth 20000 in
theorem t_L_isForetold_24 {S : List vv_Sh} (n : Nat)  (u : Int32 × vv_M)  (p0 : Nat) (x1 : Int32) (l2 : Int64) (x4 : Int32) (x5 : Int32) (M : vv_M) (h0 : vv_bb S p0) (hf : f_L_isForetold_24 n  p0 x1 l2 x4 x5 M = some u) : vv_V [] yL_isForetold.cls yL_isForetold.name cL_isForetold 14 (some .boolean) (vv_R 7 0 0) S.length (vv_sz S) (vv_fi S u) 24 [(0, .ref p0), (1, .int x1), (2, .long l2), (4, .int x4), (5, .int x5)] [] S M := by
  unfold f_L_isForetold_24 at hf
  refine vi_aload_n 0 dL_isForetold_24 rfl rfl ?_
  refine vi_iload 3 dL_isForetold_25 rfl ?_
  refine vi_iload 4 dL_isForetold_27 rfl ?_
  refine vi_iconst (v := (0 : Int32)) dL_isForetold_29 (by decide) ?_
  obtain ⟨u7, hu7, hf⟩ := vv_bd hf
  refine vi_callV (As := [.int x4, .int x5, .int (0 : Int32)]) (st := []) (t_X4_wouldFail n p0 x4 x5 (0 : Int32) M u7 h0 hu7) rfl yo_X4_wouldFail wm_L_48 wi_X4_wouldFail ws_X4_wouldFail wI_X4 wc_X4_wouldFail (vv_bb_o h0) rfl ⟨Nat.le_of_ble_eq_true rfl, Nat.le_of_ble_eq_true rfl⟩ (vv_rm0 rfl rfl) (Nat.le_of_ble_eq_true rfl) rfl rfl dL_isForetold_30 ?_
  obtain ⟨y8, ey8, hf⟩ := vv_lt hf
  refine vi_istore (L' := [(6, .int y8), (0, .ref p0), (1, .int x1), (2, .long l2), (4, .int x4), (5, .int x5)]) dL_isForetold_33 (by decide) (by rw [ey8]; rfl) ?_
  refine vi_aload_n 1 dL_isForetold_35 rfl rfl ?_
  refine vi_iload 4 dL_isForetold_36 rfl ?_
  refine vi_iload 5 dL_isForetold_38 rfl ?_
  refine vi_iconst (v := (1 : Int32)) dL_isForetold_40 (by decide) ?_
  refine vi_iload_n 2 dL_isForetold_41 rfl rfl ?_
  refine vi_bipush (v := (6 : Int32)) dL_isForetold_42 (by decide) ?_
  refine vi_ishr dL_isForetold_44 ?_
  refine vi_iconst (v := (3 : Int32)) dL_isForetold_45 (by decide) ?_
  obtain ⟨u9, hu9, hf⟩ := vv_bd hf
  refine vi_callS (As := [.int (x1 >>> ((6 : Int32) &&& 31)), .int (3 : Int32)]) (st := [.int (1 : Int32), .int x5, .int x4, .ref p0]) (t_L_low n (x1 >>> ((6 : Int32) &&& 31)) (3 : Int32) u7.2 u9  hu9) rfl yo_L_low wm_L_45 wi_L_low wI_L wc_L_low ⟨Nat.le_of_ble_eq_true rfl, Nat.le_of_ble_eq_true rfl⟩ (vv_rm0 rfl rfl) (Nat.le_of_ble_eq_true rfl) rfl rfl dL_isForetold_46 ?_
  refine vi_iadd dL_isForetold_49 ?_
  obtain ⟨u10, hu10, hf⟩ := vv_bd hf
  refine vi_callV (As := [.int x4, .int x5, .int ((1 : Int32) + u9.1)]) (st := []) (t_X4_wouldFail n p0 x4 x5 ((1 : Int32) + u9.1) u9.2 u10 h0 hu10) rfl yo_X4_wouldFail wm_L_48 wi_X4_wouldFail ws_X4_wouldFail wI_X4 wc_X4_wouldFail (vv_bb_o h0) rfl ⟨Nat.le_of_ble_eq_true rfl, Nat.le_of_ble_eq_true rfl⟩ (vv_rm0 rfl rfl) (Nat.le_of_ble_eq_true rfl) rfl rfl dL_isForetold_50 ?_
  obtain ⟨y11, ey11, hf⟩ := vv_lt hf
  refine vi_istore (L' := [(7, .int y11), (6, .int y8), (0, .ref p0), (1, .int x1), (2, .long l2), (4, .int x4), (5, .int x5)]) dL_isForetold_53 (by decide) (by rw [ey11]; rfl) ?_
  refine vi_sub (L' := [(0, .ref p0), (2, .long l2), (4, .int x4), (5, .int x5), (6, .int y8), (7, .int y11)]) [2, 4, 5, 6, 1, 0] rfl ?_
  exact t_L_isForetold_55 n  u  p0 l2 x4 x5 y8 y11 u10.2 h0 hf
set_option maxRecDepth 20000 in
theorem t_L_isForetold {S : List vv_Sh} (n : Nat) (p0 : Nat) (x1 : Int32) (M : vv_M) (u : Int32 × vv_M) (h0 : vv_bb S p0) (hf : f_L_isForetold n p0 x1 M = some u) : vv_C yL_isForetold (vv_w yL_isForetold cL_isForetold 14 (some .boolean)) (vv_R 7 0 0) [.ref p0, .int x1] S M (some (.int u.1)) S u.2 := by
  refine vv_ofV (by decide +kernel) (Nat.le_of_ble_eq_true rfl) (L := [(0, .ref p0), (1, .int x1)]) rfl rfl rfl ?_
  show vv_V [] yL_isForetold.cls yL_isForetold.name cL_isForetold 14 (some .boolean) (vv_R 7 0 0) S.length (vv_sz S) (vv_fi S u) 0 [(0, .ref p0), (1, .int x1)] [] S M
  unfold f_L_isForetold at hf
  refine vi_aload_n 0 dL_isForetold_0 rfl rfl ?_
  obtain ⟨u1, hu1, hf⟩ := vv_bd hf
  refine vi_callS (As := [.ref p0]) (st := []) (t_L_all n p0 M u1 h0 hu1) rfl yo_L_all wm_L_41 wi_L_all wI_L wc_L_all ⟨Nat.le_of_ble_eq_true rfl, Nat.le_of_ble_eq_true rfl⟩ (vv_rm0 rfl rfl) (Nat.le_of_ble_eq_true rfl) rfl rfl dL_isForetold_1 ?_
  obtain ⟨y2, ey2, hf⟩ := vv_lt hf
  refine vi_lstore_n (L' := [(2, .long y2), (0, .ref p0), (1, .int x1)]) dL_isForetold_4 rfl (by decide) (by rw [ey2]; rfl) ?_
  refine vi_iload_n 2 dL_isForetold_5 rfl rfl ?_
  refine vi_iconst (v := (4 : Int32)) dL_isForetold_6 (by decide) ?_
  obtain ⟨u3, hu3, hf⟩ := vv_bd hf
  refine vi_callS (As := [.int x1, .int (4 : Int32)]) (st := []) (t_L_low n x1 (4 : Int32) u1.2 u3  hu3) rfl yo_L_low wm_L_45 wi_L_low wI_L wc_L_low ⟨Nat.le_of_ble_eq_true rfl, Nat.le_of_ble_eq_true rfl⟩ (vv_rm0 rfl rfl) (Nat.le_of_ble_eq_true rfl) rfl rfl dL_isForetold_7 ?_
  obtain ⟨y4, ey4, hf⟩ := vv_lt hf
  refine vi_istore (L' := [(4, .int y4), (2, .long y2), (0, .ref p0), (1, .int x1)]) dL_isForetold_10 (by decide) (by rw [ey4]; rfl) ?_
  refine vi_iconst (v := (1 : Int32)) dL_isForetold_12 (by decide) ?_
  refine vi_iload_n 3 dL_isForetold_13 rfl rfl ?_
  refine vi_iconst (v := (2 : Int32)) dL_isForetold_14 (by decide) ?_
  refine vi_ishr dL_isForetold_15 ?_
  refine vi_bipush (v := (9 : Int32)) dL_isForetold_16 (by decide) ?_
  obtain ⟨u5, hu5, hf⟩ := vv_bd hf
  refine vi_callS (As := [.int (x1 >>> ((2 : Int32) &&& 31)), .int (9 : Int32)]) (st := [.int (1 : Int32)]) (t_L_low n (x1 >>> ((2 : Int32) &&& 31)) (9 : Int32) u3.2 u5  hu5) rfl yo_L_low wm_L_45 wi_L_low wI_L wc_L_low ⟨Nat.le_of_ble_eq_true rfl, Nat.le_of_ble_eq_true rfl⟩ (vv_rm0 rfl rfl) (Nat.le_of_ble_eq_true rfl) rfl rfl dL_isForetold_18 ?_
  refine vi_iadd dL_isForetold_21 ?_
  obtain ⟨y6, ey6, hf⟩ := vv_lt hf
  refine vi_istore (L' := [(5, .int y6), (4, .int y4), (2, .long y2), (0, .ref p0), (1, .int x1)]) dL_isForetold_22 (by decide) (by rw [ey6]; rfl) ?_
  refine vi_sub (L' := [(0, .ref p0), (1, .int x1), (2, .long y2), (4, .int y4), (5, .int y6)]) [3, 4, 2, 1, 0] rfl ?_
  exact t_L_isForetold_24 n  u  p0 x1 y2 y4 y6 u5.2 h0 hf
set_option maxRecDepth 20000 in
theorem t_L_acts_254 {S : List vv_Sh} (n : Nat)  (u : Int32 × vv_M)  (s0 : Nat) (s1 : Int32) (s2 : Int32) (M : vv_M) (g0 : vv_bb S s0) (hf : f_L_acts_254 n  s0 s1 s2 M = some u) : vv_V [] yL_acts.cls yL_acts.name cL_acts 2 (some .int) (vv_R 7 0 0) S.length (vv_sz S) (vv_fi S u) 254 [] [.int s2, .int s1, .ref s0] S M := by
  unfold f_L_acts_254 at hf
  obtain ⟨u47, hu47, hf⟩ := vv_bd hf
  refine vi_callS (As := [.int s1, .int s2]) (st := [.ref s0]) (t_L_low n s1 s2 M u47  hu47) rfl yo_L_low wm_L_45 wi_L_low wI_L wc_L_low ⟨Nat.le_of_ble_eq_true rfl, Nat.le_of_ble_eq_true rfl⟩ (vv_rm0 rfl rfl) (Nat.le_of_ble_eq_true rfl) rfl rfl dL_acts_254 ?_
  obtain ⟨u48, hu48, hf⟩ := vv_bd hf
  refine vi_callV (As := [.int u47.1]) (st := []) (t_X4_pass n s0 u47.1 u47.2 u48 g0 hu48) rfl yo_X4_pass wm_L_64 wi_X4_pass ws_X4_pass wI_X4 wc_X4_pass (vv_bb_o g0) rfl ⟨Nat.le_of_ble_eq_true rfl, Nat.le_of_ble_eq_true rfl⟩ (vv_rm0 rfl rfl) (Nat.le_of_ble_eq_true rfl) rfl rfl dL_acts_257 ?_
  obtain rfl := Option.some.inj hf
  exact vi_ret (v := some (.int u48.1)) rfl ⟨dL_acts_260, .int, rfl, rfl⟩ ⟨rfl, rfl, rfl⟩
set_option maxRecDepth 20000 in
theorem t_L_acts {S : List vv_Sh} (n : Nat) (p0 : Nat) (x1 : Int32) (M : vv_M) (u : Int32 × vv_M) (h0 : vv_bb S p0) (hf : f_L_acts n p0 x1 M = some u) : vv_C yL_acts (vv_w yL_acts cL_acts 2 (some .int)) (vv_R 7 0 0) [.ref p0, .int x1] S M (some (.int u.1)) S u.2 := by
  refine vv_ofV (by decide +kernel) (Nat.le_of_ble_eq_true rfl) (L := [(0, .ref p0), (1, .int x1)]) rfl rfl rfl ?_
  show vv_V [] yL_acts.cls yL_acts.name cL_acts 2 (some .int) (vv_R 7 0 0) S.length (vv_sz S) (vv_fi S u) 0 [(0, .ref p0), (1, .int x1)] [] S M
  unfold f_L_acts at hf
  refine vi_iload_n 1 dL_acts_0 rfl rfl ?_
  refine vi_bipush (v := (14 : Int32)) dL_acts_1 (by decide) ?_
  obtain ⟨u1, hu1, hf⟩ := vv_bd hf
  refine vi_callS (As := [.int x1, .int (14 : Int32)]) (st := []) (t_L_low n x1 (14 : Int32) M u1  hu1) rfl yo_L_low wm_L_45 wi_L_low wI_L wc_L_low ⟨Nat.le_of_ble_eq_true rfl, Nat.le_of_ble_eq_true rfl⟩ (vv_rm0 rfl rfl) (Nat.le_of_ble_eq_true rfl) rfl rfl dL_acts_3 ?_
  by_cases c2 : u1.1 = (0 : Int32)
  · rw [if_pos c2] at hf
    refine vi_tableAt 64 c2 dL_acts_6 (by decide) (by decide) rfl (by decide) ?_
    refine vi_aload_n 0 dL_acts_64 rfl rfl ?_
    refine vi_iload_n 1 dL_acts_65 rfl rfl ?_
    refine vi_iconst (v := (4 : Int32)) dL_acts_66 (by decide) ?_
    refine vi_ishr dL_acts_67 ?_
    refine vi_bipush (v := (7 : Int32)) dL_acts_68 (by decide) ?_
    obtain ⟨u3, hu3, hf⟩ := vv_bd hf
    refine vi_callS (As := [.int (x1 >>> ((4 : Int32) &&& 31)), .int (7 : Int32)]) (st := [.ref p0]) (t_L_low n (x1 >>> ((4 : Int32) &&& 31)) (7 : Int32) u1.2 u3  hu3) rfl yo_L_low wm_L_45 wi_L_low wI_L wc_L_low ⟨Nat.le_of_ble_eq_true rfl, Nat.le_of_ble_eq_true rfl⟩ (vv_rm0 rfl rfl) (Nat.le_of_ble_eq_true rfl) rfl rfl dL_acts_70 ?_
    refine vi_iconst (v := (2 : Int32)) dL_acts_73 (by decide) ?_
    refine vi_iload_n 1 dL_acts_74 rfl rfl ?_
    refine vi_bipush (v := (7 : Int32)) dL_acts_75 (by decide) ?_
    refine vi_ishr dL_acts_77 ?_
    refine vi_bipush (v := (8 : Int32)) dL_acts_78 (by decide) ?_
    obtain ⟨u4, hu4, hf⟩ := vv_bd hf
    refine vi_callS (As := [.int (x1 >>> ((7 : Int32) &&& 31)), .int (8 : Int32)]) (st := [.int (2 : Int32), .int u3.1, .ref p0]) (t_L_low n (x1 >>> ((7 : Int32) &&& 31)) (8 : Int32) u3.2 u4  hu4) rfl yo_L_low wm_L_45 wi_L_low wI_L wc_L_low ⟨Nat.le_of_ble_eq_true rfl, Nat.le_of_ble_eq_true rfl⟩ (vv_rm0 rfl rfl) (Nat.le_of_ble_eq_true rfl) rfl rfl dL_acts_80 ?_
    refine vi_iadd dL_acts_83 ?_
    refine vi_bipush (v := (20 : Int32)) dL_acts_84 (by decide) ?_
    refine vi_iload_n 1 dL_acts_86 rfl rfl ?_
    refine vi_bipush (v := (10 : Int32)) dL_acts_87 (by decide) ?_
    refine vi_ishr dL_acts_89 ?_
    refine vi_sipush (v := (290 : Int32)) dL_acts_90 (by decide) ?_
    obtain ⟨u5, hu5, hf⟩ := vv_bd hf
    refine vi_callS (As := [.int (x1 >>> ((10 : Int32) &&& 31)), .int (290 : Int32)]) (st := [.int (20 : Int32), .int ((2 : Int32) + u4.1), .int u3.1, .ref p0]) (t_L_low n (x1 >>> ((10 : Int32) &&& 31)) (290 : Int32) u4.2 u5  hu5) rfl yo_L_low wm_L_45 wi_L_low wI_L wc_L_low ⟨Nat.le_of_ble_eq_true rfl, Nat.le_of_ble_eq_true rfl⟩ (vv_rm0 rfl rfl) (Nat.le_of_ble_eq_true rfl) rfl rfl dL_acts_93 ?_
    refine vi_iadd dL_acts_96 ?_
    refine vi_iconst (v := (1 : Int32)) dL_acts_97 (by decide) ?_
    refine vi_iload_n 1 dL_acts_98 rfl rfl ?_
    refine vi_bipush (v := (19 : Int32)) dL_acts_99 (by decide) ?_
    refine vi_ishr dL_acts_101 ?_
    refine vi_bipush (v := (21 : Int32)) dL_acts_102 (by decide) ?_
    obtain ⟨u6, hu6, hf⟩ := vv_bd hf
    refine vi_callS (As := [.int (x1 >>> ((19 : Int32) &&& 31)), .int (21 : Int32)]) (st := [.int (1 : Int32), .int ((20 : Int32) + u5.1), .int ((2 : Int32) + u4.1), .int u3.1, .ref p0]) (t_L_low n (x1 >>> ((19 : Int32) &&& 31)) (21 : Int32) u5.2 u6  hu6) rfl yo_L_low wm_L_45 wi_L_low wI_L wc_L_low ⟨Nat.le_of_ble_eq_true rfl, Nat.le_of_ble_eq_true rfl⟩ (vv_rm0 rfl rfl) (Nat.le_of_ble_eq_true rfl) rfl rfl dL_acts_104 ?_
    refine vi_iadd dL_acts_107 ?_
    obtain ⟨u7, hu7, hf⟩ := vv_bd hf
    refine vi_callV (As := [.int u3.1, .int ((2 : Int32) + u4.1), .int ((20 : Int32) + u5.1), .int ((1 : Int32) + u6.1)]) (st := []) (t_X4_setZone n p0 u3.1 ((2 : Int32) + u4.1) ((20 : Int32) + u5.1) ((1 : Int32) + u6.1) u6.2 u7 h0 hu7) rfl yo_X4_setZone wm_L_70 wi_X4_setZone ws_X4_setZone wI_X4 wc_X4_setZone (vv_bb_o h0) rfl ⟨Nat.le_of_ble_eq_true rfl, Nat.le_of_ble_eq_true rfl⟩ (vv_rm0 rfl rfl) (Nat.le_of_ble_eq_true rfl) rfl rfl dL_acts_108 ?_
    obtain rfl := Option.some.inj hf
    exact vi_ret (v := some (.int u7.1)) rfl ⟨dL_acts_111, .int, rfl, rfl⟩ ⟨rfl, rfl, rfl⟩
  rw [if_neg c2] at hf
  by_cases c8 : u1.1 = (1 : Int32)
  · rw [if_pos c8] at hf
    refine vi_tableAt 112 c8 dL_acts_6 (by decide) (by decide) rfl (by decide) ?_
    refine vi_aload_n 0 dL_acts_112 rfl rfl ?_
    refine vi_iload_n 1 dL_acts_113 rfl rfl ?_
    refine vi_iconst (v := (4 : Int32)) dL_acts_114 (by decide) ?_
    refine vi_ishr dL_acts_115 ?_
    refine vi_iconst (v := (4 : Int32)) dL_acts_116 (by decide) ?_
    obtain ⟨u9, hu9, hf⟩ := vv_bd hf
    refine vi_callS (As := [.int (x1 >>> ((4 : Int32) &&& 31)), .int (4 : Int32)]) (st := [.ref p0]) (t_L_low n (x1 >>> ((4 : Int32) &&& 31)) (4 : Int32) u1.2 u9  hu9) rfl yo_L_low wm_L_45 wi_L_low wI_L wc_L_low ⟨Nat.le_of_ble_eq_true rfl, Nat.le_of_ble_eq_true rfl⟩ (vv_rm0 rfl rfl) (Nat.le_of_ble_eq_true rfl) rfl rfl dL_acts_117 ?_
    refine vi_iload_n 1 dL_acts_120 rfl rfl ?_
    refine vi_bipush (v := (6 : Int32)) dL_acts_121 (by decide) ?_
    refine vi_ishr dL_acts_123 ?_
    refine vi_bipush (v := (7 : Int32)) dL_acts_124 (by decide) ?_
    obtain ⟨u10, hu10, hf⟩ := vv_bd hf
    refine vi_callS (As := [.int (x1 >>> ((6 : Int32) &&& 31)), .int (7 : Int32)]) (st := [.int u9.1, .ref p0]) (t_L_low n (x1 >>> ((6 : Int32) &&& 31)) (7 : Int32) u9.2 u10  hu10) rfl yo_L_low wm_L_45 wi_L_low wI_L wc_L_low ⟨Nat.le_of_ble_eq_true rfl, Nat.le_of_ble_eq_true rfl⟩ (vv_rm0 rfl rfl) (Nat.le_of_ble_eq_true rfl) rfl rfl dL_acts_126 ?_
    refine vi_iload_n 1 dL_acts_129 rfl rfl ?_
    refine vi_bipush (v := (9 : Int32)) dL_acts_130 (by decide) ?_
    refine vi_ishr dL_acts_132 ?_
    refine vi_sipush (v := (310 : Int32)) dL_acts_133 (by decide) ?_
    obtain ⟨u11, hu11, hf⟩ := vv_bd hf
    refine vi_callS (As := [.int (x1 >>> ((9 : Int32) &&& 31)), .int (310 : Int32)]) (st := [.int u10.1, .int u9.1, .ref p0]) (t_L_low n (x1 >>> ((9 : Int32) &&& 31)) (310 : Int32) u10.2 u11  hu11) rfl yo_L_low wm_L_45 wi_L_low wI_L wc_L_low ⟨Nat.le_of_ble_eq_true rfl, Nat.le_of_ble_eq_true rfl⟩ (vv_rm0 rfl rfl) (Nat.le_of_ble_eq_true rfl) rfl rfl dL_acts_136 ?_
    obtain ⟨u12, hu12, hf⟩ := vv_bd hf
    refine vi_callV (As := [.int u9.1, .int u10.1, .int u11.1]) (st := []) (t_X4_setCurve n p0 u9.1 u10.1 u11.1 u11.2 u12 h0 hu12) rfl yo_X4_setCurve wm_L_74 wi_X4_setCurve ws_X4_setCurve wI_X4 wc_X4_setCurve (vv_bb_o h0) rfl ⟨Nat.le_of_ble_eq_true rfl, Nat.le_of_ble_eq_true rfl⟩ (vv_rm0 rfl rfl) (Nat.le_of_ble_eq_true rfl) rfl rfl dL_acts_139 ?_
    obtain rfl := Option.some.inj hf
    exact vi_ret (v := some (.int u12.1)) rfl ⟨dL_acts_142, .int, rfl, rfl⟩ ⟨rfl, rfl, rfl⟩
  rw [if_neg c8] at hf
  by_cases c13 : u1.1 = (2 : Int32)
  · rw [if_pos c13] at hf
    refine vi_tableAt 112 c13 dL_acts_6 (by decide) (by decide) rfl (by decide) ?_
    refine vi_aload_n 0 dL_acts_112 rfl rfl ?_
    refine vi_iload_n 1 dL_acts_113 rfl rfl ?_
    refine vi_iconst (v := (4 : Int32)) dL_acts_114 (by decide) ?_
    refine vi_ishr dL_acts_115 ?_
    refine vi_iconst (v := (4 : Int32)) dL_acts_116 (by decide) ?_
    obtain ⟨u14, hu14, hf⟩ := vv_bd hf
    refine vi_callS (As := [.int (x1 >>> ((4 : Int32) &&& 31)), .int (4 : Int32)]) (st := [.ref p0]) (t_L_low n (x1 >>> ((4 : Int32) &&& 31)) (4 : Int32) u1.2 u14  hu14) rfl yo_L_low wm_L_45 wi_L_low wI_L wc_L_low ⟨Nat.le_of_ble_eq_true rfl, Nat.le_of_ble_eq_true rfl⟩ (vv_rm0 rfl rfl) (Nat.le_of_ble_eq_true rfl) rfl rfl dL_acts_117 ?_
    refine vi_iload_n 1 dL_acts_120 rfl rfl ?_
    refine vi_bipush (v := (6 : Int32)) dL_acts_121 (by decide) ?_
    refine vi_ishr dL_acts_123 ?_
    refine vi_bipush (v := (7 : Int32)) dL_acts_124 (by decide) ?_
    obtain ⟨u15, hu15, hf⟩ := vv_bd hf
    refine vi_callS (As := [.int (x1 >>> ((6 : Int32) &&& 31)), .int (7 : Int32)]) (st := [.int u14.1, .ref p0]) (t_L_low n (x1 >>> ((6 : Int32) &&& 31)) (7 : Int32) u14.2 u15  hu15) rfl yo_L_low wm_L_45 wi_L_low wI_L wc_L_low ⟨Nat.le_of_ble_eq_true rfl, Nat.le_of_ble_eq_true rfl⟩ (vv_rm0 rfl rfl) (Nat.le_of_ble_eq_true rfl) rfl rfl dL_acts_126 ?_
    refine vi_iload_n 1 dL_acts_129 rfl rfl ?_
    refine vi_bipush (v := (9 : Int32)) dL_acts_130 (by decide) ?_
    refine vi_ishr dL_acts_132 ?_
    refine vi_sipush (v := (310 : Int32)) dL_acts_133 (by decide) ?_
    obtain ⟨u16, hu16, hf⟩ := vv_bd hf
    refine vi_callS (As := [.int (x1 >>> ((9 : Int32) &&& 31)), .int (310 : Int32)]) (st := [.int u15.1, .int u14.1, .ref p0]) (t_L_low n (x1 >>> ((9 : Int32) &&& 31)) (310 : Int32) u15.2 u16  hu16) rfl yo_L_low wm_L_45 wi_L_low wI_L wc_L_low ⟨Nat.le_of_ble_eq_true rfl, Nat.le_of_ble_eq_true rfl⟩ (vv_rm0 rfl rfl) (Nat.le_of_ble_eq_true rfl) rfl rfl dL_acts_136 ?_
    obtain ⟨u17, hu17, hf⟩ := vv_bd hf
    refine vi_callV (As := [.int u14.1, .int u15.1, .int u16.1]) (st := []) (t_X4_setCurve n p0 u14.1 u15.1 u16.1 u16.2 u17 h0 hu17) rfl yo_X4_setCurve wm_L_74 wi_X4_setCurve ws_X4_setCurve wI_X4 wc_X4_setCurve (vv_bb_o h0) rfl ⟨Nat.le_of_ble_eq_true rfl, Nat.le_of_ble_eq_true rfl⟩ (vv_rm0 rfl rfl) (Nat.le_of_ble_eq_true rfl) rfl rfl dL_acts_139 ?_
    obtain rfl := Option.some.inj hf
    exact vi_ret (v := some (.int u17.1)) rfl ⟨dL_acts_142, .int, rfl, rfl⟩ ⟨rfl, rfl, rfl⟩
  rw [if_neg c13] at hf
  by_cases c18 : u1.1 = (3 : Int32)
  · rw [if_pos c18] at hf
    refine vi_tableAt 143 c18 dL_acts_6 (by decide) (by decide) rfl (by decide) ?_
    refine vi_aload_n 0 dL_acts_143 rfl rfl ?_
    refine vi_iload_n 1 dL_acts_144 rfl rfl ?_
    refine vi_iconst (v := (4 : Int32)) dL_acts_145 (by decide) ?_
    refine vi_ishr dL_acts_146 ?_
    refine vi_iconst (v := (5 : Int32)) dL_acts_147 (by decide) ?_
    obtain ⟨u19, hu19, hf⟩ := vv_bd hf
    refine vi_callS (As := [.int (x1 >>> ((4 : Int32) &&& 31)), .int (5 : Int32)]) (st := [.ref p0]) (t_L_low n (x1 >>> ((4 : Int32) &&& 31)) (5 : Int32) u1.2 u19  hu19) rfl yo_L_low wm_L_45 wi_L_low wI_L wc_L_low ⟨Nat.le_of_ble_eq_true rfl, Nat.le_of_ble_eq_true rfl⟩ (vv_rm0 rfl rfl) (Nat.le_of_ble_eq_true rfl) rfl rfl dL_acts_148 ?_
    refine vi_iload_n 1 dL_acts_151 rfl rfl ?_
    refine vi_bipush (v := (7 : Int32)) dL_acts_152 (by decide) ?_
    refine vi_ishr dL_acts_154 ?_
    refine vi_bipush (v := (22 : Int32)) dL_acts_155 (by decide) ?_
    obtain ⟨u20, hu20, hf⟩ := vv_bd hf
    refine vi_callS (As := [.int (x1 >>> ((7 : Int32) &&& 31)), .int (22 : Int32)]) (st := [.int u19.1, .ref p0]) (t_L_low n (x1 >>> ((7 : Int32) &&& 31)) (22 : Int32) u19.2 u20  hu20) rfl yo_L_low wm_L_45 wi_L_low wI_L wc_L_low ⟨Nat.le_of_ble_eq_true rfl, Nat.le_of_ble_eq_true rfl⟩ (vv_rm0 rfl rfl) (Nat.le_of_ble_eq_true rfl) rfl rfl dL_acts_157 ?_
    obtain ⟨u21, hu21, hf⟩ := vv_bd hf
    refine vi_callV (As := [.int u19.1, .int u20.1]) (st := []) (t_X4_set n p0 u19.1 u20.1 u20.2 u21 h0 hu21) rfl yo_X4_set wm_L_77 wi_X4_set ws_X4_set wI_X4 wc_X4_set (vv_bb_o h0) rfl ⟨Nat.le_of_ble_eq_true rfl, Nat.le_of_ble_eq_true rfl⟩ (vv_rm0 rfl rfl) (Nat.le_of_ble_eq_true rfl) rfl rfl dL_acts_160 ?_
    obtain rfl := Option.some.inj hf
    exact vi_ret (v := some (.int u21.1)) rfl ⟨dL_acts_163, .int, rfl, rfl⟩ ⟨rfl, rfl, rfl⟩
  rw [if_neg c18] at hf
  by_cases c22 : u1.1 = (4 : Int32)
  · rw [if_pos c22] at hf
    refine vi_tableAt 164 c22 dL_acts_6 (by decide) (by decide) rfl (by decide) ?_
    refine vi_aload_n 0 dL_acts_164 rfl rfl ?_
    refine vi_iload_n 1 dL_acts_165 rfl rfl ?_
    refine vi_iconst (v := (4 : Int32)) dL_acts_166 (by decide) ?_
    refine vi_ishr dL_acts_167 ?_
    refine vi_iconst (v := (5 : Int32)) dL_acts_168 (by decide) ?_
    obtain ⟨u23, hu23, hf⟩ := vv_bd hf
    refine vi_callS (As := [.int (x1 >>> ((4 : Int32) &&& 31)), .int (5 : Int32)]) (st := [.ref p0]) (t_L_low n (x1 >>> ((4 : Int32) &&& 31)) (5 : Int32) u1.2 u23  hu23) rfl yo_L_low wm_L_45 wi_L_low wI_L wc_L_low ⟨Nat.le_of_ble_eq_true rfl, Nat.le_of_ble_eq_true rfl⟩ (vv_rm0 rfl rfl) (Nat.le_of_ble_eq_true rfl) rfl rfl dL_acts_169 ?_
    refine vi_iconst (v := (1 : Int32)) dL_acts_172 (by decide) ?_
    refine vi_iload_n 1 dL_acts_173 rfl rfl ?_
    refine vi_bipush (v := (7 : Int32)) dL_acts_174 (by decide) ?_
    refine vi_ishr dL_acts_176 ?_
    refine vi_bipush (v := (10 : Int32)) dL_acts_177 (by decide) ?_
    obtain ⟨u24, hu24, hf⟩ := vv_bd hf
    refine vi_callS (As := [.int (x1 >>> ((7 : Int32) &&& 31)), .int (10 : Int32)]) (st := [.int (1 : Int32), .int u23.1, .ref p0]) (t_L_low n (x1 >>> ((7 : Int32) &&& 31)) (10 : Int32) u23.2 u24  hu24) rfl yo_L_low wm_L_45 wi_L_low wI_L wc_L_low ⟨Nat.le_of_ble_eq_true rfl, Nat.le_of_ble_eq_true rfl⟩ (vv_rm0 rfl rfl) (Nat.le_of_ble_eq_true rfl) rfl rfl dL_acts_179 ?_
    refine vi_iadd dL_acts_182 ?_
    obtain ⟨u25, hu25, hf⟩ := vv_bd hf
    refine vi_callV (As := [.int u23.1, .int ((1 : Int32) + u24.1)]) (st := []) (t_X4_load n p0 u23.1 ((1 : Int32) + u24.1) u24.2 u25 h0 hu25) rfl yo_X4_load wm_L_58 wi_X4_load ws_X4_load wI_X4 wc_X4_load (vv_bb_o h0) rfl ⟨Nat.le_of_ble_eq_true rfl, Nat.le_of_ble_eq_true rfl⟩ (vv_rm0 rfl rfl) (Nat.le_of_ble_eq_true rfl) rfl rfl dL_acts_183 ?_
    obtain rfl := Option.some.inj hf
    exact vi_ret (v := some (.int u25.1)) rfl ⟨dL_acts_186, .int, rfl, rfl⟩ ⟨rfl, rfl, rfl⟩
  rw [if_neg c22] at hf
  by_cases c26 : u1.1 = (5 : Int32)
  · rw [if_pos c26] at hf
    refine vi_tableAt 164 c26 dL_acts_6 (by decide) (by decide) rfl (by decide) ?_
    refine vi_aload_n 0 dL_acts_164 rfl rfl ?_
    refine vi_iload_n 1 dL_acts_165 rfl rfl ?_
    refine vi_iconst (v := (4 : Int32)) dL_acts_166 (by decide) ?_
    refine vi_ishr dL_acts_167 ?_
    refine vi_iconst (v := (5 : Int32)) dL_acts_168 (by decide) ?_
    obtain ⟨u27, hu27, hf⟩ := vv_bd hf
    refine vi_callS (As := [.int (x1 >>> ((4 : Int32) &&& 31)), .int (5 : Int32)]) (st := [.ref p0]) (t_L_low n (x1 >>> ((4 : Int32) &&& 31)) (5 : Int32) u1.2 u27  hu27) rfl yo_L_low wm_L_45 wi_L_low wI_L wc_L_low ⟨Nat.le_of_ble_eq_true rfl, Nat.le_of_ble_eq_true rfl⟩ (vv_rm0 rfl rfl) (Nat.le_of_ble_eq_true rfl) rfl rfl dL_acts_169 ?_
    refine vi_iconst (v := (1 : Int32)) dL_acts_172 (by decide) ?_
    refine vi_iload_n 1 dL_acts_173 rfl rfl ?_
    refine vi_bipush (v := (7 : Int32)) dL_acts_174 (by decide) ?_
    refine vi_ishr dL_acts_176 ?_
    refine vi_bipush (v := (10 : Int32)) dL_acts_177 (by decide) ?_
    obtain ⟨u28, hu28, hf⟩ := vv_bd hf
    refine vi_callS (As := [.int (x1 >>> ((7 : Int32) &&& 31)), .int (10 : Int32)]) (st := [.int (1 : Int32), .int u27.1, .ref p0]) (t_L_low n (x1 >>> ((7 : Int32) &&& 31)) (10 : Int32) u27.2 u28  hu28) rfl yo_L_low wm_L_45 wi_L_low wI_L wc_L_low ⟨Nat.le_of_ble_eq_true rfl, Nat.le_of_ble_eq_true rfl⟩ (vv_rm0 rfl rfl) (Nat.le_of_ble_eq_true rfl) rfl rfl dL_acts_179 ?_
    refine vi_iadd dL_acts_182 ?_
    obtain ⟨u29, hu29, hf⟩ := vv_bd hf
    refine vi_callV (As := [.int u27.1, .int ((1 : Int32) + u28.1)]) (st := []) (t_X4_load n p0 u27.1 ((1 : Int32) + u28.1) u28.2 u29 h0 hu29) rfl yo_X4_load wm_L_58 wi_X4_load ws_X4_load wI_X4 wc_X4_load (vv_bb_o h0) rfl ⟨Nat.le_of_ble_eq_true rfl, Nat.le_of_ble_eq_true rfl⟩ (vv_rm0 rfl rfl) (Nat.le_of_ble_eq_true rfl) rfl rfl dL_acts_183 ?_
    obtain rfl := Option.some.inj hf
    exact vi_ret (v := some (.int u29.1)) rfl ⟨dL_acts_186, .int, rfl, rfl⟩ ⟨rfl, rfl, rfl⟩
  rw [if_neg c26] at hf
  by_cases c30 : u1.1 = (6 : Int32)
  · rw [if_pos c30] at hf
    refine vi_tableAt 164 c30 dL_acts_6 (by decide) (by decide) rfl (by decide) ?_
    refine vi_aload_n 0 dL_acts_164 rfl rfl ?_
    refine vi_iload_n 1 dL_acts_165 rfl rfl ?_
    refine vi_iconst (v := (4 : Int32)) dL_acts_166 (by decide) ?_
    refine vi_ishr dL_acts_167 ?_
    refine vi_iconst (v := (5 : Int32)) dL_acts_168 (by decide) ?_
    obtain ⟨u31, hu31, hf⟩ := vv_bd hf
    refine vi_callS (As := [.int (x1 >>> ((4 : Int32) &&& 31)), .int (5 : Int32)]) (st := [.ref p0]) (t_L_low n (x1 >>> ((4 : Int32) &&& 31)) (5 : Int32) u1.2 u31  hu31) rfl yo_L_low wm_L_45 wi_L_low wI_L wc_L_low ⟨Nat.le_of_ble_eq_true rfl, Nat.le_of_ble_eq_true rfl⟩ (vv_rm0 rfl rfl) (Nat.le_of_ble_eq_true rfl) rfl rfl dL_acts_169 ?_
    refine vi_iconst (v := (1 : Int32)) dL_acts_172 (by decide) ?_
    refine vi_iload_n 1 dL_acts_173 rfl rfl ?_
    refine vi_bipush (v := (7 : Int32)) dL_acts_174 (by decide) ?_
    refine vi_ishr dL_acts_176 ?_
    refine vi_bipush (v := (10 : Int32)) dL_acts_177 (by decide) ?_
    obtain ⟨u32, hu32, hf⟩ := vv_bd hf
    refine vi_callS (As := [.int (x1 >>> ((7 : Int32) &&& 31)), .int (10 : Int32)]) (st := [.int (1 : Int32), .int u31.1, .ref p0]) (t_L_low n (x1 >>> ((7 : Int32) &&& 31)) (10 : Int32) u31.2 u32  hu32) rfl yo_L_low wm_L_45 wi_L_low wI_L wc_L_low ⟨Nat.le_of_ble_eq_true rfl, Nat.le_of_ble_eq_true rfl⟩ (vv_rm0 rfl rfl) (Nat.le_of_ble_eq_true rfl) rfl rfl dL_acts_179 ?_
    refine vi_iadd dL_acts_182 ?_
    obtain ⟨u33, hu33, hf⟩ := vv_bd hf
    refine vi_callV (As := [.int u31.1, .int ((1 : Int32) + u32.1)]) (st := []) (t_X4_load n p0 u31.1 ((1 : Int32) + u32.1) u32.2 u33 h0 hu33) rfl yo_X4_load wm_L_58 wi_X4_load ws_X4_load wI_X4 wc_X4_load (vv_bb_o h0) rfl ⟨Nat.le_of_ble_eq_true rfl, Nat.le_of_ble_eq_true rfl⟩ (vv_rm0 rfl rfl) (Nat.le_of_ble_eq_true rfl) rfl rfl dL_acts_183 ?_
    obtain rfl := Option.some.inj hf
    exact vi_ret (v := some (.int u33.1)) rfl ⟨dL_acts_186, .int, rfl, rfl⟩ ⟨rfl, rfl, rfl⟩
  rw [if_neg c30] at hf
  by_cases c34 : u1.1 = (7 : Int32)
  · rw [if_pos c34] at hf
    refine vi_tableAt 187 c34 dL_acts_6 (by decide) (by decide) rfl (by decide) ?_
    refine vi_aload_n 0 dL_acts_187 rfl rfl ?_
    refine vi_iload_n 1 dL_acts_188 rfl rfl ?_
    refine vi_iconst (v := (4 : Int32)) dL_acts_189 (by decide) ?_
    refine vi_ishr dL_acts_190 ?_
    refine vi_iconst (v := (1 : Int32)) dL_acts_191 (by decide) ?_
    refine vi_aload_n 0 dL_acts_192 rfl rfl ?_
    refine vi_iconst (v := (1 : Int32)) dL_acts_193 (by decide) ?_
    obtain ⟨u35, hu35, hf⟩ := vv_bd hf
    refine vi_callV (As := [.int (1 : Int32)]) (st := [.int (1 : Int32), .int (x1 >>> ((4 : Int32) &&& 31)), .ref p0]) (t_X4_count n p0 (1 : Int32) u1.2 u35 h0 hu35) rfl yo_X4_count wm_L_12 wi_X4_count ws_X4_count wI_X4 wc_X4_count (vv_bb_o h0) rfl ⟨Nat.le_of_ble_eq_true rfl, Nat.le_of_ble_eq_true rfl⟩ (vv_rm0 rfl rfl) (Nat.le_of_ble_eq_true rfl) rfl rfl dL_acts_194 ?_
    refine vi_iadd dL_acts_197 ?_
    obtain ⟨u36, hu36, hf⟩ := vv_bd hf
    refine vi_callS (As := [.int (x1 >>> ((4 : Int32) &&& 31)), .int ((1 : Int32) + u35.1)]) (st := [.ref p0]) (t_L_low n (x1 >>> ((4 : Int32) &&& 31)) ((1 : Int32) + u35.1) u35.2 u36  hu36) rfl yo_L_low wm_L_45 wi_L_low wI_L wc_L_low ⟨Nat.le_of_ble_eq_true rfl, Nat.le_of_ble_eq_true rfl⟩ (vv_rm0 rfl rfl) (Nat.le_of_ble_eq_true rfl) rfl rfl dL_acts_198 ?_
    obtain ⟨u37, hu37, hf⟩ := vv_bd hf
    refine vi_callV (As := [.int u36.1]) (st := []) (t_X4_takeOff n p0 u36.1 u36.2 u37 h0 hu37) rfl yo_X4_takeOff wm_L_80 wi_X4_takeOff ws_X4_takeOff wI_X4 wc_X4_takeOff (vv_bb_o h0) rfl ⟨Nat.le_of_ble_eq_true rfl, Nat.le_of_ble_eq_true rfl⟩ (vv_rm0 rfl rfl) (Nat.le_of_ble_eq_true rfl) rfl rfl dL_acts_201 ?_
    obtain rfl := Option.some.inj hf
    exact vi_ret (v := some (.int u37.1)) rfl ⟨dL_acts_204, .int, rfl, rfl⟩ ⟨rfl, rfl, rfl⟩
  rw [if_neg c34] at hf
  by_cases c38 : u1.1 = (8 : Int32)
  · rw [if_pos c38] at hf
    refine vi_tableAt 205 c38 dL_acts_6 (by decide) (by decide) rfl (by decide) ?_
    refine vi_aload_n 0 dL_acts_205 rfl rfl ?_
    refine vi_iload_n 1 dL_acts_206 rfl rfl ?_
    refine vi_iconst (v := (4 : Int32)) dL_acts_207 (by decide) ?_
    refine vi_ishr dL_acts_208 ?_
    refine vi_iconst (v := (3 : Int32)) dL_acts_209 (by decide) ?_
    obtain ⟨u39, hu39, hf⟩ := vv_bd hf
    refine vi_callS (As := [.int (x1 >>> ((4 : Int32) &&& 31)), .int (3 : Int32)]) (st := [.ref p0]) (t_L_low n (x1 >>> ((4 : Int32) &&& 31)) (3 : Int32) u1.2 u39  hu39) rfl yo_L_low wm_L_45 wi_L_low wI_L wc_L_low ⟨Nat.le_of_ble_eq_true rfl, Nat.le_of_ble_eq_true rfl⟩ (vv_rm0 rfl rfl) (Nat.le_of_ble_eq_true rfl) rfl rfl dL_acts_210 ?_
    obtain ⟨u40, hu40, hf⟩ := vv_bd hf
    refine vi_callV (As := [.int u39.1]) (st := []) (t_X4_take n p0 u39.1 u39.2 u40 h0 hu40) rfl yo_X4_take wm_L_83 wi_X4_take ws_X4_take wI_X4 wc_X4_take (vv_bb_o h0) rfl ⟨Nat.le_of_ble_eq_true rfl, Nat.le_of_ble_eq_true rfl⟩ (vv_rm0 rfl rfl) (Nat.le_of_ble_eq_true rfl) rfl rfl dL_acts_213 ?_
    obtain rfl := Option.some.inj hf
    exact vi_ret (v := some (.int u40.1)) rfl ⟨dL_acts_216, .int, rfl, rfl⟩ ⟨rfl, rfl, rfl⟩
  rw [if_neg c38] at hf
  by_cases c41 : u1.1 = (9 : Int32)
  · rw [if_pos c41] at hf
    refine vi_tableAt 217 c41 dL_acts_6 (by decide) (by decide) rfl (by decide) ?_
    refine vi_aload_n 0 dL_acts_217 rfl rfl ?_
    refine vi_iload_n 1 dL_acts_218 rfl rfl ?_
    refine vi_iconst (v := (4 : Int32)) dL_acts_219 (by decide) ?_
    refine vi_ishr dL_acts_220 ?_
    refine vi_iconst (v := (3 : Int32)) dL_acts_221 (by decide) ?_
    obtain ⟨u42, hu42, hf⟩ := vv_bd hf
    refine vi_callS (As := [.int (x1 >>> ((4 : Int32) &&& 31)), .int (3 : Int32)]) (st := [.ref p0]) (t_L_low n (x1 >>> ((4 : Int32) &&& 31)) (3 : Int32) u1.2 u42  hu42) rfl yo_L_low wm_L_45 wi_L_low wI_L wc_L_low ⟨Nat.le_of_ble_eq_true rfl, Nat.le_of_ble_eq_true rfl⟩ (vv_rm0 rfl rfl) (Nat.le_of_ble_eq_true rfl) rfl rfl dL_acts_222 ?_
    obtain ⟨u43, hu43, hf⟩ := vv_bd hf
    refine vi_callV (As := [.int u42.1]) (st := []) (t_X4_restore n p0 u42.1 u42.2 u43 h0 hu43) rfl yo_X4_restore wm_L_86 wi_X4_restore ws_X4_restore wI_X4 wc_X4_restore (vv_bb_o h0) rfl ⟨Nat.le_of_ble_eq_true rfl, Nat.le_of_ble_eq_true rfl⟩ (vv_rm0 rfl rfl) (Nat.le_of_ble_eq_true rfl) rfl rfl dL_acts_225 ?_
    obtain rfl := Option.some.inj hf
    exact vi_ret (v := some (.int u43.1)) rfl ⟨dL_acts_228, .int, rfl, rfl⟩ ⟨rfl, rfl, rfl⟩
  rw [if_neg c41] at hf
  by_cases c44 : u1.1 = (10 : Int32)
  · rw [if_pos c44] at hf
    refine vi_tableAt 229 c44 dL_acts_6 (by decide) (by decide) rfl (by decide) ?_
    refine vi_aload_n 0 dL_acts_229 rfl rfl ?_
    obtain ⟨u45, hu45, hf⟩ := vv_bd hf
    refine vi_callV (As := []) (st := []) (t_X4_carryOut n p0 u1.2 u45 h0 hu45) rfl yo_X4_carryOut wm_L_89 wi_X4_carryOut ws_X4_carryOut wI_X4 wc_X4_carryOut (vv_bb_o h0) rfl ⟨Nat.le_of_ble_eq_true rfl, Nat.le_of_ble_eq_true rfl⟩ (vv_rm0 rfl rfl) (Nat.le_of_ble_eq_true rfl) rfl rfl dL_acts_230 ?_
    obtain rfl := Option.some.inj hf
    exact vi_ret (v := some (.int u45.1)) rfl ⟨dL_acts_233, .int, rfl, rfl⟩ ⟨rfl, rfl, rfl⟩
  rw [if_neg c44] at hf
  refine vi_tableOut 234 dL_acts_6 (by have nc2 := vv_nk c2 (show (0 : Int32).toInt = 0 from rfl); have nc8 := vv_nk c8 (show (1 : Int32).toInt = 1 from rfl); have nc13 := vv_nk c13 (show (2 : Int32).toInt = 2 from rfl); have nc18 := vv_nk c18 (show (3 : Int32).toInt = 3 from rfl); have nc22 := vv_nk c22 (show (4 : Int32).toInt = 4 from rfl); have nc26 := vv_nk c26 (show (5 : Int32).toInt = 5 from rfl); have nc30 := vv_nk c30 (show (6 : Int32).toInt = 6 from rfl); have nc34 := vv_nk c34 (show (7 : Int32).toInt = 7 from rfl); have nc38 := vv_nk c38 (show (8 : Int32).toInt = 8 from rfl); have nc41 := vv_nk c41 (show (9 : Int32).toInt = 9 from rfl); have nc44 := vv_nk c44 (show (10 : Int32).toInt = 10 from rfl); omega) (by decide) ?_
  refine vi_aload_n 0 dL_acts_234 rfl rfl ?_
  refine vi_iload_n 1 dL_acts_235 rfl rfl ?_
  refine vi_iconst (v := (4 : Int32)) dL_acts_236 (by decide) ?_
  refine vi_ishr dL_acts_237 ?_
  refine vi_iload_n 1 dL_acts_238 rfl rfl ?_
  refine vi_bipush (v := (9 : Int32)) dL_acts_239 (by decide) ?_
  refine vi_ishr dL_acts_241 ?_
  refine vi_iconst (v := (3 : Int32)) dL_acts_242 (by decide) ?_
  refine vi_iand dL_acts_243 ?_
  refine vi_if_ne 252 dL_acts_244 (by decide) (fun c46 => ?_) (fun c46 => ?_)
  · rw [if_neg c46] at hf
    refine vi_bipush (v := (8 : Int32)) dL_acts_252 (by decide) ?_
    refine vi_sub (L' := []) [] rfl ?_
    exact t_L_acts_254 n  u  p0 (x1 >>> ((4 : Int32) &&& 31)) (8 : Int32) u1.2 h0 hf
  · rw [if_pos c46] at hf
    refine vi_bipush (v := (101 : Int32)) dL_acts_247 (by decide) ?_
    refine vi_goto 254 dL_acts_249 (by decide) ?_
    refine vi_sub (L' := []) [] rfl ?_
    exact t_L_acts_254 n  u  p0 (x1 >>> ((4 : Int32) &&& 31)) (101 : Int32) u1.2 h0 hf
