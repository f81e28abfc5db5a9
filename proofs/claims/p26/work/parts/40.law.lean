theorem vv_rmL {S : List vv_Sh} {R' : Room} (h : S.length ≤ 600000 ∧ vv_sz S ≤ 7302250) (h1 : R'.cells = 0) (h2 : R'.slots = 0) : vv_rm room_1 0 0 S R' := by
  unfold vv_rm
  show S.length - 0 + R'.cells ≤ 600000 ∧ vv_sz S - 0 + R'.slots ≤ 7302250
  omega
set_option maxRecDepth 20000 in
theorem t_L_law_234 {S : List vv_Sh} (n : Nat) (sc : List Int32) (hrm : S.length ≤ 600000 ∧ vv_sz S ≤ 7302250)  (u : Int32 × vv_M)  (p1 : Nat) (M : vv_M) (h1 : vv_bb S p1) (hf : f_L_law_234 n sc  p1 M = some u) : vv_V (0 :: sc) yL_law.cls yL_law.name cL_law 8 (some .boolean) room_1 0 0 (vv_fi S u) 234 [(1, .ref p1)] [] S M := by
  unfold f_L_law_234 at hf
  refine vi_aload_n 0 dL_law_234 rfl rfl ?_
  refine vi_iconst (v := (0 : Int32)) dL_law_235 (by decide) ?_
  obtain ⟨u12, hu12, hf⟩ := vv_bd hf
  refine vi_callV (As := [.int (0 : Int32)]) (st := []) (t_X4_count n p1 (0 : Int32) M u12 h1 hu12) rfl yo_X4_count wm_L_12 wi_X4_count ws_X4_count wI_X4 wc_X4_count (vv_bb_o h1) rfl ⟨Nat.le_of_ble_eq_true rfl, Nat.le_of_ble_eq_true rfl⟩ (vv_rmL hrm rfl rfl) (Nat.le_of_ble_eq_true rfl) rfl rfl dL_law_236 ?_
  refine vi_sipush (v := (4900 : Int32)) dL_law_239 (by decide) ?_
  refine vi_icmp_le 249 dL_law_242 (by decide) (fun c13 => ?_) (fun c13 => ?_)
  · rw [if_pos c13] at hf
    refine vi_iconst (v := (0 : Int32)) dL_law_249 (by decide) ?_
    obtain rfl := Option.some.inj hf
    exact vi_ret (v := some (.int (0 : Int32))) rfl ⟨dL_law_250, .boolean, rfl, rfl⟩ ⟨rfl, rfl, rfl⟩
  · rw [if_neg c13] at hf
    refine vi_iconst (v := (1 : Int32)) dL_law_245 (by decide) ?_
    refine vi_goto 250 dL_law_246 (by decide) ?_
    obtain rfl := Option.some.inj hf
    exact vi_ret (v := some (.int (1 : Int32))) rfl ⟨dL_law_250, .boolean, rfl, rfl⟩ ⟨rfl, rfl, rfl⟩
set_option maxRecDepth 20000 in
theorem t_L_law_398 {S : List vv_Sh} (n : Nat) (sc : List Int32) (hrm : S.length ≤ 600000 ∧ vv_sz S ≤ 7302250)  (u : Int32 × vv_M)  (p1 : Nat) (M : vv_M) (h1 : vv_bb S p1) (hf : f_L_law_398 n sc  p1 M = some u) : vv_V (0 :: sc) yL_law.cls yL_law.name cL_law 8 (some .boolean) room_1 0 0 (vv_fi S u) 398 [(1, .ref p1)] [] S M := by
  unfold f_L_law_398 at hf
  refine vi_aload_n 0 dL_law_398 rfl rfl ?_
  refine vi_iconst (v := (4 : Int32)) dL_law_399 (by decide) ?_
  obtain ⟨u44, hu44, hf⟩ := vv_bd hf
  refine vi_callV (As := [.int (4 : Int32)]) (st := []) (t_X4_heaviest n p1 (4 : Int32) M u44 h1 hu44) rfl yo_X4_heaviest wm_L_51 wi_X4_heaviest ws_X4_heaviest wI_X4 wc_X4_heaviest (vv_bb_o h1) rfl ⟨Nat.le_of_ble_eq_true rfl, Nat.le_of_ble_eq_true rfl⟩ (vv_rmL hrm rfl rfl) (Nat.le_of_ble_eq_true rfl) rfl rfl dL_law_400 ?_
  refine vi_sipush (v := (-1001 : Int32)) dL_law_403 (by decide) ?_
  refine vi_icmp_ne 433 dL_law_406 (by decide) (fun c45 => ?_) (fun c45 => ?_)
  · rw [if_neg c45] at hf
    refine vi_iconst (v := (0 : Int32)) dL_law_433 (by decide) ?_
    obtain rfl := Option.some.inj hf
    exact vi_ret (v := some (.int (0 : Int32))) rfl ⟨dL_law_434, .boolean, rfl, rfl⟩ ⟨rfl, rfl, rfl⟩
  · rw [if_pos c45] at hf
    refine vi_aload_n 0 dL_law_409 rfl rfl ?_
    refine vi_iconst (v := (0 : Int32)) dL_law_410 (by decide) ?_
    refine vi_iconst (v := (1 : Int32)) dL_law_411 (by decide) ?_
    refine vi_iconst (v := (4 : Int32)) dL_law_412 (by decide) ?_
    obtain ⟨u46, hu46, hf⟩ := vv_bd hf
    refine vi_callV (As := [.int (0 : Int32), .int (1 : Int32), .int (4 : Int32)]) (st := []) (t_X4_wouldFail n p1 (0 : Int32) (1 : Int32) (4 : Int32) u44.2 u46 h1 hu46) rfl yo_X4_wouldFail wm_L_48 wi_X4_wouldFail ws_X4_wouldFail wI_X4 wc_X4_wouldFail (vv_bb_o h1) rfl ⟨Nat.le_of_ble_eq_true rfl, Nat.le_of_ble_eq_true rfl⟩ (vv_rmL hrm rfl rfl) (Nat.le_of_ble_eq_true rfl) rfl rfl dL_law_413 ?_
    refine vi_sipush (v := (-1001 : Int32)) dL_law_416 (by decide) ?_
    refine vi_icmp_ne 433 dL_law_419 (by decide) (fun c47 => ?_) (fun c47 => ?_)
    · rw [if_neg c47] at hf
      refine vi_iconst (v := (0 : Int32)) dL_law_433 (by decide) ?_
      obtain rfl := Option.some.inj hf
      exact vi_ret (v := some (.int (0 : Int32))) rfl ⟨dL_law_434, .boolean, rfl, rfl⟩ ⟨rfl, rfl, rfl⟩
    · rw [if_pos c47] at hf
      refine vi_aload_n 0 dL_law_422 rfl rfl ?_
      obtain ⟨u48, hu48, hf⟩ := vv_bd hf
      refine vi_callV (As := []) (st := []) (t_X4_faultCells n p1 u46.2 u48 h1 hu48) rfl yo_X4_faultCells wm_L_111 wi_X4_faultCells ws_X4_faultCells wI_X4 wc_X4_faultCells (vv_bb_o h1) rfl ⟨Nat.le_of_ble_eq_true rfl, Nat.le_of_ble_eq_true rfl⟩ (vv_rmL hrm rfl rfl) (Nat.le_of_ble_eq_true rfl) rfl rfl dL_law_423 ?_
      refine vi_if_lt 433 dL_law_426 (by decide) (fun c49 => ?_) (fun c49 => ?_)
      · rw [if_pos c49] at hf
        refine vi_iconst (v := (0 : Int32)) dL_law_433 (by decide) ?_
        obtain rfl := Option.some.inj hf
        exact vi_ret (v := some (.int (0 : Int32))) rfl ⟨dL_law_434, .boolean, rfl, rfl⟩ ⟨rfl, rfl, rfl⟩
      · rw [if_neg c49] at hf
        refine vi_iconst (v := (1 : Int32)) dL_law_429 (by decide) ?_
        refine vi_goto 434 dL_law_430 (by decide) ?_
        obtain rfl := Option.some.inj hf
        exact vi_ret (v := some (.int (1 : Int32))) rfl ⟨dL_law_434, .boolean, rfl, rfl⟩ ⟨rfl, rfl, rfl⟩
set_option maxRecDepth 20000 in
theorem t_L_law_337 {S : List vv_Sh} (n : Nat) (sc : List Int32) (hrm : S.length ≤ 600000 ∧ vv_sz S ≤ 7302250)  (u : Int32 × vv_M)  (p1 : Nat) (M : vv_M) (h1 : vv_bb S p1) (hf : f_L_law_337 n sc  p1 M = some u) : vv_V (0 :: sc) yL_law.cls yL_law.name cL_law 8 (some .boolean) room_1 0 0 (vv_fi S u) 337 [(1, .ref p1)] [] S M := by
  unfold f_L_law_337 at hf
  refine vi_aload_n 0 dL_law_337 rfl rfl ?_
  refine vi_iconst (v := (-1 : Int32)) dL_law_338 (by decide) ?_
  obtain ⟨u34, hu34, hf⟩ := vv_bd hf
  refine vi_callV (As := [.int (-1 : Int32)]) (st := []) (t_X4_restore n p1 (-1 : Int32) M u34 h1 hu34) rfl yo_X4_restore wm_L_86 wi_X4_restore ws_X4_restore wI_X4 wc_X4_restore (vv_bb_o h1) rfl ⟨Nat.le_of_ble_eq_true rfl, Nat.le_of_ble_eq_true rfl⟩ (vv_rmL hrm rfl rfl) (Nat.le_of_ble_eq_true rfl) rfl rfl dL_law_339 ?_
  refine vi_sipush (v := (-1001 : Int32)) dL_law_342 (by decide) ?_
  refine vi_icmp_ne 433 dL_law_345 (by decide) (fun c35 => ?_) (fun c35 => ?_)
  · rw [if_neg c35] at hf
    refine vi_iconst (v := (0 : Int32)) dL_law_433 (by decide) ?_
    obtain rfl := Option.some.inj hf
    exact vi_ret (v := some (.int (0 : Int32))) rfl ⟨dL_law_434, .boolean, rfl, rfl⟩ ⟨rfl, rfl, rfl⟩
  · rw [if_pos c35] at hf
    refine vi_aload_n 0 dL_law_348 rfl rfl ?_
    refine vi_bipush (v := (30 : Int32)) dL_law_349 (by decide) ?_
    refine vi_iconst (v := (0 : Int32)) dL_law_351 (by decide) ?_
    obtain ⟨u36, hu36, hf⟩ := vv_bd hf
    refine vi_callV (As := [.int (30 : Int32), .int (0 : Int32)]) (st := []) (t_X4_board n p1 (30 : Int32) (0 : Int32) u34.2 u36 h1 hu36) rfl yo_X4_board wm_L_25 wi_X4_board ws_X4_board wI_X4 wc_X4_board (vv_bb_o h1) rfl ⟨Nat.le_of_ble_eq_true rfl, Nat.le_of_ble_eq_true rfl⟩ (vv_rmL hrm rfl rfl) (Nat.le_of_ble_eq_true rfl) rfl rfl dL_law_352 ?_
    refine vi_sipush (v := (-1001 : Int32)) dL_law_355 (by decide) ?_
    refine vi_icmp_ne 433 dL_law_358 (by decide) (fun c37 => ?_) (fun c37 => ?_)
    · rw [if_neg c37] at hf
      refine vi_iconst (v := (0 : Int32)) dL_law_433 (by decide) ?_
      obtain rfl := Option.some.inj hf
      exact vi_ret (v := some (.int (0 : Int32))) rfl ⟨dL_law_434, .boolean, rfl, rfl⟩ ⟨rfl, rfl, rfl⟩
    · rw [if_pos c37] at hf
      refine vi_aload_n 0 dL_law_361 rfl rfl ?_
      refine vi_bipush (v := (16 : Int32)) dL_law_362 (by decide) ?_
      obtain ⟨u38, hu38, hf⟩ := vv_bd hf
      refine vi_callV (As := [.int (16 : Int32)]) (st := []) (t_X4_count n p1 (16 : Int32) u36.2 u38 h1 hu38) rfl yo_X4_count wm_L_12 wi_X4_count ws_X4_count wI_X4 wc_X4_count (vv_bb_o h1) rfl ⟨Nat.le_of_ble_eq_true rfl, Nat.le_of_ble_eq_true rfl⟩ (vv_rmL hrm rfl rfl) (Nat.le_of_ble_eq_true rfl) rfl rfl dL_law_364 ?_
      refine vi_sipush (v := (-1001 : Int32)) dL_law_367 (by decide) ?_
      refine vi_icmp_ne 433 dL_law_370 (by decide) (fun c39 => ?_) (fun c39 => ?_)
      · rw [if_neg c39] at hf
        refine vi_iconst (v := (0 : Int32)) dL_law_433 (by decide) ?_
        obtain rfl := Option.some.inj hf
        exact vi_ret (v := some (.int (0 : Int32))) rfl ⟨dL_law_434, .boolean, rfl, rfl⟩ ⟨rfl, rfl, rfl⟩
      · rw [if_pos c39] at hf
        refine vi_aload_n 0 dL_law_373 rfl rfl ?_
        refine vi_iconst (v := (5 : Int32)) dL_law_374 (by decide) ?_
        refine vi_iconst (v := (0 : Int32)) dL_law_375 (by decide) ?_
        obtain ⟨u40, hu40, hf⟩ := vv_bd hf
        refine vi_callV (As := [.int (5 : Int32), .int (0 : Int32)]) (st := []) (t_X4_worstCell n p1 (5 : Int32) (0 : Int32) u38.2 u40 h1 hu40) rfl yo_X4_worstCell wm_L_32 wi_X4_worstCell ws_X4_worstCell wI_X4 wc_X4_worstCell (vv_bb_o h1) rfl ⟨Nat.le_of_ble_eq_true rfl, Nat.le_of_ble_eq_true rfl⟩ (vv_rmL hrm rfl rfl) (Nat.le_of_ble_eq_true rfl) rfl rfl dL_law_376 ?_
        refine vi_sipush (v := (-1001 : Int32)) dL_law_379 (by decide) ?_
        refine vi_icmp_ne 433 dL_law_382 (by decide) (fun c41 => ?_) (fun c41 => ?_)
        · rw [if_neg c41] at hf
          refine vi_iconst (v := (0 : Int32)) dL_law_433 (by decide) ?_
          obtain rfl := Option.some.inj hf
          exact vi_ret (v := some (.int (0 : Int32))) rfl ⟨dL_law_434, .boolean, rfl, rfl⟩ ⟨rfl, rfl, rfl⟩
        · rw [if_pos c41] at hf
          refine vi_aload_n 0 dL_law_385 rfl rfl ?_
          refine vi_bipush (v := (30 : Int32)) dL_law_386 (by decide) ?_
          refine vi_iconst (v := (0 : Int32)) dL_law_388 (by decide) ?_
          obtain ⟨u42, hu42, hf⟩ := vv_bd hf
          refine vi_callV (As := [.int (30 : Int32), .int (0 : Int32)]) (st := []) (t_X4_foretell n p1 (30 : Int32) (0 : Int32) u40.2 u42 h1 hu42) rfl yo_X4_foretell wm_L_61 wi_X4_foretell ws_X4_foretell wI_X4 wc_X4_foretell (vv_bb_o h1) rfl ⟨Nat.le_of_ble_eq_true rfl, Nat.le_of_ble_eq_true rfl⟩ (vv_rmL hrm rfl rfl) (Nat.le_of_ble_eq_true rfl) rfl rfl dL_law_389 ?_
          refine vi_sipush (v := (-1001 : Int32)) dL_law_392 (by decide) ?_
          refine vi_icmp_ne 433 dL_law_395 (by decide) (fun c43 => ?_) (fun c43 => ?_)
          · rw [if_neg c43] at hf
            refine vi_iconst (v := (0 : Int32)) dL_law_433 (by decide) ?_
            obtain rfl := Option.some.inj hf
            exact vi_ret (v := some (.int (0 : Int32))) rfl ⟨dL_law_434, .boolean, rfl, rfl⟩ ⟨rfl, rfl, rfl⟩
          · rw [if_pos c43] at hf
            exact t_L_law_398 n sc hrm  u  p1 u42.2 h1 hf
set_option maxRecDepth 20000 in
theorem t_L_law_293 {S : List vv_Sh} (n : Nat) (sc : List Int32) (hrm : S.length ≤ 600000 ∧ vv_sz S ≤ 7302250)  (u : Int32 × vv_M)  (p1 : Nat) (l3 : Int64) (M : vv_M) (h1 : vv_bb S p1) (hf : f_L_law_293 n sc  p1 l3 M = some u) : vv_V (0 :: sc) yL_law.cls yL_law.name cL_law 8 (some .boolean) room_1 0 0 (vv_fi S u) 293 [(1, .ref p1), (3, .long l3)] [] S M := by
  unfold f_L_law_293 at hf
  refine vi_aload_n 0 dL_law_293 rfl rfl ?_
  obtain ⟨u24, hu24, hf⟩ := vv_bd hf
  refine vi_callS (As := [.ref p1]) (st := []) (t_L_all n p1 M u24 h1 hu24) rfl yo_L_all wm_L_41 wi_L_all wI_L wc_L_all ⟨Nat.le_of_ble_eq_true rfl, Nat.le_of_ble_eq_true rfl⟩ (vv_rmL hrm rfl rfl) (Nat.le_of_ble_eq_true rfl) rfl rfl dL_law_294 ?_
  refine vi_lload_n 1 dL_law_297 rfl rfl ?_
  refine vi_lcmp dL_law_298 ?_
  refine vi_if_ne 433 dL_law_299 (by decide) (fun c25 => ?_) (fun c25 => ?_)
  · rw [if_neg c25] at hf
    refine vi_iconst (v := (0 : Int32)) dL_law_433 (by decide) ?_
    obtain rfl := Option.some.inj hf
    exact vi_ret (v := some (.int (0 : Int32))) rfl ⟨dL_law_434, .boolean, rfl, rfl⟩ ⟨rfl, rfl, rfl⟩
  · rw [if_pos c25] at hf
    refine vi_aload_n 0 dL_law_302 rfl rfl ?_
    obtain ⟨u26, hu26, hf⟩ := vv_bd hf
    refine vi_callV (As := []) (st := []) (t_X4_undo n p1 u24.2 u26 h1 hu26) rfl yo_X4_undo wm_L_67 wi_X4_undo ws_X4_undo wI_X4 wc_X4_undo (vv_bb_o h1) rfl ⟨Nat.le_of_ble_eq_true rfl, Nat.le_of_ble_eq_true rfl⟩ (vv_rmL hrm rfl rfl) (Nat.le_of_ble_eq_true rfl) rfl rfl dL_law_303 ?_
    refine vi_if_lt 433 dL_law_306 (by decide) (fun c27 => ?_) (fun c27 => ?_)
    · rw [if_pos c27] at hf
      refine vi_iconst (v := (0 : Int32)) dL_law_433 (by decide) ?_
      obtain rfl := Option.some.inj hf
      exact vi_ret (v := some (.int (0 : Int32))) rfl ⟨dL_law_434, .boolean, rfl, rfl⟩ ⟨rfl, rfl, rfl⟩
    · rw [if_neg c27] at hf
      refine vi_aload_n 0 dL_law_309 rfl rfl ?_
      refine vi_iconst (v := (1 : Int32)) dL_law_310 (by decide) ?_
      obtain ⟨u28, hu28, hf⟩ := vv_bd hf
      refine vi_callV (As := [.int (1 : Int32)]) (st := []) (t_X4_restore n p1 (1 : Int32) u26.2 u28 h1 hu28) rfl yo_X4_restore wm_L_86 wi_X4_restore ws_X4_restore wI_X4 wc_X4_restore (vv_bb_o h1) rfl ⟨Nat.le_of_ble_eq_true rfl, Nat.le_of_ble_eq_true rfl⟩ (vv_rmL hrm rfl rfl) (Nat.le_of_ble_eq_true rfl) rfl rfl dL_law_311 ?_
      refine vi_if_lt 433 dL_law_314 (by decide) (fun c29 => ?_) (fun c29 => ?_)
      · rw [if_pos c29] at hf
        refine vi_iconst (v := (0 : Int32)) dL_law_433 (by decide) ?_
        obtain rfl := Option.some.inj hf
        exact vi_ret (v := some (.int (0 : Int32))) rfl ⟨dL_law_434, .boolean, rfl, rfl⟩ ⟨rfl, rfl, rfl⟩
      · rw [if_neg c29] at hf
        refine vi_aload_n 0 dL_law_317 rfl rfl ?_
        obtain ⟨u30, hu30, hf⟩ := vv_bd hf
        refine vi_callS (As := [.ref p1]) (st := []) (t_L_all n p1 u28.2 u30 h1 hu30) rfl yo_L_all wm_L_41 wi_L_all wI_L wc_L_all ⟨Nat.le_of_ble_eq_true rfl, Nat.le_of_ble_eq_true rfl⟩ (vv_rmL hrm rfl rfl) (Nat.le_of_ble_eq_true rfl) rfl rfl dL_law_318 ?_
        refine vi_lload_n 1 dL_law_321 rfl rfl ?_
        refine vi_lcmp dL_law_322 ?_
        refine vi_if_ne 433 dL_law_323 (by decide) (fun c31 => ?_) (fun c31 => ?_)
        · rw [if_neg c31] at hf
          refine vi_iconst (v := (0 : Int32)) dL_law_433 (by decide) ?_
          obtain rfl := Option.some.inj hf
          exact vi_ret (v := some (.int (0 : Int32))) rfl ⟨dL_law_434, .boolean, rfl, rfl⟩ ⟨rfl, rfl, rfl⟩
        · rw [if_pos c31] at hf
          refine vi_aload_n 0 dL_law_326 rfl rfl ?_
          refine vi_iconst (v := (2 : Int32)) dL_law_327 (by decide) ?_
          obtain ⟨u32, hu32, hf⟩ := vv_bd hf
          refine vi_callV (As := [.int (2 : Int32)]) (st := []) (t_X4_take n p1 (2 : Int32) u30.2 u32 h1 hu32) rfl yo_X4_take wm_L_83 wi_X4_take ws_X4_take wI_X4 wc_X4_take (vv_bb_o h1) rfl ⟨Nat.le_of_ble_eq_true rfl, Nat.le_of_ble_eq_true rfl⟩ (vv_rmL hrm rfl rfl) (Nat.le_of_ble_eq_true rfl) rfl rfl dL_law_328 ?_
          refine vi_sipush (v := (-1001 : Int32)) dL_law_331 (by decide) ?_
          refine vi_icmp_ne 433 dL_law_334 (by decide) (fun c33 => ?_) (fun c33 => ?_)
          · rw [if_neg c33] at hf
            refine vi_iconst (v := (0 : Int32)) dL_law_433 (by decide) ?_
            obtain rfl := Option.some.inj hf
            exact vi_ret (v := some (.int (0 : Int32))) rfl ⟨dL_law_434, .boolean, rfl, rfl⟩ ⟨rfl, rfl, rfl⟩
          · rw [if_pos c33] at hf
            refine vi_sub (L' := [(1, .ref p1)]) [0] rfl ?_
            exact t_L_law_337 n sc hrm  u  p1 u32.2 h1 hf
set_option maxRecDepth 20000 in
theorem t_L_law_256 {S : List vv_Sh} (n : Nat) (sc : List Int32) (hrm : S.length ≤ 600000 ∧ vv_sz S ≤ 7302250)  (u : Int32 × vv_M)  (p1 : Nat) (l3 : Int64) (M : vv_M) (h1 : vv_bb S p1) (hf : f_L_law_256 n sc  p1 l3 M = some u) : vv_V (0 :: sc) yL_law.cls yL_law.name cL_law 8 (some .boolean) room_1 0 0 (vv_fi S u) 256 [(1, .ref p1), (3, .long l3)] [] S M := by
  unfold f_L_law_256 at hf
  refine vi_aload_n 0 dL_law_256 rfl rfl ?_
  refine vi_bipush (v := (9 : Int32)) dL_law_257 (by decide) ?_
  obtain ⟨u18, hu18, hf⟩ := vv_bd hf
  refine vi_callV (As := [.int (9 : Int32)]) (st := []) (t_X4_pass n p1 (9 : Int32) M u18 h1 hu18) rfl yo_X4_pass wm_L_64 wi_X4_pass ws_X4_pass wI_X4 wc_X4_pass (vv_bb_o h1) rfl ⟨Nat.le_of_ble_eq_true rfl, Nat.le_of_ble_eq_true rfl⟩ (vv_rmL hrm rfl rfl) (Nat.le_of_ble_eq_true rfl) rfl rfl dL_law_259 ?_
  refine vi_pop dL_law_262 rfl ?_
  refine vi_aload_n 0 dL_law_263 rfl rfl ?_
  refine vi_iconst (v := (0 : Int32)) dL_law_264 (by decide) ?_
  refine vi_iconst (v := (1 : Int32)) dL_law_265 (by decide) ?_
  refine vi_sipush (v := (200 : Int32)) dL_law_266 (by decide) ?_
  obtain ⟨u19, hu19, hf⟩ := vv_bd hf
  refine vi_callV (As := [.int (0 : Int32), .int (1 : Int32), .int (200 : Int32)]) (st := []) (t_X4_setCurve n p1 (0 : Int32) (1 : Int32) (200 : Int32) u18.2 u19 h1 hu19) rfl yo_X4_setCurve wm_L_74 wi_X4_setCurve ws_X4_setCurve wI_X4 wc_X4_setCurve (vv_bb_o h1) rfl ⟨Nat.le_of_ble_eq_true rfl, Nat.le_of_ble_eq_true rfl⟩ (vv_rmL hrm rfl rfl) (Nat.le_of_ble_eq_true rfl) rfl rfl dL_law_269 ?_
  refine vi_pop dL_law_272 rfl ?_
  refine vi_aload_n 0 dL_law_273 rfl rfl ?_
  refine vi_iconst (v := (3 : Int32)) dL_law_274 (by decide) ?_
  refine vi_iconst (v := (5 : Int32)) dL_law_275 (by decide) ?_
  obtain ⟨u20, hu20, hf⟩ := vv_bd hf
  refine vi_callV (As := [.int (3 : Int32), .int (5 : Int32)]) (st := []) (t_X4_set n p1 (3 : Int32) (5 : Int32) u19.2 u20 h1 hu20) rfl yo_X4_set wm_L_77 wi_X4_set ws_X4_set wI_X4 wc_X4_set (vv_bb_o h1) rfl ⟨Nat.le_of_ble_eq_true rfl, Nat.le_of_ble_eq_true rfl⟩ (vv_rmL hrm rfl rfl) (Nat.le_of_ble_eq_true rfl) rfl rfl dL_law_276 ?_
  refine vi_pop dL_law_279 rfl ?_
  refine vi_aload_n 0 dL_law_280 rfl rfl ?_
  refine vi_iconst (v := (1 : Int32)) dL_law_281 (by decide) ?_
  obtain ⟨u21, hu21, hf⟩ := vv_bd hf
  refine vi_callV (As := [.int (1 : Int32)]) (st := []) (t_X4_restore n p1 (1 : Int32) u20.2 u21 h1 hu21) rfl yo_X4_restore wm_L_86 wi_X4_restore ws_X4_restore wI_X4 wc_X4_restore (vv_bb_o h1) rfl ⟨Nat.le_of_ble_eq_true rfl, Nat.le_of_ble_eq_true rfl⟩ (vv_rmL hrm rfl rfl) (Nat.le_of_ble_eq_true rfl) rfl rfl dL_law_282 ?_
  refine vi_aload_n 0 dL_law_285 rfl rfl ?_
  refine vi_iconst (v := (0 : Int32)) dL_law_286 (by decide) ?_
  obtain ⟨u22, hu22, hf⟩ := vv_bd hf
  refine vi_callV (As := [.int (0 : Int32)]) (st := [.int u21.1]) (t_X4_count n p1 (0 : Int32) u21.2 u22 h1 hu22) rfl yo_X4_count wm_L_12 wi_X4_count ws_X4_count wI_X4 wc_X4_count (vv_bb_o h1) rfl ⟨Nat.le_of_ble_eq_true rfl, Nat.le_of_ble_eq_true rfl⟩ (vv_rmL hrm rfl rfl) (Nat.le_of_ble_eq_true rfl) rfl rfl dL_law_287 ?_
  refine vi_icmp_ne 433 dL_law_290 (by decide) (fun c23 => ?_) (fun c23 => ?_)
  · rw [if_neg c23] at hf
    refine vi_iconst (v := (0 : Int32)) dL_law_433 (by decide) ?_
    obtain rfl := Option.some.inj hf
    exact vi_ret (v := some (.int (0 : Int32))) rfl ⟨dL_law_434, .boolean, rfl, rfl⟩ ⟨rfl, rfl, rfl⟩
  · rw [if_pos c23] at hf
    exact t_L_law_293 n sc hrm  u  p1 l3 u22.2 h1 hf
set_option maxRecDepth 20000 in
theorem t_L_law_204 {S : List vv_Sh} (n : Nat) (sc : List Int32) (hrm : S.length ≤ 600000 ∧ vv_sz S ≤ 7302250) (k51 : Nat → Int32 → vv_M → Option (Int32 × vv_M)) (u : Int32 × vv_M) (hk51 : ∀ (p1 : Nat) (x3 : Int32) (M : vv_M) (h1 : vv_bb S p1) (hf : k51 p1 x3 M = some u), vv_V (0 :: sc) yL_law.cls yL_law.name cL_law 8 (some .boolean) room_1 0 0 (vv_fi S u) 51 [(0, .float 7), (1, .ref p1), (3, .int x3)] [] S M) (p1 : Nat) (x3 : Int32) (M : vv_M) (h1 : vv_bb S p1) (hf : f_L_law_204 n sc k51 p1 x3 M = some u) : vv_V (0 :: sc) yL_law.cls yL_law.name cL_law 8 (some .boolean) room_1 0 0 (vv_fi S u) 204 [(0, .float 7), (1, .ref p1), (3, .int x3)] [] S M := by
  unfold f_L_law_204 at hf
  obtain ⟨y61, ey61, hf⟩ := vv_lt hf
  refine vi_iinc (v := y61) (L' := [(3, .int y61), (0, .float 7), (1, .ref p1)]) 2 dL_law_204 rfl (by rw [ey61]; rfl) (by decide) rfl ?_
  refine vi_goto 51 dL_law_207 (by decide) ?_
  refine vi_sub (L' := [(0, .float 7), (1, .ref p1), (3, .int y61)]) [1, 2, 0] rfl ?_
  exact hk51 p1 y61 M h1 hf
set_option maxRecDepth 20000 in
theorem t_L_law_182 {S : List vv_Sh} (n : Nat) (sc : List Int32) (hrm : S.length ≤ 600000 ∧ vv_sz S ≤ 7302250) (k51 : Nat → Int32 → vv_M → Option (Int32 × vv_M)) (u : Int32 × vv_M) (hk51 : ∀ (p1 : Nat) (x3 : Int32) (M : vv_M) (h1 : vv_bb S p1) (hf : k51 p1 x3 M = some u), vv_V (0 :: sc) yL_law.cls yL_law.name cL_law 8 (some .boolean) room_1 0 0 (vv_fi S u) 51 [(0, .float 7), (1, .ref p1), (3, .int x3)] [] S M) (p1 : Nat) (x3 : Int32) (x4 : Int32) (M : vv_M) (h1 : vv_bb S p1) (hf : f_L_law_182 n sc k51 p1 x3 x4 M = some u) : vv_V (0 :: sc) yL_law.cls yL_law.name cL_law 8 (some .boolean) room_1 0 0 (vv_fi S u) 182 [(0, .float 7), (1, .ref p1), (3, .int x3), (4, .int x4)] [] S M := by
  unfold f_L_law_182 at hf
  refine vi_iload_n 2 dL_law_182 rfl rfl ?_
  refine vi_bipush (v := (6 : Int32)) dL_law_183 (by decide) ?_
  obtain ⟨g64, hf⟩ := vv_gd hf
  refine vi_irem dL_law_185 g64 ?_
  refine vi_iconst (v := (2 : Int32)) dL_law_186 (by decide) ?_
  refine vi_icmp_ne 204 dL_law_187 (by decide) (fun c60 => ?_) (fun c60 => ?_)
  · rw [if_neg c60] at hf
    refine vi_sub (L' := [(0, .float 7), (1, .ref p1), (3, .int x3)]) [0, 1, 2] rfl ?_
    exact t_L_law_204 n sc hrm k51 u hk51 p1 x3 M h1 hf
  · rw [if_pos c60] at hf
    refine vi_aload_n 1 dL_law_190 rfl rfl ?_
    refine vi_iload 3 dL_law_191 rfl ?_
    refine vi_bipush (v := (7 : Int32)) dL_law_193 (by decide) ?_
    refine vi_ishr dL_law_195 ?_
    obtain ⟨u62, hu62, hf⟩ := vv_bd hf
    refine vi_callS (As := [.ref p1, .int (x4 >>> ((7 : Int32) &&& 31))]) (st := []) (t_L_isForetold n p1 (x4 >>> ((7 : Int32) &&& 31)) M u62 h1 hu62) rfl yo_L_isForetold wm_L_108 wi_L_isForetold wI_L wc_L_isForetold ⟨Nat.le_of_ble_eq_true rfl, Nat.le_of_ble_eq_true rfl⟩ (vv_rmL hrm rfl rfl) (Nat.le_of_ble_eq_true rfl) rfl rfl dL_law_196 ?_
    refine vi_if_ne 204 dL_law_199 (by decide) (fun c63 => ?_) (fun c63 => ?_)
    · rw [if_neg c63] at hf
      refine vi_sub (L' := [(0, .float 7), (1, .ref p1), (3, .int x3)]) [0, 1, 2] rfl ?_
      exact t_L_law_204 n sc hrm k51 u hk51 p1 x3 u62.2 h1 hf
    · rw [if_pos c63] at hf
      refine vi_iconst (v := (0 : Int32)) dL_law_202 (by decide) ?_
      obtain rfl := Option.some.inj hf
      exact vi_ret (v := some (.int (0 : Int32))) rfl ⟨dL_law_203, .boolean, rfl, rfl⟩ ⟨rfl, rfl, rfl⟩
set_option maxRecDepth 20000 in
theorem t_L_law_168 {S : List vv_Sh} (n : Nat) (sc : List Int32) (hrm : S.length ≤ 600000 ∧ vv_sz S ≤ 7302250) (k51 : Nat → Int32 → vv_M → Option (Int32 × vv_M)) (u : Int32 × vv_M) (hk51 : ∀ (p1 : Nat) (x3 : Int32) (M : vv_M) (h1 : vv_bb S p1) (hf : k51 p1 x3 M = some u), vv_V (0 :: sc) yL_law.cls yL_law.name cL_law 8 (some .boolean) room_1 0 0 (vv_fi S u) 51 [(0, .float 7), (1, .ref p1), (3, .int x3)] [] S M) (p1 : Nat) (x3 : Int32) (x4 : Int32) (M : vv_M) (h1 : vv_bb S p1) (hf : f_L_law_168 n sc k51 p1 x3 x4 M = some u) : vv_V (0 :: sc) yL_law.cls yL_law.name cL_law 8 (some .boolean) room_1 0 0 (vv_fi S u) 168 [(0, .float 7), (1, .ref p1), (3, .int x3), (4, .int x4)] [] S M := by
  unfold f_L_law_168 at hf
  refine vi_iload_n 2 dL_law_168 rfl rfl ?_
  refine vi_iconst (v := (3 : Int32)) dL_law_169 (by decide) ?_
  obtain ⟨g67, hf⟩ := vv_gd hf
  refine vi_irem dL_law_170 g67 ?_
  refine vi_iconst (v := (1 : Int32)) dL_law_171 (by decide) ?_
  refine vi_icmp_ne 182 dL_law_172 (by decide) (fun c59 => ?_) (fun c59 => ?_)
  · rw [if_neg c59] at hf
    exact t_L_law_182 n sc hrm k51 u hk51 p1 x3 x4 M h1 hf
  · rw [if_pos c59] at hf
    refine vi_aload_n 1 dL_law_175 rfl rfl ?_
    obtain ⟨u65, hu65, hf⟩ := vv_bd hf
    refine vi_callS (As := [.ref p1]) (st := []) (t_L_isSound n p1 M u65 h1 hu65) rfl yo_L_isSound wm_L_104 wi_L_isSound wI_L wc_L_isSound ⟨Nat.le_of_ble_eq_true rfl, Nat.le_of_ble_eq_true rfl⟩ (vv_rmL hrm rfl rfl) (Nat.le_of_ble_eq_true rfl) rfl rfl dL_law_176 ?_
    refine vi_if_eq 202 dL_law_179 (by decide) (fun c66 => ?_) (fun c66 => ?_)
    · rw [if_pos c66] at hf
      refine vi_iconst (v := (0 : Int32)) dL_law_202 (by decide) ?_
      obtain rfl := Option.some.inj hf
      exact vi_ret (v := some (.int (0 : Int32))) rfl ⟨dL_law_203, .boolean, rfl, rfl⟩ ⟨rfl, rfl, rfl⟩
    · rw [if_neg c66] at hf
      exact t_L_law_182 n sc hrm k51 u hk51 p1 x3 x4 u65.2 h1 hf
set_option maxRecDepth 20000 in
theorem t_L_law_131 {S : List vv_Sh} (n : Nat) (sc : List Int32) (hrm : S.length ≤ 600000 ∧ vv_sz S ≤ 7302250) (k51 : Nat → Int32 → vv_M → Option (Int32 × vv_M)) (u : Int32 × vv_M) (hk51 : ∀ (p1 : Nat) (x3 : Int32) (M : vv_M) (h1 : vv_bb S p1) (hf : k51 p1 x3 M = some u), vv_V (0 :: sc) yL_law.cls yL_law.name cL_law 8 (some .boolean) room_1 0 0 (vv_fi S u) 51 [(0, .float 7), (1, .ref p1), (3, .int x3)] [] S M) (p1 : Nat) (x3 : Int32) (x4 : Int32) (l5 : Int64) (x7 : Int32) (M : vv_M) (h1 : vv_bb S p1) (hf : f_L_law_131 n sc k51 p1 x3 x4 l5 x7 M = some u) : vv_V (0 :: sc) yL_law.cls yL_law.name cL_law 8 (some .boolean) room_1 0 0 (vv_fi S u) 131 [(0, .float 7), (1, .ref p1), (3, .int x3), (4, .int x4), (5, .long l5), (7, .int x7)] [] S M := by
  unfold f_L_law_131 at hf
  refine vi_iload 5 dL_law_131 rfl ?_
  refine vi_sipush (v := (-1000 : Int32)) dL_law_133 (by decide) ?_
  refine vi_icmp_le 168 dL_law_136 (by decide) (fun c58 => ?_) (fun c58 => ?_)
  · rw [if_pos c58] at hf
    refine vi_sub (L' := [(0, .float 7), (1, .ref p1), (3, .int x3), (4, .int x4)]) [0, 1, 2, 3] rfl ?_
    exact t_L_law_168 n sc hrm k51 u hk51 p1 x3 x4 M h1 hf
  · rw [if_neg c58] at hf
    refine vi_iload 3 dL_law_139 rfl ?_
    refine vi_bipush (v := (28 : Int32)) dL_law_141 (by decide) ?_
    refine vi_ishr dL_law_143 ?_
    refine vi_iconst (v := (3 : Int32)) dL_law_144 (by decide) ?_
    refine vi_iand dL_law_145 ?_
    refine vi_if_ne 168 dL_law_146 (by decide) (fun c68 => ?_) (fun c68 => ?_)
    · rw [if_neg c68] at hf
      refine vi_sub (L' := [(0, .float 7), (1, .ref p1), (3, .int x3), (4, .int x4)]) [0, 1, 2, 3] rfl ?_
      exact t_L_law_168 n sc hrm k51 u hk51 p1 x3 x4 M h1 hf
    · rw [if_pos c68] at hf
      refine vi_aload_n 1 dL_law_149 rfl rfl ?_
      obtain ⟨u69, hu69, hf⟩ := vv_bd hf
      refine vi_callV (As := []) (st := []) (t_X4_undo n p1 M u69 h1 hu69) rfl yo_X4_undo wm_L_67 wi_X4_undo ws_X4_undo wI_X4 wc_X4_undo (vv_bb_o h1) rfl ⟨Nat.le_of_ble_eq_true rfl, Nat.le_of_ble_eq_true rfl⟩ (vv_rmL hrm rfl rfl) (Nat.le_of_ble_eq_true rfl) rfl rfl dL_law_150 ?_
      refine vi_if_lt 166 dL_law_153 (by decide) (fun c70 => ?_) (fun c70 => ?_)
      · rw [if_pos c70] at hf
        refine vi_iconst (v := (0 : Int32)) dL_law_166 (by decide) ?_
        obtain rfl := Option.some.inj hf
        exact vi_ret (v := some (.int (0 : Int32))) rfl ⟨dL_law_167, .boolean, rfl, rfl⟩ ⟨rfl, rfl, rfl⟩
      · rw [if_neg c70] at hf
        refine vi_aload_n 1 dL_law_156 rfl rfl ?_
        obtain ⟨u71, hu71, hf⟩ := vv_bd hf
        refine vi_callS (As := [.ref p1]) (st := []) (t_L_all n p1 u69.2 u71 h1 hu71) rfl yo_L_all wm_L_41 wi_L_all wI_L wc_L_all ⟨Nat.le_of_ble_eq_true rfl, Nat.le_of_ble_eq_true rfl⟩ (vv_rmL hrm rfl rfl) (Nat.le_of_ble_eq_true rfl) rfl rfl dL_law_157 ?_
        refine vi_lload 4 dL_law_160 rfl ?_
        refine vi_lcmp dL_law_162 ?_
        refine vi_if_eq 168 dL_law_163 (by decide) (fun c72 => ?_) (fun c72 => ?_)
        · rw [if_pos c72] at hf
          refine vi_sub (L' := [(0, .float 7), (1, .ref p1), (3, .int x3), (4, .int x4)]) [0, 1, 2, 3] rfl ?_
          exact t_L_law_168 n sc hrm k51 u hk51 p1 x3 x4 u71.2 h1 hf
        · rw [if_neg c72] at hf
          refine vi_iconst (v := (0 : Int32)) dL_law_166 (by decide) ?_
          obtain rfl := Option.some.inj hf
          exact vi_ret (v := some (.int (0 : Int32))) rfl ⟨dL_law_167, .boolean, rfl, rfl⟩ ⟨rfl, rfl, rfl⟩
set_option maxRecDepth 20000 in
theorem t_L_law_103 {S : List vv_Sh} (n : Nat) (sc : List Int32) (hrm : S.length ≤ 600000 ∧ vv_sz S ≤ 7302250) (k51 : Nat → Int32 → vv_M → Option (Int32 × vv_M)) (u : Int32 × vv_M) (hk51 : ∀ (p1 : Nat) (x3 : Int32) (M : vv_M) (h1 : vv_bb S p1) (hf : k51 p1 x3 M = some u), vv_V (0 :: sc) yL_law.cls yL_law.name cL_law 8 (some .boolean) room_1 0 0 (vv_fi S u) 51 [(0, .float 7), (1, .ref p1), (3, .int x3)] [] S M) (p1 : Nat) (x3 : Int32) (x4 : Int32) (l5 : Int64) (M : vv_M) (h1 : vv_bb S p1) (hf : f_L_law_103 n sc k51 p1 x3 x4 l5 M = some u) : vv_V (0 :: sc) yL_law.cls yL_law.name cL_law 8 (some .boolean) room_1 0 0 (vv_fi S u) 103 [(0, .float 7), (1, .ref p1), (3, .int x3), (4, .int x4), (5, .long l5)] [] S M := by
  unfold f_L_law_103 at hf
  refine vi_aload_n 1 dL_law_103 rfl rfl ?_
  refine vi_iload 3 dL_law_104 rfl ?_
  obtain ⟨u55, hu55, hf⟩ := vv_bd hf
  refine vi_callS (As := [.ref p1, .int x4]) (st := []) (t_L_acts n p1 x4 M u55 h1 hu55) rfl yo_L_acts wm_L_100 wi_L_acts wI_L wc_L_acts ⟨Nat.le_of_ble_eq_true rfl, Nat.le_of_ble_eq_true rfl⟩ (vv_rmL hrm rfl rfl) (Nat.le_of_ble_eq_true rfl) rfl rfl dL_law_106 ?_
  obtain ⟨y56, ey56, hf⟩ := vv_lt hf
  refine vi_istore (L' := [(7, .int y56), (0, .float 7), (1, .ref p1), (3, .int x3), (4, .int x4), (5, .long l5)]) dL_law_109 (by decide) (by rw [ey56]; rfl) ?_
  refine vi_iload 0 dL_law_111 rfl ?_
  refine vi_sipush (v := (-1000 : Int32)) dL_law_113 (by decide) ?_
  refine vi_icmp_ge 131 dL_law_116 (by decide) (fun c57 => ?_) (fun c57 => ?_)
  · rw [if_pos c57] at hf
    refine vi_sub (L' := [(0, .float 7), (1, .ref p1), (3, .int x3), (4, .int x4), (5, .long l5), (7, .int y56)]) [1, 2, 3, 4, 5, 0] rfl ?_
    exact t_L_law_131 n sc hrm k51 u hk51 p1 x3 x4 l5 y56 u55.2 h1 hf
  · rw [if_neg c57] at hf
    refine vi_aload_n 2 dL_law_119 rfl rfl ?_
    obtain ⟨u73, hu73, hf⟩ := vv_bd hf
    refine vi_callS (As := [.ref p1]) (st := []) (t_L_all n p1 u55.2 u73 h1 hu73) rfl yo_L_all wm_L_41 wi_L_all wI_L wc_L_all ⟨Nat.le_of_ble_eq_true rfl, Nat.le_of_ble_eq_true rfl⟩ (vv_rmL hrm rfl rfl) (Nat.le_of_ble_eq_true rfl) rfl rfl dL_law_120 ?_
    refine vi_lload 5 dL_law_123 rfl ?_
    refine vi_lcmp dL_law_125 ?_
    refine vi_if_eq 131 dL_law_126 (by decide) (fun c74 => ?_) (fun c74 => ?_)
    · rw [if_pos c74] at hf
      refine vi_sub (L' := [(0, .float 7), (1, .ref p1), (3, .int x3), (4, .int x4), (5, .long l5), (7, .int y56)]) [1, 2, 3, 4, 5, 0] rfl ?_
      exact t_L_law_131 n sc hrm k51 u hk51 p1 x3 x4 l5 y56 u73.2 h1 hf
    · rw [if_neg c74] at hf
      refine vi_iconst (v := (0 : Int32)) dL_law_129 (by decide) ?_
      obtain rfl := Option.some.inj hf
      exact vi_ret (v := some (.int (0 : Int32))) rfl ⟨dL_law_130, .boolean, rfl, rfl⟩ ⟨rfl, rfl, rfl⟩
set_option maxRecDepth 20000 in
theorem t_L_law_51 {S : List vv_Sh} (n : Nat) (sc : List Int32) (hrm : S.length ≤ 600000 ∧ vv_sz S ≤ 7302250)  (u : Int32 × vv_M)  : ∀ (k : Nat) (p1 : Nat) (x3 : Int32) (M : vv_M) (h1 : vv_bb S p1) (hf : f_L_law_51 n sc  k p1 x3 M = some u), vv_V (0 :: sc) yL_law.cls yL_law.name cL_law 8 (some .boolean) room_1 0 0 (vv_fi S u) 51 [(0, .float 7), (1, .ref p1), (3, .int x3)] [] S M := by
  intro k
  induction k with
  | zero =>
    intro p1 x3 M h1 hf
    exact absurd (show (none : Option (Int32 × vv_M)) = some u from hf) (by simp)
  | succ k ih =>
    intro p1 x3 M h1 hf
    rw [f_L_law_51.eq_2] at hf
    refine vi_iload_n 2 dL_law_51 rfl rfl ?_
    refine vi_bipush (v := (24 : Int32)) dL_law_52 (by decide) ?_
    refine vi_icmp_ge 210 dL_law_54 (by decide) (fun c8 => ?_) (fun c8 => ?_)
    · rw [if_pos c8] at hf
      refine vi_aload_n 1 dL_law_210 rfl rfl ?_
      refine vi_iconst (v := (1 : Int32)) dL_law_211 (by decide) ?_
      obtain ⟨u9, hu9, hf⟩ := vv_bd hf
      refine vi_callV (As := [.int (1 : Int32)]) (st := []) (t_X4_take n p1 (1 : Int32) M u9 h1 hu9) rfl yo_X4_take wm_L_83 wi_X4_take ws_X4_take wI_X4 wc_X4_take (vv_bb_o h1) rfl ⟨Nat.le_of_ble_eq_true rfl, Nat.le_of_ble_eq_true rfl⟩ (vv_rmL hrm rfl rfl) (Nat.le_of_ble_eq_true rfl) rfl rfl dL_law_212 ?_
      refine vi_aload_n 1 dL_law_215 rfl rfl ?_
      refine vi_iconst (v := (0 : Int32)) dL_law_216 (by decide) ?_
      obtain ⟨u10, hu10, hf⟩ := vv_bd hf
      refine vi_callV (As := [.int (0 : Int32)]) (st := [.int u9.1]) (t_X4_count n p1 (0 : Int32) u9.2 u10 h1 hu10) rfl yo_X4_count wm_L_12 wi_X4_count ws_X4_count wI_X4 wc_X4_count (vv_bb_o h1) rfl ⟨Nat.le_of_ble_eq_true rfl, Nat.le_of_ble_eq_true rfl⟩ (vv_rmL hrm rfl rfl) (Nat.le_of_ble_eq_true rfl) rfl rfl dL_law_217 ?_
      refine vi_icmp_ne 234 dL_law_220 (by decide) (fun c11 => ?_) (fun c11 => ?_)
      · rw [if_neg c11] at hf
        refine vi_sub (L' := [(1, .ref p1)]) [1] rfl ?_
        exact t_L_law_234 n sc hrm  u  p1 u10.2 h1 hf
      · rw [if_pos c11] at hf
        refine vi_aload_n 1 dL_law_223 rfl rfl ?_
        refine vi_iconst (v := (0 : Int32)) dL_law_224 (by decide) ?_
        obtain ⟨u14, hu14, hf⟩ := vv_bd hf
        refine vi_callV (As := [.int (0 : Int32)]) (st := []) (t_X4_count n p1 (0 : Int32) u10.2 u14 h1 hu14) rfl yo_X4_count wm_L_12 wi_X4_count ws_X4_count wI_X4 wc_X4_count (vv_bb_o h1) rfl ⟨Nat.le_of_ble_eq_true rfl, Nat.le_of_ble_eq_true rfl⟩ (vv_rmL hrm rfl rfl) (Nat.le_of_ble_eq_true rfl) rfl rfl dL_law_225 ?_
        refine vi_sipush (v := (4900 : Int32)) dL_law_228 (by decide) ?_
        refine vi_icmp_le 251 dL_law_231 (by decide) (fun c15 => ?_) (fun c15 => ?_)
        · rw [if_pos c15] at hf
          refine vi_aload_n 1 dL_law_251 rfl rfl ?_
          obtain ⟨u16, hu16, hf⟩ := vv_bd hf
          refine vi_callS (As := [.ref p1]) (st := []) (t_L_all n p1 u14.2 u16 h1 hu16) rfl yo_L_all wm_L_41 wi_L_all wI_L wc_L_all ⟨Nat.le_of_ble_eq_true rfl, Nat.le_of_ble_eq_true rfl⟩ (vv_rmL hrm rfl rfl) (Nat.le_of_ble_eq_true rfl) rfl rfl dL_law_252 ?_
          obtain ⟨y17, ey17, hf⟩ := vv_lt hf
          refine vi_lstore_n (L' := [(3, .long y17), (0, .float 7), (1, .ref p1)]) dL_law_255 rfl (by decide) (by rw [ey17]; rfl) ?_
          refine vi_sub (L' := [(1, .ref p1), (3, .long y17)]) [2, 0] rfl ?_
          exact t_L_law_256 n sc hrm  u  p1 y17 u16.2 h1 hf
        · rw [if_neg c15] at hf
          refine vi_sub (L' := [(1, .ref p1)]) [1] rfl ?_
          exact t_L_law_234 n sc hrm  u  p1 u14.2 h1 hf
    · rw [if_neg c8] at hf
      refine vi_aloadf_n 0 dL_law_57 rfl rfl ?_
      refine vi_iconst (v := (1 : Int32)) dL_law_58 (by decide) ?_
      refine vi_iload_n 2 dL_law_59 rfl rfl ?_
      refine vi_iadd dL_law_60 ?_
      obtain ⟨u50, hu50, hf⟩ := vv_bd hf
      refine vi_callSX (As := [.float 7, .int ((1 : Int32) + x3)]) (st := []) (t_L_cell n sc ((1 : Int32) + x3) M u50  hu50) rfl yo_L_cell wm_L_93 wi_L_cell wI_L wc_L_cell ⟨Nat.le_of_ble_eq_true rfl, Nat.le_of_ble_eq_true rfl⟩ (vv_rmL hrm rfl rfl) (Nat.le_of_ble_eq_true rfl) rfl rfl dL_law_61 ?_
      obtain ⟨y51, ey51, hf⟩ := vv_lt hf
      refine vi_istore (L' := [(4, .int y51), (0, .float 7), (1, .ref p1), (3, .int x3)]) dL_law_64 (by decide) (by rw [ey51]; rfl) ?_
      refine vi_aload_n 2 dL_law_66 rfl rfl ?_
      obtain ⟨u52, hu52, hf⟩ := vv_bd hf
      refine vi_callS (As := [.ref p1]) (st := []) (t_L_all n p1 u50.2 u52 h1 hu52) rfl yo_L_all wm_L_41 wi_L_all wI_L wc_L_all ⟨Nat.le_of_ble_eq_true rfl, Nat.le_of_ble_eq_true rfl⟩ (vv_rmL hrm rfl rfl) (Nat.le_of_ble_eq_true rfl) rfl rfl dL_law_67 ?_
      obtain ⟨y53, ey53, hf⟩ := vv_lt hf
      refine vi_lstore (L' := [(5, .long y53), (4, .int y51), (0, .float 7), (1, .ref p1), (3, .int x3)]) dL_law_70 (by decide) (by rw [ey53]; rfl) ?_
      refine vi_iload_n 4 dL_law_72 rfl rfl ?_
      refine vi_iconst (v := (5 : Int32)) dL_law_73 (by decide) ?_
      obtain ⟨g78, hf⟩ := vv_gd hf
      refine vi_irem dL_law_74 g78 ?_
      refine vi_if_ne 103 dL_law_75 (by decide) (fun c54 => ?_) (fun c54 => ?_)
      · rw [if_neg c54] at hf
        refine vi_sub (L' := [(0, .float 7), (1, .ref p1), (3, .int x3), (4, .int y51), (5, .long y53)]) [2, 3, 4, 1, 0] rfl ?_
        exact t_L_law_103 n sc hrm (f_L_law_51 n sc k) u ih p1 x3 y51 y53 u52.2 h1 hf
      · rw [if_pos c54] at hf
        refine vi_aload_n 3 dL_law_78 rfl rfl ?_
        refine vi_bipush (v := (112 : Int32)) dL_law_79 (by decide) ?_
        obtain ⟨u75, hu75, hf⟩ := vv_bd hf
        refine vi_callV (As := [.int (112 : Int32)]) (st := []) (t_X4_append n p1 (112 : Int32) u52.2 u75 h1 hu75) rfl yo_X4_append wm_L_97 wi_X4_append ws_X4_append wI_X4 wc_X4_append (vv_bb_o h1) rfl ⟨Nat.le_of_ble_eq_true rfl, Nat.le_of_ble_eq_true rfl⟩ (vv_rmL hrm rfl rfl) (Nat.le_of_ble_eq_true rfl) rfl rfl dL_law_81 ?_
        refine vi_pop dL_law_84 rfl ?_
        refine vi_aload_n 3 dL_law_85 rfl rfl ?_
        refine vi_bipush (v := (49 : Int32)) dL_law_86 (by decide) ?_
        refine vi_iload 1 dL_law_88 rfl ?_
        refine vi_bipush (v := (20 : Int32)) dL_law_90 (by decide) ?_
        refine vi_ishr dL_law_92 ?_
        refine vi_bipush (v := (9 : Int32)) dL_law_93 (by decide) ?_
        obtain ⟨u76, hu76, hf⟩ := vv_bd hf
        refine vi_callS (As := [.int (y51 >>> ((20 : Int32) &&& 31)), .int (9 : Int32)]) (st := [.int (49 : Int32), .ref p1]) (t_L_low n (y51 >>> ((20 : Int32) &&& 31)) (9 : Int32) u75.2 u76  hu76) rfl yo_L_low wm_L_45 wi_L_low wI_L wc_L_low ⟨Nat.le_of_ble_eq_true rfl, Nat.le_of_ble_eq_true rfl⟩ (vv_rmL hrm rfl rfl) (Nat.le_of_ble_eq_true rfl) rfl rfl dL_law_95 ?_
        refine vi_iadd dL_law_98 ?_
        obtain ⟨u77, hu77, hf⟩ := vv_bd hf
        refine vi_callV (As := [.int ((49 : Int32) + u76.1)]) (st := []) (t_X4_append n p1 ((49 : Int32) + u76.1) u76.2 u77 h1 hu77) rfl yo_X4_append wm_L_97 wi_X4_append ws_X4_append wI_X4 wc_X4_append (vv_bb_o h1) rfl ⟨Nat.le_of_ble_eq_true rfl, Nat.le_of_ble_eq_true rfl⟩ (vv_rmL hrm rfl rfl) (Nat.le_of_ble_eq_true rfl) rfl rfl dL_law_99 ?_
        refine vi_pop dL_law_102 rfl ?_
        refine vi_sub (L' := [(0, .float 7), (1, .ref p1), (3, .int x3), (4, .int y51), (5, .long y53)]) [2, 3, 4, 1, 0] rfl ?_
        exact t_L_law_103 n sc hrm (f_L_law_51 n sc k) u ih p1 x3 y51 y53 u77.2 h1 hf
set_option maxRecDepth 20000 in
theorem t_L_law_49 {S : List vv_Sh} (n : Nat) (sc : List Int32) (hrm : S.length ≤ 600000 ∧ vv_sz S ≤ 7302250)  (u : Int32 × vv_M)  (p1 : Nat) (M : vv_M) (h1 : vv_bb S p1) (hf : f_L_law_49 n sc  p1 M = some u) : vv_V (0 :: sc) yL_law.cls yL_law.name cL_law 8 (some .boolean) room_1 0 0 (vv_fi S u) 49 [(0, .float 7), (1, .ref p1)] [] S M := by
  unfold f_L_law_49 at hf
  refine vi_iconst (v := (0 : Int32)) dL_law_49 (by decide) ?_
  refine vi_istore_n (L' := [(3, .int (0 : Int32)), (0, .float 7), (1, .ref p1)]) dL_law_50 rfl (by decide) rfl ?_
  refine vi_sub (L' := [(0, .float 7), (1, .ref p1), (3, .int (0 : Int32))]) [1, 2, 0] rfl ?_
  exact t_L_law_51 n sc hrm  u  n p1 (0 : Int32) M h1 hf
set_option maxRecDepth 20000 in
theorem t_L_law_8 {S : List vv_Sh} (n : Nat) (sc : List Int32) (hrm : S.length ≤ 600000 ∧ vv_sz S ≤ 7302250)  (u : Int32 × vv_M)  (p1 : Nat) (M : vv_M) (h1 : vv_bb S p1) (hf : f_L_law_8 n sc  p1 M = some u) : vv_V (0 :: sc) yL_law.cls yL_law.name cL_law 8 (some .boolean) room_1 0 0 (vv_fi S u) 8 [(0, .float 7), (1, .ref p1)] [] S M := by
  unfold f_L_law_8 at hf
  refine vi_aloadf_n 0 dL_law_8 rfl rfl ?_
  refine vi_iconst (v := (0 : Int32)) dL_law_9 (by decide) ?_
  obtain ⟨u1, hu1, hf⟩ := vv_bd hf
  refine vi_callSX (As := [.float 7, .int (0 : Int32)]) (st := []) (t_L_cell n sc (0 : Int32) M u1  hu1) rfl yo_L_cell wm_L_93 wi_L_cell wI_L wc_L_cell ⟨Nat.le_of_ble_eq_true rfl, Nat.le_of_ble_eq_true rfl⟩ (vv_rmL hrm rfl rfl) (Nat.le_of_ble_eq_true rfl) rfl rfl dL_law_10 ?_
  obtain ⟨y2, ey2, hf⟩ := vv_lt hf
  refine vi_istore_n (L' := [(2, .int y2), (0, .float 7), (1, .ref p1)]) dL_law_13 rfl (by decide) (by rw [ey2]; rfl) ?_
  refine vi_aload_n 2 dL_law_14 rfl rfl ?_
  refine vi_iconst (v := (2 : Int32)) dL_law_15 (by decide) ?_
  refine vi_iload_n 0 dL_law_16 rfl rfl ?_
  refine vi_bipush (v := (12 : Int32)) dL_law_17 (by decide) ?_
  obtain ⟨u3, hu3, hf⟩ := vv_bd hf
  refine vi_callS (As := [.int y2, .int (12 : Int32)]) (st := [.int (2 : Int32), .ref p1]) (t_L_low n y2 (12 : Int32) u1.2 u3  hu3) rfl yo_L_low wm_L_45 wi_L_low wI_L wc_L_low ⟨Nat.le_of_ble_eq_true rfl, Nat.le_of_ble_eq_true rfl⟩ (vv_rmL hrm rfl rfl) (Nat.le_of_ble_eq_true rfl) rfl rfl dL_law_19 ?_
  obtain ⟨u4, hu4, hf⟩ := vv_bd hf
  refine vi_callV (As := [.int (2 : Int32), .int u3.1]) (st := []) (t_X4_set n p1 (2 : Int32) u3.1 u3.2 u4 h1 hu4) rfl yo_X4_set wm_L_77 wi_X4_set ws_X4_set wI_X4 wc_X4_set (vv_bb_o h1) rfl ⟨Nat.le_of_ble_eq_true rfl, Nat.le_of_ble_eq_true rfl⟩ (vv_rmL hrm rfl rfl) (Nat.le_of_ble_eq_true rfl) rfl rfl dL_law_22 ?_
  refine vi_pop dL_law_25 rfl ?_
  refine vi_aload_n 2 dL_law_26 rfl rfl ?_
  refine vi_iload_n 0 dL_law_27 rfl rfl ?_
  refine vi_iconst (v := (4 : Int32)) dL_law_28 (by decide) ?_
  refine vi_ishr dL_law_29 ?_
  refine vi_iconst (v := (4 : Int32)) dL_law_30 (by decide) ?_
  obtain ⟨u5, hu5, hf⟩ := vv_bd hf
  refine vi_callS (As := [.int (y2 >>> ((4 : Int32) &&& 31)), .int (4 : Int32)]) (st := [.ref p1]) (t_L_low n (y2 >>> ((4 : Int32) &&& 31)) (4 : Int32) u4.2 u5  hu5) rfl yo_L_low wm_L_45 wi_L_low wI_L wc_L_low ⟨Nat.le_of_ble_eq_true rfl, Nat.le_of_ble_eq_true rfl⟩ (vv_rmL hrm rfl rfl) (Nat.le_of_ble_eq_true rfl) rfl rfl dL_law_31 ?_
  refine vi_iconst (v := (1 : Int32)) dL_law_34 (by decide) ?_
  refine vi_iload_n 0 dL_law_35 rfl rfl ?_
  refine vi_bipush (v := (7 : Int32)) dL_law_36 (by decide) ?_
  refine vi_ishr dL_law_38 ?_
  refine vi_bipush (v := (9 : Int32)) dL_law_39 (by decide) ?_
  obtain ⟨u6, hu6, hf⟩ := vv_bd hf
  refine vi_callS (As := [.int (y2 >>> ((7 : Int32) &&& 31)), .int (9 : Int32)]) (st := [.int (1 : Int32), .int u5.1, .ref p1]) (t_L_low n (y2 >>> ((7 : Int32) &&& 31)) (9 : Int32) u5.2 u6  hu6) rfl yo_L_low wm_L_45 wi_L_low wI_L wc_L_low ⟨Nat.le_of_ble_eq_true rfl, Nat.le_of_ble_eq_true rfl⟩ (vv_rmL hrm rfl rfl) (Nat.le_of_ble_eq_true rfl) rfl rfl dL_law_41 ?_
  refine vi_iadd dL_law_44 ?_
  obtain ⟨u7, hu7, hf⟩ := vv_bd hf
  refine vi_callV (As := [.int u5.1, .int ((1 : Int32) + u6.1)]) (st := []) (t_X4_load n p1 u5.1 ((1 : Int32) + u6.1) u6.2 u7 h1 hu7) rfl yo_X4_load wm_L_58 wi_X4_load ws_X4_load wI_X4 wc_X4_load (vv_bb_o h1) rfl ⟨Nat.le_of_ble_eq_true rfl, Nat.le_of_ble_eq_true rfl⟩ (vv_rmL hrm rfl rfl) (Nat.le_of_ble_eq_true rfl) rfl rfl dL_law_45 ?_
  refine vi_pop dL_law_48 rfl ?_
  refine vi_sub (L' := [(0, .float 7), (1, .ref p1)]) [1, 2] rfl ?_
  exact t_L_law_49 n sc hrm  u  p1 u7.2 h1 hf
