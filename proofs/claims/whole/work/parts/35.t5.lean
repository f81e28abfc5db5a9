set_option maxRecDepth 20000 in
theorem t_X5_firstCell_4 {S : List vv_Sh} (n : Nat)  (u : Int32 × vv_M)  : ∀ (k : Nat) (p0 : Nat) (x1 : Int32) (x2 : Int32) (x3 : Int32) (M : vv_M) (h0 : vv_model S p0) (hf : f_X5_firstCell_4 n  k p0 x1 x2 x3 M = some u), vv_V [] yX5_firstCell.cls yX5_firstCell.name cX5_firstCell 4 (some .int) (vv_R 1 0 0) S.length (vv_sz S) (vv_fi S u) 4 [(0, .ref p0), (1, .int x1), (2, .int x2), (3, .int x3)] [] S M := by
  intro k
  induction k with
  | zero =>
    intro p0 x1 x2 x3 M h0 hf
    exact absurd (show (none : Option (Int32 × vv_M)) = some u from hf) (by simp)
  | succ k ih =>
    intro p0 x1 x2 x3 M h0 hf
    rw [f_X5_firstCell_4.eq_2] at hf
    refine vi_iload_n 3 dX5_firstCell_4 rfl rfl ?_
    refine vi_iload_n 1 dX5_firstCell_5 rfl rfl ?_
    refine vi_icmp_ge 28 dX5_firstCell_6 (by decide) (fun c1 => ?_) (fun c1 => ?_)
    · rw [if_pos c1] at hf
      refine vi_iload_n 2 dX5_firstCell_28 rfl rfl ?_
      obtain rfl := Option.some.inj hf
      exact vi_ret (v := some (.int x2)) rfl ⟨dX5_firstCell_29, .int, rfl, rfl⟩ ⟨rfl, rfl, rfl⟩
    · rw [if_neg c1] at hf
      refine vi_iload_n 2 dX5_firstCell_9 rfl rfl ?_
      refine vi_aload_n 0 dX5_firstCell_10 rfl rfl ?_
      refine vi_getr (t := p0 + 1) 0 rfl (vv_model_o h0) rfl wu_X5 (by decide) wf_X5_7 dX5_firstCell_11 ?_
      refine vi_iload_n 3 dX5_firstCell_14 rfl rfl ?_
      refine vi_iconst (v := (0 : Int32)) dX5_firstCell_15 (by decide) ?_
      obtain ⟨u2, hu2, hf⟩ := vv_bd hf
      refine vi_callS (As := [.int x3, .int (0 : Int32)]) (st := [.ref (p0 + 1), .int x2]) (t_X5_ofZone n x3 (0 : Int32) M u2  hu2) rfl yo_X5_ofZone wm_X5_16 wi_X5_ofZone wI_X5 wc_X5_ofZone ⟨Nat.le_of_ble_eq_true rfl, Nat.le_of_ble_eq_true rfl⟩ (vv_rm0 rfl rfl) (Nat.le_of_ble_eq_true rfl) rfl rfl dX5_firstCell_16 ?_
      obtain ⟨g5, hf⟩ := vv_gd hf
      refine vi_iald (vv_model_row h0) g5 dX5_firstCell_19 ?_
      refine vi_iadd dX5_firstCell_20 ?_
      obtain ⟨y3, ey3, hf⟩ := vv_lt hf
      refine vi_istore_n (L' := [(2, .int y3), (0, .ref p0), (1, .int x1), (3, .int x3)]) dX5_firstCell_21 rfl (by decide) (by rw [ey3]; rfl) ?_
      obtain ⟨y4, ey4, hf⟩ := vv_lt hf
      refine vi_iinc (v := y4) (L' := [(3, .int y4), (2, .int y3), (0, .ref p0), (1, .int x1)]) 3 dX5_firstCell_22 rfl (by rw [ey4]; rfl) (by decide) rfl ?_
      refine vi_goto 4 dX5_firstCell_25 (by decide) ?_
      refine vi_sub (L' := [(0, .ref p0), (1, .int x1), (2, .int y3), (3, .int y4)]) [2, 3, 1, 0] rfl ?_
      exact ih p0 x1 y3 y4 u2.2 h0 hf
set_option maxRecDepth 20000 in
theorem t_X5_firstCell {S : List vv_Sh} (n : Nat) (p0 : Nat) (x1 : Int32) (M : vv_M) (u : Int32 × vv_M) (h0 : vv_model S p0) (hf : f_X5_firstCell n p0 x1 M = some u) : vv_C yX5_firstCell (vv_w yX5_firstCell cX5_firstCell 4 (some .int)) (vv_R 1 0 0) [.ref p0, .int x1] S M (some (.int u.1)) S u.2 := by
  refine vv_ofV (by decide +kernel) (Nat.le_of_ble_eq_true rfl) (L := [(0, .ref p0), (1, .int x1)]) rfl rfl rfl ?_
  show vv_V [] yX5_firstCell.cls yX5_firstCell.name cX5_firstCell 4 (some .int) (vv_R 1 0 0) S.length (vv_sz S) (vv_fi S u) 0 [(0, .ref p0), (1, .int x1)] [] S M
  unfold f_X5_firstCell at hf
  refine vi_iconst (v := (0 : Int32)) dX5_firstCell_0 (by decide) ?_
  refine vi_istore_n (L' := [(2, .int (0 : Int32)), (0, .ref p0), (1, .int x1)]) dX5_firstCell_1 rfl (by decide) rfl ?_
  refine vi_iconst (v := (0 : Int32)) dX5_firstCell_2 (by decide) ?_
  refine vi_istore_n (L' := [(3, .int (0 : Int32)), (2, .int (0 : Int32)), (0, .ref p0), (1, .int x1)]) dX5_firstCell_3 rfl (by decide) rfl ?_
  refine vi_sub (L' := [(0, .ref p0), (1, .int x1), (2, .int (0 : Int32)), (3, .int (0 : Int32))]) [2, 3, 1, 0] rfl ?_
  exact t_X5_firstCell_4 n  u  n p0 x1 (0 : Int32) (0 : Int32) M h0 hf
set_option maxRecDepth 20000 in
theorem t_X5_boardsIn_47 {S : List vv_Sh} (n : Nat) (k4 : Nat → Int32 → Int32 → Int32 → vv_M → Option (Int32 × vv_M)) (u : Int32 × vv_M) (hk4 : ∀ (p0 : Nat) (x1 : Int32) (x2 : Int32) (x3 : Int32) (M : vv_M) (h0 : vv_model S p0) (hf : k4 p0 x1 x2 x3 M = some u), vv_V [] yX5_boardsIn.cls yX5_boardsIn.name cX5_boardsIn 4 (some .int) (vv_R 2 0 0) S.length (vv_sz S) (vv_fi S u) 4 [(0, .ref p0), (1, .int x1), (2, .int x2), (3, .int x3)] [] S M) (p0 : Nat) (x1 : Int32) (x3 : Int32) (s0 : Int32) (s1 : Int32) (M : vv_M) (h0 : vv_model S p0) (hf : f_X5_boardsIn_47 n k4 p0 x1 x3 s0 s1 M = some u) : vv_V [] yX5_boardsIn.cls yX5_boardsIn.name cX5_boardsIn 4 (some .int) (vv_R 2 0 0) S.length (vv_sz S) (vv_fi S u) 47 [(0, .ref p0), (1, .int x1), (3, .int x3)] [.int s1, .int s0] S M := by
  unfold f_X5_boardsIn_47 at hf
  refine vi_iadd dX5_boardsIn_47 ?_
  obtain ⟨y4, ey4, hf⟩ := vv_lt hf
  refine vi_istore_n (L' := [(2, .int y4), (0, .ref p0), (1, .int x1), (3, .int x3)]) dX5_boardsIn_48 rfl (by decide) (by rw [ey4]; rfl) ?_
  obtain ⟨y5, ey5, hf⟩ := vv_lt hf
  refine vi_iinc (v := y5) (L' := [(3, .int y5), (2, .int y4), (0, .ref p0), (1, .int x1)]) 3 dX5_boardsIn_49 rfl (by rw [ey5]; rfl) (by decide) rfl ?_
  refine vi_goto 4 dX5_boardsIn_52 (by decide) ?_
  refine vi_sub (L' := [(0, .ref p0), (1, .int x1), (2, .int y4), (3, .int y5)]) [2, 3, 1, 0] rfl ?_
  exact hk4 p0 x1 y4 y5 M h0 hf
set_option maxRecDepth 20000 in
theorem t_X5_boardsIn_46 {S : List vv_Sh} (n : Nat) (k4 : Nat → Int32 → Int32 → Int32 → vv_M → Option (Int32 × vv_M)) (u : Int32 × vv_M) (hk4 : ∀ (p0 : Nat) (x1 : Int32) (x2 : Int32) (x3 : Int32) (M : vv_M) (h0 : vv_model S p0) (hf : k4 p0 x1 x2 x3 M = some u), vv_V [] yX5_boardsIn.cls yX5_boardsIn.name cX5_boardsIn 4 (some .int) (vv_R 2 0 0) S.length (vv_sz S) (vv_fi S u) 4 [(0, .ref p0), (1, .int x1), (2, .int x2), (3, .int x3)] [] S M) (p0 : Nat) (x1 : Int32) (x3 : Int32) (s0 : Int32) (M : vv_M) (h0 : vv_model S p0) (hf : f_X5_boardsIn_46 n k4 p0 x1 x3 s0 M = some u) : vv_V [] yX5_boardsIn.cls yX5_boardsIn.name cX5_boardsIn 4 (some .int) (vv_R 2 0 0) S.length (vv_sz S) (vv_fi S u) 46 [(0, .ref p0), (1, .int x1), (3, .int x3)] [.int s0] S M := by
  unfold f_X5_boardsIn_46 at hf
  refine vi_iconst (v := (0 : Int32)) dX5_boardsIn_46 (by decide) ?_
  exact t_X5_boardsIn_47 n k4 u hk4 p0 x1 x3 s0 (0 : Int32) M h0 hf
set_option maxRecDepth 20000 in
theorem t_X5_boardsIn_4 {S : List vv_Sh} (n : Nat)  (u : Int32 × vv_M)  : ∀ (k : Nat) (p0 : Nat) (x1 : Int32) (x2 : Int32) (x3 : Int32) (M : vv_M) (h0 : vv_model S p0) (hf : f_X5_boardsIn_4 n  k p0 x1 x2 x3 M = some u), vv_V [] yX5_boardsIn.cls yX5_boardsIn.name cX5_boardsIn 4 (some .int) (vv_R 2 0 0) S.length (vv_sz S) (vv_fi S u) 4 [(0, .ref p0), (1, .int x1), (2, .int x2), (3, .int x3)] [] S M := by
  intro k
  induction k with
  | zero =>
    intro p0 x1 x2 x3 M h0 hf
    exact absurd (show (none : Option (Int32 × vv_M)) = some u from hf) (by simp)
  | succ k ih =>
    intro p0 x1 x2 x3 M h0 hf
    rw [f_X5_boardsIn_4.eq_2] at hf
    refine vi_iload_n 3 dX5_boardsIn_4 rfl rfl ?_
    refine vi_aload_n 0 dX5_boardsIn_5 rfl rfl ?_
    refine vi_getr (t := p0 + 1) 0 rfl (vv_model_o h0) rfl wu_X5 (by decide) wf_X5_7 dX5_boardsIn_6 ?_
    refine vi_bipush (v := (53 : Int32)) dX5_boardsIn_9 (by decide) ?_
    obtain ⟨g10, hf⟩ := vv_gd hf
    refine vi_iald (vv_model_row h0) g10 dX5_boardsIn_11 ?_
    refine vi_icmp_ge 55 dX5_boardsIn_12 (by decide) (fun c1 => ?_) (fun c1 => ?_)
    · rw [if_pos c1] at hf
      refine vi_iload_n 2 dX5_boardsIn_55 rfl rfl ?_
      obtain rfl := Option.some.inj hf
      exact vi_ret (v := some (.int x2)) rfl ⟨dX5_boardsIn_56, .int, rfl, rfl⟩ ⟨rfl, rfl, rfl⟩
    · rw [if_neg c1] at hf
      refine vi_iload_n 2 dX5_boardsIn_15 rfl rfl ?_
      refine vi_aload_n 0 dX5_boardsIn_16 rfl rfl ?_
      refine vi_iload_n 3 dX5_boardsIn_17 rfl rfl ?_
      obtain ⟨u2, hu2, hf⟩ := vv_bd hf
      refine vi_callV (As := [.int x3]) (st := [.int x2]) (t_X5_isOn n p0 x3 M u2 h0 hu2) rfl yo_X5_isOn wm_X5_67 wi_X5_isOn ws_X5_isOn wI_X5 wc_X5_isOn (vv_model_o h0) rfl ⟨Nat.le_of_ble_eq_true rfl, Nat.le_of_ble_eq_true rfl⟩ (vv_rm0 rfl rfl) (Nat.le_of_ble_eq_true rfl) rfl rfl dX5_boardsIn_18 ?_
      refine vi_if_eq 46 dX5_boardsIn_21 (by decide) (fun c3 => ?_) (fun c3 => ?_)
      · rw [if_pos c3] at hf
        refine vi_sub (L' := [(0, .ref p0), (1, .int x1), (3, .int x3)]) [0, 1, 3] rfl ?_
        exact t_X5_boardsIn_46 n (f_X5_boardsIn_4 n k) u ih p0 x1 x3 x2 u2.2 h0 hf
      · rw [if_neg c3] at hf
        refine vi_aload_n 0 dX5_boardsIn_24 rfl rfl ?_
        refine vi_aload_n 0 dX5_boardsIn_25 rfl rfl ?_
        refine vi_getr (t := p0 + 1) 0 rfl (vv_model_o h0) rfl wu_X5 (by decide) wf_X5_7 dX5_boardsIn_26 ?_
        refine vi_iload_n 3 dX5_boardsIn_29 rfl rfl ?_
        refine vi_iconst (v := (3 : Int32)) dX5_boardsIn_30 (by decide) ?_
        obtain ⟨u6, hu6, hf⟩ := vv_bd hf
        refine vi_callS (As := [.int x3, .int (3 : Int32)]) (st := [.ref (p0 + 1), .ref p0, .int x2]) (t_X5_of n x3 (3 : Int32) u2.2 u6  hu6) rfl yo_X5_of wm_X5_27 wi_X5_of wI_X5 wc_X5_of ⟨Nat.le_of_ble_eq_true rfl, Nat.le_of_ble_eq_true rfl⟩ (vv_rm0 rfl rfl) (Nat.le_of_ble_eq_true rfl) rfl rfl dX5_boardsIn_31 ?_
        obtain ⟨g9, hf⟩ := vv_gd hf
        refine vi_iald (vv_model_row h0) g9 dX5_boardsIn_34 ?_
        obtain ⟨u7, hu7, hf⟩ := vv_bd hf
        refine vi_callV (As := [.int (u6.2 (p0 + 1) u6.1.toNatClampNeg)]) (st := [.int x2]) (t_X5_zoneOf n p0 (u6.2 (p0 + 1) u6.1.toNatClampNeg) u6.2 u7 h0 hu7) rfl yo_X5_zoneOf wm_X5_96 wi_X5_zoneOf ws_X5_zoneOf wI_X5 wc_X5_zoneOf (vv_model_o h0) rfl ⟨Nat.le_of_ble_eq_true rfl, Nat.le_of_ble_eq_true rfl⟩ (vv_rm0 rfl rfl) (Nat.le_of_ble_eq_true rfl) rfl rfl dX5_boardsIn_35 ?_
        refine vi_iload_n 1 dX5_boardsIn_38 rfl rfl ?_
        refine vi_icmp_ne 46 dX5_boardsIn_39 (by decide) (fun c8 => ?_) (fun c8 => ?_)
        · rw [if_neg c8] at hf
          refine vi_sub (L' := [(0, .ref p0), (1, .int x1), (3, .int x3)]) [0, 1, 3] rfl ?_
          exact t_X5_boardsIn_46 n (f_X5_boardsIn_4 n k) u ih p0 x1 x3 x2 u7.2 h0 hf
        · rw [if_pos c8] at hf
          refine vi_iconst (v := (1 : Int32)) dX5_boardsIn_42 (by decide) ?_
          refine vi_goto 47 dX5_boardsIn_43 (by decide) ?_
          refine vi_sub (L' := [(0, .ref p0), (1, .int x1), (3, .int x3)]) [0, 1, 3] rfl ?_
          exact t_X5_boardsIn_47 n (f_X5_boardsIn_4 n k) u ih p0 x1 x3 x2 (1 : Int32) u7.2 h0 hf
set_option maxRecDepth 20000 in
theorem t_X5_boardsIn {S : List vv_Sh} (n : Nat) (p0 : Nat) (x1 : Int32) (M : vv_M) (u : Int32 × vv_M) (h0 : vv_model S p0) (hf : f_X5_boardsIn n p0 x1 M = some u) : vv_C yX5_boardsIn (vv_w yX5_boardsIn cX5_boardsIn 4 (some .int)) (vv_R 2 0 0) [.ref p0, .int x1] S M (some (.int u.1)) S u.2 := by
  refine vv_ofV (by decide +kernel) (Nat.le_of_ble_eq_true rfl) (L := [(0, .ref p0), (1, .int x1)]) rfl rfl rfl ?_
  show vv_V [] yX5_boardsIn.cls yX5_boardsIn.name cX5_boardsIn 4 (some .int) (vv_R 2 0 0) S.length (vv_sz S) (vv_fi S u) 0 [(0, .ref p0), (1, .int x1)] [] S M
  unfold f_X5_boardsIn at hf
  refine vi_iconst (v := (0 : Int32)) dX5_boardsIn_0 (by decide) ?_
  refine vi_istore_n (L' := [(2, .int (0 : Int32)), (0, .ref p0), (1, .int x1)]) dX5_boardsIn_1 rfl (by decide) rfl ?_
  refine vi_iconst (v := (0 : Int32)) dX5_boardsIn_2 (by decide) ?_
  refine vi_istore_n (L' := [(3, .int (0 : Int32)), (2, .int (0 : Int32)), (0, .ref p0), (1, .int x1)]) dX5_boardsIn_3 rfl (by decide) rfl ?_
  refine vi_sub (L' := [(0, .ref p0), (1, .int x1), (2, .int (0 : Int32)), (3, .int (0 : Int32))]) [2, 3, 1, 0] rfl ?_
  exact t_X5_boardsIn_4 n  u  n p0 x1 (0 : Int32) (0 : Int32) M h0 hf
set_option maxRecDepth 20000 in
theorem t_X5_zone {S : List vv_Sh} (n : Nat) (p0 : Nat) (x1 : Int32) (x2 : Int32) (M : vv_M) (u : Int32 × vv_M) (h0 : vv_model S p0) (hf : f_X5_zone n p0 x1 x2 M = some u) : vv_C yX5_zone (vv_w yX5_zone cX5_zone 3 (some .int)) (vv_R 3 0 0) [.ref p0, .int x1, .int x2] S M (some (.int u.1)) S u.2 := by
  refine vv_ofV (by decide +kernel) (Nat.le_of_ble_eq_true rfl) (L := [(0, .ref p0), (1, .int x1), (2, .int x2)]) rfl rfl rfl ?_
  show vv_V [] yX5_zone.cls yX5_zone.name cX5_zone 3 (some .int) (vv_R 3 0 0) S.length (vv_sz S) (vv_fi S u) 0 [(0, .ref p0), (1, .int x1), (2, .int x2)] [] S M
  unfold f_X5_zone at hf
  refine vi_iload_n 1 dX5_zone_0 rfl rfl ?_
  obtain ⟨u1, hu1, hf⟩ := vv_bd hf
  refine vi_callS (As := [.int x1]) (st := []) (t_X5_isZone n x1 M u1  hu1) rfl yo_X5_isZone wm_X5_41 wi_X5_isZone wI_X5 wc_X5_isZone ⟨Nat.le_of_ble_eq_true rfl, Nat.le_of_ble_eq_true rfl⟩ (vv_rm0 rfl rfl) (Nat.le_of_ble_eq_true rfl) rfl rfl dX5_zone_1 ?_
  refine vi_if_eq 17 dX5_zone_4 (by decide) (fun c2 => ?_) (fun c2 => ?_)
  · rw [if_pos c2] at hf
    refine vi_sipush (v := (-1001 : Int32)) dX5_zone_17 (by decide) ?_
    obtain rfl := Option.some.inj hf
    exact vi_ret (v := some (.int (-1001 : Int32))) rfl ⟨dX5_zone_20, .int, rfl, rfl⟩ ⟨rfl, rfl, rfl⟩
  · rw [if_neg c2] at hf
    refine vi_iload_n 2 dX5_zone_7 rfl rfl ?_
    refine vi_iconst (v := (0 : Int32)) dX5_zone_8 (by decide) ?_
    refine vi_bipush (v := (6 : Int32)) dX5_zone_9 (by decide) ?_
    obtain ⟨u3, hu3, hf⟩ := vv_bd hf
    refine vi_callS (As := [.int x2, .int (0 : Int32), .int (6 : Int32)]) (st := []) (t_X5_in n x2 (0 : Int32) (6 : Int32) u1.2 u3  hu3) rfl yo_X5_in wm_X5_23 wi_X5_in wI_X5 wc_X5_in ⟨Nat.le_of_ble_eq_true rfl, Nat.le_of_ble_eq_true rfl⟩ (vv_rm0 rfl rfl) (Nat.le_of_ble_eq_true rfl) rfl rfl dX5_zone_11 ?_
    refine vi_if_ne 21 dX5_zone_14 (by decide) (fun c4 => ?_) (fun c4 => ?_)
    · rw [if_neg c4] at hf
      refine vi_iload_n 2 dX5_zone_21 rfl rfl ?_
      refine vi_iconst (v := (4 : Int32)) dX5_zone_22 (by decide) ?_
      refine vi_icmp_ge 39 dX5_zone_23 (by decide) (fun c5 => ?_) (fun c5 => ?_)
      · rw [if_pos c5] at hf
        refine vi_iload_n 2 dX5_zone_39 rfl rfl ?_
        refine vi_iconst (v := (4 : Int32)) dX5_zone_40 (by decide) ?_
        refine vi_icmp_ne 52 dX5_zone_41 (by decide) (fun c6 => ?_) (fun c6 => ?_)
        · rw [if_neg c6] at hf
          refine vi_iload_n 2 dX5_zone_52 rfl rfl ?_
          refine vi_iconst (v := (5 : Int32)) dX5_zone_53 (by decide) ?_
          refine vi_icmp_ne 65 dX5_zone_54 (by decide) (fun c7 => ?_) (fun c7 => ?_)
          · rw [if_neg c7] at hf
            refine vi_aload_n 0 dX5_zone_65 rfl rfl ?_
            refine vi_iload_n 1 dX5_zone_66 rfl rfl ?_
            obtain ⟨u8, hu8, hf⟩ := vv_bd hf
            refine vi_callV (As := [.int x1]) (st := []) (t_X5_weightsIn n p0 x1 u3.2 u8 h0 hu8) rfl yo_X5_weightsIn wm_X5_99 wi_X5_weightsIn ws_X5_weightsIn wI_X5 wc_X5_weightsIn (vv_model_o h0) rfl ⟨Nat.le_of_ble_eq_true rfl, Nat.le_of_ble_eq_true rfl⟩ (vv_rm0 rfl rfl) (Nat.le_of_ble_eq_true rfl) rfl rfl dX5_zone_67 ?_
            obtain rfl := Option.some.inj hf
            exact vi_ret (v := some (.int u8.1)) rfl ⟨dX5_zone_70, .int, rfl, rfl⟩ ⟨rfl, rfl, rfl⟩
          · rw [if_pos c7] at hf
            refine vi_aload_n 0 dX5_zone_57 rfl rfl ?_
            refine vi_iload_n 1 dX5_zone_58 rfl rfl ?_
            obtain ⟨u9, hu9, hf⟩ := vv_bd hf
            refine vi_callV (As := [.int x1]) (st := []) (t_X5_boardsIn n p0 x1 u3.2 u9 h0 hu9) rfl yo_X5_boardsIn wm_X5_163 wi_X5_boardsIn ws_X5_boardsIn wI_X5 wc_X5_boardsIn (vv_model_o h0) rfl ⟨Nat.le_of_ble_eq_true rfl, Nat.le_of_ble_eq_true rfl⟩ (vv_rm0 rfl rfl) (Nat.le_of_ble_eq_true rfl) rfl rfl dX5_zone_59 ?_
            refine vi_goto 70 dX5_zone_62 (by decide) ?_
            obtain rfl := Option.some.inj hf
            exact vi_ret (v := some (.int u9.1)) rfl ⟨dX5_zone_70, .int, rfl, rfl⟩ ⟨rfl, rfl, rfl⟩
        · rw [if_pos c6] at hf
          refine vi_aload_n 0 dX5_zone_44 rfl rfl ?_
          refine vi_iload_n 1 dX5_zone_45 rfl rfl ?_
          obtain ⟨u10, hu10, hf⟩ := vv_bd hf
          refine vi_callV (As := [.int x1]) (st := []) (t_X5_firstCell n p0 x1 u3.2 u10 h0 hu10) rfl yo_X5_firstCell wm_X5_160 wi_X5_firstCell ws_X5_firstCell wI_X5 wc_X5_firstCell (vv_model_o h0) rfl ⟨Nat.le_of_ble_eq_true rfl, Nat.le_of_ble_eq_true rfl⟩ (vv_rm0 rfl rfl) (Nat.le_of_ble_eq_true rfl) rfl rfl dX5_zone_46 ?_
          refine vi_goto 70 dX5_zone_49 (by decide) ?_
          obtain rfl := Option.some.inj hf
          exact vi_ret (v := some (.int u10.1)) rfl ⟨dX5_zone_70, .int, rfl, rfl⟩ ⟨rfl, rfl, rfl⟩
      · rw [if_neg c5] at hf
        refine vi_aload_n 0 dX5_zone_26 rfl rfl ?_
        refine vi_getr (t := p0 + 1) 0 rfl (vv_model_o h0) rfl wu_X5 (by decide) wf_X5_7 dX5_zone_27 ?_
        refine vi_iload_n 1 dX5_zone_30 rfl rfl ?_
        refine vi_iload_n 2 dX5_zone_31 rfl rfl ?_
        obtain ⟨u11, hu11, hf⟩ := vv_bd hf
        refine vi_callS (As := [.int x1, .int x2]) (st := [.ref (p0 + 1)]) (t_X5_ofZone n x1 x2 u3.2 u11  hu11) rfl yo_X5_ofZone wm_X5_16 wi_X5_ofZone wI_X5 wc_X5_ofZone ⟨Nat.le_of_ble_eq_true rfl, Nat.le_of_ble_eq_true rfl⟩ (vv_rm0 rfl rfl) (Nat.le_of_ble_eq_true rfl) rfl rfl dX5_zone_32 ?_
        obtain ⟨g12, hf⟩ := vv_gd hf
        refine vi_iald (vv_model_row h0) g12 dX5_zone_35 ?_
        refine vi_goto 70 dX5_zone_36 (by decide) ?_
        obtain rfl := Option.some.inj hf
        exact vi_ret (v := some (.int (u11.2 (p0 + 1) u11.1.toNatClampNeg))) rfl ⟨dX5_zone_70, .int, rfl, rfl⟩ ⟨rfl, rfl, rfl⟩
    · rw [if_pos c4] at hf
      refine vi_sipush (v := (-1001 : Int32)) dX5_zone_17 (by decide) ?_
      obtain rfl := Option.some.inj hf
      exact vi_ret (v := some (.int (-1001 : Int32))) rfl ⟨dX5_zone_20, .int, rfl, rfl⟩ ⟨rfl, rfl, rfl⟩
set_option maxRecDepth 20000 in
theorem t_X5_curve {S : List vv_Sh} (n : Nat) (p0 : Nat) (x1 : Int32) (x2 : Int32) (M : vv_M) (u : Int32 × vv_M) (h0 : vv_model S p0) (hf : f_X5_curve n p0 x1 x2 M = some u) : vv_C yX5_curve (vv_w yX5_curve cX5_curve 3 (some .int)) (vv_R 2 0 0) [.ref p0, .int x1, .int x2] S M (some (.int u.1)) S u.2 := by
  refine vv_ofV (by decide +kernel) (Nat.le_of_ble_eq_true rfl) (L := [(0, .ref p0), (1, .int x1), (2, .int x2)]) rfl rfl rfl ?_
  show vv_V [] yX5_curve.cls yX5_curve.name cX5_curve 3 (some .int) (vv_R 2 0 0) S.length (vv_sz S) (vv_fi S u) 0 [(0, .ref p0), (1, .int x1), (2, .int x2)] [] S M
  unfold f_X5_curve at hf
  refine vi_iload_n 1 dX5_curve_0 rfl rfl ?_
  obtain ⟨u1, hu1, hf⟩ := vv_bd hf
  refine vi_callS (As := [.int x1]) (st := []) (t_X5_isCurve n x1 M u1  hu1) rfl yo_X5_isCurve wm_X5_53 wi_X5_isCurve wI_X5 wc_X5_isCurve ⟨Nat.le_of_ble_eq_true rfl, Nat.le_of_ble_eq_true rfl⟩ (vv_rm0 rfl rfl) (Nat.le_of_ble_eq_true rfl) rfl rfl dX5_curve_1 ?_
  refine vi_if_eq 29 dX5_curve_4 (by decide) (fun c2 => ?_) (fun c2 => ?_)
  · rw [if_pos c2] at hf
    refine vi_sipush (v := (-1001 : Int32)) dX5_curve_29 (by decide) ?_
    obtain rfl := Option.some.inj hf
    exact vi_ret (v := some (.int (-1001 : Int32))) rfl ⟨dX5_curve_32, .int, rfl, rfl⟩ ⟨rfl, rfl, rfl⟩
  · rw [if_neg c2] at hf
    refine vi_iload_n 2 dX5_curve_7 rfl rfl ?_
    refine vi_iconst (v := (0 : Int32)) dX5_curve_8 (by decide) ?_
    refine vi_iconst (v := (5 : Int32)) dX5_curve_9 (by decide) ?_
    obtain ⟨u3, hu3, hf⟩ := vv_bd hf
    refine vi_callS (As := [.int x2, .int (0 : Int32), .int (5 : Int32)]) (st := []) (t_X5_in n x2 (0 : Int32) (5 : Int32) u1.2 u3  hu3) rfl yo_X5_in wm_X5_23 wi_X5_in wI_X5 wc_X5_in ⟨Nat.le_of_ble_eq_true rfl, Nat.le_of_ble_eq_true rfl⟩ (vv_rm0 rfl rfl) (Nat.le_of_ble_eq_true rfl) rfl rfl dX5_curve_10 ?_
    refine vi_if_eq 29 dX5_curve_13 (by decide) (fun c4 => ?_) (fun c4 => ?_)
    · rw [if_pos c4] at hf
      refine vi_sipush (v := (-1001 : Int32)) dX5_curve_29 (by decide) ?_
      obtain rfl := Option.some.inj hf
      exact vi_ret (v := some (.int (-1001 : Int32))) rfl ⟨dX5_curve_32, .int, rfl, rfl⟩ ⟨rfl, rfl, rfl⟩
    · rw [if_neg c4] at hf
      refine vi_aload_n 0 dX5_curve_16 rfl rfl ?_
      refine vi_getr (t := p0 + 1) 0 rfl (vv_model_o h0) rfl wu_X5 (by decide) wf_X5_7 dX5_curve_17 ?_
      refine vi_iload_n 1 dX5_curve_20 rfl rfl ?_
      refine vi_iload_n 2 dX5_curve_21 rfl rfl ?_
      obtain ⟨u5, hu5, hf⟩ := vv_bd hf
      refine vi_callS (As := [.int x1, .int x2]) (st := [.ref (p0 + 1)]) (t_X5_ofCurve n x1 x2 u3.2 u5  hu5) rfl yo_X5_ofCurve wm_X5_20 wi_X5_ofCurve wI_X5 wc_X5_ofCurve ⟨Nat.le_of_ble_eq_true rfl, Nat.le_of_ble_eq_true rfl⟩ (vv_rm0 rfl rfl) (Nat.le_of_ble_eq_true rfl) rfl rfl dX5_curve_22 ?_
      obtain ⟨g6, hf⟩ := vv_gd hf
      refine vi_iald (vv_model_row h0) g6 dX5_curve_25 ?_
      refine vi_goto 32 dX5_curve_26 (by decide) ?_
      obtain rfl := Option.some.inj hf
      exact vi_ret (v := some (.int (u5.2 (p0 + 1) u5.1.toNatClampNeg))) rfl ⟨dX5_curve_32, .int, rfl, rfl⟩ ⟨rfl, rfl, rfl⟩
set_option maxRecDepth 20000 in
theorem t_X5_board_41 {S : List vv_Sh} (n : Nat)  (u : Int32 × vv_M)  (p0 : Nat) (x1 : Int32) (x2 : Int32) (M : vv_M) (h0 : vv_model S p0) (hf : f_X5_board_41 n  p0 x1 x2 M = some u) : vv_V [] yX5_board.cls yX5_board.name cX5_board 3 (some .int) (vv_R 2 0 0) S.length (vv_sz S) (vv_fi S u) 41 [(0, .ref p0), (1, .int x1), (2, .int x2)] [] S M := by
  unfold f_X5_board_41 at hf
  refine vi_aload_n 0 dX5_board_41 rfl rfl ?_
  refine vi_getr (t := p0 + 1) 0 rfl (vv_model_o h0) rfl wu_X5 (by decide) wf_X5_7 dX5_board_42 ?_
  refine vi_iload_n 1 dX5_board_45 rfl rfl ?_
  refine vi_iload_n 2 dX5_board_46 rfl rfl ?_
  obtain ⟨u6, hu6, hf⟩ := vv_bd hf
  refine vi_callS (As := [.int x1, .int x2]) (st := [.ref (p0 + 1)]) (t_X5_of n x1 x2 M u6  hu6) rfl yo_X5_of wm_X5_27 wi_X5_of wI_X5 wc_X5_of ⟨Nat.le_of_ble_eq_true rfl, Nat.le_of_ble_eq_true rfl⟩ (vv_rm0 rfl rfl) (Nat.le_of_ble_eq_true rfl) rfl rfl dX5_board_47 ?_
  obtain ⟨g7, hf⟩ := vv_gd hf
  refine vi_iald (vv_model_row h0) g7 dX5_board_50 ?_
  obtain rfl := Option.some.inj hf
  exact vi_ret (v := some (.int (u6.2 (p0 + 1) u6.1.toNatClampNeg))) rfl ⟨dX5_board_51, .int, rfl, rfl⟩ ⟨rfl, rfl, rfl⟩
set_option maxRecDepth 20000 in
theorem t_X5_board {S : List vv_Sh} (n : Nat) (p0 : Nat) (x1 : Int32) (x2 : Int32) (M : vv_M) (u : Int32 × vv_M) (h0 : vv_model S p0) (hf : f_X5_board n p0 x1 x2 M = some u) : vv_C yX5_board (vv_w yX5_board cX5_board 3 (some .int)) (vv_R 2 0 0) [.ref p0, .int x1, .int x2] S M (some (.int u.1)) S u.2 := by
  refine vv_ofV (by decide +kernel) (Nat.le_of_ble_eq_true rfl) (L := [(0, .ref p0), (1, .int x1), (2, .int x2)]) rfl rfl rfl ?_
  show vv_V [] yX5_board.cls yX5_board.name cX5_board 3 (some .int) (vv_R 2 0 0) S.length (vv_sz S) (vv_fi S u) 0 [(0, .ref p0), (1, .int x1), (2, .int x2)] [] S M
  unfold f_X5_board at hf
  refine vi_aload_n 0 dX5_board_0 rfl rfl ?_
  refine vi_iload_n 1 dX5_board_1 rfl rfl ?_
  obtain ⟨u1, hu1, hf⟩ := vv_bd hf
  refine vi_callV (As := [.int x1]) (st := []) (t_X5_isBoard n p0 x1 M u1 h0 hu1) rfl yo_X5_isBoard wm_X5_83 wi_X5_isBoard ws_X5_isBoard wI_X5 wc_X5_isBoard (vv_model_o h0) rfl ⟨Nat.le_of_ble_eq_true rfl, Nat.le_of_ble_eq_true rfl⟩ (vv_rm0 rfl rfl) (Nat.le_of_ble_eq_true rfl) rfl rfl dX5_board_2 ?_
  refine vi_if_eq 18 dX5_board_5 (by decide) (fun c2 => ?_) (fun c2 => ?_)
  · rw [if_pos c2] at hf
    refine vi_sipush (v := (-1001 : Int32)) dX5_board_18 (by decide) ?_
    obtain rfl := Option.some.inj hf
    exact vi_ret (v := some (.int (-1001 : Int32))) rfl ⟨dX5_board_21, .int, rfl, rfl⟩ ⟨rfl, rfl, rfl⟩
  · rw [if_neg c2] at hf
    refine vi_iload_n 2 dX5_board_8 rfl rfl ?_
    refine vi_iconst (v := (0 : Int32)) dX5_board_9 (by decide) ?_
    refine vi_bipush (v := (10 : Int32)) dX5_board_10 (by decide) ?_
    obtain ⟨u3, hu3, hf⟩ := vv_bd hf
    refine vi_callS (As := [.int x2, .int (0 : Int32), .int (10 : Int32)]) (st := []) (t_X5_in n x2 (0 : Int32) (10 : Int32) u1.2 u3  hu3) rfl yo_X5_in wm_X5_23 wi_X5_in wI_X5 wc_X5_in ⟨Nat.le_of_ble_eq_true rfl, Nat.le_of_ble_eq_true rfl⟩ (vv_rm0 rfl rfl) (Nat.le_of_ble_eq_true rfl) rfl rfl dX5_board_12 ?_
    refine vi_if_ne 22 dX5_board_15 (by decide) (fun c4 => ?_) (fun c4 => ?_)
    · rw [if_neg c4] at hf
      refine vi_iload_n 2 dX5_board_22 rfl rfl ?_
      refine vi_iconst (v := (3 : Int32)) dX5_board_23 (by decide) ?_
      refine vi_icmp_ne 41 dX5_board_24 (by decide) (fun c5 => ?_) (fun c5 => ?_)
      · rw [if_neg c5] at hf
        exact t_X5_board_41 n  u  p0 x1 x2 u3.2 h0 hf
      · rw [if_pos c5] at hf
        refine vi_aload_n 0 dX5_board_27 rfl rfl ?_
        refine vi_iload_n 1 dX5_board_28 rfl rfl ?_
        obtain ⟨u8, hu8, hf⟩ := vv_bd hf
        refine vi_callV (As := [.int x1]) (st := []) (t_X5_isOn n p0 x1 u3.2 u8 h0 hu8) rfl yo_X5_isOn wm_X5_67 wi_X5_isOn ws_X5_isOn wI_X5 wc_X5_isOn (vv_model_o h0) rfl ⟨Nat.le_of_ble_eq_true rfl, Nat.le_of_ble_eq_true rfl⟩ (vv_rm0 rfl rfl) (Nat.le_of_ble_eq_true rfl) rfl rfl dX5_board_29 ?_
        refine vi_if_ne 41 dX5_board_32 (by decide) (fun c9 => ?_) (fun c9 => ?_)
        · rw [if_neg c9] at hf
          exact t_X5_board_41 n  u  p0 x1 x2 u8.2 h0 hf
        · rw [if_pos c9] at hf
          refine vi_sipush (v := (-1009 : Int32)) dX5_board_35 (by decide) ?_
          refine vi_goto 51 dX5_board_38 (by decide) ?_
          obtain rfl := Option.some.inj hf
          exact vi_ret (v := some (.int (-1009 : Int32))) rfl ⟨dX5_board_51, .int, rfl, rfl⟩ ⟨rfl, rfl, rfl⟩
    · rw [if_pos c4] at hf
      refine vi_sipush (v := (-1001 : Int32)) dX5_board_18 (by decide) ?_
      obtain rfl := Option.some.inj hf
      exact vi_ret (v := some (.int (-1001 : Int32))) rfl ⟨dX5_board_21, .int, rfl, rfl⟩ ⟨rfl, rfl, rfl⟩
set_option maxRecDepth 20000 in
theorem t_X5_hasFault {S : List vv_Sh} (n : Nat) (p0 : Nat) (x1 : Int32) (x2 : Int32) (M : vv_M) (u : Int32 × vv_M) (h0 : vv_model S p0) (hf : f_X5_hasFault n p0 x1 x2 M = some u) : vv_C yX5_hasFault (vv_w yX5_hasFault cX5_hasFault 3 (some .boolean)) (vv_R 1 0 0) [.ref p0, .int x1, .int x2] S M (some (.int u.1)) S u.2 := by
  refine vv_ofV (by decide +kernel) (Nat.le_of_ble_eq_true rfl) (L := [(0, .ref p0), (1, .int x1), (2, .int x2)]) rfl rfl rfl ?_
  show vv_V [] yX5_hasFault.cls yX5_hasFault.name cX5_hasFault 3 (some .boolean) (vv_R 1 0 0) S.length (vv_sz S) (vv_fi S u) 0 [(0, .ref p0), (1, .int x1), (2, .int x2)] [] S M
  unfold f_X5_hasFault at hf
  refine vi_aload_n 0 dX5_hasFault_0 rfl rfl ?_
  refine vi_getr (t := p0 + 1) 0 rfl (vv_model_o h0) rfl wu_X5 (by decide) wf_X5_7 dX5_hasFault_1 ?_
  refine vi_iload_n 1 dX5_hasFault_4 rfl rfl ?_
  refine vi_bipush (v := (8 : Int32)) dX5_hasFault_5 (by decide) ?_
  obtain ⟨u1, hu1, hf⟩ := vv_bd hf
  refine vi_callS (As := [.int x1, .int (8 : Int32)]) (st := [.ref (p0 + 1)]) (t_X5_of n x1 (8 : Int32) M u1  hu1) rfl yo_X5_of wm_X5_27 wi_X5_of wI_X5 wc_X5_of ⟨Nat.le_of_ble_eq_true rfl, Nat.le_of_ble_eq_true rfl⟩ (vv_rm0 rfl rfl) (Nat.le_of_ble_eq_true rfl) rfl rfl dX5_hasFault_7 ?_
  obtain ⟨g3, hf⟩ := vv_gd hf
  refine vi_iald (vv_model_row h0) g3 dX5_hasFault_10 ?_
  refine vi_iload_n 2 dX5_hasFault_11 rfl rfl ?_
  refine vi_ishr dX5_hasFault_12 ?_
  refine vi_iconst (v := (1 : Int32)) dX5_hasFault_13 (by decide) ?_
  refine vi_iand dX5_hasFault_14 ?_
  refine vi_iconst (v := (1 : Int32)) dX5_hasFault_15 (by decide) ?_
  refine vi_icmp_ne 23 dX5_hasFault_16 (by decide) (fun c2 => ?_) (fun c2 => ?_)
  · rw [if_neg c2] at hf
    refine vi_iconst (v := (0 : Int32)) dX5_hasFault_23 (by decide) ?_
    obtain rfl := Option.some.inj hf
    exact vi_ret (v := some (.int (0 : Int32))) rfl ⟨dX5_hasFault_24, .boolean, rfl, rfl⟩ ⟨rfl, rfl, rfl⟩
  · rw [if_pos c2] at hf
    refine vi_iconst (v := (1 : Int32)) dX5_hasFault_19 (by decide) ?_
    refine vi_goto 24 dX5_hasFault_20 (by decide) ?_
    obtain rfl := Option.some.inj hf
    exact vi_ret (v := some (.int (1 : Int32))) rfl ⟨dX5_hasFault_24, .boolean, rfl, rfl⟩ ⟨rfl, rfl, rfl⟩
set_option maxRecDepth 20000 in
theorem t_X5_fault_55 {S : List vv_Sh} (n : Nat)  (u : Int32 × vv_M)  (x2 : Int32) (s0 : Nat) (s1 : Int32) (s2 : Int32) (M : vv_M) (g0 : S[s0]? = some (.inl (0, 13445))) (hf : f_X5_fault_55 n  x2 s0 s1 s2 M = some u) : vv_V [] yX5_fault.cls yX5_fault.name cX5_fault 4 (some .int) (vv_R 2 0 0) S.length (vv_sz S) (vv_fi S u) 55 [(2, .int x2)] [.int s2, .int s1, .ref s0] S M := by
  unfold f_X5_fault_55 at hf
  refine vi_iload_n 0 dX5_fault_55 rfl rfl ?_
  refine vi_iadd dX5_fault_56 ?_
  obtain ⟨u10, hu10, hf⟩ := vv_bd hf
  refine vi_callS (As := [.int s1, .int (s2 + x2)]) (st := [.ref s0]) (t_X5_of n s1 (s2 + x2) M u10  hu10) rfl yo_X5_of wm_X5_27 wi_X5_of wI_X5 wc_X5_of ⟨Nat.le_of_ble_eq_true rfl, Nat.le_of_ble_eq_true rfl⟩ (vv_rm0 rfl rfl) (Nat.le_of_ble_eq_true rfl) rfl rfl dX5_fault_57 ?_
  obtain ⟨g11, hf⟩ := vv_gd hf
  refine vi_iald g0 g11 dX5_fault_60 ?_
  refine vi_goto 67 dX5_fault_61 (by decide) ?_
  obtain rfl := Option.some.inj hf
  exact vi_ret (v := some (.int (u10.2 s0 u10.1.toNatClampNeg))) rfl ⟨dX5_fault_67, .int, rfl, rfl⟩ ⟨rfl, rfl, rfl⟩
set_option maxRecDepth 20000 in
theorem t_X5_fault {S : List vv_Sh} (n : Nat) (p0 : Nat) (x1 : Int32) (x2 : Int32) (x3 : Int32) (M : vv_M) (u : Int32 × vv_M) (h0 : vv_model S p0) (hf : f_X5_fault n p0 x1 x2 x3 M = some u) : vv_C yX5_fault (vv_w yX5_fault cX5_fault 4 (some .int)) (vv_R 2 0 0) [.ref p0, .int x1, .int x2, .int x3] S M (some (.int u.1)) S u.2 := by
  refine vv_ofV (by decide +kernel) (Nat.le_of_ble_eq_true rfl) (L := [(0, .ref p0), (1, .int x1), (2, .int x2), (3, .int x3)]) rfl rfl rfl ?_
  show vv_V [] yX5_fault.cls yX5_fault.name cX5_fault 4 (some .int) (vv_R 2 0 0) S.length (vv_sz S) (vv_fi S u) 0 [(0, .ref p0), (1, .int x1), (2, .int x2), (3, .int x3)] [] S M
  unfold f_X5_fault at hf
  refine vi_aload_n 0 dX5_fault_0 rfl rfl ?_
  refine vi_iload_n 1 dX5_fault_1 rfl rfl ?_
  obtain ⟨u1, hu1, hf⟩ := vv_bd hf
  refine vi_callV (As := [.int x1]) (st := []) (t_X5_isBoard n p0 x1 M u1 h0 hu1) rfl yo_X5_isBoard wm_X5_83 wi_X5_isBoard ws_X5_isBoard wI_X5 wc_X5_isBoard (vv_model_o h0) rfl ⟨Nat.le_of_ble_eq_true rfl, Nat.le_of_ble_eq_true rfl⟩ (vv_rm0 rfl rfl) (Nat.le_of_ble_eq_true rfl) rfl rfl dX5_fault_2 ?_
  refine vi_if_eq 26 dX5_fault_5 (by decide) (fun c2 => ?_) (fun c2 => ?_)
  · rw [if_pos c2] at hf
    refine vi_sipush (v := (-1001 : Int32)) dX5_fault_26 (by decide) ?_
    obtain rfl := Option.some.inj hf
    exact vi_ret (v := some (.int (-1001 : Int32))) rfl ⟨dX5_fault_29, .int, rfl, rfl⟩ ⟨rfl, rfl, rfl⟩
  · rw [if_neg c2] at hf
    refine vi_iload_n 2 dX5_fault_8 rfl rfl ?_
    refine vi_iconst (v := (0 : Int32)) dX5_fault_9 (by decide) ?_
    refine vi_iconst (v := (4 : Int32)) dX5_fault_10 (by decide) ?_
    obtain ⟨u3, hu3, hf⟩ := vv_bd hf
    refine vi_callS (As := [.int x2, .int (0 : Int32), .int (4 : Int32)]) (st := []) (t_X5_in n x2 (0 : Int32) (4 : Int32) u1.2 u3  hu3) rfl yo_X5_in wm_X5_23 wi_X5_in wI_X5 wc_X5_in ⟨Nat.le_of_ble_eq_true rfl, Nat.le_of_ble_eq_true rfl⟩ (vv_rm0 rfl rfl) (Nat.le_of_ble_eq_true rfl) rfl rfl dX5_fault_11 ?_
    refine vi_if_eq 26 dX5_fault_14 (by decide) (fun c4 => ?_) (fun c4 => ?_)
    · rw [if_pos c4] at hf
      refine vi_sipush (v := (-1001 : Int32)) dX5_fault_26 (by decide) ?_
      obtain rfl := Option.some.inj hf
      exact vi_ret (v := some (.int (-1001 : Int32))) rfl ⟨dX5_fault_29, .int, rfl, rfl⟩ ⟨rfl, rfl, rfl⟩
    · rw [if_neg c4] at hf
      refine vi_iload_n 3 dX5_fault_17 rfl rfl ?_
      refine vi_iconst (v := (0 : Int32)) dX5_fault_18 (by decide) ?_
      refine vi_iconst (v := (1 : Int32)) dX5_fault_19 (by decide) ?_
      obtain ⟨u5, hu5, hf⟩ := vv_bd hf
      refine vi_callS (As := [.int x3, .int (0 : Int32), .int (1 : Int32)]) (st := []) (t_X5_in n x3 (0 : Int32) (1 : Int32) u3.2 u5  hu5) rfl yo_X5_in wm_X5_23 wi_X5_in wI_X5 wc_X5_in ⟨Nat.le_of_ble_eq_true rfl, Nat.le_of_ble_eq_true rfl⟩ (vv_rm0 rfl rfl) (Nat.le_of_ble_eq_true rfl) rfl rfl dX5_fault_20 ?_
      refine vi_if_ne 30 dX5_fault_23 (by decide) (fun c6 => ?_) (fun c6 => ?_)
      · rw [if_neg c6] at hf
        refine vi_aload_n 0 dX5_fault_30 rfl rfl ?_
        refine vi_iload_n 1 dX5_fault_31 rfl rfl ?_
        refine vi_iload_n 2 dX5_fault_32 rfl rfl ?_
        obtain ⟨u7, hu7, hf⟩ := vv_bd hf
        refine vi_callV (As := [.int x1, .int x2]) (st := []) (t_X5_hasFault n p0 x1 x2 u5.2 u7 h0 hu7) rfl yo_X5_hasFault wm_X5_166 wi_X5_hasFault ws_X5_hasFault wI_X5 wc_X5_hasFault (vv_model_o h0) rfl ⟨Nat.le_of_ble_eq_true rfl, Nat.le_of_ble_eq_true rfl⟩ (vv_rm0 rfl rfl) (Nat.le_of_ble_eq_true rfl) rfl rfl dX5_fault_33 ?_
        refine vi_if_eq 64 dX5_fault_36 (by decide) (fun c8 => ?_) (fun c8 => ?_)
        · rw [if_pos c8] at hf
          refine vi_sipush (v := (-1009 : Int32)) dX5_fault_64 (by decide) ?_
          obtain rfl := Option.some.inj hf
          exact vi_ret (v := some (.int (-1009 : Int32))) rfl ⟨dX5_fault_67, .int, rfl, rfl⟩ ⟨rfl, rfl, rfl⟩
        · rw [if_neg c8] at hf
          refine vi_aload_n 0 dX5_fault_39 rfl rfl ?_
          refine vi_getr (t := p0 + 1) 0 rfl (vv_model_o h0) rfl wu_X5 (by decide) wf_X5_7 dX5_fault_40 ?_
          refine vi_iload_n 1 dX5_fault_43 rfl rfl ?_
          refine vi_iload_n 3 dX5_fault_44 rfl rfl ?_
          refine vi_if_ne 53 dX5_fault_45 (by decide) (fun c9 => ?_) (fun c9 => ?_)
          · rw [if_neg c9] at hf
            refine vi_bipush (v := (16 : Int32)) dX5_fault_53 (by decide) ?_
            refine vi_sub (L' := [(2, .int x2)]) [2] rfl ?_
            exact t_X5_fault_55 n  u  x2 (p0 + 1) x1 (16 : Int32) u7.2 (vv_model_row h0) hf
          · rw [if_pos c9] at hf
            refine vi_bipush (v := (11 : Int32)) dX5_fault_48 (by decide) ?_
            refine vi_goto 55 dX5_fault_50 (by decide) ?_
            refine vi_sub (L' := [(2, .int x2)]) [2] rfl ?_
            exact t_X5_fault_55 n  u  x2 (p0 + 1) x1 (11 : Int32) u7.2 (vv_model_row h0) hf
      · rw [if_pos c6] at hf
        refine vi_sipush (v := (-1001 : Int32)) dX5_fault_26 (by decide) ?_
        obtain rfl := Option.some.inj hf
        exact vi_ret (v := some (.int (-1001 : Int32))) rfl ⟨dX5_fault_29, .int, rfl, rfl⟩ ⟨rfl, rfl, rfl⟩
set_option maxRecDepth 20000 in
theorem t_X5_faultsIn_73 {S : List vv_Sh} (n : Nat) (k5 : Nat → Int32 → Int32 → Int32 → Int32 → vv_M → Option (Int32 × vv_M)) (k20 : Nat → Int32 → Int32 → Int32 → Int32 → Int32 → vv_M → Option (Int32 × vv_M)) (u : Int32 × vv_M) (hk5 : ∀ (p0 : Nat) (x1 : Int32) (x2 : Int32) (x3 : Int32) (x4 : Int32) (M : vv_M) (h0 : vv_model S p0) (hf : k5 p0 x1 x2 x3 x4 M = some u), vv_V [] yX5_faultsIn.cls yX5_faultsIn.name cX5_faultsIn 6 (some .int) (vv_R 2 0 0) S.length (vv_sz S) (vv_fi S u) 5 [(0, .ref p0), (1, .int x1), (2, .int x2), (3, .int x3), (4, .int x4)] [] S M) (hk20 : ∀ (p0 : Nat) (x1 : Int32) (x2 : Int32) (x3 : Int32) (x4 : Int32) (x5 : Int32) (M : vv_M) (h0 : vv_model S p0) (hf : k20 p0 x1 x2 x3 x4 x5 M = some u), vv_V [] yX5_faultsIn.cls yX5_faultsIn.name cX5_faultsIn 6 (some .int) (vv_R 2 0 0) S.length (vv_sz S) (vv_fi S u) 20 [(0, .ref p0), (1, .int x1), (2, .int x2), (3, .int x3), (4, .int x4), (5, .int x5)] [] S M) (p0 : Nat) (x1 : Int32) (x2 : Int32) (x4 : Int32) (x5 : Int32) (s0 : Int32) (s1 : Int32) (M : vv_M) (h0 : vv_model S p0) (hf : f_X5_faultsIn_73 n k5 k20 p0 x1 x2 x4 x5 s0 s1 M = some u) : vv_V [] yX5_faultsIn.cls yX5_faultsIn.name cX5_faultsIn 6 (some .int) (vv_R 2 0 0) S.length (vv_sz S) (vv_fi S u) 73 [(0, .ref p0), (1, .int x1), (2, .int x2), (4, .int x4), (5, .int x5)] [.int s1, .int s0] S M := by
  unfold f_X5_faultsIn_73 at hf
  refine vi_iadd dX5_faultsIn_73 ?_
  obtain ⟨y7, ey7, hf⟩ := vv_lt hf
  refine vi_istore_n (L' := [(3, .int y7), (0, .ref p0), (1, .int x1), (2, .int x2), (4, .int x4), (5, .int x5)]) dX5_faultsIn_74 rfl (by decide) (by rw [ey7]; rfl) ?_
  obtain ⟨y8, ey8, hf⟩ := vv_lt hf
  refine vi_iinc (v := y8) (L' := [(5, .int y8), (3, .int y7), (0, .ref p0), (1, .int x1), (2, .int x2), (4, .int x4)]) 5 dX5_faultsIn_75 rfl (by rw [ey8]; rfl) (by decide) rfl ?_
  refine vi_goto 20 dX5_faultsIn_78 (by decide) ?_
  refine vi_sub (L' := [(0, .ref p0), (1, .int x1), (2, .int x2), (3, .int y7), (4, .int x4), (5, .int y8)]) [2, 3, 4, 1, 5, 0] rfl ?_
  exact hk20 p0 x1 x2 y7 x4 y8 M h0 hf
set_option maxRecDepth 20000 in
theorem t_X5_faultsIn_72 {S : List vv_Sh} (n : Nat) (k5 : Nat → Int32 → Int32 → Int32 → Int32 → vv_M → Option (Int32 × vv_M)) (k20 : Nat → Int32 → Int32 → Int32 → Int32 → Int32 → vv_M → Option (Int32 × vv_M)) (u : Int32 × vv_M) (hk5 : ∀ (p0 : Nat) (x1 : Int32) (x2 : Int32) (x3 : Int32) (x4 : Int32) (M : vv_M) (h0 : vv_model S p0) (hf : k5 p0 x1 x2 x3 x4 M = some u), vv_V [] yX5_faultsIn.cls yX5_faultsIn.name cX5_faultsIn 6 (some .int) (vv_R 2 0 0) S.length (vv_sz S) (vv_fi S u) 5 [(0, .ref p0), (1, .int x1), (2, .int x2), (3, .int x3), (4, .int x4)] [] S M) (hk20 : ∀ (p0 : Nat) (x1 : Int32) (x2 : Int32) (x3 : Int32) (x4 : Int32) (x5 : Int32) (M : vv_M) (h0 : vv_model S p0) (hf : k20 p0 x1 x2 x3 x4 x5 M = some u), vv_V [] yX5_faultsIn.cls yX5_faultsIn.name cX5_faultsIn 6 (some .int) (vv_R 2 0 0) S.length (vv_sz S) (vv_fi S u) 20 [(0, .ref p0), (1, .int x1), (2, .int x2), (3, .int x3), (4, .int x4), (5, .int x5)] [] S M) (p0 : Nat) (x1 : Int32) (x2 : Int32) (x4 : Int32) (x5 : Int32) (s0 : Int32) (M : vv_M) (h0 : vv_model S p0) (hf : f_X5_faultsIn_72 n k5 k20 p0 x1 x2 x4 x5 s0 M = some u) : vv_V [] yX5_faultsIn.cls yX5_faultsIn.name cX5_faultsIn 6 (some .int) (vv_R 2 0 0) S.length (vv_sz S) (vv_fi S u) 72 [(0, .ref p0), (1, .int x1), (2, .int x2), (4, .int x4), (5, .int x5)] [.int s0] S M := by
  unfold f_X5_faultsIn_72 at hf
  refine vi_iconst (v := (0 : Int32)) dX5_faultsIn_72 (by decide) ?_
  exact t_X5_faultsIn_73 n k5 k20 u hk5 hk20 p0 x1 x2 x4 x5 s0 (0 : Int32) M h0 hf
set_option maxRecDepth 20000 in
theorem t_X5_faultsIn_38 {S : List vv_Sh} (n : Nat) (k5 : Nat → Int32 → Int32 → Int32 → Int32 → vv_M → Option (Int32 × vv_M)) (k20 : Nat → Int32 → Int32 → Int32 → Int32 → Int32 → vv_M → Option (Int32 × vv_M)) (u : Int32 × vv_M) (hk5 : ∀ (p0 : Nat) (x1 : Int32) (x2 : Int32) (x3 : Int32) (x4 : Int32) (M : vv_M) (h0 : vv_model S p0) (hf : k5 p0 x1 x2 x3 x4 M = some u), vv_V [] yX5_faultsIn.cls yX5_faultsIn.name cX5_faultsIn 6 (some .int) (vv_R 2 0 0) S.length (vv_sz S) (vv_fi S u) 5 [(0, .ref p0), (1, .int x1), (2, .int x2), (3, .int x3), (4, .int x4)] [] S M) (hk20 : ∀ (p0 : Nat) (x1 : Int32) (x2 : Int32) (x3 : Int32) (x4 : Int32) (x5 : Int32) (M : vv_M) (h0 : vv_model S p0) (hf : k20 p0 x1 x2 x3 x4 x5 M = some u), vv_V [] yX5_faultsIn.cls yX5_faultsIn.name cX5_faultsIn 6 (some .int) (vv_R 2 0 0) S.length (vv_sz S) (vv_fi S u) 20 [(0, .ref p0), (1, .int x1), (2, .int x2), (3, .int x3), (4, .int x4), (5, .int x5)] [] S M) (p0 : Nat) (x1 : Int32) (x2 : Int32) (x4 : Int32) (x5 : Int32) (s0 : Int32) (M : vv_M) (h0 : vv_model S p0) (hf : f_X5_faultsIn_38 n k5 k20 p0 x1 x2 x4 x5 s0 M = some u) : vv_V [] yX5_faultsIn.cls yX5_faultsIn.name cX5_faultsIn 6 (some .int) (vv_R 2 0 0) S.length (vv_sz S) (vv_fi S u) 38 [(0, .ref p0), (1, .int x1), (2, .int x2), (4, .int x4), (5, .int x5)] [.int s0] S M := by
  unfold f_X5_faultsIn_38 at hf
  refine vi_aload_n 0 dX5_faultsIn_38 rfl rfl ?_
  refine vi_iload 3 dX5_faultsIn_39 rfl ?_
  refine vi_iload 4 dX5_faultsIn_41 rfl ?_
  obtain ⟨u5, hu5, hf⟩ := vv_bd hf
  refine vi_callV (As := [.int x4, .int x5]) (st := [.int s0]) (t_X5_hasFault n p0 x4 x5 M u5 h0 hu5) rfl yo_X5_hasFault wm_X5_166 wi_X5_hasFault ws_X5_hasFault wI_X5 wc_X5_hasFault (vv_model_o h0) rfl ⟨Nat.le_of_ble_eq_true rfl, Nat.le_of_ble_eq_true rfl⟩ (vv_rm0 rfl rfl) (Nat.le_of_ble_eq_true rfl) rfl rfl dX5_faultsIn_43 ?_
  refine vi_if_eq 72 dX5_faultsIn_46 (by decide) (fun c6 => ?_) (fun c6 => ?_)
  · rw [if_pos c6] at hf
    exact t_X5_faultsIn_72 n k5 k20 u hk5 hk20 p0 x1 x2 x4 x5 s0 u5.2 h0 hf
  · rw [if_neg c6] at hf
    refine vi_aload_n 0 dX5_faultsIn_49 rfl rfl ?_
    refine vi_getr (t := p0 + 1) 0 rfl (vv_model_o h0) rfl wu_X5 (by decide) wf_X5_7 dX5_faultsIn_50 ?_
    refine vi_iload 3 dX5_faultsIn_53 rfl ?_
    refine vi_bipush (v := (11 : Int32)) dX5_faultsIn_55 (by decide) ?_
    refine vi_iload 4 dX5_faultsIn_57 rfl ?_
    refine vi_iadd dX5_faultsIn_59 ?_
    obtain ⟨u9, hu9, hf⟩ := vv_bd hf
    refine vi_callS (As := [.int x4, .int ((11 : Int32) + x5)]) (st := [.ref (p0 + 1), .int s0]) (t_X5_of n x4 ((11 : Int32) + x5) u5.2 u9  hu9) rfl yo_X5_of wm_X5_27 wi_X5_of wI_X5 wc_X5_of ⟨Nat.le_of_ble_eq_true rfl, Nat.le_of_ble_eq_true rfl⟩ (vv_rm0 rfl rfl) (Nat.le_of_ble_eq_true rfl) rfl rfl dX5_faultsIn_60 ?_
    obtain ⟨g11, hf⟩ := vv_gd hf
    refine vi_iald (vv_model_row h0) g11 dX5_faultsIn_63 ?_
    refine vi_iload_n 1 dX5_faultsIn_64 rfl rfl ?_
    refine vi_icmp_ne 72 dX5_faultsIn_65 (by decide) (fun c10 => ?_) (fun c10 => ?_)
    · rw [if_neg c10] at hf
      exact t_X5_faultsIn_72 n k5 k20 u hk5 hk20 p0 x1 x2 x4 x5 s0 u9.2 h0 hf
    · rw [if_pos c10] at hf
      refine vi_iconst (v := (1 : Int32)) dX5_faultsIn_68 (by decide) ?_
      refine vi_goto 73 dX5_faultsIn_69 (by decide) ?_
      exact t_X5_faultsIn_73 n k5 k20 u hk5 hk20 p0 x1 x2 x4 x5 s0 (1 : Int32) u9.2 h0 hf
set_option maxRecDepth 20000 in
theorem t_X5_faultsIn_20 {S : List vv_Sh} (n : Nat) (k5 : Nat → Int32 → Int32 → Int32 → Int32 → vv_M → Option (Int32 × vv_M)) (u : Int32 × vv_M) (hk5 : ∀ (p0 : Nat) (x1 : Int32) (x2 : Int32) (x3 : Int32) (x4 : Int32) (M : vv_M) (h0 : vv_model S p0) (hf : k5 p0 x1 x2 x3 x4 M = some u), vv_V [] yX5_faultsIn.cls yX5_faultsIn.name cX5_faultsIn 6 (some .int) (vv_R 2 0 0) S.length (vv_sz S) (vv_fi S u) 5 [(0, .ref p0), (1, .int x1), (2, .int x2), (3, .int x3), (4, .int x4)] [] S M) : ∀ (k : Nat) (p0 : Nat) (x1 : Int32) (x2 : Int32) (x3 : Int32) (x4 : Int32) (x5 : Int32) (M : vv_M) (h0 : vv_model S p0) (hf : f_X5_faultsIn_20 n k5 k p0 x1 x2 x3 x4 x5 M = some u), vv_V [] yX5_faultsIn.cls yX5_faultsIn.name cX5_faultsIn 6 (some .int) (vv_R 2 0 0) S.length (vv_sz S) (vv_fi S u) 20 [(0, .ref p0), (1, .int x1), (2, .int x2), (3, .int x3), (4, .int x4), (5, .int x5)] [] S M := by
  intro k
  induction k with
  | zero =>
    intro p0 x1 x2 x3 x4 x5 M h0 hf
    exact absurd (show (none : Option (Int32 × vv_M)) = some u from hf) (by simp)
  | succ k ih =>
    intro p0 x1 x2 x3 x4 x5 M h0 hf
    rw [f_X5_faultsIn_20.eq_2] at hf
    refine vi_iload 5 dX5_faultsIn_20 rfl ?_
    refine vi_iconst (v := (5 : Int32)) dX5_faultsIn_22 (by decide) ?_
    refine vi_icmp_ge 81 dX5_faultsIn_23 (by decide) (fun c2 => ?_) (fun c2 => ?_)
    · rw [if_pos c2] at hf
      obtain ⟨y3, ey3, hf⟩ := vv_lt hf
      refine vi_iinc (v := y3) (L' := [(4, .int y3), (0, .ref p0), (1, .int x1), (2, .int x2), (3, .int x3), (5, .int x5)]) 4 dX5_faultsIn_81 rfl (by rw [ey3]; rfl) (by decide) rfl ?_
      refine vi_goto 5 dX5_faultsIn_84 (by decide) ?_
      refine vi_sub (L' := [(0, .ref p0), (1, .int x1), (2, .int x2), (3, .int x3), (4, .int y3)]) [1, 2, 3, 4, 0] rfl ?_
      exact hk5 p0 x1 x2 x3 y3 M h0 hf
    · rw [if_neg c2] at hf
      refine vi_iload_n 3 dX5_faultsIn_26 rfl rfl ?_
      refine vi_iload_n 2 dX5_faultsIn_27 rfl rfl ?_
      refine vi_iconst (v := (5 : Int32)) dX5_faultsIn_28 (by decide) ?_
      refine vi_icmp_eq 38 dX5_faultsIn_29 (by decide) (fun c4 => ?_) (fun c4 => ?_)
      · rw [if_pos c4] at hf
        refine vi_sub (L' := [(0, .ref p0), (1, .int x1), (2, .int x2), (4, .int x4), (5, .int x5)]) [0, 1, 2, 4, 5] rfl ?_
        exact t_X5_faultsIn_38 n k5 (f_X5_faultsIn_20 n k5 k) u hk5 ih p0 x1 x2 x4 x5 x3 M h0 hf
      · rw [if_neg c4] at hf
        refine vi_iload 5 dX5_faultsIn_32 rfl ?_
        refine vi_iload_n 2 dX5_faultsIn_34 rfl rfl ?_
        refine vi_icmp_ne 72 dX5_faultsIn_35 (by decide) (fun c12 => ?_) (fun c12 => ?_)
        · rw [if_neg c12] at hf
          refine vi_sub (L' := [(0, .ref p0), (1, .int x1), (2, .int x2), (4, .int x4), (5, .int x5)]) [0, 1, 2, 4, 5] rfl ?_
          exact t_X5_faultsIn_72 n k5 (f_X5_faultsIn_20 n k5 k) u hk5 ih p0 x1 x2 x4 x5 x3 M h0 hf
        · rw [if_pos c12] at hf
          refine vi_sub (L' := [(0, .ref p0), (1, .int x1), (2, .int x2), (4, .int x4), (5, .int x5)]) [0, 1, 2, 4, 5] rfl ?_
          exact t_X5_faultsIn_38 n k5 (f_X5_faultsIn_20 n k5 k) u hk5 ih p0 x1 x2 x4 x5 x3 M h0 hf
set_option maxRecDepth 20000 in
theorem t_X5_faultsIn_5 {S : List vv_Sh} (n : Nat)  (u : Int32 × vv_M)  : ∀ (k : Nat) (p0 : Nat) (x1 : Int32) (x2 : Int32) (x3 : Int32) (x4 : Int32) (M : vv_M) (h0 : vv_model S p0) (hf : f_X5_faultsIn_5 n  k p0 x1 x2 x3 x4 M = some u), vv_V [] yX5_faultsIn.cls yX5_faultsIn.name cX5_faultsIn 6 (some .int) (vv_R 2 0 0) S.length (vv_sz S) (vv_fi S u) 5 [(0, .ref p0), (1, .int x1), (2, .int x2), (3, .int x3), (4, .int x4)] [] S M := by
  intro k
  induction k with
  | zero =>
    intro p0 x1 x2 x3 x4 M h0 hf
    exact absurd (show (none : Option (Int32 × vv_M)) = some u from hf) (by simp)
  | succ k ih =>
    intro p0 x1 x2 x3 x4 M h0 hf
    rw [f_X5_faultsIn_5.eq_2] at hf
    refine vi_iload 4 dX5_faultsIn_5 rfl ?_
    refine vi_aload_n 0 dX5_faultsIn_7 rfl rfl ?_
    refine vi_getr (t := p0 + 1) 0 rfl (vv_model_o h0) rfl wu_X5 (by decide) wf_X5_7 dX5_faultsIn_8 ?_
    refine vi_bipush (v := (53 : Int32)) dX5_faultsIn_11 (by decide) ?_
    obtain ⟨g13, hf⟩ := vv_gd hf
    refine vi_iald (vv_model_row h0) g13 dX5_faultsIn_13 ?_
    refine vi_icmp_ge 87 dX5_faultsIn_14 (by decide) (fun c1 => ?_) (fun c1 => ?_)
    · rw [if_pos c1] at hf
      refine vi_iload_n 3 dX5_faultsIn_87 rfl rfl ?_
      obtain rfl := Option.some.inj hf
      exact vi_ret (v := some (.int x3)) rfl ⟨dX5_faultsIn_88, .int, rfl, rfl⟩ ⟨rfl, rfl, rfl⟩
    · rw [if_neg c1] at hf
      refine vi_iconst (v := (0 : Int32)) dX5_faultsIn_17 (by decide) ?_
      refine vi_istore (L' := [(5, .int (0 : Int32)), (0, .ref p0), (1, .int x1), (2, .int x2), (3, .int x3), (4, .int x4)]) dX5_faultsIn_18 (by decide) rfl ?_
      refine vi_sub (L' := [(0, .ref p0), (1, .int x1), (2, .int x2), (3, .int x3), (4, .int x4), (5, .int (0 : Int32))]) [1, 2, 3, 4, 5, 0] rfl ?_
      exact t_X5_faultsIn_20 n (f_X5_faultsIn_5 n k) u ih n p0 x1 x2 x3 x4 (0 : Int32) M h0 hf
set_option maxRecDepth 20000 in
theorem t_X5_faultsIn {S : List vv_Sh} (n : Nat) (p0 : Nat) (x1 : Int32) (x2 : Int32) (M : vv_M) (u : Int32 × vv_M) (h0 : vv_model S p0) (hf : f_X5_faultsIn n p0 x1 x2 M = some u) : vv_C yX5_faultsIn (vv_w yX5_faultsIn cX5_faultsIn 6 (some .int)) (vv_R 2 0 0) [.ref p0, .int x1, .int x2] S M (some (.int u.1)) S u.2 := by
  refine vv_ofV (by decide +kernel) (Nat.le_of_ble_eq_true rfl) (L := [(0, .ref p0), (1, .int x1), (2, .int x2)]) rfl rfl rfl ?_
  show vv_V [] yX5_faultsIn.cls yX5_faultsIn.name cX5_faultsIn 6 (some .int) (vv_R 2 0 0) S.length (vv_sz S) (vv_fi S u) 0 [(0, .ref p0), (1, .int x1), (2, .int x2)] [] S M
  unfold f_X5_faultsIn at hf
  refine vi_iconst (v := (0 : Int32)) dX5_faultsIn_0 (by decide) ?_
  refine vi_istore_n (L' := [(3, .int (0 : Int32)), (0, .ref p0), (1, .int x1), (2, .int x2)]) dX5_faultsIn_1 rfl (by decide) rfl ?_
  refine vi_iconst (v := (0 : Int32)) dX5_faultsIn_2 (by decide) ?_
  refine vi_istore (L' := [(4, .int (0 : Int32)), (3, .int (0 : Int32)), (0, .ref p0), (1, .int x1), (2, .int x2)]) dX5_faultsIn_3 (by decide) rfl ?_
  refine vi_sub (L' := [(0, .ref p0), (1, .int x1), (2, .int x2), (3, .int (0 : Int32)), (4, .int (0 : Int32))]) [2, 3, 4, 1, 0] rfl ?_
  exact t_X5_faultsIn_5 n  u  n p0 x1 x2 (0 : Int32) (0 : Int32) M h0 hf
set_option maxRecDepth 20000 in
theorem t_X5_worstCell_76 {S : List vv_Sh} (n : Nat) (k32 : Nat → Int32 → Int32 → Int32 → Int32 → Int32 → vv_M → Option (Int32 × vv_M)) (u : Int32 × vv_M) (hk32 : ∀ (p0 : Nat) (x1 : Int32) (x2 : Int32) (x3 : Int32) (x4 : Int32) (x5 : Int32) (M : vv_M) (h0 : vv_model S p0) (hf : k32 p0 x1 x2 x3 x4 x5 M = some u), vv_V [] yX5_worstCell.cls yX5_worstCell.name cX5_worstCell 7 (some .int) (vv_R 3 0 0) S.length (vv_sz S) (vv_fi S u) 32 [(0, .ref p0), (1, .int x1), (2, .int x2), (3, .int x3), (4, .int x4), (5, .int x5)] [] S M) (p0 : Nat) (x1 : Int32) (x2 : Int32) (x3 : Int32) (x5 : Int32) (s0 : Int32) (M : vv_M) (h0 : vv_model S p0) (hf : f_X5_worstCell_76 n k32 p0 x1 x2 x3 x5 s0 M = some u) : vv_V [] yX5_worstCell.cls yX5_worstCell.name cX5_worstCell 7 (some .int) (vv_R 3 0 0) S.length (vv_sz S) (vv_fi S u) 76 [(0, .ref p0), (1, .int x1), (2, .int x2), (3, .int x3), (5, .int x5)] [.int s0] S M := by
  unfold f_X5_worstCell_76 at hf
  refine vi_istore (L' := [(4, .int s0), (0, .ref p0), (1, .int x1), (2, .int x2), (3, .int x3), (5, .int x5)]) dX5_worstCell_76 (by decide) rfl ?_
  obtain ⟨y11, ey11, hf⟩ := vv_lt hf
  refine vi_iinc (v := y11) (L' := [(5, .int y11), (4, .int s0), (0, .ref p0), (1, .int x1), (2, .int x2), (3, .int x3)]) 5 dX5_worstCell_78 rfl (by rw [ey11]; rfl) (by decide) rfl ?_
  refine vi_goto 32 dX5_worstCell_81 (by decide) ?_
  refine vi_sub (L' := [(0, .ref p0), (1, .int x1), (2, .int x2), (3, .int x3), (4, .int s0), (5, .int y11)]) [2, 3, 4, 5, 1, 0] rfl ?_
  exact hk32 p0 x1 x2 x3 s0 y11 M h0 hf
set_option maxRecDepth 20000 in
theorem t_X5_worstCell_61 {S : List vv_Sh} (n : Nat) (k32 : Nat → Int32 → Int32 → Int32 → Int32 → Int32 → vv_M → Option (Int32 × vv_M)) (u : Int32 × vv_M) (hk32 : ∀ (p0 : Nat) (x1 : Int32) (x2 : Int32) (x3 : Int32) (x4 : Int32) (x5 : Int32) (M : vv_M) (h0 : vv_model S p0) (hf : k32 p0 x1 x2 x3 x4 x5 M = some u), vv_V [] yX5_worstCell.cls yX5_worstCell.name cX5_worstCell 7 (some .int) (vv_R 3 0 0) S.length (vv_sz S) (vv_fi S u) 32 [(0, .ref p0), (1, .int x1), (2, .int x2), (3, .int x3), (4, .int x4), (5, .int x5)] [] S M) (p0 : Nat) (x1 : Int32) (x2 : Int32) (x4 : Int32) (x5 : Int32) (x6 : Int32) (s0 : Int32) (M : vv_M) (h0 : vv_model S p0) (hf : f_X5_worstCell_61 n k32 p0 x1 x2 x4 x5 x6 s0 M = some u) : vv_V [] yX5_worstCell.cls yX5_worstCell.name cX5_worstCell 7 (some .int) (vv_R 3 0 0) S.length (vv_sz S) (vv_fi S u) 61 [(0, .ref p0), (1, .int x1), (2, .int x2), (4, .int x4), (5, .int x5), (6, .int x6)] [.int s0] S M := by
  unfold f_X5_worstCell_61 at hf
  refine vi_istore_n (L' := [(3, .int s0), (0, .ref p0), (1, .int x1), (2, .int x2), (4, .int x4), (5, .int x5), (6, .int x6)]) dX5_worstCell_61 rfl (by decide) rfl ?_
  refine vi_iload 6 dX5_worstCell_62 rfl ?_
  refine vi_iload 4 dX5_worstCell_64 rfl ?_
  refine vi_icmp_le 74 dX5_worstCell_66 (by decide) (fun c10 => ?_) (fun c10 => ?_)
  · rw [if_pos c10] at hf
    refine vi_iload 4 dX5_worstCell_74 rfl ?_
    refine vi_sub (L' := [(0, .ref p0), (1, .int x1), (2, .int x2), (3, .int s0), (5, .int x5)]) [1, 2, 3, 0, 5] rfl ?_
    exact t_X5_worstCell_76 n k32 u hk32 p0 x1 x2 s0 x5 x4 M h0 hf
  · rw [if_neg c10] at hf
    refine vi_iload 6 dX5_worstCell_69 rfl ?_
    refine vi_goto 76 dX5_worstCell_71 (by decide) ?_
    refine vi_sub (L' := [(0, .ref p0), (1, .int x1), (2, .int x2), (3, .int s0), (5, .int x5)]) [1, 2, 3, 0, 5] rfl ?_
    exact t_X5_worstCell_76 n k32 u hk32 p0 x1 x2 s0 x5 x6 M h0 hf
set_option maxRecDepth 20000 in
theorem t_X5_worstCell_32 {S : List vv_Sh} (n : Nat)  (u : Int32 × vv_M)  : ∀ (k : Nat) (p0 : Nat) (x1 : Int32) (x2 : Int32) (x3 : Int32) (x4 : Int32) (x5 : Int32) (M : vv_M) (h0 : vv_model S p0) (hf : f_X5_worstCell_32 n  k p0 x1 x2 x3 x4 x5 M = some u), vv_V [] yX5_worstCell.cls yX5_worstCell.name cX5_worstCell 7 (some .int) (vv_R 3 0 0) S.length (vv_sz S) (vv_fi S u) 32 [(0, .ref p0), (1, .int x1), (2, .int x2), (3, .int x3), (4, .int x4), (5, .int x5)] [] S M := by
  intro k
  induction k with
  | zero =>
    intro p0 x1 x2 x3 x4 x5 M h0 hf
    exact absurd (show (none : Option (Int32 × vv_M)) = some u from hf) (by simp)
  | succ k ih =>
    intro p0 x1 x2 x3 x4 x5 M h0 hf
    rw [f_X5_worstCell_32.eq_2] at hf
    refine vi_iload 5 dX5_worstCell_32 rfl ?_
    refine vi_bipush (v := (49 : Int32)) dX5_worstCell_34 (by decide) ?_
    refine vi_icmp_ge 84 dX5_worstCell_36 (by decide) (fun c5 => ?_) (fun c5 => ?_)
    · rw [if_pos c5] at hf
      refine vi_iload_n 2 dX5_worstCell_84 rfl rfl ?_
      refine vi_if_ne 92 dX5_worstCell_85 (by decide) (fun c6 => ?_) (fun c6 => ?_)
      · rw [if_neg c6] at hf
        refine vi_iload 4 dX5_worstCell_92 rfl ?_
        obtain rfl := Option.some.inj hf
        exact vi_ret (v := some (.int x4)) rfl ⟨dX5_worstCell_94, .int, rfl, rfl⟩ ⟨rfl, rfl, rfl⟩
      · rw [if_pos c6] at hf
        refine vi_iload_n 3 dX5_worstCell_88 rfl rfl ?_
        refine vi_goto 94 dX5_worstCell_89 (by decide) ?_
        obtain rfl := Option.some.inj hf
        exact vi_ret (v := some (.int x3)) rfl ⟨dX5_worstCell_94, .int, rfl, rfl⟩ ⟨rfl, rfl, rfl⟩
    · rw [if_neg c5] at hf
      refine vi_aload_n 0 dX5_worstCell_39 rfl rfl ?_
      refine vi_iload 5 dX5_worstCell_40 rfl ?_
      refine vi_iload_n 1 dX5_worstCell_42 rfl rfl ?_
      obtain ⟨u7, hu7, hf⟩ := vv_bd hf
      refine vi_callV (As := [.int x5, .int x1]) (st := []) (t_X5_faultsIn n p0 x5 x1 M u7 h0 hu7) rfl yo_X5_faultsIn wm_X5_169 wi_X5_faultsIn ws_X5_faultsIn wI_X5 wc_X5_faultsIn (vv_model_o h0) rfl ⟨Nat.le_of_ble_eq_true rfl, Nat.le_of_ble_eq_true rfl⟩ (vv_rm0 rfl rfl) (Nat.le_of_ble_eq_true rfl) rfl rfl dX5_worstCell_43 ?_
      obtain ⟨y8, ey8, hf⟩ := vv_lt hf
      refine vi_istore (L' := [(6, .int y8), (0, .ref p0), (1, .int x1), (2, .int x2), (3, .int x3), (4, .int x4), (5, .int x5)]) dX5_worstCell_46 (by decide) (by rw [ey8]; rfl) ?_
      refine vi_iload 0 dX5_worstCell_48 rfl ?_
      refine vi_iload 5 dX5_worstCell_50 rfl ?_
      refine vi_icmp_le 60 dX5_worstCell_52 (by decide) (fun c9 => ?_) (fun c9 => ?_)
      · rw [if_pos c9] at hf
        refine vi_iload_n 4 dX5_worstCell_60 rfl rfl ?_
        refine vi_sub (L' := [(0, .ref p0), (1, .int x1), (2, .int x2), (4, .int x4), (5, .int x5), (6, .int y8)]) [1, 2, 3, 5, 6, 0] rfl ?_
        exact t_X5_worstCell_61 n (f_X5_worstCell_32 n k) u ih p0 x1 x2 x4 x5 y8 x3 u7.2 h0 hf
      · rw [if_neg c9] at hf
        refine vi_iload 6 dX5_worstCell_55 rfl ?_
        refine vi_goto 61 dX5_worstCell_57 (by decide) ?_
        refine vi_sub (L' := [(0, .ref p0), (1, .int x1), (2, .int x2), (4, .int x4), (5, .int x5), (6, .int y8)]) [1, 2, 3, 5, 6, 0] rfl ?_
        exact t_X5_worstCell_61 n (f_X5_worstCell_32 n k) u ih p0 x1 x2 x4 x5 y8 x5 u7.2 h0 hf
set_option maxRecDepth 20000 in
theorem t_X5_worstCell {S : List vv_Sh} (n : Nat) (p0 : Nat) (x1 : Int32) (x2 : Int32) (M : vv_M) (u : Int32 × vv_M) (h0 : vv_model S p0) (hf : f_X5_worstCell n p0 x1 x2 M = some u) : vv_C yX5_worstCell (vv_w yX5_worstCell cX5_worstCell 7 (some .int)) (vv_R 3 0 0) [.ref p0, .int x1, .int x2] S M (some (.int u.1)) S u.2 := by
  refine vv_ofV (by decide +kernel) (Nat.le_of_ble_eq_true rfl) (L := [(0, .ref p0), (1, .int x1), (2, .int x2)]) rfl rfl rfl ?_
  show vv_V [] yX5_worstCell.cls yX5_worstCell.name cX5_worstCell 7 (some .int) (vv_R 3 0 0) S.length (vv_sz S) (vv_fi S u) 0 [(0, .ref p0), (1, .int x1), (2, .int x2)] [] S M
  unfold f_X5_worstCell at hf
  refine vi_iload_n 1 dX5_worstCell_0 rfl rfl ?_
  refine vi_iconst (v := (0 : Int32)) dX5_worstCell_1 (by decide) ?_
  refine vi_iconst (v := (4 : Int32)) dX5_worstCell_2 (by decide) ?_
  obtain ⟨u1, hu1, hf⟩ := vv_bd hf
  refine vi_callS (As := [.int x1, .int (0 : Int32), .int (4 : Int32)]) (st := []) (t_X5_in n x1 (0 : Int32) (4 : Int32) M u1  hu1) rfl yo_X5_in wm_X5_23 wi_X5_in wI_X5 wc_X5_in ⟨Nat.le_of_ble_eq_true rfl, Nat.le_of_ble_eq_true rfl⟩ (vv_rm0 rfl rfl) (Nat.le_of_ble_eq_true rfl) rfl rfl dX5_worstCell_3 ?_
  refine vi_if_eq 18 dX5_worstCell_6 (by decide) (fun c2 => ?_) (fun c2 => ?_)
  · rw [if_pos c2] at hf
    refine vi_sipush (v := (-1001 : Int32)) dX5_worstCell_18 (by decide) ?_
    obtain rfl := Option.some.inj hf
    exact vi_ret (v := some (.int (-1001 : Int32))) rfl ⟨dX5_worstCell_21, .int, rfl, rfl⟩ ⟨rfl, rfl, rfl⟩
  · rw [if_neg c2] at hf
    refine vi_iload_n 2 dX5_worstCell_9 rfl rfl ?_
    refine vi_iconst (v := (0 : Int32)) dX5_worstCell_10 (by decide) ?_
    refine vi_iconst (v := (1 : Int32)) dX5_worstCell_11 (by decide) ?_
    obtain ⟨u3, hu3, hf⟩ := vv_bd hf
    refine vi_callS (As := [.int x2, .int (0 : Int32), .int (1 : Int32)]) (st := []) (t_X5_in n x2 (0 : Int32) (1 : Int32) u1.2 u3  hu3) rfl yo_X5_in wm_X5_23 wi_X5_in wI_X5 wc_X5_in ⟨Nat.le_of_ble_eq_true rfl, Nat.le_of_ble_eq_true rfl⟩ (vv_rm0 rfl rfl) (Nat.le_of_ble_eq_true rfl) rfl rfl dX5_worstCell_12 ?_
    refine vi_if_ne 22 dX5_worstCell_15 (by decide) (fun c4 => ?_) (fun c4 => ?_)
    · rw [if_neg c4] at hf
      refine vi_sipush (v := (-1009 : Int32)) dX5_worstCell_22 (by decide) ?_
      refine vi_istore_n (L' := [(3, .int (-1009 : Int32)), (0, .ref p0), (1, .int x1), (2, .int x2)]) dX5_worstCell_25 rfl (by decide) rfl ?_
      refine vi_iconst (v := (0 : Int32)) dX5_worstCell_26 (by decide) ?_
      refine vi_istore (L' := [(4, .int (0 : Int32)), (3, .int (-1009 : Int32)), (0, .ref p0), (1, .int x1), (2, .int x2)]) dX5_worstCell_27 (by decide) rfl ?_
      refine vi_iconst (v := (0 : Int32)) dX5_worstCell_29 (by decide) ?_
      refine vi_istore (L' := [(5, .int (0 : Int32)), (4, .int (0 : Int32)), (3, .int (-1009 : Int32)), (0, .ref p0), (1, .int x1), (2, .int x2)]) dX5_worstCell_30 (by decide) rfl ?_
      refine vi_sub (L' := [(0, .ref p0), (1, .int x1), (2, .int x2), (3, .int (-1009 : Int32)), (4, .int (0 : Int32)), (5, .int (0 : Int32))]) [3, 4, 5, 2, 1, 0] rfl ?_
      exact t_X5_worstCell_32 n  u  n p0 x1 x2 (-1009 : Int32) (0 : Int32) (0 : Int32) u3.2 h0 hf
    · rw [if_pos c4] at hf
      refine vi_sipush (v := (-1001 : Int32)) dX5_worstCell_18 (by decide) ?_
      obtain rfl := Option.some.inj hf
      exact vi_ret (v := some (.int (-1001 : Int32))) rfl ⟨dX5_worstCell_21, .int, rfl, rfl⟩ ⟨rfl, rfl, rfl⟩
set_option maxRecDepth 20000 in
theorem t_X5_faultCells_25 {S : List vv_Sh} (n : Nat) (k4 : Nat → Int32 → Int32 → vv_M → Option (Int32 × vv_M)) (u : Int32 × vv_M) (hk4 : ∀ (p0 : Nat) (x1 : Int32) (x2 : Int32) (M : vv_M) (h0 : vv_model S p0) (hf : k4 p0 x1 x2 M = some u), vv_V [] yX5_faultCells.cls yX5_faultCells.name cX5_faultCells 3 (some .int) (vv_R 3 0 0) S.length (vv_sz S) (vv_fi S u) 4 [(0, .ref p0), (1, .int x1), (2, .int x2)] [] S M) (p0 : Nat) (x2 : Int32) (s0 : Int32) (s1 : Int32) (M : vv_M) (h0 : vv_model S p0) (hf : f_X5_faultCells_25 n k4 p0 x2 s0 s1 M = some u) : vv_V [] yX5_faultCells.cls yX5_faultCells.name cX5_faultCells 3 (some .int) (vv_R 3 0 0) S.length (vv_sz S) (vv_fi S u) 25 [(0, .ref p0), (2, .int x2)] [.int s1, .int s0] S M := by
  unfold f_X5_faultCells_25 at hf
  refine vi_iadd dX5_faultCells_25 ?_
  obtain ⟨y4, ey4, hf⟩ := vv_lt hf
  refine vi_istore_n (L' := [(1, .int y4), (0, .ref p0), (2, .int x2)]) dX5_faultCells_26 rfl (by decide) (by rw [ey4]; rfl) ?_
  obtain ⟨y5, ey5, hf⟩ := vv_lt hf
  refine vi_iinc (v := y5) (L' := [(2, .int y5), (1, .int y4), (0, .ref p0)]) 2 dX5_faultCells_27 rfl (by rw [ey5]; rfl) (by decide) rfl ?_
  refine vi_goto 4 dX5_faultCells_30 (by decide) ?_
  refine vi_sub (L' := [(0, .ref p0), (1, .int y4), (2, .int y5)]) [2, 1, 0] rfl ?_
  exact hk4 p0 y4 y5 M h0 hf
set_option maxRecDepth 20000 in
theorem t_X5_faultCells_4 {S : List vv_Sh} (n : Nat)  (u : Int32 × vv_M)  : ∀ (k : Nat) (p0 : Nat) (x1 : Int32) (x2 : Int32) (M : vv_M) (h0 : vv_model S p0) (hf : f_X5_faultCells_4 n  k p0 x1 x2 M = some u), vv_V [] yX5_faultCells.cls yX5_faultCells.name cX5_faultCells 3 (some .int) (vv_R 3 0 0) S.length (vv_sz S) (vv_fi S u) 4 [(0, .ref p0), (1, .int x1), (2, .int x2)] [] S M := by
  intro k
  induction k with
  | zero =>
    intro p0 x1 x2 M h0 hf
    exact absurd (show (none : Option (Int32 × vv_M)) = some u from hf) (by simp)
  | succ k ih =>
    intro p0 x1 x2 M h0 hf
    rw [f_X5_faultCells_4.eq_2] at hf
    refine vi_iload_n 2 dX5_faultCells_4 rfl rfl ?_
    refine vi_bipush (v := (49 : Int32)) dX5_faultCells_5 (by decide) ?_
    refine vi_icmp_ge 33 dX5_faultCells_7 (by decide) (fun c1 => ?_) (fun c1 => ?_)
    · rw [if_pos c1] at hf
      refine vi_iload_n 1 dX5_faultCells_33 rfl rfl ?_
      obtain rfl := Option.some.inj hf
      exact vi_ret (v := some (.int x1)) rfl ⟨dX5_faultCells_34, .int, rfl, rfl⟩ ⟨rfl, rfl, rfl⟩
    · rw [if_neg c1] at hf
      refine vi_iload_n 1 dX5_faultCells_10 rfl rfl ?_
      refine vi_aload_n 0 dX5_faultCells_11 rfl rfl ?_
      refine vi_iload_n 2 dX5_faultCells_12 rfl rfl ?_
      refine vi_iconst (v := (5 : Int32)) dX5_faultCells_13 (by decide) ?_
      obtain ⟨u2, hu2, hf⟩ := vv_bd hf
      refine vi_callV (As := [.int x2, .int (5 : Int32)]) (st := [.int x1]) (t_X5_faultsIn n p0 x2 (5 : Int32) M u2 h0 hu2) rfl yo_X5_faultsIn wm_X5_169 wi_X5_faultsIn ws_X5_faultsIn wI_X5 wc_X5_faultsIn (vv_model_o h0) rfl ⟨Nat.le_of_ble_eq_true rfl, Nat.le_of_ble_eq_true rfl⟩ (vv_rm0 rfl rfl) (Nat.le_of_ble_eq_true rfl) rfl rfl dX5_faultCells_14 ?_
      refine vi_if_le 24 dX5_faultCells_17 (by decide) (fun c3 => ?_) (fun c3 => ?_)
      · rw [if_pos c3] at hf
        refine vi_iconst (v := (0 : Int32)) dX5_faultCells_24 (by decide) ?_
        refine vi_sub (L' := [(0, .ref p0), (2, .int x2)]) [0, 2] rfl ?_
        exact t_X5_faultCells_25 n (f_X5_faultCells_4 n k) u ih p0 x2 x1 (0 : Int32) u2.2 h0 hf
      · rw [if_neg c3] at hf
        refine vi_iconst (v := (1 : Int32)) dX5_faultCells_20 (by decide) ?_
        refine vi_goto 25 dX5_faultCells_21 (by decide) ?_
        refine vi_sub (L' := [(0, .ref p0), (2, .int x2)]) [0, 2] rfl ?_
        exact t_X5_faultCells_25 n (f_X5_faultCells_4 n k) u ih p0 x2 x1 (1 : Int32) u2.2 h0 hf
set_option maxRecDepth 20000 in
theorem t_X5_faultCells {S : List vv_Sh} (n : Nat) (p0 : Nat) (M : vv_M) (u : Int32 × vv_M) (h0 : vv_model S p0) (hf : f_X5_faultCells n p0 M = some u) : vv_C yX5_faultCells (vv_w yX5_faultCells cX5_faultCells 3 (some .int)) (vv_R 3 0 0) [.ref p0] S M (some (.int u.1)) S u.2 := by
  refine vv_ofV (by decide +kernel) (Nat.le_of_ble_eq_true rfl) (L := [(0, .ref p0)]) rfl rfl rfl ?_
  show vv_V [] yX5_faultCells.cls yX5_faultCells.name cX5_faultCells 3 (some .int) (vv_R 3 0 0) S.length (vv_sz S) (vv_fi S u) 0 [(0, .ref p0)] [] S M
  unfold f_X5_faultCells at hf
  refine vi_iconst (v := (0 : Int32)) dX5_faultCells_0 (by decide) ?_
  refine vi_istore_n (L' := [(1, .int (0 : Int32)), (0, .ref p0)]) dX5_faultCells_1 rfl (by decide) rfl ?_
  refine vi_iconst (v := (0 : Int32)) dX5_faultCells_2 (by decide) ?_
  refine vi_istore_n (L' := [(2, .int (0 : Int32)), (1, .int (0 : Int32)), (0, .ref p0)]) dX5_faultCells_3 rfl (by decide) rfl ?_
  refine vi_sub (L' := [(0, .ref p0), (1, .int (0 : Int32)), (2, .int (0 : Int32))]) [2, 1, 0] rfl ?_
  exact t_X5_faultCells_4 n  u  n p0 (0 : Int32) (0 : Int32) M h0 hf
set_option maxRecDepth 20000 in
theorem t_X5_ride_2 {S : List vv_Sh} (n : Nat)  (u : Int32 × vv_M)  : ∀ (k : Nat) (p0 : Nat) (x1 : Int32) (x2 : Int32) (M : vv_M) (h0 : vv_model S p0) (hf : f_X5_ride_2 n  k p0 x1 x2 M = some u), vv_V [] yX5_ride.cls yX5_ride.name cX5_ride 3 (some .int) (vv_R 5 0 0) S.length (vv_sz S) (vv_fi S u) 2 [(0, .ref p0), (1, .int x1), (2, .int x2)] [] S M := by
  intro k
  induction k with
  | zero =>
    intro p0 x1 x2 M h0 hf
    exact absurd (show (none : Option (Int32 × vv_M)) = some u from hf) (by simp)
  | succ k ih =>
    intro p0 x1 x2 M h0 hf
    rw [f_X5_ride_2.eq_2] at hf
    refine vi_aload_n 0 dX5_ride_2 rfl rfl ?_
    refine vi_iload_n 1 dX5_ride_3 rfl rfl ?_
    obtain ⟨u1, hu1, hf⟩ := vv_bd hf
    refine vi_callV (As := [.int x1]) (st := []) (t_X5_isOn n p0 x1 M u1 h0 hu1) rfl yo_X5_isOn wm_X5_67 wi_X5_isOn ws_X5_isOn wI_X5 wc_X5_isOn (vv_model_o h0) rfl ⟨Nat.le_of_ble_eq_true rfl, Nat.le_of_ble_eq_true rfl⟩ (vv_rm0 rfl rfl) (Nat.le_of_ble_eq_true rfl) rfl rfl dX5_ride_4 ?_
    refine vi_if_eq 20 dX5_ride_7 (by decide) (fun c2 => ?_) (fun c2 => ?_)
    · rw [if_pos c2] at hf
      refine vi_iload_n 2 dX5_ride_20 rfl rfl ?_
      obtain rfl := Option.some.inj hf
      exact vi_ret (v := some (.int x2)) rfl ⟨dX5_ride_21, .int, rfl, rfl⟩ ⟨rfl, rfl, rfl⟩
    · rw [if_neg c2] at hf
      refine vi_aload_n 0 dX5_ride_10 rfl rfl ?_
      obtain ⟨u3, hu3, hf⟩ := vv_bd hf
      refine vi_callV (As := []) (st := []) (t_X5_tick n p0 u1.2 u3 h0 hu3) rfl yo_X5_tick wm_X5_115 wi_X5_tick ws_X5_tick wI_X5 wc_X5_tick (vv_model_o h0) rfl ⟨Nat.le_of_ble_eq_true rfl, Nat.le_of_ble_eq_true rfl⟩ (vv_rm0 rfl rfl) (Nat.le_of_ble_eq_true rfl) rfl rfl dX5_ride_11 ?_
      obtain ⟨y4, ey4, hf⟩ := vv_lt hf
      refine vi_iinc (v := y4) (L' := [(2, .int y4), (0, .ref p0), (1, .int x1)]) 2 dX5_ride_14 rfl (by rw [ey4]; rfl) (by decide) rfl ?_
      refine vi_goto 2 dX5_ride_17 (by decide) ?_
      refine vi_sub (L' := [(0, .ref p0), (1, .int x1), (2, .int y4)]) [1, 2, 0] rfl ?_
      exact ih p0 x1 y4 u3.2 h0 hf
set_option maxRecDepth 20000 in
theorem t_X5_ride {S : List vv_Sh} (n : Nat) (p0 : Nat) (x1 : Int32) (M : vv_M) (u : Int32 × vv_M) (h0 : vv_model S p0) (hf : f_X5_ride n p0 x1 M = some u) : vv_C yX5_ride (vv_w yX5_ride cX5_ride 3 (some .int)) (vv_R 5 0 0) [.ref p0, .int x1] S M (some (.int u.1)) S u.2 := by
  refine vv_ofV (by decide +kernel) (Nat.le_of_ble_eq_true rfl) (L := [(0, .ref p0), (1, .int x1)]) rfl rfl rfl ?_
  show vv_V [] yX5_ride.cls yX5_ride.name cX5_ride 3 (some .int) (vv_R 5 0 0) S.length (vv_sz S) (vv_fi S u) 0 [(0, .ref p0), (1, .int x1)] [] S M
  unfold f_X5_ride at hf
  refine vi_iconst (v := (0 : Int32)) dX5_ride_0 (by decide) ?_
  refine vi_istore_n (L' := [(2, .int (0 : Int32)), (0, .ref p0), (1, .int x1)]) dX5_ride_1 rfl (by decide) rfl ?_
  refine vi_sub (L' := [(0, .ref p0), (1, .int x1), (2, .int (0 : Int32))]) [1, 2, 0] rfl ?_
  exact t_X5_ride_2 n  u  n p0 x1 (0 : Int32) M h0 hf
set_option maxRecDepth 20000 in
theorem t_X5_foretell_88 {S : List vv_Sh} (n : Nat)  (u : Int32 × vv_M)  (p0 : Nat) (s0 : Int32) (M : vv_M) (h0 : vv_model S p0) (hf : f_X5_foretell_88 n  p0 s0 M = some u) : vv_V [] yX5_foretell.cls yX5_foretell.name cX5_foretell 5 (some .int) (vv_R 6 0 0) S.length (vv_sz S) (vv_fi S u) 88 [(0, .ref p0)] [.int s0] S M := by
  unfold f_X5_foretell_88 at hf
  refine vi_istore (L' := [(4, .int s0), (0, .ref p0)]) dX5_foretell_88 (by decide) rfl ?_
  refine vi_aload_n 1 dX5_foretell_90 rfl rfl ?_
  refine vi_sipush (v := (12738 : Int32)) dX5_foretell_91 (by decide) ?_
  refine vi_iconst (v := (0 : Int32)) dX5_foretell_94 (by decide) ?_
  refine vi_sipush (v := (707 : Int32)) dX5_foretell_95 (by decide) ?_
  obtain ⟨u14, hu14, hf⟩ := vv_bd hf
  refine vi_callV (As := [.int (12738 : Int32), .int (0 : Int32), .int (707 : Int32)]) (st := []) (t_X5_copy n p0 (12738 : Int32) (0 : Int32) (707 : Int32) M u14 h0 hu14) rfl yo_X5_copy wm_X5_34 wi_X5_copy ws_X5_copy wI_X5 wc_X5_copy (vv_model_o h0) rfl ⟨Nat.le_of_ble_eq_true rfl, Nat.le_of_ble_eq_true rfl⟩ (vv_rm0 rfl rfl) (Nat.le_of_ble_eq_true rfl) rfl rfl dX5_foretell_98 ?_
  refine vi_iload 0 dX5_foretell_101 rfl ?_
  obtain rfl := Option.some.inj hf
  exact vi_ret (v := some (.int s0)) rfl ⟨dX5_foretell_103, .int, rfl, rfl⟩ ⟨rfl, rfl, rfl⟩
set_option maxRecDepth 20000 in
theorem t_X5_foretell_84 {S : List vv_Sh} (n : Nat)  (u : Int32 × vv_M)  (p0 : Nat) (s0 : Nat) (s1 : Int32) (s2 : Int32) (M : vv_M) (h0 : vv_model S p0) (g0 : S[s0]? = some (.inl (0, 13445))) (hf : f_X5_foretell_84 n  p0 s0 s1 s2 M = some u) : vv_V [] yX5_foretell.cls yX5_foretell.name cX5_foretell 5 (some .int) (vv_R 6 0 0) S.length (vv_sz S) (vv_fi S u) 84 [(0, .ref p0)] [.int s2, .int s1, .ref s0] S M := by
  unfold f_X5_foretell_84 at hf
  obtain ⟨u13, hu13, hf⟩ := vv_bd hf
  refine vi_callS (As := [.int s1, .int s2]) (st := [.ref s0]) (t_X5_of n s1 s2 M u13  hu13) rfl yo_X5_of wm_X5_27 wi_X5_of wI_X5 wc_X5_of ⟨Nat.le_of_ble_eq_true rfl, Nat.le_of_ble_eq_true rfl⟩ (vv_rm0 rfl rfl) (Nat.le_of_ble_eq_true rfl) rfl rfl dX5_foretell_84 ?_
  obtain ⟨g15, hf⟩ := vv_gd hf
  refine vi_iald g0 g15 dX5_foretell_87 ?_
  exact t_X5_foretell_88 n  u  p0 (u13.2 s0 u13.1.toNatClampNeg) u13.2 h0 hf
set_option maxRecDepth 20000 in
theorem t_X5_foretell_50 {S : List vv_Sh} (n : Nat)  (u : Int32 × vv_M)  (p0 : Nat) (x1 : Int32) (x2 : Int32) (x3 : Int32) (M : vv_M) (h0 : vv_model S p0) (hf : f_X5_foretell_50 n  p0 x1 x2 x3 M = some u) : vv_V [] yX5_foretell.cls yX5_foretell.name cX5_foretell 5 (some .int) (vv_R 6 0 0) S.length (vv_sz S) (vv_fi S u) 50 [(0, .ref p0), (1, .int x1), (2, .int x2), (3, .int x3)] [] S M := by
  unfold f_X5_foretell_50 at hf
  refine vi_iload_n 2 dX5_foretell_50 rfl rfl ?_
  refine vi_iconst (v := (2 : Int32)) dX5_foretell_51 (by decide) ?_
  refine vi_icmp_ne 59 dX5_foretell_52 (by decide) (fun c10 => ?_) (fun c10 => ?_)
  · rw [if_neg c10] at hf
    refine vi_aload_n 0 dX5_foretell_59 rfl rfl ?_
    refine vi_getr (t := p0 + 1) 0 rfl (vv_model_o h0) rfl wu_X5 (by decide) wf_X5_7 dX5_foretell_60 ?_
    refine vi_iload_n 1 dX5_foretell_63 rfl rfl ?_
    refine vi_iload_n 2 dX5_foretell_64 rfl rfl ?_
    refine vi_if_ne 73 dX5_foretell_65 (by decide) (fun c11 => ?_) (fun c11 => ?_)
    · rw [if_neg c11] at hf
      refine vi_iload_n 2 dX5_foretell_73 rfl rfl ?_
      refine vi_iconst (v := (1 : Int32)) dX5_foretell_74 (by decide) ?_
      refine vi_icmp_ne 83 dX5_foretell_75 (by decide) (fun c12 => ?_) (fun c12 => ?_)
      · rw [if_neg c12] at hf
        refine vi_iconst (v := (4 : Int32)) dX5_foretell_83 (by decide) ?_
        refine vi_sub (L' := [(0, .ref p0)]) [0] rfl ?_
        exact t_X5_foretell_84 n  u  p0 (p0 + 1) x1 (4 : Int32) M h0 (vv_model_row h0) hf
      · rw [if_pos c12] at hf
        refine vi_bipush (v := (6 : Int32)) dX5_foretell_78 (by decide) ?_
        refine vi_goto 84 dX5_foretell_80 (by decide) ?_
        refine vi_sub (L' := [(0, .ref p0)]) [0] rfl ?_
        exact t_X5_foretell_84 n  u  p0 (p0 + 1) x1 (6 : Int32) M h0 (vv_model_row h0) hf
    · rw [if_pos c11] at hf
      refine vi_bipush (v := (8 : Int32)) dX5_foretell_68 (by decide) ?_
      refine vi_goto 84 dX5_foretell_70 (by decide) ?_
      refine vi_sub (L' := [(0, .ref p0)]) [0] rfl ?_
      exact t_X5_foretell_84 n  u  p0 (p0 + 1) x1 (8 : Int32) M h0 (vv_model_row h0) hf
  · rw [if_pos c10] at hf
    refine vi_iload_n 3 dX5_foretell_55 rfl rfl ?_
    refine vi_goto 88 dX5_foretell_56 (by decide) ?_
    refine vi_sub (L' := [(0, .ref p0)]) [0] rfl ?_
    exact t_X5_foretell_88 n  u  p0 x3 M h0 hf
set_option maxRecDepth 20000 in
theorem t_X5_foretell {S : List vv_Sh} (n : Nat) (p0 : Nat) (x1 : Int32) (x2 : Int32) (M : vv_M) (u : Int32 × vv_M) (h0 : vv_model S p0) (hf : f_X5_foretell n p0 x1 x2 M = some u) : vv_C yX5_foretell (vv_w yX5_foretell cX5_foretell 5 (some .int)) (vv_R 6 0 0) [.ref p0, .int x1, .int x2] S M (some (.int u.1)) S u.2 := by
  refine vv_ofV (by decide +kernel) (Nat.le_of_ble_eq_true rfl) (L := [(0, .ref p0), (1, .int x1), (2, .int x2)]) rfl rfl rfl ?_
  show vv_V [] yX5_foretell.cls yX5_foretell.name cX5_foretell 5 (some .int) (vv_R 6 0 0) S.length (vv_sz S) (vv_fi S u) 0 [(0, .ref p0), (1, .int x1), (2, .int x2)] [] S M
  unfold f_X5_foretell at hf
  refine vi_aload_n 0 dX5_foretell_0 rfl rfl ?_
  refine vi_iload_n 1 dX5_foretell_1 rfl rfl ?_
  obtain ⟨u1, hu1, hf⟩ := vv_bd hf
  refine vi_callV (As := [.int x1]) (st := []) (t_X5_isBoard n p0 x1 M u1 h0 hu1) rfl yo_X5_isBoard wm_X5_83 wi_X5_isBoard ws_X5_isBoard wI_X5 wc_X5_isBoard (vv_model_o h0) rfl ⟨Nat.le_of_ble_eq_true rfl, Nat.le_of_ble_eq_true rfl⟩ (vv_rm0 rfl rfl) (Nat.le_of_ble_eq_true rfl) rfl rfl dX5_foretell_2 ?_
  refine vi_if_eq 17 dX5_foretell_5 (by decide) (fun c2 => ?_) (fun c2 => ?_)
  · rw [if_pos c2] at hf
    refine vi_sipush (v := (-1001 : Int32)) dX5_foretell_17 (by decide) ?_
    obtain rfl := Option.some.inj hf
    exact vi_ret (v := some (.int (-1001 : Int32))) rfl ⟨dX5_foretell_20, .int, rfl, rfl⟩ ⟨rfl, rfl, rfl⟩
  · rw [if_neg c2] at hf
    refine vi_iload_n 2 dX5_foretell_8 rfl rfl ?_
    refine vi_iconst (v := (0 : Int32)) dX5_foretell_9 (by decide) ?_
    refine vi_iconst (v := (3 : Int32)) dX5_foretell_10 (by decide) ?_
    obtain ⟨u3, hu3, hf⟩ := vv_bd hf
    refine vi_callS (As := [.int x2, .int (0 : Int32), .int (3 : Int32)]) (st := []) (t_X5_in n x2 (0 : Int32) (3 : Int32) u1.2 u3  hu3) rfl yo_X5_in wm_X5_23 wi_X5_in wI_X5 wc_X5_in ⟨Nat.le_of_ble_eq_true rfl, Nat.le_of_ble_eq_true rfl⟩ (vv_rm0 rfl rfl) (Nat.le_of_ble_eq_true rfl) rfl rfl dX5_foretell_11 ?_
    refine vi_if_ne 21 dX5_foretell_14 (by decide) (fun c4 => ?_) (fun c4 => ?_)
    · rw [if_neg c4] at hf
      refine vi_aload_n 0 dX5_foretell_21 rfl rfl ?_
      refine vi_iload_n 1 dX5_foretell_22 rfl rfl ?_
      obtain ⟨u5, hu5, hf⟩ := vv_bd hf
      refine vi_callV (As := [.int x1]) (st := []) (t_X5_isOn n p0 x1 u3.2 u5 h0 hu5) rfl yo_X5_isOn wm_X5_67 wi_X5_isOn ws_X5_isOn wI_X5 wc_X5_isOn (vv_model_o h0) rfl ⟨Nat.le_of_ble_eq_true rfl, Nat.le_of_ble_eq_true rfl⟩ (vv_rm0 rfl rfl) (Nat.le_of_ble_eq_true rfl) rfl rfl dX5_foretell_23 ?_
      refine vi_if_ne 33 dX5_foretell_26 (by decide) (fun c6 => ?_) (fun c6 => ?_)
      · rw [if_neg c6] at hf
        refine vi_aload_n 0 dX5_foretell_33 rfl rfl ?_
        refine vi_iconst (v := (0 : Int32)) dX5_foretell_34 (by decide) ?_
        refine vi_sipush (v := (12738 : Int32)) dX5_foretell_35 (by decide) ?_
        refine vi_sipush (v := (707 : Int32)) dX5_foretell_38 (by decide) ?_
        obtain ⟨u7, hu7, hf⟩ := vv_bd hf
        refine vi_callV (As := [.int (0 : Int32), .int (12738 : Int32), .int (707 : Int32)]) (st := []) (t_X5_copy n p0 (0 : Int32) (12738 : Int32) (707 : Int32) u5.2 u7 h0 hu7) rfl yo_X5_copy wm_X5_34 wi_X5_copy ws_X5_copy wI_X5 wc_X5_copy (vv_model_o h0) rfl ⟨Nat.le_of_ble_eq_true rfl, Nat.le_of_ble_eq_true rfl⟩ (vv_rm0 rfl rfl) (Nat.le_of_ble_eq_true rfl) rfl rfl dX5_foretell_41 ?_
        refine vi_aload_n 0 dX5_foretell_44 rfl rfl ?_
        refine vi_iload_n 1 dX5_foretell_45 rfl rfl ?_
        obtain ⟨u8, hu8, hf⟩ := vv_bd hf
        refine vi_callV (As := [.int x1]) (st := []) (t_X5_ride n p0 x1 u7.2 u8 h0 hu8) rfl yo_X5_ride wm_X5_172 wi_X5_ride ws_X5_ride wI_X5 wc_X5_ride (vv_model_o h0) rfl ⟨Nat.le_of_ble_eq_true rfl, Nat.le_of_ble_eq_true rfl⟩ (vv_rm0 rfl rfl) (Nat.le_of_ble_eq_true rfl) rfl rfl dX5_foretell_46 ?_
        obtain ⟨y9, ey9, hf⟩ := vv_lt hf
        refine vi_istore_n (L' := [(3, .int y9), (0, .ref p0), (1, .int x1), (2, .int x2)]) dX5_foretell_49 rfl (by decide) (by rw [ey9]; rfl) ?_
        refine vi_sub (L' := [(0, .ref p0), (1, .int x1), (2, .int x2), (3, .int y9)]) [1, 2, 3, 0] rfl ?_
        exact t_X5_foretell_50 n  u  p0 x1 x2 y9 u8.2 h0 hf
      · rw [if_pos c6] at hf
        refine vi_sipush (v := (-1002 : Int32)) dX5_foretell_29 (by decide) ?_
        obtain rfl := Option.some.inj hf
        exact vi_ret (v := some (.int (-1002 : Int32))) rfl ⟨dX5_foretell_32, .int, rfl, rfl⟩ ⟨rfl, rfl, rfl⟩
    · rw [if_pos c4] at hf
      refine vi_sipush (v := (-1001 : Int32)) dX5_foretell_17 (by decide) ?_
      obtain rfl := Option.some.inj hf
      exact vi_ret (v := some (.int (-1001 : Int32))) rfl ⟨dX5_foretell_20, .int, rfl, rfl⟩ ⟨rfl, rfl, rfl⟩
set_option maxRecDepth 20000 in
theorem t_X5_failsBy_62 {S : List vv_Sh} (n : Nat)  (u : Int32 × vv_M)  (p0 : Nat) (x4 : Int32) (s0 : Nat) (s1 : Int32) (s2 : Int32) (M : vv_M) (h0 : vv_model S p0) (g0 : S[s0]? = some (.inl (0, 13445))) (hf : f_X5_failsBy_62 n  p0 x4 s0 s1 s2 M = some u) : vv_V [] yX5_failsBy.cls yX5_failsBy.name cX5_failsBy 6 (some .int) (vv_R 6 0 0) S.length (vv_sz S) (vv_fi S u) 62 [(0, .ref p0), (4, .int x4)] [.int s2, .int s1, .ref s0] S M := by
  unfold f_X5_failsBy_62 at hf
  obtain ⟨g8, hf⟩ := vv_gd hf
  obtain ⟨M9, eM9, hf⟩ := vv_lt hf
  refine vi_iast g0 g8 eM9.symm dX5_failsBy_62 ?_
  refine vi_aload_n 0 dX5_failsBy_63 rfl rfl ?_
  refine vi_iload 1 dX5_failsBy_64 rfl ?_
  obtain ⟨u10, hu10, hf⟩ := vv_bd hf
  refine vi_callV (As := [.int x4]) (st := []) (t_X5_ride n p0 x4 M9 u10 h0 hu10) rfl yo_X5_ride wm_X5_172 wi_X5_ride ws_X5_ride wI_X5 wc_X5_ride (vv_model_o h0) rfl ⟨Nat.le_of_ble_eq_true rfl, Nat.le_of_ble_eq_true rfl⟩ (vv_rm0 rfl rfl) (Nat.le_of_ble_eq_true rfl) rfl rfl dX5_failsBy_66 ?_
  refine vi_pop dX5_failsBy_69 rfl ?_
  refine vi_aload_n 0 dX5_failsBy_70 rfl rfl ?_
  refine vi_getr (t := p0 + 1) 0 rfl (vv_model_o h0) rfl wu_X5 (by decide) wf_X5_7 dX5_failsBy_71 ?_
  refine vi_iload 1 dX5_failsBy_74 rfl ?_
  refine vi_bipush (v := (8 : Int32)) dX5_failsBy_76 (by decide) ?_
  obtain ⟨u11, hu11, hf⟩ := vv_bd hf
  refine vi_callS (As := [.int x4, .int (8 : Int32)]) (st := [.ref (p0 + 1)]) (t_X5_of n x4 (8 : Int32) u10.2 u11  hu11) rfl yo_X5_of wm_X5_27 wi_X5_of wI_X5 wc_X5_of ⟨Nat.le_of_ble_eq_true rfl, Nat.le_of_ble_eq_true rfl⟩ (vv_rm0 rfl rfl) (Nat.le_of_ble_eq_true rfl) rfl rfl dX5_failsBy_78 ?_
  obtain ⟨g14, hf⟩ := vv_gd hf
  refine vi_iald (vv_model_row h0) g14 dX5_failsBy_81 ?_
  obtain ⟨y12, ey12, hf⟩ := vv_lt hf
  refine vi_istore (L' := [(5, .int y12), (0, .ref p0), (4, .int x4)]) dX5_failsBy_82 (by decide) (by rw [ey12]; rfl) ?_
  refine vi_aload_n 1 dX5_failsBy_84 rfl rfl ?_
  refine vi_sipush (v := (12738 : Int32)) dX5_failsBy_85 (by decide) ?_
  refine vi_iconst (v := (0 : Int32)) dX5_failsBy_88 (by decide) ?_
  refine vi_sipush (v := (707 : Int32)) dX5_failsBy_89 (by decide) ?_
  obtain ⟨u13, hu13, hf⟩ := vv_bd hf
  refine vi_callV (As := [.int (12738 : Int32), .int (0 : Int32), .int (707 : Int32)]) (st := []) (t_X5_copy n p0 (12738 : Int32) (0 : Int32) (707 : Int32) u11.2 u13 h0 hu13) rfl yo_X5_copy wm_X5_34 wi_X5_copy ws_X5_copy wI_X5 wc_X5_copy (vv_model_o h0) rfl ⟨Nat.le_of_ble_eq_true rfl, Nat.le_of_ble_eq_true rfl⟩ (vv_rm0 rfl rfl) (Nat.le_of_ble_eq_true rfl) rfl rfl dX5_failsBy_92 ?_
  refine vi_iload 0 dX5_failsBy_95 rfl ?_
  obtain rfl := Option.some.inj hf
  exact vi_ret (v := some (.int y12)) rfl ⟨dX5_failsBy_97, .int, rfl, rfl⟩ ⟨rfl, rfl, rfl⟩
set_option maxRecDepth 20000 in
theorem t_X5_failsBy_40 {S : List vv_Sh} (n : Nat)  (u : Int32 × vv_M)  (p0 : Nat) (x3 : Int32) (x4 : Int32) (s0 : Nat) (s1 : Int32) (s2 : Int32) (M : vv_M) (h0 : vv_model S p0) (g0 : S[s0]? = some (.inl (0, 13445))) (hf : f_X5_failsBy_40 n  p0 x3 x4 s0 s1 s2 M = some u) : vv_V [] yX5_failsBy.cls yX5_failsBy.name cX5_failsBy 6 (some .int) (vv_R 6 0 0) S.length (vv_sz S) (vv_fi S u) 40 [(0, .ref p0), (3, .int x3), (4, .int x4)] [.int s2, .int s1, .ref s0] S M := by
  unfold f_X5_failsBy_40 at hf
  obtain ⟨g5, hf⟩ := vv_gd hf
  obtain ⟨M6, eM6, hf⟩ := vv_lt hf
  refine vi_iast g0 g5 eM6.symm dX5_failsBy_40 ?_
  refine vi_aload_n 0 dX5_failsBy_41 rfl rfl ?_
  refine vi_getr (t := p0 + 1) 0 rfl (vv_model_o h0) rfl wu_X5 (by decide) wf_X5_7 dX5_failsBy_42 ?_
  refine vi_bipush (v := (48 : Int32)) dX5_failsBy_45 (by decide) ?_
  refine vi_iload_n 1 dX5_failsBy_47 rfl rfl ?_
  refine vi_if_le 55 dX5_failsBy_48 (by decide) (fun c7 => ?_) (fun c7 => ?_)
  · rw [if_pos c7] at hf
    refine vi_aload_n 0 dX5_failsBy_55 rfl rfl ?_
    refine vi_getr (t := p0 + 1) 0 rfl (vv_model_o h0) rfl wu_X5 (by decide) wf_X5_7 dX5_failsBy_56 ?_
    refine vi_bipush (v := (48 : Int32)) dX5_failsBy_59 (by decide) ?_
    obtain ⟨g15, hf⟩ := vv_gd hf
    refine vi_iald (vv_model_row h0) g15 dX5_failsBy_61 ?_
    refine vi_sub (L' := [(0, .ref p0), (4, .int x4)]) [0, 2] rfl ?_
    exact t_X5_failsBy_62 n  u  p0 x4 (p0 + 1) (48 : Int32) (M6 (p0 + 1) (48 : Int32).toNatClampNeg) M6 h0 (vv_model_row h0) hf
  · rw [if_neg c7] at hf
    refine vi_iload_n 1 dX5_failsBy_51 rfl rfl ?_
    refine vi_goto 62 dX5_failsBy_52 (by decide) ?_
    refine vi_sub (L' := [(0, .ref p0), (4, .int x4)]) [0, 2] rfl ?_
    exact t_X5_failsBy_62 n  u  p0 x4 (p0 + 1) (48 : Int32) x3 M6 h0 (vv_model_row h0) hf
set_option maxRecDepth 20000 in
theorem t_X5_failsBy {S : List vv_Sh} (n : Nat) (p0 : Nat) (x1 : Int32) (x2 : Int32) (x3 : Int32) (M : vv_M) (u : Int32 × vv_M) (h0 : vv_model S p0) (hf : f_X5_failsBy n p0 x1 x2 x3 M = some u) : vv_C yX5_failsBy (vv_w yX5_failsBy cX5_failsBy 6 (some .int)) (vv_R 6 0 0) [.ref p0, .int x1, .int x2, .int x3] S M (some (.int u.1)) S u.2 := by
  refine vv_ofV (by decide +kernel) (Nat.le_of_ble_eq_true rfl) (L := [(0, .ref p0), (1, .int x1), (2, .int x2), (3, .int x3)]) rfl rfl rfl ?_
  show vv_V [] yX5_failsBy.cls yX5_failsBy.name cX5_failsBy 6 (some .int) (vv_R 6 0 0) S.length (vv_sz S) (vv_fi S u) 0 [(0, .ref p0), (1, .int x1), (2, .int x2), (3, .int x3)] [] S M
  unfold f_X5_failsBy at hf
  refine vi_aload_n 0 dX5_failsBy_0 rfl rfl ?_
  refine vi_iconst (v := (0 : Int32)) dX5_failsBy_1 (by decide) ?_
  refine vi_sipush (v := (12738 : Int32)) dX5_failsBy_2 (by decide) ?_
  refine vi_sipush (v := (707 : Int32)) dX5_failsBy_5 (by decide) ?_
  obtain ⟨u1, hu1, hf⟩ := vv_bd hf
  refine vi_callV (As := [.int (0 : Int32), .int (12738 : Int32), .int (707 : Int32)]) (st := []) (t_X5_copy n p0 (0 : Int32) (12738 : Int32) (707 : Int32) M u1 h0 hu1) rfl yo_X5_copy wm_X5_34 wi_X5_copy ws_X5_copy wI_X5 wc_X5_copy (vv_model_o h0) rfl ⟨Nat.le_of_ble_eq_true rfl, Nat.le_of_ble_eq_true rfl⟩ (vv_rm0 rfl rfl) (Nat.le_of_ble_eq_true rfl) rfl rfl dX5_failsBy_8 ?_
  refine vi_aload_n 0 dX5_failsBy_11 rfl rfl ?_
  refine vi_iload_n 1 dX5_failsBy_12 rfl rfl ?_
  refine vi_iload_n 2 dX5_failsBy_13 rfl rfl ?_
  obtain ⟨u2, hu2, hf⟩ := vv_bd hf
  refine vi_callV (As := [.int x1, .int x2]) (st := []) (t_X5_doLoad n p0 x1 x2 u1.2 u2 h0 hu2) rfl yo_X5_doLoad wm_X5_80 wi_X5_doLoad ws_X5_doLoad wI_X5 wc_X5_doLoad (vv_model_o h0) rfl ⟨Nat.le_of_ble_eq_true rfl, Nat.le_of_ble_eq_true rfl⟩ (vv_rm0 rfl rfl) (Nat.le_of_ble_eq_true rfl) rfl rfl dX5_failsBy_14 ?_
  obtain ⟨y3, ey3, hf⟩ := vv_lt hf
  refine vi_istore (L' := [(4, .int y3), (0, .ref p0), (1, .int x1), (2, .int x2), (3, .int x3)]) dX5_failsBy_17 (by decide) (by rw [ey3]; rfl) ?_
  refine vi_aload_n 1 dX5_failsBy_19 rfl rfl ?_
  refine vi_getr (t := p0 + 1) 0 rfl (vv_model_o h0) rfl wu_X5 (by decide) wf_X5_7 dX5_failsBy_20 ?_
  refine vi_bipush (v := (50 : Int32)) dX5_failsBy_23 (by decide) ?_
  refine vi_iload_n 4 dX5_failsBy_25 rfl rfl ?_
  refine vi_if_le 33 dX5_failsBy_26 (by decide) (fun c4 => ?_) (fun c4 => ?_)
  · rw [if_pos c4] at hf
    refine vi_aload_n 1 dX5_failsBy_33 rfl rfl ?_
    refine vi_getr (t := p0 + 1) 0 rfl (vv_model_o h0) rfl wu_X5 (by decide) wf_X5_7 dX5_failsBy_34 ?_
    refine vi_bipush (v := (50 : Int32)) dX5_failsBy_37 (by decide) ?_
    obtain ⟨g16, hf⟩ := vv_gd hf
    refine vi_iald (vv_model_row h0) g16 dX5_failsBy_39 ?_
    refine vi_sub (L' := [(0, .ref p0), (3, .int x3), (4, .int y3)]) [1, 4, 0] rfl ?_
    exact t_X5_failsBy_40 n  u  p0 x3 y3 (p0 + 1) (50 : Int32) (u2.2 (p0 + 1) (50 : Int32).toNatClampNeg) u2.2 h0 (vv_model_row h0) hf
  · rw [if_neg c4] at hf
    refine vi_iconst (v := (0 : Int32)) dX5_failsBy_29 (by decide) ?_
    refine vi_goto 40 dX5_failsBy_30 (by decide) ?_
    refine vi_sub (L' := [(0, .ref p0), (3, .int x3), (4, .int y3)]) [1, 4, 0] rfl ?_
    exact t_X5_failsBy_40 n  u  p0 x3 y3 (p0 + 1) (50 : Int32) (0 : Int32) u2.2 h0 (vv_model_row h0) hf
set_option maxRecDepth 20000 in
theorem t_X5_wouldFail {S : List vv_Sh} (n : Nat) (p0 : Nat) (x1 : Int32) (x2 : Int32) (x3 : Int32) (M : vv_M) (u : Int32 × vv_M) (h0 : vv_model S p0) (hf : f_X5_wouldFail n p0 x1 x2 x3 M = some u) : vv_C yX5_wouldFail (vv_w yX5_wouldFail cX5_wouldFail 4 (some .int)) (vv_R 7 0 0) [.ref p0, .int x1, .int x2, .int x3] S M (some (.int u.1)) S u.2 := by
  refine vv_ofV (by decide +kernel) (Nat.le_of_ble_eq_true rfl) (L := [(0, .ref p0), (1, .int x1), (2, .int x2), (3, .int x3)]) rfl rfl rfl ?_
  show vv_V [] yX5_wouldFail.cls yX5_wouldFail.name cX5_wouldFail 4 (some .int) (vv_R 7 0 0) S.length (vv_sz S) (vv_fi S u) 0 [(0, .ref p0), (1, .int x1), (2, .int x2), (3, .int x3)] [] S M
  unfold f_X5_wouldFail at hf
  refine vi_iload_n 1 dX5_wouldFail_0 rfl rfl ?_
  obtain ⟨u1, hu1, hf⟩ := vv_bd hf
  refine vi_callS (As := [.int x1]) (st := []) (t_X5_isCurve n x1 M u1  hu1) rfl yo_X5_isCurve wm_X5_53 wi_X5_isCurve wI_X5 wc_X5_isCurve ⟨Nat.le_of_ble_eq_true rfl, Nat.le_of_ble_eq_true rfl⟩ (vv_rm0 rfl rfl) (Nat.le_of_ble_eq_true rfl) rfl rfl dX5_wouldFail_1 ?_
  refine vi_if_eq 36 dX5_wouldFail_4 (by decide) (fun c2 => ?_) (fun c2 => ?_)
  · rw [if_pos c2] at hf
    refine vi_sipush (v := (-1001 : Int32)) dX5_wouldFail_36 (by decide) ?_
    obtain rfl := Option.some.inj hf
    exact vi_ret (v := some (.int (-1001 : Int32))) rfl ⟨dX5_wouldFail_39, .int, rfl, rfl⟩ ⟨rfl, rfl, rfl⟩
  · rw [if_neg c2] at hf
    refine vi_iload_n 2 dX5_wouldFail_7 rfl rfl ?_
    refine vi_iconst (v := (1 : Int32)) dX5_wouldFail_8 (by decide) ?_
    refine vi_bipush (v := (9 : Int32)) dX5_wouldFail_9 (by decide) ?_
    obtain ⟨u3, hu3, hf⟩ := vv_bd hf
    refine vi_callS (As := [.int x2, .int (1 : Int32), .int (9 : Int32)]) (st := []) (t_X5_in n x2 (1 : Int32) (9 : Int32) u1.2 u3  hu3) rfl yo_X5_in wm_X5_23 wi_X5_in wI_X5 wc_X5_in ⟨Nat.le_of_ble_eq_true rfl, Nat.le_of_ble_eq_true rfl⟩ (vv_rm0 rfl rfl) (Nat.le_of_ble_eq_true rfl) rfl rfl dX5_wouldFail_11 ?_
    refine vi_if_eq 36 dX5_wouldFail_14 (by decide) (fun c4 => ?_) (fun c4 => ?_)
    · rw [if_pos c4] at hf
      refine vi_sipush (v := (-1001 : Int32)) dX5_wouldFail_36 (by decide) ?_
      obtain rfl := Option.some.inj hf
      exact vi_ret (v := some (.int (-1001 : Int32))) rfl ⟨dX5_wouldFail_39, .int, rfl, rfl⟩ ⟨rfl, rfl, rfl⟩
    · rw [if_neg c4] at hf
      refine vi_iload_n 3 dX5_wouldFail_17 rfl rfl ?_
      refine vi_iconst (v := (0 : Int32)) dX5_wouldFail_18 (by decide) ?_
      refine vi_iconst (v := (3 : Int32)) dX5_wouldFail_19 (by decide) ?_
      obtain ⟨u5, hu5, hf⟩ := vv_bd hf
      refine vi_callS (As := [.int x3, .int (0 : Int32), .int (3 : Int32)]) (st := []) (t_X5_in n x3 (0 : Int32) (3 : Int32) u3.2 u5  hu5) rfl yo_X5_in wm_X5_23 wi_X5_in wI_X5 wc_X5_in ⟨Nat.le_of_ble_eq_true rfl, Nat.le_of_ble_eq_true rfl⟩ (vv_rm0 rfl rfl) (Nat.le_of_ble_eq_true rfl) rfl rfl dX5_wouldFail_20 ?_
      refine vi_if_eq 36 dX5_wouldFail_23 (by decide) (fun c6 => ?_) (fun c6 => ?_)
      · rw [if_pos c6] at hf
        refine vi_sipush (v := (-1001 : Int32)) dX5_wouldFail_36 (by decide) ?_
        obtain rfl := Option.some.inj hf
        exact vi_ret (v := some (.int (-1001 : Int32))) rfl ⟨dX5_wouldFail_39, .int, rfl, rfl⟩ ⟨rfl, rfl, rfl⟩
      · rw [if_neg c6] at hf
        refine vi_aload_n 0 dX5_wouldFail_26 rfl rfl ?_
        refine vi_iload_n 1 dX5_wouldFail_27 rfl rfl ?_
        refine vi_iload_n 2 dX5_wouldFail_28 rfl rfl ?_
        refine vi_iload_n 3 dX5_wouldFail_29 rfl rfl ?_
        obtain ⟨u7, hu7, hf⟩ := vv_bd hf
        refine vi_callV (As := [.int x1, .int x2, .int x3]) (st := []) (t_X5_failsBy n p0 x1 x2 x3 u5.2 u7 h0 hu7) rfl yo_X5_failsBy wm_X5_175 wi_X5_failsBy ws_X5_failsBy wI_X5 wc_X5_failsBy (vv_model_o h0) rfl ⟨Nat.le_of_ble_eq_true rfl, Nat.le_of_ble_eq_true rfl⟩ (vv_rm0 rfl rfl) (Nat.le_of_ble_eq_true rfl) rfl rfl dX5_wouldFail_30 ?_
        refine vi_goto 39 dX5_wouldFail_33 (by decide) ?_
        obtain rfl := Option.some.inj hf
        exact vi_ret (v := some (.int u7.1)) rfl ⟨dX5_wouldFail_39, .int, rfl, rfl⟩ ⟨rfl, rfl, rfl⟩
set_option maxRecDepth 20000 in
theorem t_X5_heaviest_34 {S : List vv_Sh} (n : Nat)  (u : Int32 × vv_M)  (x2 : Int32) (M : vv_M)  (hf : f_X5_heaviest_34 n  x2 M = some u) : vv_V [] yX5_heaviest.cls yX5_heaviest.name cX5_heaviest 3 (some .int) (vv_R 7 0 0) S.length (vv_sz S) (vv_fi S u) 34 [(2, .int x2)] [] S M := by
  unfold f_X5_heaviest_34 at hf
  refine vi_iload_n 0 dX5_heaviest_34 rfl rfl ?_
  refine vi_if_ne 44 dX5_heaviest_35 (by decide) (fun c4 => ?_) (fun c4 => ?_)
  · rw [if_neg c4] at hf
    refine vi_iload_n 0 dX5_heaviest_44 rfl rfl ?_
    obtain rfl := Option.some.inj hf
    exact vi_ret (v := some (.int x2)) rfl ⟨dX5_heaviest_45, .int, rfl, rfl⟩ ⟨rfl, rfl, rfl⟩
  · rw [if_pos c4] at hf
    refine vi_sipush (v := (-1009 : Int32)) dX5_heaviest_38 (by decide) ?_
    refine vi_goto 45 dX5_heaviest_41 (by decide) ?_
    obtain rfl := Option.some.inj hf
    exact vi_ret (v := some (.int (-1009 : Int32))) rfl ⟨dX5_heaviest_45, .int, rfl, rfl⟩ ⟨rfl, rfl, rfl⟩
set_option maxRecDepth 20000 in
theorem t_X5_heaviest_14 {S : List vv_Sh} (n : Nat)  (u : Int32 × vv_M)  : ∀ (k : Nat) (p0 : Nat) (x1 : Int32) (x2 : Int32) (M : vv_M) (h0 : vv_model S p0) (hf : f_X5_heaviest_14 n  k p0 x1 x2 M = some u), vv_V [] yX5_heaviest.cls yX5_heaviest.name cX5_heaviest 3 (some .int) (vv_R 7 0 0) S.length (vv_sz S) (vv_fi S u) 14 [(0, .ref p0), (1, .int x1), (2, .int x2)] [] S M := by
  intro k
  induction k with
  | zero =>
    intro p0 x1 x2 M h0 hf
    exact absurd (show (none : Option (Int32 × vv_M)) = some u from hf) (by simp)
  | succ k ih =>
    intro p0 x1 x2 M h0 hf
    rw [f_X5_heaviest_14.eq_2] at hf
    refine vi_iload_n 2 dX5_heaviest_14 rfl rfl ?_
    refine vi_if_le 34 dX5_heaviest_15 (by decide) (fun c3 => ?_) (fun c3 => ?_)
    · rw [if_pos c3] at hf
      refine vi_sub (L' := [(2, .int x2)]) [2] rfl ?_
      exact t_X5_heaviest_34 n  u  x2 M  hf
    · rw [if_neg c3] at hf
      refine vi_aload_n 0 dX5_heaviest_18 rfl rfl ?_
      refine vi_iload_n 1 dX5_heaviest_19 rfl rfl ?_
      refine vi_iload_n 2 dX5_heaviest_20 rfl rfl ?_
      refine vi_iconst (v := (0 : Int32)) dX5_heaviest_21 (by decide) ?_
      obtain ⟨u5, hu5, hf⟩ := vv_bd hf
      refine vi_callV (As := [.int x1, .int x2, .int (0 : Int32)]) (st := []) (t_X5_failsBy n p0 x1 x2 (0 : Int32) M u5 h0 hu5) rfl yo_X5_failsBy wm_X5_175 wi_X5_failsBy ws_X5_failsBy wI_X5 wc_X5_failsBy (vv_model_o h0) rfl ⟨Nat.le_of_ble_eq_true rfl, Nat.le_of_ble_eq_true rfl⟩ (vv_rm0 rfl rfl) (Nat.le_of_ble_eq_true rfl) rfl rfl dX5_heaviest_22 ?_
      refine vi_if_eq 34 dX5_heaviest_25 (by decide) (fun c6 => ?_) (fun c6 => ?_)
      · rw [if_pos c6] at hf
        refine vi_sub (L' := [(2, .int x2)]) [2] rfl ?_
        exact t_X5_heaviest_34 n  u  x2 u5.2  hf
      · rw [if_neg c6] at hf
        obtain ⟨y7, ey7, hf⟩ := vv_lt hf
        refine vi_iinc (v := y7) (L' := [(2, .int y7), (0, .ref p0), (1, .int x1)]) 2 dX5_heaviest_28 rfl (by rw [ey7]; rfl) (by decide) rfl ?_
        refine vi_goto 14 dX5_heaviest_31 (by decide) ?_
        refine vi_sub (L' := [(0, .ref p0), (1, .int x1), (2, .int y7)]) [1, 2, 0] rfl ?_
        exact ih p0 x1 y7 u5.2 h0 hf
set_option maxRecDepth 20000 in
theorem t_X5_heaviest {S : List vv_Sh} (n : Nat) (p0 : Nat) (x1 : Int32) (M : vv_M) (u : Int32 × vv_M) (h0 : vv_model S p0) (hf : f_X5_heaviest n p0 x1 M = some u) : vv_C yX5_heaviest (vv_w yX5_heaviest cX5_heaviest 3 (some .int)) (vv_R 7 0 0) [.ref p0, .int x1] S M (some (.int u.1)) S u.2 := by
  refine vv_ofV (by decide +kernel) (Nat.le_of_ble_eq_true rfl) (L := [(0, .ref p0), (1, .int x1)]) rfl rfl rfl ?_
  show vv_V [] yX5_heaviest.cls yX5_heaviest.name cX5_heaviest 3 (some .int) (vv_R 7 0 0) S.length (vv_sz S) (vv_fi S u) 0 [(0, .ref p0), (1, .int x1)] [] S M
  unfold f_X5_heaviest at hf
  refine vi_iload_n 1 dX5_heaviest_0 rfl rfl ?_
  obtain ⟨u1, hu1, hf⟩ := vv_bd hf
  refine vi_callS (As := [.int x1]) (st := []) (t_X5_isCurve n x1 M u1  hu1) rfl yo_X5_isCurve wm_X5_53 wi_X5_isCurve wI_X5 wc_X5_isCurve ⟨Nat.le_of_ble_eq_true rfl, Nat.le_of_ble_eq_true rfl⟩ (vv_rm0 rfl rfl) (Nat.le_of_ble_eq_true rfl) rfl rfl dX5_heaviest_1 ?_
  refine vi_if_ne 11 dX5_heaviest_4 (by decide) (fun c2 => ?_) (fun c2 => ?_)
  · rw [if_neg c2] at hf
    refine vi_bipush (v := (9 : Int32)) dX5_heaviest_11 (by decide) ?_
    refine vi_istore_n (L' := [(2, .int (9 : Int32)), (0, .ref p0), (1, .int x1)]) dX5_heaviest_13 rfl (by decide) rfl ?_
    refine vi_sub (L' := [(0, .ref p0), (1, .int x1), (2, .int (9 : Int32))]) [1, 2, 0] rfl ?_
    exact t_X5_heaviest_14 n  u  n p0 x1 (9 : Int32) u1.2 h0 hf
  · rw [if_pos c2] at hf
    refine vi_sipush (v := (-1001 : Int32)) dX5_heaviest_7 (by decide) ?_
    obtain rfl := Option.some.inj hf
    exact vi_ret (v := some (.int (-1001 : Int32))) rfl ⟨dX5_heaviest_10, .int, rfl, rfl⟩ ⟨rfl, rfl, rfl⟩
set_option maxRecDepth 20000 in
theorem t_X5_room_13 {S : List vv_Sh} (n : Nat)  (u : Int32 × vv_M)  : ∀ (k : Nat) (p0 : Nat) (x1 : Int32) (M : vv_M) (h0 : vv_model S p0) (hf : f_X5_room_13 n  k p0 x1 M = some u), vv_V [] yX5_room.cls yX5_room.name cX5_room 2 (some .int) (vv_R 5 0 0) S.length (vv_sz S) (vv_fi S u) 13 [(0, .ref p0), (1, .int x1)] [] S M := by
  intro k
  induction k with
  | zero =>
    intro p0 x1 M h0 hf
    exact absurd (show (none : Option (Int32 × vv_M)) = some u from hf) (by simp)
  | succ k ih =>
    intro p0 x1 M h0 hf
    rw [f_X5_room_13.eq_2] at hf
    refine vi_aload_n 0 dX5_room_13 rfl rfl ?_
    obtain ⟨u2, hu2, hf⟩ := vv_bd hf
    refine vi_callV (As := []) (st := []) (t_X5_hasRoom n p0 M u2 h0 hu2) rfl yo_X5_hasRoom wm_X5_70 wi_X5_hasRoom ws_X5_hasRoom wI_X5 wc_X5_hasRoom (vv_model_o h0) rfl ⟨Nat.le_of_ble_eq_true rfl, Nat.le_of_ble_eq_true rfl⟩ (vv_rm0 rfl rfl) (Nat.le_of_ble_eq_true rfl) rfl rfl dX5_room_14 ?_
    refine vi_if_ne 30 dX5_room_17 (by decide) (fun c3 => ?_) (fun c3 => ?_)
    · rw [if_neg c3] at hf
      refine vi_aload_n 0 dX5_room_30 rfl rfl ?_
      refine vi_sipush (v := (12738 : Int32)) dX5_room_31 (by decide) ?_
      refine vi_iconst (v := (0 : Int32)) dX5_room_34 (by decide) ?_
      refine vi_sipush (v := (707 : Int32)) dX5_room_35 (by decide) ?_
      obtain ⟨u4, hu4, hf⟩ := vv_bd hf
      refine vi_callV (As := [.int (12738 : Int32), .int (0 : Int32), .int (707 : Int32)]) (st := []) (t_X5_copy n p0 (12738 : Int32) (0 : Int32) (707 : Int32) u2.2 u4 h0 hu4) rfl yo_X5_copy wm_X5_34 wi_X5_copy ws_X5_copy wI_X5 wc_X5_copy (vv_model_o h0) rfl ⟨Nat.le_of_ble_eq_true rfl, Nat.le_of_ble_eq_true rfl⟩ (vv_rm0 rfl rfl) (Nat.le_of_ble_eq_true rfl) rfl rfl dX5_room_38 ?_
      refine vi_iload_n 1 dX5_room_41 rfl rfl ?_
      obtain rfl := Option.some.inj hf
      exact vi_ret (v := some (.int x1)) rfl ⟨dX5_room_42, .int, rfl, rfl⟩ ⟨rfl, rfl, rfl⟩
    · rw [if_pos c3] at hf
      refine vi_aload_n 0 dX5_room_20 rfl rfl ?_
      obtain ⟨u5, hu5, hf⟩ := vv_bd hf
      refine vi_callV (As := []) (st := []) (t_X5_tick n p0 u2.2 u5 h0 hu5) rfl yo_X5_tick wm_X5_115 wi_X5_tick ws_X5_tick wI_X5 wc_X5_tick (vv_model_o h0) rfl ⟨Nat.le_of_ble_eq_true rfl, Nat.le_of_ble_eq_true rfl⟩ (vv_rm0 rfl rfl) (Nat.le_of_ble_eq_true rfl) rfl rfl dX5_room_21 ?_
      obtain ⟨y6, ey6, hf⟩ := vv_lt hf
      refine vi_iinc (v := y6) (L' := [(1, .int y6), (0, .ref p0)]) 1 dX5_room_24 rfl (by rw [ey6]; rfl) (by decide) rfl ?_
      refine vi_goto 13 dX5_room_27 (by decide) ?_
      refine vi_sub (L' := [(0, .ref p0), (1, .int y6)]) [1, 0] rfl ?_
      exact ih p0 y6 u5.2 h0 hf
set_option maxRecDepth 20000 in
theorem t_X5_room {S : List vv_Sh} (n : Nat) (p0 : Nat) (M : vv_M) (u : Int32 × vv_M) (h0 : vv_model S p0) (hf : f_X5_room n p0 M = some u) : vv_C yX5_room (vv_w yX5_room cX5_room 2 (some .int)) (vv_R 5 0 0) [.ref p0] S M (some (.int u.1)) S u.2 := by
  refine vv_ofV (by decide +kernel) (Nat.le_of_ble_eq_true rfl) (L := [(0, .ref p0)]) rfl rfl rfl ?_
  show vv_V [] yX5_room.cls yX5_room.name cX5_room 2 (some .int) (vv_R 5 0 0) S.length (vv_sz S) (vv_fi S u) 0 [(0, .ref p0)] [] S M
  unfold f_X5_room at hf
  refine vi_aload_n 0 dX5_room_0 rfl rfl ?_
  refine vi_iconst (v := (0 : Int32)) dX5_room_1 (by decide) ?_
  refine vi_sipush (v := (12738 : Int32)) dX5_room_2 (by decide) ?_
  refine vi_sipush (v := (707 : Int32)) dX5_room_5 (by decide) ?_
  obtain ⟨u1, hu1, hf⟩ := vv_bd hf
  refine vi_callV (As := [.int (0 : Int32), .int (12738 : Int32), .int (707 : Int32)]) (st := []) (t_X5_copy n p0 (0 : Int32) (12738 : Int32) (707 : Int32) M u1 h0 hu1) rfl yo_X5_copy wm_X5_34 wi_X5_copy ws_X5_copy wI_X5 wc_X5_copy (vv_model_o h0) rfl ⟨Nat.le_of_ble_eq_true rfl, Nat.le_of_ble_eq_true rfl⟩ (vv_rm0 rfl rfl) (Nat.le_of_ble_eq_true rfl) rfl rfl dX5_room_8 ?_
  refine vi_iconst (v := (0 : Int32)) dX5_room_11 (by decide) ?_
  refine vi_istore_n (L' := [(1, .int (0 : Int32)), (0, .ref p0)]) dX5_room_12 rfl (by decide) rfl ?_
  refine vi_sub (L' := [(0, .ref p0), (1, .int (0 : Int32))]) [1, 0] rfl ?_
  exact t_X5_room_13 n  u  n p0 (0 : Int32) u1.2 h0 hf
