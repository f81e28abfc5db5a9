set_option maxRecDepth 20000 in
theorem t_X2_become_72 {S : List vv_Sh} (n : Nat)  (u : Unit × vv_M)  (p0 : Nat) (p1 : Nat) (M : vv_M) (h0 : vv_oven S p0) (h1 : vv_oven S p1) (hf : f_X2_become_72 n  p0 p1 M = some u) : vv_V [] yX2_become.cls yX2_become.name cX2_become 2 none (vv_R 1 0 0) S.length (vv_sz S) (vv_fu S u) 72 [(0, .ref p0), (1, .ref p1)] [] S M := by
  unfold f_X2_become_72 at hf
  refine vi_aload_n 0 dX2_become_72 rfl rfl ?_
  refine vi_aload_n 1 dX2_become_73 rfl rfl ?_
  refine vi_geti 6 rfl (vv_oven_o h1) rfl wu_X2 (by decide) wf_X2_42 dX2_become_74 ?_
  obtain ⟨M26, eM26, hf⟩ := vv_lt hf
  refine vi_puti 6 rfl eM26.symm (vv_oven_o h0) rfl wu_X2 tyX2 tyX2_ok nmX2 (by decide) rfl (by decide +kernel) wf_X2_42 dX2_become_77 ?_
  refine vi_aload_n 0 dX2_become_80 rfl rfl ?_
  refine vi_aload_n 1 dX2_become_81 rfl rfl ?_
  refine vi_geti 7 rfl (vv_oven_o h1) rfl wu_X2 (by decide) wf_X2_49 dX2_become_82 ?_
  obtain ⟨M27, eM27, hf⟩ := vv_lt hf
  refine vi_puti 7 rfl eM27.symm (vv_oven_o h0) rfl wu_X2 tyX2 tyX2_ok nmX2 (by decide) rfl (by decide +kernel) wf_X2_49 dX2_become_85 ?_
  refine vi_aload_n 0 dX2_become_88 rfl rfl ?_
  refine vi_aload_n 1 dX2_become_89 rfl rfl ?_
  refine vi_geti 8 rfl (vv_oven_o h1) rfl wu_X2 (by decide) wf_X2_52 dX2_become_90 ?_
  obtain ⟨M28, eM28, hf⟩ := vv_lt hf
  refine vi_puti 8 rfl eM28.symm (vv_oven_o h0) rfl wu_X2 tyX2 tyX2_ok nmX2 (by decide) rfl (by decide +kernel) wf_X2_52 dX2_become_93 ?_
  obtain rfl := Option.some.inj hf
  exact vi_ret (v := none) rfl ⟨dX2_become_96, rfl⟩ ⟨rfl, rfl, rfl⟩
set_option maxRecDepth 20000 in
theorem t_X2_become {S : List vv_Sh} (n : Nat) (p0 : Nat) (p1 : Nat) (M : vv_M) (u : Unit × vv_M) (h0 : vv_oven S p0) (h1 : vv_oven S p1) (hf : f_X2_become n p0 p1 M = some u) : vv_C yX2_become (vv_w yX2_become cX2_become 2 none) (vv_R 1 0 0) [.ref p0, .ref p1] S M none S u.2 := by
  refine vv_ofV (by decide +kernel) (Nat.le_of_ble_eq_true rfl) (L := [(0, .ref p0), (1, .ref p1)]) rfl rfl rfl ?_
  show vv_V [] yX2_become.cls yX2_become.name cX2_become 2 none (vv_R 1 0 0) S.length (vv_sz S) (vv_fu S u) 0 [(0, .ref p0), (1, .ref p1)] [] S M
  unfold f_X2_become at hf
  refine vi_aload_n 1 dX2_become_0 rfl rfl ?_
  refine vi_getr (t := p1 + 1) 0 rfl (vv_oven_o h1) rfl wu_X2 (by decide) wf_X2_9 dX2_become_1 ?_
  refine vi_iconst (v := (0 : Int32)) dX2_become_4 (by decide) ?_
  refine vi_aload_n 0 dX2_become_5 rfl rfl ?_
  refine vi_getr (t := p0 + 1) 0 rfl (vv_oven_o h0) rfl wu_X2 (by decide) wf_X2_9 dX2_become_6 ?_
  refine vi_iconst (v := (0 : Int32)) dX2_become_9 (by decide) ?_
  refine vi_bipush (v := (24 : Int32)) dX2_become_10 (by decide) ?_
  obtain ⟨g2, hf⟩ := vv_gd hf
  obtain ⟨g3, hf⟩ := vv_gd hf
  obtain ⟨g4, hf⟩ := vv_gd hf
  obtain ⟨g5, hf⟩ := vv_gd hf
  obtain ⟨g6, hf⟩ := vv_gd hf
  obtain ⟨M1, eM1, hf⟩ := vv_lt hf
  refine vi_copy (vv_oven_zones h1) (vv_oven_zones h0) g2 g3 g4 (Nat.not_lt.mp g5) (Nat.not_lt.mp g6) wm_X2_33 wa_native wa_static wI_sys (by decide) (by decide +kernel) eM1.symm dX2_become_12 ?_
  refine vi_aload_n 1 dX2_become_15 rfl rfl ?_
  refine vi_getr (t := p1 + 2) 1 rfl (vv_oven_o h1) rfl wu_X2 (by decide) wf_X2_15 dX2_become_16 ?_
  refine vi_iconst (v := (0 : Int32)) dX2_become_19 (by decide) ?_
  refine vi_aload_n 0 dX2_become_20 rfl rfl ?_
  refine vi_getr (t := p0 + 2) 1 rfl (vv_oven_o h0) rfl wu_X2 (by decide) wf_X2_15 dX2_become_21 ?_
  refine vi_iconst (v := (0 : Int32)) dX2_become_24 (by decide) ?_
  refine vi_bipush (v := (24 : Int32)) dX2_become_25 (by decide) ?_
  obtain ⟨g8, hf⟩ := vv_gd hf
  obtain ⟨g9, hf⟩ := vv_gd hf
  obtain ⟨g10, hf⟩ := vv_gd hf
  obtain ⟨g11, hf⟩ := vv_gd hf
  obtain ⟨g12, hf⟩ := vv_gd hf
  obtain ⟨M7, eM7, hf⟩ := vv_lt hf
  refine vi_copy (vv_oven_curves h1) (vv_oven_curves h0) g8 g9 g10 (Nat.not_lt.mp g11) (Nat.not_lt.mp g12) wm_X2_33 wa_native wa_static wI_sys (by decide) (by decide +kernel) eM7.symm dX2_become_27 ?_
  refine vi_aload_n 1 dX2_become_30 rfl rfl ?_
  refine vi_getr (t := p1 + 3) 2 rfl (vv_oven_o h1) rfl wu_X2 (by decide) wf_X2_18 dX2_become_31 ?_
  refine vi_iconst (v := (0 : Int32)) dX2_become_34 (by decide) ?_
  refine vi_aload_n 0 dX2_become_35 rfl rfl ?_
  refine vi_getr (t := p0 + 3) 2 rfl (vv_oven_o h0) rfl wu_X2 (by decide) wf_X2_18 dX2_become_36 ?_
  refine vi_iconst (v := (0 : Int32)) dX2_become_39 (by decide) ?_
  refine vi_iconst (v := (4 : Int32)) dX2_become_40 (by decide) ?_
  obtain ⟨g14, hf⟩ := vv_gd hf
  obtain ⟨g15, hf⟩ := vv_gd hf
  obtain ⟨g16, hf⟩ := vv_gd hf
  obtain ⟨g17, hf⟩ := vv_gd hf
  obtain ⟨g18, hf⟩ := vv_gd hf
  obtain ⟨M13, eM13, hf⟩ := vv_lt hf
  refine vi_copy (vv_oven_numbers h1) (vv_oven_numbers h0) g14 g15 g16 (Nat.not_lt.mp g17) (Nat.not_lt.mp g18) wm_X2_33 wa_native wa_static wI_sys (by decide) (by decide +kernel) eM13.symm dX2_become_41 ?_
  refine vi_aload_n 1 dX2_become_44 rfl rfl ?_
  refine vi_getr (t := p1 + 4) 3 rfl (vv_oven_o h1) rfl wu_X2 (by decide) wf_X2_21 dX2_become_45 ?_
  refine vi_iconst (v := (0 : Int32)) dX2_become_48 (by decide) ?_
  refine vi_aload_n 0 dX2_become_49 rfl rfl ?_
  refine vi_getr (t := p0 + 4) 3 rfl (vv_oven_o h0) rfl wu_X2 (by decide) wf_X2_21 dX2_become_50 ?_
  refine vi_iconst (v := (0 : Int32)) dX2_become_53 (by decide) ?_
  refine vi_aload_n 1 dX2_become_54 rfl rfl ?_
  refine vi_geti 6 rfl (vv_oven_o h1) rfl wu_X2 (by decide) wf_X2_42 dX2_become_55 ?_
  refine vi_bipush (v := (22 : Int32)) dX2_become_58 (by decide) ?_
  refine vi_imul dX2_become_60 ?_
  obtain ⟨g20, hf⟩ := vv_gd hf
  obtain ⟨g21, hf⟩ := vv_gd hf
  obtain ⟨g22, hf⟩ := vv_gd hf
  obtain ⟨g23, hf⟩ := vv_gd hf
  obtain ⟨g24, hf⟩ := vv_gd hf
  obtain ⟨M19, eM19, hf⟩ := vv_lt hf
  refine vi_copy (vv_oven_boards h1) (vv_oven_boards h0) g20 g21 g22 (Nat.not_lt.mp g23) (Nat.not_lt.mp g24) wm_X2_33 wa_native wa_static wI_sys (by decide) (by decide +kernel) eM19.symm dX2_become_61 ?_
  refine vi_aload_n 0 dX2_become_64 rfl rfl ?_
  refine vi_aload_n 1 dX2_become_65 rfl rfl ?_
  refine vi_geti 5 rfl (vv_oven_o h1) rfl wu_X2 (by decide) wf_X2_46 dX2_become_66 ?_
  obtain ⟨M25, eM25, hf⟩ := vv_lt hf
  refine vi_puti 5 rfl eM25.symm (vv_oven_o h0) rfl wu_X2 tyX2 tyX2_ok nmX2 (by decide) rfl (by decide +kernel) wf_X2_46 dX2_become_69 ?_
  exact t_X2_become_72 n  u  p0 p1 M25 h0 h1 hf
set_option maxRecDepth 20000 in
theorem t_X1_become_54 {S : List vv_Sh} (n : Nat) (k13 : Nat → Nat → Int32 → vv_M → Option (Unit × vv_M)) (u : Unit × vv_M) (hk13 : ∀ (p0 : Nat) (p1 : Nat) (x2 : Int32) (M : vv_M) (h0 : vv_moment S p0) (h1 : vv_moment S p1) (hf : k13 p0 p1 x2 M = some u), vv_V [] yX1_become.cls yX1_become.name cX1_become 3 none (vv_R 2 0 0) S.length (vv_sz S) (vv_fu S u) 13 [(0, .ref p0), (1, .ref p1), (2, .int x2)] [] S M) (p0 : Nat) (p1 : Nat) (x2 : Int32) (M : vv_M) (h0 : vv_moment S p0) (h1 : vv_moment S p1) (hf : f_X1_become_54 n k13 p0 p1 x2 M = some u) : vv_V [] yX1_become.cls yX1_become.name cX1_become 3 none (vv_R 2 0 0) S.length (vv_sz S) (vv_fu S u) 54 [(0, .ref p0), (1, .ref p1), (2, .int x2)] [] S M := by
  unfold f_X1_become_54 at hf
  obtain ⟨y6, ey6, hf⟩ := vv_lt hf
  refine vi_iinc (v := y6) (L' := [(2, .int y6), (0, .ref p0), (1, .ref p1)]) 2 dX1_become_54 rfl (by rw [ey6]; rfl) (by decide) rfl ?_
  refine vi_goto 13 dX1_become_57 (by decide) ?_
  refine vi_sub (L' := [(0, .ref p0), (1, .ref p1), (2, .int y6)]) [1, 2, 0] rfl ?_
  exact hk13 p0 p1 y6 M h0 h1 hf
set_option maxRecDepth 20000 in
theorem t_X1_become_13 {S : List vv_Sh} (n : Nat)  (u : Unit × vv_M)  : ∀ (k : Nat) (p0 : Nat) (p1 : Nat) (x2 : Int32) (M : vv_M) (h0 : vv_moment S p0) (h1 : vv_moment S p1) (hf : f_X1_become_13 n  k p0 p1 x2 M = some u), vv_V [] yX1_become.cls yX1_become.name cX1_become 3 none (vv_R 2 0 0) S.length (vv_sz S) (vv_fu S u) 13 [(0, .ref p0), (1, .ref p1), (2, .int x2)] [] S M := by
  intro k
  induction k with
  | zero =>
    intro p0 p1 x2 M h0 h1 hf
    exact absurd (show (none : Option (Unit × vv_M)) = some u from hf) (by simp)
  | succ k ih =>
    intro p0 p1 x2 M h0 h1 hf
    rw [f_X1_become_13.eq_2] at hf
    refine vi_iload_n 2 dX1_become_13 rfl rfl ?_
    refine vi_iconst (v := (2 : Int32)) dX1_become_14 (by decide) ?_
    refine vi_icmp_ge 60 dX1_become_15 (by decide) (fun c2 => ?_) (fun c2 => ?_)
    · rw [if_pos c2] at hf
      obtain rfl := Option.some.inj hf
      exact vi_ret (v := none) rfl ⟨dX1_become_60, rfl⟩ ⟨rfl, rfl, rfl⟩
    · rw [if_neg c2] at hf
      refine vi_aload_n 0 dX1_become_18 rfl rfl ?_
      refine vi_getr (t := p0 + 8) 2 rfl (vv_moment_o h0) rfl wu_X1 (by decide) wf_X1_22 dX1_become_19 ?_
      refine vi_iload_n 2 dX1_become_22 rfl rfl ?_
      refine vi_aload_n 1 dX1_become_23 rfl rfl ?_
      refine vi_getr (t := p1 + 8) 2 rfl (vv_moment_o h1) rfl wu_X1 (by decide) wf_X1_22 dX1_become_24 ?_
      refine vi_iload_n 2 dX1_become_27 rfl rfl ?_
      obtain ⟨g11, hf⟩ := vv_gd hf
      refine vi_zald (vv_moment_filled h1) g11 dX1_become_28 ?_
      obtain ⟨g3, hf⟩ := vv_gd hf
      obtain ⟨M4, eM4, hf⟩ := vv_lt hf
      refine vi_zast (vv_moment_filled h0) g3 eM4.symm dX1_become_29 ?_
      refine vi_aload_n 0 dX1_become_30 rfl rfl ?_
      refine vi_getr (t := p0 + 8) 2 rfl (vv_moment_o h0) rfl wu_X1 (by decide) wf_X1_22 dX1_become_31 ?_
      refine vi_iload_n 2 dX1_become_34 rfl rfl ?_
      obtain ⟨g10, hf⟩ := vv_gd hf
      refine vi_zald (vv_moment_filled h0) g10 dX1_become_35 ?_
      refine vi_if_eq 54 dX1_become_36 (by decide) (fun c5 => ?_) (fun c5 => ?_)
      · rw [if_pos c5] at hf
        exact t_X1_become_54 n (f_X1_become_13 n k) u ih p0 p1 x2 M4 h0 h1 hf
      · rw [if_neg c5] at hf
        refine vi_aload_n 0 dX1_become_39 rfl rfl ?_
        refine vi_getr (t := p0 + 7) 1 rfl (vv_moment_o h0) rfl wu_X1 (by decide) wf_X1_18 dX1_become_40 ?_
        refine vi_iload_n 2 dX1_become_43 rfl rfl ?_
        obtain ⟨g7, hf⟩ := vv_gd hf
        refine vi_aald2 (vv_moment_slots h0) g7 (vv_lti g7) dX1_become_44 ?_
        refine vi_aload_n 1 dX1_become_45 rfl rfl ?_
        refine vi_getr (t := p1 + 7) 1 rfl (vv_moment_o h1) rfl wu_X1 (by decide) wf_X1_18 dX1_become_46 ?_
        refine vi_iload_n 2 dX1_become_49 rfl rfl ?_
        obtain ⟨g8, hf⟩ := vv_gd hf
        refine vi_aald2 (vv_moment_slots h1) g8 (vv_lti g8) dX1_become_50 ?_
        obtain ⟨u9, hu9, hf⟩ := vv_bd hf
        refine vi_callV (As := [.ref (p1 + 9 + 6 * x2.toNatClampNeg)]) (st := []) (t_X2_become n (p0 + 9 + 6 * x2.toNatClampNeg) (p1 + 9 + 6 * x2.toNatClampNeg) M4 u9 (vv_moment_slots_at h0 (vv_lti g7)) (vv_moment_slots_at h1 (vv_lti g8)) hu9) rfl yo_X2_become wm_X1_26 wi_X2_become ws_X2_become wI_X2 wc_X2_become (vv_oven_o (vv_moment_slots_at h0 (vv_lti g7))) rfl ⟨Nat.le_of_ble_eq_true rfl, Nat.le_of_ble_eq_true rfl⟩ (vv_rm0 rfl rfl) (Nat.le_of_ble_eq_true rfl) rfl rfl dX1_become_51 ?_
        exact t_X1_become_54 n (f_X1_become_13 n k) u ih p0 p1 x2 u9.2 h0 h1 hf
set_option maxRecDepth 20000 in
theorem t_X1_become {S : List vv_Sh} (n : Nat) (p0 : Nat) (p1 : Nat) (M : vv_M) (u : Unit × vv_M) (h0 : vv_moment S p0) (h1 : vv_moment S p1) (hf : f_X1_become n p0 p1 M = some u) : vv_C yX1_become (vv_w yX1_become cX1_become 3 none) (vv_R 2 0 0) [.ref p0, .ref p1] S M none S u.2 := by
  refine vv_ofV (by decide +kernel) (Nat.le_of_ble_eq_true rfl) (L := [(0, .ref p0), (1, .ref p1)]) rfl rfl rfl ?_
  show vv_V [] yX1_become.cls yX1_become.name cX1_become 3 none (vv_R 2 0 0) S.length (vv_sz S) (vv_fu S u) 0 [(0, .ref p0), (1, .ref p1)] [] S M
  unfold f_X1_become at hf
  refine vi_aload_n 0 dX1_become_0 rfl rfl ?_
  refine vi_getr (t := p0 + 1) 0 rfl (vv_moment_o h0) rfl wu_X1 (by decide) wf_X1_12 dX1_become_1 ?_
  refine vi_aload_n 1 dX1_become_4 rfl rfl ?_
  refine vi_getr (t := p1 + 1) 0 rfl (vv_moment_o h1) rfl wu_X1 (by decide) wf_X1_12 dX1_become_5 ?_
  obtain ⟨u1, hu1, hf⟩ := vv_bd hf
  refine vi_callV (As := [.ref (p1 + 1)]) (st := []) (t_X2_become n (p0 + 1) (p1 + 1) M u1 (vv_moment_oven h0) (vv_moment_oven h1) hu1) rfl yo_X2_become wm_X1_26 wi_X2_become ws_X2_become wI_X2 wc_X2_become (vv_oven_o (vv_moment_oven h0)) rfl ⟨Nat.le_of_ble_eq_true rfl, Nat.le_of_ble_eq_true rfl⟩ (vv_rm0 rfl rfl) (Nat.le_of_ble_eq_true rfl) rfl rfl dX1_become_8 ?_
  refine vi_iconst (v := (0 : Int32)) dX1_become_11 (by decide) ?_
  refine vi_istore_n (L' := [(2, .int (0 : Int32)), (0, .ref p0), (1, .ref p1)]) dX1_become_12 rfl (by decide) rfl ?_
  refine vi_sub (L' := [(0, .ref p0), (1, .ref p1), (2, .int (0 : Int32))]) [1, 2, 0] rfl ?_
  exact t_X1_become_13 n  u  n p0 p1 (0 : Int32) u1.2 h0 h1 hf
set_option maxRecDepth 20000 in
theorem t_X0_keep {S : List vv_Sh} (n : Nat) (p0 : Nat) (p1 : Nat) (M : vv_M) (u : Unit × vv_M) (h0 : vv_hist S p0) (h1 : vv_moment S p1) (hf : f_X0_keep n p0 p1 M = some u) : vv_C yX0_keep (vv_w yX0_keep cX0_keep 2 none) (vv_R 3 0 0) [.ref p0, .ref p1] S M none S u.2 := by
  refine vv_ofV (by decide +kernel) (Nat.le_of_ble_eq_true rfl) (L := [(0, .ref p0), (1, .ref p1)]) rfl rfl rfl ?_
  show vv_V [] yX0_keep.cls yX0_keep.name cX0_keep 2 none (vv_R 3 0 0) S.length (vv_sz S) (vv_fu S u) 0 [(0, .ref p0), (1, .ref p1)] [] S M
  unfold f_X0_keep at hf
  refine vi_aload_n 0 dX0_keep_0 rfl rfl ?_
  refine vi_getr (t := p0 + 1) 0 rfl (vv_hist_o h0) rfl wu_X0 (by decide) wf_X0_13 dX0_keep_1 ?_
  refine vi_aload_n 0 dX0_keep_4 rfl rfl ?_
  refine vi_geti 1 rfl (vv_hist_o h0) rfl wu_X0 (by decide) wf_X0_18 dX0_keep_5 ?_
  refine vi_aload_n 0 dX0_keep_8 rfl rfl ?_
  refine vi_geti 2 rfl (vv_hist_o h0) rfl wu_X0 (by decide) wf_X0_22 dX0_keep_9 ?_
  refine vi_iadd dX0_keep_12 ?_
  refine vi_bipush (v := (6 : Int32)) dX0_keep_13 (by decide) ?_
  obtain ⟨g3, hf⟩ := vv_gd hf
  refine vi_irem dX0_keep_15 g3 ?_
  obtain ⟨g1, hf⟩ := vv_gd hf
  refine vi_aald3 (vv_hist_rows h0) g1 (vv_lti g1) dX0_keep_16 ?_
  refine vi_aload_n 1 dX0_keep_17 rfl rfl ?_
  obtain ⟨u2, hu2, hf⟩ := vv_bd hf
  refine vi_callV (As := [.ref p1]) (st := []) (t_X1_become n (p0 + 2 + 21 * (((M p0 1) + (M p0 2)) - ((M p0 1) + (M p0 2)) / (6 : Int32) * (6 : Int32)).toNatClampNeg) p1 M u2 (vv_hist_rows_at h0 (vv_lti g1)) h1 hu2) rfl yo_X1_become wm_X0_25 wi_X1_become ws_X1_become wI_X1 wc_X1_become (vv_moment_o (vv_hist_rows_at h0 (vv_lti g1))) rfl ⟨Nat.le_of_ble_eq_true rfl, Nat.le_of_ble_eq_true rfl⟩ (vv_rm0 rfl rfl) (Nat.le_of_ble_eq_true rfl) rfl rfl dX0_keep_18 ?_
  obtain rfl := Option.some.inj hf
  exact vi_ret (v := none) rfl ⟨dX0_keep_21, rfl⟩ ⟨rfl, rfl, rfl⟩
set_option maxRecDepth 20000 in
theorem t_X0_recordUnlessError {S : List vv_Sh} (n : Nat) (p0 : Nat) (x1 : Int32) (M : vv_M) (u : Int32 × vv_M) (h0 : vv_hist S p0) (hf : f_X0_recordUnlessError n p0 x1 M = some u) : vv_C yX0_recordUnlessError (vv_w yX0_recordUnlessError cX0_recordUnlessError 2 (some .int)) (vv_R 0 0 0) [.ref p0, .int x1] S M (some (.int u.1)) S u.2 := by
  refine vv_ofV (by decide +kernel) (Nat.le_of_ble_eq_true rfl) (L := [(0, .ref p0), (1, .int x1)]) rfl rfl rfl ?_
  show vv_V [] yX0_recordUnlessError.cls yX0_recordUnlessError.name cX0_recordUnlessError 2 (some .int) (vv_R 0 0 0) S.length (vv_sz S) (vv_fi S u) 0 [(0, .ref p0), (1, .int x1)] [] S M
  unfold f_X0_recordUnlessError at hf
  refine vi_iload_n 1 dX0_recordUnlessError_0 rfl rfl ?_
  refine vi_if_lt 38 dX0_recordUnlessError_1 (by decide) (fun c1 => ?_) (fun c1 => ?_)
  · rw [if_pos c1] at hf
    refine vi_iload_n 1 dX0_recordUnlessError_38 rfl rfl ?_
    obtain rfl := Option.some.inj hf
    exact vi_ret (v := some (.int x1)) rfl ⟨dX0_recordUnlessError_39, .int, rfl, rfl⟩ ⟨rfl, rfl, rfl⟩
  · rw [if_neg c1] at hf
    refine vi_aload_n 0 dX0_recordUnlessError_4 rfl rfl ?_
    refine vi_geti 2 rfl (vv_hist_o h0) rfl wu_X0 (by decide) wf_X0_22 dX0_recordUnlessError_5 ?_
    refine vi_iconst (v := (5 : Int32)) dX0_recordUnlessError_8 (by decide) ?_
    refine vi_icmp_ge 25 dX0_recordUnlessError_9 (by decide) (fun c2 => ?_) (fun c2 => ?_)
    · rw [if_pos c2] at hf
      refine vi_aload_n 0 dX0_recordUnlessError_25 rfl rfl ?_
      refine vi_aload_n 0 dX0_recordUnlessError_26 rfl rfl ?_
      refine vi_geti 1 rfl (vv_hist_o h0) rfl wu_X0 (by decide) wf_X0_18 dX0_recordUnlessError_27 ?_
      refine vi_iconst (v := (1 : Int32)) dX0_recordUnlessError_30 (by decide) ?_
      refine vi_iadd dX0_recordUnlessError_31 ?_
      refine vi_bipush (v := (6 : Int32)) dX0_recordUnlessError_32 (by decide) ?_
      obtain ⟨g4, hf⟩ := vv_gd hf
      refine vi_irem dX0_recordUnlessError_34 g4 ?_
      obtain ⟨M3, eM3, hf⟩ := vv_lt hf
      refine vi_puti 1 rfl eM3.symm (vv_hist_o h0) rfl wu_X0 tyX0 tyX0_ok nmX0 (by decide) rfl (by decide +kernel) wf_X0_18 dX0_recordUnlessError_35 ?_
      refine vi_iload_n 1 dX0_recordUnlessError_38 rfl rfl ?_
      obtain rfl := Option.some.inj hf
      exact vi_ret (v := some (.int x1)) rfl ⟨dX0_recordUnlessError_39, .int, rfl, rfl⟩ ⟨rfl, rfl, rfl⟩
    · rw [if_neg c2] at hf
      refine vi_aload_n 0 dX0_recordUnlessError_12 rfl rfl ?_
      refine vi_dup dX0_recordUnlessError_13 rfl ?_
      refine vi_geti 2 rfl (vv_hist_o h0) rfl wu_X0 (by decide) wf_X0_22 dX0_recordUnlessError_14 ?_
      refine vi_iconst (v := (1 : Int32)) dX0_recordUnlessError_17 (by decide) ?_
      refine vi_iadd dX0_recordUnlessError_18 ?_
      obtain ⟨M5, eM5, hf⟩ := vv_lt hf
      refine vi_puti 2 rfl eM5.symm (vv_hist_o h0) rfl wu_X0 tyX0 tyX0_ok nmX0 (by decide) rfl (by decide +kernel) wf_X0_22 dX0_recordUnlessError_19 ?_
      refine vi_goto 38 dX0_recordUnlessError_22 (by decide) ?_
      refine vi_iload_n 1 dX0_recordUnlessError_38 rfl rfl ?_
      obtain rfl := Option.some.inj hf
      exact vi_ret (v := some (.int x1)) rfl ⟨dX0_recordUnlessError_39, .int, rfl, rfl⟩ ⟨rfl, rfl, rfl⟩
set_option maxRecDepth 20000 in
theorem t_X0_goBack {S : List vv_Sh} (n : Nat) (p0 : Nat) (p1 : Nat) (M : vv_M) (u : Int32 × vv_M) (h0 : vv_hist S p0) (h1 : vv_moment S p1) (hf : f_X0_goBack n p0 p1 M = some u) : vv_C yX0_goBack (vv_w yX0_goBack cX0_goBack 2 (some .int)) (vv_R 3 0 0) [.ref p0, .ref p1] S M (some (.int u.1)) S u.2 := by
  refine vv_ofV (by decide +kernel) (Nat.le_of_ble_eq_true rfl) (L := [(0, .ref p0), (1, .ref p1)]) rfl rfl rfl ?_
  show vv_V [] yX0_goBack.cls yX0_goBack.name cX0_goBack 2 (some .int) (vv_R 3 0 0) S.length (vv_sz S) (vv_fi S u) 0 [(0, .ref p0), (1, .ref p1)] [] S M
  unfold f_X0_goBack at hf
  refine vi_aload_n 0 dX0_goBack_0 rfl rfl ?_
  refine vi_geti 2 rfl (vv_hist_o h0) rfl wu_X0 (by decide) wf_X0_22 dX0_goBack_1 ?_
  refine vi_if_ne 11 dX0_goBack_4 (by decide) (fun c1 => ?_) (fun c1 => ?_)
  · rw [if_neg c1] at hf
    refine vi_aload_n 0 dX0_goBack_11 rfl rfl ?_
    refine vi_dup dX0_goBack_12 rfl ?_
    refine vi_geti 2 rfl (vv_hist_o h0) rfl wu_X0 (by decide) wf_X0_22 dX0_goBack_13 ?_
    refine vi_iconst (v := (1 : Int32)) dX0_goBack_16 (by decide) ?_
    refine vi_isub dX0_goBack_17 ?_
    obtain ⟨M2, eM2, hf⟩ := vv_lt hf
    refine vi_puti 2 rfl eM2.symm (vv_hist_o h0) rfl wu_X0 tyX0 tyX0_ok nmX0 (by decide) rfl (by decide +kernel) wf_X0_22 dX0_goBack_18 ?_
    refine vi_aload_n 1 dX0_goBack_21 rfl rfl ?_
    refine vi_aload_n 0 dX0_goBack_22 rfl rfl ?_
    refine vi_getr (t := p0 + 1) 0 rfl (vv_hist_o h0) rfl wu_X0 (by decide) wf_X0_13 dX0_goBack_23 ?_
    refine vi_aload_n 0 dX0_goBack_26 rfl rfl ?_
    refine vi_geti 1 rfl (vv_hist_o h0) rfl wu_X0 (by decide) wf_X0_18 dX0_goBack_27 ?_
    refine vi_aload_n 0 dX0_goBack_30 rfl rfl ?_
    refine vi_geti 2 rfl (vv_hist_o h0) rfl wu_X0 (by decide) wf_X0_22 dX0_goBack_31 ?_
    refine vi_iadd dX0_goBack_34 ?_
    refine vi_bipush (v := (6 : Int32)) dX0_goBack_35 (by decide) ?_
    obtain ⟨g5, hf⟩ := vv_gd hf
    refine vi_irem dX0_goBack_37 g5 ?_
    obtain ⟨g3, hf⟩ := vv_gd hf
    refine vi_aald3 (vv_hist_rows h0) g3 (vv_lti g3) dX0_goBack_38 ?_
    obtain ⟨u4, hu4, hf⟩ := vv_bd hf
    refine vi_callV (As := [.ref (p0 + 2 + 21 * (((M2 p0 1) + (M2 p0 2)) - ((M2 p0 1) + (M2 p0 2)) / (6 : Int32) * (6 : Int32)).toNatClampNeg)]) (st := []) (t_X1_become n p1 (p0 + 2 + 21 * (((M2 p0 1) + (M2 p0 2)) - ((M2 p0 1) + (M2 p0 2)) / (6 : Int32) * (6 : Int32)).toNatClampNeg) M2 u4 h1 (vv_hist_rows_at h0 (vv_lti g3)) hu4) rfl yo_X1_become wm_X0_25 wi_X1_become ws_X1_become wI_X1 wc_X1_become (vv_moment_o h1) rfl ⟨Nat.le_of_ble_eq_true rfl, Nat.le_of_ble_eq_true rfl⟩ (vv_rm0 rfl rfl) (Nat.le_of_ble_eq_true rfl) rfl rfl dX0_goBack_39 ?_
    refine vi_aload_n 0 dX0_goBack_42 rfl rfl ?_
    refine vi_geti 2 rfl (vv_hist_o h0) rfl wu_X0 (by decide) wf_X0_22 dX0_goBack_43 ?_
    obtain rfl := Option.some.inj hf
    exact vi_ret (v := some (.int (u4.2 p0 2))) rfl ⟨dX0_goBack_46, .int, rfl, rfl⟩ ⟨rfl, rfl, rfl⟩
  · rw [if_pos c1] at hf
    refine vi_sipush (v := (-1002 : Int32)) dX0_goBack_7 (by decide) ?_
    obtain rfl := Option.some.inj hf
    exact vi_ret (v := some (.int (-1002 : Int32))) rfl ⟨dX0_goBack_10, .int, rfl, rfl⟩ ⟨rfl, rfl, rfl⟩
set_option maxRecDepth 20000 in
theorem t_X4_isWithin {S : List vv_Sh} (n : Nat) (x0 : Int32) (x1 : Int32) (x2 : Int32) (M : vv_M) (u : Int32 × vv_M)  (hf : f_X4_isWithin n x0 x1 x2 M = some u) : vv_C yX4_isWithin (vv_w yX4_isWithin cX4_isWithin 3 (some .boolean)) (vv_R 0 0 0) [.int x0, .int x1, .int x2] S M (some (.int u.1)) S u.2 := by
  refine vv_ofV (by decide +kernel) (Nat.le_of_ble_eq_true rfl) (L := [(0, .int x0), (1, .int x1), (2, .int x2)]) rfl rfl rfl ?_
  show vv_V [] yX4_isWithin.cls yX4_isWithin.name cX4_isWithin 3 (some .boolean) (vv_R 0 0 0) S.length (vv_sz S) (vv_fi S u) 0 [(0, .int x0), (1, .int x1), (2, .int x2)] [] S M
  unfold f_X4_isWithin at hf
  refine vi_iload_n 0 dX4_isWithin_0 rfl rfl ?_
  refine vi_iload_n 1 dX4_isWithin_1 rfl rfl ?_
  refine vi_icmp_lt 14 dX4_isWithin_2 (by decide) (fun c1 => ?_) (fun c1 => ?_)
  · rw [if_pos c1] at hf
    refine vi_iconst (v := (0 : Int32)) dX4_isWithin_14 (by decide) ?_
    obtain rfl := Option.some.inj hf
    exact vi_ret (v := some (.int (0 : Int32))) rfl ⟨dX4_isWithin_15, .boolean, rfl, rfl⟩ ⟨rfl, rfl, rfl⟩
  · rw [if_neg c1] at hf
    refine vi_iload_n 0 dX4_isWithin_5 rfl rfl ?_
    refine vi_iload_n 2 dX4_isWithin_6 rfl rfl ?_
    refine vi_icmp_gt 14 dX4_isWithin_7 (by decide) (fun c2 => ?_) (fun c2 => ?_)
    · rw [if_pos c2] at hf
      refine vi_iconst (v := (0 : Int32)) dX4_isWithin_14 (by decide) ?_
      obtain rfl := Option.some.inj hf
      exact vi_ret (v := some (.int (0 : Int32))) rfl ⟨dX4_isWithin_15, .boolean, rfl, rfl⟩ ⟨rfl, rfl, rfl⟩
    · rw [if_neg c2] at hf
      refine vi_iconst (v := (1 : Int32)) dX4_isWithin_10 (by decide) ?_
      refine vi_goto 15 dX4_isWithin_11 (by decide) ?_
      obtain rfl := Option.some.inj hf
      exact vi_ret (v := some (.int (1 : Int32))) rfl ⟨dX4_isWithin_15, .boolean, rfl, rfl⟩ ⟨rfl, rfl, rfl⟩
set_option maxRecDepth 20000 in
theorem t_X1_takeSnapshot {S : List vv_Sh} (n : Nat) (p0 : Nat) (x1 : Int32) (M : vv_M) (u : Int32 × vv_M) (h0 : vv_moment S p0) (hf : f_X1_takeSnapshot n p0 x1 M = some u) : vv_C yX1_takeSnapshot (vv_w yX1_takeSnapshot cX1_takeSnapshot 2 (some .int)) (vv_R 2 0 0) [.ref p0, .int x1] S M (some (.int u.1)) S u.2 := by
  refine vv_ofV (by decide +kernel) (Nat.le_of_ble_eq_true rfl) (L := [(0, .ref p0), (1, .int x1)]) rfl rfl rfl ?_
  show vv_V [] yX1_takeSnapshot.cls yX1_takeSnapshot.name cX1_takeSnapshot 2 (some .int) (vv_R 2 0 0) S.length (vv_sz S) (vv_fi S u) 0 [(0, .ref p0), (1, .int x1)] [] S M
  unfold f_X1_takeSnapshot at hf
  refine vi_iload_n 1 dX1_takeSnapshot_0 rfl rfl ?_
  refine vi_iconst (v := (0 : Int32)) dX1_takeSnapshot_1 (by decide) ?_
  refine vi_iconst (v := (1 : Int32)) dX1_takeSnapshot_2 (by decide) ?_
  obtain ⟨u1, hu1, hf⟩ := vv_bd hf
  refine vi_callSN (As := [.int x1, .int (0 : Int32), .int (1 : Int32)]) (st := []) (t_X4_isWithin n x1 (0 : Int32) (1 : Int32) M u1  hu1) rfl yo_X4_isWithin wm_X1_30 wi_X4_isWithin wI_X4 wc_X4_isWithin ⟨Nat.le_of_ble_eq_true rfl, Nat.le_of_ble_eq_true rfl⟩ (vv_rm0 rfl rfl) (Nat.le_of_ble_eq_true rfl) rfl rfl dX1_takeSnapshot_3 ?_
  refine vi_if_ne 13 dX1_takeSnapshot_6 (by decide) (fun c2 => ?_) (fun c2 => ?_)
  · rw [if_neg c2] at hf
    refine vi_aload_n 0 dX1_takeSnapshot_13 rfl rfl ?_
    refine vi_getr (t := p0 + 7) 1 rfl (vv_moment_o h0) rfl wu_X1 (by decide) wf_X1_18 dX1_takeSnapshot_14 ?_
    refine vi_iload_n 1 dX1_takeSnapshot_17 rfl rfl ?_
    obtain ⟨g3, hf⟩ := vv_gd hf
    refine vi_aald2 (vv_moment_slots h0) g3 (vv_lti g3) dX1_takeSnapshot_18 ?_
    refine vi_aload_n 0 dX1_takeSnapshot_19 rfl rfl ?_
    refine vi_getr (t := p0 + 1) 0 rfl (vv_moment_o h0) rfl wu_X1 (by decide) wf_X1_12 dX1_takeSnapshot_20 ?_
    obtain ⟨u4, hu4, hf⟩ := vv_bd hf
    refine vi_callV (As := [.ref (p0 + 1)]) (st := []) (t_X2_become n (p0 + 9 + 6 * x1.toNatClampNeg) (p0 + 1) u1.2 u4 (vv_moment_slots_at h0 (vv_lti g3)) (vv_moment_oven h0) hu4) rfl yo_X2_become wm_X1_26 wi_X2_become ws_X2_become wI_X2 wc_X2_become (vv_oven_o (vv_moment_slots_at h0 (vv_lti g3))) rfl ⟨Nat.le_of_ble_eq_true rfl, Nat.le_of_ble_eq_true rfl⟩ (vv_rm0 rfl rfl) (Nat.le_of_ble_eq_true rfl) rfl rfl dX1_takeSnapshot_23 ?_
    refine vi_aload_n 0 dX1_takeSnapshot_26 rfl rfl ?_
    refine vi_getr (t := p0 + 8) 2 rfl (vv_moment_o h0) rfl wu_X1 (by decide) wf_X1_22 dX1_takeSnapshot_27 ?_
    refine vi_iload_n 1 dX1_takeSnapshot_30 rfl rfl ?_
    refine vi_iconst (v := (1 : Int32)) dX1_takeSnapshot_31 (by decide) ?_
    obtain ⟨g5, hf⟩ := vv_gd hf
    obtain ⟨M6, eM6, hf⟩ := vv_lt hf
    refine vi_zast (vv_moment_filled h0) g5 eM6.symm dX1_takeSnapshot_32 ?_
    refine vi_aload_n 0 dX1_takeSnapshot_33 rfl rfl ?_
    refine vi_getr (t := p0 + 1) 0 rfl (vv_moment_o h0) rfl wu_X1 (by decide) wf_X1_12 dX1_takeSnapshot_34 ?_
    refine vi_geti 5 rfl (vv_oven_o (vv_moment_oven h0)) rfl wu_X2 (by decide) wf_X1_34 dX1_takeSnapshot_37 ?_
    obtain rfl := Option.some.inj hf
    exact vi_ret (v := some (.int (M6 (p0 + 1) 5))) rfl ⟨dX1_takeSnapshot_40, .int, rfl, rfl⟩ ⟨rfl, rfl, rfl⟩
  · rw [if_pos c2] at hf
    refine vi_sipush (v := (-1001 : Int32)) dX1_takeSnapshot_9 (by decide) ?_
    obtain rfl := Option.some.inj hf
    exact vi_ret (v := some (.int (-1001 : Int32))) rfl ⟨dX1_takeSnapshot_12, .int, rfl, rfl⟩ ⟨rfl, rfl, rfl⟩
set_option maxRecDepth 20000 in
theorem t_X1_restoreSnapshot {S : List vv_Sh} (n : Nat) (p0 : Nat) (x1 : Int32) (M : vv_M) (u : Int32 × vv_M) (h0 : vv_moment S p0) (hf : f_X1_restoreSnapshot n p0 x1 M = some u) : vv_C yX1_restoreSnapshot (vv_w yX1_restoreSnapshot cX1_restoreSnapshot 2 (some .int)) (vv_R 2 0 0) [.ref p0, .int x1] S M (some (.int u.1)) S u.2 := by
  refine vv_ofV (by decide +kernel) (Nat.le_of_ble_eq_true rfl) (L := [(0, .ref p0), (1, .int x1)]) rfl rfl rfl ?_
  show vv_V [] yX1_restoreSnapshot.cls yX1_restoreSnapshot.name cX1_restoreSnapshot 2 (some .int) (vv_R 2 0 0) S.length (vv_sz S) (vv_fi S u) 0 [(0, .ref p0), (1, .int x1)] [] S M
  unfold f_X1_restoreSnapshot at hf
  refine vi_iload_n 1 dX1_restoreSnapshot_0 rfl rfl ?_
  refine vi_iconst (v := (0 : Int32)) dX1_restoreSnapshot_1 (by decide) ?_
  refine vi_iconst (v := (1 : Int32)) dX1_restoreSnapshot_2 (by decide) ?_
  obtain ⟨u1, hu1, hf⟩ := vv_bd hf
  refine vi_callSN (As := [.int x1, .int (0 : Int32), .int (1 : Int32)]) (st := []) (t_X4_isWithin n x1 (0 : Int32) (1 : Int32) M u1  hu1) rfl yo_X4_isWithin wm_X1_30 wi_X4_isWithin wI_X4 wc_X4_isWithin ⟨Nat.le_of_ble_eq_true rfl, Nat.le_of_ble_eq_true rfl⟩ (vv_rm0 rfl rfl) (Nat.le_of_ble_eq_true rfl) rfl rfl dX1_restoreSnapshot_3 ?_
  refine vi_if_ne 13 dX1_restoreSnapshot_6 (by decide) (fun c2 => ?_) (fun c2 => ?_)
  · rw [if_neg c2] at hf
    refine vi_aload_n 0 dX1_restoreSnapshot_13 rfl rfl ?_
    refine vi_getr (t := p0 + 8) 2 rfl (vv_moment_o h0) rfl wu_X1 (by decide) wf_X1_22 dX1_restoreSnapshot_14 ?_
    refine vi_iload_n 1 dX1_restoreSnapshot_17 rfl rfl ?_
    obtain ⟨g6, hf⟩ := vv_gd hf
    refine vi_zald (vv_moment_filled h0) g6 dX1_restoreSnapshot_18 ?_
    refine vi_if_ne 26 dX1_restoreSnapshot_19 (by decide) (fun c3 => ?_) (fun c3 => ?_)
    · rw [if_neg c3] at hf
      refine vi_aload_n 0 dX1_restoreSnapshot_26 rfl rfl ?_
      refine vi_getr (t := p0 + 1) 0 rfl (vv_moment_o h0) rfl wu_X1 (by decide) wf_X1_12 dX1_restoreSnapshot_27 ?_
      refine vi_aload_n 0 dX1_restoreSnapshot_30 rfl rfl ?_
      refine vi_getr (t := p0 + 7) 1 rfl (vv_moment_o h0) rfl wu_X1 (by decide) wf_X1_18 dX1_restoreSnapshot_31 ?_
      refine vi_iload_n 1 dX1_restoreSnapshot_34 rfl rfl ?_
      obtain ⟨g4, hf⟩ := vv_gd hf
      refine vi_aald2 (vv_moment_slots h0) g4 (vv_lti g4) dX1_restoreSnapshot_35 ?_
      obtain ⟨u5, hu5, hf⟩ := vv_bd hf
      refine vi_callV (As := [.ref (p0 + 9 + 6 * x1.toNatClampNeg)]) (st := []) (t_X2_become n (p0 + 1) (p0 + 9 + 6 * x1.toNatClampNeg) u1.2 u5 (vv_moment_oven h0) (vv_moment_slots_at h0 (vv_lti g4)) hu5) rfl yo_X2_become wm_X1_26 wi_X2_become ws_X2_become wI_X2 wc_X2_become (vv_oven_o (vv_moment_oven h0)) rfl ⟨Nat.le_of_ble_eq_true rfl, Nat.le_of_ble_eq_true rfl⟩ (vv_rm0 rfl rfl) (Nat.le_of_ble_eq_true rfl) rfl rfl dX1_restoreSnapshot_36 ?_
      refine vi_aload_n 0 dX1_restoreSnapshot_39 rfl rfl ?_
      refine vi_getr (t := p0 + 1) 0 rfl (vv_moment_o h0) rfl wu_X1 (by decide) wf_X1_12 dX1_restoreSnapshot_40 ?_
      refine vi_geti 5 rfl (vv_oven_o (vv_moment_oven h0)) rfl wu_X2 (by decide) wf_X1_34 dX1_restoreSnapshot_43 ?_
      obtain rfl := Option.some.inj hf
      exact vi_ret (v := some (.int (u5.2 (p0 + 1) 5))) rfl ⟨dX1_restoreSnapshot_46, .int, rfl, rfl⟩ ⟨rfl, rfl, rfl⟩
    · rw [if_pos c3] at hf
      refine vi_sipush (v := (-1002 : Int32)) dX1_restoreSnapshot_22 (by decide) ?_
      obtain rfl := Option.some.inj hf
      exact vi_ret (v := some (.int (-1002 : Int32))) rfl ⟨dX1_restoreSnapshot_25, .int, rfl, rfl⟩ ⟨rfl, rfl, rfl⟩
  · rw [if_pos c2] at hf
    refine vi_sipush (v := (-1001 : Int32)) dX1_restoreSnapshot_9 (by decide) ?_
    obtain rfl := Option.some.inj hf
    exact vi_ret (v := some (.int (-1001 : Int32))) rfl ⟨dX1_restoreSnapshot_12, .int, rfl, rfl⟩ ⟨rfl, rfl, rfl⟩
set_option maxRecDepth 20000 in
theorem t_X1_snapshots_21 {S : List vv_Sh} (n : Nat) (k4 : Nat → Int32 → Int32 → vv_M → Option (Int32 × vv_M)) (u : Int32 × vv_M) (hk4 : ∀ (p0 : Nat) (x1 : Int32) (x2 : Int32) (M : vv_M) (h0 : vv_moment S p0) (hf : k4 p0 x1 x2 M = some u), vv_V [] yX1_snapshots.cls yX1_snapshots.name cX1_snapshots 3 (some .int) (vv_R 0 0 0) S.length (vv_sz S) (vv_fi S u) 4 [(0, .ref p0), (1, .int x1), (2, .int x2)] [] S M) (p0 : Nat) (x1 : Int32) (x2 : Int32) (M : vv_M) (h0 : vv_moment S p0) (hf : f_X1_snapshots_21 n k4 p0 x1 x2 M = some u) : vv_V [] yX1_snapshots.cls yX1_snapshots.name cX1_snapshots 3 (some .int) (vv_R 0 0 0) S.length (vv_sz S) (vv_fi S u) 21 [(0, .ref p0), (1, .int x1), (2, .int x2)] [] S M := by
  unfold f_X1_snapshots_21 at hf
  obtain ⟨y3, ey3, hf⟩ := vv_lt hf
  refine vi_iinc (v := y3) (L' := [(2, .int y3), (0, .ref p0), (1, .int x1)]) 2 dX1_snapshots_21 rfl (by rw [ey3]; rfl) (by decide) rfl ?_
  refine vi_goto 4 dX1_snapshots_24 (by decide) ?_
  refine vi_sub (L' := [(0, .ref p0), (1, .int x1), (2, .int y3)]) [1, 2, 0] rfl ?_
  exact hk4 p0 x1 y3 M h0 hf
set_option maxRecDepth 20000 in
theorem t_X1_snapshots_4 {S : List vv_Sh} (n : Nat)  (u : Int32 × vv_M)  : ∀ (k : Nat) (p0 : Nat) (x1 : Int32) (x2 : Int32) (M : vv_M) (h0 : vv_moment S p0) (hf : f_X1_snapshots_4 n  k p0 x1 x2 M = some u), vv_V [] yX1_snapshots.cls yX1_snapshots.name cX1_snapshots 3 (some .int) (vv_R 0 0 0) S.length (vv_sz S) (vv_fi S u) 4 [(0, .ref p0), (1, .int x1), (2, .int x2)] [] S M := by
  intro k
  induction k with
  | zero =>
    intro p0 x1 x2 M h0 hf
    exact absurd (show (none : Option (Int32 × vv_M)) = some u from hf) (by simp)
  | succ k ih =>
    intro p0 x1 x2 M h0 hf
    rw [f_X1_snapshots_4.eq_2] at hf
    refine vi_iload_n 2 dX1_snapshots_4 rfl rfl ?_
    refine vi_iconst (v := (2 : Int32)) dX1_snapshots_5 (by decide) ?_
    refine vi_icmp_ge 27 dX1_snapshots_6 (by decide) (fun c1 => ?_) (fun c1 => ?_)
    · rw [if_pos c1] at hf
      refine vi_iload_n 1 dX1_snapshots_27 rfl rfl ?_
      obtain rfl := Option.some.inj hf
      exact vi_ret (v := some (.int x1)) rfl ⟨dX1_snapshots_28, .int, rfl, rfl⟩ ⟨rfl, rfl, rfl⟩
    · rw [if_neg c1] at hf
      refine vi_aload_n 0 dX1_snapshots_9 rfl rfl ?_
      refine vi_getr (t := p0 + 8) 2 rfl (vv_moment_o h0) rfl wu_X1 (by decide) wf_X1_22 dX1_snapshots_10 ?_
      refine vi_iload_n 2 dX1_snapshots_13 rfl rfl ?_
      obtain ⟨g5, hf⟩ := vv_gd hf
      refine vi_zald (vv_moment_filled h0) g5 dX1_snapshots_14 ?_
      refine vi_if_eq 21 dX1_snapshots_15 (by decide) (fun c2 => ?_) (fun c2 => ?_)
      · rw [if_pos c2] at hf
        exact t_X1_snapshots_21 n (f_X1_snapshots_4 n k) u ih p0 x1 x2 M h0 hf
      · rw [if_neg c2] at hf
        obtain ⟨y4, ey4, hf⟩ := vv_lt hf
        refine vi_iinc (v := y4) (L' := [(1, .int y4), (0, .ref p0), (2, .int x2)]) 1 dX1_snapshots_18 rfl (by rw [ey4]; rfl) (by decide) rfl ?_
        refine vi_sub (L' := [(0, .ref p0), (1, .int y4), (2, .int x2)]) [1, 0, 2] rfl ?_
        exact t_X1_snapshots_21 n (f_X1_snapshots_4 n k) u ih p0 y4 x2 M h0 hf
set_option maxRecDepth 20000 in
theorem t_X1_snapshots {S : List vv_Sh} (n : Nat) (p0 : Nat) (M : vv_M) (u : Int32 × vv_M) (h0 : vv_moment S p0) (hf : f_X1_snapshots n p0 M = some u) : vv_C yX1_snapshots (vv_w yX1_snapshots cX1_snapshots 3 (some .int)) (vv_R 0 0 0) [.ref p0] S M (some (.int u.1)) S u.2 := by
  refine vv_ofV (by decide +kernel) (Nat.le_of_ble_eq_true rfl) (L := [(0, .ref p0)]) rfl rfl rfl ?_
  show vv_V [] yX1_snapshots.cls yX1_snapshots.name cX1_snapshots 3 (some .int) (vv_R 0 0 0) S.length (vv_sz S) (vv_fi S u) 0 [(0, .ref p0)] [] S M
  unfold f_X1_snapshots at hf
  refine vi_iconst (v := (0 : Int32)) dX1_snapshots_0 (by decide) ?_
  refine vi_istore_n (L' := [(1, .int (0 : Int32)), (0, .ref p0)]) dX1_snapshots_1 rfl (by decide) rfl ?_
  refine vi_iconst (v := (0 : Int32)) dX1_snapshots_2 (by decide) ?_
  refine vi_istore_n (L' := [(2, .int (0 : Int32)), (1, .int (0 : Int32)), (0, .ref p0)]) dX1_snapshots_3 rfl (by decide) rfl ?_
  refine vi_sub (L' := [(0, .ref p0), (1, .int (0 : Int32)), (2, .int (0 : Int32))]) [2, 1, 0] rfl ?_
  exact t_X1_snapshots_4 n  u  n p0 (0 : Int32) (0 : Int32) M h0 hf
set_option maxRecDepth 20000 in
theorem t_X2_boardsThatAre_30 {S : List vv_Sh} (n : Nat) (k4 : Nat → Int32 → Int32 → Int32 → vv_M → Option (Int32 × vv_M)) (u : Int32 × vv_M) (hk4 : ∀ (p0 : Nat) (x1 : Int32) (x2 : Int32) (x3 : Int32) (M : vv_M) (h0 : vv_oven S p0) (hf : k4 p0 x1 x2 x3 M = some u), vv_V [] yX2_boardsThatAre.cls yX2_boardsThatAre.name cX2_boardsThatAre 4 (some .int) (vv_R 0 0 0) S.length (vv_sz S) (vv_fi S u) 4 [(0, .ref p0), (1, .int x1), (2, .int x2), (3, .int x3)] [] S M) (p0 : Nat) (x1 : Int32) (x2 : Int32) (x3 : Int32) (M : vv_M) (h0 : vv_oven S p0) (hf : f_X2_boardsThatAre_30 n k4 p0 x1 x2 x3 M = some u) : vv_V [] yX2_boardsThatAre.cls yX2_boardsThatAre.name cX2_boardsThatAre 4 (some .int) (vv_R 0 0 0) S.length (vv_sz S) (vv_fi S u) 30 [(0, .ref p0), (1, .int x1), (2, .int x2), (3, .int x3)] [] S M := by
  unfold f_X2_boardsThatAre_30 at hf
  obtain ⟨y3, ey3, hf⟩ := vv_lt hf
  refine vi_iinc (v := y3) (L' := [(3, .int y3), (0, .ref p0), (1, .int x1), (2, .int x2)]) 3 dX2_boardsThatAre_30 rfl (by rw [ey3]; rfl) (by decide) rfl ?_
  refine vi_goto 4 dX2_boardsThatAre_33 (by decide) ?_
  refine vi_sub (L' := [(0, .ref p0), (1, .int x1), (2, .int x2), (3, .int y3)]) [1, 2, 3, 0] rfl ?_
  exact hk4 p0 x1 x2 y3 M h0 hf
set_option maxRecDepth 20000 in
theorem t_X2_boardsThatAre_4 {S : List vv_Sh} (n : Nat)  (u : Int32 × vv_M)  : ∀ (k : Nat) (p0 : Nat) (x1 : Int32) (x2 : Int32) (x3 : Int32) (M : vv_M) (h0 : vv_oven S p0) (hf : f_X2_boardsThatAre_4 n  k p0 x1 x2 x3 M = some u), vv_V [] yX2_boardsThatAre.cls yX2_boardsThatAre.name cX2_boardsThatAre 4 (some .int) (vv_R 0 0 0) S.length (vv_sz S) (vv_fi S u) 4 [(0, .ref p0), (1, .int x1), (2, .int x2), (3, .int x3)] [] S M := by
  intro k
  induction k with
  | zero =>
    intro p0 x1 x2 x3 M h0 hf
    exact absurd (show (none : Option (Int32 × vv_M)) = some u from hf) (by simp)
  | succ k ih =>
    intro p0 x1 x2 x3 M h0 hf
    rw [f_X2_boardsThatAre_4.eq_2] at hf
    refine vi_iload_n 3 dX2_boardsThatAre_4 rfl rfl ?_
    refine vi_aload_n 0 dX2_boardsThatAre_5 rfl rfl ?_
    refine vi_geti 6 rfl (vv_oven_o h0) rfl wu_X2 (by decide) wf_X2_42 dX2_boardsThatAre_6 ?_
    refine vi_icmp_ge 36 dX2_boardsThatAre_9 (by decide) (fun c1 => ?_) (fun c1 => ?_)
    · rw [if_pos c1] at hf
      refine vi_iload_n 2 dX2_boardsThatAre_36 rfl rfl ?_
      obtain rfl := Option.some.inj hf
      exact vi_ret (v := some (.int x2)) rfl ⟨dX2_boardsThatAre_37, .int, rfl, rfl⟩ ⟨rfl, rfl, rfl⟩
    · rw [if_neg c1] at hf
      refine vi_aload_n 0 dX2_boardsThatAre_12 rfl rfl ?_
      refine vi_getr (t := p0 + 4) 3 rfl (vv_oven_o h0) rfl wu_X2 (by decide) wf_X2_21 dX2_boardsThatAre_13 ?_
      refine vi_iload_n 3 dX2_boardsThatAre_16 rfl rfl ?_
      refine vi_bipush (v := (22 : Int32)) dX2_boardsThatAre_17 (by decide) ?_
      refine vi_imul dX2_boardsThatAre_19 ?_
      refine vi_iconst (v := (2 : Int32)) dX2_boardsThatAre_20 (by decide) ?_
      refine vi_iadd dX2_boardsThatAre_21 ?_
      obtain ⟨g5, hf⟩ := vv_gd hf
      refine vi_iald (vv_oven_boards h0) g5 dX2_boardsThatAre_22 ?_
      refine vi_iload_n 1 dX2_boardsThatAre_23 rfl rfl ?_
      refine vi_icmp_ne 30 dX2_boardsThatAre_24 (by decide) (fun c2 => ?_) (fun c2 => ?_)
      · rw [if_neg c2] at hf
        exact t_X2_boardsThatAre_30 n (f_X2_boardsThatAre_4 n k) u ih p0 x1 x2 x3 M h0 hf
      · rw [if_pos c2] at hf
        obtain ⟨y4, ey4, hf⟩ := vv_lt hf
        refine vi_iinc (v := y4) (L' := [(2, .int y4), (0, .ref p0), (1, .int x1), (3, .int x3)]) 2 dX2_boardsThatAre_27 rfl (by rw [ey4]; rfl) (by decide) rfl ?_
        refine vi_sub (L' := [(0, .ref p0), (1, .int x1), (2, .int y4), (3, .int x3)]) [1, 2, 0, 3] rfl ?_
        exact t_X2_boardsThatAre_30 n (f_X2_boardsThatAre_4 n k) u ih p0 x1 y4 x3 M h0 hf
set_option maxRecDepth 20000 in
theorem t_X2_boardsThatAre {S : List vv_Sh} (n : Nat) (p0 : Nat) (x1 : Int32) (M : vv_M) (u : Int32 × vv_M) (h0 : vv_oven S p0) (hf : f_X2_boardsThatAre n p0 x1 M = some u) : vv_C yX2_boardsThatAre (vv_w yX2_boardsThatAre cX2_boardsThatAre 4 (some .int)) (vv_R 0 0 0) [.ref p0, .int x1] S M (some (.int u.1)) S u.2 := by
  refine vv_ofV (by decide +kernel) (Nat.le_of_ble_eq_true rfl) (L := [(0, .ref p0), (1, .int x1)]) rfl rfl rfl ?_
  show vv_V [] yX2_boardsThatAre.cls yX2_boardsThatAre.name cX2_boardsThatAre 4 (some .int) (vv_R 0 0 0) S.length (vv_sz S) (vv_fi S u) 0 [(0, .ref p0), (1, .int x1)] [] S M
  unfold f_X2_boardsThatAre at hf
  refine vi_iconst (v := (0 : Int32)) dX2_boardsThatAre_0 (by decide) ?_
  refine vi_istore_n (L' := [(2, .int (0 : Int32)), (0, .ref p0), (1, .int x1)]) dX2_boardsThatAre_1 rfl (by decide) rfl ?_
  refine vi_iconst (v := (0 : Int32)) dX2_boardsThatAre_2 (by decide) ?_
  refine vi_istore_n (L' := [(3, .int (0 : Int32)), (2, .int (0 : Int32)), (0, .ref p0), (1, .int x1)]) dX2_boardsThatAre_3 rfl (by decide) rfl ?_
  refine vi_sub (L' := [(0, .ref p0), (1, .int x1), (2, .int (0 : Int32)), (3, .int (0 : Int32))]) [2, 3, 1, 0] rfl ?_
  exact t_X2_boardsThatAre_4 n  u  n p0 x1 (0 : Int32) (0 : Int32) M h0 hf
set_option maxRecDepth 20000 in
theorem t_X2_firstCellOf_4 {S : List vv_Sh} (n : Nat)  (u : Int32 × vv_M)  : ∀ (k : Nat) (p0 : Nat) (x1 : Int32) (x2 : Int32) (x3 : Int32) (M : vv_M) (h0 : vv_oven S p0) (hf : f_X2_firstCellOf_4 n  k p0 x1 x2 x3 M = some u), vv_V [] yX2_firstCellOf.cls yX2_firstCellOf.name cX2_firstCellOf 4 (some .int) (vv_R 0 0 0) S.length (vv_sz S) (vv_fi S u) 4 [(0, .ref p0), (1, .int x1), (2, .int x2), (3, .int x3)] [] S M := by
  intro k
  induction k with
  | zero =>
    intro p0 x1 x2 x3 M h0 hf
    exact absurd (show (none : Option (Int32 × vv_M)) = some u from hf) (by simp)
  | succ k ih =>
    intro p0 x1 x2 x3 M h0 hf
    rw [f_X2_firstCellOf_4.eq_2] at hf
    refine vi_iload_n 3 dX2_firstCellOf_4 rfl rfl ?_
    refine vi_iload_n 1 dX2_firstCellOf_5 rfl rfl ?_
    refine vi_icmp_ge 34 dX2_firstCellOf_6 (by decide) (fun c1 => ?_) (fun c1 => ?_)
    · rw [if_pos c1] at hf
      refine vi_iload_n 2 dX2_firstCellOf_34 rfl rfl ?_
      obtain rfl := Option.some.inj hf
      exact vi_ret (v := some (.int x2)) rfl ⟨dX2_firstCellOf_35, .int, rfl, rfl⟩ ⟨rfl, rfl, rfl⟩
    · rw [if_neg c1] at hf
      refine vi_iload_n 3 dX2_firstCellOf_9 rfl rfl ?_
      refine vi_bipush (v := (6 : Int32)) dX2_firstCellOf_10 (by decide) ?_
      refine vi_icmp_ge 34 dX2_firstCellOf_12 (by decide) (fun c2 => ?_) (fun c2 => ?_)
      · rw [if_pos c2] at hf
        refine vi_iload_n 2 dX2_firstCellOf_34 rfl rfl ?_
        obtain rfl := Option.some.inj hf
        exact vi_ret (v := some (.int x2)) rfl ⟨dX2_firstCellOf_35, .int, rfl, rfl⟩ ⟨rfl, rfl, rfl⟩
      · rw [if_neg c2] at hf
        refine vi_iload_n 2 dX2_firstCellOf_15 rfl rfl ?_
        refine vi_aload_n 0 dX2_firstCellOf_16 rfl rfl ?_
        refine vi_getr (t := p0 + 1) 0 rfl (vv_oven_o h0) rfl wu_X2 (by decide) wf_X2_9 dX2_firstCellOf_17 ?_
        refine vi_iload_n 3 dX2_firstCellOf_20 rfl rfl ?_
        refine vi_iconst (v := (4 : Int32)) dX2_firstCellOf_21 (by decide) ?_
        refine vi_imul dX2_firstCellOf_22 ?_
        refine vi_iconst (v := (0 : Int32)) dX2_firstCellOf_23 (by decide) ?_
        refine vi_iadd dX2_firstCellOf_24 ?_
        obtain ⟨g5, hf⟩ := vv_gd hf
        refine vi_iald (vv_oven_zones h0) g5 dX2_firstCellOf_25 ?_
        refine vi_iadd dX2_firstCellOf_26 ?_
        obtain ⟨y3, ey3, hf⟩ := vv_lt hf
        refine vi_istore_n (L' := [(2, .int y3), (0, .ref p0), (1, .int x1), (3, .int x3)]) dX2_firstCellOf_27 rfl (by decide) (by rw [ey3]; rfl) ?_
        obtain ⟨y4, ey4, hf⟩ := vv_lt hf
        refine vi_iinc (v := y4) (L' := [(3, .int y4), (2, .int y3), (0, .ref p0), (1, .int x1)]) 3 dX2_firstCellOf_28 rfl (by rw [ey4]; rfl) (by decide) rfl ?_
        refine vi_goto 4 dX2_firstCellOf_31 (by decide) ?_
        refine vi_sub (L' := [(0, .ref p0), (1, .int x1), (2, .int y3), (3, .int y4)]) [2, 3, 1, 0] rfl ?_
        exact ih p0 x1 y3 y4 M h0 hf
set_option maxRecDepth 20000 in
theorem t_X2_firstCellOf {S : List vv_Sh} (n : Nat) (p0 : Nat) (x1 : Int32) (M : vv_M) (u : Int32 × vv_M) (h0 : vv_oven S p0) (hf : f_X2_firstCellOf n p0 x1 M = some u) : vv_C yX2_firstCellOf (vv_w yX2_firstCellOf cX2_firstCellOf 4 (some .int)) (vv_R 0 0 0) [.ref p0, .int x1] S M (some (.int u.1)) S u.2 := by
  refine vv_ofV (by decide +kernel) (Nat.le_of_ble_eq_true rfl) (L := [(0, .ref p0), (1, .int x1)]) rfl rfl rfl ?_
  show vv_V [] yX2_firstCellOf.cls yX2_firstCellOf.name cX2_firstCellOf 4 (some .int) (vv_R 0 0 0) S.length (vv_sz S) (vv_fi S u) 0 [(0, .ref p0), (1, .int x1)] [] S M
  unfold f_X2_firstCellOf at hf
  refine vi_iconst (v := (0 : Int32)) dX2_firstCellOf_0 (by decide) ?_
  refine vi_istore_n (L' := [(2, .int (0 : Int32)), (0, .ref p0), (1, .int x1)]) dX2_firstCellOf_1 rfl (by decide) rfl ?_
  refine vi_iconst (v := (0 : Int32)) dX2_firstCellOf_2 (by decide) ?_
  refine vi_istore_n (L' := [(3, .int (0 : Int32)), (2, .int (0 : Int32)), (0, .ref p0), (1, .int x1)]) dX2_firstCellOf_3 rfl (by decide) rfl ?_
  refine vi_sub (L' := [(0, .ref p0), (1, .int x1), (2, .int (0 : Int32)), (3, .int (0 : Int32))]) [2, 3, 1, 0] rfl ?_
  exact t_X2_firstCellOf_4 n  u  n p0 x1 (0 : Int32) (0 : Int32) M h0 hf
set_option maxRecDepth 20000 in
theorem t_X2_beltLength {S : List vv_Sh} (n : Nat) (p0 : Nat) (M : vv_M) (u : Int32 × vv_M) (h0 : vv_oven S p0) (hf : f_X2_beltLength n p0 M = some u) : vv_C yX2_beltLength (vv_w yX2_beltLength cX2_beltLength 1 (some .int)) (vv_R 1 0 0) [.ref p0] S M (some (.int u.1)) S u.2 := by
  refine vv_ofV (by decide +kernel) (Nat.le_of_ble_eq_true rfl) (L := [(0, .ref p0)]) rfl rfl rfl ?_
  show vv_V [] yX2_beltLength.cls yX2_beltLength.name cX2_beltLength 1 (some .int) (vv_R 1 0 0) S.length (vv_sz S) (vv_fi S u) 0 [(0, .ref p0)] [] S M
  unfold f_X2_beltLength at hf
  refine vi_aload_n 0 dX2_beltLength_0 rfl rfl ?_
  refine vi_bipush (v := (6 : Int32)) dX2_beltLength_1 (by decide) ?_
  obtain ⟨u1, hu1, hf⟩ := vv_bd hf
  refine vi_callV (As := [.int (6 : Int32)]) (st := []) (t_X2_firstCellOf n p0 (6 : Int32) M u1 h0 hu1) rfl yo_X2_firstCellOf wm_X2_153 wi_X2_firstCellOf ws_X2_firstCellOf wI_X2 wc_X2_firstCellOf (vv_oven_o h0) rfl ⟨Nat.le_of_ble_eq_true rfl, Nat.le_of_ble_eq_true rfl⟩ (vv_rm0 rfl rfl) (Nat.le_of_ble_eq_true rfl) rfl rfl dX2_beltLength_3 ?_
  obtain rfl := Option.some.inj hf
  exact vi_ret (v := some (.int u1.1)) rfl ⟨dX2_beltLength_6, .int, rfl, rfl⟩ ⟨rfl, rfl, rfl⟩
set_option maxRecDepth 20000 in
theorem t_X2_changeZone_104 {S : List vv_Sh} (n : Nat)  (u : Int32 × vv_M)  (p0 : Nat) (M : vv_M) (h0 : vv_oven S p0) (hf : f_X2_changeZone_104 n  p0 M = some u) : vv_V [] yX2_changeZone.cls yX2_changeZone.name cX2_changeZone 6 (some .int) (vv_R 2 0 0) S.length (vv_sz S) (vv_fi S u) 104 [(0, .ref p0)] [] S M := by
  unfold f_X2_changeZone_104 at hf
  refine vi_aload_n 0 dX2_changeZone_104 rfl rfl ?_
  obtain ⟨u20, hu20, hf⟩ := vv_bd hf
  refine vi_callV (As := []) (st := []) (t_X2_beltLength n p0 M u20 h0 hu20) rfl yo_X2_beltLength wm_X2_63 wi_X2_beltLength ws_X2_beltLength wI_X2 wc_X2_beltLength (vv_oven_o h0) rfl ⟨Nat.le_of_ble_eq_true rfl, Nat.le_of_ble_eq_true rfl⟩ (vv_rm0 rfl rfl) (Nat.le_of_ble_eq_true rfl) rfl rfl dX2_changeZone_105 ?_
  obtain rfl := Option.some.inj hf
  exact vi_ret (v := some (.int u20.1)) rfl ⟨dX2_changeZone_108, .int, rfl, rfl⟩ ⟨rfl, rfl, rfl⟩
set_option maxRecDepth 20000 in
theorem t_X2_changeZone_58 {S : List vv_Sh} (n : Nat)  (u : Int32 × vv_M)  (p0 : Nat) (x1 : Int32) (x2 : Int32) (x3 : Int32) (x4 : Int32) (M : vv_M) (h0 : vv_oven S p0) (hf : f_X2_changeZone_58 n  p0 x1 x2 x3 x4 M = some u) : vv_V [] yX2_changeZone.cls yX2_changeZone.name cX2_changeZone 6 (some .int) (vv_R 2 0 0) S.length (vv_sz S) (vv_fi S u) 58 [(0, .ref p0), (1, .int x1), (2, .int x2), (3, .int x3), (4, .int x4)] [] S M := by
  unfold f_X2_changeZone_58 at hf
  refine vi_iload_n 1 dX2_changeZone_58 rfl rfl ?_
  refine vi_iconst (v := (4 : Int32)) dX2_changeZone_59 (by decide) ?_
  refine vi_imul dX2_changeZone_60 ?_
  obtain ⟨y11, ey11, hf⟩ := vv_lt hf
  refine vi_istore (L' := [(5, .int y11), (0, .ref p0), (1, .int x1), (2, .int x2), (3, .int x3), (4, .int x4)]) dX2_changeZone_61 (by decide) (by rw [ey11]; rfl) ?_
  refine vi_aload_n 1 dX2_changeZone_63 rfl rfl ?_
  refine vi_getr (t := p0 + 1) 0 rfl (vv_oven_o h0) rfl wu_X2 (by decide) wf_X2_9 dX2_changeZone_64 ?_
  refine vi_iload 0 dX2_changeZone_67 rfl ?_
  refine vi_iconst (v := (0 : Int32)) dX2_changeZone_69 (by decide) ?_
  refine vi_iadd dX2_changeZone_70 ?_
  refine vi_iload_n 3 dX2_changeZone_71 rfl rfl ?_
  obtain ⟨g12, hf⟩ := vv_gd hf
  obtain ⟨M13, eM13, hf⟩ := vv_lt hf
  refine vi_iast (vv_oven_zones h0) g12 eM13.symm dX2_changeZone_72 ?_
  refine vi_aload_n 1 dX2_changeZone_73 rfl rfl ?_
  refine vi_getr (t := p0 + 1) 0 rfl (vv_oven_o h0) rfl wu_X2 (by decide) wf_X2_9 dX2_changeZone_74 ?_
  refine vi_iload 0 dX2_changeZone_77 rfl ?_
  refine vi_iconst (v := (1 : Int32)) dX2_changeZone_79 (by decide) ?_
  refine vi_iadd dX2_changeZone_80 ?_
  refine vi_iload_n 4 dX2_changeZone_81 rfl rfl ?_
  obtain ⟨g14, hf⟩ := vv_gd hf
  obtain ⟨M15, eM15, hf⟩ := vv_lt hf
  refine vi_iast (vv_oven_zones h0) g14 eM15.symm dX2_changeZone_82 ?_
  refine vi_aload_n 1 dX2_changeZone_83 rfl rfl ?_
  refine vi_getr (t := p0 + 1) 0 rfl (vv_oven_o h0) rfl wu_X2 (by decide) wf_X2_9 dX2_changeZone_84 ?_
  refine vi_iload 0 dX2_changeZone_87 rfl ?_
  refine vi_iconst (v := (2 : Int32)) dX2_changeZone_89 (by decide) ?_
  refine vi_iadd dX2_changeZone_90 ?_
  refine vi_iload 5 dX2_changeZone_91 rfl ?_
  obtain ⟨g16, hf⟩ := vv_gd hf
  obtain ⟨M17, eM17, hf⟩ := vv_lt hf
  refine vi_iast (vv_oven_zones h0) g16 eM17.symm dX2_changeZone_93 ?_
  refine vi_aload_n 1 dX2_changeZone_94 rfl rfl ?_
  refine vi_getr (t := p0 + 1) 0 rfl (vv_oven_o h0) rfl wu_X2 (by decide) wf_X2_9 dX2_changeZone_95 ?_
  refine vi_iload 0 dX2_changeZone_98 rfl ?_
  refine vi_iconst (v := (3 : Int32)) dX2_changeZone_100 (by decide) ?_
  refine vi_iadd dX2_changeZone_101 ?_
  refine vi_iload_n 4 dX2_changeZone_102 rfl rfl ?_
  obtain ⟨g18, hf⟩ := vv_gd hf
  obtain ⟨M19, eM19, hf⟩ := vv_lt hf
  refine vi_iast (vv_oven_zones h0) g18 eM19.symm dX2_changeZone_103 ?_
  refine vi_sub (L' := [(0, .ref p0)]) [1] rfl ?_
  exact t_X2_changeZone_104 n  u  p0 M19 h0 hf
set_option maxRecDepth 20000 in
theorem t_X2_changeZone {S : List vv_Sh} (n : Nat) (p0 : Nat) (x1 : Int32) (x2 : Int32) (x3 : Int32) (x4 : Int32) (M : vv_M) (u : Int32 × vv_M) (h0 : vv_oven S p0) (hf : f_X2_changeZone n p0 x1 x2 x3 x4 M = some u) : vv_C yX2_changeZone (vv_w yX2_changeZone cX2_changeZone 6 (some .int)) (vv_R 2 0 0) [.ref p0, .int x1, .int x2, .int x3, .int x4] S M (some (.int u.1)) S u.2 := by
  refine vv_ofV (by decide +kernel) (Nat.le_of_ble_eq_true rfl) (L := [(0, .ref p0), (1, .int x1), (2, .int x2), (3, .int x3), (4, .int x4)]) rfl rfl rfl ?_
  show vv_V [] yX2_changeZone.cls yX2_changeZone.name cX2_changeZone 6 (some .int) (vv_R 2 0 0) S.length (vv_sz S) (vv_fi S u) 0 [(0, .ref p0), (1, .int x1), (2, .int x2), (3, .int x3), (4, .int x4)] [] S M
  unfold f_X2_changeZone at hf
  refine vi_iload_n 1 dX2_changeZone_0 rfl rfl ?_
  refine vi_iconst (v := (0 : Int32)) dX2_changeZone_1 (by decide) ?_
  refine vi_iconst (v := (5 : Int32)) dX2_changeZone_2 (by decide) ?_
  obtain ⟨u1, hu1, hf⟩ := vv_bd hf
  refine vi_callSN (As := [.int x1, .int (0 : Int32), .int (5 : Int32)]) (st := []) (t_X4_isWithin n x1 (0 : Int32) (5 : Int32) M u1  hu1) rfl yo_X4_isWithin wm_X2_55 wi_X4_isWithin wI_X4 wc_X4_isWithin ⟨Nat.le_of_ble_eq_true rfl, Nat.le_of_ble_eq_true rfl⟩ (vv_rm0 rfl rfl) (Nat.le_of_ble_eq_true rfl) rfl rfl dX2_changeZone_3 ?_
  refine vi_if_eq 42 dX2_changeZone_6 (by decide) (fun c2 => ?_) (fun c2 => ?_)
  · rw [if_pos c2] at hf
    refine vi_sipush (v := (-1001 : Int32)) dX2_changeZone_42 (by decide) ?_
    obtain rfl := Option.some.inj hf
    exact vi_ret (v := some (.int (-1001 : Int32))) rfl ⟨dX2_changeZone_45, .int, rfl, rfl⟩ ⟨rfl, rfl, rfl⟩
  · rw [if_neg c2] at hf
    refine vi_iload_n 2 dX2_changeZone_9 rfl rfl ?_
    refine vi_iconst (v := (2 : Int32)) dX2_changeZone_10 (by decide) ?_
    refine vi_bipush (v := (8 : Int32)) dX2_changeZone_11 (by decide) ?_
    obtain ⟨u3, hu3, hf⟩ := vv_bd hf
    refine vi_callSN (As := [.int x2, .int (2 : Int32), .int (8 : Int32)]) (st := []) (t_X4_isWithin n x2 (2 : Int32) (8 : Int32) u1.2 u3  hu3) rfl yo_X4_isWithin wm_X2_55 wi_X4_isWithin wI_X4 wc_X4_isWithin ⟨Nat.le_of_ble_eq_true rfl, Nat.le_of_ble_eq_true rfl⟩ (vv_rm0 rfl rfl) (Nat.le_of_ble_eq_true rfl) rfl rfl dX2_changeZone_13 ?_
    refine vi_if_eq 42 dX2_changeZone_16 (by decide) (fun c4 => ?_) (fun c4 => ?_)
    · rw [if_pos c4] at hf
      refine vi_sipush (v := (-1001 : Int32)) dX2_changeZone_42 (by decide) ?_
      obtain rfl := Option.some.inj hf
      exact vi_ret (v := some (.int (-1001 : Int32))) rfl ⟨dX2_changeZone_45, .int, rfl, rfl⟩ ⟨rfl, rfl, rfl⟩
    · rw [if_neg c4] at hf
      refine vi_iload_n 3 dX2_changeZone_19 rfl rfl ?_
      refine vi_bipush (v := (20 : Int32)) dX2_changeZone_20 (by decide) ?_
      refine vi_sipush (v := (300 : Int32)) dX2_changeZone_22 (by decide) ?_
      obtain ⟨u5, hu5, hf⟩ := vv_bd hf
      refine vi_callSN (As := [.int x3, .int (20 : Int32), .int (300 : Int32)]) (st := []) (t_X4_isWithin n x3 (20 : Int32) (300 : Int32) u3.2 u5  hu5) rfl yo_X4_isWithin wm_X2_55 wi_X4_isWithin wI_X4 wc_X4_isWithin ⟨Nat.le_of_ble_eq_true rfl, Nat.le_of_ble_eq_true rfl⟩ (vv_rm0 rfl rfl) (Nat.le_of_ble_eq_true rfl) rfl rfl dX2_changeZone_25 ?_
      refine vi_if_eq 42 dX2_changeZone_28 (by decide) (fun c6 => ?_) (fun c6 => ?_)
      · rw [if_pos c6] at hf
        refine vi_sipush (v := (-1001 : Int32)) dX2_changeZone_42 (by decide) ?_
        obtain rfl := Option.some.inj hf
        exact vi_ret (v := some (.int (-1001 : Int32))) rfl ⟨dX2_changeZone_45, .int, rfl, rfl⟩ ⟨rfl, rfl, rfl⟩
      · rw [if_neg c6] at hf
        refine vi_iload 4 dX2_changeZone_31 rfl ?_
        refine vi_iconst (v := (1 : Int32)) dX2_changeZone_33 (by decide) ?_
        refine vi_bipush (v := (20 : Int32)) dX2_changeZone_34 (by decide) ?_
        obtain ⟨u7, hu7, hf⟩ := vv_bd hf
        refine vi_callSN (As := [.int x4, .int (1 : Int32), .int (20 : Int32)]) (st := []) (t_X4_isWithin n x4 (1 : Int32) (20 : Int32) u5.2 u7  hu7) rfl yo_X4_isWithin wm_X2_55 wi_X4_isWithin wI_X4 wc_X4_isWithin ⟨Nat.le_of_ble_eq_true rfl, Nat.le_of_ble_eq_true rfl⟩ (vv_rm0 rfl rfl) (Nat.le_of_ble_eq_true rfl) rfl rfl dX2_changeZone_36 ?_
        refine vi_if_ne 46 dX2_changeZone_39 (by decide) (fun c8 => ?_) (fun c8 => ?_)
        · rw [if_neg c8] at hf
          refine vi_aload_n 0 dX2_changeZone_46 rfl rfl ?_
          refine vi_iconst (v := (0 : Int32)) dX2_changeZone_47 (by decide) ?_
          obtain ⟨u9, hu9, hf⟩ := vv_bd hf
          refine vi_callV (As := [.int (0 : Int32)]) (st := []) (t_X2_boardsThatAre n p0 (0 : Int32) u7.2 u9 h0 hu9) rfl yo_X2_boardsThatAre wm_X2_59 wi_X2_boardsThatAre ws_X2_boardsThatAre wI_X2 wc_X2_boardsThatAre (vv_oven_o h0) rfl ⟨Nat.le_of_ble_eq_true rfl, Nat.le_of_ble_eq_true rfl⟩ (vv_rm0 rfl rfl) (Nat.le_of_ble_eq_true rfl) rfl rfl dX2_changeZone_48 ?_
          refine vi_if_le 58 dX2_changeZone_51 (by decide) (fun c10 => ?_) (fun c10 => ?_)
          · rw [if_pos c10] at hf
            exact t_X2_changeZone_58 n  u  p0 x1 x2 x3 x4 u9.2 h0 hf
          · rw [if_neg c10] at hf
            refine vi_sipush (v := (-1002 : Int32)) dX2_changeZone_54 (by decide) ?_
            obtain rfl := Option.some.inj hf
            exact vi_ret (v := some (.int (-1002 : Int32))) rfl ⟨dX2_changeZone_57, .int, rfl, rfl⟩ ⟨rfl, rfl, rfl⟩
        · rw [if_pos c8] at hf
          refine vi_sipush (v := (-1001 : Int32)) dX2_changeZone_42 (by decide) ?_
          obtain rfl := Option.some.inj hf
          exact vi_ret (v := some (.int (-1001 : Int32))) rfl ⟨dX2_changeZone_45, .int, rfl, rfl⟩ ⟨rfl, rfl, rfl⟩
set_option maxRecDepth 20000 in
theorem t_X2_changeCurve {S : List vv_Sh} (n : Nat) (p0 : Nat) (x1 : Int32) (x2 : Int32) (x3 : Int32) (M : vv_M) (u : Int32 × vv_M) (h0 : vv_oven S p0) (hf : f_X2_changeCurve n p0 x1 x2 x3 M = some u) : vv_C yX2_changeCurve (vv_w yX2_changeCurve cX2_changeCurve 5 (some .int)) (vv_R 1 0 0) [.ref p0, .int x1, .int x2, .int x3] S M (some (.int u.1)) S u.2 := by
  refine vv_ofV (by decide +kernel) (Nat.le_of_ble_eq_true rfl) (L := [(0, .ref p0), (1, .int x1), (2, .int x2), (3, .int x3)]) rfl rfl rfl ?_
  show vv_V [] yX2_changeCurve.cls yX2_changeCurve.name cX2_changeCurve 5 (some .int) (vv_R 1 0 0) S.length (vv_sz S) (vv_fi S u) 0 [(0, .ref p0), (1, .int x1), (2, .int x2), (3, .int x3)] [] S M
  unfold f_X2_changeCurve at hf
  refine vi_iload_n 1 dX2_changeCurve_0 rfl rfl ?_
  refine vi_iconst (v := (0 : Int32)) dX2_changeCurve_1 (by decide) ?_
  refine vi_iconst (v := (3 : Int32)) dX2_changeCurve_2 (by decide) ?_
  obtain ⟨u1, hu1, hf⟩ := vv_bd hf
  refine vi_callSN (As := [.int x1, .int (0 : Int32), .int (3 : Int32)]) (st := []) (t_X4_isWithin n x1 (0 : Int32) (3 : Int32) M u1  hu1) rfl yo_X4_isWithin wm_X2_55 wi_X4_isWithin wI_X4 wc_X4_isWithin ⟨Nat.le_of_ble_eq_true rfl, Nat.le_of_ble_eq_true rfl⟩ (vv_rm0 rfl rfl) (Nat.le_of_ble_eq_true rfl) rfl rfl dX2_changeCurve_3 ?_
  refine vi_if_eq 35 dX2_changeCurve_6 (by decide) (fun c2 => ?_) (fun c2 => ?_)
  · rw [if_pos c2] at hf
    refine vi_sipush (v := (-1001 : Int32)) dX2_changeCurve_35 (by decide) ?_
    obtain rfl := Option.some.inj hf
    exact vi_ret (v := some (.int (-1001 : Int32))) rfl ⟨dX2_changeCurve_38, .int, rfl, rfl⟩ ⟨rfl, rfl, rfl⟩
  · rw [if_neg c2] at hf
    refine vi_iload_n 2 dX2_changeCurve_9 rfl rfl ?_
    refine vi_iconst (v := (0 : Int32)) dX2_changeCurve_10 (by decide) ?_
    refine vi_iconst (v := (5 : Int32)) dX2_changeCurve_11 (by decide) ?_
    obtain ⟨u3, hu3, hf⟩ := vv_bd hf
    refine vi_callSN (As := [.int x2, .int (0 : Int32), .int (5 : Int32)]) (st := []) (t_X4_isWithin n x2 (0 : Int32) (5 : Int32) u1.2 u3  hu3) rfl yo_X4_isWithin wm_X2_55 wi_X4_isWithin wI_X4 wc_X4_isWithin ⟨Nat.le_of_ble_eq_true rfl, Nat.le_of_ble_eq_true rfl⟩ (vv_rm0 rfl rfl) (Nat.le_of_ble_eq_true rfl) rfl rfl dX2_changeCurve_12 ?_
    refine vi_if_eq 35 dX2_changeCurve_15 (by decide) (fun c4 => ?_) (fun c4 => ?_)
    · rw [if_pos c4] at hf
      refine vi_sipush (v := (-1001 : Int32)) dX2_changeCurve_35 (by decide) ?_
      obtain rfl := Option.some.inj hf
      exact vi_ret (v := some (.int (-1001 : Int32))) rfl ⟨dX2_changeCurve_38, .int, rfl, rfl⟩ ⟨rfl, rfl, rfl⟩
    · rw [if_neg c4] at hf
      refine vi_iload_n 3 dX2_changeCurve_18 rfl rfl ?_
      refine vi_gets (i := 5) 5 rfl rfl wf_X2_67 dX2_changeCurve_19 ?_
      refine vi_iload_n 2 dX2_changeCurve_22 rfl rfl ?_
      obtain ⟨g12, hf⟩ := vv_gd hf
      refine vi_tald (i := 5) (xs := [1, 20, 0, 0, 20, 20]) rfl rfl g12 dX2_changeCurve_23 ?_
      refine vi_gets (i := 6) 6 rfl rfl wf_X2_70 dX2_changeCurve_24 ?_
      refine vi_iload_n 2 dX2_changeCurve_27 rfl rfl ?_
      obtain ⟨g11, hf⟩ := vv_gd hf
      refine vi_tald (i := 6) (xs := [99, 300, 99, 99, 300, 300]) rfl rfl g11 dX2_changeCurve_28 ?_
      obtain ⟨u5, hu5, hf⟩ := vv_bd hf
      refine vi_callSN (As := [.int x3, .int (([1, 20, 0, 0, 20, 20] : List Int32).getD x2.toNatClampNeg 0), .int (([99, 300, 99, 99, 300, 300] : List Int32).getD x2.toNatClampNeg 0)]) (st := []) (t_X4_isWithin n x3 (([1, 20, 0, 0, 20, 20] : List Int32).getD x2.toNatClampNeg 0) (([99, 300, 99, 99, 300, 300] : List Int32).getD x2.toNatClampNeg 0) u3.2 u5  hu5) rfl yo_X4_isWithin wm_X2_55 wi_X4_isWithin wI_X4 wc_X4_isWithin ⟨Nat.le_of_ble_eq_true rfl, Nat.le_of_ble_eq_true rfl⟩ (vv_rm0 rfl rfl) (Nat.le_of_ble_eq_true rfl) rfl rfl dX2_changeCurve_29 ?_
      refine vi_if_ne 39 dX2_changeCurve_32 (by decide) (fun c6 => ?_) (fun c6 => ?_)
      · rw [if_neg c6] at hf
        refine vi_aload_n 0 dX2_changeCurve_39 rfl rfl ?_
        refine vi_getr (t := p0 + 2) 1 rfl (vv_oven_o h0) rfl wu_X2 (by decide) wf_X2_15 dX2_changeCurve_40 ?_
        refine vi_iload_n 1 dX2_changeCurve_43 rfl rfl ?_
        refine vi_bipush (v := (6 : Int32)) dX2_changeCurve_44 (by decide) ?_
        refine vi_imul dX2_changeCurve_46 ?_
        refine vi_iload_n 2 dX2_changeCurve_47 rfl rfl ?_
        refine vi_iadd dX2_changeCurve_48 ?_
        obtain ⟨g10, hf⟩ := vv_gd hf
        refine vi_iald (vv_oven_curves h0) g10 dX2_changeCurve_49 ?_
        obtain ⟨y7, ey7, hf⟩ := vv_lt hf
        refine vi_istore (L' := [(4, .int y7), (0, .ref p0), (1, .int x1), (2, .int x2), (3, .int x3)]) dX2_changeCurve_50 (by decide) (by rw [ey7]; rfl) ?_
        refine vi_aload_n 1 dX2_changeCurve_52 rfl rfl ?_
        refine vi_getr (t := p0 + 2) 1 rfl (vv_oven_o h0) rfl wu_X2 (by decide) wf_X2_15 dX2_changeCurve_53 ?_
        refine vi_iload_n 2 dX2_changeCurve_56 rfl rfl ?_
        refine vi_bipush (v := (6 : Int32)) dX2_changeCurve_57 (by decide) ?_
        refine vi_imul dX2_changeCurve_59 ?_
        refine vi_iload_n 3 dX2_changeCurve_60 rfl rfl ?_
        refine vi_iadd dX2_changeCurve_61 ?_
        refine vi_iload_n 4 dX2_changeCurve_62 rfl rfl ?_
        obtain ⟨g8, hf⟩ := vv_gd hf
        obtain ⟨M9, eM9, hf⟩ := vv_lt hf
        refine vi_iast (vv_oven_curves h0) g8 eM9.symm dX2_changeCurve_63 ?_
        refine vi_iload 0 dX2_changeCurve_64 rfl ?_
        obtain rfl := Option.some.inj hf
        exact vi_ret (v := some (.int y7)) rfl ⟨dX2_changeCurve_66, .int, rfl, rfl⟩ ⟨rfl, rfl, rfl⟩
      · rw [if_pos c6] at hf
        refine vi_sipush (v := (-1001 : Int32)) dX2_changeCurve_35 (by decide) ?_
        obtain rfl := Option.some.inj hf
        exact vi_ret (v := some (.int (-1001 : Int32))) rfl ⟨dX2_changeCurve_38, .int, rfl, rfl⟩ ⟨rfl, rfl, rfl⟩
set_option maxRecDepth 20000 in
theorem t_X2_changeNumber {S : List vv_Sh} (n : Nat) (p0 : Nat) (x1 : Int32) (x2 : Int32) (M : vv_M) (u : Int32 × vv_M) (h0 : vv_oven S p0) (hf : f_X2_changeNumber n p0 x1 x2 M = some u) : vv_C yX2_changeNumber (vv_w yX2_changeNumber cX2_changeNumber 4 (some .int)) (vv_R 1 0 0) [.ref p0, .int x1, .int x2] S M (some (.int u.1)) S u.2 := by
  refine vv_ofV (by decide +kernel) (Nat.le_of_ble_eq_true rfl) (L := [(0, .ref p0), (1, .int x1), (2, .int x2)]) rfl rfl rfl ?_
  show vv_V [] yX2_changeNumber.cls yX2_changeNumber.name cX2_changeNumber 4 (some .int) (vv_R 1 0 0) S.length (vv_sz S) (vv_fi S u) 0 [(0, .ref p0), (1, .int x1), (2, .int x2)] [] S M
  unfold f_X2_changeNumber at hf
  refine vi_iload_n 1 dX2_changeNumber_0 rfl rfl ?_
  refine vi_iconst (v := (0 : Int32)) dX2_changeNumber_1 (by decide) ?_
  refine vi_iconst (v := (3 : Int32)) dX2_changeNumber_2 (by decide) ?_
  obtain ⟨u1, hu1, hf⟩ := vv_bd hf
  refine vi_callSN (As := [.int x1, .int (0 : Int32), .int (3 : Int32)]) (st := []) (t_X4_isWithin n x1 (0 : Int32) (3 : Int32) M u1  hu1) rfl yo_X4_isWithin wm_X2_55 wi_X4_isWithin wI_X4 wc_X4_isWithin ⟨Nat.le_of_ble_eq_true rfl, Nat.le_of_ble_eq_true rfl⟩ (vv_rm0 rfl rfl) (Nat.le_of_ble_eq_true rfl) rfl rfl dX2_changeNumber_3 ?_
  refine vi_if_eq 26 dX2_changeNumber_6 (by decide) (fun c2 => ?_) (fun c2 => ?_)
  · rw [if_pos c2] at hf
    refine vi_sipush (v := (-1001 : Int32)) dX2_changeNumber_26 (by decide) ?_
    obtain rfl := Option.some.inj hf
    exact vi_ret (v := some (.int (-1001 : Int32))) rfl ⟨dX2_changeNumber_29, .int, rfl, rfl⟩ ⟨rfl, rfl, rfl⟩
  · rw [if_neg c2] at hf
    refine vi_iload_n 2 dX2_changeNumber_9 rfl rfl ?_
    refine vi_gets (i := 2) 2 rfl rfl wf_X2_73 dX2_changeNumber_10 ?_
    refine vi_iload_n 1 dX2_changeNumber_13 rfl rfl ?_
    obtain ⟨g10, hf⟩ := vv_gd hf
    refine vi_tald (i := 2) (xs := [1, 1, 0, 0]) rfl rfl g10 dX2_changeNumber_14 ?_
    refine vi_gets (i := 3) 3 rfl rfl wf_X2_76 dX2_changeNumber_15 ?_
    refine vi_iload_n 1 dX2_changeNumber_18 rfl rfl ?_
    obtain ⟨g9, hf⟩ := vv_gd hf
    refine vi_tald (i := 3) (xs := [3, 20, 99, 9]) rfl rfl g9 dX2_changeNumber_19 ?_
    obtain ⟨u3, hu3, hf⟩ := vv_bd hf
    refine vi_callSN (As := [.int x2, .int (([1, 1, 0, 0] : List Int32).getD x1.toNatClampNeg 0), .int (([3, 20, 99, 9] : List Int32).getD x1.toNatClampNeg 0)]) (st := []) (t_X4_isWithin n x2 (([1, 1, 0, 0] : List Int32).getD x1.toNatClampNeg 0) (([3, 20, 99, 9] : List Int32).getD x1.toNatClampNeg 0) u1.2 u3  hu3) rfl yo_X4_isWithin wm_X2_55 wi_X4_isWithin wI_X4 wc_X4_isWithin ⟨Nat.le_of_ble_eq_true rfl, Nat.le_of_ble_eq_true rfl⟩ (vv_rm0 rfl rfl) (Nat.le_of_ble_eq_true rfl) rfl rfl dX2_changeNumber_20 ?_
    refine vi_if_ne 30 dX2_changeNumber_23 (by decide) (fun c4 => ?_) (fun c4 => ?_)
    · rw [if_neg c4] at hf
      refine vi_aload_n 0 dX2_changeNumber_30 rfl rfl ?_
      refine vi_getr (t := p0 + 3) 2 rfl (vv_oven_o h0) rfl wu_X2 (by decide) wf_X2_18 dX2_changeNumber_31 ?_
      refine vi_iload_n 1 dX2_changeNumber_34 rfl rfl ?_
      obtain ⟨g8, hf⟩ := vv_gd hf
      refine vi_iald (vv_oven_numbers h0) g8 dX2_changeNumber_35 ?_
      obtain ⟨y5, ey5, hf⟩ := vv_lt hf
      refine vi_istore_n (L' := [(3, .int y5), (0, .ref p0), (1, .int x1), (2, .int x2)]) dX2_changeNumber_36 rfl (by decide) (by rw [ey5]; rfl) ?_
      refine vi_aload_n 1 dX2_changeNumber_37 rfl rfl ?_
      refine vi_getr (t := p0 + 3) 2 rfl (vv_oven_o h0) rfl wu_X2 (by decide) wf_X2_18 dX2_changeNumber_38 ?_
      refine vi_iload_n 2 dX2_changeNumber_41 rfl rfl ?_
      refine vi_iload_n 3 dX2_changeNumber_42 rfl rfl ?_
      obtain ⟨g6, hf⟩ := vv_gd hf
      obtain ⟨M7, eM7, hf⟩ := vv_lt hf
      refine vi_iast (vv_oven_numbers h0) g6 eM7.symm dX2_changeNumber_43 ?_
      refine vi_iload_n 0 dX2_changeNumber_44 rfl rfl ?_
      obtain rfl := Option.some.inj hf
      exact vi_ret (v := some (.int y5)) rfl ⟨dX2_changeNumber_45, .int, rfl, rfl⟩ ⟨rfl, rfl, rfl⟩
    · rw [if_pos c4] at hf
      refine vi_sipush (v := (-1001 : Int32)) dX2_changeNumber_26 (by decide) ?_
      obtain rfl := Option.some.inj hf
      exact vi_ret (v := some (.int (-1001 : Int32))) rfl ⟨dX2_changeNumber_29, .int, rfl, rfl⟩ ⟨rfl, rfl, rfl⟩
set_option maxRecDepth 20000 in
theorem t_X2_isOnBelt {S : List vv_Sh} (n : Nat) (p0 : Nat) (x1 : Int32) (M : vv_M) (u : Int32 × vv_M) (h0 : vv_oven S p0) (hf : f_X2_isOnBelt n p0 x1 M = some u) : vv_C yX2_isOnBelt (vv_w yX2_isOnBelt cX2_isOnBelt 2 (some .boolean)) (vv_R 0 0 0) [.ref p0, .int x1] S M (some (.int u.1)) S u.2 := by
  refine vv_ofV (by decide +kernel) (Nat.le_of_ble_eq_true rfl) (L := [(0, .ref p0), (1, .int x1)]) rfl rfl rfl ?_
  show vv_V [] yX2_isOnBelt.cls yX2_isOnBelt.name cX2_isOnBelt 2 (some .boolean) (vv_R 0 0 0) S.length (vv_sz S) (vv_fi S u) 0 [(0, .ref p0), (1, .int x1)] [] S M
  unfold f_X2_isOnBelt at hf
  refine vi_aload_n 0 dX2_isOnBelt_0 rfl rfl ?_
  refine vi_getr (t := p0 + 4) 3 rfl (vv_oven_o h0) rfl wu_X2 (by decide) wf_X2_21 dX2_isOnBelt_1 ?_
  refine vi_iload_n 1 dX2_isOnBelt_4 rfl rfl ?_
  refine vi_bipush (v := (22 : Int32)) dX2_isOnBelt_5 (by decide) ?_
  refine vi_imul dX2_isOnBelt_7 ?_
  refine vi_iconst (v := (2 : Int32)) dX2_isOnBelt_8 (by decide) ?_
  refine vi_iadd dX2_isOnBelt_9 ?_
  obtain ⟨g2, hf⟩ := vv_gd hf
  refine vi_iald (vv_oven_boards h0) g2 dX2_isOnBelt_10 ?_
  refine vi_if_ne 18 dX2_isOnBelt_11 (by decide) (fun c1 => ?_) (fun c1 => ?_)
  · rw [if_neg c1] at hf
    refine vi_iconst (v := (0 : Int32)) dX2_isOnBelt_18 (by decide) ?_
    obtain rfl := Option.some.inj hf
    exact vi_ret (v := some (.int (0 : Int32))) rfl ⟨dX2_isOnBelt_19, .boolean, rfl, rfl⟩ ⟨rfl, rfl, rfl⟩
  · rw [if_pos c1] at hf
    refine vi_iconst (v := (1 : Int32)) dX2_isOnBelt_14 (by decide) ?_
    refine vi_goto 19 dX2_isOnBelt_15 (by decide) ?_
    obtain rfl := Option.some.inj hf
    exact vi_ret (v := some (.int (1 : Int32))) rfl ⟨dX2_isOnBelt_19, .boolean, rfl, rfl⟩ ⟨rfl, rfl, rfl⟩
set_option maxRecDepth 20000 in
theorem t_X2_isStartFree_40 {S : List vv_Sh} (n : Nat) (k2 : Nat → Int32 → vv_M → Option (Int32 × vv_M)) (u : Int32 × vv_M) (hk2 : ∀ (p0 : Nat) (x1 : Int32) (M : vv_M) (h0 : vv_oven S p0) (hf : k2 p0 x1 M = some u), vv_V [] yX2_isStartFree.cls yX2_isStartFree.name cX2_isStartFree 2 (some .boolean) (vv_R 1 0 0) S.length (vv_sz S) (vv_fi S u) 2 [(0, .ref p0), (1, .int x1)] [] S M) (p0 : Nat) (x1 : Int32) (M : vv_M) (h0 : vv_oven S p0) (hf : f_X2_isStartFree_40 n k2 p0 x1 M = some u) : vv_V [] yX2_isStartFree.cls yX2_isStartFree.name cX2_isStartFree 2 (some .boolean) (vv_R 1 0 0) S.length (vv_sz S) (vv_fi S u) 40 [(0, .ref p0), (1, .int x1)] [] S M := by
  unfold f_X2_isStartFree_40 at hf
  obtain ⟨y4, ey4, hf⟩ := vv_lt hf
  refine vi_iinc (v := y4) (L' := [(1, .int y4), (0, .ref p0)]) 1 dX2_isStartFree_40 rfl (by rw [ey4]; rfl) (by decide) rfl ?_
  refine vi_goto 2 dX2_isStartFree_43 (by decide) ?_
  refine vi_sub (L' := [(0, .ref p0), (1, .int y4)]) [1, 0] rfl ?_
  exact hk2 p0 y4 M h0 hf
set_option maxRecDepth 20000 in
theorem t_X2_isStartFree_2 {S : List vv_Sh} (n : Nat)  (u : Int32 × vv_M)  : ∀ (k : Nat) (p0 : Nat) (x1 : Int32) (M : vv_M) (h0 : vv_oven S p0) (hf : f_X2_isStartFree_2 n  k p0 x1 M = some u), vv_V [] yX2_isStartFree.cls yX2_isStartFree.name cX2_isStartFree 2 (some .boolean) (vv_R 1 0 0) S.length (vv_sz S) (vv_fi S u) 2 [(0, .ref p0), (1, .int x1)] [] S M := by
  intro k
  induction k with
  | zero =>
    intro p0 x1 M h0 hf
    exact absurd (show (none : Option (Int32 × vv_M)) = some u from hf) (by simp)
  | succ k ih =>
    intro p0 x1 M h0 hf
    rw [f_X2_isStartFree_2.eq_2] at hf
    refine vi_iload_n 1 dX2_isStartFree_2 rfl rfl ?_
    refine vi_aload_n 0 dX2_isStartFree_3 rfl rfl ?_
    refine vi_geti 6 rfl (vv_oven_o h0) rfl wu_X2 (by decide) wf_X2_42 dX2_isStartFree_4 ?_
    refine vi_icmp_ge 46 dX2_isStartFree_7 (by decide) (fun c1 => ?_) (fun c1 => ?_)
    · rw [if_pos c1] at hf
      refine vi_iconst (v := (1 : Int32)) dX2_isStartFree_46 (by decide) ?_
      obtain rfl := Option.some.inj hf
      exact vi_ret (v := some (.int (1 : Int32))) rfl ⟨dX2_isStartFree_47, .boolean, rfl, rfl⟩ ⟨rfl, rfl, rfl⟩
    · rw [if_neg c1] at hf
      refine vi_aload_n 0 dX2_isStartFree_10 rfl rfl ?_
      refine vi_iload_n 1 dX2_isStartFree_11 rfl rfl ?_
      obtain ⟨u2, hu2, hf⟩ := vv_bd hf
      refine vi_callV (As := [.int x1]) (st := []) (t_X2_isOnBelt n p0 x1 M u2 h0 hu2) rfl yo_X2_isOnBelt wm_X2_91 wi_X2_isOnBelt ws_X2_isOnBelt wI_X2 wc_X2_isOnBelt (vv_oven_o h0) rfl ⟨Nat.le_of_ble_eq_true rfl, Nat.le_of_ble_eq_true rfl⟩ (vv_rm0 rfl rfl) (Nat.le_of_ble_eq_true rfl) rfl rfl dX2_isStartFree_12 ?_
      refine vi_if_eq 40 dX2_isStartFree_15 (by decide) (fun c3 => ?_) (fun c3 => ?_)
      · rw [if_pos c3] at hf
        exact t_X2_isStartFree_40 n (f_X2_isStartFree_2 n k) u ih p0 x1 u2.2 h0 hf
      · rw [if_neg c3] at hf
        refine vi_aload_n 0 dX2_isStartFree_18 rfl rfl ?_
        refine vi_getr (t := p0 + 4) 3 rfl (vv_oven_o h0) rfl wu_X2 (by decide) wf_X2_21 dX2_isStartFree_19 ?_
        refine vi_iload_n 1 dX2_isStartFree_22 rfl rfl ?_
        refine vi_bipush (v := (22 : Int32)) dX2_isStartFree_23 (by decide) ?_
        refine vi_imul dX2_isStartFree_25 ?_
        refine vi_iconst (v := (3 : Int32)) dX2_isStartFree_26 (by decide) ?_
        refine vi_iadd dX2_isStartFree_27 ?_
        obtain ⟨g7, hf⟩ := vv_gd hf
        refine vi_iald (vv_oven_boards h0) g7 dX2_isStartFree_28 ?_
        refine vi_aload_n 0 dX2_isStartFree_29 rfl rfl ?_
        refine vi_getr (t := p0 + 3) 2 rfl (vv_oven_o h0) rfl wu_X2 (by decide) wf_X2_18 dX2_isStartFree_30 ?_
        refine vi_iconst (v := (1 : Int32)) dX2_isStartFree_33 (by decide) ?_
        obtain ⟨g6, hf⟩ := vv_gd hf
        refine vi_iald (vv_oven_numbers h0) g6 dX2_isStartFree_34 ?_
        refine vi_icmp_ge 40 dX2_isStartFree_35 (by decide) (fun c5 => ?_) (fun c5 => ?_)
        · rw [if_pos c5] at hf
          exact t_X2_isStartFree_40 n (f_X2_isStartFree_2 n k) u ih p0 x1 u2.2 h0 hf
        · rw [if_neg c5] at hf
          refine vi_iconst (v := (0 : Int32)) dX2_isStartFree_38 (by decide) ?_
          obtain rfl := Option.some.inj hf
          exact vi_ret (v := some (.int (0 : Int32))) rfl ⟨dX2_isStartFree_39, .boolean, rfl, rfl⟩ ⟨rfl, rfl, rfl⟩
set_option maxRecDepth 20000 in
theorem t_X2_isStartFree {S : List vv_Sh} (n : Nat) (p0 : Nat) (M : vv_M) (u : Int32 × vv_M) (h0 : vv_oven S p0) (hf : f_X2_isStartFree n p0 M = some u) : vv_C yX2_isStartFree (vv_w yX2_isStartFree cX2_isStartFree 2 (some .boolean)) (vv_R 1 0 0) [.ref p0] S M (some (.int u.1)) S u.2 := by
  refine vv_ofV (by decide +kernel) (Nat.le_of_ble_eq_true rfl) (L := [(0, .ref p0)]) rfl rfl rfl ?_
  show vv_V [] yX2_isStartFree.cls yX2_isStartFree.name cX2_isStartFree 2 (some .boolean) (vv_R 1 0 0) S.length (vv_sz S) (vv_fi S u) 0 [(0, .ref p0)] [] S M
  unfold f_X2_isStartFree at hf
  refine vi_iconst (v := (0 : Int32)) dX2_isStartFree_0 (by decide) ?_
  refine vi_istore_n (L' := [(1, .int (0 : Int32)), (0, .ref p0)]) dX2_isStartFree_1 rfl (by decide) rfl ?_
  refine vi_sub (L' := [(0, .ref p0), (1, .int (0 : Int32))]) [1, 0] rfl ?_
  exact t_X2_isStartFree_2 n  u  n p0 (0 : Int32) M h0 hf
set_option maxRecDepth 20000 in
theorem t_X2_placeBoard_98 {S : List vv_Sh} (n : Nat)  (u : Int32 × vv_M)  (p0 : Nat) (M : vv_M) (h0 : vv_oven S p0) (hf : f_X2_placeBoard_98 n  p0 M = some u) : vv_V [] yX2_placeBoard.cls yX2_placeBoard.name cX2_placeBoard 5 (some .int) (vv_R 0 0 0) S.length (vv_sz S) (vv_fi S u) 98 [(0, .ref p0)] [] S M := by
  unfold f_X2_placeBoard_98 at hf
  refine vi_aload_n 0 dX2_placeBoard_98 rfl rfl ?_
  refine vi_dup dX2_placeBoard_99 rfl ?_
  refine vi_geti 6 rfl (vv_oven_o h0) rfl wu_X2 (by decide) wf_X2_42 dX2_placeBoard_100 ?_
  refine vi_iconst (v := (1 : Int32)) dX2_placeBoard_103 (by decide) ?_
  refine vi_iadd dX2_placeBoard_104 ?_
  obtain ⟨M13, eM13, hf⟩ := vv_lt hf
  refine vi_puti 6 rfl eM13.symm (vv_oven_o h0) rfl wu_X2 tyX2 tyX2_ok nmX2 (by decide) rfl (by decide +kernel) wf_X2_42 dX2_placeBoard_105 ?_
  refine vi_aload_n 0 dX2_placeBoard_108 rfl rfl ?_
  refine vi_geti 6 rfl (vv_oven_o h0) rfl wu_X2 (by decide) wf_X2_42 dX2_placeBoard_109 ?_
  refine vi_iconst (v := (1 : Int32)) dX2_placeBoard_112 (by decide) ?_
  refine vi_isub dX2_placeBoard_113 ?_
  obtain rfl := Option.some.inj hf
  exact vi_ret (v := some (.int ((M13 p0 6) - (1 : Int32)))) rfl ⟨dX2_placeBoard_114, .int, rfl, rfl⟩ ⟨rfl, rfl, rfl⟩
set_option maxRecDepth 20000 in
theorem t_X2_placeBoard_40 {S : List vv_Sh} (n : Nat) (k11 : Nat → Int32 → Int32 → Int32 → Int32 → vv_M → Option (Int32 × vv_M)) (u : Int32 × vv_M) (hk11 : ∀ (p0 : Nat) (x1 : Int32) (x2 : Int32) (x3 : Int32) (x4 : Int32) (M : vv_M) (h0 : vv_oven S p0) (hf : k11 p0 x1 x2 x3 x4 M = some u), vv_V [] yX2_placeBoard.cls yX2_placeBoard.name cX2_placeBoard 5 (some .int) (vv_R 0 0 0) S.length (vv_sz S) (vv_fi S u) 11 [(0, .ref p0), (1, .int x1), (2, .int x2), (3, .int x3), (4, .int x4)] [] S M) (p0 : Nat) (x1 : Int32) (x2 : Int32) (x3 : Int32) (x4 : Int32) (s0 : Nat) (s1 : Int32) (s2 : Int32) (M : vv_M) (h0 : vv_oven S p0) (g0 : S[s0]? = some (.inl (0, 682))) (hf : f_X2_placeBoard_40 n k11 p0 x1 x2 x3 x4 s0 s1 s2 M = some u) : vv_V [] yX2_placeBoard.cls yX2_placeBoard.name cX2_placeBoard 5 (some .int) (vv_R 0 0 0) S.length (vv_sz S) (vv_fi S u) 40 [(0, .ref p0), (1, .int x1), (2, .int x2), (3, .int x3), (4, .int x4)] [.int s2, .int s1, .ref s0] S M := by
  unfold f_X2_placeBoard_40 at hf
  obtain ⟨g15, hf⟩ := vv_gd hf
  obtain ⟨M16, eM16, hf⟩ := vv_lt hf
  refine vi_iast g0 g15 eM16.symm dX2_placeBoard_40 ?_
  obtain ⟨y17, ey17, hf⟩ := vv_lt hf
  refine vi_iinc (v := y17) (L' := [(4, .int y17), (0, .ref p0), (1, .int x1), (2, .int x2), (3, .int x3)]) 4 dX2_placeBoard_41 rfl (by rw [ey17]; rfl) (by decide) rfl ?_
  refine vi_goto 11 dX2_placeBoard_44 (by decide) ?_
  refine vi_sub (L' := [(0, .ref p0), (1, .int x1), (2, .int x2), (3, .int x3), (4, .int y17)]) [1, 2, 3, 4, 0] rfl ?_
  exact hk11 p0 x1 x2 x3 y17 M16 h0 hf
set_option maxRecDepth 20000 in
theorem t_X2_placeBoard_11 {S : List vv_Sh} (n : Nat)  (u : Int32 × vv_M)  : ∀ (k : Nat) (p0 : Nat) (x1 : Int32) (x2 : Int32) (x3 : Int32) (x4 : Int32) (M : vv_M) (h0 : vv_oven S p0) (hf : f_X2_placeBoard_11 n  k p0 x1 x2 x3 x4 M = some u), vv_V [] yX2_placeBoard.cls yX2_placeBoard.name cX2_placeBoard 5 (some .int) (vv_R 0 0 0) S.length (vv_sz S) (vv_fi S u) 11 [(0, .ref p0), (1, .int x1), (2, .int x2), (3, .int x3), (4, .int x4)] [] S M := by
  intro k
  induction k with
  | zero =>
    intro p0 x1 x2 x3 x4 M h0 hf
    exact absurd (show (none : Option (Int32 × vv_M)) = some u from hf) (by simp)
  | succ k ih =>
    intro p0 x1 x2 x3 x4 M h0 hf
    rw [f_X2_placeBoard_11.eq_2] at hf
    refine vi_iload 4 dX2_placeBoard_11 rfl ?_
    refine vi_bipush (v := (22 : Int32)) dX2_placeBoard_13 (by decide) ?_
    refine vi_icmp_ge 47 dX2_placeBoard_15 (by decide) (fun c2 => ?_) (fun c2 => ?_)
    · rw [if_pos c2] at hf
      refine vi_aload_n 0 dX2_placeBoard_47 rfl rfl ?_
      refine vi_getr (t := p0 + 4) 3 rfl (vv_oven_o h0) rfl wu_X2 (by decide) wf_X2_21 dX2_placeBoard_48 ?_
      refine vi_iload_n 3 dX2_placeBoard_51 rfl rfl ?_
      refine vi_iconst (v := (0 : Int32)) dX2_placeBoard_52 (by decide) ?_
      refine vi_iadd dX2_placeBoard_53 ?_
      refine vi_iload_n 1 dX2_placeBoard_54 rfl rfl ?_
      obtain ⟨g3, hf⟩ := vv_gd hf
      obtain ⟨M4, eM4, hf⟩ := vv_lt hf
      refine vi_iast (vv_oven_boards h0) g3 eM4.symm dX2_placeBoard_55 ?_
      refine vi_aload_n 0 dX2_placeBoard_56 rfl rfl ?_
      refine vi_getr (t := p0 + 4) 3 rfl (vv_oven_o h0) rfl wu_X2 (by decide) wf_X2_21 dX2_placeBoard_57 ?_
      refine vi_iload_n 3 dX2_placeBoard_60 rfl rfl ?_
      refine vi_iconst (v := (1 : Int32)) dX2_placeBoard_61 (by decide) ?_
      refine vi_iadd dX2_placeBoard_62 ?_
      refine vi_iload_n 2 dX2_placeBoard_63 rfl rfl ?_
      obtain ⟨g5, hf⟩ := vv_gd hf
      obtain ⟨M6, eM6, hf⟩ := vv_lt hf
      refine vi_iast (vv_oven_boards h0) g5 eM6.symm dX2_placeBoard_64 ?_
      refine vi_aload_n 0 dX2_placeBoard_65 rfl rfl ?_
      refine vi_getr (t := p0 + 4) 3 rfl (vv_oven_o h0) rfl wu_X2 (by decide) wf_X2_21 dX2_placeBoard_66 ?_
      refine vi_iload_n 3 dX2_placeBoard_69 rfl rfl ?_
      refine vi_iconst (v := (4 : Int32)) dX2_placeBoard_70 (by decide) ?_
      refine vi_iadd dX2_placeBoard_71 ?_
      refine vi_bipush (v := (20 : Int32)) dX2_placeBoard_72 (by decide) ?_
      obtain ⟨g7, hf⟩ := vv_gd hf
      obtain ⟨M8, eM8, hf⟩ := vv_lt hf
      refine vi_iast (vv_oven_boards h0) g7 eM8.symm dX2_placeBoard_74 ?_
      refine vi_aload_n 0 dX2_placeBoard_75 rfl rfl ?_
      refine vi_getr (t := p0 + 4) 3 rfl (vv_oven_o h0) rfl wu_X2 (by decide) wf_X2_21 dX2_placeBoard_76 ?_
      refine vi_iload_n 3 dX2_placeBoard_79 rfl rfl ?_
      refine vi_bipush (v := (6 : Int32)) dX2_placeBoard_80 (by decide) ?_
      refine vi_iadd dX2_placeBoard_82 ?_
      refine vi_bipush (v := (20 : Int32)) dX2_placeBoard_83 (by decide) ?_
      obtain ⟨g9, hf⟩ := vv_gd hf
      obtain ⟨M10, eM10, hf⟩ := vv_lt hf
      refine vi_iast (vv_oven_boards h0) g9 eM10.symm dX2_placeBoard_85 ?_
      refine vi_aload_n 0 dX2_placeBoard_86 rfl rfl ?_
      refine vi_getr (t := p0 + 4) 3 rfl (vv_oven_o h0) rfl wu_X2 (by decide) wf_X2_21 dX2_placeBoard_87 ?_
      refine vi_iload_n 3 dX2_placeBoard_90 rfl rfl ?_
      refine vi_bipush (v := (10 : Int32)) dX2_placeBoard_91 (by decide) ?_
      refine vi_iadd dX2_placeBoard_93 ?_
      refine vi_sipush (v := (-1009 : Int32)) dX2_placeBoard_94 (by decide) ?_
      obtain ⟨g11, hf⟩ := vv_gd hf
      obtain ⟨M12, eM12, hf⟩ := vv_lt hf
      refine vi_iast (vv_oven_boards h0) g11 eM12.symm dX2_placeBoard_97 ?_
      refine vi_sub (L' := [(0, .ref p0)]) [0] rfl ?_
      exact t_X2_placeBoard_98 n  u  p0 M12 h0 hf
    · rw [if_neg c2] at hf
      refine vi_aload_n 0 dX2_placeBoard_18 rfl rfl ?_
      refine vi_getr (t := p0 + 4) 3 rfl (vv_oven_o h0) rfl wu_X2 (by decide) wf_X2_21 dX2_placeBoard_19 ?_
      refine vi_iload_n 3 dX2_placeBoard_22 rfl rfl ?_
      refine vi_iload 4 dX2_placeBoard_23 rfl ?_
      refine vi_iadd dX2_placeBoard_25 ?_
      refine vi_iload 4 dX2_placeBoard_26 rfl ?_
      refine vi_bipush (v := (12 : Int32)) dX2_placeBoard_28 (by decide) ?_
      refine vi_icmp_ge 37 dX2_placeBoard_30 (by decide) (fun c14 => ?_) (fun c14 => ?_)
      · rw [if_pos c14] at hf
        refine vi_sipush (v := (-1009 : Int32)) dX2_placeBoard_37 (by decide) ?_
        exact t_X2_placeBoard_40 n (f_X2_placeBoard_11 n k) u ih p0 x1 x2 x3 x4 (p0 + 4) (x3 + x4) (-1009 : Int32) M h0 (vv_oven_boards h0) hf
      · rw [if_neg c14] at hf
        refine vi_iconst (v := (0 : Int32)) dX2_placeBoard_33 (by decide) ?_
        refine vi_goto 40 dX2_placeBoard_34 (by decide) ?_
        exact t_X2_placeBoard_40 n (f_X2_placeBoard_11 n k) u ih p0 x1 x2 x3 x4 (p0 + 4) (x3 + x4) (0 : Int32) M h0 (vv_oven_boards h0) hf
set_option maxRecDepth 20000 in
theorem t_X2_placeBoard {S : List vv_Sh} (n : Nat) (p0 : Nat) (x1 : Int32) (x2 : Int32) (M : vv_M) (u : Int32 × vv_M) (h0 : vv_oven S p0) (hf : f_X2_placeBoard n p0 x1 x2 M = some u) : vv_C yX2_placeBoard (vv_w yX2_placeBoard cX2_placeBoard 5 (some .int)) (vv_R 0 0 0) [.ref p0, .int x1, .int x2] S M (some (.int u.1)) S u.2 := by
  refine vv_ofV (by decide +kernel) (Nat.le_of_ble_eq_true rfl) (L := [(0, .ref p0), (1, .int x1), (2, .int x2)]) rfl rfl rfl ?_
  show vv_V [] yX2_placeBoard.cls yX2_placeBoard.name cX2_placeBoard 5 (some .int) (vv_R 0 0 0) S.length (vv_sz S) (vv_fi S u) 0 [(0, .ref p0), (1, .int x1), (2, .int x2)] [] S M
  unfold f_X2_placeBoard at hf
  refine vi_aload_n 0 dX2_placeBoard_0 rfl rfl ?_
  refine vi_geti 6 rfl (vv_oven_o h0) rfl wu_X2 (by decide) wf_X2_42 dX2_placeBoard_1 ?_
  refine vi_bipush (v := (22 : Int32)) dX2_placeBoard_4 (by decide) ?_
  refine vi_imul dX2_placeBoard_6 ?_
  obtain ⟨y1, ey1, hf⟩ := vv_lt hf
  refine vi_istore_n (L' := [(3, .int y1), (0, .ref p0), (1, .int x1), (2, .int x2)]) dX2_placeBoard_7 rfl (by decide) (by rw [ey1]; rfl) ?_
  refine vi_iconst (v := (0 : Int32)) dX2_placeBoard_8 (by decide) ?_
  refine vi_istore (L' := [(4, .int (0 : Int32)), (3, .int y1), (0, .ref p0), (1, .int x1), (2, .int x2)]) dX2_placeBoard_9 (by decide) rfl ?_
  refine vi_sub (L' := [(0, .ref p0), (1, .int x1), (2, .int x2), (3, .int y1), (4, .int (0 : Int32))]) [2, 3, 4, 1, 0] rfl ?_
  exact t_X2_placeBoard_11 n  u  n p0 x1 x2 y1 (0 : Int32) M h0 hf
set_option maxRecDepth 20000 in
theorem t_X2_addBoard {S : List vv_Sh} (n : Nat) (p0 : Nat) (x1 : Int32) (x2 : Int32) (M : vv_M) (u : Int32 × vv_M) (h0 : vv_oven S p0) (hf : f_X2_addBoard n p0 x1 x2 M = some u) : vv_C yX2_addBoard (vv_w yX2_addBoard cX2_addBoard 3 (some .int)) (vv_R 2 0 0) [.ref p0, .int x1, .int x2] S M (some (.int u.1)) S u.2 := by
  refine vv_ofV (by decide +kernel) (Nat.le_of_ble_eq_true rfl) (L := [(0, .ref p0), (1, .int x1), (2, .int x2)]) rfl rfl rfl ?_
  show vv_V [] yX2_addBoard.cls yX2_addBoard.name cX2_addBoard 3 (some .int) (vv_R 2 0 0) S.length (vv_sz S) (vv_fi S u) 0 [(0, .ref p0), (1, .int x1), (2, .int x2)] [] S M
  unfold f_X2_addBoard at hf
  refine vi_iload_n 1 dX2_addBoard_0 rfl rfl ?_
  refine vi_iconst (v := (0 : Int32)) dX2_addBoard_1 (by decide) ?_
  refine vi_iconst (v := (3 : Int32)) dX2_addBoard_2 (by decide) ?_
  obtain ⟨u1, hu1, hf⟩ := vv_bd hf
  refine vi_callSN (As := [.int x1, .int (0 : Int32), .int (3 : Int32)]) (st := []) (t_X4_isWithin n x1 (0 : Int32) (3 : Int32) M u1  hu1) rfl yo_X4_isWithin wm_X2_55 wi_X4_isWithin wI_X4 wc_X4_isWithin ⟨Nat.le_of_ble_eq_true rfl, Nat.le_of_ble_eq_true rfl⟩ (vv_rm0 rfl rfl) (Nat.le_of_ble_eq_true rfl) rfl rfl dX2_addBoard_3 ?_
  refine vi_if_eq 19 dX2_addBoard_6 (by decide) (fun c2 => ?_) (fun c2 => ?_)
  · rw [if_pos c2] at hf
    refine vi_sipush (v := (-1001 : Int32)) dX2_addBoard_19 (by decide) ?_
    obtain rfl := Option.some.inj hf
    exact vi_ret (v := some (.int (-1001 : Int32))) rfl ⟨dX2_addBoard_22, .int, rfl, rfl⟩ ⟨rfl, rfl, rfl⟩
  · rw [if_neg c2] at hf
    refine vi_iload_n 2 dX2_addBoard_9 rfl rfl ?_
    refine vi_iconst (v := (1 : Int32)) dX2_addBoard_10 (by decide) ?_
    refine vi_bipush (v := (9 : Int32)) dX2_addBoard_11 (by decide) ?_
    obtain ⟨u3, hu3, hf⟩ := vv_bd hf
    refine vi_callSN (As := [.int x2, .int (1 : Int32), .int (9 : Int32)]) (st := []) (t_X4_isWithin n x2 (1 : Int32) (9 : Int32) u1.2 u3  hu3) rfl yo_X4_isWithin wm_X2_55 wi_X4_isWithin wI_X4 wc_X4_isWithin ⟨Nat.le_of_ble_eq_true rfl, Nat.le_of_ble_eq_true rfl⟩ (vv_rm0 rfl rfl) (Nat.le_of_ble_eq_true rfl) rfl rfl dX2_addBoard_13 ?_
    refine vi_if_ne 23 dX2_addBoard_16 (by decide) (fun c4 => ?_) (fun c4 => ?_)
    · rw [if_neg c4] at hf
      refine vi_aload_n 0 dX2_addBoard_23 rfl rfl ?_
      obtain ⟨u5, hu5, hf⟩ := vv_bd hf
      refine vi_callV (As := []) (st := []) (t_X2_isStartFree n p0 u3.2 u5 h0 hu5) rfl yo_X2_isStartFree wm_X2_79 wi_X2_isStartFree ws_X2_isStartFree wI_X2 wc_X2_isStartFree (vv_oven_o h0) rfl ⟨Nat.le_of_ble_eq_true rfl, Nat.le_of_ble_eq_true rfl⟩ (vv_rm0 rfl rfl) (Nat.le_of_ble_eq_true rfl) rfl rfl dX2_addBoard_24 ?_
      refine vi_if_ne 34 dX2_addBoard_27 (by decide) (fun c6 => ?_) (fun c6 => ?_)
      · rw [if_neg c6] at hf
        refine vi_aload_n 0 dX2_addBoard_34 rfl rfl ?_
        refine vi_geti 6 rfl (vv_oven_o h0) rfl wu_X2 (by decide) wf_X2_42 dX2_addBoard_35 ?_
        refine vi_bipush (v := (30 : Int32)) dX2_addBoard_38 (by decide) ?_
        refine vi_icmp_lt 47 dX2_addBoard_40 (by decide) (fun c7 => ?_) (fun c7 => ?_)
        · rw [if_pos c7] at hf
          refine vi_aload_n 0 dX2_addBoard_47 rfl rfl ?_
          refine vi_iload_n 1 dX2_addBoard_48 rfl rfl ?_
          refine vi_iload_n 2 dX2_addBoard_49 rfl rfl ?_
          obtain ⟨u8, hu8, hf⟩ := vv_bd hf
          refine vi_callV (As := [.int x1, .int x2]) (st := []) (t_X2_placeBoard n p0 x1 x2 u5.2 u8 h0 hu8) rfl yo_X2_placeBoard wm_X2_83 wi_X2_placeBoard ws_X2_placeBoard wI_X2 wc_X2_placeBoard (vv_oven_o h0) rfl ⟨Nat.le_of_ble_eq_true rfl, Nat.le_of_ble_eq_true rfl⟩ (vv_rm0 rfl rfl) (Nat.le_of_ble_eq_true rfl) rfl rfl dX2_addBoard_50 ?_
          obtain rfl := Option.some.inj hf
          exact vi_ret (v := some (.int u8.1)) rfl ⟨dX2_addBoard_53, .int, rfl, rfl⟩ ⟨rfl, rfl, rfl⟩
        · rw [if_neg c7] at hf
          refine vi_sipush (v := (-1003 : Int32)) dX2_addBoard_43 (by decide) ?_
          obtain rfl := Option.some.inj hf
          exact vi_ret (v := some (.int (-1003 : Int32))) rfl ⟨dX2_addBoard_46, .int, rfl, rfl⟩ ⟨rfl, rfl, rfl⟩
      · rw [if_pos c6] at hf
        refine vi_sipush (v := (-1002 : Int32)) dX2_addBoard_30 (by decide) ?_
        obtain rfl := Option.some.inj hf
        exact vi_ret (v := some (.int (-1002 : Int32))) rfl ⟨dX2_addBoard_33, .int, rfl, rfl⟩ ⟨rfl, rfl, rfl⟩
    · rw [if_pos c4] at hf
      refine vi_sipush (v := (-1001 : Int32)) dX2_addBoard_19 (by decide) ?_
      obtain rfl := Option.some.inj hf
      exact vi_ret (v := some (.int (-1001 : Int32))) rfl ⟨dX2_addBoard_22, .int, rfl, rfl⟩ ⟨rfl, rfl, rfl⟩
set_option maxRecDepth 20000 in
theorem t_X2_hasBoard {S : List vv_Sh} (n : Nat) (p0 : Nat) (x1 : Int32) (M : vv_M) (u : Int32 × vv_M) (h0 : vv_oven S p0) (hf : f_X2_hasBoard n p0 x1 M = some u) : vv_C yX2_hasBoard (vv_w yX2_hasBoard cX2_hasBoard 2 (some .boolean)) (vv_R 1 0 0) [.ref p0, .int x1] S M (some (.int u.1)) S u.2 := by
  refine vv_ofV (by decide +kernel) (Nat.le_of_ble_eq_true rfl) (L := [(0, .ref p0), (1, .int x1)]) rfl rfl rfl ?_
  show vv_V [] yX2_hasBoard.cls yX2_hasBoard.name cX2_hasBoard 2 (some .boolean) (vv_R 1 0 0) S.length (vv_sz S) (vv_fi S u) 0 [(0, .ref p0), (1, .int x1)] [] S M
  unfold f_X2_hasBoard at hf
  refine vi_iload_n 1 dX2_hasBoard_0 rfl rfl ?_
  refine vi_iconst (v := (0 : Int32)) dX2_hasBoard_1 (by decide) ?_
  refine vi_aload_n 0 dX2_hasBoard_2 rfl rfl ?_
  refine vi_geti 6 rfl (vv_oven_o h0) rfl wu_X2 (by decide) wf_X2_42 dX2_hasBoard_3 ?_
  refine vi_iconst (v := (1 : Int32)) dX2_hasBoard_6 (by decide) ?_
  refine vi_isub dX2_hasBoard_7 ?_
  obtain ⟨u1, hu1, hf⟩ := vv_bd hf
  refine vi_callSN (As := [.int x1, .int (0 : Int32), .int ((M p0 6) - (1 : Int32))]) (st := []) (t_X4_isWithin n x1 (0 : Int32) ((M p0 6) - (1 : Int32)) M u1  hu1) rfl yo_X4_isWithin wm_X2_55 wi_X4_isWithin wI_X4 wc_X4_isWithin ⟨Nat.le_of_ble_eq_true rfl, Nat.le_of_ble_eq_true rfl⟩ (vv_rm0 rfl rfl) (Nat.le_of_ble_eq_true rfl) rfl rfl dX2_hasBoard_8 ?_
  obtain ⟨g2, hf⟩ := vv_gt hf
  obtain rfl := Option.some.inj hf
  exact vi_ret (v := some (.int u1.1)) rfl ⟨dX2_hasBoard_11, .boolean, rfl, vv_nb g2⟩ ⟨rfl, rfl, rfl⟩
set_option maxRecDepth 20000 in
theorem t_X2_removeBoard_47 {S : List vv_Sh} (n : Nat)  (u : Int32 × vv_M)  (p0 : Nat) (x2 : Int32) (x3 : Int32) (M : vv_M) (h0 : vv_oven S p0) (hf : f_X2_removeBoard_47 n  p0 x2 x3 M = some u) : vv_V [] yX2_removeBoard.cls yX2_removeBoard.name cX2_removeBoard 4 (some .int) (vv_R 2 0 0) S.length (vv_sz S) (vv_fi S u) 47 [(0, .ref p0), (2, .int x2), (3, .int x3)] [] S M := by
  unfold f_X2_removeBoard_47 at hf
  refine vi_aload_n 0 dX2_removeBoard_47 rfl rfl ?_
  refine vi_getr (t := p0 + 4) 3 rfl (vv_oven_o h0) rfl wu_X2 (by decide) wf_X2_21 dX2_removeBoard_48 ?_
  refine vi_iload_n 1 dX2_removeBoard_51 rfl rfl ?_
  refine vi_iconst (v := (3 : Int32)) dX2_removeBoard_52 (by decide) ?_
  refine vi_iadd dX2_removeBoard_53 ?_
  refine vi_sipush (v := (-1009 : Int32)) dX2_removeBoard_54 (by decide) ?_
  obtain ⟨g9, hf⟩ := vv_gd hf
  obtain ⟨M10, eM10, hf⟩ := vv_lt hf
  refine vi_iast (vv_oven_boards h0) g9 eM10.symm dX2_removeBoard_57 ?_
  refine vi_iload_n 2 dX2_removeBoard_58 rfl rfl ?_
  obtain rfl := Option.some.inj hf
  exact vi_ret (v := some (.int x3)) rfl ⟨dX2_removeBoard_59, .int, rfl, rfl⟩ ⟨rfl, rfl, rfl⟩
set_option maxRecDepth 20000 in
theorem t_X2_removeBoard {S : List vv_Sh} (n : Nat) (p0 : Nat) (x1 : Int32) (M : vv_M) (u : Int32 × vv_M) (h0 : vv_oven S p0) (hf : f_X2_removeBoard n p0 x1 M = some u) : vv_C yX2_removeBoard (vv_w yX2_removeBoard cX2_removeBoard 4 (some .int)) (vv_R 2 0 0) [.ref p0, .int x1] S M (some (.int u.1)) S u.2 := by
  refine vv_ofV (by decide +kernel) (Nat.le_of_ble_eq_true rfl) (L := [(0, .ref p0), (1, .int x1)]) rfl rfl rfl ?_
  show vv_V [] yX2_removeBoard.cls yX2_removeBoard.name cX2_removeBoard 4 (some .int) (vv_R 2 0 0) S.length (vv_sz S) (vv_fi S u) 0 [(0, .ref p0), (1, .int x1)] [] S M
  unfold f_X2_removeBoard at hf
  refine vi_aload_n 0 dX2_removeBoard_0 rfl rfl ?_
  refine vi_iload_n 1 dX2_removeBoard_1 rfl rfl ?_
  obtain ⟨u1, hu1, hf⟩ := vv_bd hf
  refine vi_callV (As := [.int x1]) (st := []) (t_X2_hasBoard n p0 x1 M u1 h0 hu1) rfl yo_X2_hasBoard wm_X2_87 wi_X2_hasBoard ws_X2_hasBoard wI_X2 wc_X2_hasBoard (vv_oven_o h0) rfl ⟨Nat.le_of_ble_eq_true rfl, Nat.le_of_ble_eq_true rfl⟩ (vv_rm0 rfl rfl) (Nat.le_of_ble_eq_true rfl) rfl rfl dX2_removeBoard_2 ?_
  refine vi_if_ne 12 dX2_removeBoard_5 (by decide) (fun c2 => ?_) (fun c2 => ?_)
  · rw [if_neg c2] at hf
    refine vi_aload_n 0 dX2_removeBoard_12 rfl rfl ?_
    refine vi_iload_n 1 dX2_removeBoard_13 rfl rfl ?_
    obtain ⟨u3, hu3, hf⟩ := vv_bd hf
    refine vi_callV (As := [.int x1]) (st := []) (t_X2_isOnBelt n p0 x1 u1.2 u3 h0 hu3) rfl yo_X2_isOnBelt wm_X2_91 wi_X2_isOnBelt ws_X2_isOnBelt wI_X2 wc_X2_isOnBelt (vv_oven_o h0) rfl ⟨Nat.le_of_ble_eq_true rfl, Nat.le_of_ble_eq_true rfl⟩ (vv_rm0 rfl rfl) (Nat.le_of_ble_eq_true rfl) rfl rfl dX2_removeBoard_14 ?_
    refine vi_if_ne 24 dX2_removeBoard_17 (by decide) (fun c4 => ?_) (fun c4 => ?_)
    · rw [if_neg c4] at hf
      refine vi_iload_n 1 dX2_removeBoard_24 rfl rfl ?_
      refine vi_bipush (v := (22 : Int32)) dX2_removeBoard_25 (by decide) ?_
      refine vi_imul dX2_removeBoard_27 ?_
      obtain ⟨y5, ey5, hf⟩ := vv_lt hf
      refine vi_istore_n (L' := [(2, .int y5), (0, .ref p0), (1, .int x1)]) dX2_removeBoard_28 rfl (by decide) (by rw [ey5]; rfl) ?_
      refine vi_aload_n 1 dX2_removeBoard_29 rfl rfl ?_
      refine vi_getr (t := p0 + 4) 3 rfl (vv_oven_o h0) rfl wu_X2 (by decide) wf_X2_21 dX2_removeBoard_30 ?_
      refine vi_iload_n 0 dX2_removeBoard_33 rfl rfl ?_
      refine vi_iconst (v := (3 : Int32)) dX2_removeBoard_34 (by decide) ?_
      refine vi_iadd dX2_removeBoard_35 ?_
      obtain ⟨g11, hf⟩ := vv_gd hf
      refine vi_iald (vv_oven_boards h0) g11 dX2_removeBoard_36 ?_
      obtain ⟨y6, ey6, hf⟩ := vv_lt hf
      refine vi_istore_n (L' := [(3, .int y6), (2, .int y5), (0, .ref p0), (1, .int x1)]) dX2_removeBoard_37 rfl (by decide) (by rw [ey6]; rfl) ?_
      refine vi_aload_n 2 dX2_removeBoard_38 rfl rfl ?_
      refine vi_getr (t := p0 + 4) 3 rfl (vv_oven_o h0) rfl wu_X2 (by decide) wf_X2_21 dX2_removeBoard_39 ?_
      refine vi_iload_n 1 dX2_removeBoard_42 rfl rfl ?_
      refine vi_iconst (v := (2 : Int32)) dX2_removeBoard_43 (by decide) ?_
      refine vi_iadd dX2_removeBoard_44 ?_
      refine vi_iconst (v := (2 : Int32)) dX2_removeBoard_45 (by decide) ?_
      obtain ⟨g7, hf⟩ := vv_gd hf
      obtain ⟨M8, eM8, hf⟩ := vv_lt hf
      refine vi_iast (vv_oven_boards h0) g7 eM8.symm dX2_removeBoard_46 ?_
      refine vi_sub (L' := [(0, .ref p0), (2, .int y5), (3, .int y6)]) [2, 1, 0] rfl ?_
      exact t_X2_removeBoard_47 n  u  p0 y5 y6 M8 h0 hf
    · rw [if_pos c4] at hf
      refine vi_sipush (v := (-1002 : Int32)) dX2_removeBoard_20 (by decide) ?_
      obtain rfl := Option.some.inj hf
      exact vi_ret (v := some (.int (-1002 : Int32))) rfl ⟨dX2_removeBoard_23, .int, rfl, rfl⟩ ⟨rfl, rfl, rfl⟩
  · rw [if_pos c2] at hf
    refine vi_sipush (v := (-1001 : Int32)) dX2_removeBoard_8 (by decide) ?_
    obtain rfl := Option.some.inj hf
    exact vi_ret (v := some (.int (-1001 : Int32))) rfl ⟨dX2_removeBoard_11, .int, rfl, rfl⟩ ⟨rfl, rfl, rfl⟩
set_option maxRecDepth 20000 in
theorem t_X2_zoneAt_4 {S : List vv_Sh} (n : Nat)  (u : Int32 × vv_M)  : ∀ (k : Nat) (p0 : Nat) (x1 : Int32) (x2 : Int32) (x3 : Int32) (M : vv_M) (h0 : vv_oven S p0) (hf : f_X2_zoneAt_4 n  k p0 x1 x2 x3 M = some u), vv_V [] yX2_zoneAt.cls yX2_zoneAt.name cX2_zoneAt 4 (some .int) (vv_R 0 0 0) S.length (vv_sz S) (vv_fi S u) 4 [(0, .ref p0), (1, .int x1), (2, .int x2), (3, .int x3)] [] S M := by
  intro k
  induction k with
  | zero =>
    intro p0 x1 x2 x3 M h0 hf
    exact absurd (show (none : Option (Int32 × vv_M)) = some u from hf) (by simp)
  | succ k ih =>
    intro p0 x1 x2 x3 M h0 hf
    rw [f_X2_zoneAt_4.eq_2] at hf
    refine vi_iload_n 3 dX2_zoneAt_4 rfl rfl ?_
    refine vi_iconst (v := (5 : Int32)) dX2_zoneAt_5 (by decide) ?_
    refine vi_icmp_ge 35 dX2_zoneAt_6 (by decide) (fun c1 => ?_) (fun c1 => ?_)
    · rw [if_pos c1] at hf
      refine vi_iconst (v := (5 : Int32)) dX2_zoneAt_35 (by decide) ?_
      obtain rfl := Option.some.inj hf
      exact vi_ret (v := some (.int (5 : Int32))) rfl ⟨dX2_zoneAt_36, .int, rfl, rfl⟩ ⟨rfl, rfl, rfl⟩
    · rw [if_neg c1] at hf
      refine vi_iload_n 2 dX2_zoneAt_9 rfl rfl ?_
      refine vi_aload_n 0 dX2_zoneAt_10 rfl rfl ?_
      refine vi_getr (t := p0 + 1) 0 rfl (vv_oven_o h0) rfl wu_X2 (by decide) wf_X2_9 dX2_zoneAt_11 ?_
      refine vi_iload_n 3 dX2_zoneAt_14 rfl rfl ?_
      refine vi_iconst (v := (4 : Int32)) dX2_zoneAt_15 (by decide) ?_
      refine vi_imul dX2_zoneAt_16 ?_
      refine vi_iconst (v := (0 : Int32)) dX2_zoneAt_17 (by decide) ?_
      refine vi_iadd dX2_zoneAt_18 ?_
      obtain ⟨g5, hf⟩ := vv_gd hf
      refine vi_iald (vv_oven_zones h0) g5 dX2_zoneAt_19 ?_
      refine vi_iadd dX2_zoneAt_20 ?_
      obtain ⟨y2, ey2, hf⟩ := vv_lt hf
      refine vi_istore_n (L' := [(2, .int y2), (0, .ref p0), (1, .int x1), (3, .int x3)]) dX2_zoneAt_21 rfl (by decide) (by rw [ey2]; rfl) ?_
      refine vi_iload_n 2 dX2_zoneAt_22 rfl rfl ?_
      refine vi_iload_n 0 dX2_zoneAt_23 rfl rfl ?_
      refine vi_icmp_ge 29 dX2_zoneAt_24 (by decide) (fun c3 => ?_) (fun c3 => ?_)
      · rw [if_pos c3] at hf
        obtain ⟨y4, ey4, hf⟩ := vv_lt hf
        refine vi_iinc (v := y4) (L' := [(3, .int y4), (2, .int y2), (0, .ref p0), (1, .int x1)]) 3 dX2_zoneAt_29 rfl (by rw [ey4]; rfl) (by decide) rfl ?_
        refine vi_goto 4 dX2_zoneAt_32 (by decide) ?_
        refine vi_sub (L' := [(0, .ref p0), (1, .int x1), (2, .int y2), (3, .int y4)]) [2, 3, 1, 0] rfl ?_
        exact ih p0 x1 y2 y4 M h0 hf
      · rw [if_neg c3] at hf
        refine vi_iload_n 3 dX2_zoneAt_27 rfl rfl ?_
        obtain rfl := Option.some.inj hf
        exact vi_ret (v := some (.int x3)) rfl ⟨dX2_zoneAt_28, .int, rfl, rfl⟩ ⟨rfl, rfl, rfl⟩
set_option maxRecDepth 20000 in
theorem t_X2_zoneAt {S : List vv_Sh} (n : Nat) (p0 : Nat) (x1 : Int32) (M : vv_M) (u : Int32 × vv_M) (h0 : vv_oven S p0) (hf : f_X2_zoneAt n p0 x1 M = some u) : vv_C yX2_zoneAt (vv_w yX2_zoneAt cX2_zoneAt 4 (some .int)) (vv_R 0 0 0) [.ref p0, .int x1] S M (some (.int u.1)) S u.2 := by
  refine vv_ofV (by decide +kernel) (Nat.le_of_ble_eq_true rfl) (L := [(0, .ref p0), (1, .int x1)]) rfl rfl rfl ?_
  show vv_V [] yX2_zoneAt.cls yX2_zoneAt.name cX2_zoneAt 4 (some .int) (vv_R 0 0 0) S.length (vv_sz S) (vv_fi S u) 0 [(0, .ref p0), (1, .int x1)] [] S M
  unfold f_X2_zoneAt at hf
  refine vi_iconst (v := (0 : Int32)) dX2_zoneAt_0 (by decide) ?_
  refine vi_istore_n (L' := [(2, .int (0 : Int32)), (0, .ref p0), (1, .int x1)]) dX2_zoneAt_1 rfl (by decide) rfl ?_
  refine vi_iconst (v := (0 : Int32)) dX2_zoneAt_2 (by decide) ?_
  refine vi_istore_n (L' := [(3, .int (0 : Int32)), (2, .int (0 : Int32)), (0, .ref p0), (1, .int x1)]) dX2_zoneAt_3 rfl (by decide) rfl ?_
  refine vi_sub (L' := [(0, .ref p0), (1, .int x1), (2, .int (0 : Int32)), (3, .int (0 : Int32))]) [2, 3, 1, 0] rfl ?_
  exact t_X2_zoneAt_4 n  u  n p0 x1 (0 : Int32) (0 : Int32) M h0 hf
set_option maxRecDepth 20000 in
theorem t_X2_noteFault {S : List vv_Sh} (n : Nat) (p0 : Nat) (x1 : Int32) (x2 : Int32) (x3 : Int32) (M : vv_M) (u : Unit × vv_M) (h0 : vv_oven S p0) (hf : f_X2_noteFault n p0 x1 x2 x3 M = some u) : vv_C yX2_noteFault (vv_w yX2_noteFault cX2_noteFault 5 none) (vv_R 0 0 0) [.ref p0, .int x1, .int x2, .int x3] S M none S u.2 := by
  refine vv_ofV (by decide +kernel) (Nat.le_of_ble_eq_true rfl) (L := [(0, .ref p0), (1, .int x1), (2, .int x2), (3, .int x3)]) rfl rfl rfl ?_
  show vv_V [] yX2_noteFault.cls yX2_noteFault.name cX2_noteFault 5 none (vv_R 0 0 0) S.length (vv_sz S) (vv_fu S u) 0 [(0, .ref p0), (1, .int x1), (2, .int x2), (3, .int x3)] [] S M
  unfold f_X2_noteFault at hf
  refine vi_iconst (v := (1 : Int32)) dX2_noteFault_0 (by decide) ?_
  refine vi_iload_n 2 dX2_noteFault_1 rfl rfl ?_
  refine vi_ishl dX2_noteFault_2 ?_
  obtain ⟨y1, ey1, hf⟩ := vv_lt hf
  refine vi_istore (L' := [(4, .int y1), (0, .ref p0), (1, .int x1), (2, .int x2), (3, .int x3)]) dX2_noteFault_3 (by decide) (by rw [ey1]; rfl) ?_
  refine vi_aload_n 1 dX2_noteFault_5 rfl rfl ?_
  refine vi_getr (t := p0 + 4) 3 rfl (vv_oven_o h0) rfl wu_X2 (by decide) wf_X2_21 dX2_noteFault_6 ?_
  refine vi_iload_n 2 dX2_noteFault_9 rfl rfl ?_
  refine vi_bipush (v := (8 : Int32)) dX2_noteFault_10 (by decide) ?_
  refine vi_iadd dX2_noteFault_12 ?_
  obtain ⟨g10, hf⟩ := vv_gd hf
  refine vi_iald (vv_oven_boards h0) g10 dX2_noteFault_13 ?_
  refine vi_iload 0 dX2_noteFault_14 rfl ?_
  refine vi_iand dX2_noteFault_16 ?_
  refine vi_if_ne 61 dX2_noteFault_17 (by decide) (fun c2 => ?_) (fun c2 => ?_)
  · rw [if_neg c2] at hf
    obtain rfl := Option.some.inj hf
    exact vi_ret (v := none) rfl ⟨dX2_noteFault_61, rfl⟩ ⟨rfl, rfl, rfl⟩
  · rw [if_pos c2] at hf
    refine vi_aload_n 1 dX2_noteFault_20 rfl rfl ?_
    refine vi_getr (t := p0 + 4) 3 rfl (vv_oven_o h0) rfl wu_X2 (by decide) wf_X2_21 dX2_noteFault_21 ?_
    refine vi_iload_n 2 dX2_noteFault_24 rfl rfl ?_
    refine vi_bipush (v := (8 : Int32)) dX2_noteFault_25 (by decide) ?_
    refine vi_iadd dX2_noteFault_27 ?_
    refine vi_dup2 dX2_noteFault_28 rfl rfl ?_
    obtain ⟨g9, hf⟩ := vv_gd hf
    refine vi_iald (vv_oven_boards h0) g9 dX2_noteFault_29 ?_
    refine vi_iload 0 dX2_noteFault_30 rfl ?_
    refine vi_ior dX2_noteFault_32 ?_
    obtain ⟨g3, hf⟩ := vv_gd hf
    obtain ⟨M4, eM4, hf⟩ := vv_lt hf
    refine vi_iast (vv_oven_boards h0) g3 eM4.symm dX2_noteFault_33 ?_
    refine vi_aload_n 1 dX2_noteFault_34 rfl rfl ?_
    refine vi_getr (t := p0 + 4) 3 rfl (vv_oven_o h0) rfl wu_X2 (by decide) wf_X2_21 dX2_noteFault_35 ?_
    refine vi_iload_n 2 dX2_noteFault_38 rfl rfl ?_
    refine vi_bipush (v := (12 : Int32)) dX2_noteFault_39 (by decide) ?_
    refine vi_iadd dX2_noteFault_41 ?_
    refine vi_iload_n 3 dX2_noteFault_42 rfl rfl ?_
    refine vi_iadd dX2_noteFault_43 ?_
    refine vi_iload_n 4 dX2_noteFault_44 rfl rfl ?_
    obtain ⟨g5, hf⟩ := vv_gd hf
    obtain ⟨M6, eM6, hf⟩ := vv_lt hf
    refine vi_iast (vv_oven_boards h0) g5 eM6.symm dX2_noteFault_45 ?_
    refine vi_aload_n 1 dX2_noteFault_46 rfl rfl ?_
    refine vi_getr (t := p0 + 4) 3 rfl (vv_oven_o h0) rfl wu_X2 (by decide) wf_X2_21 dX2_noteFault_47 ?_
    refine vi_iload_n 2 dX2_noteFault_50 rfl rfl ?_
    refine vi_bipush (v := (17 : Int32)) dX2_noteFault_51 (by decide) ?_
    refine vi_iadd dX2_noteFault_53 ?_
    refine vi_iload_n 3 dX2_noteFault_54 rfl rfl ?_
    refine vi_iadd dX2_noteFault_55 ?_
    refine vi_aload_n 1 dX2_noteFault_56 rfl rfl ?_
    refine vi_geti 5 rfl (vv_oven_o h0) rfl wu_X2 (by decide) wf_X2_46 dX2_noteFault_57 ?_
    obtain ⟨g7, hf⟩ := vv_gd hf
    obtain ⟨M8, eM8, hf⟩ := vv_lt hf
    refine vi_iast (vv_oven_boards h0) g7 eM8.symm dX2_noteFault_60 ?_
    obtain rfl := Option.some.inj hf
    exact vi_ret (v := none) rfl ⟨dX2_noteFault_61, rfl⟩ ⟨rfl, rfl, rfl⟩
set_option maxRecDepth 20000 in
theorem t_X2_leave_72 {S : List vv_Sh} (n : Nat)  (u : Unit × vv_M)  (p0 : Nat) (x1 : Int32) (x2 : Int32) (x3 : Int32) (M : vv_M) (h0 : vv_oven S p0) (hf : f_X2_leave_72 n  p0 x1 x2 x3 M = some u) : vv_V [] yX2_leave.cls yX2_leave.name cX2_leave 4 none (vv_R 1 0 0) S.length (vv_sz S) (vv_fu S u) 72 [(0, .ref p0), (1, .int x1), (2, .int x2), (3, .int x3)] [] S M := by
  unfold f_X2_leave_72 at hf
  refine vi_aload_n 0 dX2_leave_72 rfl rfl ?_
  refine vi_getr (t := p0 + 4) 3 rfl (vv_oven_o h0) rfl wu_X2 (by decide) wf_X2_21 dX2_leave_73 ?_
  refine vi_iload_n 1 dX2_leave_76 rfl rfl ?_
  refine vi_bipush (v := (6 : Int32)) dX2_leave_77 (by decide) ?_
  refine vi_iadd dX2_leave_79 ?_
  obtain ⟨g12, hf⟩ := vv_gd hf
  refine vi_iald (vv_oven_boards h0) g12 dX2_leave_80 ?_
  refine vi_aload_n 0 dX2_leave_81 rfl rfl ?_
  refine vi_getr (t := p0 + 2) 1 rfl (vv_oven_o h0) rfl wu_X2 (by decide) wf_X2_15 dX2_leave_82 ?_
  refine vi_iload_n 3 dX2_leave_85 rfl rfl ?_
  refine vi_iconst (v := (4 : Int32)) dX2_leave_86 (by decide) ?_
  refine vi_iadd dX2_leave_87 ?_
  obtain ⟨g11, hf⟩ := vv_gd hf
  refine vi_iald (vv_oven_curves h0) g11 dX2_leave_88 ?_
  refine vi_icmp_ge 99 dX2_leave_89 (by decide) (fun c9 => ?_) (fun c9 => ?_)
  · rw [if_pos c9] at hf
    obtain rfl := Option.some.inj hf
    exact vi_ret (v := none) rfl ⟨dX2_leave_99, rfl⟩ ⟨rfl, rfl, rfl⟩
  · rw [if_neg c9] at hf
    refine vi_aload_n 0 dX2_leave_92 rfl rfl ?_
    refine vi_iload_n 1 dX2_leave_93 rfl rfl ?_
    refine vi_iconst (v := (4 : Int32)) dX2_leave_94 (by decide) ?_
    refine vi_iload_n 2 dX2_leave_95 rfl rfl ?_
    obtain ⟨u10, hu10, hf⟩ := vv_bd hf
    refine vi_callV (As := [.int x1, .int (4 : Int32), .int x2]) (st := []) (t_X2_noteFault n p0 x1 (4 : Int32) x2 M u10 h0 hu10) rfl yo_X2_noteFault wm_X2_128 wi_X2_noteFault ws_X2_noteFault wI_X2 wc_X2_noteFault (vv_oven_o h0) rfl ⟨Nat.le_of_ble_eq_true rfl, Nat.le_of_ble_eq_true rfl⟩ (vv_rm0 rfl rfl) (Nat.le_of_ble_eq_true rfl) rfl rfl dX2_leave_96 ?_
    obtain rfl := Option.some.inj hf
    exact vi_ret (v := none) rfl ⟨dX2_leave_99, rfl⟩ ⟨rfl, rfl, rfl⟩
set_option maxRecDepth 20000 in
theorem t_X2_leave {S : List vv_Sh} (n : Nat) (p0 : Nat) (x1 : Int32) (x2 : Int32) (M : vv_M) (u : Unit × vv_M) (h0 : vv_oven S p0) (hf : f_X2_leave n p0 x1 x2 M = some u) : vv_C yX2_leave (vv_w yX2_leave cX2_leave 4 none) (vv_R 1 0 0) [.ref p0, .int x1, .int x2] S M none S u.2 := by
  refine vv_ofV (by decide +kernel) (Nat.le_of_ble_eq_true rfl) (L := [(0, .ref p0), (1, .int x1), (2, .int x2)]) rfl rfl rfl ?_
  show vv_V [] yX2_leave.cls yX2_leave.name cX2_leave 4 none (vv_R 1 0 0) S.length (vv_sz S) (vv_fu S u) 0 [(0, .ref p0), (1, .int x1), (2, .int x2)] [] S M
  unfold f_X2_leave at hf
  refine vi_aload_n 0 dX2_leave_0 rfl rfl ?_
  refine vi_getr (t := p0 + 4) 3 rfl (vv_oven_o h0) rfl wu_X2 (by decide) wf_X2_21 dX2_leave_1 ?_
  refine vi_iload_n 1 dX2_leave_4 rfl rfl ?_
  refine vi_iconst (v := (0 : Int32)) dX2_leave_5 (by decide) ?_
  refine vi_iadd dX2_leave_6 ?_
  obtain ⟨g16, hf⟩ := vv_gd hf
  refine vi_iald (vv_oven_boards h0) g16 dX2_leave_7 ?_
  refine vi_bipush (v := (6 : Int32)) dX2_leave_8 (by decide) ?_
  refine vi_imul dX2_leave_10 ?_
  obtain ⟨y1, ey1, hf⟩ := vv_lt hf
  refine vi_istore_n (L' := [(3, .int y1), (0, .ref p0), (1, .int x1), (2, .int x2)]) dX2_leave_11 rfl (by decide) (by rw [ey1]; rfl) ?_
  refine vi_aload_n 1 dX2_leave_12 rfl rfl ?_
  refine vi_getr (t := p0 + 4) 3 rfl (vv_oven_o h0) rfl wu_X2 (by decide) wf_X2_21 dX2_leave_13 ?_
  refine vi_iload_n 2 dX2_leave_16 rfl rfl ?_
  refine vi_iconst (v := (2 : Int32)) dX2_leave_17 (by decide) ?_
  refine vi_iadd dX2_leave_18 ?_
  refine vi_iconst (v := (1 : Int32)) dX2_leave_19 (by decide) ?_
  obtain ⟨g2, hf⟩ := vv_gd hf
  obtain ⟨M3, eM3, hf⟩ := vv_lt hf
  refine vi_iast (vv_oven_boards h0) g2 eM3.symm dX2_leave_20 ?_
  refine vi_aload_n 1 dX2_leave_21 rfl rfl ?_
  refine vi_getr (t := p0 + 4) 3 rfl (vv_oven_o h0) rfl wu_X2 (by decide) wf_X2_21 dX2_leave_22 ?_
  refine vi_iload_n 2 dX2_leave_25 rfl rfl ?_
  refine vi_iconst (v := (3 : Int32)) dX2_leave_26 (by decide) ?_
  refine vi_iadd dX2_leave_27 ?_
  refine vi_sipush (v := (-1009 : Int32)) dX2_leave_28 (by decide) ?_
  obtain ⟨g4, hf⟩ := vv_gd hf
  obtain ⟨M5, eM5, hf⟩ := vv_lt hf
  refine vi_iast (vv_oven_boards h0) g4 eM5.symm dX2_leave_31 ?_
  refine vi_aload_n 1 dX2_leave_32 rfl rfl ?_
  refine vi_getr (t := p0 + 4) 3 rfl (vv_oven_o h0) rfl wu_X2 (by decide) wf_X2_21 dX2_leave_33 ?_
  refine vi_iload_n 2 dX2_leave_36 rfl rfl ?_
  refine vi_bipush (v := (10 : Int32)) dX2_leave_37 (by decide) ?_
  refine vi_iadd dX2_leave_39 ?_
  refine vi_aload_n 1 dX2_leave_40 rfl rfl ?_
  refine vi_geti 5 rfl (vv_oven_o h0) rfl wu_X2 (by decide) wf_X2_46 dX2_leave_41 ?_
  obtain ⟨g6, hf⟩ := vv_gd hf
  obtain ⟨M7, eM7, hf⟩ := vv_lt hf
  refine vi_iast (vv_oven_boards h0) g6 eM7.symm dX2_leave_44 ?_
  refine vi_aload_n 1 dX2_leave_45 rfl rfl ?_
  refine vi_getr (t := p0 + 4) 3 rfl (vv_oven_o h0) rfl wu_X2 (by decide) wf_X2_21 dX2_leave_46 ?_
  refine vi_iload_n 2 dX2_leave_49 rfl rfl ?_
  refine vi_bipush (v := (7 : Int32)) dX2_leave_50 (by decide) ?_
  refine vi_iadd dX2_leave_52 ?_
  obtain ⟨g15, hf⟩ := vv_gd hf
  refine vi_iald (vv_oven_boards h0) g15 dX2_leave_53 ?_
  refine vi_aload_n 1 dX2_leave_54 rfl rfl ?_
  refine vi_getr (t := p0 + 2) 1 rfl (vv_oven_o h0) rfl wu_X2 (by decide) wf_X2_15 dX2_leave_55 ?_
  refine vi_iload_n 0 dX2_leave_58 rfl rfl ?_
  refine vi_iconst (v := (2 : Int32)) dX2_leave_59 (by decide) ?_
  refine vi_iadd dX2_leave_60 ?_
  obtain ⟨g14, hf⟩ := vv_gd hf
  refine vi_iald (vv_oven_curves h0) g14 dX2_leave_61 ?_
  refine vi_icmp_ge 72 dX2_leave_62 (by decide) (fun c8 => ?_) (fun c8 => ?_)
  · rw [if_pos c8] at hf
    refine vi_sub (L' := [(0, .ref p0), (1, .int x1), (2, .int x2), (3, .int y1)]) [1, 2, 3, 0] rfl ?_
    exact t_X2_leave_72 n  u  p0 x1 x2 y1 M7 h0 hf
  · rw [if_neg c8] at hf
    refine vi_aload_n 1 dX2_leave_65 rfl rfl ?_
    refine vi_iload_n 2 dX2_leave_66 rfl rfl ?_
    refine vi_iconst (v := (3 : Int32)) dX2_leave_67 (by decide) ?_
    refine vi_iload_n 3 dX2_leave_68 rfl rfl ?_
    obtain ⟨u13, hu13, hf⟩ := vv_bd hf
    refine vi_callV (As := [.int x1, .int (3 : Int32), .int x2]) (st := []) (t_X2_noteFault n p0 x1 (3 : Int32) x2 M7 u13 h0 hu13) rfl yo_X2_noteFault wm_X2_128 wi_X2_noteFault ws_X2_noteFault wI_X2 wc_X2_noteFault (vv_oven_o h0) rfl ⟨Nat.le_of_ble_eq_true rfl, Nat.le_of_ble_eq_true rfl⟩ (vv_rm0 rfl rfl) (Nat.le_of_ble_eq_true rfl) rfl rfl dX2_leave_69 ?_
    refine vi_sub (L' := [(0, .ref p0), (1, .int x1), (2, .int x2), (3, .int y1)]) [1, 2, 3, 0] rfl ?_
    exact t_X2_leave_72 n  u  p0 x1 x2 y1 u13.2 h0 hf
set_option maxRecDepth 20000 in
theorem t_X2_moveBoards_99 {S : List vv_Sh} (n : Nat) (k9 : Nat → Int32 → Int32 → Int32 → vv_M → Option (Int32 × vv_M)) (u : Int32 × vv_M) (hk9 : ∀ (p0 : Nat) (x1 : Int32) (x2 : Int32) (x3 : Int32) (M : vv_M) (h0 : vv_oven S p0) (hf : k9 p0 x1 x2 x3 M = some u), vv_V [] yX2_moveBoards.cls yX2_moveBoards.name cX2_moveBoards 6 (some .int) (vv_R 2 0 0) S.length (vv_sz S) (vv_fi S u) 9 [(0, .ref p0), (1, .int x1), (2, .int x2), (3, .int x3)] [] S M) (p0 : Nat) (x1 : Int32) (x2 : Int32) (x3 : Int32) (M : vv_M) (h0 : vv_oven S p0) (hf : f_X2_moveBoards_99 n k9 p0 x1 x2 x3 M = some u) : vv_V [] yX2_moveBoards.cls yX2_moveBoards.name cX2_moveBoards 6 (some .int) (vv_R 2 0 0) S.length (vv_sz S) (vv_fi S u) 99 [(0, .ref p0), (1, .int x1), (2, .int x2), (3, .int x3)] [] S M := by
  unfold f_X2_moveBoards_99 at hf
  obtain ⟨y6, ey6, hf⟩ := vv_lt hf
  refine vi_iinc (v := y6) (L' := [(3, .int y6), (0, .ref p0), (1, .int x1), (2, .int x2)]) 3 dX2_moveBoards_99 rfl (by rw [ey6]; rfl) (by decide) rfl ?_
  refine vi_goto 9 dX2_moveBoards_102 (by decide) ?_
  refine vi_sub (L' := [(0, .ref p0), (1, .int x1), (2, .int x2), (3, .int y6)]) [1, 2, 3, 0] rfl ?_
  exact hk9 p0 x1 x2 y6 M h0 hf
set_option maxRecDepth 20000 in
theorem t_X2_moveBoards_86 {S : List vv_Sh} (n : Nat) (k9 : Nat → Int32 → Int32 → Int32 → vv_M → Option (Int32 × vv_M)) (u : Int32 × vv_M) (hk9 : ∀ (p0 : Nat) (x1 : Int32) (x2 : Int32) (x3 : Int32) (M : vv_M) (h0 : vv_oven S p0) (hf : k9 p0 x1 x2 x3 M = some u), vv_V [] yX2_moveBoards.cls yX2_moveBoards.name cX2_moveBoards 6 (some .int) (vv_R 2 0 0) S.length (vv_sz S) (vv_fi S u) 9 [(0, .ref p0), (1, .int x1), (2, .int x2), (3, .int x3)] [] S M) (p0 : Nat) (x1 : Int32) (x2 : Int32) (x3 : Int32) (M : vv_M) (h0 : vv_oven S p0) (hf : f_X2_moveBoards_86 n k9 p0 x1 x2 x3 M = some u) : vv_V [] yX2_moveBoards.cls yX2_moveBoards.name cX2_moveBoards 6 (some .int) (vv_R 2 0 0) S.length (vv_sz S) (vv_fi S u) 86 [(0, .ref p0), (1, .int x1), (2, .int x2), (3, .int x3)] [] S M := by
  unfold f_X2_moveBoards_86 at hf
  refine vi_goto 99 dX2_moveBoards_86 (by decide) ?_
  exact t_X2_moveBoards_99 n k9 u hk9 p0 x1 x2 x3 M h0 hf
set_option maxRecDepth 20000 in
theorem t_X2_moveBoards_9 {S : List vv_Sh} (n : Nat)  (u : Int32 × vv_M)  : ∀ (k : Nat) (p0 : Nat) (x1 : Int32) (x2 : Int32) (x3 : Int32) (M : vv_M) (h0 : vv_oven S p0) (hf : f_X2_moveBoards_9 n  k p0 x1 x2 x3 M = some u), vv_V [] yX2_moveBoards.cls yX2_moveBoards.name cX2_moveBoards 6 (some .int) (vv_R 2 0 0) S.length (vv_sz S) (vv_fi S u) 9 [(0, .ref p0), (1, .int x1), (2, .int x2), (3, .int x3)] [] S M := by
  intro k
  induction k with
  | zero =>
    intro p0 x1 x2 x3 M h0 hf
    exact absurd (show (none : Option (Int32 × vv_M)) = some u from hf) (by simp)
  | succ k ih =>
    intro p0 x1 x2 x3 M h0 hf
    rw [f_X2_moveBoards_9.eq_2] at hf
    refine vi_iload_n 3 dX2_moveBoards_9 rfl rfl ?_
    refine vi_aload_n 0 dX2_moveBoards_10 rfl rfl ?_
    refine vi_geti 6 rfl (vv_oven_o h0) rfl wu_X2 (by decide) wf_X2_42 dX2_moveBoards_11 ?_
    refine vi_icmp_ge 105 dX2_moveBoards_14 (by decide) (fun c3 => ?_) (fun c3 => ?_)
    · rw [if_pos c3] at hf
      refine vi_iload_n 2 dX2_moveBoards_105 rfl rfl ?_
      obtain rfl := Option.some.inj hf
      exact vi_ret (v := some (.int x2)) rfl ⟨dX2_moveBoards_106, .int, rfl, rfl⟩ ⟨rfl, rfl, rfl⟩
    · rw [if_neg c3] at hf
      refine vi_iload_n 3 dX2_moveBoards_17 rfl rfl ?_
      refine vi_bipush (v := (22 : Int32)) dX2_moveBoards_18 (by decide) ?_
      refine vi_imul dX2_moveBoards_20 ?_
      obtain ⟨y4, ey4, hf⟩ := vv_lt hf
      refine vi_istore (L' := [(4, .int y4), (0, .ref p0), (1, .int x1), (2, .int x2), (3, .int x3)]) dX2_moveBoards_21 (by decide) (by rw [ey4]; rfl) ?_
      refine vi_aload_n 1 dX2_moveBoards_23 rfl rfl ?_
      refine vi_getr (t := p0 + 4) 3 rfl (vv_oven_o h0) rfl wu_X2 (by decide) wf_X2_21 dX2_moveBoards_24 ?_
      refine vi_iload 0 dX2_moveBoards_27 rfl ?_
      refine vi_iconst (v := (2 : Int32)) dX2_moveBoards_29 (by decide) ?_
      refine vi_iadd dX2_moveBoards_30 ?_
      obtain ⟨g18, hf⟩ := vv_gd hf
      refine vi_iald (vv_oven_boards h0) g18 dX2_moveBoards_31 ?_
      refine vi_if_ne 99 dX2_moveBoards_32 (by decide) (fun c5 => ?_) (fun c5 => ?_)
      · rw [if_neg c5] at hf
        refine vi_sub (L' := [(0, .ref p0), (1, .int x1), (2, .int x2), (3, .int x3)]) [1, 2, 3, 4] rfl ?_
        exact t_X2_moveBoards_99 n (f_X2_moveBoards_9 n k) u ih p0 x1 x2 x3 M h0 hf
      · rw [if_pos c5] at hf
        refine vi_aload_n 1 dX2_moveBoards_35 rfl rfl ?_
        refine vi_getr (t := p0 + 4) 3 rfl (vv_oven_o h0) rfl wu_X2 (by decide) wf_X2_21 dX2_moveBoards_36 ?_
        refine vi_iload 0 dX2_moveBoards_39 rfl ?_
        refine vi_iconst (v := (3 : Int32)) dX2_moveBoards_41 (by decide) ?_
        refine vi_iadd dX2_moveBoards_42 ?_
        obtain ⟨g17, hf⟩ := vv_gd hf
        refine vi_iald (vv_oven_boards h0) g17 dX2_moveBoards_43 ?_
        refine vi_aload_n 1 dX2_moveBoards_44 rfl rfl ?_
        refine vi_getr (t := p0 + 3) 2 rfl (vv_oven_o h0) rfl wu_X2 (by decide) wf_X2_18 dX2_moveBoards_45 ?_
        refine vi_iconst (v := (0 : Int32)) dX2_moveBoards_48 (by decide) ?_
        obtain ⟨g16, hf⟩ := vv_gd hf
        refine vi_iald (vv_oven_numbers h0) g16 dX2_moveBoards_49 ?_
        refine vi_iadd dX2_moveBoards_50 ?_
        obtain ⟨y7, ey7, hf⟩ := vv_lt hf
        refine vi_istore (L' := [(5, .int y7), (4, .int y4), (0, .ref p0), (1, .int x1), (2, .int x2), (3, .int x3)]) dX2_moveBoards_51 (by decide) (by rw [ey7]; rfl) ?_
        refine vi_iload 0 dX2_moveBoards_53 rfl ?_
        refine vi_iload_n 3 dX2_moveBoards_55 rfl rfl ?_
        refine vi_icmp_ge 89 dX2_moveBoards_56 (by decide) (fun c8 => ?_) (fun c8 => ?_)
        · rw [if_pos c8] at hf
          refine vi_aload_n 2 dX2_moveBoards_89 rfl rfl ?_
          refine vi_iload 1 dX2_moveBoards_90 rfl ?_
          refine vi_iload_n 3 dX2_moveBoards_92 rfl rfl ?_
          obtain ⟨u9, hu9, hf⟩ := vv_bd hf
          refine vi_callV (As := [.int y4, .int x1]) (st := []) (t_X2_leave n p0 y4 x1 M u9 h0 hu9) rfl yo_X2_leave wm_X2_124 wi_X2_leave ws_X2_leave wI_X2 wc_X2_leave (vv_oven_o h0) rfl ⟨Nat.le_of_ble_eq_true rfl, Nat.le_of_ble_eq_true rfl⟩ (vv_rm0 rfl rfl) (Nat.le_of_ble_eq_true rfl) rfl rfl dX2_moveBoards_93 ?_
          obtain ⟨y10, ey10, hf⟩ := vv_lt hf
          refine vi_iinc (v := y10) (L' := [(2, .int y10), (5, .int y7), (4, .int y4), (0, .ref p0), (1, .int x1), (3, .int x3)]) 4 dX2_moveBoards_96 rfl (by rw [ey10]; rfl) (by decide) rfl ?_
          refine vi_sub (L' := [(0, .ref p0), (1, .int x1), (2, .int y10), (3, .int x3)]) [3, 4, 0, 5] rfl ?_
          exact t_X2_moveBoards_99 n (f_X2_moveBoards_9 n k) u ih p0 x1 y10 x3 u9.2 h0 hf
        · rw [if_neg c8] at hf
          refine vi_aload_n 2 dX2_moveBoards_59 rfl rfl ?_
          refine vi_getr (t := p0 + 4) 3 rfl (vv_oven_o h0) rfl wu_X2 (by decide) wf_X2_21 dX2_moveBoards_60 ?_
          refine vi_iload 1 dX2_moveBoards_63 rfl ?_
          refine vi_iconst (v := (3 : Int32)) dX2_moveBoards_65 (by decide) ?_
          refine vi_iadd dX2_moveBoards_66 ?_
          refine vi_iload 0 dX2_moveBoards_67 rfl ?_
          obtain ⟨g11, hf⟩ := vv_gd hf
          obtain ⟨M12, eM12, hf⟩ := vv_lt hf
          refine vi_iast (vv_oven_boards h0) g11 eM12.symm dX2_moveBoards_69 ?_
          refine vi_aload_n 2 dX2_moveBoards_70 rfl rfl ?_
          refine vi_getr (t := p0 + 4) 3 rfl (vv_oven_o h0) rfl wu_X2 (by decide) wf_X2_21 dX2_moveBoards_71 ?_
          refine vi_iload 1 dX2_moveBoards_74 rfl ?_
          refine vi_bipush (v := (11 : Int32)) dX2_moveBoards_76 (by decide) ?_
          refine vi_iadd dX2_moveBoards_78 ?_
          refine vi_aload_n 2 dX2_moveBoards_79 rfl rfl ?_
          refine vi_iload 0 dX2_moveBoards_80 rfl ?_
          obtain ⟨u13, hu13, hf⟩ := vv_bd hf
          refine vi_callV (As := [.int y7]) (st := [.int (y4 + (11 : Int32)), .ref (p0 + 4)]) (t_X2_zoneAt n p0 y7 M12 u13 h0 hu13) rfl yo_X2_zoneAt wm_X2_121 wi_X2_zoneAt ws_X2_zoneAt wI_X2 wc_X2_zoneAt (vv_oven_o h0) rfl ⟨Nat.le_of_ble_eq_true rfl, Nat.le_of_ble_eq_true rfl⟩ (vv_rm0 rfl rfl) (Nat.le_of_ble_eq_true rfl) rfl rfl dX2_moveBoards_82 ?_
          obtain ⟨g14, hf⟩ := vv_gd hf
          obtain ⟨M15, eM15, hf⟩ := vv_lt hf
          refine vi_iast (vv_oven_boards h0) g14 eM15.symm dX2_moveBoards_85 ?_
          refine vi_sub (L' := [(0, .ref p0), (1, .int x1), (2, .int x2), (3, .int x3)]) [2, 3, 4, 5] rfl ?_
          exact t_X2_moveBoards_86 n (f_X2_moveBoards_9 n k) u ih p0 x1 x2 x3 M15 h0 hf
set_option maxRecDepth 20000 in
theorem t_X2_moveBoards {S : List vv_Sh} (n : Nat) (p0 : Nat) (M : vv_M) (u : Int32 × vv_M) (h0 : vv_oven S p0) (hf : f_X2_moveBoards n p0 M = some u) : vv_C yX2_moveBoards (vv_w yX2_moveBoards cX2_moveBoards 6 (some .int)) (vv_R 2 0 0) [.ref p0] S M (some (.int u.1)) S u.2 := by
  refine vv_ofV (by decide +kernel) (Nat.le_of_ble_eq_true rfl) (L := [(0, .ref p0)]) rfl rfl rfl ?_
  show vv_V [] yX2_moveBoards.cls yX2_moveBoards.name cX2_moveBoards 6 (some .int) (vv_R 2 0 0) S.length (vv_sz S) (vv_fi S u) 0 [(0, .ref p0)] [] S M
  unfold f_X2_moveBoards at hf
  refine vi_aload_n 0 dX2_moveBoards_0 rfl rfl ?_
  obtain ⟨u1, hu1, hf⟩ := vv_bd hf
  refine vi_callV (As := []) (st := []) (t_X2_beltLength n p0 M u1 h0 hu1) rfl yo_X2_beltLength wm_X2_63 wi_X2_beltLength ws_X2_beltLength wI_X2 wc_X2_beltLength (vv_oven_o h0) rfl ⟨Nat.le_of_ble_eq_true rfl, Nat.le_of_ble_eq_true rfl⟩ (vv_rm0 rfl rfl) (Nat.le_of_ble_eq_true rfl) rfl rfl dX2_moveBoards_1 ?_
  obtain ⟨y2, ey2, hf⟩ := vv_lt hf
  refine vi_istore_n (L' := [(1, .int y2), (0, .ref p0)]) dX2_moveBoards_4 rfl (by decide) (by rw [ey2]; rfl) ?_
  refine vi_iconst (v := (0 : Int32)) dX2_moveBoards_5 (by decide) ?_
  refine vi_istore_n (L' := [(2, .int (0 : Int32)), (1, .int y2), (0, .ref p0)]) dX2_moveBoards_6 rfl (by decide) rfl ?_
  refine vi_iconst (v := (0 : Int32)) dX2_moveBoards_7 (by decide) ?_
  refine vi_istore_n (L' := [(3, .int (0 : Int32)), (2, .int (0 : Int32)), (1, .int y2), (0, .ref p0)]) dX2_moveBoards_8 rfl (by decide) rfl ?_
  refine vi_sub (L' := [(0, .ref p0), (1, .int y2), (2, .int (0 : Int32)), (3, .int (0 : Int32))]) [3, 2, 1, 0] rfl ?_
  exact t_X2_moveBoards_9 n  u  n p0 y2 (0 : Int32) (0 : Int32) u1.2 h0 hf
set_option maxRecDepth 20000 in
theorem t_X2_sumWeights_72 {S : List vv_Sh} (n : Nat) (k23 : Nat → Int32 → vv_M → Option (Unit × vv_M)) (u : Unit × vv_M) (hk23 : ∀ (p0 : Nat) (x1 : Int32) (M : vv_M) (h0 : vv_oven S p0) (hf : k23 p0 x1 M = some u), vv_V [] yX2_sumWeights.cls yX2_sumWeights.name cX2_sumWeights 3 none (vv_R 0 0 0) S.length (vv_sz S) (vv_fu S u) 23 [(0, .ref p0), (1, .int x1)] [] S M) (p0 : Nat) (x1 : Int32) (M : vv_M) (h0 : vv_oven S p0) (hf : f_X2_sumWeights_72 n k23 p0 x1 M = some u) : vv_V [] yX2_sumWeights.cls yX2_sumWeights.name cX2_sumWeights 3 none (vv_R 0 0 0) S.length (vv_sz S) (vv_fu S u) 72 [(0, .ref p0), (1, .int x1)] [] S M := by
  unfold f_X2_sumWeights_72 at hf
  obtain ⟨y5, ey5, hf⟩ := vv_lt hf
  refine vi_iinc (v := y5) (L' := [(1, .int y5), (0, .ref p0)]) 1 dX2_sumWeights_72 rfl (by rw [ey5]; rfl) (by decide) rfl ?_
  refine vi_goto 23 dX2_sumWeights_75 (by decide) ?_
  refine vi_sub (L' := [(0, .ref p0), (1, .int y5)]) [1, 0] rfl ?_
  exact hk23 p0 y5 M h0 hf
set_option maxRecDepth 20000 in
theorem t_X2_sumWeights_23 {S : List vv_Sh} (n : Nat)  (u : Unit × vv_M)  : ∀ (k : Nat) (p0 : Nat) (x1 : Int32) (M : vv_M) (h0 : vv_oven S p0) (hf : f_X2_sumWeights_23 n  k p0 x1 M = some u), vv_V [] yX2_sumWeights.cls yX2_sumWeights.name cX2_sumWeights 3 none (vv_R 0 0 0) S.length (vv_sz S) (vv_fu S u) 23 [(0, .ref p0), (1, .int x1)] [] S M := by
  intro k
  induction k with
  | zero =>
    intro p0 x1 M h0 hf
    exact absurd (show (none : Option (Unit × vv_M)) = some u from hf) (by simp)
  | succ k ih =>
    intro p0 x1 M h0 hf
    rw [f_X2_sumWeights_23.eq_2] at hf
    refine vi_iload_n 1 dX2_sumWeights_23 rfl rfl ?_
    refine vi_aload_n 0 dX2_sumWeights_24 rfl rfl ?_
    refine vi_geti 6 rfl (vv_oven_o h0) rfl wu_X2 (by decide) wf_X2_42 dX2_sumWeights_25 ?_
    refine vi_icmp_ge 78 dX2_sumWeights_28 (by decide) (fun c2 => ?_) (fun c2 => ?_)
    · rw [if_pos c2] at hf
      obtain rfl := Option.some.inj hf
      exact vi_ret (v := none) rfl ⟨dX2_sumWeights_78, rfl⟩ ⟨rfl, rfl, rfl⟩
    · rw [if_neg c2] at hf
      refine vi_iload_n 1 dX2_sumWeights_31 rfl rfl ?_
      refine vi_bipush (v := (22 : Int32)) dX2_sumWeights_32 (by decide) ?_
      refine vi_imul dX2_sumWeights_34 ?_
      obtain ⟨y3, ey3, hf⟩ := vv_lt hf
      refine vi_istore_n (L' := [(2, .int y3), (0, .ref p0), (1, .int x1)]) dX2_sumWeights_35 rfl (by decide) (by rw [ey3]; rfl) ?_
      refine vi_aload_n 1 dX2_sumWeights_36 rfl rfl ?_
      refine vi_getr (t := p0 + 4) 3 rfl (vv_oven_o h0) rfl wu_X2 (by decide) wf_X2_21 dX2_sumWeights_37 ?_
      refine vi_iload_n 0 dX2_sumWeights_40 rfl rfl ?_
      refine vi_iconst (v := (2 : Int32)) dX2_sumWeights_41 (by decide) ?_
      refine vi_iadd dX2_sumWeights_42 ?_
      obtain ⟨g11, hf⟩ := vv_gd hf
      refine vi_iald (vv_oven_boards h0) g11 dX2_sumWeights_43 ?_
      refine vi_if_ne 72 dX2_sumWeights_44 (by decide) (fun c4 => ?_) (fun c4 => ?_)
      · rw [if_neg c4] at hf
        refine vi_sub (L' := [(0, .ref p0), (1, .int x1)]) [1, 2] rfl ?_
        exact t_X2_sumWeights_72 n (f_X2_sumWeights_23 n k) u ih p0 x1 M h0 hf
      · rw [if_pos c4] at hf
        refine vi_aload_n 1 dX2_sumWeights_47 rfl rfl ?_
        refine vi_getr (t := p0 + 5) 4 rfl (vv_oven_o h0) rfl wu_X2 (by decide) wf_X2_24 dX2_sumWeights_48 ?_
        refine vi_aload_n 1 dX2_sumWeights_51 rfl rfl ?_
        refine vi_getr (t := p0 + 4) 3 rfl (vv_oven_o h0) rfl wu_X2 (by decide) wf_X2_21 dX2_sumWeights_52 ?_
        refine vi_iload_n 0 dX2_sumWeights_55 rfl rfl ?_
        refine vi_bipush (v := (11 : Int32)) dX2_sumWeights_56 (by decide) ?_
        refine vi_iadd dX2_sumWeights_58 ?_
        obtain ⟨g10, hf⟩ := vv_gd hf
        refine vi_iald (vv_oven_boards h0) g10 dX2_sumWeights_59 ?_
        refine vi_dup2 dX2_sumWeights_60 rfl rfl ?_
        obtain ⟨g9, hf⟩ := vv_gd hf
        refine vi_iald (vv_oven_weights h0) g9 dX2_sumWeights_61 ?_
        refine vi_aload_n 1 dX2_sumWeights_62 rfl rfl ?_
        refine vi_getr (t := p0 + 4) 3 rfl (vv_oven_o h0) rfl wu_X2 (by decide) wf_X2_21 dX2_sumWeights_63 ?_
        refine vi_iload_n 0 dX2_sumWeights_66 rfl rfl ?_
        refine vi_iconst (v := (1 : Int32)) dX2_sumWeights_67 (by decide) ?_
        refine vi_iadd dX2_sumWeights_68 ?_
        obtain ⟨g8, hf⟩ := vv_gd hf
        refine vi_iald (vv_oven_boards h0) g8 dX2_sumWeights_69 ?_
        refine vi_iadd dX2_sumWeights_70 ?_
        obtain ⟨g6, hf⟩ := vv_gd hf
        obtain ⟨M7, eM7, hf⟩ := vv_lt hf
        refine vi_iast (vv_oven_weights h0) g6 eM7.symm dX2_sumWeights_71 ?_
        refine vi_sub (L' := [(0, .ref p0), (1, .int x1)]) [1, 2] rfl ?_
        exact t_X2_sumWeights_72 n (f_X2_sumWeights_23 n k) u ih p0 x1 M7 h0 hf
set_option maxRecDepth 20000 in
theorem t_X2_sumWeights_2 {S : List vv_Sh} (n : Nat)  (u : Unit × vv_M)  : ∀ (k : Nat) (p0 : Nat) (x1 : Int32) (M : vv_M) (h0 : vv_oven S p0) (hf : f_X2_sumWeights_2 n  k p0 x1 M = some u), vv_V [] yX2_sumWeights.cls yX2_sumWeights.name cX2_sumWeights 3 none (vv_R 0 0 0) S.length (vv_sz S) (vv_fu S u) 2 [(0, .ref p0), (1, .int x1)] [] S M := by
  intro k
  induction k with
  | zero =>
    intro p0 x1 M h0 hf
    exact absurd (show (none : Option (Unit × vv_M)) = some u from hf) (by simp)
  | succ k ih =>
    intro p0 x1 M h0 hf
    rw [f_X2_sumWeights_2.eq_2] at hf
    refine vi_iload_n 1 dX2_sumWeights_2 rfl rfl ?_
    refine vi_bipush (v := (6 : Int32)) dX2_sumWeights_3 (by decide) ?_
    refine vi_icmp_ge 21 dX2_sumWeights_5 (by decide) (fun c1 => ?_) (fun c1 => ?_)
    · rw [if_pos c1] at hf
      refine vi_iconst (v := (0 : Int32)) dX2_sumWeights_21 (by decide) ?_
      refine vi_istore_n (L' := [(1, .int (0 : Int32)), (0, .ref p0)]) dX2_sumWeights_22 rfl (by decide) rfl ?_
      refine vi_sub (L' := [(0, .ref p0), (1, .int (0 : Int32))]) [1, 0] rfl ?_
      exact t_X2_sumWeights_23 n  u  n p0 (0 : Int32) M h0 hf
    · rw [if_neg c1] at hf
      refine vi_aload_n 0 dX2_sumWeights_8 rfl rfl ?_
      refine vi_getr (t := p0 + 5) 4 rfl (vv_oven_o h0) rfl wu_X2 (by decide) wf_X2_24 dX2_sumWeights_9 ?_
      refine vi_iload_n 1 dX2_sumWeights_12 rfl rfl ?_
      refine vi_iconst (v := (0 : Int32)) dX2_sumWeights_13 (by decide) ?_
      obtain ⟨g12, hf⟩ := vv_gd hf
      obtain ⟨M13, eM13, hf⟩ := vv_lt hf
      refine vi_iast (vv_oven_weights h0) g12 eM13.symm dX2_sumWeights_14 ?_
      obtain ⟨y14, ey14, hf⟩ := vv_lt hf
      refine vi_iinc (v := y14) (L' := [(1, .int y14), (0, .ref p0)]) 1 dX2_sumWeights_15 rfl (by rw [ey14]; rfl) (by decide) rfl ?_
      refine vi_goto 2 dX2_sumWeights_18 (by decide) ?_
      refine vi_sub (L' := [(0, .ref p0), (1, .int y14)]) [1, 0] rfl ?_
      exact ih p0 y14 M13 h0 hf
set_option maxRecDepth 20000 in
theorem t_X2_sumWeights {S : List vv_Sh} (n : Nat) (p0 : Nat) (M : vv_M) (u : Unit × vv_M) (h0 : vv_oven S p0) (hf : f_X2_sumWeights n p0 M = some u) : vv_C yX2_sumWeights (vv_w yX2_sumWeights cX2_sumWeights 3 none) (vv_R 0 0 0) [.ref p0] S M none S u.2 := by
  refine vv_ofV (by decide +kernel) (Nat.le_of_ble_eq_true rfl) (L := [(0, .ref p0)]) rfl rfl rfl ?_
  show vv_V [] yX2_sumWeights.cls yX2_sumWeights.name cX2_sumWeights 3 none (vv_R 0 0 0) S.length (vv_sz S) (vv_fu S u) 0 [(0, .ref p0)] [] S M
  unfold f_X2_sumWeights at hf
  refine vi_iconst (v := (0 : Int32)) dX2_sumWeights_0 (by decide) ?_
  refine vi_istore_n (L' := [(1, .int (0 : Int32)), (0, .ref p0)]) dX2_sumWeights_1 rfl (by decide) rfl ?_
  refine vi_sub (L' := [(0, .ref p0), (1, .int (0 : Int32))]) [1, 0] rfl ?_
  exact t_X2_sumWeights_2 n  u  n p0 (0 : Int32) M h0 hf
