set_option maxRecDepth 20000 in
theorem t_X5_copy_3 {S : List vv_Sh} (n : Nat)  (u : Unit × vv_M)  : ∀ (k : Nat) (p0 : Nat) (x1 : Int32) (x2 : Int32) (x3 : Int32) (x4 : Int32) (M : vv_M) (h0 : vv_model S p0) (hf : f_X5_copy_3 n  k p0 x1 x2 x3 x4 M = some u), vv_V [] yX5_copy.cls yX5_copy.name cX5_copy 5 none (vv_R 0 0 0) S.length (vv_sz S) (vv_fu S u) 3 [(0, .ref p0), (1, .int x1), (2, .int x2), (3, .int x3), (4, .int x4)] [] S M := by
  intro k
  induction k with
  | zero =>
    intro p0 x1 x2 x3 x4 M h0 hf
    exact absurd (show (none : Option (Unit × vv_M)) = some u from hf) (by simp)
  | succ k ih =>
    intro p0 x1 x2 x3 x4 M h0 hf
    rw [f_X5_copy_3.eq_2] at hf
    refine vi_iload 4 dX5_copy_3 rfl ?_
    refine vi_iload_n 3 dX5_copy_5 rfl rfl ?_
    refine vi_icmp_ge 33 dX5_copy_6 (by decide) (fun c1 => ?_) (fun c1 => ?_)
    · rw [if_pos c1] at hf
      obtain rfl := Option.some.inj hf
      exact vi_ret (v := none) rfl ⟨dX5_copy_33, rfl⟩ ⟨rfl, rfl, rfl⟩
    · rw [if_neg c1] at hf
      refine vi_aload_n 0 dX5_copy_9 rfl rfl ?_
      refine vi_getr (t := p0 + 1) 0 rfl (vv_model_o h0) rfl wu_X5 (by decide) wf_X5_7 dX5_copy_10 ?_
      refine vi_iload_n 2 dX5_copy_13 rfl rfl ?_
      refine vi_iload 4 dX5_copy_14 rfl ?_
      refine vi_iadd dX5_copy_16 ?_
      refine vi_aload_n 0 dX5_copy_17 rfl rfl ?_
      refine vi_getr (t := p0 + 1) 0 rfl (vv_model_o h0) rfl wu_X5 (by decide) wf_X5_7 dX5_copy_18 ?_
      refine vi_iload_n 1 dX5_copy_21 rfl rfl ?_
      refine vi_iload 4 dX5_copy_22 rfl ?_
      refine vi_iadd dX5_copy_24 ?_
      obtain ⟨g5, hf⟩ := vv_gd hf
      refine vi_iald (vv_model_row h0) g5 dX5_copy_25 ?_
      obtain ⟨g2, hf⟩ := vv_gd hf
      obtain ⟨M3, eM3, hf⟩ := vv_lt hf
      refine vi_iast (vv_model_row h0) g2 eM3.symm dX5_copy_26 ?_
      obtain ⟨y4, ey4, hf⟩ := vv_lt hf
      refine vi_iinc (v := y4) (L' := [(4, .int y4), (0, .ref p0), (1, .int x1), (2, .int x2), (3, .int x3)]) 4 dX5_copy_27 rfl (by rw [ey4]; rfl) (by decide) rfl ?_
      refine vi_goto 3 dX5_copy_30 (by decide) ?_
      refine vi_sub (L' := [(0, .ref p0), (1, .int x1), (2, .int x2), (3, .int x3), (4, .int y4)]) [1, 2, 3, 4, 0] rfl ?_
      exact ih p0 x1 x2 x3 y4 M3 h0 hf
set_option maxRecDepth 20000 in
theorem t_X5_copy {S : List vv_Sh} (n : Nat) (p0 : Nat) (x1 : Int32) (x2 : Int32) (x3 : Int32) (M : vv_M) (u : Unit × vv_M) (h0 : vv_model S p0) (hf : f_X5_copy n p0 x1 x2 x3 M = some u) : vv_C yX5_copy (vv_w yX5_copy cX5_copy 5 none) (vv_R 0 0 0) [.ref p0, .int x1, .int x2, .int x3] S M none S u.2 := by
  refine vv_ofV (by decide +kernel) (Nat.le_of_ble_eq_true rfl) (L := [(0, .ref p0), (1, .int x1), (2, .int x2), (3, .int x3)]) rfl rfl rfl ?_
  show vv_V [] yX5_copy.cls yX5_copy.name cX5_copy 5 none (vv_R 0 0 0) S.length (vv_sz S) (vv_fu S u) 0 [(0, .ref p0), (1, .int x1), (2, .int x2), (3, .int x3)] [] S M
  unfold f_X5_copy at hf
  refine vi_iconst (v := (0 : Int32)) dX5_copy_0 (by decide) ?_
  refine vi_istore (L' := [(4, .int (0 : Int32)), (0, .ref p0), (1, .int x1), (2, .int x2), (3, .int x3)]) dX5_copy_1 (by decide) rfl ?_
  refine vi_sub (L' := [(0, .ref p0), (1, .int x1), (2, .int x2), (3, .int x3), (4, .int (0 : Int32))]) [1, 2, 3, 4, 0] rfl ?_
  exact t_X5_copy_3 n  u  n p0 x1 x2 x3 (0 : Int32) M h0 hf
set_option maxRecDepth 20000 in
theorem t_X5_record_52 {S : List vv_Sh} (n : Nat)  (u : Unit × vv_M)  (p0 : Nat) (M : vv_M) (h0 : vv_model S p0) (hf : f_X5_record_52 n  p0 M = some u) : vv_V [] yX5_record.cls yX5_record.name cX5_record 2 none (vv_R 1 0 0) S.length (vv_sz S) (vv_fu S u) 52 [(0, .ref p0)] [] S M := by
  unfold f_X5_record_52 at hf
  refine vi_aload_n 0 dX5_record_52 rfl rfl ?_
  refine vi_iconst (v := (0 : Int32)) dX5_record_53 (by decide) ?_
  refine vi_sipush (v := (2123 : Int32)) dX5_record_54 (by decide) ?_
  refine vi_sipush (v := (2123 : Int32)) dX5_record_57 (by decide) ?_
  refine vi_aload_n 0 dX5_record_60 rfl rfl ?_
  refine vi_geti 1 rfl (vv_model_o h0) rfl wu_X5 (by decide) wf_X5_30 dX5_record_61 ?_
  refine vi_imul dX5_record_64 ?_
  refine vi_iadd dX5_record_65 ?_
  refine vi_sipush (v := (2123 : Int32)) dX5_record_66 (by decide) ?_
  obtain ⟨u2, hu2, hf⟩ := vv_bd hf
  refine vi_callV (As := [.int (0 : Int32), .int ((2123 : Int32) + ((2123 : Int32) * (M p0 1))), .int (2123 : Int32)]) (st := []) (t_X5_copy n p0 (0 : Int32) ((2123 : Int32) + ((2123 : Int32) * (M p0 1))) (2123 : Int32) M u2 h0 hu2) rfl yo_X5_copy wm_X5_34 wi_X5_copy ws_X5_copy wI_X5 wc_X5_copy (vv_model_o h0) rfl ⟨Nat.le_of_ble_eq_true rfl, Nat.le_of_ble_eq_true rfl⟩ (vv_rm0 rfl rfl) (Nat.le_of_ble_eq_true rfl) rfl rfl dX5_record_69 ?_
  refine vi_aload_n 0 dX5_record_72 rfl rfl ?_
  refine vi_dup dX5_record_73 rfl ?_
  refine vi_geti 1 rfl (vv_model_o h0) rfl wu_X5 (by decide) wf_X5_30 dX5_record_74 ?_
  refine vi_iconst (v := (1 : Int32)) dX5_record_77 (by decide) ?_
  refine vi_iadd dX5_record_78 ?_
  obtain ⟨M3, eM3, hf⟩ := vv_lt hf
  refine vi_puti 1 rfl eM3.symm (vv_model_o h0) rfl wu_X5 tyX5 tyX5_ok nmX5 (by decide) rfl (by decide +kernel) wf_X5_30 dX5_record_79 ?_
  obtain rfl := Option.some.inj hf
  exact vi_ret (v := none) rfl ⟨dX5_record_82, rfl⟩ ⟨rfl, rfl, rfl⟩
set_option maxRecDepth 20000 in
theorem t_X5_record_10 {S : List vv_Sh} (n : Nat)  (u : Unit × vv_M)  : ∀ (k : Nat) (p0 : Nat) (x1 : Int32) (M : vv_M) (h0 : vv_model S p0) (hf : f_X5_record_10 n  k p0 x1 M = some u), vv_V [] yX5_record.cls yX5_record.name cX5_record 2 none (vv_R 1 0 0) S.length (vv_sz S) (vv_fu S u) 10 [(0, .ref p0), (1, .int x1)] [] S M := by
  intro k
  induction k with
  | zero =>
    intro p0 x1 M h0 hf
    exact absurd (show (none : Option (Unit × vv_M)) = some u from hf) (by simp)
  | succ k ih =>
    intro p0 x1 M h0 hf
    rw [f_X5_record_10.eq_2] at hf
    refine vi_iload_n 1 dX5_record_10 rfl rfl ?_
    refine vi_iconst (v := (5 : Int32)) dX5_record_11 (by decide) ?_
    refine vi_icmp_ge 42 dX5_record_12 (by decide) (fun c4 => ?_) (fun c4 => ?_)
    · rw [if_pos c4] at hf
      refine vi_aload_n 0 dX5_record_42 rfl rfl ?_
      refine vi_dup dX5_record_43 rfl ?_
      refine vi_geti 1 rfl (vv_model_o h0) rfl wu_X5 (by decide) wf_X5_30 dX5_record_44 ?_
      refine vi_iconst (v := (1 : Int32)) dX5_record_47 (by decide) ?_
      refine vi_isub dX5_record_48 ?_
      obtain ⟨M5, eM5, hf⟩ := vv_lt hf
      refine vi_puti 1 rfl eM5.symm (vv_model_o h0) rfl wu_X5 tyX5 tyX5_ok nmX5 (by decide) rfl (by decide +kernel) wf_X5_30 dX5_record_49 ?_
      refine vi_sub (L' := [(0, .ref p0)]) [0] rfl ?_
      exact t_X5_record_52 n  u  p0 M5 h0 hf
    · rw [if_neg c4] at hf
      refine vi_aload_n 0 dX5_record_15 rfl rfl ?_
      refine vi_sipush (v := (2123 : Int32)) dX5_record_16 (by decide) ?_
      refine vi_sipush (v := (2123 : Int32)) dX5_record_19 (by decide) ?_
      refine vi_iload_n 1 dX5_record_22 rfl rfl ?_
      refine vi_imul dX5_record_23 ?_
      refine vi_iadd dX5_record_24 ?_
      refine vi_sipush (v := (2123 : Int32)) dX5_record_25 (by decide) ?_
      refine vi_iload_n 1 dX5_record_28 rfl rfl ?_
      refine vi_imul dX5_record_29 ?_
      refine vi_sipush (v := (2123 : Int32)) dX5_record_30 (by decide) ?_
      obtain ⟨u6, hu6, hf⟩ := vv_bd hf
      refine vi_callV (As := [.int ((2123 : Int32) + ((2123 : Int32) * x1)), .int ((2123 : Int32) * x1), .int (2123 : Int32)]) (st := []) (t_X5_copy n p0 ((2123 : Int32) + ((2123 : Int32) * x1)) ((2123 : Int32) * x1) (2123 : Int32) M u6 h0 hu6) rfl yo_X5_copy wm_X5_34 wi_X5_copy ws_X5_copy wI_X5 wc_X5_copy (vv_model_o h0) rfl ⟨Nat.le_of_ble_eq_true rfl, Nat.le_of_ble_eq_true rfl⟩ (vv_rm0 rfl rfl) (Nat.le_of_ble_eq_true rfl) rfl rfl dX5_record_33 ?_
      obtain ⟨y7, ey7, hf⟩ := vv_lt hf
      refine vi_iinc (v := y7) (L' := [(1, .int y7), (0, .ref p0)]) 1 dX5_record_36 rfl (by rw [ey7]; rfl) (by decide) rfl ?_
      refine vi_goto 10 dX5_record_39 (by decide) ?_
      refine vi_sub (L' := [(0, .ref p0), (1, .int y7)]) [1, 0] rfl ?_
      exact ih p0 y7 u6.2 h0 hf
set_option maxRecDepth 20000 in
theorem t_X5_record {S : List vv_Sh} (n : Nat) (p0 : Nat) (M : vv_M) (u : Unit × vv_M) (h0 : vv_model S p0) (hf : f_X5_record n p0 M = some u) : vv_C yX5_record (vv_w yX5_record cX5_record 2 none) (vv_R 1 0 0) [.ref p0] S M none S u.2 := by
  refine vv_ofV (by decide +kernel) (Nat.le_of_ble_eq_true rfl) (L := [(0, .ref p0)]) rfl rfl rfl ?_
  show vv_V [] yX5_record.cls yX5_record.name cX5_record 2 none (vv_R 1 0 0) S.length (vv_sz S) (vv_fu S u) 0 [(0, .ref p0)] [] S M
  unfold f_X5_record at hf
  refine vi_aload_n 0 dX5_record_0 rfl rfl ?_
  refine vi_geti 1 rfl (vv_model_o h0) rfl wu_X5 (by decide) wf_X5_30 dX5_record_1 ?_
  refine vi_iconst (v := (5 : Int32)) dX5_record_4 (by decide) ?_
  refine vi_icmp_ne 52 dX5_record_5 (by decide) (fun c1 => ?_) (fun c1 => ?_)
  · rw [if_neg c1] at hf
    exact t_X5_record_52 n  u  p0 M h0 hf
  · rw [if_pos c1] at hf
    refine vi_iconst (v := (1 : Int32)) dX5_record_8 (by decide) ?_
    refine vi_istore_n (L' := [(1, .int (1 : Int32)), (0, .ref p0)]) dX5_record_9 rfl (by decide) rfl ?_
    refine vi_sub (L' := [(0, .ref p0), (1, .int (1 : Int32))]) [1, 0] rfl ?_
    exact t_X5_record_10 n  u  n p0 (1 : Int32) M h0 hf
set_option maxRecDepth 20000 in
theorem t_X5_undo {S : List vv_Sh} (n : Nat) (p0 : Nat) (M : vv_M) (u : Int32 × vv_M) (h0 : vv_model S p0) (hf : f_X5_undo n p0 M = some u) : vv_C yX5_undo (vv_w yX5_undo cX5_undo 1 (some .int)) (vv_R 1 0 0) [.ref p0] S M (some (.int u.1)) S u.2 := by
  refine vv_ofV (by decide +kernel) (Nat.le_of_ble_eq_true rfl) (L := [(0, .ref p0)]) rfl rfl rfl ?_
  show vv_V [] yX5_undo.cls yX5_undo.name cX5_undo 1 (some .int) (vv_R 1 0 0) S.length (vv_sz S) (vv_fi S u) 0 [(0, .ref p0)] [] S M
  unfold f_X5_undo at hf
  refine vi_aload_n 0 dX5_undo_0 rfl rfl ?_
  refine vi_geti 1 rfl (vv_model_o h0) rfl wu_X5 (by decide) wf_X5_30 dX5_undo_1 ?_
  refine vi_if_ne 11 dX5_undo_4 (by decide) (fun c1 => ?_) (fun c1 => ?_)
  · rw [if_neg c1] at hf
    refine vi_aload_n 0 dX5_undo_11 rfl rfl ?_
    refine vi_dup dX5_undo_12 rfl ?_
    refine vi_geti 1 rfl (vv_model_o h0) rfl wu_X5 (by decide) wf_X5_30 dX5_undo_13 ?_
    refine vi_iconst (v := (1 : Int32)) dX5_undo_16 (by decide) ?_
    refine vi_isub dX5_undo_17 ?_
    obtain ⟨M2, eM2, hf⟩ := vv_lt hf
    refine vi_puti 1 rfl eM2.symm (vv_model_o h0) rfl wu_X5 tyX5 tyX5_ok nmX5 (by decide) rfl (by decide +kernel) wf_X5_30 dX5_undo_18 ?_
    refine vi_aload_n 0 dX5_undo_21 rfl rfl ?_
    refine vi_sipush (v := (2123 : Int32)) dX5_undo_22 (by decide) ?_
    refine vi_sipush (v := (2123 : Int32)) dX5_undo_25 (by decide) ?_
    refine vi_aload_n 0 dX5_undo_28 rfl rfl ?_
    refine vi_geti 1 rfl (vv_model_o h0) rfl wu_X5 (by decide) wf_X5_30 dX5_undo_29 ?_
    refine vi_imul dX5_undo_32 ?_
    refine vi_iadd dX5_undo_33 ?_
    refine vi_iconst (v := (0 : Int32)) dX5_undo_34 (by decide) ?_
    refine vi_sipush (v := (2123 : Int32)) dX5_undo_35 (by decide) ?_
    obtain ⟨u3, hu3, hf⟩ := vv_bd hf
    refine vi_callV (As := [.int ((2123 : Int32) + ((2123 : Int32) * (M2 p0 1))), .int (0 : Int32), .int (2123 : Int32)]) (st := []) (t_X5_copy n p0 ((2123 : Int32) + ((2123 : Int32) * (M2 p0 1))) (0 : Int32) (2123 : Int32) M2 u3 h0 hu3) rfl yo_X5_copy wm_X5_34 wi_X5_copy ws_X5_copy wI_X5 wc_X5_copy (vv_model_o h0) rfl ⟨Nat.le_of_ble_eq_true rfl, Nat.le_of_ble_eq_true rfl⟩ (vv_rm0 rfl rfl) (Nat.le_of_ble_eq_true rfl) rfl rfl dX5_undo_38 ?_
    refine vi_aload_n 0 dX5_undo_41 rfl rfl ?_
    refine vi_geti 1 rfl (vv_model_o h0) rfl wu_X5 (by decide) wf_X5_30 dX5_undo_42 ?_
    obtain rfl := Option.some.inj hf
    exact vi_ret (v := some (.int (u3.2 p0 1))) rfl ⟨dX5_undo_45, .int, rfl, rfl⟩ ⟨rfl, rfl, rfl⟩
  · rw [if_pos c1] at hf
    refine vi_sipush (v := (-1002 : Int32)) dX5_undo_7 (by decide) ?_
    obtain rfl := Option.some.inj hf
    exact vi_ret (v := some (.int (-1002 : Int32))) rfl ⟨dX5_undo_10, .int, rfl, rfl⟩ ⟨rfl, rfl, rfl⟩
set_option maxRecDepth 20000 in
theorem t_X5_take {S : List vv_Sh} (n : Nat) (p0 : Nat) (x1 : Int32) (M : vv_M) (u : Int32 × vv_M) (h0 : vv_model S p0) (hf : f_X5_take n p0 x1 M = some u) : vv_C yX5_take (vv_w yX5_take cX5_take 2 (some .int)) (vv_R 2 0 0) [.ref p0, .int x1] S M (some (.int u.1)) S u.2 := by
  refine vv_ofV (by decide +kernel) (Nat.le_of_ble_eq_true rfl) (L := [(0, .ref p0), (1, .int x1)]) rfl rfl rfl ?_
  show vv_V [] yX5_take.cls yX5_take.name cX5_take 2 (some .int) (vv_R 2 0 0) S.length (vv_sz S) (vv_fi S u) 0 [(0, .ref p0), (1, .int x1)] [] S M
  unfold f_X5_take at hf
  refine vi_iload_n 1 dX5_take_0 rfl rfl ?_
  refine vi_iconst (v := (0 : Int32)) dX5_take_1 (by decide) ?_
  refine vi_iconst (v := (1 : Int32)) dX5_take_2 (by decide) ?_
  obtain ⟨u1, hu1, hf⟩ := vv_bd hf
  refine vi_callS (As := [.int x1, .int (0 : Int32), .int (1 : Int32)]) (st := []) (t_X5_in n x1 (0 : Int32) (1 : Int32) M u1  hu1) rfl yo_X5_in wm_X5_23 wi_X5_in wI_X5 wc_X5_in ⟨Nat.le_of_ble_eq_true rfl, Nat.le_of_ble_eq_true rfl⟩ (vv_rm0 rfl rfl) (Nat.le_of_ble_eq_true rfl) rfl rfl dX5_take_3 ?_
  refine vi_if_ne 13 dX5_take_6 (by decide) (fun c2 => ?_) (fun c2 => ?_)
  · rw [if_neg c2] at hf
    refine vi_aload_n 0 dX5_take_13 rfl rfl ?_
    obtain ⟨u3, hu3, hf⟩ := vv_bd hf
    refine vi_callV (As := []) (st := []) (t_X5_record n p0 u1.2 u3 h0 hu3) rfl yo_X5_record wm_X5_38 wi_X5_record ws_X5_record wI_X5 wc_X5_record (vv_model_o h0) rfl ⟨Nat.le_of_ble_eq_true rfl, Nat.le_of_ble_eq_true rfl⟩ (vv_rm0 rfl rfl) (Nat.le_of_ble_eq_true rfl) rfl rfl dX5_take_14 ?_
    refine vi_aload_n 0 dX5_take_17 rfl rfl ?_
    refine vi_iconst (v := (0 : Int32)) dX5_take_18 (by decide) ?_
    refine vi_sipush (v := (707 : Int32)) dX5_take_19 (by decide) ?_
    refine vi_sipush (v := (707 : Int32)) dX5_take_22 (by decide) ?_
    refine vi_iload_n 1 dX5_take_25 rfl rfl ?_
    refine vi_imul dX5_take_26 ?_
    refine vi_iadd dX5_take_27 ?_
    refine vi_sipush (v := (707 : Int32)) dX5_take_28 (by decide) ?_
    obtain ⟨u4, hu4, hf⟩ := vv_bd hf
    refine vi_callV (As := [.int (0 : Int32), .int ((707 : Int32) + ((707 : Int32) * x1)), .int (707 : Int32)]) (st := []) (t_X5_copy n p0 (0 : Int32) ((707 : Int32) + ((707 : Int32) * x1)) (707 : Int32) u3.2 u4 h0 hu4) rfl yo_X5_copy wm_X5_34 wi_X5_copy ws_X5_copy wI_X5 wc_X5_copy (vv_model_o h0) rfl ⟨Nat.le_of_ble_eq_true rfl, Nat.le_of_ble_eq_true rfl⟩ (vv_rm0 rfl rfl) (Nat.le_of_ble_eq_true rfl) rfl rfl dX5_take_31 ?_
    refine vi_aload_n 0 dX5_take_34 rfl rfl ?_
    refine vi_getr (t := p0 + 1) 0 rfl (vv_model_o h0) rfl wu_X5 (by decide) wf_X5_7 dX5_take_35 ?_
    refine vi_sipush (v := (2121 : Int32)) dX5_take_38 (by decide) ?_
    refine vi_iload_n 1 dX5_take_41 rfl rfl ?_
    refine vi_iadd dX5_take_42 ?_
    refine vi_iconst (v := (1 : Int32)) dX5_take_43 (by decide) ?_
    obtain ⟨g5, hf⟩ := vv_gd hf
    obtain ⟨M6, eM6, hf⟩ := vv_lt hf
    refine vi_iast (vv_model_row h0) g5 eM6.symm dX5_take_44 ?_
    refine vi_aload_n 0 dX5_take_45 rfl rfl ?_
    refine vi_getr (t := p0 + 1) 0 rfl (vv_model_o h0) rfl wu_X5 (by decide) wf_X5_7 dX5_take_46 ?_
    refine vi_bipush (v := (52 : Int32)) dX5_take_49 (by decide) ?_
    obtain ⟨g7, hf⟩ := vv_gd hf
    refine vi_iald (vv_model_row h0) g7 dX5_take_51 ?_
    obtain rfl := Option.some.inj hf
    exact vi_ret (v := some (.int (M6 (p0 + 1) (52 : Int32).toNatClampNeg))) rfl ⟨dX5_take_52, .int, rfl, rfl⟩ ⟨rfl, rfl, rfl⟩
  · rw [if_pos c2] at hf
    refine vi_sipush (v := (-1001 : Int32)) dX5_take_9 (by decide) ?_
    obtain rfl := Option.some.inj hf
    exact vi_ret (v := some (.int (-1001 : Int32))) rfl ⟨dX5_take_12, .int, rfl, rfl⟩ ⟨rfl, rfl, rfl⟩
set_option maxRecDepth 20000 in
theorem t_X5_restore {S : List vv_Sh} (n : Nat) (p0 : Nat) (x1 : Int32) (M : vv_M) (u : Int32 × vv_M) (h0 : vv_model S p0) (hf : f_X5_restore n p0 x1 M = some u) : vv_C yX5_restore (vv_w yX5_restore cX5_restore 2 (some .int)) (vv_R 2 0 0) [.ref p0, .int x1] S M (some (.int u.1)) S u.2 := by
  refine vv_ofV (by decide +kernel) (Nat.le_of_ble_eq_true rfl) (L := [(0, .ref p0), (1, .int x1)]) rfl rfl rfl ?_
  show vv_V [] yX5_restore.cls yX5_restore.name cX5_restore 2 (some .int) (vv_R 2 0 0) S.length (vv_sz S) (vv_fi S u) 0 [(0, .ref p0), (1, .int x1)] [] S M
  unfold f_X5_restore at hf
  refine vi_iload_n 1 dX5_restore_0 rfl rfl ?_
  refine vi_iconst (v := (0 : Int32)) dX5_restore_1 (by decide) ?_
  refine vi_iconst (v := (1 : Int32)) dX5_restore_2 (by decide) ?_
  obtain ⟨u1, hu1, hf⟩ := vv_bd hf
  refine vi_callS (As := [.int x1, .int (0 : Int32), .int (1 : Int32)]) (st := []) (t_X5_in n x1 (0 : Int32) (1 : Int32) M u1  hu1) rfl yo_X5_in wm_X5_23 wi_X5_in wI_X5 wc_X5_in ⟨Nat.le_of_ble_eq_true rfl, Nat.le_of_ble_eq_true rfl⟩ (vv_rm0 rfl rfl) (Nat.le_of_ble_eq_true rfl) rfl rfl dX5_restore_3 ?_
  refine vi_if_ne 13 dX5_restore_6 (by decide) (fun c2 => ?_) (fun c2 => ?_)
  · rw [if_neg c2] at hf
    refine vi_aload_n 0 dX5_restore_13 rfl rfl ?_
    refine vi_getr (t := p0 + 1) 0 rfl (vv_model_o h0) rfl wu_X5 (by decide) wf_X5_7 dX5_restore_14 ?_
    refine vi_sipush (v := (2121 : Int32)) dX5_restore_17 (by decide) ?_
    refine vi_iload_n 1 dX5_restore_20 rfl rfl ?_
    refine vi_iadd dX5_restore_21 ?_
    obtain ⟨g7, hf⟩ := vv_gd hf
    refine vi_iald (vv_model_row h0) g7 dX5_restore_22 ?_
    refine vi_if_ne 30 dX5_restore_23 (by decide) (fun c3 => ?_) (fun c3 => ?_)
    · rw [if_neg c3] at hf
      refine vi_aload_n 0 dX5_restore_30 rfl rfl ?_
      obtain ⟨u4, hu4, hf⟩ := vv_bd hf
      refine vi_callV (As := []) (st := []) (t_X5_record n p0 u1.2 u4 h0 hu4) rfl yo_X5_record wm_X5_38 wi_X5_record ws_X5_record wI_X5 wc_X5_record (vv_model_o h0) rfl ⟨Nat.le_of_ble_eq_true rfl, Nat.le_of_ble_eq_true rfl⟩ (vv_rm0 rfl rfl) (Nat.le_of_ble_eq_true rfl) rfl rfl dX5_restore_31 ?_
      refine vi_aload_n 0 dX5_restore_34 rfl rfl ?_
      refine vi_sipush (v := (707 : Int32)) dX5_restore_35 (by decide) ?_
      refine vi_sipush (v := (707 : Int32)) dX5_restore_38 (by decide) ?_
      refine vi_iload_n 1 dX5_restore_41 rfl rfl ?_
      refine vi_imul dX5_restore_42 ?_
      refine vi_iadd dX5_restore_43 ?_
      refine vi_iconst (v := (0 : Int32)) dX5_restore_44 (by decide) ?_
      refine vi_sipush (v := (707 : Int32)) dX5_restore_45 (by decide) ?_
      obtain ⟨u5, hu5, hf⟩ := vv_bd hf
      refine vi_callV (As := [.int ((707 : Int32) + ((707 : Int32) * x1)), .int (0 : Int32), .int (707 : Int32)]) (st := []) (t_X5_copy n p0 ((707 : Int32) + ((707 : Int32) * x1)) (0 : Int32) (707 : Int32) u4.2 u5 h0 hu5) rfl yo_X5_copy wm_X5_34 wi_X5_copy ws_X5_copy wI_X5 wc_X5_copy (vv_model_o h0) rfl ⟨Nat.le_of_ble_eq_true rfl, Nat.le_of_ble_eq_true rfl⟩ (vv_rm0 rfl rfl) (Nat.le_of_ble_eq_true rfl) rfl rfl dX5_restore_48 ?_
      refine vi_aload_n 0 dX5_restore_51 rfl rfl ?_
      refine vi_getr (t := p0 + 1) 0 rfl (vv_model_o h0) rfl wu_X5 (by decide) wf_X5_7 dX5_restore_52 ?_
      refine vi_bipush (v := (52 : Int32)) dX5_restore_55 (by decide) ?_
      obtain ⟨g6, hf⟩ := vv_gd hf
      refine vi_iald (vv_model_row h0) g6 dX5_restore_57 ?_
      obtain rfl := Option.some.inj hf
      exact vi_ret (v := some (.int (u5.2 (p0 + 1) (52 : Int32).toNatClampNeg))) rfl ⟨dX5_restore_58, .int, rfl, rfl⟩ ⟨rfl, rfl, rfl⟩
    · rw [if_pos c3] at hf
      refine vi_sipush (v := (-1002 : Int32)) dX5_restore_26 (by decide) ?_
      obtain rfl := Option.some.inj hf
      exact vi_ret (v := some (.int (-1002 : Int32))) rfl ⟨dX5_restore_29, .int, rfl, rfl⟩ ⟨rfl, rfl, rfl⟩
  · rw [if_pos c2] at hf
    refine vi_sipush (v := (-1001 : Int32)) dX5_restore_9 (by decide) ?_
    obtain rfl := Option.some.inj hf
    exact vi_ret (v := some (.int (-1001 : Int32))) rfl ⟨dX5_restore_12, .int, rfl, rfl⟩ ⟨rfl, rfl, rfl⟩
set_option maxRecDepth 20000 in
theorem t_X5_belt_4 {S : List vv_Sh} (n : Nat)  (u : Int32 × vv_M)  : ∀ (k : Nat) (p0 : Nat) (x1 : Int32) (x2 : Int32) (M : vv_M) (h0 : vv_model S p0) (hf : f_X5_belt_4 n  k p0 x1 x2 M = some u), vv_V [] yX5_belt.cls yX5_belt.name cX5_belt 3 (some .int) (vv_R 1 0 0) S.length (vv_sz S) (vv_fi S u) 4 [(0, .ref p0), (1, .int x1), (2, .int x2)] [] S M := by
  intro k
  induction k with
  | zero =>
    intro p0 x1 x2 M h0 hf
    exact absurd (show (none : Option (Int32 × vv_M)) = some u from hf) (by simp)
  | succ k ih =>
    intro p0 x1 x2 M h0 hf
    rw [f_X5_belt_4.eq_2] at hf
    refine vi_iload_n 2 dX5_belt_4 rfl rfl ?_
    refine vi_bipush (v := (6 : Int32)) dX5_belt_5 (by decide) ?_
    refine vi_icmp_ge 29 dX5_belt_7 (by decide) (fun c1 => ?_) (fun c1 => ?_)
    · rw [if_pos c1] at hf
      refine vi_iload_n 1 dX5_belt_29 rfl rfl ?_
      obtain rfl := Option.some.inj hf
      exact vi_ret (v := some (.int x1)) rfl ⟨dX5_belt_30, .int, rfl, rfl⟩ ⟨rfl, rfl, rfl⟩
    · rw [if_neg c1] at hf
      refine vi_iload_n 1 dX5_belt_10 rfl rfl ?_
      refine vi_aload_n 0 dX5_belt_11 rfl rfl ?_
      refine vi_getr (t := p0 + 1) 0 rfl (vv_model_o h0) rfl wu_X5 (by decide) wf_X5_7 dX5_belt_12 ?_
      refine vi_iload_n 2 dX5_belt_15 rfl rfl ?_
      refine vi_iconst (v := (0 : Int32)) dX5_belt_16 (by decide) ?_
      obtain ⟨u2, hu2, hf⟩ := vv_bd hf
      refine vi_callS (As := [.int x2, .int (0 : Int32)]) (st := [.ref (p0 + 1), .int x1]) (t_X5_ofZone n x2 (0 : Int32) M u2  hu2) rfl yo_X5_ofZone wm_X5_16 wi_X5_ofZone wI_X5 wc_X5_ofZone ⟨Nat.le_of_ble_eq_true rfl, Nat.le_of_ble_eq_true rfl⟩ (vv_rm0 rfl rfl) (Nat.le_of_ble_eq_true rfl) rfl rfl dX5_belt_17 ?_
      obtain ⟨g5, hf⟩ := vv_gd hf
      refine vi_iald (vv_model_row h0) g5 dX5_belt_20 ?_
      refine vi_iadd dX5_belt_21 ?_
      obtain ⟨y3, ey3, hf⟩ := vv_lt hf
      refine vi_istore_n (L' := [(1, .int y3), (0, .ref p0), (2, .int x2)]) dX5_belt_22 rfl (by decide) (by rw [ey3]; rfl) ?_
      obtain ⟨y4, ey4, hf⟩ := vv_lt hf
      refine vi_iinc (v := y4) (L' := [(2, .int y4), (1, .int y3), (0, .ref p0)]) 2 dX5_belt_23 rfl (by rw [ey4]; rfl) (by decide) rfl ?_
      refine vi_goto 4 dX5_belt_26 (by decide) ?_
      refine vi_sub (L' := [(0, .ref p0), (1, .int y3), (2, .int y4)]) [2, 1, 0] rfl ?_
      exact ih p0 y3 y4 u2.2 h0 hf
set_option maxRecDepth 20000 in
theorem t_X5_belt {S : List vv_Sh} (n : Nat) (p0 : Nat) (M : vv_M) (u : Int32 × vv_M) (h0 : vv_model S p0) (hf : f_X5_belt n p0 M = some u) : vv_C yX5_belt (vv_w yX5_belt cX5_belt 3 (some .int)) (vv_R 1 0 0) [.ref p0] S M (some (.int u.1)) S u.2 := by
  refine vv_ofV (by decide +kernel) (Nat.le_of_ble_eq_true rfl) (L := [(0, .ref p0)]) rfl rfl rfl ?_
  show vv_V [] yX5_belt.cls yX5_belt.name cX5_belt 3 (some .int) (vv_R 1 0 0) S.length (vv_sz S) (vv_fi S u) 0 [(0, .ref p0)] [] S M
  unfold f_X5_belt at hf
  refine vi_iconst (v := (0 : Int32)) dX5_belt_0 (by decide) ?_
  refine vi_istore_n (L' := [(1, .int (0 : Int32)), (0, .ref p0)]) dX5_belt_1 rfl (by decide) rfl ?_
  refine vi_iconst (v := (0 : Int32)) dX5_belt_2 (by decide) ?_
  refine vi_istore_n (L' := [(2, .int (0 : Int32)), (1, .int (0 : Int32)), (0, .ref p0)]) dX5_belt_3 rfl (by decide) rfl ?_
  refine vi_sub (L' := [(0, .ref p0), (1, .int (0 : Int32)), (2, .int (0 : Int32))]) [2, 1, 0] rfl ?_
  exact t_X5_belt_4 n  u  n p0 (0 : Int32) (0 : Int32) M h0 hf
set_option maxRecDepth 20000 in
theorem t_X5_zoneOf_4 {S : List vv_Sh} (n : Nat)  (u : Int32 × vv_M)  : ∀ (k : Nat) (p0 : Nat) (x2 : Int32) (x3 : Int32) (M : vv_M) (h0 : vv_model S p0) (hf : f_X5_zoneOf_4 n  k p0 x2 x3 M = some u), vv_V [] yX5_zoneOf.cls yX5_zoneOf.name cX5_zoneOf 4 (some .int) (vv_R 1 0 0) S.length (vv_sz S) (vv_fi S u) 4 [(0, .ref p0), (2, .int x2), (3, .int x3)] [] S M := by
  intro k
  induction k with
  | zero =>
    intro p0 x2 x3 M h0 hf
    exact absurd (show (none : Option (Int32 × vv_M)) = some u from hf) (by simp)
  | succ k ih =>
    intro p0 x2 x3 M h0 hf
    rw [f_X5_zoneOf_4.eq_2] at hf
    refine vi_iload_n 2 dX5_zoneOf_4 rfl rfl ?_
    refine vi_aload_n 0 dX5_zoneOf_5 rfl rfl ?_
    refine vi_getr (t := p0 + 1) 0 rfl (vv_model_o h0) rfl wu_X5 (by decide) wf_X5_7 dX5_zoneOf_6 ?_
    refine vi_iload_n 1 dX5_zoneOf_9 rfl rfl ?_
    refine vi_iconst (v := (0 : Int32)) dX5_zoneOf_10 (by decide) ?_
    obtain ⟨u1, hu1, hf⟩ := vv_bd hf
    refine vi_callS (As := [.int x2, .int (0 : Int32)]) (st := [.ref (p0 + 1), .int x3]) (t_X5_ofZone n x2 (0 : Int32) M u1  hu1) rfl yo_X5_ofZone wm_X5_16 wi_X5_ofZone wI_X5 wc_X5_ofZone ⟨Nat.le_of_ble_eq_true rfl, Nat.le_of_ble_eq_true rfl⟩ (vv_rm0 rfl rfl) (Nat.le_of_ble_eq_true rfl) rfl rfl dX5_zoneOf_11 ?_
    obtain ⟨g7, hf⟩ := vv_gd hf
    refine vi_iald (vv_model_row h0) g7 dX5_zoneOf_14 ?_
    refine vi_icmp_lt 37 dX5_zoneOf_15 (by decide) (fun c2 => ?_) (fun c2 => ?_)
    · rw [if_pos c2] at hf
      refine vi_iload_n 1 dX5_zoneOf_37 rfl rfl ?_
      obtain rfl := Option.some.inj hf
      exact vi_ret (v := some (.int x2)) rfl ⟨dX5_zoneOf_38, .int, rfl, rfl⟩ ⟨rfl, rfl, rfl⟩
    · rw [if_neg c2] at hf
      refine vi_iload_n 2 dX5_zoneOf_18 rfl rfl ?_
      refine vi_aload_n 0 dX5_zoneOf_19 rfl rfl ?_
      refine vi_getr (t := p0 + 1) 0 rfl (vv_model_o h0) rfl wu_X5 (by decide) wf_X5_7 dX5_zoneOf_20 ?_
      refine vi_iload_n 1 dX5_zoneOf_23 rfl rfl ?_
      refine vi_iconst (v := (0 : Int32)) dX5_zoneOf_24 (by decide) ?_
      obtain ⟨u3, hu3, hf⟩ := vv_bd hf
      refine vi_callS (As := [.int x2, .int (0 : Int32)]) (st := [.ref (p0 + 1), .int x3]) (t_X5_ofZone n x2 (0 : Int32) u1.2 u3  hu3) rfl yo_X5_ofZone wm_X5_16 wi_X5_ofZone wI_X5 wc_X5_ofZone ⟨Nat.le_of_ble_eq_true rfl, Nat.le_of_ble_eq_true rfl⟩ (vv_rm0 rfl rfl) (Nat.le_of_ble_eq_true rfl) rfl rfl dX5_zoneOf_25 ?_
      obtain ⟨g6, hf⟩ := vv_gd hf
      refine vi_iald (vv_model_row h0) g6 dX5_zoneOf_28 ?_
      refine vi_isub dX5_zoneOf_29 ?_
      obtain ⟨y4, ey4, hf⟩ := vv_lt hf
      refine vi_istore_n (L' := [(3, .int y4), (0, .ref p0), (2, .int x2)]) dX5_zoneOf_30 rfl (by decide) (by rw [ey4]; rfl) ?_
      obtain ⟨y5, ey5, hf⟩ := vv_lt hf
      refine vi_iinc (v := y5) (L' := [(2, .int y5), (3, .int y4), (0, .ref p0)]) 2 dX5_zoneOf_31 rfl (by rw [ey5]; rfl) (by decide) rfl ?_
      refine vi_goto 4 dX5_zoneOf_34 (by decide) ?_
      refine vi_sub (L' := [(0, .ref p0), (2, .int y5), (3, .int y4)]) [2, 0, 1] rfl ?_
      exact ih p0 y5 y4 u3.2 h0 hf
set_option maxRecDepth 20000 in
theorem t_X5_zoneOf {S : List vv_Sh} (n : Nat) (p0 : Nat) (x1 : Int32) (M : vv_M) (u : Int32 × vv_M) (h0 : vv_model S p0) (hf : f_X5_zoneOf n p0 x1 M = some u) : vv_C yX5_zoneOf (vv_w yX5_zoneOf cX5_zoneOf 4 (some .int)) (vv_R 1 0 0) [.ref p0, .int x1] S M (some (.int u.1)) S u.2 := by
  refine vv_ofV (by decide +kernel) (Nat.le_of_ble_eq_true rfl) (L := [(0, .ref p0), (1, .int x1)]) rfl rfl rfl ?_
  show vv_V [] yX5_zoneOf.cls yX5_zoneOf.name cX5_zoneOf 4 (some .int) (vv_R 1 0 0) S.length (vv_sz S) (vv_fi S u) 0 [(0, .ref p0), (1, .int x1)] [] S M
  unfold f_X5_zoneOf at hf
  refine vi_iconst (v := (0 : Int32)) dX5_zoneOf_0 (by decide) ?_
  refine vi_istore_n (L' := [(2, .int (0 : Int32)), (0, .ref p0), (1, .int x1)]) dX5_zoneOf_1 rfl (by decide) rfl ?_
  refine vi_iload_n 2 dX5_zoneOf_2 rfl rfl ?_
  refine vi_istore_n (L' := [(3, .int x1), (2, .int (0 : Int32)), (0, .ref p0), (1, .int x1)]) dX5_zoneOf_3 rfl (by decide) rfl ?_
  refine vi_sub (L' := [(0, .ref p0), (2, .int (0 : Int32)), (3, .int x1)]) [2, 1, 0] rfl ?_
  exact t_X5_zoneOf_4 n  u  n p0 (0 : Int32) x1 M h0 hf
set_option maxRecDepth 20000 in
theorem t_X5_many_35 {S : List vv_Sh} (n : Nat) (k4 : Nat → Int32 → Int32 → Int32 → vv_M → Option (Int32 × vv_M)) (u : Int32 × vv_M) (hk4 : ∀ (p0 : Nat) (x1 : Int32) (x2 : Int32) (x3 : Int32) (M : vv_M) (h0 : vv_model S p0) (hf : k4 p0 x1 x2 x3 M = some u), vv_V [] yX5_many.cls yX5_many.name cX5_many 4 (some .int) (vv_R 1 0 0) S.length (vv_sz S) (vv_fi S u) 4 [(0, .ref p0), (1, .int x1), (2, .int x2), (3, .int x3)] [] S M) (p0 : Nat) (x1 : Int32) (x3 : Int32) (s0 : Int32) (s1 : Int32) (M : vv_M) (h0 : vv_model S p0) (hf : f_X5_many_35 n k4 p0 x1 x3 s0 s1 M = some u) : vv_V [] yX5_many.cls yX5_many.name cX5_many 4 (some .int) (vv_R 1 0 0) S.length (vv_sz S) (vv_fi S u) 35 [(0, .ref p0), (1, .int x1), (3, .int x3)] [.int s1, .int s0] S M := by
  unfold f_X5_many_35 at hf
  refine vi_iadd dX5_many_35 ?_
  obtain ⟨y4, ey4, hf⟩ := vv_lt hf
  refine vi_istore_n (L' := [(2, .int y4), (0, .ref p0), (1, .int x1), (3, .int x3)]) dX5_many_36 rfl (by decide) (by rw [ey4]; rfl) ?_
  obtain ⟨y5, ey5, hf⟩ := vv_lt hf
  refine vi_iinc (v := y5) (L' := [(3, .int y5), (2, .int y4), (0, .ref p0), (1, .int x1)]) 3 dX5_many_37 rfl (by rw [ey5]; rfl) (by decide) rfl ?_
  refine vi_goto 4 dX5_many_40 (by decide) ?_
  refine vi_sub (L' := [(0, .ref p0), (1, .int x1), (2, .int y4), (3, .int y5)]) [2, 3, 1, 0] rfl ?_
  exact hk4 p0 x1 y4 y5 M h0 hf
set_option maxRecDepth 20000 in
theorem t_X5_many_4 {S : List vv_Sh} (n : Nat)  (u : Int32 × vv_M)  : ∀ (k : Nat) (p0 : Nat) (x1 : Int32) (x2 : Int32) (x3 : Int32) (M : vv_M) (h0 : vv_model S p0) (hf : f_X5_many_4 n  k p0 x1 x2 x3 M = some u), vv_V [] yX5_many.cls yX5_many.name cX5_many 4 (some .int) (vv_R 1 0 0) S.length (vv_sz S) (vv_fi S u) 4 [(0, .ref p0), (1, .int x1), (2, .int x2), (3, .int x3)] [] S M := by
  intro k
  induction k with
  | zero =>
    intro p0 x1 x2 x3 M h0 hf
    exact absurd (show (none : Option (Int32 × vv_M)) = some u from hf) (by simp)
  | succ k ih =>
    intro p0 x1 x2 x3 M h0 hf
    rw [f_X5_many_4.eq_2] at hf
    refine vi_iload_n 3 dX5_many_4 rfl rfl ?_
    refine vi_aload_n 0 dX5_many_5 rfl rfl ?_
    refine vi_getr (t := p0 + 1) 0 rfl (vv_model_o h0) rfl wu_X5 (by decide) wf_X5_7 dX5_many_6 ?_
    refine vi_bipush (v := (53 : Int32)) dX5_many_9 (by decide) ?_
    obtain ⟨g7, hf⟩ := vv_gd hf
    refine vi_iald (vv_model_row h0) g7 dX5_many_11 ?_
    refine vi_icmp_ge 43 dX5_many_12 (by decide) (fun c1 => ?_) (fun c1 => ?_)
    · rw [if_pos c1] at hf
      refine vi_iload_n 2 dX5_many_43 rfl rfl ?_
      obtain rfl := Option.some.inj hf
      exact vi_ret (v := some (.int x2)) rfl ⟨dX5_many_44, .int, rfl, rfl⟩ ⟨rfl, rfl, rfl⟩
    · rw [if_neg c1] at hf
      refine vi_iload_n 2 dX5_many_15 rfl rfl ?_
      refine vi_aload_n 0 dX5_many_16 rfl rfl ?_
      refine vi_getr (t := p0 + 1) 0 rfl (vv_model_o h0) rfl wu_X5 (by decide) wf_X5_7 dX5_many_17 ?_
      refine vi_iload_n 3 dX5_many_20 rfl rfl ?_
      refine vi_iconst (v := (2 : Int32)) dX5_many_21 (by decide) ?_
      obtain ⟨u2, hu2, hf⟩ := vv_bd hf
      refine vi_callS (As := [.int x3, .int (2 : Int32)]) (st := [.ref (p0 + 1), .int x2]) (t_X5_of n x3 (2 : Int32) M u2  hu2) rfl yo_X5_of wm_X5_27 wi_X5_of wI_X5 wc_X5_of ⟨Nat.le_of_ble_eq_true rfl, Nat.le_of_ble_eq_true rfl⟩ (vv_rm0 rfl rfl) (Nat.le_of_ble_eq_true rfl) rfl rfl dX5_many_22 ?_
      obtain ⟨g6, hf⟩ := vv_gd hf
      refine vi_iald (vv_model_row h0) g6 dX5_many_25 ?_
      refine vi_iload_n 1 dX5_many_26 rfl rfl ?_
      refine vi_icmp_ne 34 dX5_many_27 (by decide) (fun c3 => ?_) (fun c3 => ?_)
      · rw [if_neg c3] at hf
        refine vi_iconst (v := (0 : Int32)) dX5_many_34 (by decide) ?_
        refine vi_sub (L' := [(0, .ref p0), (1, .int x1), (3, .int x3)]) [0, 1, 3] rfl ?_
        exact t_X5_many_35 n (f_X5_many_4 n k) u ih p0 x1 x3 x2 (0 : Int32) u2.2 h0 hf
      · rw [if_pos c3] at hf
        refine vi_iconst (v := (1 : Int32)) dX5_many_30 (by decide) ?_
        refine vi_goto 35 dX5_many_31 (by decide) ?_
        refine vi_sub (L' := [(0, .ref p0), (1, .int x1), (3, .int x3)]) [0, 1, 3] rfl ?_
        exact t_X5_many_35 n (f_X5_many_4 n k) u ih p0 x1 x3 x2 (1 : Int32) u2.2 h0 hf
set_option maxRecDepth 20000 in
theorem t_X5_many {S : List vv_Sh} (n : Nat) (p0 : Nat) (x1 : Int32) (M : vv_M) (u : Int32 × vv_M) (h0 : vv_model S p0) (hf : f_X5_many n p0 x1 M = some u) : vv_C yX5_many (vv_w yX5_many cX5_many 4 (some .int)) (vv_R 1 0 0) [.ref p0, .int x1] S M (some (.int u.1)) S u.2 := by
  refine vv_ofV (by decide +kernel) (Nat.le_of_ble_eq_true rfl) (L := [(0, .ref p0), (1, .int x1)]) rfl rfl rfl ?_
  show vv_V [] yX5_many.cls yX5_many.name cX5_many 4 (some .int) (vv_R 1 0 0) S.length (vv_sz S) (vv_fi S u) 0 [(0, .ref p0), (1, .int x1)] [] S M
  unfold f_X5_many at hf
  refine vi_iconst (v := (0 : Int32)) dX5_many_0 (by decide) ?_
  refine vi_istore_n (L' := [(2, .int (0 : Int32)), (0, .ref p0), (1, .int x1)]) dX5_many_1 rfl (by decide) rfl ?_
  refine vi_iconst (v := (0 : Int32)) dX5_many_2 (by decide) ?_
  refine vi_istore_n (L' := [(3, .int (0 : Int32)), (2, .int (0 : Int32)), (0, .ref p0), (1, .int x1)]) dX5_many_3 rfl (by decide) rfl ?_
  refine vi_sub (L' := [(0, .ref p0), (1, .int x1), (2, .int (0 : Int32)), (3, .int (0 : Int32))]) [2, 3, 1, 0] rfl ?_
  exact t_X5_many_4 n  u  n p0 x1 (0 : Int32) (0 : Int32) M h0 hf
set_option maxRecDepth 20000 in
theorem t_X5_setZone_82 {S : List vv_Sh} (n : Nat)  (u : Int32 × vv_M)  (p0 : Nat) (x1 : Int32) (x3 : Int32) (x4 : Int32) (M : vv_M) (h0 : vv_model S p0) (hf : f_X5_setZone_82 n  p0 x1 x3 x4 M = some u) : vv_V [] yX5_setZone.cls yX5_setZone.name cX5_setZone 5 (some .int) (vv_R 2 0 0) S.length (vv_sz S) (vv_fi S u) 82 [(0, .ref p0), (1, .int x1), (3, .int x3), (4, .int x4)] [] S M := by
  unfold f_X5_setZone_82 at hf
  refine vi_aload_n 0 dX5_setZone_82 rfl rfl ?_
  refine vi_getr (t := p0 + 1) 0 rfl (vv_model_o h0) rfl wu_X5 (by decide) wf_X5_7 dX5_setZone_83 ?_
  refine vi_iload_n 1 dX5_setZone_86 rfl rfl ?_
  refine vi_iconst (v := (2 : Int32)) dX5_setZone_87 (by decide) ?_
  obtain ⟨u18, hu18, hf⟩ := vv_bd hf
  refine vi_callS (As := [.int x1, .int (2 : Int32)]) (st := [.ref (p0 + 1)]) (t_X5_ofZone n x1 (2 : Int32) M u18  hu18) rfl yo_X5_ofZone wm_X5_16 wi_X5_ofZone wI_X5 wc_X5_ofZone ⟨Nat.le_of_ble_eq_true rfl, Nat.le_of_ble_eq_true rfl⟩ (vv_rm0 rfl rfl) (Nat.le_of_ble_eq_true rfl) rfl rfl dX5_setZone_88 ?_
  refine vi_iload 3 dX5_setZone_91 rfl ?_
  obtain ⟨g19, hf⟩ := vv_gd hf
  obtain ⟨M20, eM20, hf⟩ := vv_lt hf
  refine vi_iast (vv_model_row h0) g19 eM20.symm dX5_setZone_93 ?_
  refine vi_aload_n 0 dX5_setZone_94 rfl rfl ?_
  refine vi_getr (t := p0 + 1) 0 rfl (vv_model_o h0) rfl wu_X5 (by decide) wf_X5_7 dX5_setZone_95 ?_
  refine vi_iload_n 1 dX5_setZone_98 rfl rfl ?_
  refine vi_iconst (v := (3 : Int32)) dX5_setZone_99 (by decide) ?_
  obtain ⟨u21, hu21, hf⟩ := vv_bd hf
  refine vi_callS (As := [.int x1, .int (3 : Int32)]) (st := [.ref (p0 + 1)]) (t_X5_ofZone n x1 (3 : Int32) M20 u21  hu21) rfl yo_X5_ofZone wm_X5_16 wi_X5_ofZone wI_X5 wc_X5_ofZone ⟨Nat.le_of_ble_eq_true rfl, Nat.le_of_ble_eq_true rfl⟩ (vv_rm0 rfl rfl) (Nat.le_of_ble_eq_true rfl) rfl rfl dX5_setZone_100 ?_
  refine vi_iload_n 2 dX5_setZone_103 rfl rfl ?_
  obtain ⟨g22, hf⟩ := vv_gd hf
  obtain ⟨M23, eM23, hf⟩ := vv_lt hf
  refine vi_iast (vv_model_row h0) g22 eM23.symm dX5_setZone_104 ?_
  refine vi_aload_n 0 dX5_setZone_105 rfl rfl ?_
  obtain ⟨u24, hu24, hf⟩ := vv_bd hf
  refine vi_callV (As := []) (st := []) (t_X5_belt n p0 M23 u24 h0 hu24) rfl yo_X5_belt wm_X5_49 wi_X5_belt ws_X5_belt wI_X5 wc_X5_belt (vv_model_o h0) rfl ⟨Nat.le_of_ble_eq_true rfl, Nat.le_of_ble_eq_true rfl⟩ (vv_rm0 rfl rfl) (Nat.le_of_ble_eq_true rfl) rfl rfl dX5_setZone_106 ?_
  obtain rfl := Option.some.inj hf
  exact vi_ret (v := some (.int u24.1)) rfl ⟨dX5_setZone_109, .int, rfl, rfl⟩ ⟨rfl, rfl, rfl⟩
set_option maxRecDepth 20000 in
theorem t_X5_setZone_56 {S : List vv_Sh} (n : Nat)  (u : Int32 × vv_M)  (p0 : Nat) (x1 : Int32) (x2 : Int32) (x3 : Int32) (x4 : Int32) (M : vv_M) (h0 : vv_model S p0) (hf : f_X5_setZone_56 n  p0 x1 x2 x3 x4 M = some u) : vv_V [] yX5_setZone.cls yX5_setZone.name cX5_setZone 5 (some .int) (vv_R 2 0 0) S.length (vv_sz S) (vv_fi S u) 56 [(0, .ref p0), (1, .int x1), (2, .int x2), (3, .int x3), (4, .int x4)] [] S M := by
  unfold f_X5_setZone_56 at hf
  refine vi_aload_n 0 dX5_setZone_56 rfl rfl ?_
  obtain ⟨u11, hu11, hf⟩ := vv_bd hf
  refine vi_callV (As := []) (st := []) (t_X5_record n p0 M u11 h0 hu11) rfl yo_X5_record wm_X5_38 wi_X5_record ws_X5_record wI_X5 wc_X5_record (vv_model_o h0) rfl ⟨Nat.le_of_ble_eq_true rfl, Nat.le_of_ble_eq_true rfl⟩ (vv_rm0 rfl rfl) (Nat.le_of_ble_eq_true rfl) rfl rfl dX5_setZone_57 ?_
  refine vi_aload_n 0 dX5_setZone_60 rfl rfl ?_
  refine vi_getr (t := p0 + 1) 0 rfl (vv_model_o h0) rfl wu_X5 (by decide) wf_X5_7 dX5_setZone_61 ?_
  refine vi_iload_n 1 dX5_setZone_64 rfl rfl ?_
  refine vi_iconst (v := (0 : Int32)) dX5_setZone_65 (by decide) ?_
  obtain ⟨u12, hu12, hf⟩ := vv_bd hf
  refine vi_callS (As := [.int x1, .int (0 : Int32)]) (st := [.ref (p0 + 1)]) (t_X5_ofZone n x1 (0 : Int32) u11.2 u12  hu12) rfl yo_X5_ofZone wm_X5_16 wi_X5_ofZone wI_X5 wc_X5_ofZone ⟨Nat.le_of_ble_eq_true rfl, Nat.le_of_ble_eq_true rfl⟩ (vv_rm0 rfl rfl) (Nat.le_of_ble_eq_true rfl) rfl rfl dX5_setZone_66 ?_
  refine vi_iload_n 2 dX5_setZone_69 rfl rfl ?_
  obtain ⟨g13, hf⟩ := vv_gd hf
  obtain ⟨M14, eM14, hf⟩ := vv_lt hf
  refine vi_iast (vv_model_row h0) g13 eM14.symm dX5_setZone_70 ?_
  refine vi_aload_n 0 dX5_setZone_71 rfl rfl ?_
  refine vi_getr (t := p0 + 1) 0 rfl (vv_model_o h0) rfl wu_X5 (by decide) wf_X5_7 dX5_setZone_72 ?_
  refine vi_iload_n 1 dX5_setZone_75 rfl rfl ?_
  refine vi_iconst (v := (1 : Int32)) dX5_setZone_76 (by decide) ?_
  obtain ⟨u15, hu15, hf⟩ := vv_bd hf
  refine vi_callS (As := [.int x1, .int (1 : Int32)]) (st := [.ref (p0 + 1)]) (t_X5_ofZone n x1 (1 : Int32) M14 u15  hu15) rfl yo_X5_ofZone wm_X5_16 wi_X5_ofZone wI_X5 wc_X5_ofZone ⟨Nat.le_of_ble_eq_true rfl, Nat.le_of_ble_eq_true rfl⟩ (vv_rm0 rfl rfl) (Nat.le_of_ble_eq_true rfl) rfl rfl dX5_setZone_77 ?_
  refine vi_iload_n 3 dX5_setZone_80 rfl rfl ?_
  obtain ⟨g16, hf⟩ := vv_gd hf
  obtain ⟨M17, eM17, hf⟩ := vv_lt hf
  refine vi_iast (vv_model_row h0) g16 eM17.symm dX5_setZone_81 ?_
  refine vi_sub (L' := [(0, .ref p0), (1, .int x1), (3, .int x3), (4, .int x4)]) [0, 1, 3, 4] rfl ?_
  exact t_X5_setZone_82 n  u  p0 x1 x3 x4 M17 h0 hf
set_option maxRecDepth 20000 in
theorem t_X5_setZone {S : List vv_Sh} (n : Nat) (p0 : Nat) (x1 : Int32) (x2 : Int32) (x3 : Int32) (x4 : Int32) (M : vv_M) (u : Int32 × vv_M) (h0 : vv_model S p0) (hf : f_X5_setZone n p0 x1 x2 x3 x4 M = some u) : vv_C yX5_setZone (vv_w yX5_setZone cX5_setZone 5 (some .int)) (vv_R 2 0 0) [.ref p0, .int x1, .int x2, .int x3, .int x4] S M (some (.int u.1)) S u.2 := by
  refine vv_ofV (by decide +kernel) (Nat.le_of_ble_eq_true rfl) (L := [(0, .ref p0), (1, .int x1), (2, .int x2), (3, .int x3), (4, .int x4)]) rfl rfl rfl ?_
  show vv_V [] yX5_setZone.cls yX5_setZone.name cX5_setZone 5 (some .int) (vv_R 2 0 0) S.length (vv_sz S) (vv_fi S u) 0 [(0, .ref p0), (1, .int x1), (2, .int x2), (3, .int x3), (4, .int x4)] [] S M
  unfold f_X5_setZone at hf
  refine vi_iload_n 1 dX5_setZone_0 rfl rfl ?_
  obtain ⟨u1, hu1, hf⟩ := vv_bd hf
  refine vi_callS (As := [.int x1]) (st := []) (t_X5_isZone n x1 M u1  hu1) rfl yo_X5_isZone wm_X5_41 wi_X5_isZone wI_X5 wc_X5_isZone ⟨Nat.le_of_ble_eq_true rfl, Nat.le_of_ble_eq_true rfl⟩ (vv_rm0 rfl rfl) (Nat.le_of_ble_eq_true rfl) rfl rfl dX5_setZone_1 ?_
  refine vi_if_eq 40 dX5_setZone_4 (by decide) (fun c2 => ?_) (fun c2 => ?_)
  · rw [if_pos c2] at hf
    refine vi_sipush (v := (-1001 : Int32)) dX5_setZone_40 (by decide) ?_
    obtain rfl := Option.some.inj hf
    exact vi_ret (v := some (.int (-1001 : Int32))) rfl ⟨dX5_setZone_43, .int, rfl, rfl⟩ ⟨rfl, rfl, rfl⟩
  · rw [if_neg c2] at hf
    refine vi_iload_n 2 dX5_setZone_7 rfl rfl ?_
    refine vi_iconst (v := (2 : Int32)) dX5_setZone_8 (by decide) ?_
    refine vi_bipush (v := (8 : Int32)) dX5_setZone_9 (by decide) ?_
    obtain ⟨u3, hu3, hf⟩ := vv_bd hf
    refine vi_callS (As := [.int x2, .int (2 : Int32), .int (8 : Int32)]) (st := []) (t_X5_in n x2 (2 : Int32) (8 : Int32) u1.2 u3  hu3) rfl yo_X5_in wm_X5_23 wi_X5_in wI_X5 wc_X5_in ⟨Nat.le_of_ble_eq_true rfl, Nat.le_of_ble_eq_true rfl⟩ (vv_rm0 rfl rfl) (Nat.le_of_ble_eq_true rfl) rfl rfl dX5_setZone_11 ?_
    refine vi_if_eq 40 dX5_setZone_14 (by decide) (fun c4 => ?_) (fun c4 => ?_)
    · rw [if_pos c4] at hf
      refine vi_sipush (v := (-1001 : Int32)) dX5_setZone_40 (by decide) ?_
      obtain rfl := Option.some.inj hf
      exact vi_ret (v := some (.int (-1001 : Int32))) rfl ⟨dX5_setZone_43, .int, rfl, rfl⟩ ⟨rfl, rfl, rfl⟩
    · rw [if_neg c4] at hf
      refine vi_iload_n 3 dX5_setZone_17 rfl rfl ?_
      refine vi_bipush (v := (20 : Int32)) dX5_setZone_18 (by decide) ?_
      refine vi_sipush (v := (300 : Int32)) dX5_setZone_20 (by decide) ?_
      obtain ⟨u5, hu5, hf⟩ := vv_bd hf
      refine vi_callS (As := [.int x3, .int (20 : Int32), .int (300 : Int32)]) (st := []) (t_X5_in n x3 (20 : Int32) (300 : Int32) u3.2 u5  hu5) rfl yo_X5_in wm_X5_23 wi_X5_in wI_X5 wc_X5_in ⟨Nat.le_of_ble_eq_true rfl, Nat.le_of_ble_eq_true rfl⟩ (vv_rm0 rfl rfl) (Nat.le_of_ble_eq_true rfl) rfl rfl dX5_setZone_23 ?_
      refine vi_if_eq 40 dX5_setZone_26 (by decide) (fun c6 => ?_) (fun c6 => ?_)
      · rw [if_pos c6] at hf
        refine vi_sipush (v := (-1001 : Int32)) dX5_setZone_40 (by decide) ?_
        obtain rfl := Option.some.inj hf
        exact vi_ret (v := some (.int (-1001 : Int32))) rfl ⟨dX5_setZone_43, .int, rfl, rfl⟩ ⟨rfl, rfl, rfl⟩
      · rw [if_neg c6] at hf
        refine vi_iload 4 dX5_setZone_29 rfl ?_
        refine vi_iconst (v := (1 : Int32)) dX5_setZone_31 (by decide) ?_
        refine vi_bipush (v := (20 : Int32)) dX5_setZone_32 (by decide) ?_
        obtain ⟨u7, hu7, hf⟩ := vv_bd hf
        refine vi_callS (As := [.int x4, .int (1 : Int32), .int (20 : Int32)]) (st := []) (t_X5_in n x4 (1 : Int32) (20 : Int32) u5.2 u7  hu7) rfl yo_X5_in wm_X5_23 wi_X5_in wI_X5 wc_X5_in ⟨Nat.le_of_ble_eq_true rfl, Nat.le_of_ble_eq_true rfl⟩ (vv_rm0 rfl rfl) (Nat.le_of_ble_eq_true rfl) rfl rfl dX5_setZone_34 ?_
        refine vi_if_ne 44 dX5_setZone_37 (by decide) (fun c8 => ?_) (fun c8 => ?_)
        · rw [if_neg c8] at hf
          refine vi_aload_n 0 dX5_setZone_44 rfl rfl ?_
          refine vi_iconst (v := (0 : Int32)) dX5_setZone_45 (by decide) ?_
          obtain ⟨u9, hu9, hf⟩ := vv_bd hf
          refine vi_callV (As := [.int (0 : Int32)]) (st := []) (t_X5_many n p0 (0 : Int32) u7.2 u9 h0 hu9) rfl yo_X5_many wm_X5_45 wi_X5_many ws_X5_many wI_X5 wc_X5_many (vv_model_o h0) rfl ⟨Nat.le_of_ble_eq_true rfl, Nat.le_of_ble_eq_true rfl⟩ (vv_rm0 rfl rfl) (Nat.le_of_ble_eq_true rfl) rfl rfl dX5_setZone_46 ?_
          refine vi_if_le 56 dX5_setZone_49 (by decide) (fun c10 => ?_) (fun c10 => ?_)
          · rw [if_pos c10] at hf
            exact t_X5_setZone_56 n  u  p0 x1 x2 x3 x4 u9.2 h0 hf
          · rw [if_neg c10] at hf
            refine vi_sipush (v := (-1002 : Int32)) dX5_setZone_52 (by decide) ?_
            obtain rfl := Option.some.inj hf
            exact vi_ret (v := some (.int (-1002 : Int32))) rfl ⟨dX5_setZone_55, .int, rfl, rfl⟩ ⟨rfl, rfl, rfl⟩
        · rw [if_pos c8] at hf
          refine vi_sipush (v := (-1001 : Int32)) dX5_setZone_40 (by decide) ?_
          obtain rfl := Option.some.inj hf
          exact vi_ret (v := some (.int (-1001 : Int32))) rfl ⟨dX5_setZone_43, .int, rfl, rfl⟩ ⟨rfl, rfl, rfl⟩
set_option maxRecDepth 20000 in
theorem t_X5_put {S : List vv_Sh} (n : Nat) (p0 : Nat) (x1 : Int32) (x2 : Int32) (x3 : Int32) (M : vv_M) (u : Int32 × vv_M) (h0 : vv_model S p0) (hf : f_X5_put n p0 x1 x2 x3 M = some u) : vv_C yX5_put (vv_w yX5_put cX5_put 5 (some .int)) (vv_R 2 0 0) [.ref p0, .int x1, .int x2, .int x3] S M (some (.int u.1)) S u.2 := by
  refine vv_ofV (by decide +kernel) (Nat.le_of_ble_eq_true rfl) (L := [(0, .ref p0), (1, .int x1), (2, .int x2), (3, .int x3)]) rfl rfl rfl ?_
  show vv_V [] yX5_put.cls yX5_put.name cX5_put 5 (some .int) (vv_R 2 0 0) S.length (vv_sz S) (vv_fi S u) 0 [(0, .ref p0), (1, .int x1), (2, .int x2), (3, .int x3)] [] S M
  unfold f_X5_put at hf
  refine vi_iload_n 1 dX5_put_0 rfl rfl ?_
  refine vi_if_ne 8 dX5_put_1 (by decide) (fun c1 => ?_) (fun c1 => ?_)
  · rw [if_neg c1] at hf
    refine vi_aload_n 0 dX5_put_8 rfl rfl ?_
    obtain ⟨u2, hu2, hf⟩ := vv_bd hf
    refine vi_callV (As := []) (st := []) (t_X5_record n p0 M u2 h0 hu2) rfl yo_X5_record wm_X5_38 wi_X5_record ws_X5_record wI_X5 wc_X5_record (vv_model_o h0) rfl ⟨Nat.le_of_ble_eq_true rfl, Nat.le_of_ble_eq_true rfl⟩ (vv_rm0 rfl rfl) (Nat.le_of_ble_eq_true rfl) rfl rfl dX5_put_9 ?_
    refine vi_aload_n 0 dX5_put_12 rfl rfl ?_
    refine vi_getr (t := p0 + 1) 0 rfl (vv_model_o h0) rfl wu_X5 (by decide) wf_X5_7 dX5_put_13 ?_
    refine vi_iload_n 2 dX5_put_16 rfl rfl ?_
    obtain ⟨g6, hf⟩ := vv_gd hf
    refine vi_iald (vv_model_row h0) g6 dX5_put_17 ?_
    obtain ⟨y3, ey3, hf⟩ := vv_lt hf
    refine vi_istore (L' := [(4, .int y3), (0, .ref p0), (1, .int x1), (2, .int x2), (3, .int x3)]) dX5_put_18 (by decide) (by rw [ey3]; rfl) ?_
    refine vi_aload_n 1 dX5_put_20 rfl rfl ?_
    refine vi_getr (t := p0 + 1) 0 rfl (vv_model_o h0) rfl wu_X5 (by decide) wf_X5_7 dX5_put_21 ?_
    refine vi_iload_n 3 dX5_put_24 rfl rfl ?_
    refine vi_iload_n 4 dX5_put_25 rfl rfl ?_
    obtain ⟨g4, hf⟩ := vv_gd hf
    obtain ⟨M5, eM5, hf⟩ := vv_lt hf
    refine vi_iast (vv_model_row h0) g4 eM5.symm dX5_put_26 ?_
    refine vi_iload 0 dX5_put_27 rfl ?_
    obtain rfl := Option.some.inj hf
    exact vi_ret (v := some (.int y3)) rfl ⟨dX5_put_29, .int, rfl, rfl⟩ ⟨rfl, rfl, rfl⟩
  · rw [if_pos c1] at hf
    refine vi_sipush (v := (-1001 : Int32)) dX5_put_4 (by decide) ?_
    obtain rfl := Option.some.inj hf
    exact vi_ret (v := some (.int (-1001 : Int32))) rfl ⟨dX5_put_7, .int, rfl, rfl⟩ ⟨rfl, rfl, rfl⟩
set_option maxRecDepth 20000 in
theorem t_X5_isCurveNumber {S : List vv_Sh} (n : Nat) (x0 : Int32) (x1 : Int32) (M : vv_M) (u : Int32 × vv_M)  (hf : f_X5_isCurveNumber n x0 x1 M = some u) : vv_C yX5_isCurveNumber (vv_w yX5_isCurveNumber cX5_isCurveNumber 2 (some .boolean)) (vv_R 1 0 0) [.int x0, .int x1] S M (some (.int u.1)) S u.2 := by
  refine vv_ofV (by decide +kernel) (Nat.le_of_ble_eq_true rfl) (L := [(0, .int x0), (1, .int x1)]) rfl rfl rfl ?_
  show vv_V [] yX5_isCurveNumber.cls yX5_isCurveNumber.name cX5_isCurveNumber 2 (some .boolean) (vv_R 1 0 0) S.length (vv_sz S) (vv_fi S u) 0 [(0, .int x0), (1, .int x1)] [] S M
  unfold f_X5_isCurveNumber at hf
  refine vi_iload_n 0 dX5_isCurveNumber_0 rfl rfl ?_
  by_cases c1 : x0 = (0 : Int32)
  · rw [if_pos c1] at hf
    refine vi_tableAt 32 c1 dX5_isCurveNumber_1 (by decide) (by decide) rfl (by decide) ?_
    refine vi_iload_n 1 dX5_isCurveNumber_32 rfl rfl ?_
    refine vi_iconst (v := (1 : Int32)) dX5_isCurveNumber_33 (by decide) ?_
    refine vi_bipush (v := (99 : Int32)) dX5_isCurveNumber_34 (by decide) ?_
    obtain ⟨u2, hu2, hf⟩ := vv_bd hf
    refine vi_callS (As := [.int x1, .int (1 : Int32), .int (99 : Int32)]) (st := []) (t_X5_in n x1 (1 : Int32) (99 : Int32) M u2  hu2) rfl yo_X5_in wm_X5_23 wi_X5_in wI_X5 wc_X5_in ⟨Nat.le_of_ble_eq_true rfl, Nat.le_of_ble_eq_true rfl⟩ (vv_rm0 rfl rfl) (Nat.le_of_ble_eq_true rfl) rfl rfl dX5_isCurveNumber_36 ?_
    obtain ⟨g3, hf⟩ := vv_gt hf
    obtain rfl := Option.some.inj hf
    exact vi_ret (v := some (.int u2.1)) rfl ⟨dX5_isCurveNumber_39, .boolean, rfl, vv_nb g3⟩ ⟨rfl, rfl, rfl⟩
  rw [if_neg c1] at hf
  by_cases c4 : x0 = (2 : Int32)
  · rw [if_pos c4] at hf
    refine vi_tableAt 40 c4 dX5_isCurveNumber_1 (by decide) (by decide) rfl (by decide) ?_
    refine vi_iload_n 1 dX5_isCurveNumber_40 rfl rfl ?_
    refine vi_iconst (v := (0 : Int32)) dX5_isCurveNumber_41 (by decide) ?_
    refine vi_bipush (v := (99 : Int32)) dX5_isCurveNumber_42 (by decide) ?_
    obtain ⟨u5, hu5, hf⟩ := vv_bd hf
    refine vi_callS (As := [.int x1, .int (0 : Int32), .int (99 : Int32)]) (st := []) (t_X5_in n x1 (0 : Int32) (99 : Int32) M u5  hu5) rfl yo_X5_in wm_X5_23 wi_X5_in wI_X5 wc_X5_in ⟨Nat.le_of_ble_eq_true rfl, Nat.le_of_ble_eq_true rfl⟩ (vv_rm0 rfl rfl) (Nat.le_of_ble_eq_true rfl) rfl rfl dX5_isCurveNumber_44 ?_
    obtain ⟨g6, hf⟩ := vv_gt hf
    obtain rfl := Option.some.inj hf
    exact vi_ret (v := some (.int u5.1)) rfl ⟨dX5_isCurveNumber_47, .boolean, rfl, vv_nb g6⟩ ⟨rfl, rfl, rfl⟩
  rw [if_neg c4] at hf
  by_cases c7 : x0 = (3 : Int32)
  · rw [if_pos c7] at hf
    refine vi_tableAt 40 c7 dX5_isCurveNumber_1 (by decide) (by decide) rfl (by decide) ?_
    refine vi_iload_n 1 dX5_isCurveNumber_40 rfl rfl ?_
    refine vi_iconst (v := (0 : Int32)) dX5_isCurveNumber_41 (by decide) ?_
    refine vi_bipush (v := (99 : Int32)) dX5_isCurveNumber_42 (by decide) ?_
    obtain ⟨u8, hu8, hf⟩ := vv_bd hf
    refine vi_callS (As := [.int x1, .int (0 : Int32), .int (99 : Int32)]) (st := []) (t_X5_in n x1 (0 : Int32) (99 : Int32) M u8  hu8) rfl yo_X5_in wm_X5_23 wi_X5_in wI_X5 wc_X5_in ⟨Nat.le_of_ble_eq_true rfl, Nat.le_of_ble_eq_true rfl⟩ (vv_rm0 rfl rfl) (Nat.le_of_ble_eq_true rfl) rfl rfl dX5_isCurveNumber_44 ?_
    obtain ⟨g9, hf⟩ := vv_gt hf
    obtain rfl := Option.some.inj hf
    exact vi_ret (v := some (.int u8.1)) rfl ⟨dX5_isCurveNumber_47, .boolean, rfl, vv_nb g9⟩ ⟨rfl, rfl, rfl⟩
  rw [if_neg c7] at hf
  by_cases c14 : x0 = (1 : Int32)
  · refine vi_tableAt 48 c14 dX5_isCurveNumber_1 (by decide) (by decide) rfl (by decide) ?_
    refine vi_iload_n 0 dX5_isCurveNumber_48 rfl rfl ?_
    refine vi_iconst (v := (1 : Int32)) dX5_isCurveNumber_49 (by decide) ?_
    refine vi_iconst (v := (5 : Int32)) dX5_isCurveNumber_50 (by decide) ?_
    obtain ⟨u10, hu10, hf⟩ := vv_bd hf
    refine vi_callS (As := [.int x0, .int (1 : Int32), .int (5 : Int32)]) (st := []) (t_X5_in n x0 (1 : Int32) (5 : Int32) M u10  hu10) rfl yo_X5_in wm_X5_23 wi_X5_in wI_X5 wc_X5_in ⟨Nat.le_of_ble_eq_true rfl, Nat.le_of_ble_eq_true rfl⟩ (vv_rm0 rfl rfl) (Nat.le_of_ble_eq_true rfl) rfl rfl dX5_isCurveNumber_51 ?_
    refine vi_if_eq 73 dX5_isCurveNumber_54 (by decide) (fun c11 => ?_) (fun c11 => ?_)
    · rw [if_pos c11] at hf
      refine vi_iconst (v := (0 : Int32)) dX5_isCurveNumber_73 (by decide) ?_
      obtain rfl := Option.some.inj hf
      exact vi_ret (v := some (.int (0 : Int32))) rfl ⟨dX5_isCurveNumber_74, .boolean, rfl, rfl⟩ ⟨rfl, rfl, rfl⟩
    · rw [if_neg c11] at hf
      refine vi_iload_n 1 dX5_isCurveNumber_57 rfl rfl ?_
      refine vi_bipush (v := (20 : Int32)) dX5_isCurveNumber_58 (by decide) ?_
      refine vi_sipush (v := (300 : Int32)) dX5_isCurveNumber_60 (by decide) ?_
      obtain ⟨u12, hu12, hf⟩ := vv_bd hf
      refine vi_callS (As := [.int x1, .int (20 : Int32), .int (300 : Int32)]) (st := []) (t_X5_in n x1 (20 : Int32) (300 : Int32) u10.2 u12  hu12) rfl yo_X5_in wm_X5_23 wi_X5_in wI_X5 wc_X5_in ⟨Nat.le_of_ble_eq_true rfl, Nat.le_of_ble_eq_true rfl⟩ (vv_rm0 rfl rfl) (Nat.le_of_ble_eq_true rfl) rfl rfl dX5_isCurveNumber_63 ?_
      refine vi_if_eq 73 dX5_isCurveNumber_66 (by decide) (fun c13 => ?_) (fun c13 => ?_)
      · rw [if_pos c13] at hf
        refine vi_iconst (v := (0 : Int32)) dX5_isCurveNumber_73 (by decide) ?_
        obtain rfl := Option.some.inj hf
        exact vi_ret (v := some (.int (0 : Int32))) rfl ⟨dX5_isCurveNumber_74, .boolean, rfl, rfl⟩ ⟨rfl, rfl, rfl⟩
      · rw [if_neg c13] at hf
        refine vi_iconst (v := (1 : Int32)) dX5_isCurveNumber_69 (by decide) ?_
        refine vi_goto 74 dX5_isCurveNumber_70 (by decide) ?_
        obtain rfl := Option.some.inj hf
        exact vi_ret (v := some (.int (1 : Int32))) rfl ⟨dX5_isCurveNumber_74, .boolean, rfl, rfl⟩ ⟨rfl, rfl, rfl⟩
  refine vi_tableOut 48 dX5_isCurveNumber_1 (by have nc1 := vv_nk c1 (show (0 : Int32).toInt = 0 from rfl); have nc4 := vv_nk c4 (show (2 : Int32).toInt = 2 from rfl); have nc7 := vv_nk c7 (show (3 : Int32).toInt = 3 from rfl); have nc14 := vv_nk c14 (show (1 : Int32).toInt = 1 from rfl); omega) (by decide) ?_
  refine vi_iload_n 0 dX5_isCurveNumber_48 rfl rfl ?_
  refine vi_iconst (v := (1 : Int32)) dX5_isCurveNumber_49 (by decide) ?_
  refine vi_iconst (v := (5 : Int32)) dX5_isCurveNumber_50 (by decide) ?_
  obtain ⟨u10, hu10, hf⟩ := vv_bd hf
  refine vi_callS (As := [.int x0, .int (1 : Int32), .int (5 : Int32)]) (st := []) (t_X5_in n x0 (1 : Int32) (5 : Int32) M u10  hu10) rfl yo_X5_in wm_X5_23 wi_X5_in wI_X5 wc_X5_in ⟨Nat.le_of_ble_eq_true rfl, Nat.le_of_ble_eq_true rfl⟩ (vv_rm0 rfl rfl) (Nat.le_of_ble_eq_true rfl) rfl rfl dX5_isCurveNumber_51 ?_
  refine vi_if_eq 73 dX5_isCurveNumber_54 (by decide) (fun c11 => ?_) (fun c11 => ?_)
  · rw [if_pos c11] at hf
    refine vi_iconst (v := (0 : Int32)) dX5_isCurveNumber_73 (by decide) ?_
    obtain rfl := Option.some.inj hf
    exact vi_ret (v := some (.int (0 : Int32))) rfl ⟨dX5_isCurveNumber_74, .boolean, rfl, rfl⟩ ⟨rfl, rfl, rfl⟩
  · rw [if_neg c11] at hf
    refine vi_iload_n 1 dX5_isCurveNumber_57 rfl rfl ?_
    refine vi_bipush (v := (20 : Int32)) dX5_isCurveNumber_58 (by decide) ?_
    refine vi_sipush (v := (300 : Int32)) dX5_isCurveNumber_60 (by decide) ?_
    obtain ⟨u12, hu12, hf⟩ := vv_bd hf
    refine vi_callS (As := [.int x1, .int (20 : Int32), .int (300 : Int32)]) (st := []) (t_X5_in n x1 (20 : Int32) (300 : Int32) u10.2 u12  hu12) rfl yo_X5_in wm_X5_23 wi_X5_in wI_X5 wc_X5_in ⟨Nat.le_of_ble_eq_true rfl, Nat.le_of_ble_eq_true rfl⟩ (vv_rm0 rfl rfl) (Nat.le_of_ble_eq_true rfl) rfl rfl dX5_isCurveNumber_63 ?_
    refine vi_if_eq 73 dX5_isCurveNumber_66 (by decide) (fun c13 => ?_) (fun c13 => ?_)
    · rw [if_pos c13] at hf
      refine vi_iconst (v := (0 : Int32)) dX5_isCurveNumber_73 (by decide) ?_
      obtain rfl := Option.some.inj hf
      exact vi_ret (v := some (.int (0 : Int32))) rfl ⟨dX5_isCurveNumber_74, .boolean, rfl, rfl⟩ ⟨rfl, rfl, rfl⟩
    · rw [if_neg c13] at hf
      refine vi_iconst (v := (1 : Int32)) dX5_isCurveNumber_69 (by decide) ?_
      refine vi_goto 74 dX5_isCurveNumber_70 (by decide) ?_
      obtain rfl := Option.some.inj hf
      exact vi_ret (v := some (.int (1 : Int32))) rfl ⟨dX5_isCurveNumber_74, .boolean, rfl, rfl⟩ ⟨rfl, rfl, rfl⟩
set_option maxRecDepth 20000 in
theorem t_X5_setCurve_39 {S : List vv_Sh} (n : Nat)  (u : Int32 × vv_M)  (x3 : Int32) (s0 : Nat) (s1 : Int32) (s2 : Int32) (M : vv_M) (g0 : vv_model S s0) (hf : f_X5_setCurve_39 n  x3 s0 s1 s2 M = some u) : vv_V [] yX5_setCurve.cls yX5_setCurve.name cX5_setCurve 5 (some .int) (vv_R 3 0 0) S.length (vv_sz S) (vv_fi S u) 39 [(3, .int x3)] [.int s2, .int s1, .ref s0] S M := by
  unfold f_X5_setCurve_39 at hf
  refine vi_iload_n 0 dX5_setCurve_39 rfl rfl ?_
  obtain ⟨u4, hu4, hf⟩ := vv_bd hf
  refine vi_callV (As := [.int s1, .int s2, .int x3]) (st := []) (t_X5_put n s0 s1 s2 x3 M u4 g0 hu4) rfl yo_X5_put wm_X5_60 wi_X5_put ws_X5_put wI_X5 wc_X5_put (vv_model_o g0) rfl ⟨Nat.le_of_ble_eq_true rfl, Nat.le_of_ble_eq_true rfl⟩ (vv_rm0 rfl rfl) (Nat.le_of_ble_eq_true rfl) rfl rfl dX5_setCurve_40 ?_
  obtain rfl := Option.some.inj hf
  exact vi_ret (v := some (.int u4.1)) rfl ⟨dX5_setCurve_43, .int, rfl, rfl⟩ ⟨rfl, rfl, rfl⟩
set_option maxRecDepth 20000 in
theorem t_X5_setCurve_20 {S : List vv_Sh} (n : Nat)  (u : Int32 × vv_M)  (p0 : Nat) (x1 : Int32) (x2 : Int32) (x3 : Int32) (s0 : Int32) (M : vv_M) (h0 : vv_model S p0) (hf : f_X5_setCurve_20 n  p0 x1 x2 x3 s0 M = some u) : vv_V [] yX5_setCurve.cls yX5_setCurve.name cX5_setCurve 5 (some .int) (vv_R 3 0 0) S.length (vv_sz S) (vv_fi S u) 20 [(0, .ref p0), (1, .int x1), (2, .int x2), (3, .int x3)] [.int s0] S M := by
  unfold f_X5_setCurve_20 at hf
  refine vi_istore (L' := [(4, .int s0), (0, .ref p0), (1, .int x1), (2, .int x2), (3, .int x3)]) dX5_setCurve_20 (by decide) rfl ?_
  refine vi_aload_n 1 dX5_setCurve_22 rfl rfl ?_
  refine vi_iload 0 dX5_setCurve_23 rfl ?_
  refine vi_iload 0 dX5_setCurve_25 rfl ?_
  refine vi_if_eq 38 dX5_setCurve_27 (by decide) (fun c3 => ?_) (fun c3 => ?_)
  · rw [if_pos c3] at hf
    refine vi_iconst (v := (0 : Int32)) dX5_setCurve_38 (by decide) ?_
    refine vi_sub (L' := [(3, .int x3)]) [4] rfl ?_
    exact t_X5_setCurve_39 n  u  x3 p0 s0 (0 : Int32) M h0 hf
  · rw [if_neg c3] at hf
    refine vi_iload_n 2 dX5_setCurve_30 rfl rfl ?_
    refine vi_iload_n 3 dX5_setCurve_31 rfl rfl ?_
    obtain ⟨u5, hu5, hf⟩ := vv_bd hf
    refine vi_callS (As := [.int x1, .int x2]) (st := [.int s0, .ref p0]) (t_X5_ofCurve n x1 x2 M u5  hu5) rfl yo_X5_ofCurve wm_X5_20 wi_X5_ofCurve wI_X5 wc_X5_ofCurve ⟨Nat.le_of_ble_eq_true rfl, Nat.le_of_ble_eq_true rfl⟩ (vv_rm0 rfl rfl) (Nat.le_of_ble_eq_true rfl) rfl rfl dX5_setCurve_32 ?_
    refine vi_goto 39 dX5_setCurve_35 (by decide) ?_
    refine vi_sub (L' := [(3, .int x3)]) [4] rfl ?_
    exact t_X5_setCurve_39 n  u  x3 p0 s0 u5.1 u5.2 h0 hf
set_option maxRecDepth 20000 in
theorem t_X5_setCurve_19 {S : List vv_Sh} (n : Nat)  (u : Int32 × vv_M)  (p0 : Nat) (x1 : Int32) (x2 : Int32) (x3 : Int32) (M : vv_M) (h0 : vv_model S p0) (hf : f_X5_setCurve_19 n  p0 x1 x2 x3 M = some u) : vv_V [] yX5_setCurve.cls yX5_setCurve.name cX5_setCurve 5 (some .int) (vv_R 3 0 0) S.length (vv_sz S) (vv_fi S u) 19 [(0, .ref p0), (1, .int x1), (2, .int x2), (3, .int x3)] [] S M := by
  unfold f_X5_setCurve_19 at hf
  refine vi_iconst (v := (0 : Int32)) dX5_setCurve_19 (by decide) ?_
  exact t_X5_setCurve_20 n  u  p0 x1 x2 x3 (0 : Int32) M h0 hf
set_option maxRecDepth 20000 in
theorem t_X5_setCurve {S : List vv_Sh} (n : Nat) (p0 : Nat) (x1 : Int32) (x2 : Int32) (x3 : Int32) (M : vv_M) (u : Int32 × vv_M) (h0 : vv_model S p0) (hf : f_X5_setCurve n p0 x1 x2 x3 M = some u) : vv_C yX5_setCurve (vv_w yX5_setCurve cX5_setCurve 5 (some .int)) (vv_R 3 0 0) [.ref p0, .int x1, .int x2, .int x3] S M (some (.int u.1)) S u.2 := by
  refine vv_ofV (by decide +kernel) (Nat.le_of_ble_eq_true rfl) (L := [(0, .ref p0), (1, .int x1), (2, .int x2), (3, .int x3)]) rfl rfl rfl ?_
  show vv_V [] yX5_setCurve.cls yX5_setCurve.name cX5_setCurve 5 (some .int) (vv_R 3 0 0) S.length (vv_sz S) (vv_fi S u) 0 [(0, .ref p0), (1, .int x1), (2, .int x2), (3, .int x3)] [] S M
  unfold f_X5_setCurve at hf
  refine vi_iload_n 1 dX5_setCurve_0 rfl rfl ?_
  obtain ⟨u1, hu1, hf⟩ := vv_bd hf
  refine vi_callS (As := [.int x1]) (st := []) (t_X5_isCurve n x1 M u1  hu1) rfl yo_X5_isCurve wm_X5_53 wi_X5_isCurve wI_X5 wc_X5_isCurve ⟨Nat.le_of_ble_eq_true rfl, Nat.le_of_ble_eq_true rfl⟩ (vv_rm0 rfl rfl) (Nat.le_of_ble_eq_true rfl) rfl rfl dX5_setCurve_1 ?_
  refine vi_if_eq 19 dX5_setCurve_4 (by decide) (fun c2 => ?_) (fun c2 => ?_)
  · rw [if_pos c2] at hf
    exact t_X5_setCurve_19 n  u  p0 x1 x2 x3 u1.2 h0 hf
  · rw [if_neg c2] at hf
    refine vi_iload_n 2 dX5_setCurve_7 rfl rfl ?_
    refine vi_iload_n 3 dX5_setCurve_8 rfl rfl ?_
    obtain ⟨u6, hu6, hf⟩ := vv_bd hf
    refine vi_callS (As := [.int x2, .int x3]) (st := []) (t_X5_isCurveNumber n x2 x3 u1.2 u6  hu6) rfl yo_X5_isCurveNumber wm_X5_56 wi_X5_isCurveNumber wI_X5 wc_X5_isCurveNumber ⟨Nat.le_of_ble_eq_true rfl, Nat.le_of_ble_eq_true rfl⟩ (vv_rm0 rfl rfl) (Nat.le_of_ble_eq_true rfl) rfl rfl dX5_setCurve_9 ?_
    refine vi_if_eq 19 dX5_setCurve_12 (by decide) (fun c7 => ?_) (fun c7 => ?_)
    · rw [if_pos c7] at hf
      exact t_X5_setCurve_19 n  u  p0 x1 x2 x3 u6.2 h0 hf
    · rw [if_neg c7] at hf
      refine vi_iconst (v := (1 : Int32)) dX5_setCurve_15 (by decide) ?_
      refine vi_goto 20 dX5_setCurve_16 (by decide) ?_
      exact t_X5_setCurve_20 n  u  p0 x1 x2 x3 (1 : Int32) u6.2 h0 hf
set_option maxRecDepth 20000 in
theorem t_X5_isBeltNumber {S : List vv_Sh} (n : Nat) (x0 : Int32) (x1 : Int32) (M : vv_M) (u : Int32 × vv_M)  (hf : f_X5_isBeltNumber n x0 x1 M = some u) : vv_C yX5_isBeltNumber (vv_w yX5_isBeltNumber cX5_isBeltNumber 2 (some .boolean)) (vv_R 1 0 0) [.int x0, .int x1] S M (some (.int u.1)) S u.2 := by
  refine vv_ofV (by decide +kernel) (Nat.le_of_ble_eq_true rfl) (L := [(0, .int x0), (1, .int x1)]) rfl rfl rfl ?_
  show vv_V [] yX5_isBeltNumber.cls yX5_isBeltNumber.name cX5_isBeltNumber 2 (some .boolean) (vv_R 1 0 0) S.length (vv_sz S) (vv_fi S u) 0 [(0, .int x0), (1, .int x1)] [] S M
  unfold f_X5_isBeltNumber at hf
  refine vi_iload_n 0 dX5_isBeltNumber_0 rfl rfl ?_
  refine vi_if_ne 13 dX5_isBeltNumber_1 (by decide) (fun c1 => ?_) (fun c1 => ?_)
  · rw [if_neg c1] at hf
    refine vi_iload_n 0 dX5_isBeltNumber_13 rfl rfl ?_
    refine vi_iconst (v := (1 : Int32)) dX5_isBeltNumber_14 (by decide) ?_
    refine vi_icmp_ne 28 dX5_isBeltNumber_15 (by decide) (fun c2 => ?_) (fun c2 => ?_)
    · rw [if_neg c2] at hf
      refine vi_iload_n 0 dX5_isBeltNumber_28 rfl rfl ?_
      refine vi_iconst (v := (2 : Int32)) dX5_isBeltNumber_29 (by decide) ?_
      refine vi_icmp_ne 43 dX5_isBeltNumber_30 (by decide) (fun c3 => ?_) (fun c3 => ?_)
      · rw [if_neg c3] at hf
        refine vi_iload_n 0 dX5_isBeltNumber_43 rfl rfl ?_
        refine vi_iconst (v := (3 : Int32)) dX5_isBeltNumber_44 (by decide) ?_
        refine vi_icmp_ne 62 dX5_isBeltNumber_45 (by decide) (fun c4 => ?_) (fun c4 => ?_)
        · rw [if_neg c4] at hf
          refine vi_iconst (v := (0 : Int32)) dX5_isBeltNumber_62 (by decide) ?_
          obtain rfl := Option.some.inj hf
          exact vi_ret (v := some (.int (0 : Int32))) rfl ⟨dX5_isBeltNumber_63, .boolean, rfl, rfl⟩ ⟨rfl, rfl, rfl⟩
        · rw [if_pos c4] at hf
          refine vi_iload_n 1 dX5_isBeltNumber_48 rfl rfl ?_
          refine vi_iconst (v := (0 : Int32)) dX5_isBeltNumber_49 (by decide) ?_
          refine vi_bipush (v := (9 : Int32)) dX5_isBeltNumber_50 (by decide) ?_
          obtain ⟨u5, hu5, hf⟩ := vv_bd hf
          refine vi_callS (As := [.int x1, .int (0 : Int32), .int (9 : Int32)]) (st := []) (t_X5_in n x1 (0 : Int32) (9 : Int32) M u5  hu5) rfl yo_X5_in wm_X5_23 wi_X5_in wI_X5 wc_X5_in ⟨Nat.le_of_ble_eq_true rfl, Nat.le_of_ble_eq_true rfl⟩ (vv_rm0 rfl rfl) (Nat.le_of_ble_eq_true rfl) rfl rfl dX5_isBeltNumber_52 ?_
          refine vi_if_eq 62 dX5_isBeltNumber_55 (by decide) (fun c6 => ?_) (fun c6 => ?_)
          · rw [if_pos c6] at hf
            refine vi_iconst (v := (0 : Int32)) dX5_isBeltNumber_62 (by decide) ?_
            obtain rfl := Option.some.inj hf
            exact vi_ret (v := some (.int (0 : Int32))) rfl ⟨dX5_isBeltNumber_63, .boolean, rfl, rfl⟩ ⟨rfl, rfl, rfl⟩
          · rw [if_neg c6] at hf
            refine vi_iconst (v := (1 : Int32)) dX5_isBeltNumber_58 (by decide) ?_
            refine vi_goto 63 dX5_isBeltNumber_59 (by decide) ?_
            obtain rfl := Option.some.inj hf
            exact vi_ret (v := some (.int (1 : Int32))) rfl ⟨dX5_isBeltNumber_63, .boolean, rfl, rfl⟩ ⟨rfl, rfl, rfl⟩
      · rw [if_pos c3] at hf
        refine vi_iload_n 1 dX5_isBeltNumber_33 rfl rfl ?_
        refine vi_iconst (v := (0 : Int32)) dX5_isBeltNumber_34 (by decide) ?_
        refine vi_bipush (v := (99 : Int32)) dX5_isBeltNumber_35 (by decide) ?_
        obtain ⟨u7, hu7, hf⟩ := vv_bd hf
        refine vi_callS (As := [.int x1, .int (0 : Int32), .int (99 : Int32)]) (st := []) (t_X5_in n x1 (0 : Int32) (99 : Int32) M u7  hu7) rfl yo_X5_in wm_X5_23 wi_X5_in wI_X5 wc_X5_in ⟨Nat.le_of_ble_eq_true rfl, Nat.le_of_ble_eq_true rfl⟩ (vv_rm0 rfl rfl) (Nat.le_of_ble_eq_true rfl) rfl rfl dX5_isBeltNumber_37 ?_
        refine vi_goto 63 dX5_isBeltNumber_40 (by decide) ?_
        obtain ⟨g8, hf⟩ := vv_gt hf
        obtain rfl := Option.some.inj hf
        exact vi_ret (v := some (.int u7.1)) rfl ⟨dX5_isBeltNumber_63, .boolean, rfl, vv_nb g8⟩ ⟨rfl, rfl, rfl⟩
    · rw [if_pos c2] at hf
      refine vi_iload_n 1 dX5_isBeltNumber_18 rfl rfl ?_
      refine vi_iconst (v := (1 : Int32)) dX5_isBeltNumber_19 (by decide) ?_
      refine vi_bipush (v := (20 : Int32)) dX5_isBeltNumber_20 (by decide) ?_
      obtain ⟨u9, hu9, hf⟩ := vv_bd hf
      refine vi_callS (As := [.int x1, .int (1 : Int32), .int (20 : Int32)]) (st := []) (t_X5_in n x1 (1 : Int32) (20 : Int32) M u9  hu9) rfl yo_X5_in wm_X5_23 wi_X5_in wI_X5 wc_X5_in ⟨Nat.le_of_ble_eq_true rfl, Nat.le_of_ble_eq_true rfl⟩ (vv_rm0 rfl rfl) (Nat.le_of_ble_eq_true rfl) rfl rfl dX5_isBeltNumber_22 ?_
      refine vi_goto 63 dX5_isBeltNumber_25 (by decide) ?_
      obtain ⟨g10, hf⟩ := vv_gt hf
      obtain rfl := Option.some.inj hf
      exact vi_ret (v := some (.int u9.1)) rfl ⟨dX5_isBeltNumber_63, .boolean, rfl, vv_nb g10⟩ ⟨rfl, rfl, rfl⟩
  · rw [if_pos c1] at hf
    refine vi_iload_n 1 dX5_isBeltNumber_4 rfl rfl ?_
    refine vi_iconst (v := (1 : Int32)) dX5_isBeltNumber_5 (by decide) ?_
    refine vi_iconst (v := (3 : Int32)) dX5_isBeltNumber_6 (by decide) ?_
    obtain ⟨u11, hu11, hf⟩ := vv_bd hf
    refine vi_callS (As := [.int x1, .int (1 : Int32), .int (3 : Int32)]) (st := []) (t_X5_in n x1 (1 : Int32) (3 : Int32) M u11  hu11) rfl yo_X5_in wm_X5_23 wi_X5_in wI_X5 wc_X5_in ⟨Nat.le_of_ble_eq_true rfl, Nat.le_of_ble_eq_true rfl⟩ (vv_rm0 rfl rfl) (Nat.le_of_ble_eq_true rfl) rfl rfl dX5_isBeltNumber_7 ?_
    refine vi_goto 63 dX5_isBeltNumber_10 (by decide) ?_
    obtain ⟨g12, hf⟩ := vv_gt hf
    obtain rfl := Option.some.inj hf
    exact vi_ret (v := some (.int u11.1)) rfl ⟨dX5_isBeltNumber_63, .boolean, rfl, vv_nb g12⟩ ⟨rfl, rfl, rfl⟩
set_option maxRecDepth 20000 in
theorem t_X5_set_20 {S : List vv_Sh} (n : Nat)  (u : Int32 × vv_M)  (x2 : Int32) (s0 : Nat) (s1 : Int32) (s2 : Int32) (M : vv_M) (g0 : vv_model S s0) (hf : f_X5_set_20 n  x2 s0 s1 s2 M = some u) : vv_V [] yX5_set.cls yX5_set.name cX5_set 4 (some .int) (vv_R 3 0 0) S.length (vv_sz S) (vv_fi S u) 20 [(2, .int x2)] [.int s2, .int s1, .ref s0] S M := by
  unfold f_X5_set_20 at hf
  refine vi_iload_n 0 dX5_set_20 rfl rfl ?_
  obtain ⟨u4, hu4, hf⟩ := vv_bd hf
  refine vi_callV (As := [.int s1, .int s2, .int x2]) (st := []) (t_X5_put n s0 s1 s2 x2 M u4 g0 hu4) rfl yo_X5_put wm_X5_60 wi_X5_put ws_X5_put wI_X5 wc_X5_put (vv_model_o g0) rfl ⟨Nat.le_of_ble_eq_true rfl, Nat.le_of_ble_eq_true rfl⟩ (vv_rm0 rfl rfl) (Nat.le_of_ble_eq_true rfl) rfl rfl dX5_set_21 ?_
  obtain rfl := Option.some.inj hf
  exact vi_ret (v := some (.int u4.1)) rfl ⟨dX5_set_24, .int, rfl, rfl⟩ ⟨rfl, rfl, rfl⟩
set_option maxRecDepth 20000 in
theorem t_X5_set {S : List vv_Sh} (n : Nat) (p0 : Nat) (x1 : Int32) (x2 : Int32) (M : vv_M) (u : Int32 × vv_M) (h0 : vv_model S p0) (hf : f_X5_set n p0 x1 x2 M = some u) : vv_C yX5_set (vv_w yX5_set cX5_set 4 (some .int)) (vv_R 3 0 0) [.ref p0, .int x1, .int x2] S M (some (.int u.1)) S u.2 := by
  refine vv_ofV (by decide +kernel) (Nat.le_of_ble_eq_true rfl) (L := [(0, .ref p0), (1, .int x1), (2, .int x2)]) rfl rfl rfl ?_
  show vv_V [] yX5_set.cls yX5_set.name cX5_set 4 (some .int) (vv_R 3 0 0) S.length (vv_sz S) (vv_fi S u) 0 [(0, .ref p0), (1, .int x1), (2, .int x2)] [] S M
  unfold f_X5_set at hf
  refine vi_iload_n 1 dX5_set_0 rfl rfl ?_
  refine vi_iload_n 2 dX5_set_1 rfl rfl ?_
  obtain ⟨u1, hu1, hf⟩ := vv_bd hf
  refine vi_callS (As := [.int x1, .int x2]) (st := []) (t_X5_isBeltNumber n x1 x2 M u1  hu1) rfl yo_X5_isBeltNumber wm_X5_64 wi_X5_isBeltNumber wI_X5 wc_X5_isBeltNumber ⟨Nat.le_of_ble_eq_true rfl, Nat.le_of_ble_eq_true rfl⟩ (vv_rm0 rfl rfl) (Nat.le_of_ble_eq_true rfl) rfl rfl dX5_set_2 ?_
  obtain ⟨y2, ey2, hf⟩ := vv_lt hf
  refine vi_istore_n (L' := [(3, .int y2), (0, .ref p0), (1, .int x1), (2, .int x2)]) dX5_set_5 rfl (by decide) (by rw [ey2]; rfl) ?_
  refine vi_aload_n 1 dX5_set_6 rfl rfl ?_
  refine vi_iload_n 0 dX5_set_7 rfl rfl ?_
  refine vi_iload_n 0 dX5_set_8 rfl rfl ?_
  refine vi_if_eq 19 dX5_set_9 (by decide) (fun c3 => ?_) (fun c3 => ?_)
  · rw [if_pos c3] at hf
    refine vi_iconst (v := (0 : Int32)) dX5_set_19 (by decide) ?_
    refine vi_sub (L' := [(2, .int x2)]) [3] rfl ?_
    exact t_X5_set_20 n  u  x2 p0 y2 (0 : Int32) u1.2 h0 hf
  · rw [if_neg c3] at hf
    refine vi_bipush (v := (48 : Int32)) dX5_set_12 (by decide) ?_
    refine vi_iload_n 2 dX5_set_14 rfl rfl ?_
    refine vi_iadd dX5_set_15 ?_
    refine vi_goto 20 dX5_set_16 (by decide) ?_
    refine vi_sub (L' := [(2, .int x2)]) [3] rfl ?_
    exact t_X5_set_20 n  u  x2 p0 y2 ((48 : Int32) + x1) u1.2 h0 hf
set_option maxRecDepth 20000 in
theorem t_X5_lay_62 {S : List vv_Sh} (n : Nat)  (u : Unit × vv_M)  (p0 : Nat) (x1 : Int32) (M : vv_M) (h0 : vv_model S p0) (hf : f_X5_lay_62 n  p0 x1 M = some u) : vv_V [] yX5_lay.cls yX5_lay.name cX5_lay 5 none (vv_R 1 0 0) S.length (vv_sz S) (vv_fu S u) 62 [(0, .ref p0), (1, .int x1)] [] S M := by
  unfold f_X5_lay_62 at hf
  refine vi_aload_n 0 dX5_lay_62 rfl rfl ?_
  refine vi_getr (t := p0 + 1) 0 rfl (vv_model_o h0) rfl wu_X5 (by decide) wf_X5_7 dX5_lay_63 ?_
  refine vi_iload_n 1 dX5_lay_66 rfl rfl ?_
  refine vi_bipush (v := (6 : Int32)) dX5_lay_67 (by decide) ?_
  obtain ⟨u11, hu11, hf⟩ := vv_bd hf
  refine vi_callS (As := [.int x1, .int (6 : Int32)]) (st := [.ref (p0 + 1)]) (t_X5_of n x1 (6 : Int32) M u11  hu11) rfl yo_X5_of wm_X5_27 wi_X5_of wI_X5 wc_X5_of ⟨Nat.le_of_ble_eq_true rfl, Nat.le_of_ble_eq_true rfl⟩ (vv_rm0 rfl rfl) (Nat.le_of_ble_eq_true rfl) rfl rfl dX5_lay_69 ?_
  refine vi_bipush (v := (20 : Int32)) dX5_lay_72 (by decide) ?_
  obtain ⟨g12, hf⟩ := vv_gd hf
  obtain ⟨M13, eM13, hf⟩ := vv_lt hf
  refine vi_iast (vv_model_row h0) g12 eM13.symm dX5_lay_74 ?_
  refine vi_aload_n 0 dX5_lay_75 rfl rfl ?_
  refine vi_getr (t := p0 + 1) 0 rfl (vv_model_o h0) rfl wu_X5 (by decide) wf_X5_7 dX5_lay_76 ?_
  refine vi_iload_n 1 dX5_lay_79 rfl rfl ?_
  refine vi_bipush (v := (10 : Int32)) dX5_lay_80 (by decide) ?_
  obtain ⟨u14, hu14, hf⟩ := vv_bd hf
  refine vi_callS (As := [.int x1, .int (10 : Int32)]) (st := [.ref (p0 + 1)]) (t_X5_of n x1 (10 : Int32) M13 u14  hu14) rfl yo_X5_of wm_X5_27 wi_X5_of wI_X5 wc_X5_of ⟨Nat.le_of_ble_eq_true rfl, Nat.le_of_ble_eq_true rfl⟩ (vv_rm0 rfl rfl) (Nat.le_of_ble_eq_true rfl) rfl rfl dX5_lay_82 ?_
  refine vi_sipush (v := (-1009 : Int32)) dX5_lay_85 (by decide) ?_
  obtain ⟨g15, hf⟩ := vv_gd hf
  obtain ⟨M16, eM16, hf⟩ := vv_lt hf
  refine vi_iast (vv_model_row h0) g15 eM16.symm dX5_lay_88 ?_
  obtain rfl := Option.some.inj hf
  exact vi_ret (v := none) rfl ⟨dX5_lay_89, rfl⟩ ⟨rfl, rfl, rfl⟩
set_option maxRecDepth 20000 in
theorem t_X5_lay_3 {S : List vv_Sh} (n : Nat)  (u : Unit × vv_M)  : ∀ (k : Nat) (p0 : Nat) (x1 : Int32) (x2 : Int32) (x3 : Int32) (x4 : Int32) (M : vv_M) (h0 : vv_model S p0) (hf : f_X5_lay_3 n  k p0 x1 x2 x3 x4 M = some u), vv_V [] yX5_lay.cls yX5_lay.name cX5_lay 5 none (vv_R 1 0 0) S.length (vv_sz S) (vv_fu S u) 3 [(0, .ref p0), (1, .int x1), (2, .int x2), (3, .int x3), (4, .int x4)] [] S M := by
  intro k
  induction k with
  | zero =>
    intro p0 x1 x2 x3 x4 M h0 hf
    exact absurd (show (none : Option (Unit × vv_M)) = some u from hf) (by simp)
  | succ k ih =>
    intro p0 x1 x2 x3 x4 M h0 hf
    rw [f_X5_lay_3.eq_2] at hf
    refine vi_iload 4 dX5_lay_3 rfl ?_
    refine vi_bipush (v := (21 : Int32)) dX5_lay_5 (by decide) ?_
    refine vi_icmp_ge 28 dX5_lay_7 (by decide) (fun c1 => ?_) (fun c1 => ?_)
    · rw [if_pos c1] at hf
      refine vi_aload_n 0 dX5_lay_28 rfl rfl ?_
      refine vi_getr (t := p0 + 1) 0 rfl (vv_model_o h0) rfl wu_X5 (by decide) wf_X5_7 dX5_lay_29 ?_
      refine vi_iload_n 1 dX5_lay_32 rfl rfl ?_
      refine vi_iconst (v := (0 : Int32)) dX5_lay_33 (by decide) ?_
      obtain ⟨u2, hu2, hf⟩ := vv_bd hf
      refine vi_callS (As := [.int x1, .int (0 : Int32)]) (st := [.ref (p0 + 1)]) (t_X5_of n x1 (0 : Int32) M u2  hu2) rfl yo_X5_of wm_X5_27 wi_X5_of wI_X5 wc_X5_of ⟨Nat.le_of_ble_eq_true rfl, Nat.le_of_ble_eq_true rfl⟩ (vv_rm0 rfl rfl) (Nat.le_of_ble_eq_true rfl) rfl rfl dX5_lay_34 ?_
      refine vi_iload_n 2 dX5_lay_37 rfl rfl ?_
      obtain ⟨g3, hf⟩ := vv_gd hf
      obtain ⟨M4, eM4, hf⟩ := vv_lt hf
      refine vi_iast (vv_model_row h0) g3 eM4.symm dX5_lay_38 ?_
      refine vi_aload_n 0 dX5_lay_39 rfl rfl ?_
      refine vi_getr (t := p0 + 1) 0 rfl (vv_model_o h0) rfl wu_X5 (by decide) wf_X5_7 dX5_lay_40 ?_
      refine vi_iload_n 1 dX5_lay_43 rfl rfl ?_
      refine vi_iconst (v := (1 : Int32)) dX5_lay_44 (by decide) ?_
      obtain ⟨u5, hu5, hf⟩ := vv_bd hf
      refine vi_callS (As := [.int x1, .int (1 : Int32)]) (st := [.ref (p0 + 1)]) (t_X5_of n x1 (1 : Int32) M4 u5  hu5) rfl yo_X5_of wm_X5_27 wi_X5_of wI_X5 wc_X5_of ⟨Nat.le_of_ble_eq_true rfl, Nat.le_of_ble_eq_true rfl⟩ (vv_rm0 rfl rfl) (Nat.le_of_ble_eq_true rfl) rfl rfl dX5_lay_45 ?_
      refine vi_iload_n 3 dX5_lay_48 rfl rfl ?_
      obtain ⟨g6, hf⟩ := vv_gd hf
      obtain ⟨M7, eM7, hf⟩ := vv_lt hf
      refine vi_iast (vv_model_row h0) g6 eM7.symm dX5_lay_49 ?_
      refine vi_aload_n 0 dX5_lay_50 rfl rfl ?_
      refine vi_getr (t := p0 + 1) 0 rfl (vv_model_o h0) rfl wu_X5 (by decide) wf_X5_7 dX5_lay_51 ?_
      refine vi_iload_n 1 dX5_lay_54 rfl rfl ?_
      refine vi_iconst (v := (4 : Int32)) dX5_lay_55 (by decide) ?_
      obtain ⟨u8, hu8, hf⟩ := vv_bd hf
      refine vi_callS (As := [.int x1, .int (4 : Int32)]) (st := [.ref (p0 + 1)]) (t_X5_of n x1 (4 : Int32) M7 u8  hu8) rfl yo_X5_of wm_X5_27 wi_X5_of wI_X5 wc_X5_of ⟨Nat.le_of_ble_eq_true rfl, Nat.le_of_ble_eq_true rfl⟩ (vv_rm0 rfl rfl) (Nat.le_of_ble_eq_true rfl) rfl rfl dX5_lay_56 ?_
      refine vi_bipush (v := (20 : Int32)) dX5_lay_59 (by decide) ?_
      obtain ⟨g9, hf⟩ := vv_gd hf
      obtain ⟨M10, eM10, hf⟩ := vv_lt hf
      refine vi_iast (vv_model_row h0) g9 eM10.symm dX5_lay_61 ?_
      refine vi_sub (L' := [(0, .ref p0), (1, .int x1)]) [0, 1] rfl ?_
      exact t_X5_lay_62 n  u  p0 x1 M10 h0 hf
    · rw [if_neg c1] at hf
      refine vi_aload_n 0 dX5_lay_10 rfl rfl ?_
      refine vi_getr (t := p0 + 1) 0 rfl (vv_model_o h0) rfl wu_X5 (by decide) wf_X5_7 dX5_lay_11 ?_
      refine vi_iload_n 1 dX5_lay_14 rfl rfl ?_
      refine vi_iload 4 dX5_lay_15 rfl ?_
      obtain ⟨u17, hu17, hf⟩ := vv_bd hf
      refine vi_callS (As := [.int x1, .int x4]) (st := [.ref (p0 + 1)]) (t_X5_of n x1 x4 M u17  hu17) rfl yo_X5_of wm_X5_27 wi_X5_of wI_X5 wc_X5_of ⟨Nat.le_of_ble_eq_true rfl, Nat.le_of_ble_eq_true rfl⟩ (vv_rm0 rfl rfl) (Nat.le_of_ble_eq_true rfl) rfl rfl dX5_lay_17 ?_
      refine vi_iconst (v := (0 : Int32)) dX5_lay_20 (by decide) ?_
      obtain ⟨g18, hf⟩ := vv_gd hf
      obtain ⟨M19, eM19, hf⟩ := vv_lt hf
      refine vi_iast (vv_model_row h0) g18 eM19.symm dX5_lay_21 ?_
      obtain ⟨y20, ey20, hf⟩ := vv_lt hf
      refine vi_iinc (v := y20) (L' := [(4, .int y20), (0, .ref p0), (1, .int x1), (2, .int x2), (3, .int x3)]) 4 dX5_lay_22 rfl (by rw [ey20]; rfl) (by decide) rfl ?_
      refine vi_goto 3 dX5_lay_25 (by decide) ?_
      refine vi_sub (L' := [(0, .ref p0), (1, .int x1), (2, .int x2), (3, .int x3), (4, .int y20)]) [1, 2, 3, 4, 0] rfl ?_
      exact ih p0 x1 x2 x3 y20 M19 h0 hf
set_option maxRecDepth 20000 in
theorem t_X5_lay {S : List vv_Sh} (n : Nat) (p0 : Nat) (x1 : Int32) (x2 : Int32) (x3 : Int32) (M : vv_M) (u : Unit × vv_M) (h0 : vv_model S p0) (hf : f_X5_lay n p0 x1 x2 x3 M = some u) : vv_C yX5_lay (vv_w yX5_lay cX5_lay 5 none) (vv_R 1 0 0) [.ref p0, .int x1, .int x2, .int x3] S M none S u.2 := by
  refine vv_ofV (by decide +kernel) (Nat.le_of_ble_eq_true rfl) (L := [(0, .ref p0), (1, .int x1), (2, .int x2), (3, .int x3)]) rfl rfl rfl ?_
  show vv_V [] yX5_lay.cls yX5_lay.name cX5_lay 5 none (vv_R 1 0 0) S.length (vv_sz S) (vv_fu S u) 0 [(0, .ref p0), (1, .int x1), (2, .int x2), (3, .int x3)] [] S M
  unfold f_X5_lay at hf
  refine vi_iconst (v := (0 : Int32)) dX5_lay_0 (by decide) ?_
  refine vi_istore (L' := [(4, .int (0 : Int32)), (0, .ref p0), (1, .int x1), (2, .int x2), (3, .int x3)]) dX5_lay_1 (by decide) rfl ?_
  refine vi_sub (L' := [(0, .ref p0), (1, .int x1), (2, .int x2), (3, .int x3), (4, .int (0 : Int32))]) [1, 2, 3, 4, 0] rfl ?_
  exact t_X5_lay_3 n  u  n p0 x1 x2 x3 (0 : Int32) M h0 hf
set_option maxRecDepth 20000 in
theorem t_X5_hasRoom_43 {S : List vv_Sh} (n : Nat) (k2 : Nat → Int32 → vv_M → Option (Int32 × vv_M)) (u : Int32 × vv_M) (hk2 : ∀ (p0 : Nat) (x1 : Int32) (M : vv_M) (h0 : vv_model S p0) (hf : k2 p0 x1 M = some u), vv_V [] yX5_hasRoom.cls yX5_hasRoom.name cX5_hasRoom 2 (some .boolean) (vv_R 2 0 0) S.length (vv_sz S) (vv_fi S u) 2 [(0, .ref p0), (1, .int x1)] [] S M) (p0 : Nat) (x1 : Int32) (M : vv_M) (h0 : vv_model S p0) (hf : f_X5_hasRoom_43 n k2 p0 x1 M = some u) : vv_V [] yX5_hasRoom.cls yX5_hasRoom.name cX5_hasRoom 2 (some .boolean) (vv_R 2 0 0) S.length (vv_sz S) (vv_fi S u) 43 [(0, .ref p0), (1, .int x1)] [] S M := by
  unfold f_X5_hasRoom_43 at hf
  obtain ⟨y4, ey4, hf⟩ := vv_lt hf
  refine vi_iinc (v := y4) (L' := [(1, .int y4), (0, .ref p0)]) 1 dX5_hasRoom_43 rfl (by rw [ey4]; rfl) (by decide) rfl ?_
  refine vi_goto 2 dX5_hasRoom_46 (by decide) ?_
  refine vi_sub (L' := [(0, .ref p0), (1, .int y4)]) [1, 0] rfl ?_
  exact hk2 p0 y4 M h0 hf
set_option maxRecDepth 20000 in
theorem t_X5_hasRoom_2 {S : List vv_Sh} (n : Nat)  (u : Int32 × vv_M)  : ∀ (k : Nat) (p0 : Nat) (x1 : Int32) (M : vv_M) (h0 : vv_model S p0) (hf : f_X5_hasRoom_2 n  k p0 x1 M = some u), vv_V [] yX5_hasRoom.cls yX5_hasRoom.name cX5_hasRoom 2 (some .boolean) (vv_R 2 0 0) S.length (vv_sz S) (vv_fi S u) 2 [(0, .ref p0), (1, .int x1)] [] S M := by
  intro k
  induction k with
  | zero =>
    intro p0 x1 M h0 hf
    exact absurd (show (none : Option (Int32 × vv_M)) = some u from hf) (by simp)
  | succ k ih =>
    intro p0 x1 M h0 hf
    rw [f_X5_hasRoom_2.eq_2] at hf
    refine vi_iload_n 1 dX5_hasRoom_2 rfl rfl ?_
    refine vi_aload_n 0 dX5_hasRoom_3 rfl rfl ?_
    refine vi_getr (t := p0 + 1) 0 rfl (vv_model_o h0) rfl wu_X5 (by decide) wf_X5_7 dX5_hasRoom_4 ?_
    refine vi_bipush (v := (53 : Int32)) dX5_hasRoom_7 (by decide) ?_
    obtain ⟨g9, hf⟩ := vv_gd hf
    refine vi_iald (vv_model_row h0) g9 dX5_hasRoom_9 ?_
    refine vi_icmp_ge 49 dX5_hasRoom_10 (by decide) (fun c1 => ?_) (fun c1 => ?_)
    · rw [if_pos c1] at hf
      refine vi_iconst (v := (1 : Int32)) dX5_hasRoom_49 (by decide) ?_
      obtain rfl := Option.some.inj hf
      exact vi_ret (v := some (.int (1 : Int32))) rfl ⟨dX5_hasRoom_50, .boolean, rfl, rfl⟩ ⟨rfl, rfl, rfl⟩
    · rw [if_neg c1] at hf
      refine vi_aload_n 0 dX5_hasRoom_13 rfl rfl ?_
      refine vi_iload_n 1 dX5_hasRoom_14 rfl rfl ?_
      obtain ⟨u2, hu2, hf⟩ := vv_bd hf
      refine vi_callV (As := [.int x1]) (st := []) (t_X5_isOn n p0 x1 M u2 h0 hu2) rfl yo_X5_isOn wm_X5_67 wi_X5_isOn ws_X5_isOn wI_X5 wc_X5_isOn (vv_model_o h0) rfl ⟨Nat.le_of_ble_eq_true rfl, Nat.le_of_ble_eq_true rfl⟩ (vv_rm0 rfl rfl) (Nat.le_of_ble_eq_true rfl) rfl rfl dX5_hasRoom_15 ?_
      refine vi_if_eq 43 dX5_hasRoom_18 (by decide) (fun c3 => ?_) (fun c3 => ?_)
      · rw [if_pos c3] at hf
        exact t_X5_hasRoom_43 n (f_X5_hasRoom_2 n k) u ih p0 x1 u2.2 h0 hf
      · rw [if_neg c3] at hf
        refine vi_aload_n 0 dX5_hasRoom_21 rfl rfl ?_
        refine vi_getr (t := p0 + 1) 0 rfl (vv_model_o h0) rfl wu_X5 (by decide) wf_X5_7 dX5_hasRoom_22 ?_
        refine vi_iload_n 1 dX5_hasRoom_25 rfl rfl ?_
        refine vi_iconst (v := (3 : Int32)) dX5_hasRoom_26 (by decide) ?_
        obtain ⟨u5, hu5, hf⟩ := vv_bd hf
        refine vi_callS (As := [.int x1, .int (3 : Int32)]) (st := [.ref (p0 + 1)]) (t_X5_of n x1 (3 : Int32) u2.2 u5  hu5) rfl yo_X5_of wm_X5_27 wi_X5_of wI_X5 wc_X5_of ⟨Nat.le_of_ble_eq_true rfl, Nat.le_of_ble_eq_true rfl⟩ (vv_rm0 rfl rfl) (Nat.le_of_ble_eq_true rfl) rfl rfl dX5_hasRoom_27 ?_
        obtain ⟨g8, hf⟩ := vv_gd hf
        refine vi_iald (vv_model_row h0) g8 dX5_hasRoom_30 ?_
        refine vi_aload_n 0 dX5_hasRoom_31 rfl rfl ?_
        refine vi_getr (t := p0 + 1) 0 rfl (vv_model_o h0) rfl wu_X5 (by decide) wf_X5_7 dX5_hasRoom_32 ?_
        refine vi_bipush (v := (49 : Int32)) dX5_hasRoom_35 (by decide) ?_
        obtain ⟨g7, hf⟩ := vv_gd hf
        refine vi_iald (vv_model_row h0) g7 dX5_hasRoom_37 ?_
        refine vi_icmp_ge 43 dX5_hasRoom_38 (by decide) (fun c6 => ?_) (fun c6 => ?_)
        · rw [if_pos c6] at hf
          exact t_X5_hasRoom_43 n (f_X5_hasRoom_2 n k) u ih p0 x1 u5.2 h0 hf
        · rw [if_neg c6] at hf
          refine vi_iconst (v := (0 : Int32)) dX5_hasRoom_41 (by decide) ?_
          obtain rfl := Option.some.inj hf
          exact vi_ret (v := some (.int (0 : Int32))) rfl ⟨dX5_hasRoom_42, .boolean, rfl, rfl⟩ ⟨rfl, rfl, rfl⟩
set_option maxRecDepth 20000 in
theorem t_X5_hasRoom {S : List vv_Sh} (n : Nat) (p0 : Nat) (M : vv_M) (u : Int32 × vv_M) (h0 : vv_model S p0) (hf : f_X5_hasRoom n p0 M = some u) : vv_C yX5_hasRoom (vv_w yX5_hasRoom cX5_hasRoom 2 (some .boolean)) (vv_R 2 0 0) [.ref p0] S M (some (.int u.1)) S u.2 := by
  refine vv_ofV (by decide +kernel) (Nat.le_of_ble_eq_true rfl) (L := [(0, .ref p0)]) rfl rfl rfl ?_
  show vv_V [] yX5_hasRoom.cls yX5_hasRoom.name cX5_hasRoom 2 (some .boolean) (vv_R 2 0 0) S.length (vv_sz S) (vv_fi S u) 0 [(0, .ref p0)] [] S M
  unfold f_X5_hasRoom at hf
  refine vi_iconst (v := (0 : Int32)) dX5_hasRoom_0 (by decide) ?_
  refine vi_istore_n (L' := [(1, .int (0 : Int32)), (0, .ref p0)]) dX5_hasRoom_1 rfl (by decide) rfl ?_
  refine vi_sub (L' := [(0, .ref p0), (1, .int (0 : Int32))]) [1, 0] rfl ?_
  exact t_X5_hasRoom_2 n  u  n p0 (0 : Int32) M h0 hf
set_option maxRecDepth 20000 in
theorem t_X5_noLoad {S : List vv_Sh} (n : Nat) (p0 : Nat) (x1 : Int32) (x2 : Int32) (M : vv_M) (u : Int32 × vv_M) (h0 : vv_model S p0) (hf : f_X5_noLoad n p0 x1 x2 M = some u) : vv_C yX5_noLoad (vv_w yX5_noLoad cX5_noLoad 3 (some .int)) (vv_R 3 0 0) [.ref p0, .int x1, .int x2] S M (some (.int u.1)) S u.2 := by
  refine vv_ofV (by decide +kernel) (Nat.le_of_ble_eq_true rfl) (L := [(0, .ref p0), (1, .int x1), (2, .int x2)]) rfl rfl rfl ?_
  show vv_V [] yX5_noLoad.cls yX5_noLoad.name cX5_noLoad 3 (some .int) (vv_R 3 0 0) S.length (vv_sz S) (vv_fi S u) 0 [(0, .ref p0), (1, .int x1), (2, .int x2)] [] S M
  unfold f_X5_noLoad at hf
  refine vi_iload_n 1 dX5_noLoad_0 rfl rfl ?_
  obtain ⟨u1, hu1, hf⟩ := vv_bd hf
  refine vi_callS (As := [.int x1]) (st := []) (t_X5_isCurve n x1 M u1  hu1) rfl yo_X5_isCurve wm_X5_53 wi_X5_isCurve wI_X5 wc_X5_isCurve ⟨Nat.le_of_ble_eq_true rfl, Nat.le_of_ble_eq_true rfl⟩ (vv_rm0 rfl rfl) (Nat.le_of_ble_eq_true rfl) rfl rfl dX5_noLoad_1 ?_
  refine vi_if_eq 17 dX5_noLoad_4 (by decide) (fun c2 => ?_) (fun c2 => ?_)
  · rw [if_pos c2] at hf
    refine vi_sipush (v := (-1001 : Int32)) dX5_noLoad_17 (by decide) ?_
    obtain rfl := Option.some.inj hf
    exact vi_ret (v := some (.int (-1001 : Int32))) rfl ⟨dX5_noLoad_20, .int, rfl, rfl⟩ ⟨rfl, rfl, rfl⟩
  · rw [if_neg c2] at hf
    refine vi_iload_n 2 dX5_noLoad_7 rfl rfl ?_
    refine vi_iconst (v := (1 : Int32)) dX5_noLoad_8 (by decide) ?_
    refine vi_bipush (v := (9 : Int32)) dX5_noLoad_9 (by decide) ?_
    obtain ⟨u3, hu3, hf⟩ := vv_bd hf
    refine vi_callS (As := [.int x2, .int (1 : Int32), .int (9 : Int32)]) (st := []) (t_X5_in n x2 (1 : Int32) (9 : Int32) u1.2 u3  hu3) rfl yo_X5_in wm_X5_23 wi_X5_in wI_X5 wc_X5_in ⟨Nat.le_of_ble_eq_true rfl, Nat.le_of_ble_eq_true rfl⟩ (vv_rm0 rfl rfl) (Nat.le_of_ble_eq_true rfl) rfl rfl dX5_noLoad_11 ?_
    refine vi_if_ne 21 dX5_noLoad_14 (by decide) (fun c4 => ?_) (fun c4 => ?_)
    · rw [if_neg c4] at hf
      refine vi_aload_n 0 dX5_noLoad_21 rfl rfl ?_
      obtain ⟨u5, hu5, hf⟩ := vv_bd hf
      refine vi_callV (As := []) (st := []) (t_X5_hasRoom n p0 u3.2 u5 h0 hu5) rfl yo_X5_hasRoom wm_X5_70 wi_X5_hasRoom ws_X5_hasRoom wI_X5 wc_X5_hasRoom (vv_model_o h0) rfl ⟨Nat.le_of_ble_eq_true rfl, Nat.le_of_ble_eq_true rfl⟩ (vv_rm0 rfl rfl) (Nat.le_of_ble_eq_true rfl) rfl rfl dX5_noLoad_22 ?_
      refine vi_if_ne 34 dX5_noLoad_25 (by decide) (fun c6 => ?_) (fun c6 => ?_)
      · rw [if_neg c6] at hf
        refine vi_aload_n 0 dX5_noLoad_34 rfl rfl ?_
        refine vi_getr (t := p0 + 1) 0 rfl (vv_model_o h0) rfl wu_X5 (by decide) wf_X5_7 dX5_noLoad_35 ?_
        refine vi_bipush (v := (53 : Int32)) dX5_noLoad_38 (by decide) ?_
        obtain ⟨g8, hf⟩ := vv_gd hf
        refine vi_iald (vv_model_row h0) g8 dX5_noLoad_40 ?_
        refine vi_bipush (v := (30 : Int32)) dX5_noLoad_41 (by decide) ?_
        refine vi_icmp_ne 52 dX5_noLoad_43 (by decide) (fun c7 => ?_) (fun c7 => ?_)
        · rw [if_neg c7] at hf
          refine vi_iconst (v := (0 : Int32)) dX5_noLoad_52 (by decide) ?_
          obtain rfl := Option.some.inj hf
          exact vi_ret (v := some (.int (0 : Int32))) rfl ⟨dX5_noLoad_53, .int, rfl, rfl⟩ ⟨rfl, rfl, rfl⟩
        · rw [if_pos c7] at hf
          refine vi_sipush (v := (-1003 : Int32)) dX5_noLoad_46 (by decide) ?_
          refine vi_goto 53 dX5_noLoad_49 (by decide) ?_
          obtain rfl := Option.some.inj hf
          exact vi_ret (v := some (.int (-1003 : Int32))) rfl ⟨dX5_noLoad_53, .int, rfl, rfl⟩ ⟨rfl, rfl, rfl⟩
      · rw [if_pos c6] at hf
        refine vi_sipush (v := (-1002 : Int32)) dX5_noLoad_28 (by decide) ?_
        refine vi_goto 53 dX5_noLoad_31 (by decide) ?_
        obtain rfl := Option.some.inj hf
        exact vi_ret (v := some (.int (-1002 : Int32))) rfl ⟨dX5_noLoad_53, .int, rfl, rfl⟩ ⟨rfl, rfl, rfl⟩
    · rw [if_pos c4] at hf
      refine vi_sipush (v := (-1001 : Int32)) dX5_noLoad_17 (by decide) ?_
      obtain rfl := Option.some.inj hf
      exact vi_ret (v := some (.int (-1001 : Int32))) rfl ⟨dX5_noLoad_20, .int, rfl, rfl⟩ ⟨rfl, rfl, rfl⟩
set_option maxRecDepth 20000 in
theorem t_X5_doLoad {S : List vv_Sh} (n : Nat) (p0 : Nat) (x1 : Int32) (x2 : Int32) (M : vv_M) (u : Int32 × vv_M) (h0 : vv_model S p0) (hf : f_X5_doLoad n p0 x1 x2 M = some u) : vv_C yX5_doLoad (vv_w yX5_doLoad cX5_doLoad 3 (some .int)) (vv_R 2 0 0) [.ref p0, .int x1, .int x2] S M (some (.int u.1)) S u.2 := by
  refine vv_ofV (by decide +kernel) (Nat.le_of_ble_eq_true rfl) (L := [(0, .ref p0), (1, .int x1), (2, .int x2)]) rfl rfl rfl ?_
  show vv_V [] yX5_doLoad.cls yX5_doLoad.name cX5_doLoad 3 (some .int) (vv_R 2 0 0) S.length (vv_sz S) (vv_fi S u) 0 [(0, .ref p0), (1, .int x1), (2, .int x2)] [] S M
  unfold f_X5_doLoad at hf
  refine vi_aload_n 0 dX5_doLoad_0 rfl rfl ?_
  refine vi_aload_n 0 dX5_doLoad_1 rfl rfl ?_
  refine vi_getr (t := p0 + 1) 0 rfl (vv_model_o h0) rfl wu_X5 (by decide) wf_X5_7 dX5_doLoad_2 ?_
  refine vi_bipush (v := (53 : Int32)) dX5_doLoad_5 (by decide) ?_
  obtain ⟨g6, hf⟩ := vv_gd hf
  refine vi_iald (vv_model_row h0) g6 dX5_doLoad_7 ?_
  refine vi_iload_n 1 dX5_doLoad_8 rfl rfl ?_
  refine vi_iload_n 2 dX5_doLoad_9 rfl rfl ?_
  obtain ⟨u1, hu1, hf⟩ := vv_bd hf
  refine vi_callV (As := [.int (M (p0 + 1) (53 : Int32).toNatClampNeg), .int x1, .int x2]) (st := []) (t_X5_lay n p0 (M (p0 + 1) (53 : Int32).toNatClampNeg) x1 x2 M u1 h0 hu1) rfl yo_X5_lay wm_X5_74 wi_X5_lay ws_X5_lay wI_X5 wc_X5_lay (vv_model_o h0) rfl ⟨Nat.le_of_ble_eq_true rfl, Nat.le_of_ble_eq_true rfl⟩ (vv_rm0 rfl rfl) (Nat.le_of_ble_eq_true rfl) rfl rfl dX5_doLoad_10 ?_
  refine vi_aload_n 0 dX5_doLoad_13 rfl rfl ?_
  refine vi_getr (t := p0 + 1) 0 rfl (vv_model_o h0) rfl wu_X5 (by decide) wf_X5_7 dX5_doLoad_14 ?_
  refine vi_bipush (v := (53 : Int32)) dX5_doLoad_17 (by decide) ?_
  refine vi_dup2 dX5_doLoad_19 rfl rfl ?_
  obtain ⟨g5, hf⟩ := vv_gd hf
  refine vi_iald (vv_model_row h0) g5 dX5_doLoad_20 ?_
  refine vi_iconst (v := (1 : Int32)) dX5_doLoad_21 (by decide) ?_
  refine vi_iadd dX5_doLoad_22 ?_
  obtain ⟨g2, hf⟩ := vv_gd hf
  obtain ⟨M3, eM3, hf⟩ := vv_lt hf
  refine vi_iast (vv_model_row h0) g2 eM3.symm dX5_doLoad_23 ?_
  refine vi_aload_n 0 dX5_doLoad_24 rfl rfl ?_
  refine vi_getr (t := p0 + 1) 0 rfl (vv_model_o h0) rfl wu_X5 (by decide) wf_X5_7 dX5_doLoad_25 ?_
  refine vi_bipush (v := (53 : Int32)) dX5_doLoad_28 (by decide) ?_
  obtain ⟨g4, hf⟩ := vv_gd hf
  refine vi_iald (vv_model_row h0) g4 dX5_doLoad_30 ?_
  refine vi_iconst (v := (1 : Int32)) dX5_doLoad_31 (by decide) ?_
  refine vi_isub dX5_doLoad_32 ?_
  obtain rfl := Option.some.inj hf
  exact vi_ret (v := some (.int ((M3 (p0 + 1) (53 : Int32).toNatClampNeg) - (1 : Int32)))) rfl ⟨dX5_doLoad_33, .int, rfl, rfl⟩ ⟨rfl, rfl, rfl⟩
set_option maxRecDepth 20000 in
theorem t_X5_load {S : List vv_Sh} (n : Nat) (p0 : Nat) (x1 : Int32) (x2 : Int32) (M : vv_M) (u : Int32 × vv_M) (h0 : vv_model S p0) (hf : f_X5_load n p0 x1 x2 M = some u) : vv_C yX5_load (vv_w yX5_load cX5_load 4 (some .int)) (vv_R 4 0 0) [.ref p0, .int x1, .int x2] S M (some (.int u.1)) S u.2 := by
  refine vv_ofV (by decide +kernel) (Nat.le_of_ble_eq_true rfl) (L := [(0, .ref p0), (1, .int x1), (2, .int x2)]) rfl rfl rfl ?_
  show vv_V [] yX5_load.cls yX5_load.name cX5_load 4 (some .int) (vv_R 4 0 0) S.length (vv_sz S) (vv_fi S u) 0 [(0, .ref p0), (1, .int x1), (2, .int x2)] [] S M
  unfold f_X5_load at hf
  refine vi_aload_n 0 dX5_load_0 rfl rfl ?_
  refine vi_iload_n 1 dX5_load_1 rfl rfl ?_
  refine vi_iload_n 2 dX5_load_2 rfl rfl ?_
  obtain ⟨u1, hu1, hf⟩ := vv_bd hf
  refine vi_callV (As := [.int x1, .int x2]) (st := []) (t_X5_noLoad n p0 x1 x2 M u1 h0 hu1) rfl yo_X5_noLoad wm_X5_77 wi_X5_noLoad ws_X5_noLoad wI_X5 wc_X5_noLoad (vv_model_o h0) rfl ⟨Nat.le_of_ble_eq_true rfl, Nat.le_of_ble_eq_true rfl⟩ (vv_rm0 rfl rfl) (Nat.le_of_ble_eq_true rfl) rfl rfl dX5_load_3 ?_
  obtain ⟨y2, ey2, hf⟩ := vv_lt hf
  refine vi_istore_n (L' := [(3, .int y2), (0, .ref p0), (1, .int x1), (2, .int x2)]) dX5_load_6 rfl (by decide) (by rw [ey2]; rfl) ?_
  refine vi_iload_n 0 dX5_load_7 rfl rfl ?_
  refine vi_if_eq 13 dX5_load_8 (by decide) (fun c3 => ?_) (fun c3 => ?_)
  · rw [if_pos c3] at hf
    refine vi_aload_n 1 dX5_load_13 rfl rfl ?_
    obtain ⟨u4, hu4, hf⟩ := vv_bd hf
    refine vi_callV (As := []) (st := []) (t_X5_record n p0 u1.2 u4 h0 hu4) rfl yo_X5_record wm_X5_38 wi_X5_record ws_X5_record wI_X5 wc_X5_record (vv_model_o h0) rfl ⟨Nat.le_of_ble_eq_true rfl, Nat.le_of_ble_eq_true rfl⟩ (vv_rm0 rfl rfl) (Nat.le_of_ble_eq_true rfl) rfl rfl dX5_load_14 ?_
    refine vi_aload_n 1 dX5_load_17 rfl rfl ?_
    refine vi_iload_n 2 dX5_load_18 rfl rfl ?_
    refine vi_iload_n 3 dX5_load_19 rfl rfl ?_
    obtain ⟨u5, hu5, hf⟩ := vv_bd hf
    refine vi_callV (As := [.int x1, .int x2]) (st := []) (t_X5_doLoad n p0 x1 x2 u4.2 u5 h0 hu5) rfl yo_X5_doLoad wm_X5_80 wi_X5_doLoad ws_X5_doLoad wI_X5 wc_X5_doLoad (vv_model_o h0) rfl ⟨Nat.le_of_ble_eq_true rfl, Nat.le_of_ble_eq_true rfl⟩ (vv_rm0 rfl rfl) (Nat.le_of_ble_eq_true rfl) rfl rfl dX5_load_20 ?_
    obtain rfl := Option.some.inj hf
    exact vi_ret (v := some (.int u5.1)) rfl ⟨dX5_load_23, .int, rfl, rfl⟩ ⟨rfl, rfl, rfl⟩
  · rw [if_neg c3] at hf
    refine vi_iload_n 0 dX5_load_11 rfl rfl ?_
    obtain rfl := Option.some.inj hf
    exact vi_ret (v := some (.int y2)) rfl ⟨dX5_load_12, .int, rfl, rfl⟩ ⟨rfl, rfl, rfl⟩
set_option maxRecDepth 20000 in
theorem t_X5_noTakeOff {S : List vv_Sh} (n : Nat) (p0 : Nat) (x1 : Int32) (M : vv_M) (u : Int32 × vv_M) (h0 : vv_model S p0) (hf : f_X5_noTakeOff n p0 x1 M = some u) : vv_C yX5_noTakeOff (vv_w yX5_noTakeOff cX5_noTakeOff 2 (some .int)) (vv_R 2 0 0) [.ref p0, .int x1] S M (some (.int u.1)) S u.2 := by
  refine vv_ofV (by decide +kernel) (Nat.le_of_ble_eq_true rfl) (L := [(0, .ref p0), (1, .int x1)]) rfl rfl rfl ?_
  show vv_V [] yX5_noTakeOff.cls yX5_noTakeOff.name cX5_noTakeOff 2 (some .int) (vv_R 2 0 0) S.length (vv_sz S) (vv_fi S u) 0 [(0, .ref p0), (1, .int x1)] [] S M
  unfold f_X5_noTakeOff at hf
  refine vi_aload_n 0 dX5_noTakeOff_0 rfl rfl ?_
  refine vi_iload_n 1 dX5_noTakeOff_1 rfl rfl ?_
  obtain ⟨u1, hu1, hf⟩ := vv_bd hf
  refine vi_callV (As := [.int x1]) (st := []) (t_X5_isBoard n p0 x1 M u1 h0 hu1) rfl yo_X5_isBoard wm_X5_83 wi_X5_isBoard ws_X5_isBoard wI_X5 wc_X5_isBoard (vv_model_o h0) rfl ⟨Nat.le_of_ble_eq_true rfl, Nat.le_of_ble_eq_true rfl⟩ (vv_rm0 rfl rfl) (Nat.le_of_ble_eq_true rfl) rfl rfl dX5_noTakeOff_2 ?_
  refine vi_if_ne 14 dX5_noTakeOff_5 (by decide) (fun c2 => ?_) (fun c2 => ?_)
  · rw [if_neg c2] at hf
    refine vi_aload_n 0 dX5_noTakeOff_14 rfl rfl ?_
    refine vi_iload_n 1 dX5_noTakeOff_15 rfl rfl ?_
    obtain ⟨u3, hu3, hf⟩ := vv_bd hf
    refine vi_callV (As := [.int x1]) (st := []) (t_X5_isOn n p0 x1 u1.2 u3 h0 hu3) rfl yo_X5_isOn wm_X5_67 wi_X5_isOn ws_X5_isOn wI_X5 wc_X5_isOn (vv_model_o h0) rfl ⟨Nat.le_of_ble_eq_true rfl, Nat.le_of_ble_eq_true rfl⟩ (vv_rm0 rfl rfl) (Nat.le_of_ble_eq_true rfl) rfl rfl dX5_noTakeOff_16 ?_
    refine vi_if_eq 26 dX5_noTakeOff_19 (by decide) (fun c4 => ?_) (fun c4 => ?_)
    · rw [if_pos c4] at hf
      refine vi_sipush (v := (-1002 : Int32)) dX5_noTakeOff_26 (by decide) ?_
      obtain rfl := Option.some.inj hf
      exact vi_ret (v := some (.int (-1002 : Int32))) rfl ⟨dX5_noTakeOff_29, .int, rfl, rfl⟩ ⟨rfl, rfl, rfl⟩
    · rw [if_neg c4] at hf
      refine vi_iconst (v := (0 : Int32)) dX5_noTakeOff_22 (by decide) ?_
      refine vi_goto 29 dX5_noTakeOff_23 (by decide) ?_
      obtain rfl := Option.some.inj hf
      exact vi_ret (v := some (.int (0 : Int32))) rfl ⟨dX5_noTakeOff_29, .int, rfl, rfl⟩ ⟨rfl, rfl, rfl⟩
  · rw [if_pos c2] at hf
    refine vi_sipush (v := (-1001 : Int32)) dX5_noTakeOff_8 (by decide) ?_
    refine vi_goto 29 dX5_noTakeOff_11 (by decide) ?_
    obtain rfl := Option.some.inj hf
    exact vi_ret (v := some (.int (-1001 : Int32))) rfl ⟨dX5_noTakeOff_29, .int, rfl, rfl⟩ ⟨rfl, rfl, rfl⟩
set_option maxRecDepth 20000 in
theorem t_X5_takeOff_27 {S : List vv_Sh} (n : Nat)  (u : Int32 × vv_M)  (p0 : Nat) (x1 : Int32) (M : vv_M) (h0 : vv_model S p0) (hf : f_X5_takeOff_27 n  p0 x1 M = some u) : vv_V [] yX5_takeOff.cls yX5_takeOff.name cX5_takeOff 3 (some .int) (vv_R 3 0 0) S.length (vv_sz S) (vv_fi S u) 27 [(0, .ref p0), (1, .int x1)] [] S M := by
  unfold f_X5_takeOff_27 at hf
  refine vi_aload_n 0 dX5_takeOff_27 rfl rfl ?_
  refine vi_getr (t := p0 + 1) 0 rfl (vv_model_o h0) rfl wu_X5 (by decide) wf_X5_7 dX5_takeOff_28 ?_
  refine vi_iload_n 1 dX5_takeOff_31 rfl rfl ?_
  refine vi_iconst (v := (3 : Int32)) dX5_takeOff_32 (by decide) ?_
  obtain ⟨u8, hu8, hf⟩ := vv_bd hf
  refine vi_callS (As := [.int x1, .int (3 : Int32)]) (st := [.ref (p0 + 1)]) (t_X5_of n x1 (3 : Int32) M u8  hu8) rfl yo_X5_of wm_X5_27 wi_X5_of wI_X5 wc_X5_of ⟨Nat.le_of_ble_eq_true rfl, Nat.le_of_ble_eq_true rfl⟩ (vv_rm0 rfl rfl) (Nat.le_of_ble_eq_true rfl) rfl rfl dX5_takeOff_33 ?_
  obtain ⟨g9, hf⟩ := vv_gd hf
  refine vi_iald (vv_model_row h0) g9 dX5_takeOff_36 ?_
  obtain rfl := Option.some.inj hf
  exact vi_ret (v := some (.int (u8.2 (p0 + 1) u8.1.toNatClampNeg))) rfl ⟨dX5_takeOff_37, .int, rfl, rfl⟩ ⟨rfl, rfl, rfl⟩
set_option maxRecDepth 20000 in
theorem t_X5_takeOff {S : List vv_Sh} (n : Nat) (p0 : Nat) (x1 : Int32) (M : vv_M) (u : Int32 × vv_M) (h0 : vv_model S p0) (hf : f_X5_takeOff n p0 x1 M = some u) : vv_C yX5_takeOff (vv_w yX5_takeOff cX5_takeOff 3 (some .int)) (vv_R 3 0 0) [.ref p0, .int x1] S M (some (.int u.1)) S u.2 := by
  refine vv_ofV (by decide +kernel) (Nat.le_of_ble_eq_true rfl) (L := [(0, .ref p0), (1, .int x1)]) rfl rfl rfl ?_
  show vv_V [] yX5_takeOff.cls yX5_takeOff.name cX5_takeOff 3 (some .int) (vv_R 3 0 0) S.length (vv_sz S) (vv_fi S u) 0 [(0, .ref p0), (1, .int x1)] [] S M
  unfold f_X5_takeOff at hf
  refine vi_aload_n 0 dX5_takeOff_0 rfl rfl ?_
  refine vi_iload_n 1 dX5_takeOff_1 rfl rfl ?_
  obtain ⟨u1, hu1, hf⟩ := vv_bd hf
  refine vi_callV (As := [.int x1]) (st := []) (t_X5_noTakeOff n p0 x1 M u1 h0 hu1) rfl yo_X5_noTakeOff wm_X5_86 wi_X5_noTakeOff ws_X5_noTakeOff wI_X5 wc_X5_noTakeOff (vv_model_o h0) rfl ⟨Nat.le_of_ble_eq_true rfl, Nat.le_of_ble_eq_true rfl⟩ (vv_rm0 rfl rfl) (Nat.le_of_ble_eq_true rfl) rfl rfl dX5_takeOff_2 ?_
  obtain ⟨y2, ey2, hf⟩ := vv_lt hf
  refine vi_istore_n (L' := [(2, .int y2), (0, .ref p0), (1, .int x1)]) dX5_takeOff_5 rfl (by decide) (by rw [ey2]; rfl) ?_
  refine vi_iload_n 0 dX5_takeOff_6 rfl rfl ?_
  refine vi_if_eq 12 dX5_takeOff_7 (by decide) (fun c3 => ?_) (fun c3 => ?_)
  · rw [if_pos c3] at hf
    refine vi_aload_n 1 dX5_takeOff_12 rfl rfl ?_
    obtain ⟨u4, hu4, hf⟩ := vv_bd hf
    refine vi_callV (As := []) (st := []) (t_X5_record n p0 u1.2 u4 h0 hu4) rfl yo_X5_record wm_X5_38 wi_X5_record ws_X5_record wI_X5 wc_X5_record (vv_model_o h0) rfl ⟨Nat.le_of_ble_eq_true rfl, Nat.le_of_ble_eq_true rfl⟩ (vv_rm0 rfl rfl) (Nat.le_of_ble_eq_true rfl) rfl rfl dX5_takeOff_13 ?_
    refine vi_aload_n 1 dX5_takeOff_16 rfl rfl ?_
    refine vi_getr (t := p0 + 1) 0 rfl (vv_model_o h0) rfl wu_X5 (by decide) wf_X5_7 dX5_takeOff_17 ?_
    refine vi_iload_n 2 dX5_takeOff_20 rfl rfl ?_
    refine vi_iconst (v := (2 : Int32)) dX5_takeOff_21 (by decide) ?_
    obtain ⟨u5, hu5, hf⟩ := vv_bd hf
    refine vi_callS (As := [.int x1, .int (2 : Int32)]) (st := [.ref (p0 + 1)]) (t_X5_of n x1 (2 : Int32) u4.2 u5  hu5) rfl yo_X5_of wm_X5_27 wi_X5_of wI_X5 wc_X5_of ⟨Nat.le_of_ble_eq_true rfl, Nat.le_of_ble_eq_true rfl⟩ (vv_rm0 rfl rfl) (Nat.le_of_ble_eq_true rfl) rfl rfl dX5_takeOff_22 ?_
    refine vi_iconst (v := (2 : Int32)) dX5_takeOff_25 (by decide) ?_
    obtain ⟨g6, hf⟩ := vv_gd hf
    obtain ⟨M7, eM7, hf⟩ := vv_lt hf
    refine vi_iast (vv_model_row h0) g6 eM7.symm dX5_takeOff_26 ?_
    refine vi_sub (L' := [(0, .ref p0), (1, .int x1)]) [1, 2] rfl ?_
    exact t_X5_takeOff_27 n  u  p0 x1 M7 h0 hf
  · rw [if_neg c3] at hf
    refine vi_iload_n 0 dX5_takeOff_10 rfl rfl ?_
    obtain rfl := Option.some.inj hf
    exact vi_ret (v := some (.int y2)) rfl ⟨dX5_takeOff_11, .int, rfl, rfl⟩ ⟨rfl, rfl, rfl⟩
set_option maxRecDepth 20000 in
theorem t_X5_faultIf_54 {S : List vv_Sh} (n : Nat)  (u : Unit × vv_M)  (p0 : Nat) (x2 : Int32) (x3 : Int32) (M : vv_M) (h0 : vv_model S p0) (hf : f_X5_faultIf_54 n  p0 x2 x3 M = some u) : vv_V [] yX5_faultIf.cls yX5_faultIf.name cX5_faultIf 5 none (vv_R 1 0 0) S.length (vv_sz S) (vv_fu S u) 54 [(0, .ref p0), (2, .int x2), (3, .int x3)] [] S M := by
  unfold f_X5_faultIf_54 at hf
  refine vi_aload_n 0 dX5_faultIf_54 rfl rfl ?_
  refine vi_getr (t := p0 + 1) 0 rfl (vv_model_o h0) rfl wu_X5 (by decide) wf_X5_7 dX5_faultIf_55 ?_
  refine vi_iload_n 1 dX5_faultIf_58 rfl rfl ?_
  refine vi_bipush (v := (16 : Int32)) dX5_faultIf_59 (by decide) ?_
  refine vi_iload_n 2 dX5_faultIf_61 rfl rfl ?_
  refine vi_iadd dX5_faultIf_62 ?_
  obtain ⟨u10, hu10, hf⟩ := vv_bd hf
  refine vi_callS (As := [.int x2, .int ((16 : Int32) + x3)]) (st := [.ref (p0 + 1)]) (t_X5_of n x2 ((16 : Int32) + x3) M u10  hu10) rfl yo_X5_of wm_X5_27 wi_X5_of wI_X5 wc_X5_of ⟨Nat.le_of_ble_eq_true rfl, Nat.le_of_ble_eq_true rfl⟩ (vv_rm0 rfl rfl) (Nat.le_of_ble_eq_true rfl) rfl rfl dX5_faultIf_63 ?_
  refine vi_aload_n 0 dX5_faultIf_66 rfl rfl ?_
  refine vi_getr (t := p0 + 1) 0 rfl (vv_model_o h0) rfl wu_X5 (by decide) wf_X5_7 dX5_faultIf_67 ?_
  refine vi_bipush (v := (52 : Int32)) dX5_faultIf_70 (by decide) ?_
  obtain ⟨g13, hf⟩ := vv_gd hf
  refine vi_iald (vv_model_row h0) g13 dX5_faultIf_72 ?_
  obtain ⟨g11, hf⟩ := vv_gd hf
  obtain ⟨M12, eM12, hf⟩ := vv_lt hf
  refine vi_iast (vv_model_row h0) g11 eM12.symm dX5_faultIf_73 ?_
  obtain rfl := Option.some.inj hf
  exact vi_ret (v := none) rfl ⟨dX5_faultIf_74, rfl⟩ ⟨rfl, rfl, rfl⟩
set_option maxRecDepth 20000 in
theorem t_X5_faultIf {S : List vv_Sh} (n : Nat) (p0 : Nat) (x1 : Int32) (x2 : Int32) (x3 : Int32) (x4 : Int32) (M : vv_M) (u : Unit × vv_M) (h0 : vv_model S p0) (hf : f_X5_faultIf n p0 x1 x2 x3 x4 M = some u) : vv_C yX5_faultIf (vv_w yX5_faultIf cX5_faultIf 5 none) (vv_R 1 0 0) [.ref p0, .int x1, .int x2, .int x3, .int x4] S M none S u.2 := by
  refine vv_ofV (by decide +kernel) (Nat.le_of_ble_eq_true rfl) (L := [(0, .ref p0), (1, .int x1), (2, .int x2), (3, .int x3), (4, .int x4)]) rfl rfl rfl ?_
  show vv_V [] yX5_faultIf.cls yX5_faultIf.name cX5_faultIf 5 none (vv_R 1 0 0) S.length (vv_sz S) (vv_fu S u) 0 [(0, .ref p0), (1, .int x1), (2, .int x2), (3, .int x3), (4, .int x4)] [] S M
  unfold f_X5_faultIf at hf
  refine vi_iload_n 1 dX5_faultIf_0 rfl rfl ?_
  refine vi_if_eq 74 dX5_faultIf_1 (by decide) (fun c1 => ?_) (fun c1 => ?_)
  · rw [if_pos c1] at hf
    obtain rfl := Option.some.inj hf
    exact vi_ret (v := none) rfl ⟨dX5_faultIf_74, rfl⟩ ⟨rfl, rfl, rfl⟩
  · rw [if_neg c1] at hf
    refine vi_aload_n 0 dX5_faultIf_4 rfl rfl ?_
    refine vi_getr (t := p0 + 1) 0 rfl (vv_model_o h0) rfl wu_X5 (by decide) wf_X5_7 dX5_faultIf_5 ?_
    refine vi_iload_n 2 dX5_faultIf_8 rfl rfl ?_
    refine vi_bipush (v := (8 : Int32)) dX5_faultIf_9 (by decide) ?_
    obtain ⟨u2, hu2, hf⟩ := vv_bd hf
    refine vi_callS (As := [.int x2, .int (8 : Int32)]) (st := [.ref (p0 + 1)]) (t_X5_of n x2 (8 : Int32) M u2  hu2) rfl yo_X5_of wm_X5_27 wi_X5_of wI_X5 wc_X5_of ⟨Nat.le_of_ble_eq_true rfl, Nat.le_of_ble_eq_true rfl⟩ (vv_rm0 rfl rfl) (Nat.le_of_ble_eq_true rfl) rfl rfl dX5_faultIf_11 ?_
    obtain ⟨g15, hf⟩ := vv_gd hf
    refine vi_iald (vv_model_row h0) g15 dX5_faultIf_14 ?_
    refine vi_iload_n 3 dX5_faultIf_15 rfl rfl ?_
    refine vi_ishr dX5_faultIf_16 ?_
    refine vi_iconst (v := (1 : Int32)) dX5_faultIf_17 (by decide) ?_
    refine vi_iand dX5_faultIf_18 ?_
    refine vi_if_ne 74 dX5_faultIf_19 (by decide) (fun c3 => ?_) (fun c3 => ?_)
    · rw [if_neg c3] at hf
      obtain rfl := Option.some.inj hf
      exact vi_ret (v := none) rfl ⟨dX5_faultIf_74, rfl⟩ ⟨rfl, rfl, rfl⟩
    · rw [if_pos c3] at hf
      refine vi_aload_n 0 dX5_faultIf_22 rfl rfl ?_
      refine vi_getr (t := p0 + 1) 0 rfl (vv_model_o h0) rfl wu_X5 (by decide) wf_X5_7 dX5_faultIf_23 ?_
      refine vi_iload_n 2 dX5_faultIf_26 rfl rfl ?_
      refine vi_bipush (v := (8 : Int32)) dX5_faultIf_27 (by decide) ?_
      obtain ⟨u4, hu4, hf⟩ := vv_bd hf
      refine vi_callS (As := [.int x2, .int (8 : Int32)]) (st := [.ref (p0 + 1)]) (t_X5_of n x2 (8 : Int32) u2.2 u4  hu4) rfl yo_X5_of wm_X5_27 wi_X5_of wI_X5 wc_X5_of ⟨Nat.le_of_ble_eq_true rfl, Nat.le_of_ble_eq_true rfl⟩ (vv_rm0 rfl rfl) (Nat.le_of_ble_eq_true rfl) rfl rfl dX5_faultIf_29 ?_
      refine vi_dup2 dX5_faultIf_32 rfl rfl ?_
      obtain ⟨g14, hf⟩ := vv_gd hf
      refine vi_iald (vv_model_row h0) g14 dX5_faultIf_33 ?_
      refine vi_iconst (v := (1 : Int32)) dX5_faultIf_34 (by decide) ?_
      refine vi_iload_n 3 dX5_faultIf_35 rfl rfl ?_
      refine vi_ishl dX5_faultIf_36 ?_
      refine vi_ior dX5_faultIf_37 ?_
      obtain ⟨g5, hf⟩ := vv_gd hf
      obtain ⟨M6, eM6, hf⟩ := vv_lt hf
      refine vi_iast (vv_model_row h0) g5 eM6.symm dX5_faultIf_38 ?_
      refine vi_aload_n 0 dX5_faultIf_39 rfl rfl ?_
      refine vi_getr (t := p0 + 1) 0 rfl (vv_model_o h0) rfl wu_X5 (by decide) wf_X5_7 dX5_faultIf_40 ?_
      refine vi_iload_n 2 dX5_faultIf_43 rfl rfl ?_
      refine vi_bipush (v := (11 : Int32)) dX5_faultIf_44 (by decide) ?_
      refine vi_iload_n 3 dX5_faultIf_46 rfl rfl ?_
      refine vi_iadd dX5_faultIf_47 ?_
      obtain ⟨u7, hu7, hf⟩ := vv_bd hf
      refine vi_callS (As := [.int x2, .int ((11 : Int32) + x3)]) (st := [.ref (p0 + 1)]) (t_X5_of n x2 ((11 : Int32) + x3) M6 u7  hu7) rfl yo_X5_of wm_X5_27 wi_X5_of wI_X5 wc_X5_of ⟨Nat.le_of_ble_eq_true rfl, Nat.le_of_ble_eq_true rfl⟩ (vv_rm0 rfl rfl) (Nat.le_of_ble_eq_true rfl) rfl rfl dX5_faultIf_48 ?_
      refine vi_iload 4 dX5_faultIf_51 rfl ?_
      obtain ⟨g8, hf⟩ := vv_gd hf
      obtain ⟨M9, eM9, hf⟩ := vv_lt hf
      refine vi_iast (vv_model_row h0) g8 eM9.symm dX5_faultIf_53 ?_
      refine vi_sub (L' := [(0, .ref p0), (2, .int x2), (3, .int x3)]) [0, 2, 3] rfl ?_
      exact t_X5_faultIf_54 n  u  p0 x2 x3 M9 h0 hf
set_option maxRecDepth 20000 in
theorem t_X5_curveOf {S : List vv_Sh} (n : Nat) (p0 : Nat) (x1 : Int32) (x2 : Int32) (M : vv_M) (u : Int32 × vv_M) (h0 : vv_model S p0) (hf : f_X5_curveOf n p0 x1 x2 M = some u) : vv_C yX5_curveOf (vv_w yX5_curveOf cX5_curveOf 3 (some .int)) (vv_R 1 0 0) [.ref p0, .int x1, .int x2] S M (some (.int u.1)) S u.2 := by
  refine vv_ofV (by decide +kernel) (Nat.le_of_ble_eq_true rfl) (L := [(0, .ref p0), (1, .int x1), (2, .int x2)]) rfl rfl rfl ?_
  show vv_V [] yX5_curveOf.cls yX5_curveOf.name cX5_curveOf 3 (some .int) (vv_R 1 0 0) S.length (vv_sz S) (vv_fi S u) 0 [(0, .ref p0), (1, .int x1), (2, .int x2)] [] S M
  unfold f_X5_curveOf at hf
  refine vi_aload_n 0 dX5_curveOf_0 rfl rfl ?_
  refine vi_getr (t := p0 + 1) 0 rfl (vv_model_o h0) rfl wu_X5 (by decide) wf_X5_7 dX5_curveOf_1 ?_
  refine vi_aload_n 0 dX5_curveOf_4 rfl rfl ?_
  refine vi_getr (t := p0 + 1) 0 rfl (vv_model_o h0) rfl wu_X5 (by decide) wf_X5_7 dX5_curveOf_5 ?_
  refine vi_iload_n 1 dX5_curveOf_8 rfl rfl ?_
  refine vi_iconst (v := (0 : Int32)) dX5_curveOf_9 (by decide) ?_
  obtain ⟨u1, hu1, hf⟩ := vv_bd hf
  refine vi_callS (As := [.int x1, .int (0 : Int32)]) (st := [.ref (p0 + 1), .ref (p0 + 1)]) (t_X5_of n x1 (0 : Int32) M u1  hu1) rfl yo_X5_of wm_X5_27 wi_X5_of wI_X5 wc_X5_of ⟨Nat.le_of_ble_eq_true rfl, Nat.le_of_ble_eq_true rfl⟩ (vv_rm0 rfl rfl) (Nat.le_of_ble_eq_true rfl) rfl rfl dX5_curveOf_10 ?_
  obtain ⟨g4, hf⟩ := vv_gd hf
  refine vi_iald (vv_model_row h0) g4 dX5_curveOf_13 ?_
  refine vi_iload_n 2 dX5_curveOf_14 rfl rfl ?_
  obtain ⟨u2, hu2, hf⟩ := vv_bd hf
  refine vi_callS (As := [.int (u1.2 (p0 + 1) u1.1.toNatClampNeg), .int x2]) (st := [.ref (p0 + 1)]) (t_X5_ofCurve n (u1.2 (p0 + 1) u1.1.toNatClampNeg) x2 u1.2 u2  hu2) rfl yo_X5_ofCurve wm_X5_20 wi_X5_ofCurve wI_X5 wc_X5_ofCurve ⟨Nat.le_of_ble_eq_true rfl, Nat.le_of_ble_eq_true rfl⟩ (vv_rm0 rfl rfl) (Nat.le_of_ble_eq_true rfl) rfl rfl dX5_curveOf_15 ?_
  obtain ⟨g3, hf⟩ := vv_gd hf
  refine vi_iald (vv_model_row h0) g3 dX5_curveOf_18 ?_
  obtain rfl := Option.some.inj hf
  exact vi_ret (v := some (.int (u2.2 (p0 + 1) u2.1.toNatClampNeg))) rfl ⟨dX5_curveOf_19, .int, rfl, rfl⟩ ⟨rfl, rfl, rfl⟩
set_option maxRecDepth 20000 in
theorem t_X5_goOn_126 {S : List vv_Sh} (n : Nat)  (u : Unit × vv_M)  (x1 : Int32) (x2 : Int32) (s0 : Nat) (s1 : Int32) (M : vv_M) (g0 : vv_model S s0) (hf : f_X5_goOn_126 n  x1 x2 s0 s1 M = some u) : vv_V [] yX5_goOn.cls yX5_goOn.name cX5_goOn 3 none (vv_R 2 0 0) S.length (vv_sz S) (vv_fu S u) 126 [(1, .int x1), (2, .int x2)] [.int s1, .ref s0] S M := by
  unfold f_X5_goOn_126 at hf
  refine vi_iload_n 0 dX5_goOn_126 rfl rfl ?_
  refine vi_iconst (v := (4 : Int32)) dX5_goOn_127 (by decide) ?_
  refine vi_iload_n 1 dX5_goOn_128 rfl rfl ?_
  obtain ⟨u21, hu21, hf⟩ := vv_bd hf
  refine vi_callV (As := [.int s1, .int x1, .int (4 : Int32), .int x2]) (st := []) (t_X5_faultIf n s0 s1 x1 (4 : Int32) x2 M u21 g0 hu21) rfl yo_X5_faultIf wm_X5_92 wi_X5_faultIf ws_X5_faultIf wI_X5 wc_X5_faultIf (vv_model_o g0) rfl ⟨Nat.le_of_ble_eq_true rfl, Nat.le_of_ble_eq_true rfl⟩ (vv_rm0 rfl rfl) (Nat.le_of_ble_eq_true rfl) rfl rfl dX5_goOn_129 ?_
  obtain rfl := Option.some.inj hf
  exact vi_ret (v := none) rfl ⟨dX5_goOn_132, rfl⟩ ⟨rfl, rfl, rfl⟩
set_option maxRecDepth 20000 in
theorem t_X5_goOn_94 {S : List vv_Sh} (n : Nat)  (u : Unit × vv_M)  (p0 : Nat) (x1 : Int32) (x2 : Int32) (s0 : Nat) (s1 : Int32) (M : vv_M) (h0 : vv_model S p0) (g0 : vv_model S s0) (hf : f_X5_goOn_94 n  p0 x1 x2 s0 s1 M = some u) : vv_V [] yX5_goOn.cls yX5_goOn.name cX5_goOn 3 none (vv_R 2 0 0) S.length (vv_sz S) (vv_fu S u) 94 [(0, .ref p0), (1, .int x1), (2, .int x2)] [.int s1, .ref s0] S M := by
  unfold f_X5_goOn_94 at hf
  refine vi_iload_n 1 dX5_goOn_94 rfl rfl ?_
  refine vi_iconst (v := (3 : Int32)) dX5_goOn_95 (by decide) ?_
  refine vi_iload_n 2 dX5_goOn_96 rfl rfl ?_
  obtain ⟨u17, hu17, hf⟩ := vv_bd hf
  refine vi_callV (As := [.int s1, .int x1, .int (3 : Int32), .int x2]) (st := []) (t_X5_faultIf n s0 s1 x1 (3 : Int32) x2 M u17 g0 hu17) rfl yo_X5_faultIf wm_X5_92 wi_X5_faultIf ws_X5_faultIf wI_X5 wc_X5_faultIf (vv_model_o g0) rfl ⟨Nat.le_of_ble_eq_true rfl, Nat.le_of_ble_eq_true rfl⟩ (vv_rm0 rfl rfl) (Nat.le_of_ble_eq_true rfl) rfl rfl dX5_goOn_97 ?_
  refine vi_aload_n 0 dX5_goOn_100 rfl rfl ?_
  refine vi_aload_n 0 dX5_goOn_101 rfl rfl ?_
  refine vi_getr (t := p0 + 1) 0 rfl (vv_model_o h0) rfl wu_X5 (by decide) wf_X5_7 dX5_goOn_102 ?_
  refine vi_iload_n 1 dX5_goOn_105 rfl rfl ?_
  refine vi_bipush (v := (6 : Int32)) dX5_goOn_106 (by decide) ?_
  obtain ⟨u18, hu18, hf⟩ := vv_bd hf
  refine vi_callS (As := [.int x1, .int (6 : Int32)]) (st := [.ref (p0 + 1), .ref p0]) (t_X5_of n x1 (6 : Int32) u17.2 u18  hu18) rfl yo_X5_of wm_X5_27 wi_X5_of wI_X5 wc_X5_of ⟨Nat.le_of_ble_eq_true rfl, Nat.le_of_ble_eq_true rfl⟩ (vv_rm0 rfl rfl) (Nat.le_of_ble_eq_true rfl) rfl rfl dX5_goOn_108 ?_
  obtain ⟨g22, hf⟩ := vv_gd hf
  refine vi_iald (vv_model_row h0) g22 dX5_goOn_111 ?_
  refine vi_aload_n 0 dX5_goOn_112 rfl rfl ?_
  refine vi_iload_n 1 dX5_goOn_113 rfl rfl ?_
  refine vi_iconst (v := (4 : Int32)) dX5_goOn_114 (by decide) ?_
  obtain ⟨u19, hu19, hf⟩ := vv_bd hf
  refine vi_callV (As := [.int x1, .int (4 : Int32)]) (st := [.int (u18.2 (p0 + 1) u18.1.toNatClampNeg), .ref p0]) (t_X5_curveOf n p0 x1 (4 : Int32) u18.2 u19 h0 hu19) rfl yo_X5_curveOf wm_X5_89 wi_X5_curveOf ws_X5_curveOf wI_X5 wc_X5_curveOf (vv_model_o h0) rfl ⟨Nat.le_of_ble_eq_true rfl, Nat.le_of_ble_eq_true rfl⟩ (vv_rm0 rfl rfl) (Nat.le_of_ble_eq_true rfl) rfl rfl dX5_goOn_115 ?_
  refine vi_icmp_ge 125 dX5_goOn_118 (by decide) (fun c20 => ?_) (fun c20 => ?_)
  · rw [if_pos c20] at hf
    refine vi_iconst (v := (0 : Int32)) dX5_goOn_125 (by decide) ?_
    refine vi_sub (L' := [(1, .int x1), (2, .int x2)]) [1, 2] rfl ?_
    exact t_X5_goOn_126 n  u  x1 x2 p0 (0 : Int32) u19.2 h0 hf
  · rw [if_neg c20] at hf
    refine vi_iconst (v := (1 : Int32)) dX5_goOn_121 (by decide) ?_
    refine vi_goto 126 dX5_goOn_122 (by decide) ?_
    refine vi_sub (L' := [(1, .int x1), (2, .int x2)]) [1, 2] rfl ?_
    exact t_X5_goOn_126 n  u  x1 x2 p0 (1 : Int32) u19.2 h0 hf
set_option maxRecDepth 20000 in
theorem t_X5_goOn_39 {S : List vv_Sh} (n : Nat)  (u : Unit × vv_M)  (p0 : Nat) (x1 : Int32) (x2 : Int32) (M : vv_M) (h0 : vv_model S p0) (hf : f_X5_goOn_39 n  p0 x1 x2 M = some u) : vv_V [] yX5_goOn.cls yX5_goOn.name cX5_goOn 3 none (vv_R 2 0 0) S.length (vv_sz S) (vv_fu S u) 39 [(0, .ref p0), (1, .int x1), (2, .int x2)] [] S M := by
  unfold f_X5_goOn_39 at hf
  refine vi_aload_n 0 dX5_goOn_39 rfl rfl ?_
  refine vi_getr (t := p0 + 1) 0 rfl (vv_model_o h0) rfl wu_X5 (by decide) wf_X5_7 dX5_goOn_40 ?_
  refine vi_iload_n 1 dX5_goOn_43 rfl rfl ?_
  refine vi_iconst (v := (2 : Int32)) dX5_goOn_44 (by decide) ?_
  obtain ⟨u8, hu8, hf⟩ := vv_bd hf
  refine vi_callS (As := [.int x1, .int (2 : Int32)]) (st := [.ref (p0 + 1)]) (t_X5_of n x1 (2 : Int32) M u8  hu8) rfl yo_X5_of wm_X5_27 wi_X5_of wI_X5 wc_X5_of ⟨Nat.le_of_ble_eq_true rfl, Nat.le_of_ble_eq_true rfl⟩ (vv_rm0 rfl rfl) (Nat.le_of_ble_eq_true rfl) rfl rfl dX5_goOn_45 ?_
  refine vi_iconst (v := (1 : Int32)) dX5_goOn_48 (by decide) ?_
  obtain ⟨g9, hf⟩ := vv_gd hf
  obtain ⟨M10, eM10, hf⟩ := vv_lt hf
  refine vi_iast (vv_model_row h0) g9 eM10.symm dX5_goOn_49 ?_
  refine vi_aload_n 0 dX5_goOn_50 rfl rfl ?_
  refine vi_getr (t := p0 + 1) 0 rfl (vv_model_o h0) rfl wu_X5 (by decide) wf_X5_7 dX5_goOn_51 ?_
  refine vi_iload_n 1 dX5_goOn_54 rfl rfl ?_
  refine vi_bipush (v := (10 : Int32)) dX5_goOn_55 (by decide) ?_
  obtain ⟨u11, hu11, hf⟩ := vv_bd hf
  refine vi_callS (As := [.int x1, .int (10 : Int32)]) (st := [.ref (p0 + 1)]) (t_X5_of n x1 (10 : Int32) M10 u11  hu11) rfl yo_X5_of wm_X5_27 wi_X5_of wI_X5 wc_X5_of ⟨Nat.le_of_ble_eq_true rfl, Nat.le_of_ble_eq_true rfl⟩ (vv_rm0 rfl rfl) (Nat.le_of_ble_eq_true rfl) rfl rfl dX5_goOn_57 ?_
  refine vi_aload_n 0 dX5_goOn_60 rfl rfl ?_
  refine vi_getr (t := p0 + 1) 0 rfl (vv_model_o h0) rfl wu_X5 (by decide) wf_X5_7 dX5_goOn_61 ?_
  refine vi_bipush (v := (52 : Int32)) dX5_goOn_64 (by decide) ?_
  obtain ⟨g24, hf⟩ := vv_gd hf
  refine vi_iald (vv_model_row h0) g24 dX5_goOn_66 ?_
  obtain ⟨g12, hf⟩ := vv_gd hf
  obtain ⟨M13, eM13, hf⟩ := vv_lt hf
  refine vi_iast (vv_model_row h0) g12 eM13.symm dX5_goOn_67 ?_
  refine vi_aload_n 0 dX5_goOn_68 rfl rfl ?_
  refine vi_aload_n 0 dX5_goOn_69 rfl rfl ?_
  refine vi_getr (t := p0 + 1) 0 rfl (vv_model_o h0) rfl wu_X5 (by decide) wf_X5_7 dX5_goOn_70 ?_
  refine vi_iload_n 1 dX5_goOn_73 rfl rfl ?_
  refine vi_bipush (v := (7 : Int32)) dX5_goOn_74 (by decide) ?_
  obtain ⟨u14, hu14, hf⟩ := vv_bd hf
  refine vi_callS (As := [.int x1, .int (7 : Int32)]) (st := [.ref (p0 + 1), .ref p0]) (t_X5_of n x1 (7 : Int32) M13 u14  hu14) rfl yo_X5_of wm_X5_27 wi_X5_of wI_X5 wc_X5_of ⟨Nat.le_of_ble_eq_true rfl, Nat.le_of_ble_eq_true rfl⟩ (vv_rm0 rfl rfl) (Nat.le_of_ble_eq_true rfl) rfl rfl dX5_goOn_76 ?_
  obtain ⟨g23, hf⟩ := vv_gd hf
  refine vi_iald (vv_model_row h0) g23 dX5_goOn_79 ?_
  refine vi_aload_n 0 dX5_goOn_80 rfl rfl ?_
  refine vi_iload_n 1 dX5_goOn_81 rfl rfl ?_
  refine vi_iconst (v := (2 : Int32)) dX5_goOn_82 (by decide) ?_
  obtain ⟨u15, hu15, hf⟩ := vv_bd hf
  refine vi_callV (As := [.int x1, .int (2 : Int32)]) (st := [.int (u14.2 (p0 + 1) u14.1.toNatClampNeg), .ref p0]) (t_X5_curveOf n p0 x1 (2 : Int32) u14.2 u15 h0 hu15) rfl yo_X5_curveOf wm_X5_89 wi_X5_curveOf ws_X5_curveOf wI_X5 wc_X5_curveOf (vv_model_o h0) rfl ⟨Nat.le_of_ble_eq_true rfl, Nat.le_of_ble_eq_true rfl⟩ (vv_rm0 rfl rfl) (Nat.le_of_ble_eq_true rfl) rfl rfl dX5_goOn_83 ?_
  refine vi_icmp_ge 93 dX5_goOn_86 (by decide) (fun c16 => ?_) (fun c16 => ?_)
  · rw [if_pos c16] at hf
    refine vi_iconst (v := (0 : Int32)) dX5_goOn_93 (by decide) ?_
    exact t_X5_goOn_94 n  u  p0 x1 x2 p0 (0 : Int32) u15.2 h0 h0 hf
  · rw [if_neg c16] at hf
    refine vi_iconst (v := (1 : Int32)) dX5_goOn_89 (by decide) ?_
    refine vi_goto 94 dX5_goOn_90 (by decide) ?_
    exact t_X5_goOn_94 n  u  p0 x1 x2 p0 (1 : Int32) u15.2 h0 h0 hf
set_option maxRecDepth 20000 in
theorem t_X5_goOn {S : List vv_Sh} (n : Nat) (p0 : Nat) (x1 : Int32) (M : vv_M) (u : Unit × vv_M) (h0 : vv_model S p0) (hf : f_X5_goOn n p0 x1 M = some u) : vv_C yX5_goOn (vv_w yX5_goOn cX5_goOn 3 none) (vv_R 2 0 0) [.ref p0, .int x1] S M none S u.2 := by
  refine vv_ofV (by decide +kernel) (Nat.le_of_ble_eq_true rfl) (L := [(0, .ref p0), (1, .int x1)]) rfl rfl rfl ?_
  show vv_V [] yX5_goOn.cls yX5_goOn.name cX5_goOn 3 none (vv_R 2 0 0) S.length (vv_sz S) (vv_fu S u) 0 [(0, .ref p0), (1, .int x1)] [] S M
  unfold f_X5_goOn at hf
  refine vi_aload_n 0 dX5_goOn_0 rfl rfl ?_
  obtain ⟨u1, hu1, hf⟩ := vv_bd hf
  refine vi_callV (As := []) (st := []) (t_X5_belt n p0 M u1 h0 hu1) rfl yo_X5_belt wm_X5_49 wi_X5_belt ws_X5_belt wI_X5 wc_X5_belt (vv_model_o h0) rfl ⟨Nat.le_of_ble_eq_true rfl, Nat.le_of_ble_eq_true rfl⟩ (vv_rm0 rfl rfl) (Nat.le_of_ble_eq_true rfl) rfl rfl dX5_goOn_1 ?_
  obtain ⟨y2, ey2, hf⟩ := vv_lt hf
  refine vi_istore_n (L' := [(2, .int y2), (0, .ref p0), (1, .int x1)]) dX5_goOn_4 rfl (by decide) (by rw [ey2]; rfl) ?_
  refine vi_aload_n 1 dX5_goOn_5 rfl rfl ?_
  refine vi_getr (t := p0 + 1) 0 rfl (vv_model_o h0) rfl wu_X5 (by decide) wf_X5_7 dX5_goOn_6 ?_
  refine vi_iload_n 2 dX5_goOn_9 rfl rfl ?_
  refine vi_iconst (v := (3 : Int32)) dX5_goOn_10 (by decide) ?_
  obtain ⟨u3, hu3, hf⟩ := vv_bd hf
  refine vi_callS (As := [.int x1, .int (3 : Int32)]) (st := [.ref (p0 + 1)]) (t_X5_of n x1 (3 : Int32) u1.2 u3  hu3) rfl yo_X5_of wm_X5_27 wi_X5_of wI_X5 wc_X5_of ⟨Nat.le_of_ble_eq_true rfl, Nat.le_of_ble_eq_true rfl⟩ (vv_rm0 rfl rfl) (Nat.le_of_ble_eq_true rfl) rfl rfl dX5_goOn_11 ?_
  refine vi_dup2 dX5_goOn_14 rfl rfl ?_
  obtain ⟨g27, hf⟩ := vv_gd hf
  refine vi_iald (vv_model_row h0) g27 dX5_goOn_15 ?_
  refine vi_aload_n 1 dX5_goOn_16 rfl rfl ?_
  refine vi_getr (t := p0 + 1) 0 rfl (vv_model_o h0) rfl wu_X5 (by decide) wf_X5_7 dX5_goOn_17 ?_
  refine vi_bipush (v := (48 : Int32)) dX5_goOn_20 (by decide) ?_
  obtain ⟨g26, hf⟩ := vv_gd hf
  refine vi_iald (vv_model_row h0) g26 dX5_goOn_22 ?_
  refine vi_iadd dX5_goOn_23 ?_
  obtain ⟨g4, hf⟩ := vv_gd hf
  obtain ⟨M5, eM5, hf⟩ := vv_lt hf
  refine vi_iast (vv_model_row h0) g4 eM5.symm dX5_goOn_24 ?_
  refine vi_aload_n 1 dX5_goOn_25 rfl rfl ?_
  refine vi_getr (t := p0 + 1) 0 rfl (vv_model_o h0) rfl wu_X5 (by decide) wf_X5_7 dX5_goOn_26 ?_
  refine vi_iload_n 2 dX5_goOn_29 rfl rfl ?_
  refine vi_iconst (v := (3 : Int32)) dX5_goOn_30 (by decide) ?_
  obtain ⟨u6, hu6, hf⟩ := vv_bd hf
  refine vi_callS (As := [.int x1, .int (3 : Int32)]) (st := [.ref (p0 + 1)]) (t_X5_of n x1 (3 : Int32) M5 u6  hu6) rfl yo_X5_of wm_X5_27 wi_X5_of wI_X5 wc_X5_of ⟨Nat.le_of_ble_eq_true rfl, Nat.le_of_ble_eq_true rfl⟩ (vv_rm0 rfl rfl) (Nat.le_of_ble_eq_true rfl) rfl rfl dX5_goOn_31 ?_
  obtain ⟨g25, hf⟩ := vv_gd hf
  refine vi_iald (vv_model_row h0) g25 dX5_goOn_34 ?_
  refine vi_iload_n 0 dX5_goOn_35 rfl rfl ?_
  refine vi_icmp_lt 132 dX5_goOn_36 (by decide) (fun c7 => ?_) (fun c7 => ?_)
  · rw [if_pos c7] at hf
    obtain rfl := Option.some.inj hf
    exact vi_ret (v := none) rfl ⟨dX5_goOn_132, rfl⟩ ⟨rfl, rfl, rfl⟩
  · rw [if_neg c7] at hf
    refine vi_sub (L' := [(0, .ref p0), (1, .int x1), (2, .int y2)]) [1, 2, 0] rfl ?_
    exact t_X5_goOn_39 n  u  p0 x1 y2 u6.2 h0 hf
set_option maxRecDepth 20000 in
theorem t_X5_weightsIn_56 {S : List vv_Sh} (n : Nat) (k4 : Nat → Int32 → Int32 → Int32 → vv_M → Option (Int32 × vv_M)) (u : Int32 × vv_M) (hk4 : ∀ (p0 : Nat) (x1 : Int32) (x2 : Int32) (x3 : Int32) (M : vv_M) (h0 : vv_model S p0) (hf : k4 p0 x1 x2 x3 M = some u), vv_V [] yX5_weightsIn.cls yX5_weightsIn.name cX5_weightsIn 4 (some .int) (vv_R 2 0 0) S.length (vv_sz S) (vv_fi S u) 4 [(0, .ref p0), (1, .int x1), (2, .int x2), (3, .int x3)] [] S M) (p0 : Nat) (x1 : Int32) (x3 : Int32) (s0 : Int32) (s1 : Int32) (M : vv_M) (h0 : vv_model S p0) (hf : f_X5_weightsIn_56 n k4 p0 x1 x3 s0 s1 M = some u) : vv_V [] yX5_weightsIn.cls yX5_weightsIn.name cX5_weightsIn 4 (some .int) (vv_R 2 0 0) S.length (vv_sz S) (vv_fi S u) 56 [(0, .ref p0), (1, .int x1), (3, .int x3)] [.int s1, .int s0] S M := by
  unfold f_X5_weightsIn_56 at hf
  refine vi_iadd dX5_weightsIn_56 ?_
  obtain ⟨y4, ey4, hf⟩ := vv_lt hf
  refine vi_istore_n (L' := [(2, .int y4), (0, .ref p0), (1, .int x1), (3, .int x3)]) dX5_weightsIn_57 rfl (by decide) (by rw [ey4]; rfl) ?_
  obtain ⟨y5, ey5, hf⟩ := vv_lt hf
  refine vi_iinc (v := y5) (L' := [(3, .int y5), (2, .int y4), (0, .ref p0), (1, .int x1)]) 3 dX5_weightsIn_58 rfl (by rw [ey5]; rfl) (by decide) rfl ?_
  refine vi_goto 4 dX5_weightsIn_61 (by decide) ?_
  refine vi_sub (L' := [(0, .ref p0), (1, .int x1), (2, .int y4), (3, .int y5)]) [2, 3, 1, 0] rfl ?_
  exact hk4 p0 x1 y4 y5 M h0 hf
set_option maxRecDepth 20000 in
theorem t_X5_weightsIn_55 {S : List vv_Sh} (n : Nat) (k4 : Nat → Int32 → Int32 → Int32 → vv_M → Option (Int32 × vv_M)) (u : Int32 × vv_M) (hk4 : ∀ (p0 : Nat) (x1 : Int32) (x2 : Int32) (x3 : Int32) (M : vv_M) (h0 : vv_model S p0) (hf : k4 p0 x1 x2 x3 M = some u), vv_V [] yX5_weightsIn.cls yX5_weightsIn.name cX5_weightsIn 4 (some .int) (vv_R 2 0 0) S.length (vv_sz S) (vv_fi S u) 4 [(0, .ref p0), (1, .int x1), (2, .int x2), (3, .int x3)] [] S M) (p0 : Nat) (x1 : Int32) (x3 : Int32) (s0 : Int32) (M : vv_M) (h0 : vv_model S p0) (hf : f_X5_weightsIn_55 n k4 p0 x1 x3 s0 M = some u) : vv_V [] yX5_weightsIn.cls yX5_weightsIn.name cX5_weightsIn 4 (some .int) (vv_R 2 0 0) S.length (vv_sz S) (vv_fi S u) 55 [(0, .ref p0), (1, .int x1), (3, .int x3)] [.int s0] S M := by
  unfold f_X5_weightsIn_55 at hf
  refine vi_iconst (v := (0 : Int32)) dX5_weightsIn_55 (by decide) ?_
  exact t_X5_weightsIn_56 n k4 u hk4 p0 x1 x3 s0 (0 : Int32) M h0 hf
set_option maxRecDepth 20000 in
theorem t_X5_weightsIn_4 {S : List vv_Sh} (n : Nat)  (u : Int32 × vv_M)  : ∀ (k : Nat) (p0 : Nat) (x1 : Int32) (x2 : Int32) (x3 : Int32) (M : vv_M) (h0 : vv_model S p0) (hf : f_X5_weightsIn_4 n  k p0 x1 x2 x3 M = some u), vv_V [] yX5_weightsIn.cls yX5_weightsIn.name cX5_weightsIn 4 (some .int) (vv_R 2 0 0) S.length (vv_sz S) (vv_fi S u) 4 [(0, .ref p0), (1, .int x1), (2, .int x2), (3, .int x3)] [] S M := by
  intro k
  induction k with
  | zero =>
    intro p0 x1 x2 x3 M h0 hf
    exact absurd (show (none : Option (Int32 × vv_M)) = some u from hf) (by simp)
  | succ k ih =>
    intro p0 x1 x2 x3 M h0 hf
    rw [f_X5_weightsIn_4.eq_2] at hf
    refine vi_iload_n 3 dX5_weightsIn_4 rfl rfl ?_
    refine vi_aload_n 0 dX5_weightsIn_5 rfl rfl ?_
    refine vi_getr (t := p0 + 1) 0 rfl (vv_model_o h0) rfl wu_X5 (by decide) wf_X5_7 dX5_weightsIn_6 ?_
    refine vi_bipush (v := (53 : Int32)) dX5_weightsIn_9 (by decide) ?_
    obtain ⟨g12, hf⟩ := vv_gd hf
    refine vi_iald (vv_model_row h0) g12 dX5_weightsIn_11 ?_
    refine vi_icmp_ge 64 dX5_weightsIn_12 (by decide) (fun c1 => ?_) (fun c1 => ?_)
    · rw [if_pos c1] at hf
      refine vi_iload_n 2 dX5_weightsIn_64 rfl rfl ?_
      obtain rfl := Option.some.inj hf
      exact vi_ret (v := some (.int x2)) rfl ⟨dX5_weightsIn_65, .int, rfl, rfl⟩ ⟨rfl, rfl, rfl⟩
    · rw [if_neg c1] at hf
      refine vi_iload_n 2 dX5_weightsIn_15 rfl rfl ?_
      refine vi_aload_n 0 dX5_weightsIn_16 rfl rfl ?_
      refine vi_iload_n 3 dX5_weightsIn_17 rfl rfl ?_
      obtain ⟨u2, hu2, hf⟩ := vv_bd hf
      refine vi_callV (As := [.int x3]) (st := [.int x2]) (t_X5_isOn n p0 x3 M u2 h0 hu2) rfl yo_X5_isOn wm_X5_67 wi_X5_isOn ws_X5_isOn wI_X5 wc_X5_isOn (vv_model_o h0) rfl ⟨Nat.le_of_ble_eq_true rfl, Nat.le_of_ble_eq_true rfl⟩ (vv_rm0 rfl rfl) (Nat.le_of_ble_eq_true rfl) rfl rfl dX5_weightsIn_18 ?_
      refine vi_if_eq 55 dX5_weightsIn_21 (by decide) (fun c3 => ?_) (fun c3 => ?_)
      · rw [if_pos c3] at hf
        refine vi_sub (L' := [(0, .ref p0), (1, .int x1), (3, .int x3)]) [0, 1, 3] rfl ?_
        exact t_X5_weightsIn_55 n (f_X5_weightsIn_4 n k) u ih p0 x1 x3 x2 u2.2 h0 hf
      · rw [if_neg c3] at hf
        refine vi_aload_n 0 dX5_weightsIn_24 rfl rfl ?_
        refine vi_aload_n 0 dX5_weightsIn_25 rfl rfl ?_
        refine vi_getr (t := p0 + 1) 0 rfl (vv_model_o h0) rfl wu_X5 (by decide) wf_X5_7 dX5_weightsIn_26 ?_
        refine vi_iload_n 3 dX5_weightsIn_29 rfl rfl ?_
        refine vi_iconst (v := (3 : Int32)) dX5_weightsIn_30 (by decide) ?_
        obtain ⟨u6, hu6, hf⟩ := vv_bd hf
        refine vi_callS (As := [.int x3, .int (3 : Int32)]) (st := [.ref (p0 + 1), .ref p0, .int x2]) (t_X5_of n x3 (3 : Int32) u2.2 u6  hu6) rfl yo_X5_of wm_X5_27 wi_X5_of wI_X5 wc_X5_of ⟨Nat.le_of_ble_eq_true rfl, Nat.le_of_ble_eq_true rfl⟩ (vv_rm0 rfl rfl) (Nat.le_of_ble_eq_true rfl) rfl rfl dX5_weightsIn_31 ?_
        obtain ⟨g11, hf⟩ := vv_gd hf
        refine vi_iald (vv_model_row h0) g11 dX5_weightsIn_34 ?_
        obtain ⟨u7, hu7, hf⟩ := vv_bd hf
        refine vi_callV (As := [.int (u6.2 (p0 + 1) u6.1.toNatClampNeg)]) (st := [.int x2]) (t_X5_zoneOf n p0 (u6.2 (p0 + 1) u6.1.toNatClampNeg) u6.2 u7 h0 hu7) rfl yo_X5_zoneOf wm_X5_96 wi_X5_zoneOf ws_X5_zoneOf wI_X5 wc_X5_zoneOf (vv_model_o h0) rfl ⟨Nat.le_of_ble_eq_true rfl, Nat.le_of_ble_eq_true rfl⟩ (vv_rm0 rfl rfl) (Nat.le_of_ble_eq_true rfl) rfl rfl dX5_weightsIn_35 ?_
        refine vi_iload_n 1 dX5_weightsIn_38 rfl rfl ?_
        refine vi_icmp_ne 55 dX5_weightsIn_39 (by decide) (fun c8 => ?_) (fun c8 => ?_)
        · rw [if_neg c8] at hf
          refine vi_sub (L' := [(0, .ref p0), (1, .int x1), (3, .int x3)]) [0, 1, 3] rfl ?_
          exact t_X5_weightsIn_55 n (f_X5_weightsIn_4 n k) u ih p0 x1 x3 x2 u7.2 h0 hf
        · rw [if_pos c8] at hf
          refine vi_aload_n 0 dX5_weightsIn_42 rfl rfl ?_
          refine vi_getr (t := p0 + 1) 0 rfl (vv_model_o h0) rfl wu_X5 (by decide) wf_X5_7 dX5_weightsIn_43 ?_
          refine vi_iload_n 3 dX5_weightsIn_46 rfl rfl ?_
          refine vi_iconst (v := (1 : Int32)) dX5_weightsIn_47 (by decide) ?_
          obtain ⟨u9, hu9, hf⟩ := vv_bd hf
          refine vi_callS (As := [.int x3, .int (1 : Int32)]) (st := [.ref (p0 + 1), .int x2]) (t_X5_of n x3 (1 : Int32) u7.2 u9  hu9) rfl yo_X5_of wm_X5_27 wi_X5_of wI_X5 wc_X5_of ⟨Nat.le_of_ble_eq_true rfl, Nat.le_of_ble_eq_true rfl⟩ (vv_rm0 rfl rfl) (Nat.le_of_ble_eq_true rfl) rfl rfl dX5_weightsIn_48 ?_
          obtain ⟨g10, hf⟩ := vv_gd hf
          refine vi_iald (vv_model_row h0) g10 dX5_weightsIn_51 ?_
          refine vi_goto 56 dX5_weightsIn_52 (by decide) ?_
          refine vi_sub (L' := [(0, .ref p0), (1, .int x1), (3, .int x3)]) [0, 1, 3] rfl ?_
          exact t_X5_weightsIn_56 n (f_X5_weightsIn_4 n k) u ih p0 x1 x3 x2 (u9.2 (p0 + 1) u9.1.toNatClampNeg) u9.2 h0 hf
set_option maxRecDepth 20000 in
theorem t_X5_weightsIn {S : List vv_Sh} (n : Nat) (p0 : Nat) (x1 : Int32) (M : vv_M) (u : Int32 × vv_M) (h0 : vv_model S p0) (hf : f_X5_weightsIn n p0 x1 M = some u) : vv_C yX5_weightsIn (vv_w yX5_weightsIn cX5_weightsIn 4 (some .int)) (vv_R 2 0 0) [.ref p0, .int x1] S M (some (.int u.1)) S u.2 := by
  refine vv_ofV (by decide +kernel) (Nat.le_of_ble_eq_true rfl) (L := [(0, .ref p0), (1, .int x1)]) rfl rfl rfl ?_
  show vv_V [] yX5_weightsIn.cls yX5_weightsIn.name cX5_weightsIn 4 (some .int) (vv_R 2 0 0) S.length (vv_sz S) (vv_fi S u) 0 [(0, .ref p0), (1, .int x1)] [] S M
  unfold f_X5_weightsIn at hf
  refine vi_iconst (v := (0 : Int32)) dX5_weightsIn_0 (by decide) ?_
  refine vi_istore_n (L' := [(2, .int (0 : Int32)), (0, .ref p0), (1, .int x1)]) dX5_weightsIn_1 rfl (by decide) rfl ?_
  refine vi_iconst (v := (0 : Int32)) dX5_weightsIn_2 (by decide) ?_
  refine vi_istore_n (L' := [(3, .int (0 : Int32)), (2, .int (0 : Int32)), (0, .ref p0), (1, .int x1)]) dX5_weightsIn_3 rfl (by decide) rfl ?_
  refine vi_sub (L' := [(0, .ref p0), (1, .int x1), (2, .int (0 : Int32)), (3, .int (0 : Int32))]) [2, 3, 1, 0] rfl ?_
  exact t_X5_weightsIn_4 n  u  n p0 x1 (0 : Int32) (0 : Int32) M h0 hf
set_option maxRecDepth 20000 in
theorem t_X5_heat_105 {S : List vv_Sh} (n : Nat)  (u : Unit × vv_M)  (p0 : Nat) (x1 : Int32) (x2 : Int32) (M : vv_M) (h0 : vv_model S p0) (hf : f_X5_heat_105 n  p0 x1 x2 M = some u) : vv_V [] yX5_heat.cls yX5_heat.name cX5_heat 5 none (vv_R 3 0 0) S.length (vv_sz S) (vv_fu S u) 105 [(0, .ref p0), (1, .int x1), (2, .int x2)] [] S M := by
  unfold f_X5_heat_105 at hf
  refine vi_aload_n 0 dX5_heat_105 rfl rfl ?_
  refine vi_getr (t := p0 + 1) 0 rfl (vv_model_o h0) rfl wu_X5 (by decide) wf_X5_7 dX5_heat_106 ?_
  refine vi_iload_n 1 dX5_heat_109 rfl rfl ?_
  refine vi_iconst (v := (3 : Int32)) dX5_heat_110 (by decide) ?_
  obtain ⟨u11, hu11, hf⟩ := vv_bd hf
  refine vi_callS (As := [.int x1, .int (3 : Int32)]) (st := [.ref (p0 + 1)]) (t_X5_ofZone n x1 (3 : Int32) M u11  hu11) rfl yo_X5_ofZone wm_X5_16 wi_X5_ofZone wI_X5 wc_X5_ofZone ⟨Nat.le_of_ble_eq_true rfl, Nat.le_of_ble_eq_true rfl⟩ (vv_rm0 rfl rfl) (Nat.le_of_ble_eq_true rfl) rfl rfl dX5_heat_111 ?_
  refine vi_iload_n 2 dX5_heat_114 rfl rfl ?_
  obtain ⟨g12, hf⟩ := vv_gd hf
  obtain ⟨M13, eM13, hf⟩ := vv_lt hf
  refine vi_iast (vv_model_row h0) g12 eM13.symm dX5_heat_115 ?_
  obtain rfl := Option.some.inj hf
  exact vi_ret (v := none) rfl ⟨dX5_heat_116, rfl⟩ ⟨rfl, rfl, rfl⟩
set_option maxRecDepth 20000 in
theorem t_X5_heat_104 {S : List vv_Sh} (n : Nat)  (u : Unit × vv_M)  (p0 : Nat) (x1 : Int32) (s0 : Int32) (M : vv_M) (h0 : vv_model S p0) (hf : f_X5_heat_104 n  p0 x1 s0 M = some u) : vv_V [] yX5_heat.cls yX5_heat.name cX5_heat 5 none (vv_R 3 0 0) S.length (vv_sz S) (vv_fu S u) 104 [(0, .ref p0), (1, .int x1)] [.int s0] S M := by
  unfold f_X5_heat_104 at hf
  refine vi_istore_n (L' := [(2, .int s0), (0, .ref p0), (1, .int x1)]) dX5_heat_104 rfl (by decide) rfl ?_
  refine vi_sub (L' := [(0, .ref p0), (1, .int x1), (2, .int s0)]) [1, 2, 0] rfl ?_
  exact t_X5_heat_105 n  u  p0 x1 s0 M h0 hf
set_option maxRecDepth 20000 in
theorem t_X5_heat_84 {S : List vv_Sh} (n : Nat)  (u : Unit × vv_M)  (p0 : Nat) (x1 : Int32) (s0 : Int32) (M : vv_M) (h0 : vv_model S p0) (hf : f_X5_heat_84 n  p0 x1 s0 M = some u) : vv_V [] yX5_heat.cls yX5_heat.name cX5_heat 5 none (vv_R 3 0 0) S.length (vv_sz S) (vv_fu S u) 84 [(0, .ref p0), (1, .int x1)] [.int s0] S M := by
  unfold f_X5_heat_84 at hf
  refine vi_istore_n (L' := [(2, .int s0), (0, .ref p0), (1, .int x1)]) dX5_heat_84 rfl (by decide) rfl ?_
  refine vi_goto 105 dX5_heat_85 (by decide) ?_
  refine vi_sub (L' := [(0, .ref p0), (1, .int x1), (2, .int s0)]) [1, 2, 0] rfl ?_
  exact t_X5_heat_105 n  u  p0 x1 s0 M h0 hf
set_option maxRecDepth 20000 in
theorem t_X5_heat_62 {S : List vv_Sh} (n : Nat)  (u : Unit × vv_M)  (p0 : Nat) (x1 : Int32) (x3 : Int32) (x4 : Int32) (s0 : Int32) (M : vv_M) (h0 : vv_model S p0) (hf : f_X5_heat_62 n  p0 x1 x3 x4 s0 M = some u) : vv_V [] yX5_heat.cls yX5_heat.name cX5_heat 5 none (vv_R 3 0 0) S.length (vv_sz S) (vv_fu S u) 62 [(0, .ref p0), (1, .int x1), (3, .int x3), (4, .int x4)] [.int s0] S M := by
  unfold f_X5_heat_62 at hf
  refine vi_istore_n (L' := [(2, .int s0), (0, .ref p0), (1, .int x1), (3, .int x3), (4, .int x4)]) dX5_heat_62 rfl (by decide) rfl ?_
  refine vi_iload_n 0 dX5_heat_63 rfl rfl ?_
  refine vi_iload_n 3 dX5_heat_64 rfl rfl ?_
  refine vi_icmp_ge 88 dX5_heat_65 (by decide) (fun c9 => ?_) (fun c9 => ?_)
  · rw [if_pos c9] at hf
    refine vi_iload_n 0 dX5_heat_88 rfl rfl ?_
    refine vi_iload 4 dX5_heat_89 rfl ?_
    refine vi_isub dX5_heat_91 ?_
    refine vi_iload_n 3 dX5_heat_92 rfl rfl ?_
    refine vi_icmp_le 103 dX5_heat_93 (by decide) (fun c10 => ?_) (fun c10 => ?_)
    · rw [if_pos c10] at hf
      refine vi_iload_n 3 dX5_heat_103 rfl rfl ?_
      refine vi_sub (L' := [(0, .ref p0), (1, .int x1)]) [1, 2] rfl ?_
      exact t_X5_heat_104 n  u  p0 x1 x3 M h0 hf
    · rw [if_neg c10] at hf
      refine vi_iload_n 0 dX5_heat_96 rfl rfl ?_
      refine vi_iload 4 dX5_heat_97 rfl ?_
      refine vi_isub dX5_heat_99 ?_
      refine vi_goto 104 dX5_heat_100 (by decide) ?_
      refine vi_sub (L' := [(0, .ref p0), (1, .int x1)]) [1, 2] rfl ?_
      exact t_X5_heat_104 n  u  p0 x1 (s0 - x4) M h0 hf
  · rw [if_neg c9] at hf
    refine vi_iload_n 0 dX5_heat_68 rfl rfl ?_
    refine vi_iload 4 dX5_heat_69 rfl ?_
    refine vi_iadd dX5_heat_71 ?_
    refine vi_iload_n 3 dX5_heat_72 rfl rfl ?_
    refine vi_icmp_ge 83 dX5_heat_73 (by decide) (fun c14 => ?_) (fun c14 => ?_)
    · rw [if_pos c14] at hf
      refine vi_iload_n 3 dX5_heat_83 rfl rfl ?_
      refine vi_sub (L' := [(0, .ref p0), (1, .int x1)]) [1, 2] rfl ?_
      exact t_X5_heat_84 n  u  p0 x1 x3 M h0 hf
    · rw [if_neg c14] at hf
      refine vi_iload_n 0 dX5_heat_76 rfl rfl ?_
      refine vi_iload 4 dX5_heat_77 rfl ?_
      refine vi_iadd dX5_heat_79 ?_
      refine vi_goto 84 dX5_heat_80 (by decide) ?_
      refine vi_sub (L' := [(0, .ref p0), (1, .int x1)]) [1, 2] rfl ?_
      exact t_X5_heat_84 n  u  p0 x1 (s0 + x4) M h0 hf
set_option maxRecDepth 20000 in
theorem t_X5_heat_38 {S : List vv_Sh} (n : Nat)  (u : Unit × vv_M)  (p0 : Nat) (x1 : Int32) (x2 : Int32) (x3 : Int32) (M : vv_M) (h0 : vv_model S p0) (hf : f_X5_heat_38 n  p0 x1 x2 x3 M = some u) : vv_V [] yX5_heat.cls yX5_heat.name cX5_heat 5 none (vv_R 3 0 0) S.length (vv_sz S) (vv_fu S u) 38 [(0, .ref p0), (1, .int x1), (2, .int x2), (3, .int x3)] [] S M := by
  unfold f_X5_heat_38 at hf
  refine vi_aload_n 0 dX5_heat_38 rfl rfl ?_
  refine vi_getr (t := p0 + 1) 0 rfl (vv_model_o h0) rfl wu_X5 (by decide) wf_X5_7 dX5_heat_39 ?_
  refine vi_iload_n 1 dX5_heat_42 rfl rfl ?_
  refine vi_iconst (v := (2 : Int32)) dX5_heat_43 (by decide) ?_
  obtain ⟨u6, hu6, hf⟩ := vv_bd hf
  refine vi_callS (As := [.int x1, .int (2 : Int32)]) (st := [.ref (p0 + 1)]) (t_X5_ofZone n x1 (2 : Int32) M u6  hu6) rfl yo_X5_ofZone wm_X5_16 wi_X5_ofZone wI_X5 wc_X5_ofZone ⟨Nat.le_of_ble_eq_true rfl, Nat.le_of_ble_eq_true rfl⟩ (vv_rm0 rfl rfl) (Nat.le_of_ble_eq_true rfl) rfl rfl dX5_heat_44 ?_
  obtain ⟨g15, hf⟩ := vv_gd hf
  refine vi_iald (vv_model_row h0) g15 dX5_heat_47 ?_
  obtain ⟨y7, ey7, hf⟩ := vv_lt hf
  refine vi_istore (L' := [(4, .int y7), (0, .ref p0), (1, .int x1), (2, .int x2), (3, .int x3)]) dX5_heat_48 (by decide) (by rw [ey7]; rfl) ?_
  refine vi_iload_n 3 dX5_heat_50 rfl rfl ?_
  refine vi_bipush (v := (20 : Int32)) dX5_heat_51 (by decide) ?_
  refine vi_icmp_ge 61 dX5_heat_53 (by decide) (fun c8 => ?_) (fun c8 => ?_)
  · rw [if_pos c8] at hf
    refine vi_iload_n 3 dX5_heat_61 rfl rfl ?_
    refine vi_sub (L' := [(0, .ref p0), (1, .int x1), (3, .int x3), (4, .int y7)]) [1, 2, 4, 0] rfl ?_
    exact t_X5_heat_62 n  u  p0 x1 x3 y7 x2 u6.2 h0 hf
  · rw [if_neg c8] at hf
    refine vi_bipush (v := (20 : Int32)) dX5_heat_56 (by decide) ?_
    refine vi_goto 62 dX5_heat_58 (by decide) ?_
    refine vi_sub (L' := [(0, .ref p0), (1, .int x1), (3, .int x3), (4, .int y7)]) [1, 2, 4, 0] rfl ?_
    exact t_X5_heat_62 n  u  p0 x1 x3 y7 (20 : Int32) u6.2 h0 hf
set_option maxRecDepth 20000 in
theorem t_X5_heat {S : List vv_Sh} (n : Nat) (p0 : Nat) (x1 : Int32) (M : vv_M) (u : Unit × vv_M) (h0 : vv_model S p0) (hf : f_X5_heat n p0 x1 M = some u) : vv_C yX5_heat (vv_w yX5_heat cX5_heat 5 none) (vv_R 3 0 0) [.ref p0, .int x1] S M none S u.2 := by
  refine vv_ofV (by decide +kernel) (Nat.le_of_ble_eq_true rfl) (L := [(0, .ref p0), (1, .int x1)]) rfl rfl rfl ?_
  show vv_V [] yX5_heat.cls yX5_heat.name cX5_heat 5 none (vv_R 3 0 0) S.length (vv_sz S) (vv_fu S u) 0 [(0, .ref p0), (1, .int x1)] [] S M
  unfold f_X5_heat at hf
  refine vi_aload_n 0 dX5_heat_0 rfl rfl ?_
  refine vi_getr (t := p0 + 1) 0 rfl (vv_model_o h0) rfl wu_X5 (by decide) wf_X5_7 dX5_heat_1 ?_
  refine vi_iload_n 1 dX5_heat_4 rfl rfl ?_
  refine vi_iconst (v := (3 : Int32)) dX5_heat_5 (by decide) ?_
  obtain ⟨u1, hu1, hf⟩ := vv_bd hf
  refine vi_callS (As := [.int x1, .int (3 : Int32)]) (st := [.ref (p0 + 1)]) (t_X5_ofZone n x1 (3 : Int32) M u1  hu1) rfl yo_X5_ofZone wm_X5_16 wi_X5_ofZone wI_X5 wc_X5_ofZone ⟨Nat.le_of_ble_eq_true rfl, Nat.le_of_ble_eq_true rfl⟩ (vv_rm0 rfl rfl) (Nat.le_of_ble_eq_true rfl) rfl rfl dX5_heat_6 ?_
  obtain ⟨g19, hf⟩ := vv_gd hf
  refine vi_iald (vv_model_row h0) g19 dX5_heat_9 ?_
  refine vi_aload_n 0 dX5_heat_10 rfl rfl ?_
  refine vi_getr (t := p0 + 1) 0 rfl (vv_model_o h0) rfl wu_X5 (by decide) wf_X5_7 dX5_heat_11 ?_
  refine vi_bipush (v := (51 : Int32)) dX5_heat_14 (by decide) ?_
  obtain ⟨g18, hf⟩ := vv_gd hf
  refine vi_iald (vv_model_row h0) g18 dX5_heat_16 ?_
  refine vi_aload_n 0 dX5_heat_17 rfl rfl ?_
  refine vi_iload_n 1 dX5_heat_18 rfl rfl ?_
  obtain ⟨u2, hu2, hf⟩ := vv_bd hf
  refine vi_callV (As := [.int x1]) (st := [.int (u1.2 (p0 + 1) (51 : Int32).toNatClampNeg), .int (u1.2 (p0 + 1) u1.1.toNatClampNeg)]) (t_X5_weightsIn n p0 x1 u1.2 u2 h0 hu2) rfl yo_X5_weightsIn wm_X5_99 wi_X5_weightsIn ws_X5_weightsIn wI_X5 wc_X5_weightsIn (vv_model_o h0) rfl ⟨Nat.le_of_ble_eq_true rfl, Nat.le_of_ble_eq_true rfl⟩ (vv_rm0 rfl rfl) (Nat.le_of_ble_eq_true rfl) rfl rfl dX5_heat_19 ?_
  refine vi_imul dX5_heat_22 ?_
  refine vi_iconst (v := (5 : Int32)) dX5_heat_23 (by decide) ?_
  obtain ⟨g17, hf⟩ := vv_gd hf
  refine vi_idiv dX5_heat_24 g17 ?_
  refine vi_isub dX5_heat_25 ?_
  obtain ⟨y3, ey3, hf⟩ := vv_lt hf
  refine vi_istore_n (L' := [(2, .int y3), (0, .ref p0), (1, .int x1)]) dX5_heat_26 rfl (by decide) (by rw [ey3]; rfl) ?_
  refine vi_aload_n 1 dX5_heat_27 rfl rfl ?_
  refine vi_getr (t := p0 + 1) 0 rfl (vv_model_o h0) rfl wu_X5 (by decide) wf_X5_7 dX5_heat_28 ?_
  refine vi_iload_n 2 dX5_heat_31 rfl rfl ?_
  refine vi_iconst (v := (1 : Int32)) dX5_heat_32 (by decide) ?_
  obtain ⟨u4, hu4, hf⟩ := vv_bd hf
  refine vi_callS (As := [.int x1, .int (1 : Int32)]) (st := [.ref (p0 + 1)]) (t_X5_ofZone n x1 (1 : Int32) u2.2 u4  hu4) rfl yo_X5_ofZone wm_X5_16 wi_X5_ofZone wI_X5 wc_X5_ofZone ⟨Nat.le_of_ble_eq_true rfl, Nat.le_of_ble_eq_true rfl⟩ (vv_rm0 rfl rfl) (Nat.le_of_ble_eq_true rfl) rfl rfl dX5_heat_33 ?_
  obtain ⟨g16, hf⟩ := vv_gd hf
  refine vi_iald (vv_model_row h0) g16 dX5_heat_36 ?_
  obtain ⟨y5, ey5, hf⟩ := vv_lt hf
  refine vi_istore_n (L' := [(3, .int y5), (2, .int y3), (0, .ref p0), (1, .int x1)]) dX5_heat_37 rfl (by decide) (by rw [ey5]; rfl) ?_
  refine vi_sub (L' := [(0, .ref p0), (1, .int x1), (2, .int y3), (3, .int y5)]) [2, 3, 1, 0] rfl ?_
  exact t_X5_heat_38 n  u  p0 x1 y3 y5 u4.2 h0 hf
