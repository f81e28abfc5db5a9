set_option maxRecDepth 20000 in
theorem t_X3_firstFault_4 {S : List vv_Sh} (n : Nat)  (u : Int32 × vv_M)  : ∀ (k : Nat) (p0 : Nat) (x1 : Int32) (x2 : Int32) (M : vv_M) (h0 : vv_text S p0) (hf : f_X3_firstFault_4 n  k p0 x1 x2 M = some u), vv_V [] yX3_firstFault.cls yX3_firstFault.name cX3_firstFault 3 (some .int) (vv_R 4 0 0) S.length (vv_sz S) (vv_fi S u) 4 [(0, .ref p0), (1, .int x1), (2, .int x2)] [] S M := by
  intro k
  induction k with
  | zero =>
    intro p0 x1 x2 M h0 hf
    exact absurd (show (none : Option (Int32 × vv_M)) = some u from hf) (by simp)
  | succ k ih =>
    intro p0 x1 x2 M h0 hf
    rw [f_X3_firstFault_4.eq_2] at hf
    refine vi_iload_n 2 dX3_firstFault_4 rfl rfl ?_
    refine vi_aload_n 0 dX3_firstFault_5 rfl rfl ?_
    refine vi_geti 1 rfl (vv_text_o h0) rfl wu_X3 (by decide) wf_X3_19 dX3_firstFault_6 ?_
    refine vi_icmp_ge 36 dX3_firstFault_9 (by decide) (fun c1 => ?_) (fun c1 => ?_)
    · rw [if_pos c1] at hf
      refine vi_iload_n 1 dX3_firstFault_36 rfl rfl ?_
      refine vi_iconst (v := (5 : Int32)) dX3_firstFault_37 (by decide) ?_
      refine vi_icmp_eq 47 dX3_firstFault_38 (by decide) (fun c2 => ?_) (fun c2 => ?_)
      · rw [if_pos c2] at hf
        refine vi_sipush (v := (-1009 : Int32)) dX3_firstFault_47 (by decide) ?_
        refine vi_goto 57 dX3_firstFault_50 (by decide) ?_
        obtain rfl := Option.some.inj hf
        exact vi_ret (v := some (.int (-1009 : Int32))) rfl ⟨dX3_firstFault_57, .int, rfl, rfl⟩ ⟨rfl, rfl, rfl⟩
      · rw [if_neg c2] at hf
        refine vi_iload_n 1 dX3_firstFault_41 rfl rfl ?_
        refine vi_bipush (v := (6 : Int32)) dX3_firstFault_42 (by decide) ?_
        refine vi_icmp_ne 53 dX3_firstFault_44 (by decide) (fun c3 => ?_) (fun c3 => ?_)
        · rw [if_neg c3] at hf
          refine vi_aload_n 0 dX3_firstFault_53 rfl rfl ?_
          refine vi_geti 1 rfl (vv_text_o h0) rfl wu_X3 (by decide) wf_X3_19 dX3_firstFault_54 ?_
          obtain rfl := Option.some.inj hf
          exact vi_ret (v := some (.int (M p0 1))) rfl ⟨dX3_firstFault_57, .int, rfl, rfl⟩ ⟨rfl, rfl, rfl⟩
        · rw [if_pos c3] at hf
          refine vi_sipush (v := (-1009 : Int32)) dX3_firstFault_47 (by decide) ?_
          refine vi_goto 57 dX3_firstFault_50 (by decide) ?_
          obtain rfl := Option.some.inj hf
          exact vi_ret (v := some (.int (-1009 : Int32))) rfl ⟨dX3_firstFault_57, .int, rfl, rfl⟩ ⟨rfl, rfl, rfl⟩
    · rw [if_neg c1] at hf
      refine vi_iload_n 1 dX3_firstFault_12 rfl rfl ?_
      refine vi_aload_n 0 dX3_firstFault_13 rfl rfl ?_
      refine vi_getr (t := p0 + 1) 0 rfl (vv_text_o h0) rfl wu_X3 (by decide) wf_X3_9 dX3_firstFault_14 ?_
      refine vi_iload_n 2 dX3_firstFault_17 rfl rfl ?_
      obtain ⟨g8, hf⟩ := vv_gd hf
      refine vi_iald (vv_text_characters h0) g8 dX3_firstFault_18 ?_
      obtain ⟨u4, hu4, hf⟩ := vv_bd hf
      refine vi_callS (As := [.int x1, .int (M (p0 + 1) x2.toNatClampNeg)]) (st := []) (t_X3_placeAfter n x1 (M (p0 + 1) x2.toNatClampNeg) M u4  hu4) rfl yo_X3_placeAfter wm_X3_26 wi_X3_placeAfter wI_X3 wc_X3_placeAfter ⟨Nat.le_of_ble_eq_true rfl, Nat.le_of_ble_eq_true rfl⟩ (vv_rm0 rfl rfl) (Nat.le_of_ble_eq_true rfl) rfl rfl dX3_firstFault_19 ?_
      obtain ⟨y5, ey5, hf⟩ := vv_lt hf
      refine vi_istore_n (L' := [(1, .int y5), (0, .ref p0), (2, .int x2)]) dX3_firstFault_22 rfl (by decide) (by rw [ey5]; rfl) ?_
      refine vi_iload_n 0 dX3_firstFault_23 rfl rfl ?_
      refine vi_iconst (v := (-1 : Int32)) dX3_firstFault_24 (by decide) ?_
      refine vi_icmp_ne 30 dX3_firstFault_25 (by decide) (fun c6 => ?_) (fun c6 => ?_)
      · rw [if_neg c6] at hf
        obtain ⟨y7, ey7, hf⟩ := vv_lt hf
        refine vi_iinc (v := y7) (L' := [(2, .int y7), (1, .int y5), (0, .ref p0)]) 2 dX3_firstFault_30 rfl (by rw [ey7]; rfl) (by decide) rfl ?_
        refine vi_goto 4 dX3_firstFault_33 (by decide) ?_
        refine vi_sub (L' := [(0, .ref p0), (1, .int y5), (2, .int y7)]) [2, 1, 0] rfl ?_
        exact ih p0 y5 y7 u4.2 h0 hf
      · rw [if_pos c6] at hf
        refine vi_iload_n 2 dX3_firstFault_28 rfl rfl ?_
        obtain rfl := Option.some.inj hf
        exact vi_ret (v := some (.int x2)) rfl ⟨dX3_firstFault_29, .int, rfl, rfl⟩ ⟨rfl, rfl, rfl⟩
set_option maxRecDepth 20000 in
theorem t_X3_firstFault {S : List vv_Sh} (n : Nat) (p0 : Nat) (M : vv_M) (u : Int32 × vv_M) (h0 : vv_text S p0) (hf : f_X3_firstFault n p0 M = some u) : vv_C yX3_firstFault (vv_w yX3_firstFault cX3_firstFault 3 (some .int)) (vv_R 4 0 0) [.ref p0] S M (some (.int u.1)) S u.2 := by
  refine vv_ofV (by decide +kernel) (Nat.le_of_ble_eq_true rfl) (L := [(0, .ref p0)]) rfl rfl rfl ?_
  show vv_V [] yX3_firstFault.cls yX3_firstFault.name cX3_firstFault 3 (some .int) (vv_R 4 0 0) S.length (vv_sz S) (vv_fi S u) 0 [(0, .ref p0)] [] S M
  unfold f_X3_firstFault at hf
  refine vi_iconst (v := (0 : Int32)) dX3_firstFault_0 (by decide) ?_
  refine vi_istore_n (L' := [(1, .int (0 : Int32)), (0, .ref p0)]) dX3_firstFault_1 rfl (by decide) rfl ?_
  refine vi_iconst (v := (0 : Int32)) dX3_firstFault_2 (by decide) ?_
  refine vi_istore_n (L' := [(2, .int (0 : Int32)), (1, .int (0 : Int32)), (0, .ref p0)]) dX3_firstFault_3 rfl (by decide) rfl ?_
  refine vi_sub (L' := [(0, .ref p0), (1, .int (0 : Int32)), (2, .int (0 : Int32))]) [2, 1, 0] rfl ?_
  exact t_X3_firstFault_4 n  u  n p0 (0 : Int32) (0 : Int32) M h0 hf
set_option maxRecDepth 20000 in
theorem t_X3_readOrder_120 {S : List vv_Sh} (n : Nat) (k41 : Nat → vv_M → Option (Int32 × vv_M)) (u : Int32 × vv_M) (hk41 : ∀ (p0 : Nat) (M : vv_M) (h0 : vv_text S p0) (hf : k41 p0 M = some u), vv_V [] yX3_readOrder.cls yX3_readOrder.name cX3_readOrder 1 (some .boolean) (vv_R 0 0 0) S.length (vv_sz S) (vv_fi S u) 41 [(0, .ref p0)] [] S M) (p0 : Nat) (M : vv_M) (h0 : vv_text S p0) (hf : f_X3_readOrder_120 n k41 p0 M = some u) : vv_V [] yX3_readOrder.cls yX3_readOrder.name cX3_readOrder 1 (some .boolean) (vv_R 0 0 0) S.length (vv_sz S) (vv_fi S u) 120 [(0, .ref p0)] [] S M := by
  unfold f_X3_readOrder_120 at hf
  refine vi_aload_n 0 dX3_readOrder_120 rfl rfl ?_
  refine vi_dup dX3_readOrder_121 rfl ?_
  refine vi_geti 2 rfl (vv_text_o h0) rfl wu_X3 (by decide) wf_X3_23 dX3_readOrder_122 ?_
  refine vi_iconst (v := (1 : Int32)) dX3_readOrder_125 (by decide) ?_
  refine vi_iadd dX3_readOrder_126 ?_
  obtain ⟨M11, eM11, hf⟩ := vv_lt hf
  refine vi_puti 2 rfl eM11.symm (vv_text_o h0) rfl wu_X3 tyX3 tyX3_ok nmX3 (by decide) rfl (by decide +kernel) wf_X3_23 dX3_readOrder_127 ?_
  refine vi_goto 41 dX3_readOrder_130 (by decide) ?_
  exact hk41 p0 M11 h0 hf
set_option maxRecDepth 20000 in
theorem t_X3_readOrder_41 {S : List vv_Sh} (n : Nat)  (u : Int32 × vv_M)  : ∀ (k : Nat) (p0 : Nat) (M : vv_M) (h0 : vv_text S p0) (hf : f_X3_readOrder_41 n  k p0 M = some u), vv_V [] yX3_readOrder.cls yX3_readOrder.name cX3_readOrder 1 (some .boolean) (vv_R 0 0 0) S.length (vv_sz S) (vv_fi S u) 41 [(0, .ref p0)] [] S M := by
  intro k
  induction k with
  | zero =>
    intro p0 M h0 hf
    exact absurd (show (none : Option (Int32 × vv_M)) = some u from hf) (by simp)
  | succ k ih =>
    intro p0 M h0 hf
    rw [f_X3_readOrder_41.eq_2] at hf
    refine vi_aload_n 0 dX3_readOrder_41 rfl rfl ?_
    refine vi_geti 2 rfl (vv_text_o h0) rfl wu_X3 (by decide) wf_X3_23 dX3_readOrder_42 ?_
    refine vi_aload_n 0 dX3_readOrder_45 rfl rfl ?_
    refine vi_geti 1 rfl (vv_text_o h0) rfl wu_X3 (by decide) wf_X3_19 dX3_readOrder_46 ?_
    refine vi_icmp_ge 133 dX3_readOrder_49 (by decide) (fun c5 => ?_) (fun c5 => ?_)
    · rw [if_pos c5] at hf
      refine vi_aload_n 0 dX3_readOrder_133 rfl rfl ?_
      refine vi_dup dX3_readOrder_134 rfl ?_
      refine vi_geti 2 rfl (vv_text_o h0) rfl wu_X3 (by decide) wf_X3_23 dX3_readOrder_135 ?_
      refine vi_iconst (v := (1 : Int32)) dX3_readOrder_138 (by decide) ?_
      refine vi_iadd dX3_readOrder_139 ?_
      obtain ⟨M6, eM6, hf⟩ := vv_lt hf
      refine vi_puti 2 rfl eM6.symm (vv_text_o h0) rfl wu_X3 tyX3 tyX3_ok nmX3 (by decide) rfl (by decide +kernel) wf_X3_23 dX3_readOrder_140 ?_
      refine vi_iconst (v := (1 : Int32)) dX3_readOrder_143 (by decide) ?_
      obtain rfl := Option.some.inj hf
      exact vi_ret (v := some (.int (1 : Int32))) rfl ⟨dX3_readOrder_144, .boolean, rfl, rfl⟩ ⟨rfl, rfl, rfl⟩
    · rw [if_neg c5] at hf
      refine vi_aload_n 0 dX3_readOrder_52 rfl rfl ?_
      refine vi_getr (t := p0 + 1) 0 rfl (vv_text_o h0) rfl wu_X3 (by decide) wf_X3_9 dX3_readOrder_53 ?_
      refine vi_aload_n 0 dX3_readOrder_56 rfl rfl ?_
      refine vi_geti 2 rfl (vv_text_o h0) rfl wu_X3 (by decide) wf_X3_23 dX3_readOrder_57 ?_
      obtain ⟨g16, hf⟩ := vv_gd hf
      refine vi_iald (vv_text_characters h0) g16 dX3_readOrder_60 ?_
      refine vi_bipush (v := (59 : Int32)) dX3_readOrder_61 (by decide) ?_
      refine vi_icmp_eq 133 dX3_readOrder_63 (by decide) (fun c7 => ?_) (fun c7 => ?_)
      · rw [if_pos c7] at hf
        refine vi_aload_n 0 dX3_readOrder_133 rfl rfl ?_
        refine vi_dup dX3_readOrder_134 rfl ?_
        refine vi_geti 2 rfl (vv_text_o h0) rfl wu_X3 (by decide) wf_X3_23 dX3_readOrder_135 ?_
        refine vi_iconst (v := (1 : Int32)) dX3_readOrder_138 (by decide) ?_
        refine vi_iadd dX3_readOrder_139 ?_
        obtain ⟨M8, eM8, hf⟩ := vv_lt hf
        refine vi_puti 2 rfl eM8.symm (vv_text_o h0) rfl wu_X3 tyX3 tyX3_ok nmX3 (by decide) rfl (by decide +kernel) wf_X3_23 dX3_readOrder_140 ?_
        refine vi_iconst (v := (1 : Int32)) dX3_readOrder_143 (by decide) ?_
        obtain rfl := Option.some.inj hf
        exact vi_ret (v := some (.int (1 : Int32))) rfl ⟨dX3_readOrder_144, .boolean, rfl, rfl⟩ ⟨rfl, rfl, rfl⟩
      · rw [if_neg c7] at hf
        refine vi_aload_n 0 dX3_readOrder_66 rfl rfl ?_
        refine vi_getr (t := p0 + 1) 0 rfl (vv_text_o h0) rfl wu_X3 (by decide) wf_X3_9 dX3_readOrder_67 ?_
        refine vi_aload_n 0 dX3_readOrder_70 rfl rfl ?_
        refine vi_geti 2 rfl (vv_text_o h0) rfl wu_X3 (by decide) wf_X3_23 dX3_readOrder_71 ?_
        obtain ⟨g15, hf⟩ := vv_gd hf
        refine vi_iald (vv_text_characters h0) g15 dX3_readOrder_74 ?_
        refine vi_bipush (v := (44 : Int32)) dX3_readOrder_75 (by decide) ?_
        refine vi_icmp_ne 96 dX3_readOrder_77 (by decide) (fun c9 => ?_) (fun c9 => ?_)
        · rw [if_neg c9] at hf
          refine vi_aload_n 0 dX3_readOrder_96 rfl rfl ?_
          refine vi_aload_n 0 dX3_readOrder_97 rfl rfl ?_
          refine vi_geti 5 rfl (vv_text_o h0) rfl wu_X3 (by decide) wf_X3_45 dX3_readOrder_98 ?_
          refine vi_bipush (v := (10 : Int32)) dX3_readOrder_101 (by decide) ?_
          refine vi_imul dX3_readOrder_103 ?_
          refine vi_aload_n 0 dX3_readOrder_104 rfl rfl ?_
          refine vi_getr (t := p0 + 1) 0 rfl (vv_text_o h0) rfl wu_X3 (by decide) wf_X3_9 dX3_readOrder_105 ?_
          refine vi_aload_n 0 dX3_readOrder_108 rfl rfl ?_
          refine vi_geti 2 rfl (vv_text_o h0) rfl wu_X3 (by decide) wf_X3_23 dX3_readOrder_109 ?_
          obtain ⟨g12, hf⟩ := vv_gd hf
          refine vi_iald (vv_text_characters h0) g12 dX3_readOrder_112 ?_
          refine vi_iadd dX3_readOrder_113 ?_
          refine vi_bipush (v := (48 : Int32)) dX3_readOrder_114 (by decide) ?_
          refine vi_isub dX3_readOrder_116 ?_
          obtain ⟨M10, eM10, hf⟩ := vv_lt hf
          refine vi_puti 5 rfl eM10.symm (vv_text_o h0) rfl wu_X3 tyX3 tyX3_ok nmX3 (by decide) rfl (by decide +kernel) wf_X3_45 dX3_readOrder_117 ?_
          exact t_X3_readOrder_120 n (f_X3_readOrder_41 n k) u ih p0 M10 h0 hf
        · rw [if_pos c9] at hf
          refine vi_aload_n 0 dX3_readOrder_80 rfl rfl ?_
          refine vi_aload_n 0 dX3_readOrder_81 rfl rfl ?_
          refine vi_geti 5 rfl (vv_text_o h0) rfl wu_X3 (by decide) wf_X3_45 dX3_readOrder_82 ?_
          obtain ⟨M13, eM13, hf⟩ := vv_lt hf
          refine vi_puti 4 rfl eM13.symm (vv_text_o h0) rfl wu_X3 tyX3 tyX3_ok nmX3 (by decide) rfl (by decide +kernel) wf_X3_48 dX3_readOrder_85 ?_
          refine vi_aload_n 0 dX3_readOrder_88 rfl rfl ?_
          refine vi_iconst (v := (0 : Int32)) dX3_readOrder_89 (by decide) ?_
          obtain ⟨M14, eM14, hf⟩ := vv_lt hf
          refine vi_puti 5 rfl eM14.symm (vv_text_o h0) rfl wu_X3 tyX3 tyX3_ok nmX3 (by decide) rfl (by decide +kernel) wf_X3_45 dX3_readOrder_90 ?_
          refine vi_goto 120 dX3_readOrder_93 (by decide) ?_
          exact t_X3_readOrder_120 n (f_X3_readOrder_41 n k) u ih p0 M14 h0 hf
set_option maxRecDepth 20000 in
theorem t_X3_readOrder {S : List vv_Sh} (n : Nat) (p0 : Nat) (M : vv_M) (u : Int32 × vv_M) (h0 : vv_text S p0) (hf : f_X3_readOrder n p0 M = some u) : vv_C yX3_readOrder (vv_w yX3_readOrder cX3_readOrder 1 (some .boolean)) (vv_R 0 0 0) [.ref p0] S M (some (.int u.1)) S u.2 := by
  refine vv_ofV (by decide +kernel) (Nat.le_of_ble_eq_true rfl) (L := [(0, .ref p0)]) rfl rfl rfl ?_
  show vv_V [] yX3_readOrder.cls yX3_readOrder.name cX3_readOrder 1 (some .boolean) (vv_R 0 0 0) S.length (vv_sz S) (vv_fi S u) 0 [(0, .ref p0)] [] S M
  unfold f_X3_readOrder at hf
  refine vi_aload_n 0 dX3_readOrder_0 rfl rfl ?_
  refine vi_geti 2 rfl (vv_text_o h0) rfl wu_X3 (by decide) wf_X3_23 dX3_readOrder_1 ?_
  refine vi_aload_n 0 dX3_readOrder_4 rfl rfl ?_
  refine vi_geti 1 rfl (vv_text_o h0) rfl wu_X3 (by decide) wf_X3_19 dX3_readOrder_5 ?_
  refine vi_icmp_lt 13 dX3_readOrder_8 (by decide) (fun c1 => ?_) (fun c1 => ?_)
  · rw [if_pos c1] at hf
    refine vi_aload_n 0 dX3_readOrder_13 rfl rfl ?_
    refine vi_aload_n 0 dX3_readOrder_14 rfl rfl ?_
    refine vi_getr (t := p0 + 1) 0 rfl (vv_text_o h0) rfl wu_X3 (by decide) wf_X3_9 dX3_readOrder_15 ?_
    refine vi_aload_n 0 dX3_readOrder_18 rfl rfl ?_
    refine vi_geti 2 rfl (vv_text_o h0) rfl wu_X3 (by decide) wf_X3_23 dX3_readOrder_19 ?_
    obtain ⟨g17, hf⟩ := vv_gd hf
    refine vi_iald (vv_text_characters h0) g17 dX3_readOrder_22 ?_
    obtain ⟨M2, eM2, hf⟩ := vv_lt hf
    refine vi_puti 3 rfl eM2.symm (vv_text_o h0) rfl wu_X3 tyX3 tyX3_ok nmX3 (by decide) rfl (by decide +kernel) wf_X3_42 dX3_readOrder_23 ?_
    refine vi_aload_n 0 dX3_readOrder_26 rfl rfl ?_
    refine vi_iconst (v := (0 : Int32)) dX3_readOrder_27 (by decide) ?_
    obtain ⟨M3, eM3, hf⟩ := vv_lt hf
    refine vi_puti 5 rfl eM3.symm (vv_text_o h0) rfl wu_X3 tyX3 tyX3_ok nmX3 (by decide) rfl (by decide +kernel) wf_X3_45 dX3_readOrder_28 ?_
    refine vi_aload_n 0 dX3_readOrder_31 rfl rfl ?_
    refine vi_dup dX3_readOrder_32 rfl ?_
    refine vi_geti 2 rfl (vv_text_o h0) rfl wu_X3 (by decide) wf_X3_23 dX3_readOrder_33 ?_
    refine vi_iconst (v := (1 : Int32)) dX3_readOrder_36 (by decide) ?_
    refine vi_iadd dX3_readOrder_37 ?_
    obtain ⟨M4, eM4, hf⟩ := vv_lt hf
    refine vi_puti 2 rfl eM4.symm (vv_text_o h0) rfl wu_X3 tyX3 tyX3_ok nmX3 (by decide) rfl (by decide +kernel) wf_X3_23 dX3_readOrder_38 ?_
    exact t_X3_readOrder_41 n  u  n p0 M4 h0 hf
  · rw [if_neg c1] at hf
    refine vi_iconst (v := (0 : Int32)) dX3_readOrder_11 (by decide) ?_
    obtain rfl := Option.some.inj hf
    exact vi_ret (v := some (.int (0 : Int32))) rfl ⟨dX3_readOrder_12, .boolean, rfl, rfl⟩ ⟨rfl, rfl, rfl⟩
set_option maxRecDepth 20000 in
theorem t_X4_setZone {S : List vv_Sh} (n : Nat) (p0 : Nat) (x1 : Int32) (x2 : Int32) (x3 : Int32) (x4 : Int32) (M : vv_M) (u : Int32 × vv_M) (h0 : vv_bb S p0) (hf : f_X4_setZone n p0 x1 x2 x3 x4 M = some u) : vv_C yX4_setZone (vv_w yX4_setZone cX4_setZone 5 (some .int)) (vv_R 4 0 0) [.ref p0, .int x1, .int x2, .int x3, .int x4] S M (some (.int u.1)) S u.2 := by
  refine vv_ofV (by decide +kernel) (Nat.le_of_ble_eq_true rfl) (L := [(0, .ref p0), (1, .int x1), (2, .int x2), (3, .int x3), (4, .int x4)]) rfl rfl rfl ?_
  show vv_V [] yX4_setZone.cls yX4_setZone.name cX4_setZone 5 (some .int) (vv_R 4 0 0) S.length (vv_sz S) (vv_fi S u) 0 [(0, .ref p0), (1, .int x1), (2, .int x2), (3, .int x3), (4, .int x4)] [] S M
  unfold f_X4_setZone at hf
  refine vi_aload_n 0 dX4_setZone_0 rfl rfl ?_
  refine vi_getr (t := p0 + 22) 1 rfl (vv_bb_o h0) rfl wu_X4 (by decide) wf_X4_19 dX4_setZone_1 ?_
  refine vi_aload_n 0 dX4_setZone_4 rfl rfl ?_
  refine vi_getr (t := p0 + 1) 0 rfl (vv_bb_o h0) rfl wu_X4 (by decide) wf_X4_12 dX4_setZone_5 ?_
  obtain ⟨u1, hu1, hf⟩ := vv_bd hf
  refine vi_callV (As := [.ref (p0 + 1)]) (st := []) (t_X0_keep n (p0 + 22) (p0 + 1) M u1 (vv_bb_history h0) (vv_bb_now h0) hu1) rfl yo_X0_keep wm_X4_37 wi_X0_keep ws_X0_keep wI_X0 wc_X0_keep (vv_hist_o (vv_bb_history h0)) rfl ⟨Nat.le_of_ble_eq_true rfl, Nat.le_of_ble_eq_true rfl⟩ (vv_rm0 rfl rfl) (Nat.le_of_ble_eq_true rfl) rfl rfl dX4_setZone_8 ?_
  refine vi_aload_n 0 dX4_setZone_11 rfl rfl ?_
  refine vi_getr (t := p0 + 22) 1 rfl (vv_bb_o h0) rfl wu_X4 (by decide) wf_X4_19 dX4_setZone_12 ?_
  refine vi_aload_n 0 dX4_setZone_15 rfl rfl ?_
  refine vi_getr (t := p0 + 1) 0 rfl (vv_bb_o h0) rfl wu_X4 (by decide) wf_X4_12 dX4_setZone_16 ?_
  refine vi_getr (t := (p0 + 1) + 1) 0 rfl (vv_moment_o (vv_bb_now h0)) rfl wu_X1 (by decide) wf_X4_41 dX4_setZone_19 ?_
  refine vi_iload_n 1 dX4_setZone_22 rfl rfl ?_
  refine vi_iload_n 2 dX4_setZone_23 rfl rfl ?_
  refine vi_iload_n 3 dX4_setZone_24 rfl rfl ?_
  refine vi_iload 4 dX4_setZone_25 rfl ?_
  obtain ⟨u2, hu2, hf⟩ := vv_bd hf
  refine vi_callV (As := [.int x1, .int x2, .int x3, .int x4]) (st := [.ref (p0 + 22)]) (t_X2_changeZone n ((p0 + 1) + 1) x1 x2 x3 x4 u1.2 u2 (vv_moment_oven (vv_bb_now h0)) hu2) rfl yo_X2_changeZone wm_X4_44 wi_X2_changeZone ws_X2_changeZone wI_X2 wc_X2_changeZone (vv_oven_o (vv_moment_oven (vv_bb_now h0))) rfl ⟨Nat.le_of_ble_eq_true rfl, Nat.le_of_ble_eq_true rfl⟩ (vv_rm0 rfl rfl) (Nat.le_of_ble_eq_true rfl) rfl rfl dX4_setZone_27 ?_
  obtain ⟨u3, hu3, hf⟩ := vv_bd hf
  refine vi_callV (As := [.int u2.1]) (st := []) (t_X0_recordUnlessError n (p0 + 22) u2.1 u2.2 u3 (vv_bb_history h0) hu3) rfl yo_X0_recordUnlessError wm_X4_48 wi_X0_recordUnlessError ws_X0_recordUnlessError wI_X0 wc_X0_recordUnlessError (vv_hist_o (vv_bb_history h0)) rfl ⟨Nat.le_of_ble_eq_true rfl, Nat.le_of_ble_eq_true rfl⟩ (vv_rm0 rfl rfl) (Nat.le_of_ble_eq_true rfl) rfl rfl dX4_setZone_30 ?_
  obtain rfl := Option.some.inj hf
  exact vi_ret (v := some (.int u3.1)) rfl ⟨dX4_setZone_33, .int, rfl, rfl⟩ ⟨rfl, rfl, rfl⟩
set_option maxRecDepth 20000 in
theorem t_X4_setCurve {S : List vv_Sh} (n : Nat) (p0 : Nat) (x1 : Int32) (x2 : Int32) (x3 : Int32) (M : vv_M) (u : Int32 × vv_M) (h0 : vv_bb S p0) (hf : f_X4_setCurve n p0 x1 x2 x3 M = some u) : vv_C yX4_setCurve (vv_w yX4_setCurve cX4_setCurve 4 (some .int)) (vv_R 4 0 0) [.ref p0, .int x1, .int x2, .int x3] S M (some (.int u.1)) S u.2 := by
  refine vv_ofV (by decide +kernel) (Nat.le_of_ble_eq_true rfl) (L := [(0, .ref p0), (1, .int x1), (2, .int x2), (3, .int x3)]) rfl rfl rfl ?_
  show vv_V [] yX4_setCurve.cls yX4_setCurve.name cX4_setCurve 4 (some .int) (vv_R 4 0 0) S.length (vv_sz S) (vv_fi S u) 0 [(0, .ref p0), (1, .int x1), (2, .int x2), (3, .int x3)] [] S M
  unfold f_X4_setCurve at hf
  refine vi_aload_n 0 dX4_setCurve_0 rfl rfl ?_
  refine vi_getr (t := p0 + 22) 1 rfl (vv_bb_o h0) rfl wu_X4 (by decide) wf_X4_19 dX4_setCurve_1 ?_
  refine vi_aload_n 0 dX4_setCurve_4 rfl rfl ?_
  refine vi_getr (t := p0 + 1) 0 rfl (vv_bb_o h0) rfl wu_X4 (by decide) wf_X4_12 dX4_setCurve_5 ?_
  obtain ⟨u1, hu1, hf⟩ := vv_bd hf
  refine vi_callV (As := [.ref (p0 + 1)]) (st := []) (t_X0_keep n (p0 + 22) (p0 + 1) M u1 (vv_bb_history h0) (vv_bb_now h0) hu1) rfl yo_X0_keep wm_X4_37 wi_X0_keep ws_X0_keep wI_X0 wc_X0_keep (vv_hist_o (vv_bb_history h0)) rfl ⟨Nat.le_of_ble_eq_true rfl, Nat.le_of_ble_eq_true rfl⟩ (vv_rm0 rfl rfl) (Nat.le_of_ble_eq_true rfl) rfl rfl dX4_setCurve_8 ?_
  refine vi_aload_n 0 dX4_setCurve_11 rfl rfl ?_
  refine vi_getr (t := p0 + 22) 1 rfl (vv_bb_o h0) rfl wu_X4 (by decide) wf_X4_19 dX4_setCurve_12 ?_
  refine vi_aload_n 0 dX4_setCurve_15 rfl rfl ?_
  refine vi_getr (t := p0 + 1) 0 rfl (vv_bb_o h0) rfl wu_X4 (by decide) wf_X4_12 dX4_setCurve_16 ?_
  refine vi_getr (t := (p0 + 1) + 1) 0 rfl (vv_moment_o (vv_bb_now h0)) rfl wu_X1 (by decide) wf_X4_41 dX4_setCurve_19 ?_
  refine vi_iload_n 1 dX4_setCurve_22 rfl rfl ?_
  refine vi_iload_n 2 dX4_setCurve_23 rfl rfl ?_
  refine vi_iload_n 3 dX4_setCurve_24 rfl rfl ?_
  obtain ⟨u2, hu2, hf⟩ := vv_bd hf
  refine vi_callV (As := [.int x1, .int x2, .int x3]) (st := [.ref (p0 + 22)]) (t_X2_changeCurve n ((p0 + 1) + 1) x1 x2 x3 u1.2 u2 (vv_moment_oven (vv_bb_now h0)) hu2) rfl yo_X2_changeCurve wm_X4_52 wi_X2_changeCurve ws_X2_changeCurve wI_X2 wc_X2_changeCurve (vv_oven_o (vv_moment_oven (vv_bb_now h0))) rfl ⟨Nat.le_of_ble_eq_true rfl, Nat.le_of_ble_eq_true rfl⟩ (vv_rm0 rfl rfl) (Nat.le_of_ble_eq_true rfl) rfl rfl dX4_setCurve_25 ?_
  obtain ⟨u3, hu3, hf⟩ := vv_bd hf
  refine vi_callV (As := [.int u2.1]) (st := []) (t_X0_recordUnlessError n (p0 + 22) u2.1 u2.2 u3 (vv_bb_history h0) hu3) rfl yo_X0_recordUnlessError wm_X4_48 wi_X0_recordUnlessError ws_X0_recordUnlessError wI_X0 wc_X0_recordUnlessError (vv_hist_o (vv_bb_history h0)) rfl ⟨Nat.le_of_ble_eq_true rfl, Nat.le_of_ble_eq_true rfl⟩ (vv_rm0 rfl rfl) (Nat.le_of_ble_eq_true rfl) rfl rfl dX4_setCurve_28 ?_
  obtain rfl := Option.some.inj hf
  exact vi_ret (v := some (.int u3.1)) rfl ⟨dX4_setCurve_31, .int, rfl, rfl⟩ ⟨rfl, rfl, rfl⟩
set_option maxRecDepth 20000 in
theorem t_X4_set {S : List vv_Sh} (n : Nat) (p0 : Nat) (x1 : Int32) (x2 : Int32) (M : vv_M) (u : Int32 × vv_M) (h0 : vv_bb S p0) (hf : f_X4_set n p0 x1 x2 M = some u) : vv_C yX4_set (vv_w yX4_set cX4_set 3 (some .int)) (vv_R 4 0 0) [.ref p0, .int x1, .int x2] S M (some (.int u.1)) S u.2 := by
  refine vv_ofV (by decide +kernel) (Nat.le_of_ble_eq_true rfl) (L := [(0, .ref p0), (1, .int x1), (2, .int x2)]) rfl rfl rfl ?_
  show vv_V [] yX4_set.cls yX4_set.name cX4_set 3 (some .int) (vv_R 4 0 0) S.length (vv_sz S) (vv_fi S u) 0 [(0, .ref p0), (1, .int x1), (2, .int x2)] [] S M
  unfold f_X4_set at hf
  refine vi_aload_n 0 dX4_set_0 rfl rfl ?_
  refine vi_getr (t := p0 + 22) 1 rfl (vv_bb_o h0) rfl wu_X4 (by decide) wf_X4_19 dX4_set_1 ?_
  refine vi_aload_n 0 dX4_set_4 rfl rfl ?_
  refine vi_getr (t := p0 + 1) 0 rfl (vv_bb_o h0) rfl wu_X4 (by decide) wf_X4_12 dX4_set_5 ?_
  obtain ⟨u1, hu1, hf⟩ := vv_bd hf
  refine vi_callV (As := [.ref (p0 + 1)]) (st := []) (t_X0_keep n (p0 + 22) (p0 + 1) M u1 (vv_bb_history h0) (vv_bb_now h0) hu1) rfl yo_X0_keep wm_X4_37 wi_X0_keep ws_X0_keep wI_X0 wc_X0_keep (vv_hist_o (vv_bb_history h0)) rfl ⟨Nat.le_of_ble_eq_true rfl, Nat.le_of_ble_eq_true rfl⟩ (vv_rm0 rfl rfl) (Nat.le_of_ble_eq_true rfl) rfl rfl dX4_set_8 ?_
  refine vi_aload_n 0 dX4_set_11 rfl rfl ?_
  refine vi_getr (t := p0 + 22) 1 rfl (vv_bb_o h0) rfl wu_X4 (by decide) wf_X4_19 dX4_set_12 ?_
  refine vi_aload_n 0 dX4_set_15 rfl rfl ?_
  refine vi_getr (t := p0 + 1) 0 rfl (vv_bb_o h0) rfl wu_X4 (by decide) wf_X4_12 dX4_set_16 ?_
  refine vi_getr (t := (p0 + 1) + 1) 0 rfl (vv_moment_o (vv_bb_now h0)) rfl wu_X1 (by decide) wf_X4_41 dX4_set_19 ?_
  refine vi_iload_n 1 dX4_set_22 rfl rfl ?_
  refine vi_iload_n 2 dX4_set_23 rfl rfl ?_
  obtain ⟨u2, hu2, hf⟩ := vv_bd hf
  refine vi_callV (As := [.int x1, .int x2]) (st := [.ref (p0 + 22)]) (t_X2_changeNumber n ((p0 + 1) + 1) x1 x2 u1.2 u2 (vv_moment_oven (vv_bb_now h0)) hu2) rfl yo_X2_changeNumber wm_X4_56 wi_X2_changeNumber ws_X2_changeNumber wI_X2 wc_X2_changeNumber (vv_oven_o (vv_moment_oven (vv_bb_now h0))) rfl ⟨Nat.le_of_ble_eq_true rfl, Nat.le_of_ble_eq_true rfl⟩ (vv_rm0 rfl rfl) (Nat.le_of_ble_eq_true rfl) rfl rfl dX4_set_24 ?_
  obtain ⟨u3, hu3, hf⟩ := vv_bd hf
  refine vi_callV (As := [.int u2.1]) (st := []) (t_X0_recordUnlessError n (p0 + 22) u2.1 u2.2 u3 (vv_bb_history h0) hu3) rfl yo_X0_recordUnlessError wm_X4_48 wi_X0_recordUnlessError ws_X0_recordUnlessError wI_X0 wc_X0_recordUnlessError (vv_hist_o (vv_bb_history h0)) rfl ⟨Nat.le_of_ble_eq_true rfl, Nat.le_of_ble_eq_true rfl⟩ (vv_rm0 rfl rfl) (Nat.le_of_ble_eq_true rfl) rfl rfl dX4_set_27 ?_
  obtain rfl := Option.some.inj hf
  exact vi_ret (v := some (.int u3.1)) rfl ⟨dX4_set_30, .int, rfl, rfl⟩ ⟨rfl, rfl, rfl⟩
set_option maxRecDepth 20000 in
theorem t_X4_load {S : List vv_Sh} (n : Nat) (p0 : Nat) (x1 : Int32) (x2 : Int32) (M : vv_M) (u : Int32 × vv_M) (h0 : vv_bb S p0) (hf : f_X4_load n p0 x1 x2 M = some u) : vv_C yX4_load (vv_w yX4_load cX4_load 3 (some .int)) (vv_R 4 0 0) [.ref p0, .int x1, .int x2] S M (some (.int u.1)) S u.2 := by
  refine vv_ofV (by decide +kernel) (Nat.le_of_ble_eq_true rfl) (L := [(0, .ref p0), (1, .int x1), (2, .int x2)]) rfl rfl rfl ?_
  show vv_V [] yX4_load.cls yX4_load.name cX4_load 3 (some .int) (vv_R 4 0 0) S.length (vv_sz S) (vv_fi S u) 0 [(0, .ref p0), (1, .int x1), (2, .int x2)] [] S M
  unfold f_X4_load at hf
  refine vi_aload_n 0 dX4_load_0 rfl rfl ?_
  refine vi_getr (t := p0 + 22) 1 rfl (vv_bb_o h0) rfl wu_X4 (by decide) wf_X4_19 dX4_load_1 ?_
  refine vi_aload_n 0 dX4_load_4 rfl rfl ?_
  refine vi_getr (t := p0 + 1) 0 rfl (vv_bb_o h0) rfl wu_X4 (by decide) wf_X4_12 dX4_load_5 ?_
  obtain ⟨u1, hu1, hf⟩ := vv_bd hf
  refine vi_callV (As := [.ref (p0 + 1)]) (st := []) (t_X0_keep n (p0 + 22) (p0 + 1) M u1 (vv_bb_history h0) (vv_bb_now h0) hu1) rfl yo_X0_keep wm_X4_37 wi_X0_keep ws_X0_keep wI_X0 wc_X0_keep (vv_hist_o (vv_bb_history h0)) rfl ⟨Nat.le_of_ble_eq_true rfl, Nat.le_of_ble_eq_true rfl⟩ (vv_rm0 rfl rfl) (Nat.le_of_ble_eq_true rfl) rfl rfl dX4_load_8 ?_
  refine vi_aload_n 0 dX4_load_11 rfl rfl ?_
  refine vi_getr (t := p0 + 22) 1 rfl (vv_bb_o h0) rfl wu_X4 (by decide) wf_X4_19 dX4_load_12 ?_
  refine vi_aload_n 0 dX4_load_15 rfl rfl ?_
  refine vi_getr (t := p0 + 1) 0 rfl (vv_bb_o h0) rfl wu_X4 (by decide) wf_X4_12 dX4_load_16 ?_
  refine vi_getr (t := (p0 + 1) + 1) 0 rfl (vv_moment_o (vv_bb_now h0)) rfl wu_X1 (by decide) wf_X4_41 dX4_load_19 ?_
  refine vi_iload_n 1 dX4_load_22 rfl rfl ?_
  refine vi_iload_n 2 dX4_load_23 rfl rfl ?_
  obtain ⟨u2, hu2, hf⟩ := vv_bd hf
  refine vi_callV (As := [.int x1, .int x2]) (st := [.ref (p0 + 22)]) (t_X2_addBoard n ((p0 + 1) + 1) x1 x2 u1.2 u2 (vv_moment_oven (vv_bb_now h0)) hu2) rfl yo_X2_addBoard wm_X4_60 wi_X2_addBoard ws_X2_addBoard wI_X2 wc_X2_addBoard (vv_oven_o (vv_moment_oven (vv_bb_now h0))) rfl ⟨Nat.le_of_ble_eq_true rfl, Nat.le_of_ble_eq_true rfl⟩ (vv_rm0 rfl rfl) (Nat.le_of_ble_eq_true rfl) rfl rfl dX4_load_24 ?_
  obtain ⟨u3, hu3, hf⟩ := vv_bd hf
  refine vi_callV (As := [.int u2.1]) (st := []) (t_X0_recordUnlessError n (p0 + 22) u2.1 u2.2 u3 (vv_bb_history h0) hu3) rfl yo_X0_recordUnlessError wm_X4_48 wi_X0_recordUnlessError ws_X0_recordUnlessError wI_X0 wc_X0_recordUnlessError (vv_hist_o (vv_bb_history h0)) rfl ⟨Nat.le_of_ble_eq_true rfl, Nat.le_of_ble_eq_true rfl⟩ (vv_rm0 rfl rfl) (Nat.le_of_ble_eq_true rfl) rfl rfl dX4_load_27 ?_
  obtain rfl := Option.some.inj hf
  exact vi_ret (v := some (.int u3.1)) rfl ⟨dX4_load_30, .int, rfl, rfl⟩ ⟨rfl, rfl, rfl⟩
set_option maxRecDepth 20000 in
theorem t_X4_takeOff {S : List vv_Sh} (n : Nat) (p0 : Nat) (x1 : Int32) (M : vv_M) (u : Int32 × vv_M) (h0 : vv_bb S p0) (hf : f_X4_takeOff n p0 x1 M = some u) : vv_C yX4_takeOff (vv_w yX4_takeOff cX4_takeOff 2 (some .int)) (vv_R 4 0 0) [.ref p0, .int x1] S M (some (.int u.1)) S u.2 := by
  refine vv_ofV (by decide +kernel) (Nat.le_of_ble_eq_true rfl) (L := [(0, .ref p0), (1, .int x1)]) rfl rfl rfl ?_
  show vv_V [] yX4_takeOff.cls yX4_takeOff.name cX4_takeOff 2 (some .int) (vv_R 4 0 0) S.length (vv_sz S) (vv_fi S u) 0 [(0, .ref p0), (1, .int x1)] [] S M
  unfold f_X4_takeOff at hf
  refine vi_aload_n 0 dX4_takeOff_0 rfl rfl ?_
  refine vi_getr (t := p0 + 22) 1 rfl (vv_bb_o h0) rfl wu_X4 (by decide) wf_X4_19 dX4_takeOff_1 ?_
  refine vi_aload_n 0 dX4_takeOff_4 rfl rfl ?_
  refine vi_getr (t := p0 + 1) 0 rfl (vv_bb_o h0) rfl wu_X4 (by decide) wf_X4_12 dX4_takeOff_5 ?_
  obtain ⟨u1, hu1, hf⟩ := vv_bd hf
  refine vi_callV (As := [.ref (p0 + 1)]) (st := []) (t_X0_keep n (p0 + 22) (p0 + 1) M u1 (vv_bb_history h0) (vv_bb_now h0) hu1) rfl yo_X0_keep wm_X4_37 wi_X0_keep ws_X0_keep wI_X0 wc_X0_keep (vv_hist_o (vv_bb_history h0)) rfl ⟨Nat.le_of_ble_eq_true rfl, Nat.le_of_ble_eq_true rfl⟩ (vv_rm0 rfl rfl) (Nat.le_of_ble_eq_true rfl) rfl rfl dX4_takeOff_8 ?_
  refine vi_aload_n 0 dX4_takeOff_11 rfl rfl ?_
  refine vi_getr (t := p0 + 22) 1 rfl (vv_bb_o h0) rfl wu_X4 (by decide) wf_X4_19 dX4_takeOff_12 ?_
  refine vi_aload_n 0 dX4_takeOff_15 rfl rfl ?_
  refine vi_getr (t := p0 + 1) 0 rfl (vv_bb_o h0) rfl wu_X4 (by decide) wf_X4_12 dX4_takeOff_16 ?_
  refine vi_getr (t := (p0 + 1) + 1) 0 rfl (vv_moment_o (vv_bb_now h0)) rfl wu_X1 (by decide) wf_X4_41 dX4_takeOff_19 ?_
  refine vi_iload_n 1 dX4_takeOff_22 rfl rfl ?_
  obtain ⟨u2, hu2, hf⟩ := vv_bd hf
  refine vi_callV (As := [.int x1]) (st := [.ref (p0 + 22)]) (t_X2_removeBoard n ((p0 + 1) + 1) x1 u1.2 u2 (vv_moment_oven (vv_bb_now h0)) hu2) rfl yo_X2_removeBoard wm_X4_63 wi_X2_removeBoard ws_X2_removeBoard wI_X2 wc_X2_removeBoard (vv_oven_o (vv_moment_oven (vv_bb_now h0))) rfl ⟨Nat.le_of_ble_eq_true rfl, Nat.le_of_ble_eq_true rfl⟩ (vv_rm0 rfl rfl) (Nat.le_of_ble_eq_true rfl) rfl rfl dX4_takeOff_23 ?_
  obtain ⟨u3, hu3, hf⟩ := vv_bd hf
  refine vi_callV (As := [.int u2.1]) (st := []) (t_X0_recordUnlessError n (p0 + 22) u2.1 u2.2 u3 (vv_bb_history h0) hu3) rfl yo_X0_recordUnlessError wm_X4_48 wi_X0_recordUnlessError ws_X0_recordUnlessError wI_X0 wc_X0_recordUnlessError (vv_hist_o (vv_bb_history h0)) rfl ⟨Nat.le_of_ble_eq_true rfl, Nat.le_of_ble_eq_true rfl⟩ (vv_rm0 rfl rfl) (Nat.le_of_ble_eq_true rfl) rfl rfl dX4_takeOff_26 ?_
  obtain rfl := Option.some.inj hf
  exact vi_ret (v := some (.int u3.1)) rfl ⟨dX4_takeOff_29, .int, rfl, rfl⟩ ⟨rfl, rfl, rfl⟩
set_option maxRecDepth 20000 in
theorem t_X4_pass {S : List vv_Sh} (n : Nat) (p0 : Nat) (x1 : Int32) (M : vv_M) (u : Int32 × vv_M) (h0 : vv_bb S p0) (hf : f_X4_pass n p0 x1 M = some u) : vv_C yX4_pass (vv_w yX4_pass cX4_pass 2 (some .int)) (vv_R 5 0 0) [.ref p0, .int x1] S M (some (.int u.1)) S u.2 := by
  refine vv_ofV (by decide +kernel) (Nat.le_of_ble_eq_true rfl) (L := [(0, .ref p0), (1, .int x1)]) rfl rfl rfl ?_
  show vv_V [] yX4_pass.cls yX4_pass.name cX4_pass 2 (some .int) (vv_R 5 0 0) S.length (vv_sz S) (vv_fi S u) 0 [(0, .ref p0), (1, .int x1)] [] S M
  unfold f_X4_pass at hf
  refine vi_aload_n 0 dX4_pass_0 rfl rfl ?_
  refine vi_getr (t := p0 + 22) 1 rfl (vv_bb_o h0) rfl wu_X4 (by decide) wf_X4_19 dX4_pass_1 ?_
  refine vi_aload_n 0 dX4_pass_4 rfl rfl ?_
  refine vi_getr (t := p0 + 1) 0 rfl (vv_bb_o h0) rfl wu_X4 (by decide) wf_X4_12 dX4_pass_5 ?_
  obtain ⟨u1, hu1, hf⟩ := vv_bd hf
  refine vi_callV (As := [.ref (p0 + 1)]) (st := []) (t_X0_keep n (p0 + 22) (p0 + 1) M u1 (vv_bb_history h0) (vv_bb_now h0) hu1) rfl yo_X0_keep wm_X4_37 wi_X0_keep ws_X0_keep wI_X0 wc_X0_keep (vv_hist_o (vv_bb_history h0)) rfl ⟨Nat.le_of_ble_eq_true rfl, Nat.le_of_ble_eq_true rfl⟩ (vv_rm0 rfl rfl) (Nat.le_of_ble_eq_true rfl) rfl rfl dX4_pass_8 ?_
  refine vi_aload_n 0 dX4_pass_11 rfl rfl ?_
  refine vi_getr (t := p0 + 22) 1 rfl (vv_bb_o h0) rfl wu_X4 (by decide) wf_X4_19 dX4_pass_12 ?_
  refine vi_aload_n 0 dX4_pass_15 rfl rfl ?_
  refine vi_getr (t := p0 + 1) 0 rfl (vv_bb_o h0) rfl wu_X4 (by decide) wf_X4_12 dX4_pass_16 ?_
  refine vi_getr (t := (p0 + 1) + 1) 0 rfl (vv_moment_o (vv_bb_now h0)) rfl wu_X1 (by decide) wf_X4_41 dX4_pass_19 ?_
  refine vi_iload_n 1 dX4_pass_22 rfl rfl ?_
  obtain ⟨u2, hu2, hf⟩ := vv_bd hf
  refine vi_callV (As := [.int x1]) (st := [.ref (p0 + 22)]) (t_X2_letPass n ((p0 + 1) + 1) x1 u1.2 u2 (vv_moment_oven (vv_bb_now h0)) hu2) rfl yo_X2_letPass wm_X4_66 wi_X2_letPass ws_X2_letPass wI_X2 wc_X2_letPass (vv_oven_o (vv_moment_oven (vv_bb_now h0))) rfl ⟨Nat.le_of_ble_eq_true rfl, Nat.le_of_ble_eq_true rfl⟩ (vv_rm0 rfl rfl) (Nat.le_of_ble_eq_true rfl) rfl rfl dX4_pass_23 ?_
  obtain ⟨u3, hu3, hf⟩ := vv_bd hf
  refine vi_callV (As := [.int u2.1]) (st := []) (t_X0_recordUnlessError n (p0 + 22) u2.1 u2.2 u3 (vv_bb_history h0) hu3) rfl yo_X0_recordUnlessError wm_X4_48 wi_X0_recordUnlessError ws_X0_recordUnlessError wI_X0 wc_X0_recordUnlessError (vv_hist_o (vv_bb_history h0)) rfl ⟨Nat.le_of_ble_eq_true rfl, Nat.le_of_ble_eq_true rfl⟩ (vv_rm0 rfl rfl) (Nat.le_of_ble_eq_true rfl) rfl rfl dX4_pass_26 ?_
  obtain rfl := Option.some.inj hf
  exact vi_ret (v := some (.int u3.1)) rfl ⟨dX4_pass_29, .int, rfl, rfl⟩ ⟨rfl, rfl, rfl⟩
set_option maxRecDepth 20000 in
theorem t_X4_take {S : List vv_Sh} (n : Nat) (p0 : Nat) (x1 : Int32) (M : vv_M) (u : Int32 × vv_M) (h0 : vv_bb S p0) (hf : f_X4_take n p0 x1 M = some u) : vv_C yX4_take (vv_w yX4_take cX4_take 2 (some .int)) (vv_R 4 0 0) [.ref p0, .int x1] S M (some (.int u.1)) S u.2 := by
  refine vv_ofV (by decide +kernel) (Nat.le_of_ble_eq_true rfl) (L := [(0, .ref p0), (1, .int x1)]) rfl rfl rfl ?_
  show vv_V [] yX4_take.cls yX4_take.name cX4_take 2 (some .int) (vv_R 4 0 0) S.length (vv_sz S) (vv_fi S u) 0 [(0, .ref p0), (1, .int x1)] [] S M
  unfold f_X4_take at hf
  refine vi_aload_n 0 dX4_take_0 rfl rfl ?_
  refine vi_getr (t := p0 + 22) 1 rfl (vv_bb_o h0) rfl wu_X4 (by decide) wf_X4_19 dX4_take_1 ?_
  refine vi_aload_n 0 dX4_take_4 rfl rfl ?_
  refine vi_getr (t := p0 + 1) 0 rfl (vv_bb_o h0) rfl wu_X4 (by decide) wf_X4_12 dX4_take_5 ?_
  obtain ⟨u1, hu1, hf⟩ := vv_bd hf
  refine vi_callV (As := [.ref (p0 + 1)]) (st := []) (t_X0_keep n (p0 + 22) (p0 + 1) M u1 (vv_bb_history h0) (vv_bb_now h0) hu1) rfl yo_X0_keep wm_X4_37 wi_X0_keep ws_X0_keep wI_X0 wc_X0_keep (vv_hist_o (vv_bb_history h0)) rfl ⟨Nat.le_of_ble_eq_true rfl, Nat.le_of_ble_eq_true rfl⟩ (vv_rm0 rfl rfl) (Nat.le_of_ble_eq_true rfl) rfl rfl dX4_take_8 ?_
  refine vi_aload_n 0 dX4_take_11 rfl rfl ?_
  refine vi_getr (t := p0 + 22) 1 rfl (vv_bb_o h0) rfl wu_X4 (by decide) wf_X4_19 dX4_take_12 ?_
  refine vi_aload_n 0 dX4_take_15 rfl rfl ?_
  refine vi_getr (t := p0 + 1) 0 rfl (vv_bb_o h0) rfl wu_X4 (by decide) wf_X4_12 dX4_take_16 ?_
  refine vi_iload_n 1 dX4_take_19 rfl rfl ?_
  obtain ⟨u2, hu2, hf⟩ := vv_bd hf
  refine vi_callV (As := [.int x1]) (st := [.ref (p0 + 22)]) (t_X1_takeSnapshot n (p0 + 1) x1 u1.2 u2 (vv_bb_now h0) hu2) rfl yo_X1_takeSnapshot wm_X4_69 wi_X1_takeSnapshot ws_X1_takeSnapshot wI_X1 wc_X1_takeSnapshot (vv_moment_o (vv_bb_now h0)) rfl ⟨Nat.le_of_ble_eq_true rfl, Nat.le_of_ble_eq_true rfl⟩ (vv_rm0 rfl rfl) (Nat.le_of_ble_eq_true rfl) rfl rfl dX4_take_20 ?_
  obtain ⟨u3, hu3, hf⟩ := vv_bd hf
  refine vi_callV (As := [.int u2.1]) (st := []) (t_X0_recordUnlessError n (p0 + 22) u2.1 u2.2 u3 (vv_bb_history h0) hu3) rfl yo_X0_recordUnlessError wm_X4_48 wi_X0_recordUnlessError ws_X0_recordUnlessError wI_X0 wc_X0_recordUnlessError (vv_hist_o (vv_bb_history h0)) rfl ⟨Nat.le_of_ble_eq_true rfl, Nat.le_of_ble_eq_true rfl⟩ (vv_rm0 rfl rfl) (Nat.le_of_ble_eq_true rfl) rfl rfl dX4_take_23 ?_
  obtain rfl := Option.some.inj hf
  exact vi_ret (v := some (.int u3.1)) rfl ⟨dX4_take_26, .int, rfl, rfl⟩ ⟨rfl, rfl, rfl⟩
set_option maxRecDepth 20000 in
theorem t_X4_restore {S : List vv_Sh} (n : Nat) (p0 : Nat) (x1 : Int32) (M : vv_M) (u : Int32 × vv_M) (h0 : vv_bb S p0) (hf : f_X4_restore n p0 x1 M = some u) : vv_C yX4_restore (vv_w yX4_restore cX4_restore 2 (some .int)) (vv_R 4 0 0) [.ref p0, .int x1] S M (some (.int u.1)) S u.2 := by
  refine vv_ofV (by decide +kernel) (Nat.le_of_ble_eq_true rfl) (L := [(0, .ref p0), (1, .int x1)]) rfl rfl rfl ?_
  show vv_V [] yX4_restore.cls yX4_restore.name cX4_restore 2 (some .int) (vv_R 4 0 0) S.length (vv_sz S) (vv_fi S u) 0 [(0, .ref p0), (1, .int x1)] [] S M
  unfold f_X4_restore at hf
  refine vi_aload_n 0 dX4_restore_0 rfl rfl ?_
  refine vi_getr (t := p0 + 22) 1 rfl (vv_bb_o h0) rfl wu_X4 (by decide) wf_X4_19 dX4_restore_1 ?_
  refine vi_aload_n 0 dX4_restore_4 rfl rfl ?_
  refine vi_getr (t := p0 + 1) 0 rfl (vv_bb_o h0) rfl wu_X4 (by decide) wf_X4_12 dX4_restore_5 ?_
  obtain ⟨u1, hu1, hf⟩ := vv_bd hf
  refine vi_callV (As := [.ref (p0 + 1)]) (st := []) (t_X0_keep n (p0 + 22) (p0 + 1) M u1 (vv_bb_history h0) (vv_bb_now h0) hu1) rfl yo_X0_keep wm_X4_37 wi_X0_keep ws_X0_keep wI_X0 wc_X0_keep (vv_hist_o (vv_bb_history h0)) rfl ⟨Nat.le_of_ble_eq_true rfl, Nat.le_of_ble_eq_true rfl⟩ (vv_rm0 rfl rfl) (Nat.le_of_ble_eq_true rfl) rfl rfl dX4_restore_8 ?_
  refine vi_aload_n 0 dX4_restore_11 rfl rfl ?_
  refine vi_getr (t := p0 + 22) 1 rfl (vv_bb_o h0) rfl wu_X4 (by decide) wf_X4_19 dX4_restore_12 ?_
  refine vi_aload_n 0 dX4_restore_15 rfl rfl ?_
  refine vi_getr (t := p0 + 1) 0 rfl (vv_bb_o h0) rfl wu_X4 (by decide) wf_X4_12 dX4_restore_16 ?_
  refine vi_iload_n 1 dX4_restore_19 rfl rfl ?_
  obtain ⟨u2, hu2, hf⟩ := vv_bd hf
  refine vi_callV (As := [.int x1]) (st := [.ref (p0 + 22)]) (t_X1_restoreSnapshot n (p0 + 1) x1 u1.2 u2 (vv_bb_now h0) hu2) rfl yo_X1_restoreSnapshot wm_X4_72 wi_X1_restoreSnapshot ws_X1_restoreSnapshot wI_X1 wc_X1_restoreSnapshot (vv_moment_o (vv_bb_now h0)) rfl ⟨Nat.le_of_ble_eq_true rfl, Nat.le_of_ble_eq_true rfl⟩ (vv_rm0 rfl rfl) (Nat.le_of_ble_eq_true rfl) rfl rfl dX4_restore_20 ?_
  obtain ⟨u3, hu3, hf⟩ := vv_bd hf
  refine vi_callV (As := [.int u2.1]) (st := []) (t_X0_recordUnlessError n (p0 + 22) u2.1 u2.2 u3 (vv_bb_history h0) hu3) rfl yo_X0_recordUnlessError wm_X4_48 wi_X0_recordUnlessError ws_X0_recordUnlessError wI_X0 wc_X0_recordUnlessError (vv_hist_o (vv_bb_history h0)) rfl ⟨Nat.le_of_ble_eq_true rfl, Nat.le_of_ble_eq_true rfl⟩ (vv_rm0 rfl rfl) (Nat.le_of_ble_eq_true rfl) rfl rfl dX4_restore_23 ?_
  obtain rfl := Option.some.inj hf
  exact vi_ret (v := some (.int u3.1)) rfl ⟨dX4_restore_26, .int, rfl, rfl⟩ ⟨rfl, rfl, rfl⟩
set_option maxRecDepth 20000 in
theorem t_X4_undo {S : List vv_Sh} (n : Nat) (p0 : Nat) (M : vv_M) (u : Int32 × vv_M) (h0 : vv_bb S p0) (hf : f_X4_undo n p0 M = some u) : vv_C yX4_undo (vv_w yX4_undo cX4_undo 1 (some .int)) (vv_R 4 0 0) [.ref p0] S M (some (.int u.1)) S u.2 := by
  refine vv_ofV (by decide +kernel) (Nat.le_of_ble_eq_true rfl) (L := [(0, .ref p0)]) rfl rfl rfl ?_
  show vv_V [] yX4_undo.cls yX4_undo.name cX4_undo 1 (some .int) (vv_R 4 0 0) S.length (vv_sz S) (vv_fi S u) 0 [(0, .ref p0)] [] S M
  unfold f_X4_undo at hf
  refine vi_aload_n 0 dX4_undo_0 rfl rfl ?_
  refine vi_getr (t := p0 + 22) 1 rfl (vv_bb_o h0) rfl wu_X4 (by decide) wf_X4_19 dX4_undo_1 ?_
  refine vi_aload_n 0 dX4_undo_4 rfl rfl ?_
  refine vi_getr (t := p0 + 1) 0 rfl (vv_bb_o h0) rfl wu_X4 (by decide) wf_X4_12 dX4_undo_5 ?_
  obtain ⟨u1, hu1, hf⟩ := vv_bd hf
  refine vi_callV (As := [.ref (p0 + 1)]) (st := []) (t_X0_goBack n (p0 + 22) (p0 + 1) M u1 (vv_bb_history h0) (vv_bb_now h0) hu1) rfl yo_X0_goBack wm_X4_75 wi_X0_goBack ws_X0_goBack wI_X0 wc_X0_goBack (vv_hist_o (vv_bb_history h0)) rfl ⟨Nat.le_of_ble_eq_true rfl, Nat.le_of_ble_eq_true rfl⟩ (vv_rm0 rfl rfl) (Nat.le_of_ble_eq_true rfl) rfl rfl dX4_undo_8 ?_
  obtain rfl := Option.some.inj hf
  exact vi_ret (v := some (.int u1.1)) rfl ⟨dX4_undo_11, .int, rfl, rfl⟩ ⟨rfl, rfl, rfl⟩
set_option maxRecDepth 20000 in
theorem t_X4_append {S : List vv_Sh} (n : Nat) (p0 : Nat) (x1 : Int32) (M : vv_M) (u : Int32 × vv_M) (h0 : vv_bb S p0) (hf : f_X4_append n p0 x1 M = some u) : vv_C yX4_append (vv_w yX4_append cX4_append 2 (some .int)) (vv_R 2 0 0) [.ref p0, .int x1] S M (some (.int u.1)) S u.2 := by
  refine vv_ofV (by decide +kernel) (Nat.le_of_ble_eq_true rfl) (L := [(0, .ref p0), (1, .int x1)]) rfl rfl rfl ?_
  show vv_V [] yX4_append.cls yX4_append.name cX4_append 2 (some .int) (vv_R 2 0 0) S.length (vv_sz S) (vv_fi S u) 0 [(0, .ref p0), (1, .int x1)] [] S M
  unfold f_X4_append at hf
  refine vi_aload_n 0 dX4_append_0 rfl rfl ?_
  refine vi_getr (t := p0 + 150) 2 rfl (vv_bb_o h0) rfl wu_X4 (by decide) wf_X4_26 dX4_append_1 ?_
  refine vi_iload_n 1 dX4_append_4 rfl rfl ?_
  obtain ⟨u1, hu1, hf⟩ := vv_bd hf
  refine vi_callV (As := [.int x1]) (st := []) (t_X3_add n (p0 + 150) x1 M u1 (vv_bb_text h0) hu1) rfl yo_X3_add wm_X4_79 wi_X3_add ws_X3_add wI_X3 wc_X3_add (vv_text_o (vv_bb_text h0)) rfl ⟨Nat.le_of_ble_eq_true rfl, Nat.le_of_ble_eq_true rfl⟩ (vv_rm0 rfl rfl) (Nat.le_of_ble_eq_true rfl) rfl rfl dX4_append_5 ?_
  obtain rfl := Option.some.inj hf
  exact vi_ret (v := some (.int u1.1)) rfl ⟨dX4_append_8, .int, rfl, rfl⟩ ⟨rfl, rfl, rfl⟩
set_option maxRecDepth 20000 in
theorem t_X4_carryOut_90 {S : List vv_Sh} (n : Nat)  (u : Int32 × vv_M)  (p0 : Nat) (x2 : Int32) (M : vv_M) (h0 : vv_bb S p0) (hf : f_X4_carryOut_90 n  p0 x2 M = some u) : vv_V [] yX4_carryOut.cls yX4_carryOut.name cX4_carryOut 3 (some .int) (vv_R 6 0 0) S.length (vv_sz S) (vv_fi S u) 90 [(0, .ref p0), (2, .int x2)] [] S M := by
  unfold f_X4_carryOut_90 at hf
  refine vi_aload_n 0 dX4_carryOut_90 rfl rfl ?_
  refine vi_getr (t := p0 + 150) 2 rfl (vv_bb_o h0) rfl wu_X4 (by decide) wf_X4_26 dX4_carryOut_91 ?_
  obtain ⟨u6, hu6, hf⟩ := vv_bd hf
  refine vi_callV (As := []) (st := []) (t_X3_wipe n (p0 + 150) M u6 (vv_bb_text h0) hu6) rfl yo_X3_wipe wm_X4_82 wi_X3_wipe ws_X3_wipe wI_X3 wc_X3_wipe (vv_text_o (vv_bb_text h0)) rfl ⟨Nat.le_of_ble_eq_true rfl, Nat.le_of_ble_eq_true rfl⟩ (vv_rm0 rfl rfl) (Nat.le_of_ble_eq_true rfl) rfl rfl dX4_carryOut_94 ?_
  refine vi_pop dX4_carryOut_97 rfl ?_
  refine vi_aload_n 0 dX4_carryOut_98 rfl rfl ?_
  refine vi_getr (t := p0 + 22) 1 rfl (vv_bb_o h0) rfl wu_X4 (by decide) wf_X4_19 dX4_carryOut_99 ?_
  refine vi_iload_n 1 dX4_carryOut_102 rfl rfl ?_
  obtain ⟨u7, hu7, hf⟩ := vv_bd hf
  refine vi_callV (As := [.int x2]) (st := []) (t_X0_recordUnlessError n (p0 + 22) x2 u6.2 u7 (vv_bb_history h0) hu7) rfl yo_X0_recordUnlessError wm_X4_48 wi_X0_recordUnlessError ws_X0_recordUnlessError wI_X0 wc_X0_recordUnlessError (vv_hist_o (vv_bb_history h0)) rfl ⟨Nat.le_of_ble_eq_true rfl, Nat.le_of_ble_eq_true rfl⟩ (vv_rm0 rfl rfl) (Nat.le_of_ble_eq_true rfl) rfl rfl dX4_carryOut_103 ?_
  obtain rfl := Option.some.inj hf
  exact vi_ret (v := some (.int u7.1)) rfl ⟨dX4_carryOut_106, .int, rfl, rfl⟩ ⟨rfl, rfl, rfl⟩
set_option maxRecDepth 20000 in
theorem t_X4_carryOut_34 {S : List vv_Sh} (n : Nat)  (u : Int32 × vv_M)  : ∀ (k : Nat) (p0 : Nat) (x2 : Int32) (M : vv_M) (h0 : vv_bb S p0) (hf : f_X4_carryOut_34 n  k p0 x2 M = some u), vv_V [] yX4_carryOut.cls yX4_carryOut.name cX4_carryOut 3 (some .int) (vv_R 6 0 0) S.length (vv_sz S) (vv_fi S u) 34 [(0, .ref p0), (2, .int x2)] [] S M := by
  intro k
  induction k with
  | zero =>
    intro p0 x2 M h0 hf
    exact absurd (show (none : Option (Int32 × vv_M)) = some u from hf) (by simp)
  | succ k ih =>
    intro p0 x2 M h0 hf
    rw [f_X4_carryOut_34.eq_2] at hf
    refine vi_iload_n 1 dX4_carryOut_34 rfl rfl ?_
    refine vi_bipush (v := (100 : Int32)) dX4_carryOut_35 (by decide) ?_
    refine vi_icmp_ge 90 dX4_carryOut_37 (by decide) (fun c5 => ?_) (fun c5 => ?_)
    · rw [if_pos c5] at hf
      exact t_X4_carryOut_90 n  u  p0 x2 M h0 hf
    · rw [if_neg c5] at hf
      refine vi_aload_n 0 dX4_carryOut_40 rfl rfl ?_
      refine vi_getr (t := p0 + 150) 2 rfl (vv_bb_o h0) rfl wu_X4 (by decide) wf_X4_26 dX4_carryOut_41 ?_
      obtain ⟨u8, hu8, hf⟩ := vv_bd hf
      refine vi_callV (As := []) (st := []) (t_X3_readOrder n (p0 + 150) M u8 (vv_bb_text h0) hu8) rfl yo_X3_readOrder wm_X4_89 wi_X3_readOrder ws_X3_readOrder wI_X3 wc_X3_readOrder (vv_text_o (vv_bb_text h0)) rfl ⟨Nat.le_of_ble_eq_true rfl, Nat.le_of_ble_eq_true rfl⟩ (vv_rm0 rfl rfl) (Nat.le_of_ble_eq_true rfl) rfl rfl dX4_carryOut_44 ?_
      refine vi_if_eq 90 dX4_carryOut_47 (by decide) (fun c9 => ?_) (fun c9 => ?_)
      · rw [if_pos c9] at hf
        exact t_X4_carryOut_90 n  u  p0 x2 u8.2 h0 hf
      · rw [if_neg c9] at hf
        refine vi_aload_n 0 dX4_carryOut_50 rfl rfl ?_
        refine vi_getr (t := p0 + 1) 0 rfl (vv_bb_o h0) rfl wu_X4 (by decide) wf_X4_12 dX4_carryOut_51 ?_
        refine vi_getr (t := (p0 + 1) + 1) 0 rfl (vv_moment_o (vv_bb_now h0)) rfl wu_X1 (by decide) wf_X4_41 dX4_carryOut_54 ?_
        refine vi_aload_n 0 dX4_carryOut_57 rfl rfl ?_
        refine vi_getr (t := p0 + 150) 2 rfl (vv_bb_o h0) rfl wu_X4 (by decide) wf_X4_26 dX4_carryOut_58 ?_
        refine vi_geti 3 rfl (vv_text_o (vv_bb_text h0)) rfl wu_X3 (by decide) wf_X4_93 dX4_carryOut_61 ?_
        refine vi_aload_n 0 dX4_carryOut_64 rfl rfl ?_
        refine vi_getr (t := p0 + 150) 2 rfl (vv_bb_o h0) rfl wu_X4 (by decide) wf_X4_26 dX4_carryOut_65 ?_
        refine vi_geti 4 rfl (vv_text_o (vv_bb_text h0)) rfl wu_X3 (by decide) wf_X4_97 dX4_carryOut_68 ?_
        refine vi_aload_n 0 dX4_carryOut_71 rfl rfl ?_
        refine vi_getr (t := p0 + 150) 2 rfl (vv_bb_o h0) rfl wu_X4 (by decide) wf_X4_26 dX4_carryOut_72 ?_
        refine vi_geti 5 rfl (vv_text_o (vv_bb_text h0)) rfl wu_X3 (by decide) wf_X4_100 dX4_carryOut_75 ?_
        obtain ⟨u10, hu10, hf⟩ := vv_bd hf
        refine vi_callV (As := [.int (u8.2 (p0 + 150) 3), .int (u8.2 (p0 + 150) 4), .int (u8.2 (p0 + 150) 5)]) (st := []) (t_X2_obey n ((p0 + 1) + 1) (u8.2 (p0 + 150) 3) (u8.2 (p0 + 150) 4) (u8.2 (p0 + 150) 5) u8.2 u10 (vv_moment_oven (vv_bb_now h0)) hu10) rfl yo_X2_obey wm_X4_103 wi_X2_obey ws_X2_obey wI_X2 wc_X2_obey (vv_oven_o (vv_moment_oven (vv_bb_now h0))) rfl ⟨Nat.le_of_ble_eq_true rfl, Nat.le_of_ble_eq_true rfl⟩ (vv_rm0 rfl rfl) (Nat.le_of_ble_eq_true rfl) rfl rfl dX4_carryOut_78 ?_
        refine vi_if_lt 90 dX4_carryOut_81 (by decide) (fun c11 => ?_) (fun c11 => ?_)
        · rw [if_pos c11] at hf
          exact t_X4_carryOut_90 n  u  p0 x2 u10.2 h0 hf
        · rw [if_neg c11] at hf
          obtain ⟨y12, ey12, hf⟩ := vv_lt hf
          refine vi_iinc (v := y12) (L' := [(2, .int y12), (0, .ref p0)]) 1 dX4_carryOut_84 rfl (by rw [ey12]; rfl) (by decide) rfl ?_
          refine vi_goto 34 dX4_carryOut_87 (by decide) ?_
          refine vi_sub (L' := [(0, .ref p0), (2, .int y12)]) [1, 0] rfl ?_
          exact ih p0 y12 u10.2 h0 hf
set_option maxRecDepth 20000 in
theorem t_X4_carryOut {S : List vv_Sh} (n : Nat) (p0 : Nat) (M : vv_M) (u : Int32 × vv_M) (h0 : vv_bb S p0) (hf : f_X4_carryOut n p0 M = some u) : vv_C yX4_carryOut (vv_w yX4_carryOut cX4_carryOut 3 (some .int)) (vv_R 6 0 0) [.ref p0] S M (some (.int u.1)) S u.2 := by
  refine vv_ofV (by decide +kernel) (Nat.le_of_ble_eq_true rfl) (L := [(0, .ref p0)]) rfl rfl rfl ?_
  show vv_V [] yX4_carryOut.cls yX4_carryOut.name cX4_carryOut 3 (some .int) (vv_R 6 0 0) S.length (vv_sz S) (vv_fi S u) 0 [(0, .ref p0)] [] S M
  unfold f_X4_carryOut at hf
  refine vi_aload_n 0 dX4_carryOut_0 rfl rfl ?_
  refine vi_getr (t := p0 + 150) 2 rfl (vv_bb_o h0) rfl wu_X4 (by decide) wf_X4_26 dX4_carryOut_1 ?_
  obtain ⟨u1, hu1, hf⟩ := vv_bd hf
  refine vi_callV (As := []) (st := []) (t_X3_firstFault n (p0 + 150) M u1 (vv_bb_text h0) hu1) rfl yo_X3_firstFault wm_X4_86 wi_X3_firstFault ws_X3_firstFault wI_X3 wc_X3_firstFault (vv_text_o (vv_bb_text h0)) rfl ⟨Nat.le_of_ble_eq_true rfl, Nat.le_of_ble_eq_true rfl⟩ (vv_rm0 rfl rfl) (Nat.le_of_ble_eq_true rfl) rfl rfl dX4_carryOut_4 ?_
  obtain ⟨y2, ey2, hf⟩ := vv_lt hf
  refine vi_istore_n (L' := [(1, .int y2), (0, .ref p0)]) dX4_carryOut_7 rfl (by decide) (by rw [ey2]; rfl) ?_
  refine vi_iload_n 0 dX4_carryOut_8 rfl rfl ?_
  refine vi_sipush (v := (-1009 : Int32)) dX4_carryOut_9 (by decide) ?_
  refine vi_icmp_eq 21 dX4_carryOut_12 (by decide) (fun c3 => ?_) (fun c3 => ?_)
  · rw [if_pos c3] at hf
    refine vi_aload_n 1 dX4_carryOut_21 rfl rfl ?_
    refine vi_getr (t := p0 + 22) 1 rfl (vv_bb_o h0) rfl wu_X4 (by decide) wf_X4_19 dX4_carryOut_22 ?_
    refine vi_aload_n 1 dX4_carryOut_25 rfl rfl ?_
    refine vi_getr (t := p0 + 1) 0 rfl (vv_bb_o h0) rfl wu_X4 (by decide) wf_X4_12 dX4_carryOut_26 ?_
    obtain ⟨u4, hu4, hf⟩ := vv_bd hf
    refine vi_callV (As := [.ref (p0 + 1)]) (st := []) (t_X0_keep n (p0 + 22) (p0 + 1) u1.2 u4 (vv_bb_history h0) (vv_bb_now h0) hu4) rfl yo_X0_keep wm_X4_37 wi_X0_keep ws_X0_keep wI_X0 wc_X0_keep (vv_hist_o (vv_bb_history h0)) rfl ⟨Nat.le_of_ble_eq_true rfl, Nat.le_of_ble_eq_true rfl⟩ (vv_rm0 rfl rfl) (Nat.le_of_ble_eq_true rfl) rfl rfl dX4_carryOut_29 ?_
    refine vi_iconst (v := (0 : Int32)) dX4_carryOut_32 (by decide) ?_
    refine vi_istore_n (L' := [(2, .int (0 : Int32)), (1, .int y2), (0, .ref p0)]) dX4_carryOut_33 rfl (by decide) rfl ?_
    refine vi_sub (L' := [(0, .ref p0), (2, .int (0 : Int32))]) [2, 0] rfl ?_
    exact t_X4_carryOut_34 n  u  n p0 (0 : Int32) u4.2 h0 hf
  · rw [if_neg c3] at hf
    refine vi_sipush (v := (-2000 : Int32)) dX4_carryOut_15 (by decide) ?_
    refine vi_iload_n 0 dX4_carryOut_18 rfl rfl ?_
    refine vi_isub dX4_carryOut_19 ?_
    obtain rfl := Option.some.inj hf
    exact vi_ret (v := some (.int ((-2000 : Int32) - y2))) rfl ⟨dX4_carryOut_20, .int, rfl, rfl⟩ ⟨rfl, rfl, rfl⟩
set_option maxRecDepth 20000 in
theorem t_X4_count {S : List vv_Sh} (n : Nat) (p0 : Nat) (x1 : Int32) (M : vv_M) (u : Int32 × vv_M) (h0 : vv_bb S p0) (hf : f_X4_count n p0 x1 M = some u) : vv_C yX4_count (vv_w yX4_count cX4_count 3 (some .int)) (vv_R 2 0 0) [.ref p0, .int x1] S M (some (.int u.1)) S u.2 := by
  refine vv_ofV (by decide +kernel) (Nat.le_of_ble_eq_true rfl) (L := [(0, .ref p0), (1, .int x1)]) rfl rfl rfl ?_
  show vv_V [] yX4_count.cls yX4_count.name cX4_count 3 (some .int) (vv_R 2 0 0) S.length (vv_sz S) (vv_fi S u) 0 [(0, .ref p0), (1, .int x1)] [] S M
  unfold f_X4_count at hf
  refine vi_aload_n 0 dX4_count_0 rfl rfl ?_
  refine vi_getr (t := p0 + 1) 0 rfl (vv_bb_o h0) rfl wu_X4 (by decide) wf_X4_12 dX4_count_1 ?_
  refine vi_getr (t := (p0 + 1) + 1) 0 rfl (vv_moment_o (vv_bb_now h0)) rfl wu_X1 (by decide) wf_X4_41 dX4_count_4 ?_
  refine vi_astore_n (L' := [(2, .ref ((p0 + 1) + 1)), (0, .ref p0), (1, .int x1)]) dX4_count_7 rfl (by decide) rfl ?_
  refine vi_iload_n 2 dX4_count_8 rfl rfl ?_
  by_cases c1 : x1 = (0 : Int32)
  · rw [if_pos c1] at hf
    refine vi_tableAt 88 c1 dX4_count_9 (by decide) (by decide) rfl (by decide) ?_
    refine vi_aload_n 0 dX4_count_88 rfl rfl ?_
    refine vi_geti 5 rfl (vv_oven_o (vv_moment_oven (vv_bb_now h0))) rfl wu_X2 (by decide) wf_X4_106 dX4_count_89 ?_
    obtain rfl := Option.some.inj hf
    exact vi_ret (v := some (.int (M ((p0 + 1) + 1) 5))) rfl ⟨dX4_count_92, .int, rfl, rfl⟩ ⟨rfl, rfl, rfl⟩
  rw [if_neg c1] at hf
  by_cases c2 : x1 = (1 : Int32)
  · rw [if_pos c2] at hf
    refine vi_tableAt 93 c2 dX4_count_9 (by decide) (by decide) rfl (by decide) ?_
    refine vi_aload_n 0 dX4_count_93 rfl rfl ?_
    refine vi_geti 6 rfl (vv_oven_o (vv_moment_oven (vv_bb_now h0))) rfl wu_X2 (by decide) wf_X4_109 dX4_count_94 ?_
    obtain rfl := Option.some.inj hf
    exact vi_ret (v := some (.int (M ((p0 + 1) + 1) 6))) rfl ⟨dX4_count_97, .int, rfl, rfl⟩ ⟨rfl, rfl, rfl⟩
  rw [if_neg c2] at hf
  by_cases c3 : x1 = (2 : Int32)
  · rw [if_pos c3] at hf
    refine vi_tableAt 98 c3 dX4_count_9 (by decide) (by decide) rfl (by decide) ?_
    refine vi_aload_n 0 dX4_count_98 rfl rfl ?_
    refine vi_iconst (v := (0 : Int32)) dX4_count_99 (by decide) ?_
    obtain ⟨u4, hu4, hf⟩ := vv_bd hf
    refine vi_callV (As := [.int (0 : Int32)]) (st := []) (t_X2_boardsThatAre n ((p0 + 1) + 1) (0 : Int32) M u4 (vv_moment_oven (vv_bb_now h0)) hu4) rfl yo_X2_boardsThatAre wm_X4_112 wi_X2_boardsThatAre ws_X2_boardsThatAre wI_X2 wc_X2_boardsThatAre (vv_oven_o (vv_moment_oven (vv_bb_now h0))) rfl ⟨Nat.le_of_ble_eq_true rfl, Nat.le_of_ble_eq_true rfl⟩ (vv_rm0 rfl rfl) (Nat.le_of_ble_eq_true rfl) rfl rfl dX4_count_100 ?_
    obtain rfl := Option.some.inj hf
    exact vi_ret (v := some (.int u4.1)) rfl ⟨dX4_count_103, .int, rfl, rfl⟩ ⟨rfl, rfl, rfl⟩
  rw [if_neg c3] at hf
  by_cases c5 : x1 = (3 : Int32)
  · rw [if_pos c5] at hf
    refine vi_tableAt 104 c5 dX4_count_9 (by decide) (by decide) rfl (by decide) ?_
    refine vi_aload_n 0 dX4_count_104 rfl rfl ?_
    refine vi_iconst (v := (1 : Int32)) dX4_count_105 (by decide) ?_
    obtain ⟨u6, hu6, hf⟩ := vv_bd hf
    refine vi_callV (As := [.int (1 : Int32)]) (st := []) (t_X2_boardsThatAre n ((p0 + 1) + 1) (1 : Int32) M u6 (vv_moment_oven (vv_bb_now h0)) hu6) rfl yo_X2_boardsThatAre wm_X4_112 wi_X2_boardsThatAre ws_X2_boardsThatAre wI_X2 wc_X2_boardsThatAre (vv_oven_o (vv_moment_oven (vv_bb_now h0))) rfl ⟨Nat.le_of_ble_eq_true rfl, Nat.le_of_ble_eq_true rfl⟩ (vv_rm0 rfl rfl) (Nat.le_of_ble_eq_true rfl) rfl rfl dX4_count_106 ?_
    obtain rfl := Option.some.inj hf
    exact vi_ret (v := some (.int u6.1)) rfl ⟨dX4_count_109, .int, rfl, rfl⟩ ⟨rfl, rfl, rfl⟩
  rw [if_neg c5] at hf
  by_cases c7 : x1 = (4 : Int32)
  · rw [if_pos c7] at hf
    refine vi_tableAt 110 c7 dX4_count_9 (by decide) (by decide) rfl (by decide) ?_
    refine vi_aload_n 0 dX4_count_110 rfl rfl ?_
    obtain ⟨u8, hu8, hf⟩ := vv_bd hf
    refine vi_callV (As := []) (st := []) (t_X2_boardsLeftFaultless n ((p0 + 1) + 1) M u8 (vv_moment_oven (vv_bb_now h0)) hu8) rfl yo_X2_boardsLeftFaultless wm_X4_115 wi_X2_boardsLeftFaultless ws_X2_boardsLeftFaultless wI_X2 wc_X2_boardsLeftFaultless (vv_oven_o (vv_moment_oven (vv_bb_now h0))) rfl ⟨Nat.le_of_ble_eq_true rfl, Nat.le_of_ble_eq_true rfl⟩ (vv_rm0 rfl rfl) (Nat.le_of_ble_eq_true rfl) rfl rfl dX4_count_111 ?_
    obtain rfl := Option.some.inj hf
    exact vi_ret (v := some (.int u8.1)) rfl ⟨dX4_count_114, .int, rfl, rfl⟩ ⟨rfl, rfl, rfl⟩
  rw [if_neg c7] at hf
  by_cases c9 : x1 = (5 : Int32)
  · rw [if_pos c9] at hf
    refine vi_tableAt 115 c9 dX4_count_9 (by decide) (by decide) rfl (by decide) ?_
    refine vi_aload_n 0 dX4_count_115 rfl rfl ?_
    refine vi_iconst (v := (2 : Int32)) dX4_count_116 (by decide) ?_
    obtain ⟨u10, hu10, hf⟩ := vv_bd hf
    refine vi_callV (As := [.int (2 : Int32)]) (st := []) (t_X2_boardsThatAre n ((p0 + 1) + 1) (2 : Int32) M u10 (vv_moment_oven (vv_bb_now h0)) hu10) rfl yo_X2_boardsThatAre wm_X4_112 wi_X2_boardsThatAre ws_X2_boardsThatAre wI_X2 wc_X2_boardsThatAre (vv_oven_o (vv_moment_oven (vv_bb_now h0))) rfl ⟨Nat.le_of_ble_eq_true rfl, Nat.le_of_ble_eq_true rfl⟩ (vv_rm0 rfl rfl) (Nat.le_of_ble_eq_true rfl) rfl rfl dX4_count_117 ?_
    obtain rfl := Option.some.inj hf
    exact vi_ret (v := some (.int u10.1)) rfl ⟨dX4_count_120, .int, rfl, rfl⟩ ⟨rfl, rfl, rfl⟩
  rw [if_neg c9] at hf
  by_cases c11 : x1 = (6 : Int32)
  · rw [if_pos c11] at hf
    refine vi_tableAt 121 c11 dX4_count_9 (by decide) (by decide) rfl (by decide) ?_
    refine vi_aload_n 0 dX4_count_121 rfl rfl ?_
    obtain ⟨u12, hu12, hf⟩ := vv_bd hf
    refine vi_callV (As := []) (st := []) (t_X2_beltLength n ((p0 + 1) + 1) M u12 (vv_moment_oven (vv_bb_now h0)) hu12) rfl yo_X2_beltLength wm_X4_118 wi_X2_beltLength ws_X2_beltLength wI_X2 wc_X2_beltLength (vv_oven_o (vv_moment_oven (vv_bb_now h0))) rfl ⟨Nat.le_of_ble_eq_true rfl, Nat.le_of_ble_eq_true rfl⟩ (vv_rm0 rfl rfl) (Nat.le_of_ble_eq_true rfl) rfl rfl dX4_count_122 ?_
    obtain rfl := Option.some.inj hf
    exact vi_ret (v := some (.int u12.1)) rfl ⟨dX4_count_125, .int, rfl, rfl⟩ ⟨rfl, rfl, rfl⟩
  rw [if_neg c11] at hf
  by_cases c13 : x1 = (7 : Int32)
  · rw [if_pos c13] at hf
    refine vi_tableAt 126 c13 dX4_count_9 (by decide) (by decide) rfl (by decide) ?_
    refine vi_aload_n 0 dX4_count_126 rfl rfl ?_
    refine vi_getr (t := ((p0 + 1) + 1) + 3) 2 rfl (vv_oven_o (vv_moment_oven (vv_bb_now h0))) rfl wu_X2 (by decide) wf_X4_121 dX4_count_127 ?_
    refine vi_iconst (v := (0 : Int32)) dX4_count_130 (by decide) ?_
    obtain ⟨g14, hf⟩ := vv_gd hf
    refine vi_iald (vv_oven_numbers (vv_moment_oven (vv_bb_now h0))) g14 dX4_count_131 ?_
    obtain rfl := Option.some.inj hf
    exact vi_ret (v := some (.int (M (((p0 + 1) + 1) + 3) (0 : Int32).toNatClampNeg))) rfl ⟨dX4_count_132, .int, rfl, rfl⟩ ⟨rfl, rfl, rfl⟩
  rw [if_neg c13] at hf
  by_cases c15 : x1 = (8 : Int32)
  · rw [if_pos c15] at hf
    refine vi_tableAt 133 c15 dX4_count_9 (by decide) (by decide) rfl (by decide) ?_
    refine vi_aload_n 0 dX4_count_133 rfl rfl ?_
    refine vi_getr (t := ((p0 + 1) + 1) + 3) 2 rfl (vv_oven_o (vv_moment_oven (vv_bb_now h0))) rfl wu_X2 (by decide) wf_X4_121 dX4_count_134 ?_
    refine vi_iconst (v := (1 : Int32)) dX4_count_137 (by decide) ?_
    obtain ⟨g16, hf⟩ := vv_gd hf
    refine vi_iald (vv_oven_numbers (vv_moment_oven (vv_bb_now h0))) g16 dX4_count_138 ?_
    obtain rfl := Option.some.inj hf
    exact vi_ret (v := some (.int (M (((p0 + 1) + 1) + 3) (1 : Int32).toNatClampNeg))) rfl ⟨dX4_count_139, .int, rfl, rfl⟩ ⟨rfl, rfl, rfl⟩
  rw [if_neg c15] at hf
  by_cases c17 : x1 = (9 : Int32)
  · rw [if_pos c17] at hf
    refine vi_tableAt 140 c17 dX4_count_9 (by decide) (by decide) rfl (by decide) ?_
    refine vi_aload_n 0 dX4_count_140 rfl rfl ?_
    refine vi_getr (t := ((p0 + 1) + 1) + 3) 2 rfl (vv_oven_o (vv_moment_oven (vv_bb_now h0))) rfl wu_X2 (by decide) wf_X4_121 dX4_count_141 ?_
    refine vi_iconst (v := (2 : Int32)) dX4_count_144 (by decide) ?_
    obtain ⟨g18, hf⟩ := vv_gd hf
    refine vi_iald (vv_oven_numbers (vv_moment_oven (vv_bb_now h0))) g18 dX4_count_145 ?_
    obtain rfl := Option.some.inj hf
    exact vi_ret (v := some (.int (M (((p0 + 1) + 1) + 3) (2 : Int32).toNatClampNeg))) rfl ⟨dX4_count_146, .int, rfl, rfl⟩ ⟨rfl, rfl, rfl⟩
  rw [if_neg c17] at hf
  by_cases c19 : x1 = (10 : Int32)
  · rw [if_pos c19] at hf
    refine vi_tableAt 147 c19 dX4_count_9 (by decide) (by decide) rfl (by decide) ?_
    refine vi_aload_n 0 dX4_count_147 rfl rfl ?_
    refine vi_getr (t := ((p0 + 1) + 1) + 3) 2 rfl (vv_oven_o (vv_moment_oven (vv_bb_now h0))) rfl wu_X2 (by decide) wf_X4_121 dX4_count_148 ?_
    refine vi_iconst (v := (3 : Int32)) dX4_count_151 (by decide) ?_
    obtain ⟨g20, hf⟩ := vv_gd hf
    refine vi_iald (vv_oven_numbers (vv_moment_oven (vv_bb_now h0))) g20 dX4_count_152 ?_
    obtain rfl := Option.some.inj hf
    exact vi_ret (v := some (.int (M (((p0 + 1) + 1) + 3) (3 : Int32).toNatClampNeg))) rfl ⟨dX4_count_153, .int, rfl, rfl⟩ ⟨rfl, rfl, rfl⟩
  rw [if_neg c19] at hf
  by_cases c21 : x1 = (11 : Int32)
  · rw [if_pos c21] at hf
    refine vi_tableAt 154 c21 dX4_count_9 (by decide) (by decide) rfl (by decide) ?_
    refine vi_aload_n 0 dX4_count_154 rfl rfl ?_
    refine vi_geti 7 rfl (vv_oven_o (vv_moment_oven (vv_bb_now h0))) rfl wu_X2 (by decide) wf_X4_125 dX4_count_155 ?_
    obtain rfl := Option.some.inj hf
    exact vi_ret (v := some (.int (M ((p0 + 1) + 1) 7))) rfl ⟨dX4_count_158, .int, rfl, rfl⟩ ⟨rfl, rfl, rfl⟩
  rw [if_neg c21] at hf
  by_cases c22 : x1 = (12 : Int32)
  · rw [if_pos c22] at hf
    refine vi_tableAt 159 c22 dX4_count_9 (by decide) (by decide) rfl (by decide) ?_
    refine vi_aload_n 0 dX4_count_159 rfl rfl ?_
    refine vi_geti 8 rfl (vv_oven_o (vv_moment_oven (vv_bb_now h0))) rfl wu_X2 (by decide) wf_X4_128 dX4_count_160 ?_
    obtain rfl := Option.some.inj hf
    exact vi_ret (v := some (.int (M ((p0 + 1) + 1) 8))) rfl ⟨dX4_count_163, .int, rfl, rfl⟩ ⟨rfl, rfl, rfl⟩
  rw [if_neg c22] at hf
  by_cases c23 : x1 = (13 : Int32)
  · rw [if_pos c23] at hf
    refine vi_tableAt 164 c23 dX4_count_9 (by decide) (by decide) rfl (by decide) ?_
    refine vi_aload_n 1 dX4_count_164 rfl rfl ?_
    refine vi_getr (t := p0 + 1) 0 rfl (vv_bb_o h0) rfl wu_X4 (by decide) wf_X4_12 dX4_count_165 ?_
    obtain ⟨u24, hu24, hf⟩ := vv_bd hf
    refine vi_callV (As := []) (st := []) (t_X1_snapshots n (p0 + 1) M u24 (vv_bb_now h0) hu24) rfl yo_X1_snapshots wm_X4_131 wi_X1_snapshots ws_X1_snapshots wI_X1 wc_X1_snapshots (vv_moment_o (vv_bb_now h0)) rfl ⟨Nat.le_of_ble_eq_true rfl, Nat.le_of_ble_eq_true rfl⟩ (vv_rm0 rfl rfl) (Nat.le_of_ble_eq_true rfl) rfl rfl dX4_count_168 ?_
    obtain rfl := Option.some.inj hf
    exact vi_ret (v := some (.int u24.1)) rfl ⟨dX4_count_171, .int, rfl, rfl⟩ ⟨rfl, rfl, rfl⟩
  rw [if_neg c23] at hf
  by_cases c25 : x1 = (14 : Int32)
  · rw [if_pos c25] at hf
    refine vi_tableAt 172 c25 dX4_count_9 (by decide) (by decide) rfl (by decide) ?_
    refine vi_aload_n 1 dX4_count_172 rfl rfl ?_
    refine vi_getr (t := p0 + 22) 1 rfl (vv_bb_o h0) rfl wu_X4 (by decide) wf_X4_19 dX4_count_173 ?_
    refine vi_geti 2 rfl (vv_hist_o (vv_bb_history h0)) rfl wu_X0 (by decide) wf_X4_134 dX4_count_176 ?_
    obtain rfl := Option.some.inj hf
    exact vi_ret (v := some (.int (M (p0 + 22) 2))) rfl ⟨dX4_count_179, .int, rfl, rfl⟩ ⟨rfl, rfl, rfl⟩
  rw [if_neg c25] at hf
  by_cases c26 : x1 = (15 : Int32)
  · rw [if_pos c26] at hf
    refine vi_tableAt 180 c26 dX4_count_9 (by decide) (by decide) rfl (by decide) ?_
    refine vi_aload_n 1 dX4_count_180 rfl rfl ?_
    refine vi_getr (t := p0 + 150) 2 rfl (vv_bb_o h0) rfl wu_X4 (by decide) wf_X4_26 dX4_count_181 ?_
    refine vi_geti 1 rfl (vv_text_o (vv_bb_text h0)) rfl wu_X3 (by decide) wf_X4_137 dX4_count_184 ?_
    obtain rfl := Option.some.inj hf
    exact vi_ret (v := some (.int (M (p0 + 150) 1))) rfl ⟨dX4_count_187, .int, rfl, rfl⟩ ⟨rfl, rfl, rfl⟩
  rw [if_neg c26] at hf
  refine vi_tableOut 188 dX4_count_9 (by have nc1 := vv_nk c1 (show (0 : Int32).toInt = 0 from rfl); have nc2 := vv_nk c2 (show (1 : Int32).toInt = 1 from rfl); have nc3 := vv_nk c3 (show (2 : Int32).toInt = 2 from rfl); have nc5 := vv_nk c5 (show (3 : Int32).toInt = 3 from rfl); have nc7 := vv_nk c7 (show (4 : Int32).toInt = 4 from rfl); have nc9 := vv_nk c9 (show (5 : Int32).toInt = 5 from rfl); have nc11 := vv_nk c11 (show (6 : Int32).toInt = 6 from rfl); have nc13 := vv_nk c13 (show (7 : Int32).toInt = 7 from rfl); have nc15 := vv_nk c15 (show (8 : Int32).toInt = 8 from rfl); have nc17 := vv_nk c17 (show (9 : Int32).toInt = 9 from rfl); have nc19 := vv_nk c19 (show (10 : Int32).toInt = 10 from rfl); have nc21 := vv_nk c21 (show (11 : Int32).toInt = 11 from rfl); have nc22 := vv_nk c22 (show (12 : Int32).toInt = 12 from rfl); have nc23 := vv_nk c23 (show (13 : Int32).toInt = 13 from rfl); have nc25 := vv_nk c25 (show (14 : Int32).toInt = 14 from rfl); have nc26 := vv_nk c26 (show (15 : Int32).toInt = 15 from rfl); omega) (by decide) ?_
  refine vi_sipush (v := (-1001 : Int32)) dX4_count_188 (by decide) ?_
  obtain rfl := Option.some.inj hf
  exact vi_ret (v := some (.int (-1001 : Int32))) rfl ⟨dX4_count_191, .int, rfl, rfl⟩ ⟨rfl, rfl, rfl⟩
set_option maxRecDepth 20000 in
theorem t_X4_zone {S : List vv_Sh} (n : Nat) (p0 : Nat) (x1 : Int32) (x2 : Int32) (M : vv_M) (u : Int32 × vv_M) (h0 : vv_bb S p0) (hf : f_X4_zone n p0 x1 x2 M = some u) : vv_C yX4_zone (vv_w yX4_zone cX4_zone 3 (some .int)) (vv_R 2 0 0) [.ref p0, .int x1, .int x2] S M (some (.int u.1)) S u.2 := by
  refine vv_ofV (by decide +kernel) (Nat.le_of_ble_eq_true rfl) (L := [(0, .ref p0), (1, .int x1), (2, .int x2)]) rfl rfl rfl ?_
  show vv_V [] yX4_zone.cls yX4_zone.name cX4_zone 3 (some .int) (vv_R 2 0 0) S.length (vv_sz S) (vv_fi S u) 0 [(0, .ref p0), (1, .int x1), (2, .int x2)] [] S M
  unfold f_X4_zone at hf
  refine vi_iload_n 1 dX4_zone_0 rfl rfl ?_
  refine vi_iconst (v := (0 : Int32)) dX4_zone_1 (by decide) ?_
  refine vi_iconst (v := (5 : Int32)) dX4_zone_2 (by decide) ?_
  obtain ⟨u1, hu1, hf⟩ := vv_bd hf
  refine vi_callS (As := [.int x1, .int (0 : Int32), .int (5 : Int32)]) (st := []) (t_X4_isWithin n x1 (0 : Int32) (5 : Int32) M u1  hu1) rfl yo_X4_isWithin wm_X4_140 wi_X4_isWithin wI_X4 wc_X4_isWithin ⟨Nat.le_of_ble_eq_true rfl, Nat.le_of_ble_eq_true rfl⟩ (vv_rm0 rfl rfl) (Nat.le_of_ble_eq_true rfl) rfl rfl dX4_zone_3 ?_
  refine vi_if_ne 13 dX4_zone_6 (by decide) (fun c2 => ?_) (fun c2 => ?_)
  · rw [if_neg c2] at hf
    refine vi_iload_n 2 dX4_zone_13 rfl rfl ?_
    by_cases c3 : x2 = (0 : Int32)
    · rw [if_pos c3] at hf
      refine vi_tableAt 56 c3 dX4_zone_14 (by decide) (by decide) rfl (by decide) ?_
      refine vi_aload_n 0 dX4_zone_56 rfl rfl ?_
      refine vi_getr (t := p0 + 1) 0 rfl (vv_bb_o h0) rfl wu_X4 (by decide) wf_X4_12 dX4_zone_57 ?_
      refine vi_getr (t := (p0 + 1) + 1) 0 rfl (vv_moment_o (vv_bb_now h0)) rfl wu_X1 (by decide) wf_X4_41 dX4_zone_60 ?_
      refine vi_getr (t := ((p0 + 1) + 1) + 1) 0 rfl (vv_oven_o (vv_moment_oven (vv_bb_now h0))) rfl wu_X2 (by decide) wf_X4_144 dX4_zone_63 ?_
      refine vi_iload_n 1 dX4_zone_66 rfl rfl ?_
      refine vi_iconst (v := (4 : Int32)) dX4_zone_67 (by decide) ?_
      refine vi_imul dX4_zone_68 ?_
      refine vi_iload_n 2 dX4_zone_69 rfl rfl ?_
      refine vi_iadd dX4_zone_70 ?_
      obtain ⟨g4, hf⟩ := vv_gd hf
      refine vi_iald (vv_oven_zones (vv_moment_oven (vv_bb_now h0))) g4 dX4_zone_71 ?_
      obtain rfl := Option.some.inj hf
      exact vi_ret (v := some (.int (u1.2 (((p0 + 1) + 1) + 1) ((x1 * (4 : Int32)) + x2).toNatClampNeg))) rfl ⟨dX4_zone_72, .int, rfl, rfl⟩ ⟨rfl, rfl, rfl⟩
    rw [if_neg c3] at hf
    by_cases c5 : x2 = (1 : Int32)
    · rw [if_pos c5] at hf
      refine vi_tableAt 56 c5 dX4_zone_14 (by decide) (by decide) rfl (by decide) ?_
      refine vi_aload_n 0 dX4_zone_56 rfl rfl ?_
      refine vi_getr (t := p0 + 1) 0 rfl (vv_bb_o h0) rfl wu_X4 (by decide) wf_X4_12 dX4_zone_57 ?_
      refine vi_getr (t := (p0 + 1) + 1) 0 rfl (vv_moment_o (vv_bb_now h0)) rfl wu_X1 (by decide) wf_X4_41 dX4_zone_60 ?_
      refine vi_getr (t := ((p0 + 1) + 1) + 1) 0 rfl (vv_oven_o (vv_moment_oven (vv_bb_now h0))) rfl wu_X2 (by decide) wf_X4_144 dX4_zone_63 ?_
      refine vi_iload_n 1 dX4_zone_66 rfl rfl ?_
      refine vi_iconst (v := (4 : Int32)) dX4_zone_67 (by decide) ?_
      refine vi_imul dX4_zone_68 ?_
      refine vi_iload_n 2 dX4_zone_69 rfl rfl ?_
      refine vi_iadd dX4_zone_70 ?_
      obtain ⟨g6, hf⟩ := vv_gd hf
      refine vi_iald (vv_oven_zones (vv_moment_oven (vv_bb_now h0))) g6 dX4_zone_71 ?_
      obtain rfl := Option.some.inj hf
      exact vi_ret (v := some (.int (u1.2 (((p0 + 1) + 1) + 1) ((x1 * (4 : Int32)) + x2).toNatClampNeg))) rfl ⟨dX4_zone_72, .int, rfl, rfl⟩ ⟨rfl, rfl, rfl⟩
    rw [if_neg c5] at hf
    by_cases c7 : x2 = (2 : Int32)
    · rw [if_pos c7] at hf
      refine vi_tableAt 56 c7 dX4_zone_14 (by decide) (by decide) rfl (by decide) ?_
      refine vi_aload_n 0 dX4_zone_56 rfl rfl ?_
      refine vi_getr (t := p0 + 1) 0 rfl (vv_bb_o h0) rfl wu_X4 (by decide) wf_X4_12 dX4_zone_57 ?_
      refine vi_getr (t := (p0 + 1) + 1) 0 rfl (vv_moment_o (vv_bb_now h0)) rfl wu_X1 (by decide) wf_X4_41 dX4_zone_60 ?_
      refine vi_getr (t := ((p0 + 1) + 1) + 1) 0 rfl (vv_oven_o (vv_moment_oven (vv_bb_now h0))) rfl wu_X2 (by decide) wf_X4_144 dX4_zone_63 ?_
      refine vi_iload_n 1 dX4_zone_66 rfl rfl ?_
      refine vi_iconst (v := (4 : Int32)) dX4_zone_67 (by decide) ?_
      refine vi_imul dX4_zone_68 ?_
      refine vi_iload_n 2 dX4_zone_69 rfl rfl ?_
      refine vi_iadd dX4_zone_70 ?_
      obtain ⟨g8, hf⟩ := vv_gd hf
      refine vi_iald (vv_oven_zones (vv_moment_oven (vv_bb_now h0))) g8 dX4_zone_71 ?_
      obtain rfl := Option.some.inj hf
      exact vi_ret (v := some (.int (u1.2 (((p0 + 1) + 1) + 1) ((x1 * (4 : Int32)) + x2).toNatClampNeg))) rfl ⟨dX4_zone_72, .int, rfl, rfl⟩ ⟨rfl, rfl, rfl⟩
    rw [if_neg c7] at hf
    by_cases c9 : x2 = (3 : Int32)
    · rw [if_pos c9] at hf
      refine vi_tableAt 56 c9 dX4_zone_14 (by decide) (by decide) rfl (by decide) ?_
      refine vi_aload_n 0 dX4_zone_56 rfl rfl ?_
      refine vi_getr (t := p0 + 1) 0 rfl (vv_bb_o h0) rfl wu_X4 (by decide) wf_X4_12 dX4_zone_57 ?_
      refine vi_getr (t := (p0 + 1) + 1) 0 rfl (vv_moment_o (vv_bb_now h0)) rfl wu_X1 (by decide) wf_X4_41 dX4_zone_60 ?_
      refine vi_getr (t := ((p0 + 1) + 1) + 1) 0 rfl (vv_oven_o (vv_moment_oven (vv_bb_now h0))) rfl wu_X2 (by decide) wf_X4_144 dX4_zone_63 ?_
      refine vi_iload_n 1 dX4_zone_66 rfl rfl ?_
      refine vi_iconst (v := (4 : Int32)) dX4_zone_67 (by decide) ?_
      refine vi_imul dX4_zone_68 ?_
      refine vi_iload_n 2 dX4_zone_69 rfl rfl ?_
      refine vi_iadd dX4_zone_70 ?_
      obtain ⟨g10, hf⟩ := vv_gd hf
      refine vi_iald (vv_oven_zones (vv_moment_oven (vv_bb_now h0))) g10 dX4_zone_71 ?_
      obtain rfl := Option.some.inj hf
      exact vi_ret (v := some (.int (u1.2 (((p0 + 1) + 1) + 1) ((x1 * (4 : Int32)) + x2).toNatClampNeg))) rfl ⟨dX4_zone_72, .int, rfl, rfl⟩ ⟨rfl, rfl, rfl⟩
    rw [if_neg c9] at hf
    by_cases c11 : x2 = (4 : Int32)
    · rw [if_pos c11] at hf
      refine vi_tableAt 73 c11 dX4_zone_14 (by decide) (by decide) rfl (by decide) ?_
      refine vi_aload_n 0 dX4_zone_73 rfl rfl ?_
      refine vi_getr (t := p0 + 1) 0 rfl (vv_bb_o h0) rfl wu_X4 (by decide) wf_X4_12 dX4_zone_74 ?_
      refine vi_getr (t := (p0 + 1) + 1) 0 rfl (vv_moment_o (vv_bb_now h0)) rfl wu_X1 (by decide) wf_X4_41 dX4_zone_77 ?_
      refine vi_iload_n 1 dX4_zone_80 rfl rfl ?_
      obtain ⟨u12, hu12, hf⟩ := vv_bd hf
      refine vi_callV (As := [.int x1]) (st := []) (t_X2_firstCellOf n ((p0 + 1) + 1) x1 u1.2 u12 (vv_moment_oven (vv_bb_now h0)) hu12) rfl yo_X2_firstCellOf wm_X4_147 wi_X2_firstCellOf ws_X2_firstCellOf wI_X2 wc_X2_firstCellOf (vv_oven_o (vv_moment_oven (vv_bb_now h0))) rfl ⟨Nat.le_of_ble_eq_true rfl, Nat.le_of_ble_eq_true rfl⟩ (vv_rm0 rfl rfl) (Nat.le_of_ble_eq_true rfl) rfl rfl dX4_zone_81 ?_
      obtain rfl := Option.some.inj hf
      exact vi_ret (v := some (.int u12.1)) rfl ⟨dX4_zone_84, .int, rfl, rfl⟩ ⟨rfl, rfl, rfl⟩
    rw [if_neg c11] at hf
    by_cases c13 : x2 = (5 : Int32)
    · rw [if_pos c13] at hf
      refine vi_tableAt 85 c13 dX4_zone_14 (by decide) (by decide) rfl (by decide) ?_
      refine vi_aload_n 0 dX4_zone_85 rfl rfl ?_
      refine vi_getr (t := p0 + 1) 0 rfl (vv_bb_o h0) rfl wu_X4 (by decide) wf_X4_12 dX4_zone_86 ?_
      refine vi_getr (t := (p0 + 1) + 1) 0 rfl (vv_moment_o (vv_bb_now h0)) rfl wu_X1 (by decide) wf_X4_41 dX4_zone_89 ?_
      refine vi_iload_n 1 dX4_zone_92 rfl rfl ?_
      obtain ⟨u14, hu14, hf⟩ := vv_bd hf
      refine vi_callV (As := [.int x1]) (st := []) (t_X2_boardsIn n ((p0 + 1) + 1) x1 u1.2 u14 (vv_moment_oven (vv_bb_now h0)) hu14) rfl yo_X2_boardsIn wm_X4_150 wi_X2_boardsIn ws_X2_boardsIn wI_X2 wc_X2_boardsIn (vv_oven_o (vv_moment_oven (vv_bb_now h0))) rfl ⟨Nat.le_of_ble_eq_true rfl, Nat.le_of_ble_eq_true rfl⟩ (vv_rm0 rfl rfl) (Nat.le_of_ble_eq_true rfl) rfl rfl dX4_zone_93 ?_
      obtain rfl := Option.some.inj hf
      exact vi_ret (v := some (.int u14.1)) rfl ⟨dX4_zone_96, .int, rfl, rfl⟩ ⟨rfl, rfl, rfl⟩
    rw [if_neg c13] at hf
    by_cases c15 : x2 = (6 : Int32)
    · rw [if_pos c15] at hf
      refine vi_tableAt 97 c15 dX4_zone_14 (by decide) (by decide) rfl (by decide) ?_
      refine vi_aload_n 0 dX4_zone_97 rfl rfl ?_
      refine vi_getr (t := p0 + 1) 0 rfl (vv_bb_o h0) rfl wu_X4 (by decide) wf_X4_12 dX4_zone_98 ?_
      refine vi_getr (t := (p0 + 1) + 1) 0 rfl (vv_moment_o (vv_bb_now h0)) rfl wu_X1 (by decide) wf_X4_41 dX4_zone_101 ?_
      refine vi_iload_n 1 dX4_zone_104 rfl rfl ?_
      obtain ⟨u16, hu16, hf⟩ := vv_bd hf
      refine vi_callV (As := [.int x1]) (st := []) (t_X2_weightIn n ((p0 + 1) + 1) x1 u1.2 u16 (vv_moment_oven (vv_bb_now h0)) hu16) rfl yo_X2_weightIn wm_X4_153 wi_X2_weightIn ws_X2_weightIn wI_X2 wc_X2_weightIn (vv_oven_o (vv_moment_oven (vv_bb_now h0))) rfl ⟨Nat.le_of_ble_eq_true rfl, Nat.le_of_ble_eq_true rfl⟩ (vv_rm0 rfl rfl) (Nat.le_of_ble_eq_true rfl) rfl rfl dX4_zone_105 ?_
      obtain rfl := Option.some.inj hf
      exact vi_ret (v := some (.int u16.1)) rfl ⟨dX4_zone_108, .int, rfl, rfl⟩ ⟨rfl, rfl, rfl⟩
    rw [if_neg c15] at hf
    refine vi_tableOut 109 dX4_zone_14 (by have nc3 := vv_nk c3 (show (0 : Int32).toInt = 0 from rfl); have nc5 := vv_nk c5 (show (1 : Int32).toInt = 1 from rfl); have nc7 := vv_nk c7 (show (2 : Int32).toInt = 2 from rfl); have nc9 := vv_nk c9 (show (3 : Int32).toInt = 3 from rfl); have nc11 := vv_nk c11 (show (4 : Int32).toInt = 4 from rfl); have nc13 := vv_nk c13 (show (5 : Int32).toInt = 5 from rfl); have nc15 := vv_nk c15 (show (6 : Int32).toInt = 6 from rfl); omega) (by decide) ?_
    refine vi_sipush (v := (-1001 : Int32)) dX4_zone_109 (by decide) ?_
    obtain rfl := Option.some.inj hf
    exact vi_ret (v := some (.int (-1001 : Int32))) rfl ⟨dX4_zone_112, .int, rfl, rfl⟩ ⟨rfl, rfl, rfl⟩
  · rw [if_pos c2] at hf
    refine vi_sipush (v := (-1001 : Int32)) dX4_zone_9 (by decide) ?_
    obtain rfl := Option.some.inj hf
    exact vi_ret (v := some (.int (-1001 : Int32))) rfl ⟨dX4_zone_12, .int, rfl, rfl⟩ ⟨rfl, rfl, rfl⟩
set_option maxRecDepth 20000 in
theorem t_X4_curve {S : List vv_Sh} (n : Nat) (p0 : Nat) (x1 : Int32) (x2 : Int32) (M : vv_M) (u : Int32 × vv_M) (h0 : vv_bb S p0) (hf : f_X4_curve n p0 x1 x2 M = some u) : vv_C yX4_curve (vv_w yX4_curve cX4_curve 3 (some .int)) (vv_R 1 0 0) [.ref p0, .int x1, .int x2] S M (some (.int u.1)) S u.2 := by
  refine vv_ofV (by decide +kernel) (Nat.le_of_ble_eq_true rfl) (L := [(0, .ref p0), (1, .int x1), (2, .int x2)]) rfl rfl rfl ?_
  show vv_V [] yX4_curve.cls yX4_curve.name cX4_curve 3 (some .int) (vv_R 1 0 0) S.length (vv_sz S) (vv_fi S u) 0 [(0, .ref p0), (1, .int x1), (2, .int x2)] [] S M
  unfold f_X4_curve at hf
  refine vi_iload_n 1 dX4_curve_0 rfl rfl ?_
  refine vi_iconst (v := (0 : Int32)) dX4_curve_1 (by decide) ?_
  refine vi_iconst (v := (3 : Int32)) dX4_curve_2 (by decide) ?_
  obtain ⟨u1, hu1, hf⟩ := vv_bd hf
  refine vi_callS (As := [.int x1, .int (0 : Int32), .int (3 : Int32)]) (st := []) (t_X4_isWithin n x1 (0 : Int32) (3 : Int32) M u1  hu1) rfl yo_X4_isWithin wm_X4_140 wi_X4_isWithin wI_X4 wc_X4_isWithin ⟨Nat.le_of_ble_eq_true rfl, Nat.le_of_ble_eq_true rfl⟩ (vv_rm0 rfl rfl) (Nat.le_of_ble_eq_true rfl) rfl rfl dX4_curve_3 ?_
  refine vi_if_eq 18 dX4_curve_6 (by decide) (fun c2 => ?_) (fun c2 => ?_)
  · rw [if_pos c2] at hf
    refine vi_sipush (v := (-1001 : Int32)) dX4_curve_18 (by decide) ?_
    obtain rfl := Option.some.inj hf
    exact vi_ret (v := some (.int (-1001 : Int32))) rfl ⟨dX4_curve_21, .int, rfl, rfl⟩ ⟨rfl, rfl, rfl⟩
  · rw [if_neg c2] at hf
    refine vi_iload_n 2 dX4_curve_9 rfl rfl ?_
    refine vi_iconst (v := (0 : Int32)) dX4_curve_10 (by decide) ?_
    refine vi_iconst (v := (5 : Int32)) dX4_curve_11 (by decide) ?_
    obtain ⟨u3, hu3, hf⟩ := vv_bd hf
    refine vi_callS (As := [.int x2, .int (0 : Int32), .int (5 : Int32)]) (st := []) (t_X4_isWithin n x2 (0 : Int32) (5 : Int32) u1.2 u3  hu3) rfl yo_X4_isWithin wm_X4_140 wi_X4_isWithin wI_X4 wc_X4_isWithin ⟨Nat.le_of_ble_eq_true rfl, Nat.le_of_ble_eq_true rfl⟩ (vv_rm0 rfl rfl) (Nat.le_of_ble_eq_true rfl) rfl rfl dX4_curve_12 ?_
    refine vi_if_ne 22 dX4_curve_15 (by decide) (fun c4 => ?_) (fun c4 => ?_)
    · rw [if_neg c4] at hf
      refine vi_aload_n 0 dX4_curve_22 rfl rfl ?_
      refine vi_getr (t := p0 + 1) 0 rfl (vv_bb_o h0) rfl wu_X4 (by decide) wf_X4_12 dX4_curve_23 ?_
      refine vi_getr (t := (p0 + 1) + 1) 0 rfl (vv_moment_o (vv_bb_now h0)) rfl wu_X1 (by decide) wf_X4_41 dX4_curve_26 ?_
      refine vi_getr (t := ((p0 + 1) + 1) + 2) 1 rfl (vv_oven_o (vv_moment_oven (vv_bb_now h0))) rfl wu_X2 (by decide) wf_X4_156 dX4_curve_29 ?_
      refine vi_iload_n 1 dX4_curve_32 rfl rfl ?_
      refine vi_bipush (v := (6 : Int32)) dX4_curve_33 (by decide) ?_
      refine vi_imul dX4_curve_35 ?_
      refine vi_iload_n 2 dX4_curve_36 rfl rfl ?_
      refine vi_iadd dX4_curve_37 ?_
      obtain ⟨g5, hf⟩ := vv_gd hf
      refine vi_iald (vv_oven_curves (vv_moment_oven (vv_bb_now h0))) g5 dX4_curve_38 ?_
      obtain rfl := Option.some.inj hf
      exact vi_ret (v := some (.int (u3.2 (((p0 + 1) + 1) + 2) ((x1 * (6 : Int32)) + x2).toNatClampNeg))) rfl ⟨dX4_curve_39, .int, rfl, rfl⟩ ⟨rfl, rfl, rfl⟩
    · rw [if_pos c4] at hf
      refine vi_sipush (v := (-1001 : Int32)) dX4_curve_18 (by decide) ?_
      obtain rfl := Option.some.inj hf
      exact vi_ret (v := some (.int (-1001 : Int32))) rfl ⟨dX4_curve_21, .int, rfl, rfl⟩ ⟨rfl, rfl, rfl⟩
set_option maxRecDepth 20000 in
theorem t_X4_board {S : List vv_Sh} (n : Nat) (p0 : Nat) (x1 : Int32) (x2 : Int32) (M : vv_M) (u : Int32 × vv_M) (h0 : vv_bb S p0) (hf : f_X4_board n p0 x1 x2 M = some u) : vv_C yX4_board (vv_w yX4_board cX4_board 3 (some .int)) (vv_R 2 0 0) [.ref p0, .int x1, .int x2] S M (some (.int u.1)) S u.2 := by
  refine vv_ofV (by decide +kernel) (Nat.le_of_ble_eq_true rfl) (L := [(0, .ref p0), (1, .int x1), (2, .int x2)]) rfl rfl rfl ?_
  show vv_V [] yX4_board.cls yX4_board.name cX4_board 3 (some .int) (vv_R 2 0 0) S.length (vv_sz S) (vv_fi S u) 0 [(0, .ref p0), (1, .int x1), (2, .int x2)] [] S M
  unfold f_X4_board at hf
  refine vi_aload_n 0 dX4_board_0 rfl rfl ?_
  refine vi_getr (t := p0 + 1) 0 rfl (vv_bb_o h0) rfl wu_X4 (by decide) wf_X4_12 dX4_board_1 ?_
  refine vi_getr (t := (p0 + 1) + 1) 0 rfl (vv_moment_o (vv_bb_now h0)) rfl wu_X1 (by decide) wf_X4_41 dX4_board_4 ?_
  refine vi_iload_n 1 dX4_board_7 rfl rfl ?_
  obtain ⟨u1, hu1, hf⟩ := vv_bd hf
  refine vi_callV (As := [.int x1]) (st := []) (t_X2_hasBoard n ((p0 + 1) + 1) x1 M u1 (vv_moment_oven (vv_bb_now h0)) hu1) rfl yo_X2_hasBoard wm_X4_159 wi_X2_hasBoard ws_X2_hasBoard wI_X2 wc_X2_hasBoard (vv_oven_o (vv_moment_oven (vv_bb_now h0))) rfl ⟨Nat.le_of_ble_eq_true rfl, Nat.le_of_ble_eq_true rfl⟩ (vv_rm0 rfl rfl) (Nat.le_of_ble_eq_true rfl) rfl rfl dX4_board_8 ?_
  refine vi_if_eq 24 dX4_board_11 (by decide) (fun c2 => ?_) (fun c2 => ?_)
  · rw [if_pos c2] at hf
    refine vi_sipush (v := (-1001 : Int32)) dX4_board_24 (by decide) ?_
    obtain rfl := Option.some.inj hf
    exact vi_ret (v := some (.int (-1001 : Int32))) rfl ⟨dX4_board_27, .int, rfl, rfl⟩ ⟨rfl, rfl, rfl⟩
  · rw [if_neg c2] at hf
    refine vi_iload_n 2 dX4_board_14 rfl rfl ?_
    refine vi_iconst (v := (0 : Int32)) dX4_board_15 (by decide) ?_
    refine vi_bipush (v := (10 : Int32)) dX4_board_16 (by decide) ?_
    obtain ⟨u3, hu3, hf⟩ := vv_bd hf
    refine vi_callS (As := [.int x2, .int (0 : Int32), .int (10 : Int32)]) (st := []) (t_X4_isWithin n x2 (0 : Int32) (10 : Int32) u1.2 u3  hu3) rfl yo_X4_isWithin wm_X4_140 wi_X4_isWithin wI_X4 wc_X4_isWithin ⟨Nat.le_of_ble_eq_true rfl, Nat.le_of_ble_eq_true rfl⟩ (vv_rm0 rfl rfl) (Nat.le_of_ble_eq_true rfl) rfl rfl dX4_board_18 ?_
    refine vi_if_ne 28 dX4_board_21 (by decide) (fun c4 => ?_) (fun c4 => ?_)
    · rw [if_neg c4] at hf
      refine vi_aload_n 0 dX4_board_28 rfl rfl ?_
      refine vi_getr (t := p0 + 1) 0 rfl (vv_bb_o h0) rfl wu_X4 (by decide) wf_X4_12 dX4_board_29 ?_
      refine vi_getr (t := (p0 + 1) + 1) 0 rfl (vv_moment_o (vv_bb_now h0)) rfl wu_X1 (by decide) wf_X4_41 dX4_board_32 ?_
      refine vi_getr (t := ((p0 + 1) + 1) + 4) 3 rfl (vv_oven_o (vv_moment_oven (vv_bb_now h0))) rfl wu_X2 (by decide) wf_X4_163 dX4_board_35 ?_
      refine vi_iload_n 1 dX4_board_38 rfl rfl ?_
      refine vi_bipush (v := (22 : Int32)) dX4_board_39 (by decide) ?_
      refine vi_imul dX4_board_41 ?_
      refine vi_iload_n 2 dX4_board_42 rfl rfl ?_
      refine vi_iadd dX4_board_43 ?_
      obtain ⟨g5, hf⟩ := vv_gd hf
      refine vi_iald (vv_oven_boards (vv_moment_oven (vv_bb_now h0))) g5 dX4_board_44 ?_
      obtain rfl := Option.some.inj hf
      exact vi_ret (v := some (.int (u3.2 (((p0 + 1) + 1) + 4) ((x1 * (22 : Int32)) + x2).toNatClampNeg))) rfl ⟨dX4_board_45, .int, rfl, rfl⟩ ⟨rfl, rfl, rfl⟩
    · rw [if_pos c4] at hf
      refine vi_sipush (v := (-1001 : Int32)) dX4_board_24 (by decide) ?_
      obtain rfl := Option.some.inj hf
      exact vi_ret (v := some (.int (-1001 : Int32))) rfl ⟨dX4_board_27, .int, rfl, rfl⟩ ⟨rfl, rfl, rfl⟩
set_option maxRecDepth 20000 in
theorem t_X4_fault_47 {S : List vv_Sh} (n : Nat)  (u : Int32 × vv_M)  (p0 : Nat) (x1 : Int32) (x2 : Int32) (s0 : Int32) (M : vv_M) (h0 : vv_bb S p0) (hf : f_X4_fault_47 n  p0 x1 x2 s0 M = some u) : vv_V [] yX4_fault.cls yX4_fault.name cX4_fault 5 (some .int) (vv_R 2 0 0) S.length (vv_sz S) (vv_fi S u) 47 [(0, .ref p0), (1, .int x1), (2, .int x2)] [.int s0] S M := by
  unfold f_X4_fault_47 at hf
  refine vi_istore (L' := [(4, .int s0), (0, .ref p0), (1, .int x1), (2, .int x2)]) dX4_fault_47 (by decide) rfl ?_
  refine vi_aload_n 1 dX4_fault_49 rfl rfl ?_
  refine vi_getr (t := p0 + 1) 0 rfl (vv_bb_o h0) rfl wu_X4 (by decide) wf_X4_12 dX4_fault_50 ?_
  refine vi_getr (t := (p0 + 1) + 1) 0 rfl (vv_moment_o (vv_bb_now h0)) rfl wu_X1 (by decide) wf_X4_41 dX4_fault_53 ?_
  refine vi_getr (t := ((p0 + 1) + 1) + 4) 3 rfl (vv_oven_o (vv_moment_oven (vv_bb_now h0))) rfl wu_X2 (by decide) wf_X4_163 dX4_fault_56 ?_
  refine vi_iload_n 2 dX4_fault_59 rfl rfl ?_
  refine vi_bipush (v := (22 : Int32)) dX4_fault_60 (by decide) ?_
  refine vi_imul dX4_fault_62 ?_
  refine vi_iload 0 dX4_fault_63 rfl ?_
  refine vi_iadd dX4_fault_65 ?_
  refine vi_iload_n 3 dX4_fault_66 rfl rfl ?_
  refine vi_iadd dX4_fault_67 ?_
  obtain ⟨g8, hf⟩ := vv_gd hf
  refine vi_iald (vv_oven_boards (vv_moment_oven (vv_bb_now h0))) g8 dX4_fault_68 ?_
  obtain rfl := Option.some.inj hf
  exact vi_ret (v := some (.int (M (((p0 + 1) + 1) + 4) (((x1 * (22 : Int32)) + s0) + x2).toNatClampNeg))) rfl ⟨dX4_fault_69, .int, rfl, rfl⟩ ⟨rfl, rfl, rfl⟩
set_option maxRecDepth 20000 in
theorem t_X4_fault {S : List vv_Sh} (n : Nat) (p0 : Nat) (x1 : Int32) (x2 : Int32) (x3 : Int32) (M : vv_M) (u : Int32 × vv_M) (h0 : vv_bb S p0) (hf : f_X4_fault n p0 x1 x2 x3 M = some u) : vv_C yX4_fault (vv_w yX4_fault cX4_fault 5 (some .int)) (vv_R 2 0 0) [.ref p0, .int x1, .int x2, .int x3] S M (some (.int u.1)) S u.2 := by
  refine vv_ofV (by decide +kernel) (Nat.le_of_ble_eq_true rfl) (L := [(0, .ref p0), (1, .int x1), (2, .int x2), (3, .int x3)]) rfl rfl rfl ?_
  show vv_V [] yX4_fault.cls yX4_fault.name cX4_fault 5 (some .int) (vv_R 2 0 0) S.length (vv_sz S) (vv_fi S u) 0 [(0, .ref p0), (1, .int x1), (2, .int x2), (3, .int x3)] [] S M
  unfold f_X4_fault at hf
  refine vi_aload_n 0 dX4_fault_0 rfl rfl ?_
  refine vi_getr (t := p0 + 1) 0 rfl (vv_bb_o h0) rfl wu_X4 (by decide) wf_X4_12 dX4_fault_1 ?_
  refine vi_getr (t := (p0 + 1) + 1) 0 rfl (vv_moment_o (vv_bb_now h0)) rfl wu_X1 (by decide) wf_X4_41 dX4_fault_4 ?_
  refine vi_iload_n 1 dX4_fault_7 rfl rfl ?_
  obtain ⟨u1, hu1, hf⟩ := vv_bd hf
  refine vi_callV (As := [.int x1]) (st := []) (t_X2_hasBoard n ((p0 + 1) + 1) x1 M u1 (vv_moment_oven (vv_bb_now h0)) hu1) rfl yo_X2_hasBoard wm_X4_159 wi_X2_hasBoard ws_X2_hasBoard wI_X2 wc_X2_hasBoard (vv_oven_o (vv_moment_oven (vv_bb_now h0))) rfl ⟨Nat.le_of_ble_eq_true rfl, Nat.le_of_ble_eq_true rfl⟩ (vv_rm0 rfl rfl) (Nat.le_of_ble_eq_true rfl) rfl rfl dX4_fault_8 ?_
  refine vi_if_eq 32 dX4_fault_11 (by decide) (fun c2 => ?_) (fun c2 => ?_)
  · rw [if_pos c2] at hf
    refine vi_sipush (v := (-1001 : Int32)) dX4_fault_32 (by decide) ?_
    obtain rfl := Option.some.inj hf
    exact vi_ret (v := some (.int (-1001 : Int32))) rfl ⟨dX4_fault_35, .int, rfl, rfl⟩ ⟨rfl, rfl, rfl⟩
  · rw [if_neg c2] at hf
    refine vi_iload_n 2 dX4_fault_14 rfl rfl ?_
    refine vi_iconst (v := (0 : Int32)) dX4_fault_15 (by decide) ?_
    refine vi_iconst (v := (4 : Int32)) dX4_fault_16 (by decide) ?_
    obtain ⟨u3, hu3, hf⟩ := vv_bd hf
    refine vi_callS (As := [.int x2, .int (0 : Int32), .int (4 : Int32)]) (st := []) (t_X4_isWithin n x2 (0 : Int32) (4 : Int32) u1.2 u3  hu3) rfl yo_X4_isWithin wm_X4_140 wi_X4_isWithin wI_X4 wc_X4_isWithin ⟨Nat.le_of_ble_eq_true rfl, Nat.le_of_ble_eq_true rfl⟩ (vv_rm0 rfl rfl) (Nat.le_of_ble_eq_true rfl) rfl rfl dX4_fault_17 ?_
    refine vi_if_eq 32 dX4_fault_20 (by decide) (fun c4 => ?_) (fun c4 => ?_)
    · rw [if_pos c4] at hf
      refine vi_sipush (v := (-1001 : Int32)) dX4_fault_32 (by decide) ?_
      obtain rfl := Option.some.inj hf
      exact vi_ret (v := some (.int (-1001 : Int32))) rfl ⟨dX4_fault_35, .int, rfl, rfl⟩ ⟨rfl, rfl, rfl⟩
    · rw [if_neg c4] at hf
      refine vi_iload_n 3 dX4_fault_23 rfl rfl ?_
      refine vi_iconst (v := (0 : Int32)) dX4_fault_24 (by decide) ?_
      refine vi_iconst (v := (1 : Int32)) dX4_fault_25 (by decide) ?_
      obtain ⟨u5, hu5, hf⟩ := vv_bd hf
      refine vi_callS (As := [.int x3, .int (0 : Int32), .int (1 : Int32)]) (st := []) (t_X4_isWithin n x3 (0 : Int32) (1 : Int32) u3.2 u5  hu5) rfl yo_X4_isWithin wm_X4_140 wi_X4_isWithin wI_X4 wc_X4_isWithin ⟨Nat.le_of_ble_eq_true rfl, Nat.le_of_ble_eq_true rfl⟩ (vv_rm0 rfl rfl) (Nat.le_of_ble_eq_true rfl) rfl rfl dX4_fault_26 ?_
      refine vi_if_ne 36 dX4_fault_29 (by decide) (fun c6 => ?_) (fun c6 => ?_)
      · rw [if_neg c6] at hf
        refine vi_iload_n 3 dX4_fault_36 rfl rfl ?_
        refine vi_if_ne 45 dX4_fault_37 (by decide) (fun c7 => ?_) (fun c7 => ?_)
        · rw [if_neg c7] at hf
          refine vi_bipush (v := (17 : Int32)) dX4_fault_45 (by decide) ?_
          refine vi_sub (L' := [(0, .ref p0), (1, .int x1), (2, .int x2)]) [0, 1, 2] rfl ?_
          exact t_X4_fault_47 n  u  p0 x1 x2 (17 : Int32) u5.2 h0 hf
        · rw [if_pos c7] at hf
          refine vi_bipush (v := (12 : Int32)) dX4_fault_40 (by decide) ?_
          refine vi_goto 47 dX4_fault_42 (by decide) ?_
          refine vi_sub (L' := [(0, .ref p0), (1, .int x1), (2, .int x2)]) [0, 1, 2] rfl ?_
          exact t_X4_fault_47 n  u  p0 x1 x2 (12 : Int32) u5.2 h0 hf
      · rw [if_pos c6] at hf
        refine vi_sipush (v := (-1001 : Int32)) dX4_fault_32 (by decide) ?_
        obtain rfl := Option.some.inj hf
        exact vi_ret (v := some (.int (-1001 : Int32))) rfl ⟨dX4_fault_35, .int, rfl, rfl⟩ ⟨rfl, rfl, rfl⟩
set_option maxRecDepth 20000 in
theorem t_X4_worstCell_68 {S : List vv_Sh} (n : Nat) (k32 : Nat → Int32 → Int32 → Int32 → Int32 → Int32 → vv_M → Option (Int32 × vv_M)) (u : Int32 × vv_M) (hk32 : ∀ (p0 : Nat) (x1 : Int32) (x2 : Int32) (x3 : Int32) (x4 : Int32) (x5 : Int32) (M : vv_M) (h0 : vv_bb S p0) (hf : k32 p0 x1 x2 x3 x4 x5 M = some u), vv_V [] yX4_worstCell.cls yX4_worstCell.name cX4_worstCell 7 (some .int) (vv_R 1 0 0) S.length (vv_sz S) (vv_fi S u) 32 [(0, .ref p0), (1, .int x1), (2, .int x2), (3, .int x3), (4, .int x4), (5, .int x5)] [] S M) (p0 : Nat) (x1 : Int32) (x2 : Int32) (x3 : Int32) (x4 : Int32) (x5 : Int32) (M : vv_M) (h0 : vv_bb S p0) (hf : f_X4_worstCell_68 n k32 p0 x1 x2 x3 x4 x5 M = some u) : vv_V [] yX4_worstCell.cls yX4_worstCell.name cX4_worstCell 7 (some .int) (vv_R 1 0 0) S.length (vv_sz S) (vv_fi S u) 68 [(0, .ref p0), (1, .int x1), (2, .int x2), (3, .int x3), (4, .int x4), (5, .int x5)] [] S M := by
  unfold f_X4_worstCell_68 at hf
  obtain ⟨y10, ey10, hf⟩ := vv_lt hf
  refine vi_iinc (v := y10) (L' := [(5, .int y10), (0, .ref p0), (1, .int x1), (2, .int x2), (3, .int x3), (4, .int x4)]) 5 dX4_worstCell_68 rfl (by rw [ey10]; rfl) (by decide) rfl ?_
  refine vi_goto 32 dX4_worstCell_71 (by decide) ?_
  refine vi_sub (L' := [(0, .ref p0), (1, .int x1), (2, .int x2), (3, .int x3), (4, .int x4), (5, .int y10)]) [1, 2, 3, 4, 5, 0] rfl ?_
  exact hk32 p0 x1 x2 x3 x4 y10 M h0 hf
set_option maxRecDepth 20000 in
theorem t_X4_worstCell_32 {S : List vv_Sh} (n : Nat)  (u : Int32 × vv_M)  : ∀ (k : Nat) (p0 : Nat) (x1 : Int32) (x2 : Int32) (x3 : Int32) (x4 : Int32) (x5 : Int32) (M : vv_M) (h0 : vv_bb S p0) (hf : f_X4_worstCell_32 n  k p0 x1 x2 x3 x4 x5 M = some u), vv_V [] yX4_worstCell.cls yX4_worstCell.name cX4_worstCell 7 (some .int) (vv_R 1 0 0) S.length (vv_sz S) (vv_fi S u) 32 [(0, .ref p0), (1, .int x1), (2, .int x2), (3, .int x3), (4, .int x4), (5, .int x5)] [] S M := by
  intro k
  induction k with
  | zero =>
    intro p0 x1 x2 x3 x4 x5 M h0 hf
    exact absurd (show (none : Option (Int32 × vv_M)) = some u from hf) (by simp)
  | succ k ih =>
    intro p0 x1 x2 x3 x4 x5 M h0 hf
    rw [f_X4_worstCell_32.eq_2] at hf
    refine vi_iload 5 dX4_worstCell_32 rfl ?_
    refine vi_bipush (v := (48 : Int32)) dX4_worstCell_34 (by decide) ?_
    refine vi_icmp_gt 74 dX4_worstCell_36 (by decide) (fun c5 => ?_) (fun c5 => ?_)
    · rw [if_pos c5] at hf
      refine vi_iload_n 2 dX4_worstCell_74 rfl rfl ?_
      refine vi_if_ne 82 dX4_worstCell_75 (by decide) (fun c6 => ?_) (fun c6 => ?_)
      · rw [if_neg c6] at hf
        refine vi_iload 4 dX4_worstCell_82 rfl ?_
        obtain rfl := Option.some.inj hf
        exact vi_ret (v := some (.int x4)) rfl ⟨dX4_worstCell_84, .int, rfl, rfl⟩ ⟨rfl, rfl, rfl⟩
      · rw [if_pos c6] at hf
        refine vi_iload_n 3 dX4_worstCell_78 rfl rfl ?_
        refine vi_goto 84 dX4_worstCell_79 (by decide) ?_
        obtain rfl := Option.some.inj hf
        exact vi_ret (v := some (.int x3)) rfl ⟨dX4_worstCell_84, .int, rfl, rfl⟩ ⟨rfl, rfl, rfl⟩
    · rw [if_neg c5] at hf
      refine vi_aload_n 0 dX4_worstCell_39 rfl rfl ?_
      refine vi_getr (t := p0 + 1) 0 rfl (vv_bb_o h0) rfl wu_X4 (by decide) wf_X4_12 dX4_worstCell_40 ?_
      refine vi_getr (t := (p0 + 1) + 1) 0 rfl (vv_moment_o (vv_bb_now h0)) rfl wu_X1 (by decide) wf_X4_41 dX4_worstCell_43 ?_
      refine vi_iload_n 1 dX4_worstCell_46 rfl rfl ?_
      refine vi_iload 5 dX4_worstCell_47 rfl ?_
      obtain ⟨u7, hu7, hf⟩ := vv_bd hf
      refine vi_callV (As := [.int x1, .int x5]) (st := []) (t_X2_boardsWithFault n ((p0 + 1) + 1) x1 x5 M u7 (vv_moment_oven (vv_bb_now h0)) hu7) rfl yo_X2_boardsWithFault wm_X4_166 wi_X2_boardsWithFault ws_X2_boardsWithFault wI_X2 wc_X2_boardsWithFault (vv_oven_o (vv_moment_oven (vv_bb_now h0))) rfl ⟨Nat.le_of_ble_eq_true rfl, Nat.le_of_ble_eq_true rfl⟩ (vv_rm0 rfl rfl) (Nat.le_of_ble_eq_true rfl) rfl rfl dX4_worstCell_49 ?_
      obtain ⟨y8, ey8, hf⟩ := vv_lt hf
      refine vi_istore (L' := [(6, .int y8), (0, .ref p0), (1, .int x1), (2, .int x2), (3, .int x3), (4, .int x4), (5, .int x5)]) dX4_worstCell_52 (by decide) (by rw [ey8]; rfl) ?_
      refine vi_iload 0 dX4_worstCell_54 rfl ?_
      refine vi_iload 5 dX4_worstCell_56 rfl ?_
      refine vi_icmp_le 68 dX4_worstCell_58 (by decide) (fun c9 => ?_) (fun c9 => ?_)
      · rw [if_pos c9] at hf
        refine vi_sub (L' := [(0, .ref p0), (1, .int x1), (2, .int x2), (3, .int x3), (4, .int x4), (5, .int x5)]) [1, 2, 3, 4, 5, 6] rfl ?_
        exact t_X4_worstCell_68 n (f_X4_worstCell_32 n k) u ih p0 x1 x2 x3 x4 x5 u7.2 h0 hf
      · rw [if_neg c9] at hf
        refine vi_iload 6 dX4_worstCell_61 rfl ?_
        refine vi_istore_n (L' := [(3, .int x5), (6, .int y8), (0, .ref p0), (1, .int x1), (2, .int x2), (4, .int x4), (5, .int x5)]) dX4_worstCell_63 rfl (by decide) rfl ?_
        refine vi_iload 1 dX4_worstCell_64 rfl ?_
        refine vi_istore (L' := [(4, .int y8), (3, .int x5), (6, .int y8), (0, .ref p0), (1, .int x1), (2, .int x2), (5, .int x5)]) dX4_worstCell_66 (by decide) rfl ?_
        refine vi_sub (L' := [(0, .ref p0), (1, .int x1), (2, .int x2), (3, .int x5), (4, .int y8), (5, .int x5)]) [3, 4, 5, 1, 0, 6] rfl ?_
        exact t_X4_worstCell_68 n (f_X4_worstCell_32 n k) u ih p0 x1 x2 x5 y8 x5 u7.2 h0 hf
set_option maxRecDepth 20000 in
theorem t_X4_worstCell {S : List vv_Sh} (n : Nat) (p0 : Nat) (x1 : Int32) (x2 : Int32) (M : vv_M) (u : Int32 × vv_M) (h0 : vv_bb S p0) (hf : f_X4_worstCell n p0 x1 x2 M = some u) : vv_C yX4_worstCell (vv_w yX4_worstCell cX4_worstCell 7 (some .int)) (vv_R 1 0 0) [.ref p0, .int x1, .int x2] S M (some (.int u.1)) S u.2 := by
  refine vv_ofV (by decide +kernel) (Nat.le_of_ble_eq_true rfl) (L := [(0, .ref p0), (1, .int x1), (2, .int x2)]) rfl rfl rfl ?_
  show vv_V [] yX4_worstCell.cls yX4_worstCell.name cX4_worstCell 7 (some .int) (vv_R 1 0 0) S.length (vv_sz S) (vv_fi S u) 0 [(0, .ref p0), (1, .int x1), (2, .int x2)] [] S M
  unfold f_X4_worstCell at hf
  refine vi_iload_n 1 dX4_worstCell_0 rfl rfl ?_
  refine vi_iconst (v := (0 : Int32)) dX4_worstCell_1 (by decide) ?_
  refine vi_iconst (v := (4 : Int32)) dX4_worstCell_2 (by decide) ?_
  obtain ⟨u1, hu1, hf⟩ := vv_bd hf
  refine vi_callS (As := [.int x1, .int (0 : Int32), .int (4 : Int32)]) (st := []) (t_X4_isWithin n x1 (0 : Int32) (4 : Int32) M u1  hu1) rfl yo_X4_isWithin wm_X4_140 wi_X4_isWithin wI_X4 wc_X4_isWithin ⟨Nat.le_of_ble_eq_true rfl, Nat.le_of_ble_eq_true rfl⟩ (vv_rm0 rfl rfl) (Nat.le_of_ble_eq_true rfl) rfl rfl dX4_worstCell_3 ?_
  refine vi_if_eq 18 dX4_worstCell_6 (by decide) (fun c2 => ?_) (fun c2 => ?_)
  · rw [if_pos c2] at hf
    refine vi_sipush (v := (-1001 : Int32)) dX4_worstCell_18 (by decide) ?_
    obtain rfl := Option.some.inj hf
    exact vi_ret (v := some (.int (-1001 : Int32))) rfl ⟨dX4_worstCell_21, .int, rfl, rfl⟩ ⟨rfl, rfl, rfl⟩
  · rw [if_neg c2] at hf
    refine vi_iload_n 2 dX4_worstCell_9 rfl rfl ?_
    refine vi_iconst (v := (0 : Int32)) dX4_worstCell_10 (by decide) ?_
    refine vi_iconst (v := (1 : Int32)) dX4_worstCell_11 (by decide) ?_
    obtain ⟨u3, hu3, hf⟩ := vv_bd hf
    refine vi_callS (As := [.int x2, .int (0 : Int32), .int (1 : Int32)]) (st := []) (t_X4_isWithin n x2 (0 : Int32) (1 : Int32) u1.2 u3  hu3) rfl yo_X4_isWithin wm_X4_140 wi_X4_isWithin wI_X4 wc_X4_isWithin ⟨Nat.le_of_ble_eq_true rfl, Nat.le_of_ble_eq_true rfl⟩ (vv_rm0 rfl rfl) (Nat.le_of_ble_eq_true rfl) rfl rfl dX4_worstCell_12 ?_
    refine vi_if_ne 22 dX4_worstCell_15 (by decide) (fun c4 => ?_) (fun c4 => ?_)
    · rw [if_neg c4] at hf
      refine vi_sipush (v := (-1009 : Int32)) dX4_worstCell_22 (by decide) ?_
      refine vi_istore_n (L' := [(3, .int (-1009 : Int32)), (0, .ref p0), (1, .int x1), (2, .int x2)]) dX4_worstCell_25 rfl (by decide) rfl ?_
      refine vi_iconst (v := (0 : Int32)) dX4_worstCell_26 (by decide) ?_
      refine vi_istore (L' := [(4, .int (0 : Int32)), (3, .int (-1009 : Int32)), (0, .ref p0), (1, .int x1), (2, .int x2)]) dX4_worstCell_27 (by decide) rfl ?_
      refine vi_iconst (v := (0 : Int32)) dX4_worstCell_29 (by decide) ?_
      refine vi_istore (L' := [(5, .int (0 : Int32)), (4, .int (0 : Int32)), (3, .int (-1009 : Int32)), (0, .ref p0), (1, .int x1), (2, .int x2)]) dX4_worstCell_30 (by decide) rfl ?_
      refine vi_sub (L' := [(0, .ref p0), (1, .int x1), (2, .int x2), (3, .int (-1009 : Int32)), (4, .int (0 : Int32)), (5, .int (0 : Int32))]) [3, 4, 5, 2, 1, 0] rfl ?_
      exact t_X4_worstCell_32 n  u  n p0 x1 x2 (-1009 : Int32) (0 : Int32) (0 : Int32) u3.2 h0 hf
    · rw [if_pos c4] at hf
      refine vi_sipush (v := (-1001 : Int32)) dX4_worstCell_18 (by decide) ?_
      obtain rfl := Option.some.inj hf
      exact vi_ret (v := some (.int (-1001 : Int32))) rfl ⟨dX4_worstCell_21, .int, rfl, rfl⟩ ⟨rfl, rfl, rfl⟩
set_option maxRecDepth 20000 in
theorem t_J13_bitCount_95d88_48 {S : List vv_Sh} (n : Nat)  (u : Int32 × vv_M)  (l0 : Int64) (M : vv_M)  (hf : f_J13_bitCount_95d88_48 n  l0 M = some u) : vv_V [] yJ13_bitCount_95d88.cls yJ13_bitCount_95d88.name cJ13_bitCount_95d88 2 (some .int) (vv_R 0 0 0) S.length (vv_sz S) (vv_fi S u) 48 [(0, .long l0)] [] S M := by
  unfold f_J13_bitCount_95d88_48 at hf
  refine vi_lload_n 0 dJ13_bitCount_95d88_48 rfl rfl ?_
  refine vi_lload_n 0 dJ13_bitCount_95d88_49 rfl rfl ?_
  refine vi_bipush (v := (32 : Int32)) dJ13_bitCount_95d88_50 (by decide) ?_
  refine vi_lushr dJ13_bitCount_95d88_52 ?_
  refine vi_ladd dJ13_bitCount_95d88_53 ?_
  obtain ⟨y6, ey6, hf⟩ := vv_lt hf
  refine vi_lstore_n (L' := [(0, .long y6)]) dJ13_bitCount_95d88_54 rfl (by decide) (by rw [ey6]; rfl) ?_
  refine vi_lload_n 0 dJ13_bitCount_95d88_55 rfl rfl ?_
  refine vi_l2i dJ13_bitCount_95d88_56 ?_
  refine vi_bipush (v := (127 : Int32)) dJ13_bitCount_95d88_57 (by decide) ?_
  refine vi_iand dJ13_bitCount_95d88_59 ?_
  obtain rfl := Option.some.inj hf
  exact vi_ret (v := some (.int (y6.toInt32 &&& (127 : Int32)))) rfl ⟨dJ13_bitCount_95d88_60, .int, rfl, rfl⟩ ⟨rfl, rfl, rfl⟩
set_option maxRecDepth 20000 in
theorem t_J13_bitCount_95d88 {S : List vv_Sh} (n : Nat) (l0 : Int64) (M : vv_M) (u : Int32 × vv_M)  (hf : f_J13_bitCount_95d88 n l0 M = some u) : vv_C yJ13_bitCount_95d88 (vv_w yJ13_bitCount_95d88 cJ13_bitCount_95d88 2 (some .int)) (vv_R 0 0 0) [.long l0] S M (some (.int u.1)) S u.2 := by
  refine vv_ofV (by decide +kernel) (Nat.le_of_ble_eq_true rfl) (L := [(0, .long l0)]) rfl rfl rfl ?_
  show vv_V [] yJ13_bitCount_95d88.cls yJ13_bitCount_95d88.name cJ13_bitCount_95d88 2 (some .int) (vv_R 0 0 0) S.length (vv_sz S) (vv_fi S u) 0 [(0, .long l0)] [] S M
  unfold f_J13_bitCount_95d88 at hf
  refine vi_lload_n 0 dJ13_bitCount_95d88_0 rfl rfl ?_
  refine vi_lload_n 0 dJ13_bitCount_95d88_1 rfl rfl ?_
  refine vi_iconst (v := (1 : Int32)) dJ13_bitCount_95d88_2 (by decide) ?_
  refine vi_lushr dJ13_bitCount_95d88_3 ?_
  refine vi_ldc2 wk_J13_314 dJ13_bitCount_95d88_4 ?_
  refine vi_land dJ13_bitCount_95d88_7 ?_
  refine vi_lsub dJ13_bitCount_95d88_8 ?_
  obtain ⟨y1, ey1, hf⟩ := vv_lt hf
  refine vi_lstore_n (L' := [(0, .long y1)]) dJ13_bitCount_95d88_9 rfl (by decide) (by rw [ey1]; rfl) ?_
  refine vi_lload_n 0 dJ13_bitCount_95d88_10 rfl rfl ?_
  refine vi_ldc2 wk_J13_316 dJ13_bitCount_95d88_11 ?_
  refine vi_land dJ13_bitCount_95d88_14 ?_
  refine vi_lload_n 0 dJ13_bitCount_95d88_15 rfl rfl ?_
  refine vi_iconst (v := (2 : Int32)) dJ13_bitCount_95d88_16 (by decide) ?_
  refine vi_lushr dJ13_bitCount_95d88_17 ?_
  refine vi_ldc2 wk_J13_316 dJ13_bitCount_95d88_18 ?_
  refine vi_land dJ13_bitCount_95d88_21 ?_
  refine vi_ladd dJ13_bitCount_95d88_22 ?_
  obtain ⟨y2, ey2, hf⟩ := vv_lt hf
  refine vi_lstore_n (L' := [(0, .long y2)]) dJ13_bitCount_95d88_23 rfl (by decide) (by rw [ey2]; rfl) ?_
  refine vi_lload_n 0 dJ13_bitCount_95d88_24 rfl rfl ?_
  refine vi_lload_n 0 dJ13_bitCount_95d88_25 rfl rfl ?_
  refine vi_iconst (v := (4 : Int32)) dJ13_bitCount_95d88_26 (by decide) ?_
  refine vi_lushr dJ13_bitCount_95d88_27 ?_
  refine vi_ladd dJ13_bitCount_95d88_28 ?_
  refine vi_ldc2 wk_J13_318 dJ13_bitCount_95d88_29 ?_
  refine vi_land dJ13_bitCount_95d88_32 ?_
  obtain ⟨y3, ey3, hf⟩ := vv_lt hf
  refine vi_lstore_n (L' := [(0, .long y3)]) dJ13_bitCount_95d88_33 rfl (by decide) (by rw [ey3]; rfl) ?_
  refine vi_lload_n 0 dJ13_bitCount_95d88_34 rfl rfl ?_
  refine vi_lload_n 0 dJ13_bitCount_95d88_35 rfl rfl ?_
  refine vi_bipush (v := (8 : Int32)) dJ13_bitCount_95d88_36 (by decide) ?_
  refine vi_lushr dJ13_bitCount_95d88_38 ?_
  refine vi_ladd dJ13_bitCount_95d88_39 ?_
  obtain ⟨y4, ey4, hf⟩ := vv_lt hf
  refine vi_lstore_n (L' := [(0, .long y4)]) dJ13_bitCount_95d88_40 rfl (by decide) (by rw [ey4]; rfl) ?_
  refine vi_lload_n 0 dJ13_bitCount_95d88_41 rfl rfl ?_
  refine vi_lload_n 0 dJ13_bitCount_95d88_42 rfl rfl ?_
  refine vi_bipush (v := (16 : Int32)) dJ13_bitCount_95d88_43 (by decide) ?_
  refine vi_lushr dJ13_bitCount_95d88_45 ?_
  refine vi_ladd dJ13_bitCount_95d88_46 ?_
  obtain ⟨y5, ey5, hf⟩ := vv_lt hf
  refine vi_lstore_n (L' := [(0, .long y5)]) dJ13_bitCount_95d88_47 rfl (by decide) (by rw [ey5]; rfl) ?_
  exact t_J13_bitCount_95d88_48 n  u  y5 M  hf
set_option maxRecDepth 20000 in
theorem t_X4_faultCells {S : List vv_Sh} (n : Nat) (p0 : Nat) (M : vv_M) (u : Int32 × vv_M) (h0 : vv_bb S p0) (hf : f_X4_faultCells n p0 M = some u) : vv_C yX4_faultCells (vv_w yX4_faultCells cX4_faultCells 1 (some .int)) (vv_R 1 0 0) [.ref p0] S M (some (.int u.1)) S u.2 := by
  refine vv_ofV (by decide +kernel) (Nat.le_of_ble_eq_true rfl) (L := [(0, .ref p0)]) rfl rfl rfl ?_
  show vv_V [] yX4_faultCells.cls yX4_faultCells.name cX4_faultCells 1 (some .int) (vv_R 1 0 0) S.length (vv_sz S) (vv_fi S u) 0 [(0, .ref p0)] [] S M
  unfold f_X4_faultCells at hf
  refine vi_aload_n 0 dX4_faultCells_0 rfl rfl ?_
  refine vi_getr (t := p0 + 1) 0 rfl (vv_bb_o h0) rfl wu_X4 (by decide) wf_X4_12 dX4_faultCells_1 ?_
  refine vi_getr (t := (p0 + 1) + 1) 0 rfl (vv_moment_o (vv_bb_now h0)) rfl wu_X1 (by decide) wf_X4_41 dX4_faultCells_4 ?_
  obtain ⟨u1, hu1, hf⟩ := vv_bd hf
  refine vi_callV (As := []) (st := []) (t_X2_setOfFaultCells n ((p0 + 1) + 1) M u1 (vv_moment_oven (vv_bb_now h0)) hu1) rfl yo_X2_setOfFaultCells wm_X4_169 wi_X2_setOfFaultCells ws_X2_setOfFaultCells wI_X2 wc_X2_setOfFaultCells (vv_oven_o (vv_moment_oven (vv_bb_now h0))) rfl ⟨Nat.le_of_ble_eq_true rfl, Nat.le_of_ble_eq_true rfl⟩ (vv_rm0 rfl rfl) (Nat.le_of_ble_eq_true rfl) rfl rfl dX4_faultCells_7 ?_
  obtain ⟨u2, hu2, hf⟩ := vv_bd hf
  refine vi_callS (As := [.long u1.1]) (st := []) (t_J13_bitCount_95d88 n u1.1 u1.2 u2  hu2) rfl yo_J13_bitCount_95d88 wm_X4_173 wi_J13_bitCount_95d88 wI_J13 wc_J13_bitCount_95d88 ⟨Nat.le_of_ble_eq_true rfl, Nat.le_of_ble_eq_true rfl⟩ (vv_rm0 rfl rfl) (Nat.le_of_ble_eq_true rfl) rfl rfl dX4_faultCells_10 ?_
  obtain rfl := Option.some.inj hf
  exact vi_ret (v := some (.int u2.1)) rfl ⟨dX4_faultCells_13, .int, rfl, rfl⟩ ⟨rfl, rfl, rfl⟩
set_option maxRecDepth 20000 in
theorem t_X4_foretell_68 {S : List vv_Sh} (n : Nat)  (u : Int32 × vv_M)  (p0 : Nat) (x1 : Int32) (x2 : Int32) (x3 : Int32) (M : vv_M) (h0 : vv_bb S p0) (hf : f_X4_foretell_68 n  p0 x1 x2 x3 M = some u) : vv_V [] yX4_foretell.cls yX4_foretell.name cX4_foretell 5 (some .int) (vv_R 5 0 0) S.length (vv_sz S) (vv_fi S u) 68 [(0, .ref p0), (1, .int x1), (2, .int x2), (3, .int x3)] [] S M := by
  unfold f_X4_foretell_68 at hf
  refine vi_iload_n 1 dX4_foretell_68 rfl rfl ?_
  refine vi_bipush (v := (22 : Int32)) dX4_foretell_69 (by decide) ?_
  refine vi_imul dX4_foretell_71 ?_
  obtain ⟨y10, ey10, hf⟩ := vv_lt hf
  refine vi_istore (L' := [(4, .int y10), (0, .ref p0), (1, .int x1), (2, .int x2), (3, .int x3)]) dX4_foretell_72 (by decide) (by rw [ey10]; rfl) ?_
  refine vi_iload_n 3 dX4_foretell_74 rfl rfl ?_
  by_cases c11 : x2 = (0 : Int32)
  · rw [if_pos c11] at hf
    refine vi_tableAt 100 c11 dX4_foretell_75 (by decide) (by decide) rfl (by decide) ?_
    refine vi_aload_n 1 dX4_foretell_100 rfl rfl ?_
    refine vi_getr (t := p0 + 152) 3 rfl (vv_bb_o h0) rfl wu_X4 (by decide) wf_X4_33 dX4_foretell_101 ?_
    refine vi_getr (t := (p0 + 152) + 4) 3 rfl (vv_oven_o (vv_bb_trial h0)) rfl wu_X2 (by decide) wf_X4_163 dX4_foretell_104 ?_
    refine vi_iload 0 dX4_foretell_107 rfl ?_
    refine vi_bipush (v := (8 : Int32)) dX4_foretell_109 (by decide) ?_
    refine vi_iadd dX4_foretell_111 ?_
    obtain ⟨g12, hf⟩ := vv_gd hf
    refine vi_iald (vv_oven_boards (vv_bb_trial h0)) g12 dX4_foretell_112 ?_
    obtain rfl := Option.some.inj hf
    exact vi_ret (v := some (.int (M ((p0 + 152) + 4) (y10 + (8 : Int32)).toNatClampNeg))) rfl ⟨dX4_foretell_113, .int, rfl, rfl⟩ ⟨rfl, rfl, rfl⟩
  rw [if_neg c11] at hf
  by_cases c13 : x2 = (1 : Int32)
  · rw [if_pos c13] at hf
    refine vi_tableAt 114 c13 dX4_foretell_75 (by decide) (by decide) rfl (by decide) ?_
    refine vi_aload_n 1 dX4_foretell_114 rfl rfl ?_
    refine vi_getr (t := p0 + 152) 3 rfl (vv_bb_o h0) rfl wu_X4 (by decide) wf_X4_33 dX4_foretell_115 ?_
    refine vi_getr (t := (p0 + 152) + 4) 3 rfl (vv_oven_o (vv_bb_trial h0)) rfl wu_X2 (by decide) wf_X4_163 dX4_foretell_118 ?_
    refine vi_iload 0 dX4_foretell_121 rfl ?_
    refine vi_bipush (v := (6 : Int32)) dX4_foretell_123 (by decide) ?_
    refine vi_iadd dX4_foretell_125 ?_
    obtain ⟨g14, hf⟩ := vv_gd hf
    refine vi_iald (vv_oven_boards (vv_bb_trial h0)) g14 dX4_foretell_126 ?_
    obtain rfl := Option.some.inj hf
    exact vi_ret (v := some (.int (M ((p0 + 152) + 4) (y10 + (6 : Int32)).toNatClampNeg))) rfl ⟨dX4_foretell_127, .int, rfl, rfl⟩ ⟨rfl, rfl, rfl⟩
  rw [if_neg c13] at hf
  by_cases c15 : x2 = (2 : Int32)
  · rw [if_pos c15] at hf
    refine vi_tableAt 128 c15 dX4_foretell_75 (by decide) (by decide) rfl (by decide) ?_
    refine vi_iload_n 4 dX4_foretell_128 rfl rfl ?_
    obtain rfl := Option.some.inj hf
    exact vi_ret (v := some (.int x3)) rfl ⟨dX4_foretell_129, .int, rfl, rfl⟩ ⟨rfl, rfl, rfl⟩
  rw [if_neg c15] at hf
  refine vi_tableOut 130 dX4_foretell_75 (by have nc11 := vv_nk c11 (show (0 : Int32).toInt = 0 from rfl); have nc13 := vv_nk c13 (show (1 : Int32).toInt = 1 from rfl); have nc15 := vv_nk c15 (show (2 : Int32).toInt = 2 from rfl); omega) (by decide) ?_
  refine vi_aload_n 1 dX4_foretell_130 rfl rfl ?_
  refine vi_getr (t := p0 + 152) 3 rfl (vv_bb_o h0) rfl wu_X4 (by decide) wf_X4_33 dX4_foretell_131 ?_
  refine vi_getr (t := (p0 + 152) + 4) 3 rfl (vv_oven_o (vv_bb_trial h0)) rfl wu_X2 (by decide) wf_X4_163 dX4_foretell_134 ?_
  refine vi_iload 0 dX4_foretell_137 rfl ?_
  refine vi_iconst (v := (4 : Int32)) dX4_foretell_139 (by decide) ?_
  refine vi_iadd dX4_foretell_140 ?_
  obtain ⟨g16, hf⟩ := vv_gd hf
  refine vi_iald (vv_oven_boards (vv_bb_trial h0)) g16 dX4_foretell_141 ?_
  obtain rfl := Option.some.inj hf
  exact vi_ret (v := some (.int (M ((p0 + 152) + 4) (y10 + (4 : Int32)).toNatClampNeg))) rfl ⟨dX4_foretell_142, .int, rfl, rfl⟩ ⟨rfl, rfl, rfl⟩
set_option maxRecDepth 20000 in
theorem t_X4_foretell {S : List vv_Sh} (n : Nat) (p0 : Nat) (x1 : Int32) (x2 : Int32) (M : vv_M) (u : Int32 × vv_M) (h0 : vv_bb S p0) (hf : f_X4_foretell n p0 x1 x2 M = some u) : vv_C yX4_foretell (vv_w yX4_foretell cX4_foretell 5 (some .int)) (vv_R 5 0 0) [.ref p0, .int x1, .int x2] S M (some (.int u.1)) S u.2 := by
  refine vv_ofV (by decide +kernel) (Nat.le_of_ble_eq_true rfl) (L := [(0, .ref p0), (1, .int x1), (2, .int x2)]) rfl rfl rfl ?_
  show vv_V [] yX4_foretell.cls yX4_foretell.name cX4_foretell 5 (some .int) (vv_R 5 0 0) S.length (vv_sz S) (vv_fi S u) 0 [(0, .ref p0), (1, .int x1), (2, .int x2)] [] S M
  unfold f_X4_foretell at hf
  refine vi_aload_n 0 dX4_foretell_0 rfl rfl ?_
  refine vi_getr (t := p0 + 1) 0 rfl (vv_bb_o h0) rfl wu_X4 (by decide) wf_X4_12 dX4_foretell_1 ?_
  refine vi_getr (t := (p0 + 1) + 1) 0 rfl (vv_moment_o (vv_bb_now h0)) rfl wu_X1 (by decide) wf_X4_41 dX4_foretell_4 ?_
  refine vi_iload_n 1 dX4_foretell_7 rfl rfl ?_
  obtain ⟨u1, hu1, hf⟩ := vv_bd hf
  refine vi_callV (As := [.int x1]) (st := []) (t_X2_hasBoard n ((p0 + 1) + 1) x1 M u1 (vv_moment_oven (vv_bb_now h0)) hu1) rfl yo_X2_hasBoard wm_X4_159 wi_X2_hasBoard ws_X2_hasBoard wI_X2 wc_X2_hasBoard (vv_oven_o (vv_moment_oven (vv_bb_now h0))) rfl ⟨Nat.le_of_ble_eq_true rfl, Nat.le_of_ble_eq_true rfl⟩ (vv_rm0 rfl rfl) (Nat.le_of_ble_eq_true rfl) rfl rfl dX4_foretell_8 ?_
  refine vi_if_eq 23 dX4_foretell_11 (by decide) (fun c2 => ?_) (fun c2 => ?_)
  · rw [if_pos c2] at hf
    refine vi_sipush (v := (-1001 : Int32)) dX4_foretell_23 (by decide) ?_
    obtain rfl := Option.some.inj hf
    exact vi_ret (v := some (.int (-1001 : Int32))) rfl ⟨dX4_foretell_26, .int, rfl, rfl⟩ ⟨rfl, rfl, rfl⟩
  · rw [if_neg c2] at hf
    refine vi_iload_n 2 dX4_foretell_14 rfl rfl ?_
    refine vi_iconst (v := (0 : Int32)) dX4_foretell_15 (by decide) ?_
    refine vi_iconst (v := (3 : Int32)) dX4_foretell_16 (by decide) ?_
    obtain ⟨u3, hu3, hf⟩ := vv_bd hf
    refine vi_callS (As := [.int x2, .int (0 : Int32), .int (3 : Int32)]) (st := []) (t_X4_isWithin n x2 (0 : Int32) (3 : Int32) u1.2 u3  hu3) rfl yo_X4_isWithin wm_X4_140 wi_X4_isWithin wI_X4 wc_X4_isWithin ⟨Nat.le_of_ble_eq_true rfl, Nat.le_of_ble_eq_true rfl⟩ (vv_rm0 rfl rfl) (Nat.le_of_ble_eq_true rfl) rfl rfl dX4_foretell_17 ?_
    refine vi_if_ne 27 dX4_foretell_20 (by decide) (fun c4 => ?_) (fun c4 => ?_)
    · rw [if_neg c4] at hf
      refine vi_aload_n 0 dX4_foretell_27 rfl rfl ?_
      refine vi_getr (t := p0 + 1) 0 rfl (vv_bb_o h0) rfl wu_X4 (by decide) wf_X4_12 dX4_foretell_28 ?_
      refine vi_getr (t := (p0 + 1) + 1) 0 rfl (vv_moment_o (vv_bb_now h0)) rfl wu_X1 (by decide) wf_X4_41 dX4_foretell_31 ?_
      refine vi_iload_n 1 dX4_foretell_34 rfl rfl ?_
      obtain ⟨u5, hu5, hf⟩ := vv_bd hf
      refine vi_callV (As := [.int x1]) (st := []) (t_X2_isOnBelt n ((p0 + 1) + 1) x1 u3.2 u5 (vv_moment_oven (vv_bb_now h0)) hu5) rfl yo_X2_isOnBelt wm_X4_179 wi_X2_isOnBelt ws_X2_isOnBelt wI_X2 wc_X2_isOnBelt (vv_oven_o (vv_moment_oven (vv_bb_now h0))) rfl ⟨Nat.le_of_ble_eq_true rfl, Nat.le_of_ble_eq_true rfl⟩ (vv_rm0 rfl rfl) (Nat.le_of_ble_eq_true rfl) rfl rfl dX4_foretell_35 ?_
      refine vi_if_ne 45 dX4_foretell_38 (by decide) (fun c6 => ?_) (fun c6 => ?_)
      · rw [if_neg c6] at hf
        refine vi_aload_n 0 dX4_foretell_45 rfl rfl ?_
        refine vi_getr (t := p0 + 152) 3 rfl (vv_bb_o h0) rfl wu_X4 (by decide) wf_X4_33 dX4_foretell_46 ?_
        refine vi_aload_n 0 dX4_foretell_49 rfl rfl ?_
        refine vi_getr (t := p0 + 1) 0 rfl (vv_bb_o h0) rfl wu_X4 (by decide) wf_X4_12 dX4_foretell_50 ?_
        refine vi_getr (t := (p0 + 1) + 1) 0 rfl (vv_moment_o (vv_bb_now h0)) rfl wu_X1 (by decide) wf_X4_41 dX4_foretell_53 ?_
        obtain ⟨u7, hu7, hf⟩ := vv_bd hf
        refine vi_callV (As := [.ref ((p0 + 1) + 1)]) (st := []) (t_X2_become n (p0 + 152) ((p0 + 1) + 1) u5.2 u7 (vv_bb_trial h0) (vv_moment_oven (vv_bb_now h0)) hu7) rfl yo_X2_become wm_X4_182 wi_X2_become ws_X2_become wI_X2 wc_X2_become (vv_oven_o (vv_bb_trial h0)) rfl ⟨Nat.le_of_ble_eq_true rfl, Nat.le_of_ble_eq_true rfl⟩ (vv_rm0 rfl rfl) (Nat.le_of_ble_eq_true rfl) rfl rfl dX4_foretell_56 ?_
        refine vi_aload_n 0 dX4_foretell_59 rfl rfl ?_
        refine vi_getr (t := p0 + 152) 3 rfl (vv_bb_o h0) rfl wu_X4 (by decide) wf_X4_33 dX4_foretell_60 ?_
        refine vi_iload_n 1 dX4_foretell_63 rfl rfl ?_
        obtain ⟨u8, hu8, hf⟩ := vv_bd hf
        refine vi_callV (As := [.int x1]) (st := []) (t_X2_passUntilLeft n (p0 + 152) x1 u7.2 u8 (vv_bb_trial h0) hu8) rfl yo_X2_passUntilLeft wm_X4_186 wi_X2_passUntilLeft ws_X2_passUntilLeft wI_X2 wc_X2_passUntilLeft (vv_oven_o (vv_bb_trial h0)) rfl ⟨Nat.le_of_ble_eq_true rfl, Nat.le_of_ble_eq_true rfl⟩ (vv_rm0 rfl rfl) (Nat.le_of_ble_eq_true rfl) rfl rfl dX4_foretell_64 ?_
        obtain ⟨y9, ey9, hf⟩ := vv_lt hf
        refine vi_istore_n (L' := [(3, .int y9), (0, .ref p0), (1, .int x1), (2, .int x2)]) dX4_foretell_67 rfl (by decide) (by rw [ey9]; rfl) ?_
        refine vi_sub (L' := [(0, .ref p0), (1, .int x1), (2, .int x2), (3, .int y9)]) [1, 2, 3, 0] rfl ?_
        exact t_X4_foretell_68 n  u  p0 x1 x2 y9 u8.2 h0 hf
      · rw [if_pos c6] at hf
        refine vi_sipush (v := (-1002 : Int32)) dX4_foretell_41 (by decide) ?_
        obtain rfl := Option.some.inj hf
        exact vi_ret (v := some (.int (-1002 : Int32))) rfl ⟨dX4_foretell_44, .int, rfl, rfl⟩ ⟨rfl, rfl, rfl⟩
    · rw [if_pos c4] at hf
      refine vi_sipush (v := (-1001 : Int32)) dX4_foretell_23 (by decide) ?_
      obtain rfl := Option.some.inj hf
      exact vi_ret (v := some (.int (-1001 : Int32))) rfl ⟨dX4_foretell_26, .int, rfl, rfl⟩ ⟨rfl, rfl, rfl⟩
set_option maxRecDepth 20000 in
theorem t_X4_faultsInTrial_38 {S : List vv_Sh} (n : Nat)  (u : Int32 × vv_M)  (p0 : Nat) (x1 : Int32) (x2 : Int32) (M : vv_M) (h0 : vv_bb S p0) (hf : f_X4_faultsInTrial_38 n  p0 x1 x2 M = some u) : vv_V [] yX4_faultsInTrial.cls yX4_faultsInTrial.name cX4_faultsInTrial 5 (some .int) (vv_R 5 0 0) S.length (vv_sz S) (vv_fi S u) 38 [(0, .ref p0), (1, .int x1), (2, .int x2)] [] S M := by
  unfold f_X4_faultsInTrial_38 at hf
  refine vi_aload_n 0 dX4_faultsInTrial_38 rfl rfl ?_
  refine vi_getr (t := p0 + 152) 3 rfl (vv_bb_o h0) rfl wu_X4 (by decide) wf_X4_33 dX4_faultsInTrial_39 ?_
  refine vi_iload_n 1 dX4_faultsInTrial_42 rfl rfl ?_
  refine vi_iload_n 2 dX4_faultsInTrial_43 rfl rfl ?_
  obtain ⟨u3, hu3, hf⟩ := vv_bd hf
  refine vi_callV (As := [.int x1, .int x2]) (st := []) (t_X2_placeBoard n (p0 + 152) x1 x2 M u3 (vv_bb_trial h0) hu3) rfl yo_X2_placeBoard wm_X4_195 wi_X2_placeBoard ws_X2_placeBoard wI_X2 wc_X2_placeBoard (vv_oven_o (vv_bb_trial h0)) rfl ⟨Nat.le_of_ble_eq_true rfl, Nat.le_of_ble_eq_true rfl⟩ (vv_rm0 rfl rfl) (Nat.le_of_ble_eq_true rfl) rfl rfl dX4_faultsInTrial_44 ?_
  obtain ⟨y4, ey4, hf⟩ := vv_lt hf
  refine vi_istore (L' := [(4, .int y4), (0, .ref p0), (1, .int x1), (2, .int x2)]) dX4_faultsInTrial_47 (by decide) (by rw [ey4]; rfl) ?_
  refine vi_aload_n 1 dX4_faultsInTrial_49 rfl rfl ?_
  refine vi_getr (t := p0 + 152) 3 rfl (vv_bb_o h0) rfl wu_X4 (by decide) wf_X4_33 dX4_faultsInTrial_50 ?_
  refine vi_iload 0 dX4_faultsInTrial_53 rfl ?_
  obtain ⟨u5, hu5, hf⟩ := vv_bd hf
  refine vi_callV (As := [.int y4]) (st := []) (t_X2_passUntilLeft n (p0 + 152) y4 u3.2 u5 (vv_bb_trial h0) hu5) rfl yo_X2_passUntilLeft wm_X4_186 wi_X2_passUntilLeft ws_X2_passUntilLeft wI_X2 wc_X2_passUntilLeft (vv_oven_o (vv_bb_trial h0)) rfl ⟨Nat.le_of_ble_eq_true rfl, Nat.le_of_ble_eq_true rfl⟩ (vv_rm0 rfl rfl) (Nat.le_of_ble_eq_true rfl) rfl rfl dX4_faultsInTrial_55 ?_
  refine vi_pop dX4_faultsInTrial_58 rfl ?_
  refine vi_aload_n 1 dX4_faultsInTrial_59 rfl rfl ?_
  refine vi_getr (t := p0 + 152) 3 rfl (vv_bb_o h0) rfl wu_X4 (by decide) wf_X4_33 dX4_faultsInTrial_60 ?_
  refine vi_getr (t := (p0 + 152) + 4) 3 rfl (vv_oven_o (vv_bb_trial h0)) rfl wu_X2 (by decide) wf_X4_163 dX4_faultsInTrial_63 ?_
  refine vi_iload 0 dX4_faultsInTrial_66 rfl ?_
  refine vi_bipush (v := (22 : Int32)) dX4_faultsInTrial_68 (by decide) ?_
  refine vi_imul dX4_faultsInTrial_70 ?_
  refine vi_bipush (v := (8 : Int32)) dX4_faultsInTrial_71 (by decide) ?_
  refine vi_iadd dX4_faultsInTrial_73 ?_
  obtain ⟨g6, hf⟩ := vv_gd hf
  refine vi_iald (vv_oven_boards (vv_bb_trial h0)) g6 dX4_faultsInTrial_74 ?_
  obtain rfl := Option.some.inj hf
  exact vi_ret (v := some (.int (u5.2 ((p0 + 152) + 4) ((y4 * (22 : Int32)) + (8 : Int32)).toNatClampNeg))) rfl ⟨dX4_faultsInTrial_75, .int, rfl, rfl⟩ ⟨rfl, rfl, rfl⟩
set_option maxRecDepth 20000 in
theorem t_X4_faultsInTrial {S : List vv_Sh} (n : Nat) (p0 : Nat) (x1 : Int32) (x2 : Int32) (x3 : Int32) (M : vv_M) (u : Int32 × vv_M) (h0 : vv_bb S p0) (hf : f_X4_faultsInTrial n p0 x1 x2 x3 M = some u) : vv_C yX4_faultsInTrial (vv_w yX4_faultsInTrial cX4_faultsInTrial 5 (some .int)) (vv_R 5 0 0) [.ref p0, .int x1, .int x2, .int x3] S M (some (.int u.1)) S u.2 := by
  refine vv_ofV (by decide +kernel) (Nat.le_of_ble_eq_true rfl) (L := [(0, .ref p0), (1, .int x1), (2, .int x2), (3, .int x3)]) rfl rfl rfl ?_
  show vv_V [] yX4_faultsInTrial.cls yX4_faultsInTrial.name cX4_faultsInTrial 5 (some .int) (vv_R 5 0 0) S.length (vv_sz S) (vv_fi S u) 0 [(0, .ref p0), (1, .int x1), (2, .int x2), (3, .int x3)] [] S M
  unfold f_X4_faultsInTrial at hf
  refine vi_aload_n 0 dX4_faultsInTrial_0 rfl rfl ?_
  refine vi_getr (t := p0 + 152) 3 rfl (vv_bb_o h0) rfl wu_X4 (by decide) wf_X4_33 dX4_faultsInTrial_1 ?_
  refine vi_aload_n 0 dX4_faultsInTrial_4 rfl rfl ?_
  refine vi_getr (t := p0 + 1) 0 rfl (vv_bb_o h0) rfl wu_X4 (by decide) wf_X4_12 dX4_faultsInTrial_5 ?_
  refine vi_getr (t := (p0 + 1) + 1) 0 rfl (vv_moment_o (vv_bb_now h0)) rfl wu_X1 (by decide) wf_X4_41 dX4_faultsInTrial_8 ?_
  obtain ⟨u1, hu1, hf⟩ := vv_bd hf
  refine vi_callV (As := [.ref ((p0 + 1) + 1)]) (st := []) (t_X2_become n (p0 + 152) ((p0 + 1) + 1) M u1 (vv_bb_trial h0) (vv_moment_oven (vv_bb_now h0)) hu1) rfl yo_X2_become wm_X4_182 wi_X2_become ws_X2_become wI_X2 wc_X2_become (vv_oven_o (vv_bb_trial h0)) rfl ⟨Nat.le_of_ble_eq_true rfl, Nat.le_of_ble_eq_true rfl⟩ (vv_rm0 rfl rfl) (Nat.le_of_ble_eq_true rfl) rfl rfl dX4_faultsInTrial_11 ?_
  refine vi_iload_n 3 dX4_faultsInTrial_14 rfl rfl ?_
  refine vi_if_eq 38 dX4_faultsInTrial_15 (by decide) (fun c2 => ?_) (fun c2 => ?_)
  · rw [if_pos c2] at hf
    refine vi_sub (L' := [(0, .ref p0), (1, .int x1), (2, .int x2)]) [0, 1, 2] rfl ?_
    exact t_X4_faultsInTrial_38 n  u  p0 x1 x2 u1.2 h0 hf
  · rw [if_neg c2] at hf
    refine vi_aload_n 0 dX4_faultsInTrial_18 rfl rfl ?_
    refine vi_getr (t := p0 + 152) 3 rfl (vv_bb_o h0) rfl wu_X4 (by decide) wf_X4_33 dX4_faultsInTrial_19 ?_
    refine vi_getr (t := (p0 + 152) + 3) 2 rfl (vv_oven_o (vv_bb_trial h0)) rfl wu_X2 (by decide) wf_X4_121 dX4_faultsInTrial_22 ?_
    refine vi_iconst (v := (0 : Int32)) dX4_faultsInTrial_25 (by decide) ?_
    refine vi_iload_n 3 dX4_faultsInTrial_26 rfl rfl ?_
    obtain ⟨g7, hf⟩ := vv_gd hf
    obtain ⟨M8, eM8, hf⟩ := vv_lt hf
    refine vi_iast (vv_oven_numbers (vv_bb_trial h0)) g7 eM8.symm dX4_faultsInTrial_27 ?_
    refine vi_aload_n 0 dX4_faultsInTrial_28 rfl rfl ?_
    refine vi_getr (t := p0 + 152) 3 rfl (vv_bb_o h0) rfl wu_X4 (by decide) wf_X4_33 dX4_faultsInTrial_29 ?_
    refine vi_getr (t := (p0 + 152) + 3) 2 rfl (vv_oven_o (vv_bb_trial h0)) rfl wu_X2 (by decide) wf_X4_121 dX4_faultsInTrial_32 ?_
    refine vi_iconst (v := (2 : Int32)) dX4_faultsInTrial_35 (by decide) ?_
    refine vi_iconst (v := (0 : Int32)) dX4_faultsInTrial_36 (by decide) ?_
    obtain ⟨g9, hf⟩ := vv_gd hf
    obtain ⟨M10, eM10, hf⟩ := vv_lt hf
    refine vi_iast (vv_oven_numbers (vv_bb_trial h0)) g9 eM10.symm dX4_faultsInTrial_37 ?_
    refine vi_sub (L' := [(0, .ref p0), (1, .int x1), (2, .int x2)]) [0, 1, 2] rfl ?_
    exact t_X4_faultsInTrial_38 n  u  p0 x1 x2 M10 h0 hf
set_option maxRecDepth 20000 in
theorem t_X4_wouldFail {S : List vv_Sh} (n : Nat) (p0 : Nat) (x1 : Int32) (x2 : Int32) (x3 : Int32) (M : vv_M) (u : Int32 × vv_M) (h0 : vv_bb S p0) (hf : f_X4_wouldFail n p0 x1 x2 x3 M = some u) : vv_C yX4_wouldFail (vv_w yX4_wouldFail cX4_wouldFail 4 (some .int)) (vv_R 6 0 0) [.ref p0, .int x1, .int x2, .int x3] S M (some (.int u.1)) S u.2 := by
  refine vv_ofV (by decide +kernel) (Nat.le_of_ble_eq_true rfl) (L := [(0, .ref p0), (1, .int x1), (2, .int x2), (3, .int x3)]) rfl rfl rfl ?_
  show vv_V [] yX4_wouldFail.cls yX4_wouldFail.name cX4_wouldFail 4 (some .int) (vv_R 6 0 0) S.length (vv_sz S) (vv_fi S u) 0 [(0, .ref p0), (1, .int x1), (2, .int x2), (3, .int x3)] [] S M
  unfold f_X4_wouldFail at hf
  refine vi_iload_n 1 dX4_wouldFail_0 rfl rfl ?_
  refine vi_iconst (v := (0 : Int32)) dX4_wouldFail_1 (by decide) ?_
  refine vi_iconst (v := (3 : Int32)) dX4_wouldFail_2 (by decide) ?_
  obtain ⟨u1, hu1, hf⟩ := vv_bd hf
  refine vi_callS (As := [.int x1, .int (0 : Int32), .int (3 : Int32)]) (st := []) (t_X4_isWithin n x1 (0 : Int32) (3 : Int32) M u1  hu1) rfl yo_X4_isWithin wm_X4_140 wi_X4_isWithin wI_X4 wc_X4_isWithin ⟨Nat.le_of_ble_eq_true rfl, Nat.le_of_ble_eq_true rfl⟩ (vv_rm0 rfl rfl) (Nat.le_of_ble_eq_true rfl) rfl rfl dX4_wouldFail_3 ?_
  refine vi_if_eq 28 dX4_wouldFail_6 (by decide) (fun c2 => ?_) (fun c2 => ?_)
  · rw [if_pos c2] at hf
    refine vi_sipush (v := (-1001 : Int32)) dX4_wouldFail_28 (by decide) ?_
    obtain rfl := Option.some.inj hf
    exact vi_ret (v := some (.int (-1001 : Int32))) rfl ⟨dX4_wouldFail_31, .int, rfl, rfl⟩ ⟨rfl, rfl, rfl⟩
  · rw [if_neg c2] at hf
    refine vi_iload_n 2 dX4_wouldFail_9 rfl rfl ?_
    refine vi_iconst (v := (1 : Int32)) dX4_wouldFail_10 (by decide) ?_
    refine vi_bipush (v := (9 : Int32)) dX4_wouldFail_11 (by decide) ?_
    obtain ⟨u3, hu3, hf⟩ := vv_bd hf
    refine vi_callS (As := [.int x2, .int (1 : Int32), .int (9 : Int32)]) (st := []) (t_X4_isWithin n x2 (1 : Int32) (9 : Int32) u1.2 u3  hu3) rfl yo_X4_isWithin wm_X4_140 wi_X4_isWithin wI_X4 wc_X4_isWithin ⟨Nat.le_of_ble_eq_true rfl, Nat.le_of_ble_eq_true rfl⟩ (vv_rm0 rfl rfl) (Nat.le_of_ble_eq_true rfl) rfl rfl dX4_wouldFail_13 ?_
    refine vi_if_eq 28 dX4_wouldFail_16 (by decide) (fun c4 => ?_) (fun c4 => ?_)
    · rw [if_pos c4] at hf
      refine vi_sipush (v := (-1001 : Int32)) dX4_wouldFail_28 (by decide) ?_
      obtain rfl := Option.some.inj hf
      exact vi_ret (v := some (.int (-1001 : Int32))) rfl ⟨dX4_wouldFail_31, .int, rfl, rfl⟩ ⟨rfl, rfl, rfl⟩
    · rw [if_neg c4] at hf
      refine vi_iload_n 3 dX4_wouldFail_19 rfl rfl ?_
      refine vi_iconst (v := (0 : Int32)) dX4_wouldFail_20 (by decide) ?_
      refine vi_iconst (v := (3 : Int32)) dX4_wouldFail_21 (by decide) ?_
      obtain ⟨u5, hu5, hf⟩ := vv_bd hf
      refine vi_callS (As := [.int x3, .int (0 : Int32), .int (3 : Int32)]) (st := []) (t_X4_isWithin n x3 (0 : Int32) (3 : Int32) u3.2 u5  hu5) rfl yo_X4_isWithin wm_X4_140 wi_X4_isWithin wI_X4 wc_X4_isWithin ⟨Nat.le_of_ble_eq_true rfl, Nat.le_of_ble_eq_true rfl⟩ (vv_rm0 rfl rfl) (Nat.le_of_ble_eq_true rfl) rfl rfl dX4_wouldFail_22 ?_
      refine vi_if_ne 32 dX4_wouldFail_25 (by decide) (fun c6 => ?_) (fun c6 => ?_)
      · rw [if_neg c6] at hf
        refine vi_aload_n 0 dX4_wouldFail_32 rfl rfl ?_
        refine vi_iload_n 1 dX4_wouldFail_33 rfl rfl ?_
        refine vi_iload_n 2 dX4_wouldFail_34 rfl rfl ?_
        refine vi_iload_n 3 dX4_wouldFail_35 rfl rfl ?_
        obtain ⟨u7, hu7, hf⟩ := vv_bd hf
        refine vi_callV (As := [.int x1, .int x2, .int x3]) (st := []) (t_X4_faultsInTrial n p0 x1 x2 x3 u5.2 u7 h0 hu7) rfl yo_X4_faultsInTrial wm_X4_189 wi_X4_faultsInTrial ws_X4_faultsInTrial wI_X4 wc_X4_faultsInTrial (vv_bb_o h0) rfl ⟨Nat.le_of_ble_eq_true rfl, Nat.le_of_ble_eq_true rfl⟩ (vv_rm0 rfl rfl) (Nat.le_of_ble_eq_true rfl) rfl rfl dX4_wouldFail_36 ?_
        obtain rfl := Option.some.inj hf
        exact vi_ret (v := some (.int u7.1)) rfl ⟨dX4_wouldFail_39, .int, rfl, rfl⟩ ⟨rfl, rfl, rfl⟩
      · rw [if_pos c6] at hf
        refine vi_sipush (v := (-1001 : Int32)) dX4_wouldFail_28 (by decide) ?_
        obtain rfl := Option.some.inj hf
        exact vi_ret (v := some (.int (-1001 : Int32))) rfl ⟨dX4_wouldFail_31, .int, rfl, rfl⟩ ⟨rfl, rfl, rfl⟩
set_option maxRecDepth 20000 in
theorem t_X4_heaviest_16 {S : List vv_Sh} (n : Nat)  (u : Int32 × vv_M)  : ∀ (k : Nat) (p0 : Nat) (x1 : Int32) (x2 : Int32) (M : vv_M) (h0 : vv_bb S p0) (hf : f_X4_heaviest_16 n  k p0 x1 x2 M = some u), vv_V [] yX4_heaviest.cls yX4_heaviest.name cX4_heaviest 3 (some .int) (vv_R 6 0 0) S.length (vv_sz S) (vv_fi S u) 16 [(0, .ref p0), (1, .int x1), (2, .int x2)] [] S M := by
  intro k
  induction k with
  | zero =>
    intro p0 x1 x2 M h0 hf
    exact absurd (show (none : Option (Int32 × vv_M)) = some u from hf) (by simp)
  | succ k ih =>
    intro p0 x1 x2 M h0 hf
    rw [f_X4_heaviest_16.eq_2] at hf
    refine vi_iload_n 2 dX4_heaviest_16 rfl rfl ?_
    refine vi_iconst (v := (1 : Int32)) dX4_heaviest_17 (by decide) ?_
    refine vi_icmp_lt 39 dX4_heaviest_18 (by decide) (fun c3 => ?_) (fun c3 => ?_)
    · rw [if_pos c3] at hf
      refine vi_sipush (v := (-1009 : Int32)) dX4_heaviest_39 (by decide) ?_
      obtain rfl := Option.some.inj hf
      exact vi_ret (v := some (.int (-1009 : Int32))) rfl ⟨dX4_heaviest_42, .int, rfl, rfl⟩ ⟨rfl, rfl, rfl⟩
    · rw [if_neg c3] at hf
      refine vi_aload_n 0 dX4_heaviest_21 rfl rfl ?_
      refine vi_iload_n 1 dX4_heaviest_22 rfl rfl ?_
      refine vi_iload_n 2 dX4_heaviest_23 rfl rfl ?_
      refine vi_iconst (v := (0 : Int32)) dX4_heaviest_24 (by decide) ?_
      obtain ⟨u4, hu4, hf⟩ := vv_bd hf
      refine vi_callV (As := [.int x1, .int x2, .int (0 : Int32)]) (st := []) (t_X4_faultsInTrial n p0 x1 x2 (0 : Int32) M u4 h0 hu4) rfl yo_X4_faultsInTrial wm_X4_189 wi_X4_faultsInTrial ws_X4_faultsInTrial wI_X4 wc_X4_faultsInTrial (vv_bb_o h0) rfl ⟨Nat.le_of_ble_eq_true rfl, Nat.le_of_ble_eq_true rfl⟩ (vv_rm0 rfl rfl) (Nat.le_of_ble_eq_true rfl) rfl rfl dX4_heaviest_25 ?_
      refine vi_if_ne 33 dX4_heaviest_28 (by decide) (fun c5 => ?_) (fun c5 => ?_)
      · rw [if_neg c5] at hf
        obtain ⟨y6, ey6, hf⟩ := vv_lt hf
        refine vi_iinc (v := y6) (L' := [(2, .int y6), (0, .ref p0), (1, .int x1)]) 2 dX4_heaviest_33 rfl (by rw [ey6]; rfl) (by decide) rfl ?_
        refine vi_goto 16 dX4_heaviest_36 (by decide) ?_
        refine vi_sub (L' := [(0, .ref p0), (1, .int x1), (2, .int y6)]) [1, 2, 0] rfl ?_
        exact ih p0 x1 y6 u4.2 h0 hf
      · rw [if_pos c5] at hf
        refine vi_iload_n 2 dX4_heaviest_31 rfl rfl ?_
        obtain rfl := Option.some.inj hf
        exact vi_ret (v := some (.int x2)) rfl ⟨dX4_heaviest_32, .int, rfl, rfl⟩ ⟨rfl, rfl, rfl⟩
set_option maxRecDepth 20000 in
theorem t_X4_heaviest {S : List vv_Sh} (n : Nat) (p0 : Nat) (x1 : Int32) (M : vv_M) (u : Int32 × vv_M) (h0 : vv_bb S p0) (hf : f_X4_heaviest n p0 x1 M = some u) : vv_C yX4_heaviest (vv_w yX4_heaviest cX4_heaviest 3 (some .int)) (vv_R 6 0 0) [.ref p0, .int x1] S M (some (.int u.1)) S u.2 := by
  refine vv_ofV (by decide +kernel) (Nat.le_of_ble_eq_true rfl) (L := [(0, .ref p0), (1, .int x1)]) rfl rfl rfl ?_
  show vv_V [] yX4_heaviest.cls yX4_heaviest.name cX4_heaviest 3 (some .int) (vv_R 6 0 0) S.length (vv_sz S) (vv_fi S u) 0 [(0, .ref p0), (1, .int x1)] [] S M
  unfold f_X4_heaviest at hf
  refine vi_iload_n 1 dX4_heaviest_0 rfl rfl ?_
  refine vi_iconst (v := (0 : Int32)) dX4_heaviest_1 (by decide) ?_
  refine vi_iconst (v := (3 : Int32)) dX4_heaviest_2 (by decide) ?_
  obtain ⟨u1, hu1, hf⟩ := vv_bd hf
  refine vi_callS (As := [.int x1, .int (0 : Int32), .int (3 : Int32)]) (st := []) (t_X4_isWithin n x1 (0 : Int32) (3 : Int32) M u1  hu1) rfl yo_X4_isWithin wm_X4_140 wi_X4_isWithin wI_X4 wc_X4_isWithin ⟨Nat.le_of_ble_eq_true rfl, Nat.le_of_ble_eq_true rfl⟩ (vv_rm0 rfl rfl) (Nat.le_of_ble_eq_true rfl) rfl rfl dX4_heaviest_3 ?_
  refine vi_if_ne 13 dX4_heaviest_6 (by decide) (fun c2 => ?_) (fun c2 => ?_)
  · rw [if_neg c2] at hf
    refine vi_bipush (v := (9 : Int32)) dX4_heaviest_13 (by decide) ?_
    refine vi_istore_n (L' := [(2, .int (9 : Int32)), (0, .ref p0), (1, .int x1)]) dX4_heaviest_15 rfl (by decide) rfl ?_
    refine vi_sub (L' := [(0, .ref p0), (1, .int x1), (2, .int (9 : Int32))]) [1, 2, 0] rfl ?_
    exact t_X4_heaviest_16 n  u  n p0 x1 (9 : Int32) u1.2 h0 hf
  · rw [if_pos c2] at hf
    refine vi_sipush (v := (-1001 : Int32)) dX4_heaviest_9 (by decide) ?_
    obtain rfl := Option.some.inj hf
    exact vi_ret (v := some (.int (-1001 : Int32))) rfl ⟨dX4_heaviest_12, .int, rfl, rfl⟩ ⟨rfl, rfl, rfl⟩
set_option maxRecDepth 20000 in
theorem t_X4_room {S : List vv_Sh} (n : Nat) (p0 : Nat) (M : vv_M) (u : Int32 × vv_M) (h0 : vv_bb S p0) (hf : f_X4_room n p0 M = some u) : vv_C yX4_room (vv_w yX4_room cX4_room 1 (some .int)) (vv_R 5 0 0) [.ref p0] S M (some (.int u.1)) S u.2 := by
  refine vv_ofV (by decide +kernel) (Nat.le_of_ble_eq_true rfl) (L := [(0, .ref p0)]) rfl rfl rfl ?_
  show vv_V [] yX4_room.cls yX4_room.name cX4_room 1 (some .int) (vv_R 5 0 0) S.length (vv_sz S) (vv_fi S u) 0 [(0, .ref p0)] [] S M
  unfold f_X4_room at hf
  refine vi_aload_n 0 dX4_room_0 rfl rfl ?_
  refine vi_getr (t := p0 + 152) 3 rfl (vv_bb_o h0) rfl wu_X4 (by decide) wf_X4_33 dX4_room_1 ?_
  refine vi_aload_n 0 dX4_room_4 rfl rfl ?_
  refine vi_getr (t := p0 + 1) 0 rfl (vv_bb_o h0) rfl wu_X4 (by decide) wf_X4_12 dX4_room_5 ?_
  refine vi_getr (t := (p0 + 1) + 1) 0 rfl (vv_moment_o (vv_bb_now h0)) rfl wu_X1 (by decide) wf_X4_41 dX4_room_8 ?_
  obtain ⟨u1, hu1, hf⟩ := vv_bd hf
  refine vi_callV (As := [.ref ((p0 + 1) + 1)]) (st := []) (t_X2_become n (p0 + 152) ((p0 + 1) + 1) M u1 (vv_bb_trial h0) (vv_moment_oven (vv_bb_now h0)) hu1) rfl yo_X2_become wm_X4_182 wi_X2_become ws_X2_become wI_X2 wc_X2_become (vv_oven_o (vv_bb_trial h0)) rfl ⟨Nat.le_of_ble_eq_true rfl, Nat.le_of_ble_eq_true rfl⟩ (vv_rm0 rfl rfl) (Nat.le_of_ble_eq_true rfl) rfl rfl dX4_room_11 ?_
  refine vi_aload_n 0 dX4_room_14 rfl rfl ?_
  refine vi_getr (t := p0 + 152) 3 rfl (vv_bb_o h0) rfl wu_X4 (by decide) wf_X4_33 dX4_room_15 ?_
  obtain ⟨u2, hu2, hf⟩ := vv_bd hf
  refine vi_callV (As := []) (st := []) (t_X2_passUntilFree n (p0 + 152) u1.2 u2 (vv_bb_trial h0) hu2) rfl yo_X2_passUntilFree wm_X4_192 wi_X2_passUntilFree ws_X2_passUntilFree wI_X2 wc_X2_passUntilFree (vv_oven_o (vv_bb_trial h0)) rfl ⟨Nat.le_of_ble_eq_true rfl, Nat.le_of_ble_eq_true rfl⟩ (vv_rm0 rfl rfl) (Nat.le_of_ble_eq_true rfl) rfl rfl dX4_room_18 ?_
  obtain rfl := Option.some.inj hf
  exact vi_ret (v := some (.int u2.1)) rfl ⟨dX4_room_21, .int, rfl, rfl⟩ ⟨rfl, rfl, rfl⟩
set_option maxRecDepth 20000 in
theorem t_L_cell {S : List vv_Sh} (n : Nat) (sc : List Int32) (x1 : Int32) (M : vv_M) (u : Int32 × vv_M)  (hf : f_L_cell n sc x1 M = some u) : vv_CX (0 :: sc) yL_cell (vv_w yL_cell cL_cell 2 (some .int)) (vv_R 0 0 0) [.float 7, .int x1] S M (some (.int u.1)) S u.2 := by
  refine vv_ofVX (by decide +kernel) (Nat.le_of_ble_eq_true rfl) (L := [(0, .float 7), (1, .int x1)]) rfl rfl rfl ?_
  show vv_V (0 :: sc) yL_cell.cls yL_cell.name cL_cell 2 (some .int) (vv_R 0 0 0) S.length (vv_sz S) (vv_fi S u) 0 [(0, .float 7), (1, .int x1)] [] S M
  unfold f_L_cell at hf
  refine vi_iload_n 1 dL_cell_0 rfl rfl ?_
  refine vi_aloadf_n 0 dL_cell_1 rfl rfl ?_
  refine vi_slen dL_cell_2 ?_
  refine vi_icmp_ge 12 dL_cell_3 (by decide) (fun c1 => ?_) (fun c1 => ?_)
  · rw [if_pos c1] at hf
    refine vi_sipush (v := (7919 : Int32)) dL_cell_12 (by decide) ?_
    refine vi_iload_n 1 dL_cell_15 rfl rfl ?_
    refine vi_bipush (v := (19 : Int32)) dL_cell_16 (by decide) ?_
    refine vi_iadd dL_cell_18 ?_
    refine vi_imul dL_cell_19 ?_
    refine vi_iload_n 1 dL_cell_20 rfl rfl ?_
    refine vi_bipush (v := (47 : Int32)) dL_cell_21 (by decide) ?_
    refine vi_iadd dL_cell_23 ?_
    refine vi_imul dL_cell_24 ?_
    obtain rfl := Option.some.inj hf
    exact vi_ret (v := some (.int (((7919 : Int32) * (x1 + (19 : Int32))) * (x1 + (47 : Int32))))) rfl ⟨dL_cell_25, .int, rfl, rfl⟩ ⟨rfl, rfl, rfl⟩
  · rw [if_neg c1] at hf
    refine vi_aloadf_n 0 dL_cell_6 rfl rfl ?_
    refine vi_iload_n 1 dL_cell_7 rfl rfl ?_
    obtain ⟨g2, hf⟩ := vv_gd hf
    refine vi_sld g2 dL_cell_8 ?_
    refine vi_goto 25 dL_cell_9 (by decide) ?_
    obtain rfl := Option.some.inj hf
    exact vi_ret (v := some (.int (sc.getD x1.toNatClampNeg 0))) rfl ⟨dL_cell_25, .int, rfl, rfl⟩ ⟨rfl, rfl, rfl⟩
set_option maxRecDepth 20000 in
theorem t_L_low {S : List vv_Sh} (n : Nat) (x0 : Int32) (x1 : Int32) (M : vv_M) (u : Int32 × vv_M)  (hf : f_L_low n x0 x1 M = some u) : vv_C yL_low (vv_w yL_low cL_low 2 (some .int)) (vv_R 0 0 0) [.int x0, .int x1] S M (some (.int u.1)) S u.2 := by
  refine vv_ofV (by decide +kernel) (Nat.le_of_ble_eq_true rfl) (L := [(0, .int x0), (1, .int x1)]) rfl rfl rfl ?_
  show vv_V [] yL_low.cls yL_low.name cL_low 2 (some .int) (vv_R 0 0 0) S.length (vv_sz S) (vv_fi S u) 0 [(0, .int x0), (1, .int x1)] [] S M
  unfold f_L_low at hf
  refine vi_iload_n 0 dL_low_0 rfl rfl ?_
  refine vi_ldc wk_L_7 dL_low_1 ?_
  refine vi_iand dL_low_3 ?_
  refine vi_iload_n 1 dL_low_4 rfl rfl ?_
  obtain ⟨g1, hf⟩ := vv_gd hf
  refine vi_irem dL_low_5 g1 ?_
  obtain rfl := Option.some.inj hf
  exact vi_ret (v := some (.int ((x0 &&& (2147483647 : Int32)) - (x0 &&& (2147483647 : Int32)) / x1 * x1))) rfl ⟨dL_low_6, .int, rfl, rfl⟩ ⟨rfl, rfl, rfl⟩
set_option maxRecDepth 20000 in
theorem t_L_all_155 {S : List vv_Sh} (n : Nat) (k112 : Nat → Int64 → Int32 → vv_M → Option (Int64 × vv_M)) (u : Int64 × vv_M) (hk112 : ∀ (p0 : Nat) (l1 : Int64) (x3 : Int32) (M : vv_M) (h0 : vv_bb S p0) (hf : k112 p0 l1 x3 M = some u), vv_V [] yL_all.cls yL_all.name cL_all 5 (some .long) (vv_R 3 0 0) S.length (vv_sz S) (vv_fl S u) 112 [(0, .ref p0), (1, .long l1), (3, .int x3)] [] S M) : ∀ (k : Nat) (p0 : Nat) (l1 : Int64) (x3 : Int32) (x4 : Int32) (M : vv_M) (h0 : vv_bb S p0) (hf : f_L_all_155 n k112 k p0 l1 x3 x4 M = some u), vv_V [] yL_all.cls yL_all.name cL_all 5 (some .long) (vv_R 3 0 0) S.length (vv_sz S) (vv_fl S u) 155 [(0, .ref p0), (1, .long l1), (3, .int x3), (4, .int x4)] [] S M := by
  intro k
  induction k with
  | zero =>
    intro p0 l1 x3 x4 M h0 hf
    exact absurd (show (none : Option (Int64 × vv_M)) = some u from hf) (by simp)
  | succ k ih =>
    intro p0 l1 x3 x4 M h0 hf
    rw [f_L_all_155.eq_2] at hf
    refine vi_iload 3 dL_all_155 rfl ?_
    refine vi_bipush (v := (10 : Int32)) dL_all_157 (by decide) ?_
    refine vi_icmp_ge 189 dL_all_159 (by decide) (fun c7 => ?_) (fun c7 => ?_)
    · rw [if_pos c7] at hf
      obtain ⟨y8, ey8, hf⟩ := vv_lt hf
      refine vi_iinc (v := y8) (L' := [(3, .int y8), (0, .ref p0), (1, .long l1), (4, .int x4)]) 2 dL_all_189 rfl (by rw [ey8]; rfl) (by decide) rfl ?_
      refine vi_goto 112 dL_all_192 (by decide) ?_
      refine vi_sub (L' := [(0, .ref p0), (1, .long l1), (3, .int y8)]) [1, 2, 0] rfl ?_
      exact hk112 p0 l1 y8 M h0 hf
    · rw [if_neg c7] at hf
      refine vi_ldc2 wk_L_10 dL_all_162 ?_
      refine vi_lload_n 1 dL_all_165 rfl rfl ?_
      refine vi_lmul dL_all_166 ?_
      refine vi_aload_n 0 dL_all_167 rfl rfl ?_
      refine vi_iload_n 2 dL_all_168 rfl rfl ?_
      refine vi_iload 3 dL_all_169 rfl ?_
      refine vi_iconst (v := (2 : Int32)) dL_all_171 (by decide) ?_
      obtain ⟨g13, hf⟩ := vv_gd hf
      refine vi_idiv dL_all_172 g13 ?_
      refine vi_iload 3 dL_all_173 rfl ?_
      refine vi_iconst (v := (2 : Int32)) dL_all_175 (by decide) ?_
      obtain ⟨g12, hf⟩ := vv_gd hf
      refine vi_irem dL_all_176 g12 ?_
      obtain ⟨u9, hu9, hf⟩ := vv_bd hf
      refine vi_callV (As := [.int x3, .int (x4 / (2 : Int32)), .int (x4 - x4 / (2 : Int32) * (2 : Int32))]) (st := [.long ((31 : Int64) * l1)]) (t_X4_fault n p0 x3 (x4 / (2 : Int32)) (x4 - x4 / (2 : Int32) * (2 : Int32)) M u9 h0 hu9) rfl yo_X4_fault wm_L_28 wi_X4_fault ws_X4_fault wI_X4 wc_X4_fault (vv_bb_o h0) rfl ⟨Nat.le_of_ble_eq_true rfl, Nat.le_of_ble_eq_true rfl⟩ (vv_rm0 rfl rfl) (Nat.le_of_ble_eq_true rfl) rfl rfl dL_all_177 ?_
      refine vi_i2l dL_all_180 ?_
      refine vi_ladd dL_all_181 ?_
      obtain ⟨y10, ey10, hf⟩ := vv_lt hf
      refine vi_lstore_n (L' := [(1, .long y10), (0, .ref p0), (3, .int x3), (4, .int x4)]) dL_all_182 rfl (by decide) (by rw [ey10]; rfl) ?_
      obtain ⟨y11, ey11, hf⟩ := vv_lt hf
      refine vi_iinc (v := y11) (L' := [(4, .int y11), (1, .long y10), (0, .ref p0), (3, .int x3)]) 3 dL_all_183 rfl (by rw [ey11]; rfl) (by decide) rfl ?_
      refine vi_goto 155 dL_all_186 (by decide) ?_
      refine vi_sub (L' := [(0, .ref p0), (1, .long y10), (3, .int x3), (4, .int y11)]) [2, 1, 3, 0] rfl ?_
      exact ih p0 y10 x3 y11 u9.2 h0 hf
set_option maxRecDepth 20000 in
theorem t_L_all_124 {S : List vv_Sh} (n : Nat) (k112 : Nat → Int64 → Int32 → vv_M → Option (Int64 × vv_M)) (u : Int64 × vv_M) (hk112 : ∀ (p0 : Nat) (l1 : Int64) (x3 : Int32) (M : vv_M) (h0 : vv_bb S p0) (hf : k112 p0 l1 x3 M = some u), vv_V [] yL_all.cls yL_all.name cL_all 5 (some .long) (vv_R 3 0 0) S.length (vv_sz S) (vv_fl S u) 112 [(0, .ref p0), (1, .long l1), (3, .int x3)] [] S M) : ∀ (k : Nat) (p0 : Nat) (l1 : Int64) (x3 : Int32) (x4 : Int32) (M : vv_M) (h0 : vv_bb S p0) (hf : f_L_all_124 n k112 k p0 l1 x3 x4 M = some u), vv_V [] yL_all.cls yL_all.name cL_all 5 (some .long) (vv_R 3 0 0) S.length (vv_sz S) (vv_fl S u) 124 [(0, .ref p0), (1, .long l1), (3, .int x3), (4, .int x4)] [] S M := by
  intro k
  induction k with
  | zero =>
    intro p0 l1 x3 x4 M h0 hf
    exact absurd (show (none : Option (Int64 × vv_M)) = some u from hf) (by simp)
  | succ k ih =>
    intro p0 l1 x3 x4 M h0 hf
    rw [f_L_all_124.eq_2] at hf
    refine vi_iload 3 dL_all_124 rfl ?_
    refine vi_bipush (v := (11 : Int32)) dL_all_126 (by decide) ?_
    refine vi_icmp_ge 152 dL_all_128 (by decide) (fun c6 => ?_) (fun c6 => ?_)
    · rw [if_pos c6] at hf
      refine vi_iconst (v := (0 : Int32)) dL_all_152 (by decide) ?_
      refine vi_istore (L' := [(4, .int (0 : Int32)), (0, .ref p0), (1, .long l1), (3, .int x3)]) dL_all_153 (by decide) rfl ?_
      refine vi_sub (L' := [(0, .ref p0), (1, .long l1), (3, .int x3), (4, .int (0 : Int32))]) [1, 2, 3, 0] rfl ?_
      exact t_L_all_155 n k112 u hk112 n p0 l1 x3 (0 : Int32) M h0 hf
    · rw [if_neg c6] at hf
      refine vi_ldc2 wk_L_10 dL_all_131 ?_
      refine vi_lload_n 1 dL_all_134 rfl rfl ?_
      refine vi_lmul dL_all_135 ?_
      refine vi_aload_n 0 dL_all_136 rfl rfl ?_
      refine vi_iload_n 2 dL_all_137 rfl rfl ?_
      refine vi_iload 3 dL_all_138 rfl ?_
      obtain ⟨u14, hu14, hf⟩ := vv_bd hf
      refine vi_callV (As := [.int x3, .int x4]) (st := [.long ((31 : Int64) * l1)]) (t_X4_board n p0 x3 x4 M u14 h0 hu14) rfl yo_X4_board wm_L_25 wi_X4_board ws_X4_board wI_X4 wc_X4_board (vv_bb_o h0) rfl ⟨Nat.le_of_ble_eq_true rfl, Nat.le_of_ble_eq_true rfl⟩ (vv_rm0 rfl rfl) (Nat.le_of_ble_eq_true rfl) rfl rfl dL_all_140 ?_
      refine vi_i2l dL_all_143 ?_
      refine vi_ladd dL_all_144 ?_
      obtain ⟨y15, ey15, hf⟩ := vv_lt hf
      refine vi_lstore_n (L' := [(1, .long y15), (0, .ref p0), (3, .int x3), (4, .int x4)]) dL_all_145 rfl (by decide) (by rw [ey15]; rfl) ?_
      obtain ⟨y16, ey16, hf⟩ := vv_lt hf
      refine vi_iinc (v := y16) (L' := [(4, .int y16), (1, .long y15), (0, .ref p0), (3, .int x3)]) 3 dL_all_146 rfl (by rw [ey16]; rfl) (by decide) rfl ?_
      refine vi_goto 124 dL_all_149 (by decide) ?_
      refine vi_sub (L' := [(0, .ref p0), (1, .long y15), (3, .int x3), (4, .int y16)]) [2, 1, 3, 0] rfl ?_
      exact ih p0 y15 x3 y16 u14.2 h0 hf
set_option maxRecDepth 20000 in
theorem t_L_all_112 {S : List vv_Sh} (n : Nat)  (u : Int64 × vv_M)  : ∀ (k : Nat) (p0 : Nat) (l1 : Int64) (x3 : Int32) (M : vv_M) (h0 : vv_bb S p0) (hf : f_L_all_112 n  k p0 l1 x3 M = some u), vv_V [] yL_all.cls yL_all.name cL_all 5 (some .long) (vv_R 3 0 0) S.length (vv_sz S) (vv_fl S u) 112 [(0, .ref p0), (1, .long l1), (3, .int x3)] [] S M := by
  intro k
  induction k with
  | zero =>
    intro p0 l1 x3 M h0 hf
    exact absurd (show (none : Option (Int64 × vv_M)) = some u from hf) (by simp)
  | succ k ih =>
    intro p0 l1 x3 M h0 hf
    rw [f_L_all_112.eq_2] at hf
    refine vi_iload_n 2 dL_all_112 rfl rfl ?_
    refine vi_aload_n 0 dL_all_113 rfl rfl ?_
    refine vi_iconst (v := (1 : Int32)) dL_all_114 (by decide) ?_
    obtain ⟨u4, hu4, hf⟩ := vv_bd hf
    refine vi_callV (As := [.int (1 : Int32)]) (st := [.int x3]) (t_X4_count n p0 (1 : Int32) M u4 h0 hu4) rfl yo_X4_count wm_L_12 wi_X4_count ws_X4_count wI_X4 wc_X4_count (vv_bb_o h0) rfl ⟨Nat.le_of_ble_eq_true rfl, Nat.le_of_ble_eq_true rfl⟩ (vv_rm0 rfl rfl) (Nat.le_of_ble_eq_true rfl) rfl rfl dL_all_115 ?_
    refine vi_icmp_ge 195 dL_all_118 (by decide) (fun c5 => ?_) (fun c5 => ?_)
    · rw [if_pos c5] at hf
      refine vi_lload_n 1 dL_all_195 rfl rfl ?_
      obtain rfl := Option.some.inj hf
      exact vi_ret (v := some (.long l1)) rfl ⟨dL_all_196, rfl⟩ ⟨rfl, rfl, rfl⟩
    · rw [if_neg c5] at hf
      refine vi_iconst (v := (0 : Int32)) dL_all_121 (by decide) ?_
      refine vi_istore (L' := [(4, .int (0 : Int32)), (0, .ref p0), (1, .long l1), (3, .int x3)]) dL_all_122 (by decide) rfl ?_
      refine vi_sub (L' := [(0, .ref p0), (1, .long l1), (3, .int x3), (4, .int (0 : Int32))]) [1, 2, 3, 0] rfl ?_
      exact t_L_all_124 n (f_L_all_112 n k) u ih n p0 l1 x3 (0 : Int32) u4.2 h0 hf
set_option maxRecDepth 20000 in
theorem t_L_all_78 {S : List vv_Sh} (n : Nat)  (u : Int64 × vv_M)  : ∀ (k : Nat) (p0 : Nat) (l1 : Int64) (x3 : Int32) (M : vv_M) (h0 : vv_bb S p0) (hf : f_L_all_78 n  k p0 l1 x3 M = some u), vv_V [] yL_all.cls yL_all.name cL_all 5 (some .long) (vv_R 3 0 0) S.length (vv_sz S) (vv_fl S u) 78 [(0, .ref p0), (1, .long l1), (3, .int x3)] [] S M := by
  intro k
  induction k with
  | zero =>
    intro p0 l1 x3 M h0 hf
    exact absurd (show (none : Option (Int64 × vv_M)) = some u from hf) (by simp)
  | succ k ih =>
    intro p0 l1 x3 M h0 hf
    rw [f_L_all_78.eq_2] at hf
    refine vi_iload_n 2 dL_all_78 rfl rfl ?_
    refine vi_bipush (v := (24 : Int32)) dL_all_79 (by decide) ?_
    refine vi_icmp_ge 110 dL_all_81 (by decide) (fun c3 => ?_) (fun c3 => ?_)
    · rw [if_pos c3] at hf
      refine vi_iconst (v := (0 : Int32)) dL_all_110 (by decide) ?_
      refine vi_istore_n (L' := [(3, .int (0 : Int32)), (0, .ref p0), (1, .long l1)]) dL_all_111 rfl (by decide) rfl ?_
      refine vi_sub (L' := [(0, .ref p0), (1, .long l1), (3, .int (0 : Int32))]) [1, 2, 0] rfl ?_
      exact t_L_all_112 n  u  n p0 l1 (0 : Int32) M h0 hf
    · rw [if_neg c3] at hf
      refine vi_ldc2 wk_L_10 dL_all_84 ?_
      refine vi_lload_n 1 dL_all_87 rfl rfl ?_
      refine vi_lmul dL_all_88 ?_
      refine vi_aload_n 0 dL_all_89 rfl rfl ?_
      refine vi_iload_n 2 dL_all_90 rfl rfl ?_
      refine vi_bipush (v := (6 : Int32)) dL_all_91 (by decide) ?_
      obtain ⟨g21, hf⟩ := vv_gd hf
      refine vi_idiv dL_all_93 g21 ?_
      refine vi_iload_n 2 dL_all_94 rfl rfl ?_
      refine vi_bipush (v := (6 : Int32)) dL_all_95 (by decide) ?_
      obtain ⟨g20, hf⟩ := vv_gd hf
      refine vi_irem dL_all_97 g20 ?_
      obtain ⟨u17, hu17, hf⟩ := vv_bd hf
      refine vi_callV (As := [.int (x3 / (6 : Int32)), .int (x3 - x3 / (6 : Int32) * (6 : Int32))]) (st := [.long ((31 : Int64) * l1)]) (t_X4_curve n p0 (x3 / (6 : Int32)) (x3 - x3 / (6 : Int32) * (6 : Int32)) M u17 h0 hu17) rfl yo_X4_curve wm_L_22 wi_X4_curve ws_X4_curve wI_X4 wc_X4_curve (vv_bb_o h0) rfl ⟨Nat.le_of_ble_eq_true rfl, Nat.le_of_ble_eq_true rfl⟩ (vv_rm0 rfl rfl) (Nat.le_of_ble_eq_true rfl) rfl rfl dL_all_98 ?_
      refine vi_i2l dL_all_101 ?_
      refine vi_ladd dL_all_102 ?_
      obtain ⟨y18, ey18, hf⟩ := vv_lt hf
      refine vi_lstore_n (L' := [(1, .long y18), (0, .ref p0), (3, .int x3)]) dL_all_103 rfl (by decide) (by rw [ey18]; rfl) ?_
      obtain ⟨y19, ey19, hf⟩ := vv_lt hf
      refine vi_iinc (v := y19) (L' := [(3, .int y19), (1, .long y18), (0, .ref p0)]) 2 dL_all_104 rfl (by rw [ey19]; rfl) (by decide) rfl ?_
      refine vi_goto 78 dL_all_107 (by decide) ?_
      refine vi_sub (L' := [(0, .ref p0), (1, .long y18), (3, .int y19)]) [2, 1, 0] rfl ?_
      exact ih p0 y18 y19 u17.2 h0 hf
set_option maxRecDepth 20000 in
theorem t_L_all_42 {S : List vv_Sh} (n : Nat) (k33 : Nat → Int64 → Int32 → vv_M → Option (Int64 × vv_M)) (u : Int64 × vv_M) (hk33 : ∀ (p0 : Nat) (l1 : Int64) (x3 : Int32) (M : vv_M) (h0 : vv_bb S p0) (hf : k33 p0 l1 x3 M = some u), vv_V [] yL_all.cls yL_all.name cL_all 5 (some .long) (vv_R 3 0 0) S.length (vv_sz S) (vv_fl S u) 33 [(0, .ref p0), (1, .long l1), (3, .int x3)] [] S M) : ∀ (k : Nat) (p0 : Nat) (l1 : Int64) (x3 : Int32) (x4 : Int32) (M : vv_M) (h0 : vv_bb S p0) (hf : f_L_all_42 n k33 k p0 l1 x3 x4 M = some u), vv_V [] yL_all.cls yL_all.name cL_all 5 (some .long) (vv_R 3 0 0) S.length (vv_sz S) (vv_fl S u) 42 [(0, .ref p0), (1, .long l1), (3, .int x3), (4, .int x4)] [] S M := by
  intro k
  induction k with
  | zero =>
    intro p0 l1 x3 x4 M h0 hf
    exact absurd (show (none : Option (Int64 × vv_M)) = some u from hf) (by simp)
  | succ k ih =>
    intro p0 l1 x3 x4 M h0 hf
    rw [f_L_all_42.eq_2] at hf
    refine vi_iload 3 dL_all_42 rfl ?_
    refine vi_bipush (v := (7 : Int32)) dL_all_44 (by decide) ?_
    refine vi_icmp_ge 70 dL_all_46 (by decide) (fun c22 => ?_) (fun c22 => ?_)
    · rw [if_pos c22] at hf
      obtain ⟨y23, ey23, hf⟩ := vv_lt hf
      refine vi_iinc (v := y23) (L' := [(3, .int y23), (0, .ref p0), (1, .long l1), (4, .int x4)]) 2 dL_all_70 rfl (by rw [ey23]; rfl) (by decide) rfl ?_
      refine vi_goto 33 dL_all_73 (by decide) ?_
      refine vi_sub (L' := [(0, .ref p0), (1, .long l1), (3, .int y23)]) [1, 2, 0] rfl ?_
      exact hk33 p0 l1 y23 M h0 hf
    · rw [if_neg c22] at hf
      refine vi_ldc2 wk_L_10 dL_all_49 ?_
      refine vi_lload_n 1 dL_all_52 rfl rfl ?_
      refine vi_lmul dL_all_53 ?_
      refine vi_aload_n 0 dL_all_54 rfl rfl ?_
      refine vi_iload_n 2 dL_all_55 rfl rfl ?_
      refine vi_iload 3 dL_all_56 rfl ?_
      obtain ⟨u24, hu24, hf⟩ := vv_bd hf
      refine vi_callV (As := [.int x3, .int x4]) (st := [.long ((31 : Int64) * l1)]) (t_X4_zone n p0 x3 x4 M u24 h0 hu24) rfl yo_X4_zone wm_L_18 wi_X4_zone ws_X4_zone wI_X4 wc_X4_zone (vv_bb_o h0) rfl ⟨Nat.le_of_ble_eq_true rfl, Nat.le_of_ble_eq_true rfl⟩ (vv_rm0 rfl rfl) (Nat.le_of_ble_eq_true rfl) rfl rfl dL_all_58 ?_
      refine vi_i2l dL_all_61 ?_
      refine vi_ladd dL_all_62 ?_
      obtain ⟨y25, ey25, hf⟩ := vv_lt hf
      refine vi_lstore_n (L' := [(1, .long y25), (0, .ref p0), (3, .int x3), (4, .int x4)]) dL_all_63 rfl (by decide) (by rw [ey25]; rfl) ?_
      obtain ⟨y26, ey26, hf⟩ := vv_lt hf
      refine vi_iinc (v := y26) (L' := [(4, .int y26), (1, .long y25), (0, .ref p0), (3, .int x3)]) 3 dL_all_64 rfl (by rw [ey26]; rfl) (by decide) rfl ?_
      refine vi_goto 42 dL_all_67 (by decide) ?_
      refine vi_sub (L' := [(0, .ref p0), (1, .long y25), (3, .int x3), (4, .int y26)]) [2, 1, 3, 0] rfl ?_
      exact ih p0 y25 x3 y26 u24.2 h0 hf
set_option maxRecDepth 20000 in
theorem t_L_all_33 {S : List vv_Sh} (n : Nat)  (u : Int64 × vv_M)  : ∀ (k : Nat) (p0 : Nat) (l1 : Int64) (x3 : Int32) (M : vv_M) (h0 : vv_bb S p0) (hf : f_L_all_33 n  k p0 l1 x3 M = some u), vv_V [] yL_all.cls yL_all.name cL_all 5 (some .long) (vv_R 3 0 0) S.length (vv_sz S) (vv_fl S u) 33 [(0, .ref p0), (1, .long l1), (3, .int x3)] [] S M := by
  intro k
  induction k with
  | zero =>
    intro p0 l1 x3 M h0 hf
    exact absurd (show (none : Option (Int64 × vv_M)) = some u from hf) (by simp)
  | succ k ih =>
    intro p0 l1 x3 M h0 hf
    rw [f_L_all_33.eq_2] at hf
    refine vi_iload_n 2 dL_all_33 rfl rfl ?_
    refine vi_bipush (v := (6 : Int32)) dL_all_34 (by decide) ?_
    refine vi_icmp_ge 76 dL_all_36 (by decide) (fun c2 => ?_) (fun c2 => ?_)
    · rw [if_pos c2] at hf
      refine vi_iconst (v := (0 : Int32)) dL_all_76 (by decide) ?_
      refine vi_istore_n (L' := [(3, .int (0 : Int32)), (0, .ref p0), (1, .long l1)]) dL_all_77 rfl (by decide) rfl ?_
      refine vi_sub (L' := [(0, .ref p0), (1, .long l1), (3, .int (0 : Int32))]) [1, 2, 0] rfl ?_
      exact t_L_all_78 n  u  n p0 l1 (0 : Int32) M h0 hf
    · rw [if_neg c2] at hf
      refine vi_iconst (v := (0 : Int32)) dL_all_39 (by decide) ?_
      refine vi_istore (L' := [(4, .int (0 : Int32)), (0, .ref p0), (1, .long l1), (3, .int x3)]) dL_all_40 (by decide) rfl ?_
      refine vi_sub (L' := [(0, .ref p0), (1, .long l1), (3, .int x3), (4, .int (0 : Int32))]) [1, 2, 3, 0] rfl ?_
      exact t_L_all_42 n (f_L_all_33 n k) u ih n p0 l1 x3 (0 : Int32) M h0 hf
set_option maxRecDepth 20000 in
theorem t_L_all_6 {S : List vv_Sh} (n : Nat)  (u : Int64 × vv_M)  : ∀ (k : Nat) (p0 : Nat) (l1 : Int64) (x3 : Int32) (M : vv_M) (h0 : vv_bb S p0) (hf : f_L_all_6 n  k p0 l1 x3 M = some u), vv_V [] yL_all.cls yL_all.name cL_all 5 (some .long) (vv_R 3 0 0) S.length (vv_sz S) (vv_fl S u) 6 [(0, .ref p0), (1, .long l1), (3, .int x3)] [] S M := by
  intro k
  induction k with
  | zero =>
    intro p0 l1 x3 M h0 hf
    exact absurd (show (none : Option (Int64 × vv_M)) = some u from hf) (by simp)
  | succ k ih =>
    intro p0 l1 x3 M h0 hf
    rw [f_L_all_6.eq_2] at hf
    refine vi_iload_n 2 dL_all_6 rfl rfl ?_
    refine vi_bipush (v := (14 : Int32)) dL_all_7 (by decide) ?_
    refine vi_icmp_ge 31 dL_all_9 (by decide) (fun c1 => ?_) (fun c1 => ?_)
    · rw [if_pos c1] at hf
      refine vi_iconst (v := (0 : Int32)) dL_all_31 (by decide) ?_
      refine vi_istore_n (L' := [(3, .int (0 : Int32)), (0, .ref p0), (1, .long l1)]) dL_all_32 rfl (by decide) rfl ?_
      refine vi_sub (L' := [(0, .ref p0), (1, .long l1), (3, .int (0 : Int32))]) [1, 2, 0] rfl ?_
      exact t_L_all_33 n  u  n p0 l1 (0 : Int32) M h0 hf
    · rw [if_neg c1] at hf
      refine vi_ldc2 wk_L_10 dL_all_12 ?_
      refine vi_lload_n 1 dL_all_15 rfl rfl ?_
      refine vi_lmul dL_all_16 ?_
      refine vi_aload_n 0 dL_all_17 rfl rfl ?_
      refine vi_iload_n 2 dL_all_18 rfl rfl ?_
      obtain ⟨u27, hu27, hf⟩ := vv_bd hf
      refine vi_callV (As := [.int x3]) (st := [.long ((31 : Int64) * l1)]) (t_X4_count n p0 x3 M u27 h0 hu27) rfl yo_X4_count wm_L_12 wi_X4_count ws_X4_count wI_X4 wc_X4_count (vv_bb_o h0) rfl ⟨Nat.le_of_ble_eq_true rfl, Nat.le_of_ble_eq_true rfl⟩ (vv_rm0 rfl rfl) (Nat.le_of_ble_eq_true rfl) rfl rfl dL_all_19 ?_
      refine vi_i2l dL_all_22 ?_
      refine vi_ladd dL_all_23 ?_
      obtain ⟨y28, ey28, hf⟩ := vv_lt hf
      refine vi_lstore_n (L' := [(1, .long y28), (0, .ref p0), (3, .int x3)]) dL_all_24 rfl (by decide) (by rw [ey28]; rfl) ?_
      obtain ⟨y29, ey29, hf⟩ := vv_lt hf
      refine vi_iinc (v := y29) (L' := [(3, .int y29), (1, .long y28), (0, .ref p0)]) 2 dL_all_25 rfl (by rw [ey29]; rfl) (by decide) rfl ?_
      refine vi_goto 6 dL_all_28 (by decide) ?_
      refine vi_sub (L' := [(0, .ref p0), (1, .long y28), (3, .int y29)]) [2, 1, 0] rfl ?_
      exact ih p0 y28 y29 u27.2 h0 hf
set_option maxRecDepth 20000 in
theorem t_L_all {S : List vv_Sh} (n : Nat) (p0 : Nat) (M : vv_M) (u : Int64 × vv_M) (h0 : vv_bb S p0) (hf : f_L_all n p0 M = some u) : vv_C yL_all (vv_w yL_all cL_all 5 (some .long)) (vv_R 3 0 0) [.ref p0] S M (some (.long u.1)) S u.2 := by
  refine vv_ofV (by decide +kernel) (Nat.le_of_ble_eq_true rfl) (L := [(0, .ref p0)]) rfl rfl rfl ?_
  show vv_V [] yL_all.cls yL_all.name cL_all 5 (some .long) (vv_R 3 0 0) S.length (vv_sz S) (vv_fl S u) 0 [(0, .ref p0)] [] S M
  unfold f_L_all at hf
  refine vi_ldc2 wk_L_8 dL_all_0 ?_
  refine vi_lstore_n (L' := [(1, .long (43 : Int64)), (0, .ref p0)]) dL_all_3 rfl (by decide) rfl ?_
  refine vi_iconst (v := (0 : Int32)) dL_all_4 (by decide) ?_
  refine vi_istore_n (L' := [(3, .int (0 : Int32)), (1, .long (43 : Int64)), (0, .ref p0)]) dL_all_5 rfl (by decide) rfl ?_
  refine vi_sub (L' := [(0, .ref p0), (1, .long (43 : Int64)), (3, .int (0 : Int32))]) [2, 1, 0] rfl ?_
  exact t_L_all_6 n  u  n p0 (43 : Int64) (0 : Int32) M h0 hf
