set_option maxRecDepth 20000 in
theorem t_J9_max_7cf53 {S : List vv_Sh} (n : Nat) (x0 : Int32) (x1 : Int32) (M : vv_M) (u : Int32 × vv_M)  (hf : f_J9_max_7cf53 n x0 x1 M = some u) : vv_C yJ9_max_7cf53 (vv_w yJ9_max_7cf53 cJ9_max_7cf53 2 (some .int)) (vv_R 0 0 0) [.int x0, .int x1] S M (some (.int u.1)) S u.2 := by
  refine vv_ofV (by decide +kernel) (Nat.le_of_ble_eq_true rfl) (L := [(0, .int x0), (1, .int x1)]) rfl rfl rfl ?_
  show vv_V [] yJ9_max_7cf53.cls yJ9_max_7cf53.name cJ9_max_7cf53 2 (some .int) (vv_R 0 0 0) S.length (vv_sz S) (vv_fi S u) 0 [(0, .int x0), (1, .int x1)] [] S M
  unfold f_J9_max_7cf53 at hf
  refine vi_iload_n 0 dJ9_max_7cf53_0 rfl rfl ?_
  refine vi_iload_n 1 dJ9_max_7cf53_1 rfl rfl ?_
  refine vi_icmp_lt 9 dJ9_max_7cf53_2 (by decide) (fun c1 => ?_) (fun c1 => ?_)
  · rw [if_pos c1] at hf
    refine vi_iload_n 1 dJ9_max_7cf53_9 rfl rfl ?_
    obtain rfl := Option.some.inj hf
    exact vi_ret (v := some (.int x1)) rfl ⟨dJ9_max_7cf53_10, .int, rfl, rfl⟩ ⟨rfl, rfl, rfl⟩
  · rw [if_neg c1] at hf
    refine vi_iload_n 0 dJ9_max_7cf53_5 rfl rfl ?_
    refine vi_goto 10 dJ9_max_7cf53_6 (by decide) ?_
    obtain rfl := Option.some.inj hf
    exact vi_ret (v := some (.int x0)) rfl ⟨dJ9_max_7cf53_10, .int, rfl, rfl⟩ ⟨rfl, rfl, rfl⟩
set_option maxRecDepth 20000 in
theorem t_J9_min_7cf53 {S : List vv_Sh} (n : Nat) (x0 : Int32) (x1 : Int32) (M : vv_M) (u : Int32 × vv_M)  (hf : f_J9_min_7cf53 n x0 x1 M = some u) : vv_C yJ9_min_7cf53 (vv_w yJ9_min_7cf53 cJ9_min_7cf53 2 (some .int)) (vv_R 0 0 0) [.int x0, .int x1] S M (some (.int u.1)) S u.2 := by
  refine vv_ofV (by decide +kernel) (Nat.le_of_ble_eq_true rfl) (L := [(0, .int x0), (1, .int x1)]) rfl rfl rfl ?_
  show vv_V [] yJ9_min_7cf53.cls yJ9_min_7cf53.name cJ9_min_7cf53 2 (some .int) (vv_R 0 0 0) S.length (vv_sz S) (vv_fi S u) 0 [(0, .int x0), (1, .int x1)] [] S M
  unfold f_J9_min_7cf53 at hf
  refine vi_iload_n 0 dJ9_min_7cf53_0 rfl rfl ?_
  refine vi_iload_n 1 dJ9_min_7cf53_1 rfl rfl ?_
  refine vi_icmp_gt 9 dJ9_min_7cf53_2 (by decide) (fun c1 => ?_) (fun c1 => ?_)
  · rw [if_pos c1] at hf
    refine vi_iload_n 1 dJ9_min_7cf53_9 rfl rfl ?_
    obtain rfl := Option.some.inj hf
    exact vi_ret (v := some (.int x1)) rfl ⟨dJ9_min_7cf53_10, .int, rfl, rfl⟩ ⟨rfl, rfl, rfl⟩
  · rw [if_neg c1] at hf
    refine vi_iload_n 0 dJ9_min_7cf53_5 rfl rfl ?_
    refine vi_goto 10 dJ9_min_7cf53_6 (by decide) ?_
    obtain rfl := Option.some.inj hf
    exact vi_ret (v := some (.int x0)) rfl ⟨dJ9_min_7cf53_10, .int, rfl, rfl⟩ ⟨rfl, rfl, rfl⟩
set_option maxRecDepth 20000 in
theorem t_X2_changeWarmths_97 {S : List vv_Sh} (n : Nat) (k6 : Nat → Int32 → vv_M → Option (Unit × vv_M)) (u : Unit × vv_M) (hk6 : ∀ (p0 : Nat) (x1 : Int32) (M : vv_M) (h0 : vv_oven S p0) (hf : k6 p0 x1 M = some u), vv_V [] yX2_changeWarmths.cls yX2_changeWarmths.name cX2_changeWarmths 6 none (vv_R 1 0 0) S.length (vv_sz S) (vv_fu S u) 6 [(0, .ref p0), (1, .int x1)] [] S M) (p0 : Nat) (x1 : Int32) (x2 : Int32) (x5 : Int32) (M : vv_M) (h0 : vv_oven S p0) (hf : f_X2_changeWarmths_97 n k6 p0 x1 x2 x5 M = some u) : vv_V [] yX2_changeWarmths.cls yX2_changeWarmths.name cX2_changeWarmths 6 none (vv_R 1 0 0) S.length (vv_sz S) (vv_fu S u) 97 [(0, .ref p0), (1, .int x1), (2, .int x2), (5, .int x5)] [] S M := by
  unfold f_X2_changeWarmths_97 at hf
  refine vi_aload_n 0 dX2_changeWarmths_97 rfl rfl ?_
  refine vi_getr (t := p0 + 1) 0 rfl (vv_oven_o h0) rfl wu_X2 (by decide) wf_X2_9 dX2_changeWarmths_98 ?_
  refine vi_iload_n 2 dX2_changeWarmths_101 rfl rfl ?_
  refine vi_iconst (v := (3 : Int32)) dX2_changeWarmths_102 (by decide) ?_
  refine vi_iadd dX2_changeWarmths_103 ?_
  refine vi_iload 3 dX2_changeWarmths_104 rfl ?_
  obtain ⟨g11, hf⟩ := vv_gd hf
  obtain ⟨M12, eM12, hf⟩ := vv_lt hf
  refine vi_iast (vv_oven_zones h0) g11 eM12.symm dX2_changeWarmths_106 ?_
  obtain ⟨y13, ey13, hf⟩ := vv_lt hf
  refine vi_iinc (v := y13) (L' := [(1, .int y13), (0, .ref p0), (2, .int x2), (5, .int x5)]) 1 dX2_changeWarmths_107 rfl (by rw [ey13]; rfl) (by decide) rfl ?_
  refine vi_goto 6 dX2_changeWarmths_110 (by decide) ?_
  refine vi_sub (L' := [(0, .ref p0), (1, .int y13)]) [1, 0] rfl ?_
  exact hk6 p0 y13 M12 h0 hf
set_option maxRecDepth 20000 in
theorem t_X2_changeWarmths_66 {S : List vv_Sh} (n : Nat) (k6 : Nat → Int32 → vv_M → Option (Unit × vv_M)) (u : Unit × vv_M) (hk6 : ∀ (p0 : Nat) (x1 : Int32) (M : vv_M) (h0 : vv_oven S p0) (hf : k6 p0 x1 M = some u), vv_V [] yX2_changeWarmths.cls yX2_changeWarmths.name cX2_changeWarmths 6 none (vv_R 1 0 0) S.length (vv_sz S) (vv_fu S u) 6 [(0, .ref p0), (1, .int x1)] [] S M) (p0 : Nat) (x1 : Int32) (x2 : Int32) (x3 : Int32) (x4 : Int32) (x5 : Int32) (M : vv_M) (h0 : vv_oven S p0) (hf : f_X2_changeWarmths_66 n k6 p0 x1 x2 x3 x4 x5 M = some u) : vv_V [] yX2_changeWarmths.cls yX2_changeWarmths.name cX2_changeWarmths 6 none (vv_R 1 0 0) S.length (vv_sz S) (vv_fu S u) 66 [(0, .ref p0), (1, .int x1), (2, .int x2), (3, .int x3), (4, .int x4), (5, .int x5)] [] S M := by
  unfold f_X2_changeWarmths_66 at hf
  refine vi_iload 5 dX2_changeWarmths_66 rfl ?_
  refine vi_iload_n 3 dX2_changeWarmths_68 rfl rfl ?_
  refine vi_icmp_ge 86 dX2_changeWarmths_69 (by decide) (fun c8 => ?_) (fun c8 => ?_)
  · rw [if_pos c8] at hf
    refine vi_iload_n 3 dX2_changeWarmths_86 rfl rfl ?_
    refine vi_iload 5 dX2_changeWarmths_87 rfl ?_
    refine vi_iload 4 dX2_changeWarmths_89 rfl ?_
    refine vi_isub dX2_changeWarmths_91 ?_
    obtain ⟨u9, hu9, hf⟩ := vv_bd hf
    refine vi_callS (As := [.int x3, .int (x5 - x4)]) (st := []) (t_J9_max_7cf53 n x3 (x5 - x4) M u9  hu9) rfl yo_J9_max_7cf53 wm_X2_135 wi_J9_max_7cf53 wI_J9 wc_J9_max_7cf53 ⟨Nat.le_of_ble_eq_true rfl, Nat.le_of_ble_eq_true rfl⟩ (vv_rm0 rfl rfl) (Nat.le_of_ble_eq_true rfl) rfl rfl dX2_changeWarmths_92 ?_
    obtain ⟨y10, ey10, hf⟩ := vv_lt hf
    refine vi_istore (L' := [(5, .int y10), (0, .ref p0), (1, .int x1), (2, .int x2), (3, .int x3), (4, .int x4)]) dX2_changeWarmths_95 (by decide) (by rw [ey10]; rfl) ?_
    refine vi_sub (L' := [(0, .ref p0), (1, .int x1), (2, .int x2), (5, .int y10)]) [1, 2, 3, 0] rfl ?_
    exact t_X2_changeWarmths_97 n k6 u hk6 p0 x1 x2 y10 u9.2 h0 hf
  · rw [if_neg c8] at hf
    refine vi_iload_n 3 dX2_changeWarmths_72 rfl rfl ?_
    refine vi_iload 5 dX2_changeWarmths_73 rfl ?_
    refine vi_iload 4 dX2_changeWarmths_75 rfl ?_
    refine vi_iadd dX2_changeWarmths_77 ?_
    obtain ⟨u14, hu14, hf⟩ := vv_bd hf
    refine vi_callS (As := [.int x3, .int (x5 + x4)]) (st := []) (t_J9_min_7cf53 n x3 (x5 + x4) M u14  hu14) rfl yo_J9_min_7cf53 wm_X2_140 wi_J9_min_7cf53 wI_J9 wc_J9_min_7cf53 ⟨Nat.le_of_ble_eq_true rfl, Nat.le_of_ble_eq_true rfl⟩ (vv_rm0 rfl rfl) (Nat.le_of_ble_eq_true rfl) rfl rfl dX2_changeWarmths_78 ?_
    obtain ⟨y15, ey15, hf⟩ := vv_lt hf
    refine vi_istore (L' := [(5, .int y15), (0, .ref p0), (1, .int x1), (2, .int x2), (3, .int x3), (4, .int x4)]) dX2_changeWarmths_81 (by decide) (by rw [ey15]; rfl) ?_
    refine vi_goto 97 dX2_changeWarmths_83 (by decide) ?_
    refine vi_sub (L' := [(0, .ref p0), (1, .int x1), (2, .int x2), (5, .int y15)]) [1, 2, 3, 0] rfl ?_
    exact t_X2_changeWarmths_97 n k6 u hk6 p0 x1 x2 y15 u14.2 h0 hf
set_option maxRecDepth 20000 in
theorem t_X2_changeWarmths_6 {S : List vv_Sh} (n : Nat)  (u : Unit × vv_M)  : ∀ (k : Nat) (p0 : Nat) (x1 : Int32) (M : vv_M) (h0 : vv_oven S p0) (hf : f_X2_changeWarmths_6 n  k p0 x1 M = some u), vv_V [] yX2_changeWarmths.cls yX2_changeWarmths.name cX2_changeWarmths 6 none (vv_R 1 0 0) S.length (vv_sz S) (vv_fu S u) 6 [(0, .ref p0), (1, .int x1)] [] S M := by
  intro k
  induction k with
  | zero =>
    intro p0 x1 M h0 hf
    exact absurd (show (none : Option (Unit × vv_M)) = some u from hf) (by simp)
  | succ k ih =>
    intro p0 x1 M h0 hf
    rw [f_X2_changeWarmths_6.eq_2] at hf
    refine vi_iload_n 1 dX2_changeWarmths_6 rfl rfl ?_
    refine vi_bipush (v := (6 : Int32)) dX2_changeWarmths_7 (by decide) ?_
    refine vi_icmp_ge 113 dX2_changeWarmths_9 (by decide) (fun c2 => ?_) (fun c2 => ?_)
    · rw [if_pos c2] at hf
      obtain rfl := Option.some.inj hf
      exact vi_ret (v := none) rfl ⟨dX2_changeWarmths_113, rfl⟩ ⟨rfl, rfl, rfl⟩
    · rw [if_neg c2] at hf
      refine vi_iload_n 1 dX2_changeWarmths_12 rfl rfl ?_
      refine vi_iconst (v := (4 : Int32)) dX2_changeWarmths_13 (by decide) ?_
      refine vi_imul dX2_changeWarmths_14 ?_
      obtain ⟨y3, ey3, hf⟩ := vv_lt hf
      refine vi_istore_n (L' := [(2, .int y3), (0, .ref p0), (1, .int x1)]) dX2_changeWarmths_15 rfl (by decide) (by rw [ey3]; rfl) ?_
      refine vi_aload_n 1 dX2_changeWarmths_16 rfl rfl ?_
      refine vi_getr (t := p0 + 1) 0 rfl (vv_oven_o h0) rfl wu_X2 (by decide) wf_X2_9 dX2_changeWarmths_17 ?_
      refine vi_iload_n 0 dX2_changeWarmths_20 rfl rfl ?_
      refine vi_iconst (v := (1 : Int32)) dX2_changeWarmths_21 (by decide) ?_
      refine vi_iadd dX2_changeWarmths_22 ?_
      obtain ⟨g21, hf⟩ := vv_gd hf
      refine vi_iald (vv_oven_zones h0) g21 dX2_changeWarmths_23 ?_
      obtain ⟨y4, ey4, hf⟩ := vv_lt hf
      refine vi_istore_n (L' := [(3, .int y4), (2, .int y3), (0, .ref p0), (1, .int x1)]) dX2_changeWarmths_24 rfl (by decide) (by rw [ey4]; rfl) ?_
      refine vi_aload_n 2 dX2_changeWarmths_25 rfl rfl ?_
      refine vi_getr (t := p0 + 1) 0 rfl (vv_oven_o h0) rfl wu_X2 (by decide) wf_X2_9 dX2_changeWarmths_26 ?_
      refine vi_iload_n 1 dX2_changeWarmths_29 rfl rfl ?_
      refine vi_iconst (v := (2 : Int32)) dX2_changeWarmths_30 (by decide) ?_
      refine vi_iadd dX2_changeWarmths_31 ?_
      obtain ⟨g20, hf⟩ := vv_gd hf
      refine vi_iald (vv_oven_zones h0) g20 dX2_changeWarmths_32 ?_
      obtain ⟨y5, ey5, hf⟩ := vv_lt hf
      refine vi_istore (L' := [(4, .int y5), (3, .int y4), (2, .int y3), (0, .ref p0), (1, .int x1)]) dX2_changeWarmths_33 (by decide) (by rw [ey5]; rfl) ?_
      refine vi_bipush (v := (20 : Int32)) dX2_changeWarmths_35 (by decide) ?_
      refine vi_aload_n 3 dX2_changeWarmths_37 rfl rfl ?_
      refine vi_getr (t := p0 + 1) 0 rfl (vv_oven_o h0) rfl wu_X2 (by decide) wf_X2_9 dX2_changeWarmths_38 ?_
      refine vi_iload_n 2 dX2_changeWarmths_41 rfl rfl ?_
      refine vi_iconst (v := (3 : Int32)) dX2_changeWarmths_42 (by decide) ?_
      refine vi_iadd dX2_changeWarmths_43 ?_
      obtain ⟨g19, hf⟩ := vv_gd hf
      refine vi_iald (vv_oven_zones h0) g19 dX2_changeWarmths_44 ?_
      refine vi_aload_n 3 dX2_changeWarmths_45 rfl rfl ?_
      refine vi_getr (t := p0 + 3) 2 rfl (vv_oven_o h0) rfl wu_X2 (by decide) wf_X2_18 dX2_changeWarmths_46 ?_
      refine vi_iconst (v := (3 : Int32)) dX2_changeWarmths_49 (by decide) ?_
      obtain ⟨g18, hf⟩ := vv_gd hf
      refine vi_iald (vv_oven_numbers h0) g18 dX2_changeWarmths_50 ?_
      refine vi_aload_n 3 dX2_changeWarmths_51 rfl rfl ?_
      refine vi_getr (t := p0 + 5) 4 rfl (vv_oven_o h0) rfl wu_X2 (by decide) wf_X2_24 dX2_changeWarmths_52 ?_
      refine vi_iload_n 4 dX2_changeWarmths_55 rfl rfl ?_
      obtain ⟨g17, hf⟩ := vv_gd hf
      refine vi_iald (vv_oven_weights h0) g17 dX2_changeWarmths_56 ?_
      refine vi_imul dX2_changeWarmths_57 ?_
      refine vi_iconst (v := (5 : Int32)) dX2_changeWarmths_58 (by decide) ?_
      obtain ⟨g16, hf⟩ := vv_gd hf
      refine vi_idiv dX2_changeWarmths_59 g16 ?_
      refine vi_isub dX2_changeWarmths_60 ?_
      obtain ⟨u6, hu6, hf⟩ := vv_bd hf
      refine vi_callS (As := [.int (20 : Int32), .int ((M (p0 + 1) (y3 + (3 : Int32)).toNatClampNeg) - (((M (p0 + 3) (3 : Int32).toNatClampNeg) * (M (p0 + 5) x1.toNatClampNeg)) / (5 : Int32)))]) (st := []) (t_J9_max_7cf53 n (20 : Int32) ((M (p0 + 1) (y3 + (3 : Int32)).toNatClampNeg) - (((M (p0 + 3) (3 : Int32).toNatClampNeg) * (M (p0 + 5) x1.toNatClampNeg)) / (5 : Int32))) M u6  hu6) rfl yo_J9_max_7cf53 wm_X2_135 wi_J9_max_7cf53 wI_J9 wc_J9_max_7cf53 ⟨Nat.le_of_ble_eq_true rfl, Nat.le_of_ble_eq_true rfl⟩ (vv_rm0 rfl rfl) (Nat.le_of_ble_eq_true rfl) rfl rfl dX2_changeWarmths_61 ?_
      obtain ⟨y7, ey7, hf⟩ := vv_lt hf
      refine vi_istore (L' := [(5, .int y7), (4, .int y5), (3, .int y4), (2, .int y3), (0, .ref p0), (1, .int x1)]) dX2_changeWarmths_64 (by decide) (by rw [ey7]; rfl) ?_
      refine vi_sub (L' := [(0, .ref p0), (1, .int x1), (2, .int y3), (3, .int y4), (4, .int y5), (5, .int y7)]) [4, 5, 3, 2, 1, 0] rfl ?_
      exact t_X2_changeWarmths_66 n (f_X2_changeWarmths_6 n k) u ih p0 x1 y3 y4 y5 y7 u6.2 h0 hf
set_option maxRecDepth 20000 in
theorem t_X2_changeWarmths {S : List vv_Sh} (n : Nat) (p0 : Nat) (M : vv_M) (u : Unit × vv_M) (h0 : vv_oven S p0) (hf : f_X2_changeWarmths n p0 M = some u) : vv_C yX2_changeWarmths (vv_w yX2_changeWarmths cX2_changeWarmths 6 none) (vv_R 1 0 0) [.ref p0] S M none S u.2 := by
  refine vv_ofV (by decide +kernel) (Nat.le_of_ble_eq_true rfl) (L := [(0, .ref p0)]) rfl rfl rfl ?_
  show vv_V [] yX2_changeWarmths.cls yX2_changeWarmths.name cX2_changeWarmths 6 none (vv_R 1 0 0) S.length (vv_sz S) (vv_fu S u) 0 [(0, .ref p0)] [] S M
  unfold f_X2_changeWarmths at hf
  refine vi_aload_n 0 dX2_changeWarmths_0 rfl rfl ?_
  obtain ⟨u1, hu1, hf⟩ := vv_bd hf
  refine vi_callV (As := []) (st := []) (t_X2_sumWeights n p0 M u1 h0 hu1) rfl yo_X2_sumWeights wm_X2_132 wi_X2_sumWeights ws_X2_sumWeights wI_X2 wc_X2_sumWeights (vv_oven_o h0) rfl ⟨Nat.le_of_ble_eq_true rfl, Nat.le_of_ble_eq_true rfl⟩ (vv_rm0 rfl rfl) (Nat.le_of_ble_eq_true rfl) rfl rfl dX2_changeWarmths_1 ?_
  refine vi_iconst (v := (0 : Int32)) dX2_changeWarmths_4 (by decide) ?_
  refine vi_istore_n (L' := [(1, .int (0 : Int32)), (0, .ref p0)]) dX2_changeWarmths_5 rfl (by decide) rfl ?_
  refine vi_sub (L' := [(0, .ref p0), (1, .int (0 : Int32))]) [1, 0] rfl ?_
  exact t_X2_changeWarmths_6 n  u  n p0 (0 : Int32) u1.2 h0 hf
set_option maxRecDepth 20000 in
theorem t_X2_warm_59 {S : List vv_Sh} (n : Nat)  (u : Unit × vv_M)  (p0 : Nat) (x1 : Int32) (x3 : Int32) (M : vv_M) (h0 : vv_oven S p0) (hf : f_X2_warm_59 n  p0 x1 x3 M = some u) : vv_V [] yX2_warm.cls yX2_warm.name cX2_warm 5 none (vv_R 1 0 0) S.length (vv_sz S) (vv_fu S u) 59 [(0, .ref p0), (1, .int x1), (3, .int x3)] [] S M := by
  unfold f_X2_warm_59 at hf
  refine vi_aload_n 0 dX2_warm_59 rfl rfl ?_
  refine vi_getr (t := p0 + 4) 3 rfl (vv_oven_o h0) rfl wu_X2 (by decide) wf_X2_21 dX2_warm_60 ?_
  refine vi_iload_n 1 dX2_warm_63 rfl rfl ?_
  refine vi_iconst (v := (4 : Int32)) dX2_warm_64 (by decide) ?_
  refine vi_iadd dX2_warm_65 ?_
  refine vi_iload_n 2 dX2_warm_66 rfl rfl ?_
  obtain ⟨g7, hf⟩ := vv_gd hf
  obtain ⟨M8, eM8, hf⟩ := vv_lt hf
  refine vi_iast (vv_oven_boards h0) g7 eM8.symm dX2_warm_67 ?_
  refine vi_aload_n 0 dX2_warm_68 rfl rfl ?_
  refine vi_getr (t := p0 + 4) 3 rfl (vv_oven_o h0) rfl wu_X2 (by decide) wf_X2_21 dX2_warm_69 ?_
  refine vi_iload_n 1 dX2_warm_72 rfl rfl ?_
  refine vi_bipush (v := (6 : Int32)) dX2_warm_73 (by decide) ?_
  refine vi_iadd dX2_warm_75 ?_
  refine vi_aload_n 0 dX2_warm_76 rfl rfl ?_
  refine vi_getr (t := p0 + 4) 3 rfl (vv_oven_o h0) rfl wu_X2 (by decide) wf_X2_21 dX2_warm_77 ?_
  refine vi_iload_n 1 dX2_warm_80 rfl rfl ?_
  refine vi_bipush (v := (6 : Int32)) dX2_warm_81 (by decide) ?_
  refine vi_iadd dX2_warm_83 ?_
  obtain ⟨g18, hf⟩ := vv_gd hf
  refine vi_iald (vv_oven_boards h0) g18 dX2_warm_84 ?_
  refine vi_iload_n 2 dX2_warm_85 rfl rfl ?_
  obtain ⟨u9, hu9, hf⟩ := vv_bd hf
  refine vi_callS (As := [.int (M8 (p0 + 4) (x1 + (6 : Int32)).toNatClampNeg), .int x3]) (st := [.int (x1 + (6 : Int32)), .ref (p0 + 4)]) (t_J9_max_7cf53 n (M8 (p0 + 4) (x1 + (6 : Int32)).toNatClampNeg) x3 M8 u9  hu9) rfl yo_J9_max_7cf53 wm_X2_135 wi_J9_max_7cf53 wI_J9 wc_J9_max_7cf53 ⟨Nat.le_of_ble_eq_true rfl, Nat.le_of_ble_eq_true rfl⟩ (vv_rm0 rfl rfl) (Nat.le_of_ble_eq_true rfl) rfl rfl dX2_warm_86 ?_
  obtain ⟨g10, hf⟩ := vv_gd hf
  obtain ⟨M11, eM11, hf⟩ := vv_lt hf
  refine vi_iast (vv_oven_boards h0) g10 eM11.symm dX2_warm_89 ?_
  refine vi_iload_n 2 dX2_warm_90 rfl rfl ?_
  refine vi_aload_n 0 dX2_warm_91 rfl rfl ?_
  refine vi_getr (t := p0 + 2) 1 rfl (vv_oven_o h0) rfl wu_X2 (by decide) wf_X2_15 dX2_warm_92 ?_
  refine vi_aload_n 0 dX2_warm_95 rfl rfl ?_
  refine vi_getr (t := p0 + 4) 3 rfl (vv_oven_o h0) rfl wu_X2 (by decide) wf_X2_21 dX2_warm_96 ?_
  refine vi_iload_n 1 dX2_warm_99 rfl rfl ?_
  refine vi_iconst (v := (0 : Int32)) dX2_warm_100 (by decide) ?_
  refine vi_iadd dX2_warm_101 ?_
  obtain ⟨g17, hf⟩ := vv_gd hf
  refine vi_iald (vv_oven_boards h0) g17 dX2_warm_102 ?_
  refine vi_bipush (v := (6 : Int32)) dX2_warm_103 (by decide) ?_
  refine vi_imul dX2_warm_105 ?_
  refine vi_iconst (v := (1 : Int32)) dX2_warm_106 (by decide) ?_
  refine vi_iadd dX2_warm_107 ?_
  obtain ⟨g16, hf⟩ := vv_gd hf
  refine vi_iald (vv_oven_curves h0) g16 dX2_warm_108 ?_
  refine vi_icmp_le 125 dX2_warm_109 (by decide) (fun c12 => ?_) (fun c12 => ?_)
  · rw [if_pos c12] at hf
    obtain rfl := Option.some.inj hf
    exact vi_ret (v := none) rfl ⟨dX2_warm_125, rfl⟩ ⟨rfl, rfl, rfl⟩
  · rw [if_neg c12] at hf
    refine vi_aload_n 0 dX2_warm_112 rfl rfl ?_
    refine vi_getr (t := p0 + 4) 3 rfl (vv_oven_o h0) rfl wu_X2 (by decide) wf_X2_21 dX2_warm_113 ?_
    refine vi_iload_n 1 dX2_warm_116 rfl rfl ?_
    refine vi_bipush (v := (7 : Int32)) dX2_warm_117 (by decide) ?_
    refine vi_iadd dX2_warm_119 ?_
    refine vi_dup2 dX2_warm_120 rfl rfl ?_
    obtain ⟨g15, hf⟩ := vv_gd hf
    refine vi_iald (vv_oven_boards h0) g15 dX2_warm_121 ?_
    refine vi_iconst (v := (1 : Int32)) dX2_warm_122 (by decide) ?_
    refine vi_iadd dX2_warm_123 ?_
    obtain ⟨g13, hf⟩ := vv_gd hf
    obtain ⟨M14, eM14, hf⟩ := vv_lt hf
    refine vi_iast (vv_oven_boards h0) g13 eM14.symm dX2_warm_124 ?_
    obtain rfl := Option.some.inj hf
    exact vi_ret (v := none) rfl ⟨dX2_warm_125, rfl⟩ ⟨rfl, rfl, rfl⟩
set_option maxRecDepth 20000 in
theorem t_X2_warm {S : List vv_Sh} (n : Nat) (p0 : Nat) (x1 : Int32) (M : vv_M) (u : Unit × vv_M) (h0 : vv_oven S p0) (hf : f_X2_warm n p0 x1 M = some u) : vv_C yX2_warm (vv_w yX2_warm cX2_warm 5 none) (vv_R 1 0 0) [.ref p0, .int x1] S M none S u.2 := by
  refine vv_ofV (by decide +kernel) (Nat.le_of_ble_eq_true rfl) (L := [(0, .ref p0), (1, .int x1)]) rfl rfl rfl ?_
  show vv_V [] yX2_warm.cls yX2_warm.name cX2_warm 5 none (vv_R 1 0 0) S.length (vv_sz S) (vv_fu S u) 0 [(0, .ref p0), (1, .int x1)] [] S M
  unfold f_X2_warm at hf
  refine vi_aload_n 0 dX2_warm_0 rfl rfl ?_
  refine vi_getr (t := p0 + 1) 0 rfl (vv_oven_o h0) rfl wu_X2 (by decide) wf_X2_9 dX2_warm_1 ?_
  refine vi_aload_n 0 dX2_warm_4 rfl rfl ?_
  refine vi_getr (t := p0 + 4) 3 rfl (vv_oven_o h0) rfl wu_X2 (by decide) wf_X2_21 dX2_warm_5 ?_
  refine vi_iload_n 1 dX2_warm_8 rfl rfl ?_
  refine vi_bipush (v := (11 : Int32)) dX2_warm_9 (by decide) ?_
  refine vi_iadd dX2_warm_11 ?_
  obtain ⟨g23, hf⟩ := vv_gd hf
  refine vi_iald (vv_oven_boards h0) g23 dX2_warm_12 ?_
  refine vi_iconst (v := (4 : Int32)) dX2_warm_13 (by decide) ?_
  refine vi_imul dX2_warm_14 ?_
  refine vi_iconst (v := (3 : Int32)) dX2_warm_15 (by decide) ?_
  refine vi_iadd dX2_warm_16 ?_
  obtain ⟨g22, hf⟩ := vv_gd hf
  refine vi_iald (vv_oven_zones h0) g22 dX2_warm_17 ?_
  obtain ⟨y1, ey1, hf⟩ := vv_lt hf
  refine vi_istore_n (L' := [(2, .int y1), (0, .ref p0), (1, .int x1)]) dX2_warm_18 rfl (by decide) (by rw [ey1]; rfl) ?_
  refine vi_aload_n 1 dX2_warm_19 rfl rfl ?_
  refine vi_getr (t := p0 + 4) 3 rfl (vv_oven_o h0) rfl wu_X2 (by decide) wf_X2_21 dX2_warm_20 ?_
  refine vi_iload_n 2 dX2_warm_23 rfl rfl ?_
  refine vi_iconst (v := (4 : Int32)) dX2_warm_24 (by decide) ?_
  refine vi_iadd dX2_warm_25 ?_
  obtain ⟨g21, hf⟩ := vv_gd hf
  refine vi_iald (vv_oven_boards h0) g21 dX2_warm_26 ?_
  obtain ⟨y2, ey2, hf⟩ := vv_lt hf
  refine vi_istore_n (L' := [(3, .int y2), (2, .int y1), (0, .ref p0), (1, .int x1)]) dX2_warm_27 rfl (by decide) (by rw [ey2]; rfl) ?_
  refine vi_iload_n 1 dX2_warm_28 rfl rfl ?_
  refine vi_iload_n 0 dX2_warm_29 rfl rfl ?_
  refine vi_isub dX2_warm_30 ?_
  refine vi_aload_n 2 dX2_warm_31 rfl rfl ?_
  refine vi_getr (t := p0 + 4) 3 rfl (vv_oven_o h0) rfl wu_X2 (by decide) wf_X2_21 dX2_warm_32 ?_
  refine vi_iload_n 3 dX2_warm_35 rfl rfl ?_
  refine vi_iconst (v := (1 : Int32)) dX2_warm_36 (by decide) ?_
  refine vi_iadd dX2_warm_37 ?_
  obtain ⟨g20, hf⟩ := vv_gd hf
  refine vi_iald (vv_oven_boards h0) g20 dX2_warm_38 ?_
  refine vi_iconst (v := (1 : Int32)) dX2_warm_39 (by decide) ?_
  refine vi_iadd dX2_warm_40 ?_
  obtain ⟨g19, hf⟩ := vv_gd hf
  refine vi_idiv dX2_warm_41 g19 ?_
  obtain ⟨y3, ey3, hf⟩ := vv_lt hf
  refine vi_istore (L' := [(4, .int y3), (3, .int y2), (2, .int y1), (0, .ref p0), (1, .int x1)]) dX2_warm_42 (by decide) (by rw [ey3]; rfl) ?_
  refine vi_iload_n 1 dX2_warm_44 rfl rfl ?_
  refine vi_iload 0 dX2_warm_45 rfl ?_
  refine vi_iadd dX2_warm_47 ?_
  obtain ⟨y4, ey4, hf⟩ := vv_lt hf
  refine vi_istore_n (L' := [(3, .int y4), (4, .int y3), (2, .int y1), (0, .ref p0), (1, .int x1)]) dX2_warm_48 rfl (by decide) (by rw [ey4]; rfl) ?_
  refine vi_aload_n 3 dX2_warm_49 rfl rfl ?_
  refine vi_getr (t := p0 + 4) 3 rfl (vv_oven_o h0) rfl wu_X2 (by decide) wf_X2_21 dX2_warm_50 ?_
  refine vi_iload_n 4 dX2_warm_53 rfl rfl ?_
  refine vi_iconst (v := (5 : Int32)) dX2_warm_54 (by decide) ?_
  refine vi_iadd dX2_warm_55 ?_
  refine vi_iload 1 dX2_warm_56 rfl ?_
  obtain ⟨g5, hf⟩ := vv_gd hf
  obtain ⟨M6, eM6, hf⟩ := vv_lt hf
  refine vi_iast (vv_oven_boards h0) g5 eM6.symm dX2_warm_58 ?_
  refine vi_sub (L' := [(0, .ref p0), (1, .int x1), (3, .int y4)]) [3, 4, 0] rfl ?_
  exact t_X2_warm_59 n  u  p0 x1 y4 M6 h0 hf
set_option maxRecDepth 20000 in
theorem t_X2_judgeOnBelt_109 {S : List vv_Sh} (n : Nat)  (u : Unit × vv_M)  (p0 : Nat) (x1 : Int32) (x4 : Int32) (M : vv_M) (h0 : vv_oven S p0) (hf : f_X2_judgeOnBelt_109 n  p0 x1 x4 M = some u) : vv_V [] yX2_judgeOnBelt.cls yX2_judgeOnBelt.name cX2_judgeOnBelt 5 none (vv_R 1 0 0) S.length (vv_sz S) (vv_fu S u) 109 [(0, .ref p0), (1, .int x1), (4, .int x4)] [] S M := by
  unfold f_X2_judgeOnBelt_109 at hf
  refine vi_aload_n 0 dX2_judgeOnBelt_109 rfl rfl ?_
  refine vi_getr (t := p0 + 4) 3 rfl (vv_oven_o h0) rfl wu_X2 (by decide) wf_X2_21 dX2_judgeOnBelt_110 ?_
  refine vi_iload_n 1 dX2_judgeOnBelt_113 rfl rfl ?_
  refine vi_bipush (v := (9 : Int32)) dX2_judgeOnBelt_114 (by decide) ?_
  refine vi_iadd dX2_judgeOnBelt_116 ?_
  refine vi_iload 2 dX2_judgeOnBelt_117 rfl ?_
  obtain ⟨g6, hf⟩ := vv_gd hf
  obtain ⟨M7, eM7, hf⟩ := vv_lt hf
  refine vi_iast (vv_oven_boards h0) g6 eM7.symm dX2_judgeOnBelt_119 ?_
  obtain rfl := Option.some.inj hf
  exact vi_ret (v := none) rfl ⟨dX2_judgeOnBelt_120, rfl⟩ ⟨rfl, rfl, rfl⟩
set_option maxRecDepth 20000 in
theorem t_X2_judgeOnBelt_83 {S : List vv_Sh} (n : Nat)  (u : Unit × vv_M)  (p0 : Nat) (x1 : Int32) (x2 : Int32) (x3 : Int32) (x4 : Int32) (M : vv_M) (h0 : vv_oven S p0) (hf : f_X2_judgeOnBelt_83 n  p0 x1 x2 x3 x4 M = some u) : vv_V [] yX2_judgeOnBelt.cls yX2_judgeOnBelt.name cX2_judgeOnBelt 5 none (vv_R 1 0 0) S.length (vv_sz S) (vv_fu S u) 83 [(0, .ref p0), (1, .int x1), (2, .int x2), (3, .int x3), (4, .int x4)] [] S M := by
  unfold f_X2_judgeOnBelt_83 at hf
  refine vi_aload_n 0 dX2_judgeOnBelt_83 rfl rfl ?_
  refine vi_getr (t := p0 + 4) 3 rfl (vv_oven_o h0) rfl wu_X2 (by decide) wf_X2_21 dX2_judgeOnBelt_84 ?_
  refine vi_iload_n 1 dX2_judgeOnBelt_87 rfl rfl ?_
  refine vi_iconst (v := (4 : Int32)) dX2_judgeOnBelt_88 (by decide) ?_
  refine vi_iadd dX2_judgeOnBelt_89 ?_
  obtain ⟨g10, hf⟩ := vv_gd hf
  refine vi_iald (vv_oven_boards h0) g10 dX2_judgeOnBelt_90 ?_
  refine vi_aload_n 0 dX2_judgeOnBelt_91 rfl rfl ?_
  refine vi_getr (t := p0 + 2) 1 rfl (vv_oven_o h0) rfl wu_X2 (by decide) wf_X2_15 dX2_judgeOnBelt_92 ?_
  refine vi_iload_n 2 dX2_judgeOnBelt_95 rfl rfl ?_
  refine vi_iconst (v := (5 : Int32)) dX2_judgeOnBelt_96 (by decide) ?_
  refine vi_iadd dX2_judgeOnBelt_97 ?_
  obtain ⟨g9, hf⟩ := vv_gd hf
  refine vi_iald (vv_oven_curves h0) g9 dX2_judgeOnBelt_98 ?_
  refine vi_icmp_le 109 dX2_judgeOnBelt_99 (by decide) (fun c5 => ?_) (fun c5 => ?_)
  · rw [if_pos c5] at hf
    refine vi_sub (L' := [(0, .ref p0), (1, .int x1), (4, .int x4)]) [0, 1, 4] rfl ?_
    exact t_X2_judgeOnBelt_109 n  u  p0 x1 x4 M h0 hf
  · rw [if_neg c5] at hf
    refine vi_aload_n 0 dX2_judgeOnBelt_102 rfl rfl ?_
    refine vi_iload_n 1 dX2_judgeOnBelt_103 rfl rfl ?_
    refine vi_iconst (v := (2 : Int32)) dX2_judgeOnBelt_104 (by decide) ?_
    refine vi_iload_n 3 dX2_judgeOnBelt_105 rfl rfl ?_
    obtain ⟨u8, hu8, hf⟩ := vv_bd hf
    refine vi_callV (As := [.int x1, .int (2 : Int32), .int x3]) (st := []) (t_X2_noteFault n p0 x1 (2 : Int32) x3 M u8 h0 hu8) rfl yo_X2_noteFault wm_X2_128 wi_X2_noteFault ws_X2_noteFault wI_X2 wc_X2_noteFault (vv_oven_o h0) rfl ⟨Nat.le_of_ble_eq_true rfl, Nat.le_of_ble_eq_true rfl⟩ (vv_rm0 rfl rfl) (Nat.le_of_ble_eq_true rfl) rfl rfl dX2_judgeOnBelt_106 ?_
    refine vi_sub (L' := [(0, .ref p0), (1, .int x1), (4, .int x4)]) [0, 1, 4] rfl ?_
    exact t_X2_judgeOnBelt_109 n  u  p0 x1 x4 u8.2 h0 hf
set_option maxRecDepth 20000 in
theorem t_X2_judgeOnBelt_54 {S : List vv_Sh} (n : Nat)  (u : Unit × vv_M)  (p0 : Nat) (x1 : Int32) (x2 : Int32) (x3 : Int32) (x4 : Int32) (M : vv_M) (h0 : vv_oven S p0) (hf : f_X2_judgeOnBelt_54 n  p0 x1 x2 x3 x4 M = some u) : vv_V [] yX2_judgeOnBelt.cls yX2_judgeOnBelt.name cX2_judgeOnBelt 5 none (vv_R 1 0 0) S.length (vv_sz S) (vv_fu S u) 54 [(0, .ref p0), (1, .int x1), (2, .int x2), (3, .int x3), (4, .int x4)] [] S M := by
  unfold f_X2_judgeOnBelt_54 at hf
  refine vi_aload_n 0 dX2_judgeOnBelt_54 rfl rfl ?_
  refine vi_getr (t := p0 + 4) 3 rfl (vv_oven_o h0) rfl wu_X2 (by decide) wf_X2_21 dX2_judgeOnBelt_55 ?_
  refine vi_iload_n 1 dX2_judgeOnBelt_58 rfl rfl ?_
  refine vi_iconst (v := (5 : Int32)) dX2_judgeOnBelt_59 (by decide) ?_
  refine vi_iadd dX2_judgeOnBelt_60 ?_
  obtain ⟨g13, hf⟩ := vv_gd hf
  refine vi_iald (vv_oven_boards h0) g13 dX2_judgeOnBelt_61 ?_
  refine vi_aload_n 0 dX2_judgeOnBelt_62 rfl rfl ?_
  refine vi_getr (t := p0 + 2) 1 rfl (vv_oven_o h0) rfl wu_X2 (by decide) wf_X2_15 dX2_judgeOnBelt_63 ?_
  refine vi_iload_n 2 dX2_judgeOnBelt_66 rfl rfl ?_
  refine vi_iconst (v := (0 : Int32)) dX2_judgeOnBelt_67 (by decide) ?_
  refine vi_iadd dX2_judgeOnBelt_68 ?_
  obtain ⟨g12, hf⟩ := vv_gd hf
  refine vi_iald (vv_oven_curves h0) g12 dX2_judgeOnBelt_69 ?_
  refine vi_icmp_le 83 dX2_judgeOnBelt_70 (by decide) (fun c4 => ?_) (fun c4 => ?_)
  · rw [if_pos c4] at hf
    exact t_X2_judgeOnBelt_83 n  u  p0 x1 x2 x3 x4 M h0 hf
  · rw [if_neg c4] at hf
    refine vi_aload_n 0 dX2_judgeOnBelt_73 rfl rfl ?_
    refine vi_iload_n 1 dX2_judgeOnBelt_74 rfl rfl ?_
    refine vi_iconst (v := (0 : Int32)) dX2_judgeOnBelt_75 (by decide) ?_
    refine vi_iload_n 3 dX2_judgeOnBelt_76 rfl rfl ?_
    obtain ⟨u11, hu11, hf⟩ := vv_bd hf
    refine vi_callV (As := [.int x1, .int (0 : Int32), .int x3]) (st := []) (t_X2_noteFault n p0 x1 (0 : Int32) x3 M u11 h0 hu11) rfl yo_X2_noteFault wm_X2_128 wi_X2_noteFault ws_X2_noteFault wI_X2 wc_X2_noteFault (vv_oven_o h0) rfl ⟨Nat.le_of_ble_eq_true rfl, Nat.le_of_ble_eq_true rfl⟩ (vv_rm0 rfl rfl) (Nat.le_of_ble_eq_true rfl) rfl rfl dX2_judgeOnBelt_77 ?_
    refine vi_iconst (v := (1 : Int32)) dX2_judgeOnBelt_80 (by decide) ?_
    refine vi_istore (L' := [(4, .int (1 : Int32)), (0, .ref p0), (1, .int x1), (2, .int x2), (3, .int x3)]) dX2_judgeOnBelt_81 (by decide) rfl ?_
    refine vi_sub (L' := [(0, .ref p0), (1, .int x1), (2, .int x2), (3, .int x3), (4, .int (1 : Int32))]) [1, 2, 3, 4, 0] rfl ?_
    exact t_X2_judgeOnBelt_83 n  u  p0 x1 x2 x3 (1 : Int32) u11.2 h0 hf
set_option maxRecDepth 20000 in
theorem t_X2_judgeOnBelt {S : List vv_Sh} (n : Nat) (p0 : Nat) (x1 : Int32) (M : vv_M) (u : Unit × vv_M) (h0 : vv_oven S p0) (hf : f_X2_judgeOnBelt n p0 x1 M = some u) : vv_C yX2_judgeOnBelt (vv_w yX2_judgeOnBelt cX2_judgeOnBelt 5 none) (vv_R 1 0 0) [.ref p0, .int x1] S M none S u.2 := by
  refine vv_ofV (by decide +kernel) (Nat.le_of_ble_eq_true rfl) (L := [(0, .ref p0), (1, .int x1)]) rfl rfl rfl ?_
  show vv_V [] yX2_judgeOnBelt.cls yX2_judgeOnBelt.name cX2_judgeOnBelt 5 none (vv_R 1 0 0) S.length (vv_sz S) (vv_fu S u) 0 [(0, .ref p0), (1, .int x1)] [] S M
  unfold f_X2_judgeOnBelt at hf
  refine vi_aload_n 0 dX2_judgeOnBelt_0 rfl rfl ?_
  refine vi_getr (t := p0 + 4) 3 rfl (vv_oven_o h0) rfl wu_X2 (by decide) wf_X2_21 dX2_judgeOnBelt_1 ?_
  refine vi_iload_n 1 dX2_judgeOnBelt_4 rfl rfl ?_
  refine vi_iconst (v := (0 : Int32)) dX2_judgeOnBelt_5 (by decide) ?_
  refine vi_iadd dX2_judgeOnBelt_6 ?_
  obtain ⟨g18, hf⟩ := vv_gd hf
  refine vi_iald (vv_oven_boards h0) g18 dX2_judgeOnBelt_7 ?_
  refine vi_bipush (v := (6 : Int32)) dX2_judgeOnBelt_8 (by decide) ?_
  refine vi_imul dX2_judgeOnBelt_10 ?_
  obtain ⟨y1, ey1, hf⟩ := vv_lt hf
  refine vi_istore_n (L' := [(2, .int y1), (0, .ref p0), (1, .int x1)]) dX2_judgeOnBelt_11 rfl (by decide) (by rw [ey1]; rfl) ?_
  refine vi_aload_n 1 dX2_judgeOnBelt_12 rfl rfl ?_
  refine vi_getr (t := p0 + 4) 3 rfl (vv_oven_o h0) rfl wu_X2 (by decide) wf_X2_21 dX2_judgeOnBelt_13 ?_
  refine vi_iload_n 2 dX2_judgeOnBelt_16 rfl rfl ?_
  refine vi_iconst (v := (3 : Int32)) dX2_judgeOnBelt_17 (by decide) ?_
  refine vi_iadd dX2_judgeOnBelt_18 ?_
  obtain ⟨g17, hf⟩ := vv_gd hf
  refine vi_iald (vv_oven_boards h0) g17 dX2_judgeOnBelt_19 ?_
  obtain ⟨y2, ey2, hf⟩ := vv_lt hf
  refine vi_istore_n (L' := [(3, .int y2), (2, .int y1), (0, .ref p0), (1, .int x1)]) dX2_judgeOnBelt_20 rfl (by decide) (by rw [ey2]; rfl) ?_
  refine vi_iconst (v := (0 : Int32)) dX2_judgeOnBelt_21 (by decide) ?_
  refine vi_istore (L' := [(4, .int (0 : Int32)), (3, .int y2), (2, .int y1), (0, .ref p0), (1, .int x1)]) dX2_judgeOnBelt_22 (by decide) rfl ?_
  refine vi_aload_n 3 dX2_judgeOnBelt_24 rfl rfl ?_
  refine vi_getr (t := p0 + 4) 3 rfl (vv_oven_o h0) rfl wu_X2 (by decide) wf_X2_21 dX2_judgeOnBelt_25 ?_
  refine vi_iload_n 4 dX2_judgeOnBelt_28 rfl rfl ?_
  refine vi_bipush (v := (7 : Int32)) dX2_judgeOnBelt_29 (by decide) ?_
  refine vi_iadd dX2_judgeOnBelt_31 ?_
  obtain ⟨g16, hf⟩ := vv_gd hf
  refine vi_iald (vv_oven_boards h0) g16 dX2_judgeOnBelt_32 ?_
  refine vi_aload_n 3 dX2_judgeOnBelt_33 rfl rfl ?_
  refine vi_getr (t := p0 + 2) 1 rfl (vv_oven_o h0) rfl wu_X2 (by decide) wf_X2_15 dX2_judgeOnBelt_34 ?_
  refine vi_iload_n 2 dX2_judgeOnBelt_37 rfl rfl ?_
  refine vi_iconst (v := (3 : Int32)) dX2_judgeOnBelt_38 (by decide) ?_
  refine vi_iadd dX2_judgeOnBelt_39 ?_
  obtain ⟨g15, hf⟩ := vv_gd hf
  refine vi_iald (vv_oven_curves h0) g15 dX2_judgeOnBelt_40 ?_
  refine vi_icmp_le 54 dX2_judgeOnBelt_41 (by decide) (fun c3 => ?_) (fun c3 => ?_)
  · rw [if_pos c3] at hf
    refine vi_sub (L' := [(0, .ref p0), (1, .int x1), (2, .int y1), (3, .int y2), (4, .int (0 : Int32))]) [3, 4, 2, 1, 0] rfl ?_
    exact t_X2_judgeOnBelt_54 n  u  p0 x1 y1 y2 (0 : Int32) M h0 hf
  · rw [if_neg c3] at hf
    refine vi_aload_n 3 dX2_judgeOnBelt_44 rfl rfl ?_
    refine vi_iload_n 4 dX2_judgeOnBelt_45 rfl rfl ?_
    refine vi_iconst (v := (1 : Int32)) dX2_judgeOnBelt_46 (by decide) ?_
    refine vi_iload_n 1 dX2_judgeOnBelt_47 rfl rfl ?_
    obtain ⟨u14, hu14, hf⟩ := vv_bd hf
    refine vi_callV (As := [.int x1, .int (1 : Int32), .int y2]) (st := []) (t_X2_noteFault n p0 x1 (1 : Int32) y2 M u14 h0 hu14) rfl yo_X2_noteFault wm_X2_128 wi_X2_noteFault ws_X2_noteFault wI_X2 wc_X2_noteFault (vv_oven_o h0) rfl ⟨Nat.le_of_ble_eq_true rfl, Nat.le_of_ble_eq_true rfl⟩ (vv_rm0 rfl rfl) (Nat.le_of_ble_eq_true rfl) rfl rfl dX2_judgeOnBelt_48 ?_
    refine vi_iconst (v := (2 : Int32)) dX2_judgeOnBelt_51 (by decide) ?_
    refine vi_istore (L' := [(4, .int (2 : Int32)), (3, .int y2), (2, .int y1), (0, .ref p0), (1, .int x1)]) dX2_judgeOnBelt_52 (by decide) rfl ?_
    refine vi_sub (L' := [(0, .ref p0), (1, .int x1), (2, .int y1), (3, .int y2), (4, .int (2 : Int32))]) [3, 4, 2, 1, 0] rfl ?_
    exact t_X2_judgeOnBelt_54 n  u  p0 x1 y1 y2 (2 : Int32) u14.2 h0 hf
set_option maxRecDepth 20000 in
theorem t_X2_warmBoards_36 {S : List vv_Sh} (n : Nat) (k2 : Nat → Int32 → vv_M → Option (Unit × vv_M)) (u : Unit × vv_M) (hk2 : ∀ (p0 : Nat) (x1 : Int32) (M : vv_M) (h0 : vv_oven S p0) (hf : k2 p0 x1 M = some u), vv_V [] yX2_warmBoards.cls yX2_warmBoards.name cX2_warmBoards 3 none (vv_R 2 0 0) S.length (vv_sz S) (vv_fu S u) 2 [(0, .ref p0), (1, .int x1)] [] S M) (p0 : Nat) (x1 : Int32) (M : vv_M) (h0 : vv_oven S p0) (hf : f_X2_warmBoards_36 n k2 p0 x1 M = some u) : vv_V [] yX2_warmBoards.cls yX2_warmBoards.name cX2_warmBoards 3 none (vv_R 2 0 0) S.length (vv_sz S) (vv_fu S u) 36 [(0, .ref p0), (1, .int x1)] [] S M := by
  unfold f_X2_warmBoards_36 at hf
  obtain ⟨y4, ey4, hf⟩ := vv_lt hf
  refine vi_iinc (v := y4) (L' := [(1, .int y4), (0, .ref p0)]) 1 dX2_warmBoards_36 rfl (by rw [ey4]; rfl) (by decide) rfl ?_
  refine vi_goto 2 dX2_warmBoards_39 (by decide) ?_
  refine vi_sub (L' := [(0, .ref p0), (1, .int y4)]) [1, 0] rfl ?_
  exact hk2 p0 y4 M h0 hf
set_option maxRecDepth 20000 in
theorem t_X2_warmBoards_2 {S : List vv_Sh} (n : Nat)  (u : Unit × vv_M)  : ∀ (k : Nat) (p0 : Nat) (x1 : Int32) (M : vv_M) (h0 : vv_oven S p0) (hf : f_X2_warmBoards_2 n  k p0 x1 M = some u), vv_V [] yX2_warmBoards.cls yX2_warmBoards.name cX2_warmBoards 3 none (vv_R 2 0 0) S.length (vv_sz S) (vv_fu S u) 2 [(0, .ref p0), (1, .int x1)] [] S M := by
  intro k
  induction k with
  | zero =>
    intro p0 x1 M h0 hf
    exact absurd (show (none : Option (Unit × vv_M)) = some u from hf) (by simp)
  | succ k ih =>
    intro p0 x1 M h0 hf
    rw [f_X2_warmBoards_2.eq_2] at hf
    refine vi_iload_n 1 dX2_warmBoards_2 rfl rfl ?_
    refine vi_aload_n 0 dX2_warmBoards_3 rfl rfl ?_
    refine vi_geti 6 rfl (vv_oven_o h0) rfl wu_X2 (by decide) wf_X2_42 dX2_warmBoards_4 ?_
    refine vi_icmp_ge 42 dX2_warmBoards_7 (by decide) (fun c1 => ?_) (fun c1 => ?_)
    · rw [if_pos c1] at hf
      obtain rfl := Option.some.inj hf
      exact vi_ret (v := none) rfl ⟨dX2_warmBoards_42, rfl⟩ ⟨rfl, rfl, rfl⟩
    · rw [if_neg c1] at hf
      refine vi_iload_n 1 dX2_warmBoards_10 rfl rfl ?_
      refine vi_bipush (v := (22 : Int32)) dX2_warmBoards_11 (by decide) ?_
      refine vi_imul dX2_warmBoards_13 ?_
      obtain ⟨y2, ey2, hf⟩ := vv_lt hf
      refine vi_istore_n (L' := [(2, .int y2), (0, .ref p0), (1, .int x1)]) dX2_warmBoards_14 rfl (by decide) (by rw [ey2]; rfl) ?_
      refine vi_aload_n 1 dX2_warmBoards_15 rfl rfl ?_
      refine vi_getr (t := p0 + 4) 3 rfl (vv_oven_o h0) rfl wu_X2 (by decide) wf_X2_21 dX2_warmBoards_16 ?_
      refine vi_iload_n 0 dX2_warmBoards_19 rfl rfl ?_
      refine vi_iconst (v := (2 : Int32)) dX2_warmBoards_20 (by decide) ?_
      refine vi_iadd dX2_warmBoards_21 ?_
      obtain ⟨g7, hf⟩ := vv_gd hf
      refine vi_iald (vv_oven_boards h0) g7 dX2_warmBoards_22 ?_
      refine vi_if_ne 36 dX2_warmBoards_23 (by decide) (fun c3 => ?_) (fun c3 => ?_)
      · rw [if_neg c3] at hf
        refine vi_sub (L' := [(0, .ref p0), (1, .int x1)]) [1, 2] rfl ?_
        exact t_X2_warmBoards_36 n (f_X2_warmBoards_2 n k) u ih p0 x1 M h0 hf
      · rw [if_pos c3] at hf
        refine vi_aload_n 1 dX2_warmBoards_26 rfl rfl ?_
        refine vi_iload_n 0 dX2_warmBoards_27 rfl rfl ?_
        obtain ⟨u5, hu5, hf⟩ := vv_bd hf
        refine vi_callV (As := [.int y2]) (st := []) (t_X2_warm n p0 y2 M u5 h0 hu5) rfl yo_X2_warm wm_X2_143 wi_X2_warm ws_X2_warm wI_X2 wc_X2_warm (vv_oven_o h0) rfl ⟨Nat.le_of_ble_eq_true rfl, Nat.le_of_ble_eq_true rfl⟩ (vv_rm0 rfl rfl) (Nat.le_of_ble_eq_true rfl) rfl rfl dX2_warmBoards_28 ?_
        refine vi_aload_n 1 dX2_warmBoards_31 rfl rfl ?_
        refine vi_iload_n 0 dX2_warmBoards_32 rfl rfl ?_
        obtain ⟨u6, hu6, hf⟩ := vv_bd hf
        refine vi_callV (As := [.int y2]) (st := []) (t_X2_judgeOnBelt n p0 y2 u5.2 u6 h0 hu6) rfl yo_X2_judgeOnBelt wm_X2_147 wi_X2_judgeOnBelt ws_X2_judgeOnBelt wI_X2 wc_X2_judgeOnBelt (vv_oven_o h0) rfl ⟨Nat.le_of_ble_eq_true rfl, Nat.le_of_ble_eq_true rfl⟩ (vv_rm0 rfl rfl) (Nat.le_of_ble_eq_true rfl) rfl rfl dX2_warmBoards_33 ?_
        refine vi_sub (L' := [(0, .ref p0), (1, .int x1)]) [1, 2] rfl ?_
        exact t_X2_warmBoards_36 n (f_X2_warmBoards_2 n k) u ih p0 x1 u6.2 h0 hf
set_option maxRecDepth 20000 in
theorem t_X2_warmBoards {S : List vv_Sh} (n : Nat) (p0 : Nat) (M : vv_M) (u : Unit × vv_M) (h0 : vv_oven S p0) (hf : f_X2_warmBoards n p0 M = some u) : vv_C yX2_warmBoards (vv_w yX2_warmBoards cX2_warmBoards 3 none) (vv_R 2 0 0) [.ref p0] S M none S u.2 := by
  refine vv_ofV (by decide +kernel) (Nat.le_of_ble_eq_true rfl) (L := [(0, .ref p0)]) rfl rfl rfl ?_
  show vv_V [] yX2_warmBoards.cls yX2_warmBoards.name cX2_warmBoards 3 none (vv_R 2 0 0) S.length (vv_sz S) (vv_fu S u) 0 [(0, .ref p0)] [] S M
  unfold f_X2_warmBoards at hf
  refine vi_iconst (v := (0 : Int32)) dX2_warmBoards_0 (by decide) ?_
  refine vi_istore_n (L' := [(1, .int (0 : Int32)), (0, .ref p0)]) dX2_warmBoards_1 rfl (by decide) rfl ?_
  refine vi_sub (L' := [(0, .ref p0), (1, .int (0 : Int32))]) [1, 0] rfl ?_
  exact t_X2_warmBoards_2 n  u  n p0 (0 : Int32) M h0 hf
set_option maxRecDepth 20000 in
theorem t_X2_weightForSlower_79 {S : List vv_Sh} (n : Nat) (k4 : Nat → Int32 → Int32 → vv_M → Option (Int32 × vv_M)) (u : Int32 × vv_M) (hk4 : ∀ (p0 : Nat) (x1 : Int32) (x2 : Int32) (M : vv_M) (h0 : vv_oven S p0) (hf : k4 p0 x1 x2 M = some u), vv_V [] yX2_weightForSlower.cls yX2_weightForSlower.name cX2_weightForSlower 4 (some .int) (vv_R 0 0 0) S.length (vv_sz S) (vv_fi S u) 4 [(0, .ref p0), (1, .int x1), (2, .int x2)] [] S M) (p0 : Nat) (x1 : Int32) (x2 : Int32) (M : vv_M) (h0 : vv_oven S p0) (hf : f_X2_weightForSlower_79 n k4 p0 x1 x2 M = some u) : vv_V [] yX2_weightForSlower.cls yX2_weightForSlower.name cX2_weightForSlower 4 (some .int) (vv_R 0 0 0) S.length (vv_sz S) (vv_fi S u) 79 [(0, .ref p0), (1, .int x1), (2, .int x2)] [] S M := by
  unfold f_X2_weightForSlower_79 at hf
  obtain ⟨y4, ey4, hf⟩ := vv_lt hf
  refine vi_iinc (v := y4) (L' := [(2, .int y4), (0, .ref p0), (1, .int x1)]) 2 dX2_weightForSlower_79 rfl (by rw [ey4]; rfl) (by decide) rfl ?_
  refine vi_goto 4 dX2_weightForSlower_82 (by decide) ?_
  refine vi_sub (L' := [(0, .ref p0), (1, .int x1), (2, .int y4)]) [1, 2, 0] rfl ?_
  exact hk4 p0 x1 y4 M h0 hf
set_option maxRecDepth 20000 in
theorem t_X2_weightForSlower_4 {S : List vv_Sh} (n : Nat)  (u : Int32 × vv_M)  : ∀ (k : Nat) (p0 : Nat) (x1 : Int32) (x2 : Int32) (M : vv_M) (h0 : vv_oven S p0) (hf : f_X2_weightForSlower_4 n  k p0 x1 x2 M = some u), vv_V [] yX2_weightForSlower.cls yX2_weightForSlower.name cX2_weightForSlower 4 (some .int) (vv_R 0 0 0) S.length (vv_sz S) (vv_fi S u) 4 [(0, .ref p0), (1, .int x1), (2, .int x2)] [] S M := by
  intro k
  induction k with
  | zero =>
    intro p0 x1 x2 M h0 hf
    exact absurd (show (none : Option (Int32 × vv_M)) = some u from hf) (by simp)
  | succ k ih =>
    intro p0 x1 x2 M h0 hf
    rw [f_X2_weightForSlower_4.eq_2] at hf
    refine vi_iload_n 2 dX2_weightForSlower_4 rfl rfl ?_
    refine vi_aload_n 0 dX2_weightForSlower_5 rfl rfl ?_
    refine vi_geti 6 rfl (vv_oven_o h0) rfl wu_X2 (by decide) wf_X2_42 dX2_weightForSlower_6 ?_
    refine vi_icmp_ge 85 dX2_weightForSlower_9 (by decide) (fun c1 => ?_) (fun c1 => ?_)
    · rw [if_pos c1] at hf
      refine vi_iload_n 1 dX2_weightForSlower_85 rfl rfl ?_
      obtain rfl := Option.some.inj hf
      exact vi_ret (v := some (.int x1)) rfl ⟨dX2_weightForSlower_86, .int, rfl, rfl⟩ ⟨rfl, rfl, rfl⟩
    · rw [if_neg c1] at hf
      refine vi_iload_n 2 dX2_weightForSlower_12 rfl rfl ?_
      refine vi_bipush (v := (22 : Int32)) dX2_weightForSlower_13 (by decide) ?_
      refine vi_imul dX2_weightForSlower_15 ?_
      obtain ⟨y2, ey2, hf⟩ := vv_lt hf
      refine vi_istore_n (L' := [(3, .int y2), (0, .ref p0), (1, .int x1), (2, .int x2)]) dX2_weightForSlower_16 rfl (by decide) (by rw [ey2]; rfl) ?_
      refine vi_aload_n 1 dX2_weightForSlower_17 rfl rfl ?_
      refine vi_getr (t := p0 + 4) 3 rfl (vv_oven_o h0) rfl wu_X2 (by decide) wf_X2_21 dX2_weightForSlower_18 ?_
      refine vi_iload_n 0 dX2_weightForSlower_21 rfl rfl ?_
      refine vi_iconst (v := (2 : Int32)) dX2_weightForSlower_22 (by decide) ?_
      refine vi_iadd dX2_weightForSlower_23 ?_
      obtain ⟨g13, hf⟩ := vv_gd hf
      refine vi_iald (vv_oven_boards h0) g13 dX2_weightForSlower_24 ?_
      refine vi_if_ne 79 dX2_weightForSlower_25 (by decide) (fun c3 => ?_) (fun c3 => ?_)
      · rw [if_neg c3] at hf
        refine vi_sub (L' := [(0, .ref p0), (1, .int x1), (2, .int x2)]) [1, 2, 3] rfl ?_
        exact t_X2_weightForSlower_79 n (f_X2_weightForSlower_4 n k) u ih p0 x1 x2 M h0 hf
      · rw [if_pos c3] at hf
        refine vi_aload_n 1 dX2_weightForSlower_28 rfl rfl ?_
        refine vi_getr (t := p0 + 4) 3 rfl (vv_oven_o h0) rfl wu_X2 (by decide) wf_X2_21 dX2_weightForSlower_29 ?_
        refine vi_iload_n 0 dX2_weightForSlower_32 rfl rfl ?_
        refine vi_bipush (v := (9 : Int32)) dX2_weightForSlower_33 (by decide) ?_
        refine vi_iadd dX2_weightForSlower_35 ?_
        obtain ⟨g12, hf⟩ := vv_gd hf
        refine vi_iald (vv_oven_boards h0) g12 dX2_weightForSlower_36 ?_
        refine vi_iconst (v := (1 : Int32)) dX2_weightForSlower_37 (by decide) ?_
        refine vi_icmp_ne 55 dX2_weightForSlower_38 (by decide) (fun c5 => ?_) (fun c5 => ?_)
        · rw [if_neg c5] at hf
          refine vi_aload_n 1 dX2_weightForSlower_55 rfl rfl ?_
          refine vi_getr (t := p0 + 4) 3 rfl (vv_oven_o h0) rfl wu_X2 (by decide) wf_X2_21 dX2_weightForSlower_56 ?_
          refine vi_iload_n 0 dX2_weightForSlower_59 rfl rfl ?_
          refine vi_bipush (v := (9 : Int32)) dX2_weightForSlower_60 (by decide) ?_
          refine vi_iadd dX2_weightForSlower_62 ?_
          obtain ⟨g9, hf⟩ := vv_gd hf
          refine vi_iald (vv_oven_boards h0) g9 dX2_weightForSlower_63 ?_
          refine vi_iconst (v := (2 : Int32)) dX2_weightForSlower_64 (by decide) ?_
          refine vi_icmp_ne 79 dX2_weightForSlower_65 (by decide) (fun c6 => ?_) (fun c6 => ?_)
          · rw [if_neg c6] at hf
            refine vi_sub (L' := [(0, .ref p0), (1, .int x1), (2, .int x2)]) [1, 2, 3] rfl ?_
            exact t_X2_weightForSlower_79 n (f_X2_weightForSlower_4 n k) u ih p0 x1 x2 M h0 hf
          · rw [if_pos c6] at hf
            refine vi_iload_n 2 dX2_weightForSlower_68 rfl rfl ?_
            refine vi_aload_n 1 dX2_weightForSlower_69 rfl rfl ?_
            refine vi_getr (t := p0 + 4) 3 rfl (vv_oven_o h0) rfl wu_X2 (by decide) wf_X2_21 dX2_weightForSlower_70 ?_
            refine vi_iload_n 0 dX2_weightForSlower_73 rfl rfl ?_
            refine vi_iconst (v := (1 : Int32)) dX2_weightForSlower_74 (by decide) ?_
            refine vi_iadd dX2_weightForSlower_75 ?_
            obtain ⟨g8, hf⟩ := vv_gd hf
            refine vi_iald (vv_oven_boards h0) g8 dX2_weightForSlower_76 ?_
            refine vi_isub dX2_weightForSlower_77 ?_
            obtain ⟨y7, ey7, hf⟩ := vv_lt hf
            refine vi_istore_n (L' := [(1, .int y7), (3, .int y2), (0, .ref p0), (2, .int x2)]) dX2_weightForSlower_78 rfl (by decide) (by rw [ey7]; rfl) ?_
            refine vi_sub (L' := [(0, .ref p0), (1, .int y7), (2, .int x2)]) [2, 0, 3] rfl ?_
            exact t_X2_weightForSlower_79 n (f_X2_weightForSlower_4 n k) u ih p0 y7 x2 M h0 hf
        · rw [if_pos c5] at hf
          refine vi_iload_n 2 dX2_weightForSlower_41 rfl rfl ?_
          refine vi_aload_n 1 dX2_weightForSlower_42 rfl rfl ?_
          refine vi_getr (t := p0 + 4) 3 rfl (vv_oven_o h0) rfl wu_X2 (by decide) wf_X2_21 dX2_weightForSlower_43 ?_
          refine vi_iload_n 0 dX2_weightForSlower_46 rfl rfl ?_
          refine vi_iconst (v := (1 : Int32)) dX2_weightForSlower_47 (by decide) ?_
          refine vi_iadd dX2_weightForSlower_48 ?_
          obtain ⟨g11, hf⟩ := vv_gd hf
          refine vi_iald (vv_oven_boards h0) g11 dX2_weightForSlower_49 ?_
          refine vi_iadd dX2_weightForSlower_50 ?_
          obtain ⟨y10, ey10, hf⟩ := vv_lt hf
          refine vi_istore_n (L' := [(1, .int y10), (3, .int y2), (0, .ref p0), (2, .int x2)]) dX2_weightForSlower_51 rfl (by decide) (by rw [ey10]; rfl) ?_
          refine vi_goto 79 dX2_weightForSlower_52 (by decide) ?_
          refine vi_sub (L' := [(0, .ref p0), (1, .int y10), (2, .int x2)]) [2, 0, 3] rfl ?_
          exact t_X2_weightForSlower_79 n (f_X2_weightForSlower_4 n k) u ih p0 y10 x2 M h0 hf
set_option maxRecDepth 20000 in
theorem t_X2_weightForSlower {S : List vv_Sh} (n : Nat) (p0 : Nat) (M : vv_M) (u : Int32 × vv_M) (h0 : vv_oven S p0) (hf : f_X2_weightForSlower n p0 M = some u) : vv_C yX2_weightForSlower (vv_w yX2_weightForSlower cX2_weightForSlower 4 (some .int)) (vv_R 0 0 0) [.ref p0] S M (some (.int u.1)) S u.2 := by
  refine vv_ofV (by decide +kernel) (Nat.le_of_ble_eq_true rfl) (L := [(0, .ref p0)]) rfl rfl rfl ?_
  show vv_V [] yX2_weightForSlower.cls yX2_weightForSlower.name cX2_weightForSlower 4 (some .int) (vv_R 0 0 0) S.length (vv_sz S) (vv_fi S u) 0 [(0, .ref p0)] [] S M
  unfold f_X2_weightForSlower at hf
  refine vi_iconst (v := (0 : Int32)) dX2_weightForSlower_0 (by decide) ?_
  refine vi_istore_n (L' := [(1, .int (0 : Int32)), (0, .ref p0)]) dX2_weightForSlower_1 rfl (by decide) rfl ?_
  refine vi_iconst (v := (0 : Int32)) dX2_weightForSlower_2 (by decide) ?_
  refine vi_istore_n (L' := [(2, .int (0 : Int32)), (1, .int (0 : Int32)), (0, .ref p0)]) dX2_weightForSlower_3 rfl (by decide) rfl ?_
  refine vi_sub (L' := [(0, .ref p0), (1, .int (0 : Int32)), (2, .int (0 : Int32))]) [2, 1, 0] rfl ?_
  exact t_X2_weightForSlower_4 n  u  n p0 (0 : Int32) (0 : Int32) M h0 hf
set_option maxRecDepth 20000 in
theorem t_X2_hearPleas_56 {S : List vv_Sh} (n : Nat)  (u : Unit × vv_M)  (p0 : Nat) (x1 : Int32) (x2 : Int32) (x3 : Int32) (M : vv_M) (h0 : vv_oven S p0) (hf : f_X2_hearPleas_56 n  p0 x1 x2 x3 M = some u) : vv_V [] yX2_hearPleas.cls yX2_hearPleas.name cX2_hearPleas 4 none (vv_R 1 0 0) S.length (vv_sz S) (vv_fu S u) 56 [(0, .ref p0), (1, .int x1), (2, .int x2), (3, .int x3)] [] S M := by
  unfold f_X2_hearPleas_56 at hf
  refine vi_iload_n 3 dX2_hearPleas_56 rfl rfl ?_
  refine vi_ineg dX2_hearPleas_57 ?_
  refine vi_iload_n 1 dX2_hearPleas_58 rfl rfl ?_
  refine vi_icmp_lt 86 dX2_hearPleas_59 (by decide) (fun c7 => ?_) (fun c7 => ?_)
  · rw [if_pos c7] at hf
    obtain rfl := Option.some.inj hf
    exact vi_ret (v := none) rfl ⟨dX2_hearPleas_86, rfl⟩ ⟨rfl, rfl, rfl⟩
  · rw [if_neg c7] at hf
    refine vi_iload_n 2 dX2_hearPleas_62 rfl rfl ?_
    refine vi_iconst (v := (3 : Int32)) dX2_hearPleas_63 (by decide) ?_
    refine vi_icmp_ge 86 dX2_hearPleas_64 (by decide) (fun c8 => ?_) (fun c8 => ?_)
    · rw [if_pos c8] at hf
      obtain rfl := Option.some.inj hf
      exact vi_ret (v := none) rfl ⟨dX2_hearPleas_86, rfl⟩ ⟨rfl, rfl, rfl⟩
    · rw [if_neg c8] at hf
      refine vi_aload_n 0 dX2_hearPleas_67 rfl rfl ?_
      refine vi_getr (t := p0 + 3) 2 rfl (vv_oven_o h0) rfl wu_X2 (by decide) wf_X2_18 dX2_hearPleas_68 ?_
      refine vi_iconst (v := (0 : Int32)) dX2_hearPleas_71 (by decide) ?_
      refine vi_iload_n 2 dX2_hearPleas_72 rfl rfl ?_
      refine vi_iconst (v := (1 : Int32)) dX2_hearPleas_73 (by decide) ?_
      refine vi_iadd dX2_hearPleas_74 ?_
      obtain ⟨g9, hf⟩ := vv_gd hf
      obtain ⟨M10, eM10, hf⟩ := vv_lt hf
      refine vi_iast (vv_oven_numbers h0) g9 eM10.symm dX2_hearPleas_75 ?_
      refine vi_aload_n 0 dX2_hearPleas_76 rfl rfl ?_
      refine vi_dup dX2_hearPleas_77 rfl ?_
      refine vi_geti 8 rfl (vv_oven_o h0) rfl wu_X2 (by decide) wf_X2_52 dX2_hearPleas_78 ?_
      refine vi_iconst (v := (1 : Int32)) dX2_hearPleas_81 (by decide) ?_
      refine vi_iadd dX2_hearPleas_82 ?_
      obtain ⟨M11, eM11, hf⟩ := vv_lt hf
      refine vi_puti 8 rfl eM11.symm (vv_oven_o h0) rfl wu_X2 tyX2 tyX2_ok nmX2 (by decide) rfl (by decide +kernel) wf_X2_52 dX2_hearPleas_83 ?_
      obtain rfl := Option.some.inj hf
      exact vi_ret (v := none) rfl ⟨dX2_hearPleas_86, rfl⟩ ⟨rfl, rfl, rfl⟩
set_option maxRecDepth 20000 in
theorem t_X2_hearPleas {S : List vv_Sh} (n : Nat) (p0 : Nat) (M : vv_M) (u : Unit × vv_M) (h0 : vv_oven S p0) (hf : f_X2_hearPleas n p0 M = some u) : vv_C yX2_hearPleas (vv_w yX2_hearPleas cX2_hearPleas 4 none) (vv_R 1 0 0) [.ref p0] S M none S u.2 := by
  refine vv_ofV (by decide +kernel) (Nat.le_of_ble_eq_true rfl) (L := [(0, .ref p0)]) rfl rfl rfl ?_
  show vv_V [] yX2_hearPleas.cls yX2_hearPleas.name cX2_hearPleas 4 none (vv_R 1 0 0) S.length (vv_sz S) (vv_fu S u) 0 [(0, .ref p0)] [] S M
  unfold f_X2_hearPleas at hf
  refine vi_aload_n 0 dX2_hearPleas_0 rfl rfl ?_
  refine vi_getr (t := p0 + 3) 2 rfl (vv_oven_o h0) rfl wu_X2 (by decide) wf_X2_18 dX2_hearPleas_1 ?_
  refine vi_iconst (v := (2 : Int32)) dX2_hearPleas_4 (by decide) ?_
  obtain ⟨g17, hf⟩ := vv_gd hf
  refine vi_iald (vv_oven_numbers h0) g17 dX2_hearPleas_5 ?_
  obtain ⟨y1, ey1, hf⟩ := vv_lt hf
  refine vi_istore_n (L' := [(1, .int y1), (0, .ref p0)]) dX2_hearPleas_6 rfl (by decide) (by rw [ey1]; rfl) ?_
  refine vi_iload_n 0 dX2_hearPleas_7 rfl rfl ?_
  refine vi_if_ne 12 dX2_hearPleas_8 (by decide) (fun c2 => ?_) (fun c2 => ?_)
  · rw [if_neg c2] at hf
    refine vi_aload_n 1 dX2_hearPleas_12 rfl rfl ?_
    refine vi_getr (t := p0 + 3) 2 rfl (vv_oven_o h0) rfl wu_X2 (by decide) wf_X2_18 dX2_hearPleas_13 ?_
    refine vi_iconst (v := (0 : Int32)) dX2_hearPleas_16 (by decide) ?_
    obtain ⟨g16, hf⟩ := vv_gd hf
    refine vi_iald (vv_oven_numbers h0) g16 dX2_hearPleas_17 ?_
    obtain ⟨y3, ey3, hf⟩ := vv_lt hf
    refine vi_istore_n (L' := [(2, .int y3), (1, .int y1), (0, .ref p0)]) dX2_hearPleas_18 rfl (by decide) (by rw [ey3]; rfl) ?_
    refine vi_aload_n 2 dX2_hearPleas_19 rfl rfl ?_
    obtain ⟨u4, hu4, hf⟩ := vv_bd hf
    refine vi_callV (As := []) (st := []) (t_X2_weightForSlower n p0 M u4 h0 hu4) rfl yo_X2_weightForSlower wm_X2_150 wi_X2_weightForSlower ws_X2_weightForSlower wI_X2 wc_X2_weightForSlower (vv_oven_o h0) rfl ⟨Nat.le_of_ble_eq_true rfl, Nat.le_of_ble_eq_true rfl⟩ (vv_rm0 rfl rfl) (Nat.le_of_ble_eq_true rfl) rfl rfl dX2_hearPleas_20 ?_
    obtain ⟨y5, ey5, hf⟩ := vv_lt hf
    refine vi_istore_n (L' := [(3, .int y5), (2, .int y3), (1, .int y1), (0, .ref p0)]) dX2_hearPleas_23 rfl (by decide) (by rw [ey5]; rfl) ?_
    refine vi_iload_n 0 dX2_hearPleas_24 rfl rfl ?_
    refine vi_iload_n 2 dX2_hearPleas_25 rfl rfl ?_
    refine vi_icmp_lt 56 dX2_hearPleas_26 (by decide) (fun c6 => ?_) (fun c6 => ?_)
    · rw [if_pos c6] at hf
      refine vi_sub (L' := [(0, .ref p0), (1, .int y1), (2, .int y3), (3, .int y5)]) [3, 2, 1, 0] rfl ?_
      exact t_X2_hearPleas_56 n  u  p0 y1 y3 y5 u4.2 h0 hf
    · rw [if_neg c6] at hf
      refine vi_iload_n 1 dX2_hearPleas_29 rfl rfl ?_
      refine vi_iconst (v := (1 : Int32)) dX2_hearPleas_30 (by decide) ?_
      refine vi_icmp_le 56 dX2_hearPleas_31 (by decide) (fun c12 => ?_) (fun c12 => ?_)
      · rw [if_pos c12] at hf
        refine vi_sub (L' := [(0, .ref p0), (1, .int y1), (2, .int y3), (3, .int y5)]) [3, 2, 1, 0] rfl ?_
        exact t_X2_hearPleas_56 n  u  p0 y1 y3 y5 u4.2 h0 hf
      · rw [if_neg c12] at hf
        refine vi_aload_n 3 dX2_hearPleas_34 rfl rfl ?_
        refine vi_getr (t := p0 + 3) 2 rfl (vv_oven_o h0) rfl wu_X2 (by decide) wf_X2_18 dX2_hearPleas_35 ?_
        refine vi_iconst (v := (0 : Int32)) dX2_hearPleas_38 (by decide) ?_
        refine vi_iload_n 1 dX2_hearPleas_39 rfl rfl ?_
        refine vi_iconst (v := (1 : Int32)) dX2_hearPleas_40 (by decide) ?_
        refine vi_isub dX2_hearPleas_41 ?_
        obtain ⟨g13, hf⟩ := vv_gd hf
        obtain ⟨M14, eM14, hf⟩ := vv_lt hf
        refine vi_iast (vv_oven_numbers h0) g13 eM14.symm dX2_hearPleas_42 ?_
        refine vi_aload_n 3 dX2_hearPleas_43 rfl rfl ?_
        refine vi_dup dX2_hearPleas_44 rfl ?_
        refine vi_geti 7 rfl (vv_oven_o h0) rfl wu_X2 (by decide) wf_X2_49 dX2_hearPleas_45 ?_
        refine vi_iconst (v := (1 : Int32)) dX2_hearPleas_48 (by decide) ?_
        refine vi_iadd dX2_hearPleas_49 ?_
        obtain ⟨M15, eM15, hf⟩ := vv_lt hf
        refine vi_puti 7 rfl eM15.symm (vv_oven_o h0) rfl wu_X2 tyX2 tyX2_ok nmX2 (by decide) rfl (by decide +kernel) wf_X2_49 dX2_hearPleas_50 ?_
        refine vi_goto 86 dX2_hearPleas_53 (by decide) ?_
        obtain rfl := Option.some.inj hf
        exact vi_ret (v := none) rfl ⟨dX2_hearPleas_86, rfl⟩ ⟨rfl, rfl, rfl⟩
  · rw [if_pos c2] at hf
    obtain rfl := Option.some.inj hf
    exact vi_ret (v := none) rfl ⟨dX2_hearPleas_11, rfl⟩ ⟨rfl, rfl, rfl⟩
set_option maxRecDepth 20000 in
theorem t_X2_letOnePass {S : List vv_Sh} (n : Nat) (p0 : Nat) (M : vv_M) (u : Int32 × vv_M) (h0 : vv_oven S p0) (hf : f_X2_letOnePass n p0 M = some u) : vv_C yX2_letOnePass (vv_w yX2_letOnePass cX2_letOnePass 2 (some .int)) (vv_R 3 0 0) [.ref p0] S M (some (.int u.1)) S u.2 := by
  refine vv_ofV (by decide +kernel) (Nat.le_of_ble_eq_true rfl) (L := [(0, .ref p0)]) rfl rfl rfl ?_
  show vv_V [] yX2_letOnePass.cls yX2_letOnePass.name cX2_letOnePass 2 (some .int) (vv_R 3 0 0) S.length (vv_sz S) (vv_fi S u) 0 [(0, .ref p0)] [] S M
  unfold f_X2_letOnePass at hf
  refine vi_aload_n 0 dX2_letOnePass_0 rfl rfl ?_
  obtain ⟨u1, hu1, hf⟩ := vv_bd hf
  refine vi_callV (As := []) (st := []) (t_X2_moveBoards n p0 M u1 h0 hu1) rfl yo_X2_moveBoards wm_X2_109 wi_X2_moveBoards ws_X2_moveBoards wI_X2 wc_X2_moveBoards (vv_oven_o h0) rfl ⟨Nat.le_of_ble_eq_true rfl, Nat.le_of_ble_eq_true rfl⟩ (vv_rm0 rfl rfl) (Nat.le_of_ble_eq_true rfl) rfl rfl dX2_letOnePass_1 ?_
  obtain ⟨y2, ey2, hf⟩ := vv_lt hf
  refine vi_istore_n (L' := [(1, .int y2), (0, .ref p0)]) dX2_letOnePass_4 rfl (by decide) (by rw [ey2]; rfl) ?_
  refine vi_aload_n 1 dX2_letOnePass_5 rfl rfl ?_
  obtain ⟨u3, hu3, hf⟩ := vv_bd hf
  refine vi_callV (As := []) (st := []) (t_X2_changeWarmths n p0 u1.2 u3 h0 hu3) rfl yo_X2_changeWarmths wm_X2_112 wi_X2_changeWarmths ws_X2_changeWarmths wI_X2 wc_X2_changeWarmths (vv_oven_o h0) rfl ⟨Nat.le_of_ble_eq_true rfl, Nat.le_of_ble_eq_true rfl⟩ (vv_rm0 rfl rfl) (Nat.le_of_ble_eq_true rfl) rfl rfl dX2_letOnePass_6 ?_
  refine vi_aload_n 1 dX2_letOnePass_9 rfl rfl ?_
  obtain ⟨u4, hu4, hf⟩ := vv_bd hf
  refine vi_callV (As := []) (st := []) (t_X2_warmBoards n p0 u3.2 u4 h0 hu4) rfl yo_X2_warmBoards wm_X2_115 wi_X2_warmBoards ws_X2_warmBoards wI_X2 wc_X2_warmBoards (vv_oven_o h0) rfl ⟨Nat.le_of_ble_eq_true rfl, Nat.le_of_ble_eq_true rfl⟩ (vv_rm0 rfl rfl) (Nat.le_of_ble_eq_true rfl) rfl rfl dX2_letOnePass_10 ?_
  refine vi_aload_n 1 dX2_letOnePass_13 rfl rfl ?_
  obtain ⟨u5, hu5, hf⟩ := vv_bd hf
  refine vi_callV (As := []) (st := []) (t_X2_hearPleas n p0 u4.2 u5 h0 hu5) rfl yo_X2_hearPleas wm_X2_118 wi_X2_hearPleas ws_X2_hearPleas wI_X2 wc_X2_hearPleas (vv_oven_o h0) rfl ⟨Nat.le_of_ble_eq_true rfl, Nat.le_of_ble_eq_true rfl⟩ (vv_rm0 rfl rfl) (Nat.le_of_ble_eq_true rfl) rfl rfl dX2_letOnePass_14 ?_
  refine vi_aload_n 1 dX2_letOnePass_17 rfl rfl ?_
  refine vi_dup dX2_letOnePass_18 rfl ?_
  refine vi_geti 5 rfl (vv_oven_o h0) rfl wu_X2 (by decide) wf_X2_46 dX2_letOnePass_19 ?_
  refine vi_iconst (v := (1 : Int32)) dX2_letOnePass_22 (by decide) ?_
  refine vi_iadd dX2_letOnePass_23 ?_
  obtain ⟨M6, eM6, hf⟩ := vv_lt hf
  refine vi_puti 5 rfl eM6.symm (vv_oven_o h0) rfl wu_X2 tyX2 tyX2_ok nmX2 (by decide) rfl (by decide +kernel) wf_X2_46 dX2_letOnePass_24 ?_
  refine vi_iload_n 0 dX2_letOnePass_27 rfl rfl ?_
  obtain rfl := Option.some.inj hf
  exact vi_ret (v := some (.int y2)) rfl ⟨dX2_letOnePass_28, .int, rfl, rfl⟩ ⟨rfl, rfl, rfl⟩
set_option maxRecDepth 20000 in
theorem t_X2_letPass_34 {S : List vv_Sh} (n : Nat)  (u : Int32 × vv_M)  : ∀ (k : Nat) (p0 : Nat) (x1 : Int32) (x2 : Int32) (x3 : Int32) (M : vv_M) (h0 : vv_oven S p0) (hf : f_X2_letPass_34 n  k p0 x1 x2 x3 M = some u), vv_V [] yX2_letPass.cls yX2_letPass.name cX2_letPass 4 (some .int) (vv_R 4 0 0) S.length (vv_sz S) (vv_fi S u) 34 [(0, .ref p0), (1, .int x1), (2, .int x2), (3, .int x3)] [] S M := by
  intro k
  induction k with
  | zero =>
    intro p0 x1 x2 x3 M h0 hf
    exact absurd (show (none : Option (Int32 × vv_M)) = some u from hf) (by simp)
  | succ k ih =>
    intro p0 x1 x2 x3 M h0 hf
    rw [f_X2_letPass_34.eq_2] at hf
    refine vi_iload_n 3 dX2_letPass_34 rfl rfl ?_
    refine vi_iload_n 1 dX2_letPass_35 rfl rfl ?_
    refine vi_icmp_ge 52 dX2_letPass_36 (by decide) (fun c4 => ?_) (fun c4 => ?_)
    · rw [if_pos c4] at hf
      refine vi_iload_n 2 dX2_letPass_52 rfl rfl ?_
      obtain rfl := Option.some.inj hf
      exact vi_ret (v := some (.int x2)) rfl ⟨dX2_letPass_53, .int, rfl, rfl⟩ ⟨rfl, rfl, rfl⟩
    · rw [if_neg c4] at hf
      refine vi_iload_n 2 dX2_letPass_39 rfl rfl ?_
      refine vi_aload_n 0 dX2_letPass_40 rfl rfl ?_
      obtain ⟨u5, hu5, hf⟩ := vv_bd hf
      refine vi_callV (As := []) (st := [.int x2]) (t_X2_letOnePass n p0 M u5 h0 hu5) rfl yo_X2_letOnePass wm_X2_94 wi_X2_letOnePass ws_X2_letOnePass wI_X2 wc_X2_letOnePass (vv_oven_o h0) rfl ⟨Nat.le_of_ble_eq_true rfl, Nat.le_of_ble_eq_true rfl⟩ (vv_rm0 rfl rfl) (Nat.le_of_ble_eq_true rfl) rfl rfl dX2_letPass_41 ?_
      refine vi_iadd dX2_letPass_44 ?_
      obtain ⟨y6, ey6, hf⟩ := vv_lt hf
      refine vi_istore_n (L' := [(2, .int y6), (0, .ref p0), (1, .int x1), (3, .int x3)]) dX2_letPass_45 rfl (by decide) (by rw [ey6]; rfl) ?_
      obtain ⟨y7, ey7, hf⟩ := vv_lt hf
      refine vi_iinc (v := y7) (L' := [(3, .int y7), (2, .int y6), (0, .ref p0), (1, .int x1)]) 3 dX2_letPass_46 rfl (by rw [ey7]; rfl) (by decide) rfl ?_
      refine vi_goto 34 dX2_letPass_49 (by decide) ?_
      refine vi_sub (L' := [(0, .ref p0), (1, .int x1), (2, .int y6), (3, .int y7)]) [2, 3, 1, 0] rfl ?_
      exact ih p0 x1 y6 y7 u5.2 h0 hf
set_option maxRecDepth 20000 in
theorem t_X2_letPass {S : List vv_Sh} (n : Nat) (p0 : Nat) (x1 : Int32) (M : vv_M) (u : Int32 × vv_M) (h0 : vv_oven S p0) (hf : f_X2_letPass n p0 x1 M = some u) : vv_C yX2_letPass (vv_w yX2_letPass cX2_letPass 4 (some .int)) (vv_R 4 0 0) [.ref p0, .int x1] S M (some (.int u.1)) S u.2 := by
  refine vv_ofV (by decide +kernel) (Nat.le_of_ble_eq_true rfl) (L := [(0, .ref p0), (1, .int x1)]) rfl rfl rfl ?_
  show vv_V [] yX2_letPass.cls yX2_letPass.name cX2_letPass 4 (some .int) (vv_R 4 0 0) S.length (vv_sz S) (vv_fi S u) 0 [(0, .ref p0), (1, .int x1)] [] S M
  unfold f_X2_letPass at hf
  refine vi_iload_n 1 dX2_letPass_0 rfl rfl ?_
  refine vi_iconst (v := (1 : Int32)) dX2_letPass_1 (by decide) ?_
  refine vi_bipush (v := (99 : Int32)) dX2_letPass_2 (by decide) ?_
  obtain ⟨u1, hu1, hf⟩ := vv_bd hf
  refine vi_callSN (As := [.int x1, .int (1 : Int32), .int (99 : Int32)]) (st := []) (t_X4_isWithin n x1 (1 : Int32) (99 : Int32) M u1  hu1) rfl yo_X4_isWithin wm_X2_55 wi_X4_isWithin wI_X4 wc_X4_isWithin ⟨Nat.le_of_ble_eq_true rfl, Nat.le_of_ble_eq_true rfl⟩ (vv_rm0 rfl rfl) (Nat.le_of_ble_eq_true rfl) rfl rfl dX2_letPass_4 ?_
  refine vi_if_ne 14 dX2_letPass_7 (by decide) (fun c2 => ?_) (fun c2 => ?_)
  · rw [if_neg c2] at hf
    refine vi_aload_n 0 dX2_letPass_14 rfl rfl ?_
    refine vi_geti 5 rfl (vv_oven_o h0) rfl wu_X2 (by decide) wf_X2_46 dX2_letPass_15 ?_
    refine vi_iload_n 1 dX2_letPass_18 rfl rfl ?_
    refine vi_iadd dX2_letPass_19 ?_
    refine vi_sipush (v := (5000 : Int32)) dX2_letPass_20 (by decide) ?_
    refine vi_icmp_le 30 dX2_letPass_23 (by decide) (fun c3 => ?_) (fun c3 => ?_)
    · rw [if_pos c3] at hf
      refine vi_iconst (v := (0 : Int32)) dX2_letPass_30 (by decide) ?_
      refine vi_istore_n (L' := [(2, .int (0 : Int32)), (0, .ref p0), (1, .int x1)]) dX2_letPass_31 rfl (by decide) rfl ?_
      refine vi_iconst (v := (0 : Int32)) dX2_letPass_32 (by decide) ?_
      refine vi_istore_n (L' := [(3, .int (0 : Int32)), (2, .int (0 : Int32)), (0, .ref p0), (1, .int x1)]) dX2_letPass_33 rfl (by decide) rfl ?_
      refine vi_sub (L' := [(0, .ref p0), (1, .int x1), (2, .int (0 : Int32)), (3, .int (0 : Int32))]) [2, 3, 1, 0] rfl ?_
      exact t_X2_letPass_34 n  u  n p0 x1 (0 : Int32) (0 : Int32) u1.2 h0 hf
    · rw [if_neg c3] at hf
      refine vi_sipush (v := (-1003 : Int32)) dX2_letPass_26 (by decide) ?_
      obtain rfl := Option.some.inj hf
      exact vi_ret (v := some (.int (-1003 : Int32))) rfl ⟨dX2_letPass_29, .int, rfl, rfl⟩ ⟨rfl, rfl, rfl⟩
  · rw [if_pos c2] at hf
    refine vi_sipush (v := (-1001 : Int32)) dX2_letPass_10 (by decide) ?_
    obtain rfl := Option.some.inj hf
    exact vi_ret (v := some (.int (-1001 : Int32))) rfl ⟨dX2_letPass_13, .int, rfl, rfl⟩ ⟨rfl, rfl, rfl⟩
set_option maxRecDepth 20000 in
theorem t_X2_obey {S : List vv_Sh} (n : Nat) (p0 : Nat) (x1 : Int32) (x2 : Int32) (x3 : Int32) (M : vv_M) (u : Int32 × vv_M) (h0 : vv_oven S p0) (hf : f_X2_obey n p0 x1 x2 x3 M = some u) : vv_C yX2_obey (vv_w yX2_obey cX2_obey 4 (some .int)) (vv_R 5 0 0) [.ref p0, .int x1, .int x2, .int x3] S M (some (.int u.1)) S u.2 := by
  refine vv_ofV (by decide +kernel) (Nat.le_of_ble_eq_true rfl) (L := [(0, .ref p0), (1, .int x1), (2, .int x2), (3, .int x3)]) rfl rfl rfl ?_
  show vv_V [] yX2_obey.cls yX2_obey.name cX2_obey 4 (some .int) (vv_R 5 0 0) S.length (vv_sz S) (vv_fi S u) 0 [(0, .ref p0), (1, .int x1), (2, .int x2), (3, .int x3)] [] S M
  unfold f_X2_obey at hf
  refine vi_iload_n 1 dX2_obey_0 rfl rfl ?_
  by_cases c1 : x1 = (108 : Int32)
  · rw [if_pos c1] at hf
    refine vi_lookup 36 dX2_obey_1 (by decide) (by first | (rw [c1]; done) | (rw [c1]; rfl)) (by decide) ?_
    refine vi_aload_n 0 dX2_obey_36 rfl rfl ?_
    refine vi_iload_n 2 dX2_obey_37 rfl rfl ?_
    refine vi_iload_n 3 dX2_obey_38 rfl rfl ?_
    obtain ⟨u2, hu2, hf⟩ := vv_bd hf
    refine vi_callV (As := [.int x2, .int x3]) (st := []) (t_X2_addBoard n p0 x2 x3 M u2 h0 hu2) rfl yo_X2_addBoard wm_X2_97 wi_X2_addBoard ws_X2_addBoard wI_X2 wc_X2_addBoard (vv_oven_o h0) rfl ⟨Nat.le_of_ble_eq_true rfl, Nat.le_of_ble_eq_true rfl⟩ (vv_rm0 rfl rfl) (Nat.le_of_ble_eq_true rfl) rfl rfl dX2_obey_39 ?_
    obtain rfl := Option.some.inj hf
    exact vi_ret (v := some (.int u2.1)) rfl ⟨dX2_obey_42, .int, rfl, rfl⟩ ⟨rfl, rfl, rfl⟩
  rw [if_neg c1] at hf
  by_cases c3 : x1 = (112 : Int32)
  · rw [if_pos c3] at hf
    refine vi_lookup 43 dX2_obey_1 (by decide) (by first | (rw [c3]; done) | (rw [c3]; rfl)) (by decide) ?_
    refine vi_aload_n 0 dX2_obey_43 rfl rfl ?_
    refine vi_iload_n 3 dX2_obey_44 rfl rfl ?_
    obtain ⟨u4, hu4, hf⟩ := vv_bd hf
    refine vi_callV (As := [.int x3]) (st := []) (t_X2_letPass n p0 x3 M u4 h0 hu4) rfl yo_X2_letPass wm_X2_100 wi_X2_letPass ws_X2_letPass wI_X2 wc_X2_letPass (vv_oven_o h0) rfl ⟨Nat.le_of_ble_eq_true rfl, Nat.le_of_ble_eq_true rfl⟩ (vv_rm0 rfl rfl) (Nat.le_of_ble_eq_true rfl) rfl rfl dX2_obey_45 ?_
    obtain rfl := Option.some.inj hf
    exact vi_ret (v := some (.int u4.1)) rfl ⟨dX2_obey_48, .int, rfl, rfl⟩ ⟨rfl, rfl, rfl⟩
  rw [if_neg c3] at hf
  by_cases c5 : x1 = (116 : Int32)
  · rw [if_pos c5] at hf
    refine vi_lookup 49 dX2_obey_1 (by decide) (by first | (rw [c5]; done) | (rw [c5]; rfl)) (by decide) ?_
    refine vi_aload_n 0 dX2_obey_49 rfl rfl ?_
    refine vi_iload_n 3 dX2_obey_50 rfl rfl ?_
    obtain ⟨u6, hu6, hf⟩ := vv_bd hf
    refine vi_callV (As := [.int x3]) (st := []) (t_X2_removeBoard n p0 x3 M u6 h0 hu6) rfl yo_X2_removeBoard wm_X2_103 wi_X2_removeBoard ws_X2_removeBoard wI_X2 wc_X2_removeBoard (vv_oven_o h0) rfl ⟨Nat.le_of_ble_eq_true rfl, Nat.le_of_ble_eq_true rfl⟩ (vv_rm0 rfl rfl) (Nat.le_of_ble_eq_true rfl) rfl rfl dX2_obey_51 ?_
    obtain rfl := Option.some.inj hf
    exact vi_ret (v := some (.int u6.1)) rfl ⟨dX2_obey_54, .int, rfl, rfl⟩ ⟨rfl, rfl, rfl⟩
  rw [if_neg c5] at hf
  refine vi_lookup 55 dX2_obey_1 (by decide) (by have nc1 := vv_nk c1 (show (108 : Int32).toInt = 108 from rfl); have nc3 := vv_nk c3 (show (112 : Int32).toInt = 112 from rfl); have nc5 := vv_nk c5 (show (116 : Int32).toInt = 116 from rfl); simp [Op.lookupswitch.offset, nc1, Ne.symm nc1, nc3, Ne.symm nc3, nc5, Ne.symm nc5]; rfl) (by decide) ?_
  refine vi_aload_n 0 dX2_obey_55 rfl rfl ?_
  refine vi_iconst (v := (0 : Int32)) dX2_obey_56 (by decide) ?_
  refine vi_iload_n 3 dX2_obey_57 rfl rfl ?_
  obtain ⟨u7, hu7, hf⟩ := vv_bd hf
  refine vi_callV (As := [.int (0 : Int32), .int x3]) (st := []) (t_X2_changeNumber n p0 (0 : Int32) x3 M u7 h0 hu7) rfl yo_X2_changeNumber wm_X2_106 wi_X2_changeNumber ws_X2_changeNumber wI_X2 wc_X2_changeNumber (vv_oven_o h0) rfl ⟨Nat.le_of_ble_eq_true rfl, Nat.le_of_ble_eq_true rfl⟩ (vv_rm0 rfl rfl) (Nat.le_of_ble_eq_true rfl) rfl rfl dX2_obey_58 ?_
  obtain rfl := Option.some.inj hf
  exact vi_ret (v := some (.int u7.1)) rfl ⟨dX2_obey_61, .int, rfl, rfl⟩ ⟨rfl, rfl, rfl⟩
set_option maxRecDepth 20000 in
theorem t_X2_passUntilLeft_2 {S : List vv_Sh} (n : Nat)  (u : Int32 × vv_M)  : ∀ (k : Nat) (p0 : Nat) (x1 : Int32) (x2 : Int32) (M : vv_M) (h0 : vv_oven S p0) (hf : f_X2_passUntilLeft_2 n  k p0 x1 x2 M = some u), vv_V [] yX2_passUntilLeft.cls yX2_passUntilLeft.name cX2_passUntilLeft 3 (some .int) (vv_R 4 0 0) S.length (vv_sz S) (vv_fi S u) 2 [(0, .ref p0), (1, .int x1), (2, .int x2)] [] S M := by
  intro k
  induction k with
  | zero =>
    intro p0 x1 x2 M h0 hf
    exact absurd (show (none : Option (Int32 × vv_M)) = some u from hf) (by simp)
  | succ k ih =>
    intro p0 x1 x2 M h0 hf
    rw [f_X2_passUntilLeft_2.eq_2] at hf
    refine vi_aload_n 0 dX2_passUntilLeft_2 rfl rfl ?_
    refine vi_iload_n 1 dX2_passUntilLeft_3 rfl rfl ?_
    obtain ⟨u1, hu1, hf⟩ := vv_bd hf
    refine vi_callV (As := [.int x1]) (st := []) (t_X2_isOnBelt n p0 x1 M u1 h0 hu1) rfl yo_X2_isOnBelt wm_X2_91 wi_X2_isOnBelt ws_X2_isOnBelt wI_X2 wc_X2_isOnBelt (vv_oven_o h0) rfl ⟨Nat.le_of_ble_eq_true rfl, Nat.le_of_ble_eq_true rfl⟩ (vv_rm0 rfl rfl) (Nat.le_of_ble_eq_true rfl) rfl rfl dX2_passUntilLeft_4 ?_
    refine vi_if_eq 27 dX2_passUntilLeft_7 (by decide) (fun c2 => ?_) (fun c2 => ?_)
    · rw [if_pos c2] at hf
      refine vi_iload_n 2 dX2_passUntilLeft_27 rfl rfl ?_
      obtain rfl := Option.some.inj hf
      exact vi_ret (v := some (.int x2)) rfl ⟨dX2_passUntilLeft_28, .int, rfl, rfl⟩ ⟨rfl, rfl, rfl⟩
    · rw [if_neg c2] at hf
      refine vi_iload_n 2 dX2_passUntilLeft_10 rfl rfl ?_
      refine vi_bipush (v := (48 : Int32)) dX2_passUntilLeft_11 (by decide) ?_
      refine vi_icmp_ge 27 dX2_passUntilLeft_13 (by decide) (fun c3 => ?_) (fun c3 => ?_)
      · rw [if_pos c3] at hf
        refine vi_iload_n 2 dX2_passUntilLeft_27 rfl rfl ?_
        obtain rfl := Option.some.inj hf
        exact vi_ret (v := some (.int x2)) rfl ⟨dX2_passUntilLeft_28, .int, rfl, rfl⟩ ⟨rfl, rfl, rfl⟩
      · rw [if_neg c3] at hf
        refine vi_aload_n 0 dX2_passUntilLeft_16 rfl rfl ?_
        obtain ⟨u4, hu4, hf⟩ := vv_bd hf
        refine vi_callV (As := []) (st := []) (t_X2_letOnePass n p0 u1.2 u4 h0 hu4) rfl yo_X2_letOnePass wm_X2_94 wi_X2_letOnePass ws_X2_letOnePass wI_X2 wc_X2_letOnePass (vv_oven_o h0) rfl ⟨Nat.le_of_ble_eq_true rfl, Nat.le_of_ble_eq_true rfl⟩ (vv_rm0 rfl rfl) (Nat.le_of_ble_eq_true rfl) rfl rfl dX2_passUntilLeft_17 ?_
        refine vi_pop dX2_passUntilLeft_20 rfl ?_
        obtain ⟨y5, ey5, hf⟩ := vv_lt hf
        refine vi_iinc (v := y5) (L' := [(2, .int y5), (0, .ref p0), (1, .int x1)]) 2 dX2_passUntilLeft_21 rfl (by rw [ey5]; rfl) (by decide) rfl ?_
        refine vi_goto 2 dX2_passUntilLeft_24 (by decide) ?_
        refine vi_sub (L' := [(0, .ref p0), (1, .int x1), (2, .int y5)]) [1, 2, 0] rfl ?_
        exact ih p0 x1 y5 u4.2 h0 hf
set_option maxRecDepth 20000 in
theorem t_X2_passUntilLeft {S : List vv_Sh} (n : Nat) (p0 : Nat) (x1 : Int32) (M : vv_M) (u : Int32 × vv_M) (h0 : vv_oven S p0) (hf : f_X2_passUntilLeft n p0 x1 M = some u) : vv_C yX2_passUntilLeft (vv_w yX2_passUntilLeft cX2_passUntilLeft 3 (some .int)) (vv_R 4 0 0) [.ref p0, .int x1] S M (some (.int u.1)) S u.2 := by
  refine vv_ofV (by decide +kernel) (Nat.le_of_ble_eq_true rfl) (L := [(0, .ref p0), (1, .int x1)]) rfl rfl rfl ?_
  show vv_V [] yX2_passUntilLeft.cls yX2_passUntilLeft.name cX2_passUntilLeft 3 (some .int) (vv_R 4 0 0) S.length (vv_sz S) (vv_fi S u) 0 [(0, .ref p0), (1, .int x1)] [] S M
  unfold f_X2_passUntilLeft at hf
  refine vi_iconst (v := (0 : Int32)) dX2_passUntilLeft_0 (by decide) ?_
  refine vi_istore_n (L' := [(2, .int (0 : Int32)), (0, .ref p0), (1, .int x1)]) dX2_passUntilLeft_1 rfl (by decide) rfl ?_
  refine vi_sub (L' := [(0, .ref p0), (1, .int x1), (2, .int (0 : Int32))]) [1, 2, 0] rfl ?_
  exact t_X2_passUntilLeft_2 n  u  n p0 x1 (0 : Int32) M h0 hf
set_option maxRecDepth 20000 in
theorem t_X2_passUntilFree_2 {S : List vv_Sh} (n : Nat)  (u : Int32 × vv_M)  : ∀ (k : Nat) (p0 : Nat) (x1 : Int32) (M : vv_M) (h0 : vv_oven S p0) (hf : f_X2_passUntilFree_2 n  k p0 x1 M = some u), vv_V [] yX2_passUntilFree.cls yX2_passUntilFree.name cX2_passUntilFree 2 (some .int) (vv_R 4 0 0) S.length (vv_sz S) (vv_fi S u) 2 [(0, .ref p0), (1, .int x1)] [] S M := by
  intro k
  induction k with
  | zero =>
    intro p0 x1 M h0 hf
    exact absurd (show (none : Option (Int32 × vv_M)) = some u from hf) (by simp)
  | succ k ih =>
    intro p0 x1 M h0 hf
    rw [f_X2_passUntilFree_2.eq_2] at hf
    refine vi_aload_n 0 dX2_passUntilFree_2 rfl rfl ?_
    obtain ⟨u1, hu1, hf⟩ := vv_bd hf
    refine vi_callV (As := []) (st := []) (t_X2_isStartFree n p0 M u1 h0 hu1) rfl yo_X2_isStartFree wm_X2_79 wi_X2_isStartFree ws_X2_isStartFree wI_X2 wc_X2_isStartFree (vv_oven_o h0) rfl ⟨Nat.le_of_ble_eq_true rfl, Nat.le_of_ble_eq_true rfl⟩ (vv_rm0 rfl rfl) (Nat.le_of_ble_eq_true rfl) rfl rfl dX2_passUntilFree_3 ?_
    refine vi_if_ne 26 dX2_passUntilFree_6 (by decide) (fun c2 => ?_) (fun c2 => ?_)
    · rw [if_neg c2] at hf
      refine vi_iload_n 1 dX2_passUntilFree_26 rfl rfl ?_
      obtain rfl := Option.some.inj hf
      exact vi_ret (v := some (.int x1)) rfl ⟨dX2_passUntilFree_27, .int, rfl, rfl⟩ ⟨rfl, rfl, rfl⟩
    · rw [if_pos c2] at hf
      refine vi_iload_n 1 dX2_passUntilFree_9 rfl rfl ?_
      refine vi_bipush (v := (48 : Int32)) dX2_passUntilFree_10 (by decide) ?_
      refine vi_icmp_ge 26 dX2_passUntilFree_12 (by decide) (fun c3 => ?_) (fun c3 => ?_)
      · rw [if_pos c3] at hf
        refine vi_iload_n 1 dX2_passUntilFree_26 rfl rfl ?_
        obtain rfl := Option.some.inj hf
        exact vi_ret (v := some (.int x1)) rfl ⟨dX2_passUntilFree_27, .int, rfl, rfl⟩ ⟨rfl, rfl, rfl⟩
      · rw [if_neg c3] at hf
        refine vi_aload_n 0 dX2_passUntilFree_15 rfl rfl ?_
        obtain ⟨u4, hu4, hf⟩ := vv_bd hf
        refine vi_callV (As := []) (st := []) (t_X2_letOnePass n p0 u1.2 u4 h0 hu4) rfl yo_X2_letOnePass wm_X2_94 wi_X2_letOnePass ws_X2_letOnePass wI_X2 wc_X2_letOnePass (vv_oven_o h0) rfl ⟨Nat.le_of_ble_eq_true rfl, Nat.le_of_ble_eq_true rfl⟩ (vv_rm0 rfl rfl) (Nat.le_of_ble_eq_true rfl) rfl rfl dX2_passUntilFree_16 ?_
        refine vi_pop dX2_passUntilFree_19 rfl ?_
        obtain ⟨y5, ey5, hf⟩ := vv_lt hf
        refine vi_iinc (v := y5) (L' := [(1, .int y5), (0, .ref p0)]) 1 dX2_passUntilFree_20 rfl (by rw [ey5]; rfl) (by decide) rfl ?_
        refine vi_goto 2 dX2_passUntilFree_23 (by decide) ?_
        refine vi_sub (L' := [(0, .ref p0), (1, .int y5)]) [1, 0] rfl ?_
        exact ih p0 y5 u4.2 h0 hf
set_option maxRecDepth 20000 in
theorem t_X2_passUntilFree {S : List vv_Sh} (n : Nat) (p0 : Nat) (M : vv_M) (u : Int32 × vv_M) (h0 : vv_oven S p0) (hf : f_X2_passUntilFree n p0 M = some u) : vv_C yX2_passUntilFree (vv_w yX2_passUntilFree cX2_passUntilFree 2 (some .int)) (vv_R 4 0 0) [.ref p0] S M (some (.int u.1)) S u.2 := by
  refine vv_ofV (by decide +kernel) (Nat.le_of_ble_eq_true rfl) (L := [(0, .ref p0)]) rfl rfl rfl ?_
  show vv_V [] yX2_passUntilFree.cls yX2_passUntilFree.name cX2_passUntilFree 2 (some .int) (vv_R 4 0 0) S.length (vv_sz S) (vv_fi S u) 0 [(0, .ref p0)] [] S M
  unfold f_X2_passUntilFree at hf
  refine vi_iconst (v := (0 : Int32)) dX2_passUntilFree_0 (by decide) ?_
  refine vi_istore_n (L' := [(1, .int (0 : Int32)), (0, .ref p0)]) dX2_passUntilFree_1 rfl (by decide) rfl ?_
  refine vi_sub (L' := [(0, .ref p0), (1, .int (0 : Int32))]) [1, 0] rfl ?_
  exact t_X2_passUntilFree_2 n  u  n p0 (0 : Int32) M h0 hf
set_option maxRecDepth 20000 in
theorem t_X2_boardsLeftFaultless_44 {S : List vv_Sh} (n : Nat) (k4 : Nat → Int32 → Int32 → vv_M → Option (Int32 × vv_M)) (u : Int32 × vv_M) (hk4 : ∀ (p0 : Nat) (x1 : Int32) (x2 : Int32) (M : vv_M) (h0 : vv_oven S p0) (hf : k4 p0 x1 x2 M = some u), vv_V [] yX2_boardsLeftFaultless.cls yX2_boardsLeftFaultless.name cX2_boardsLeftFaultless 4 (some .int) (vv_R 0 0 0) S.length (vv_sz S) (vv_fi S u) 4 [(0, .ref p0), (1, .int x1), (2, .int x2)] [] S M) (p0 : Nat) (x1 : Int32) (x2 : Int32) (M : vv_M) (h0 : vv_oven S p0) (hf : f_X2_boardsLeftFaultless_44 n k4 p0 x1 x2 M = some u) : vv_V [] yX2_boardsLeftFaultless.cls yX2_boardsLeftFaultless.name cX2_boardsLeftFaultless 4 (some .int) (vv_R 0 0 0) S.length (vv_sz S) (vv_fi S u) 44 [(0, .ref p0), (1, .int x1), (2, .int x2)] [] S M := by
  unfold f_X2_boardsLeftFaultless_44 at hf
  obtain ⟨y4, ey4, hf⟩ := vv_lt hf
  refine vi_iinc (v := y4) (L' := [(2, .int y4), (0, .ref p0), (1, .int x1)]) 2 dX2_boardsLeftFaultless_44 rfl (by rw [ey4]; rfl) (by decide) rfl ?_
  refine vi_goto 4 dX2_boardsLeftFaultless_47 (by decide) ?_
  refine vi_sub (L' := [(0, .ref p0), (1, .int x1), (2, .int y4)]) [1, 2, 0] rfl ?_
  exact hk4 p0 x1 y4 M h0 hf
set_option maxRecDepth 20000 in
theorem t_X2_boardsLeftFaultless_4 {S : List vv_Sh} (n : Nat)  (u : Int32 × vv_M)  : ∀ (k : Nat) (p0 : Nat) (x1 : Int32) (x2 : Int32) (M : vv_M) (h0 : vv_oven S p0) (hf : f_X2_boardsLeftFaultless_4 n  k p0 x1 x2 M = some u), vv_V [] yX2_boardsLeftFaultless.cls yX2_boardsLeftFaultless.name cX2_boardsLeftFaultless 4 (some .int) (vv_R 0 0 0) S.length (vv_sz S) (vv_fi S u) 4 [(0, .ref p0), (1, .int x1), (2, .int x2)] [] S M := by
  intro k
  induction k with
  | zero =>
    intro p0 x1 x2 M h0 hf
    exact absurd (show (none : Option (Int32 × vv_M)) = some u from hf) (by simp)
  | succ k ih =>
    intro p0 x1 x2 M h0 hf
    rw [f_X2_boardsLeftFaultless_4.eq_2] at hf
    refine vi_iload_n 2 dX2_boardsLeftFaultless_4 rfl rfl ?_
    refine vi_aload_n 0 dX2_boardsLeftFaultless_5 rfl rfl ?_
    refine vi_geti 6 rfl (vv_oven_o h0) rfl wu_X2 (by decide) wf_X2_42 dX2_boardsLeftFaultless_6 ?_
    refine vi_icmp_ge 50 dX2_boardsLeftFaultless_9 (by decide) (fun c1 => ?_) (fun c1 => ?_)
    · rw [if_pos c1] at hf
      refine vi_iload_n 1 dX2_boardsLeftFaultless_50 rfl rfl ?_
      obtain rfl := Option.some.inj hf
      exact vi_ret (v := some (.int x1)) rfl ⟨dX2_boardsLeftFaultless_51, .int, rfl, rfl⟩ ⟨rfl, rfl, rfl⟩
    · rw [if_neg c1] at hf
      refine vi_iload_n 2 dX2_boardsLeftFaultless_12 rfl rfl ?_
      refine vi_bipush (v := (22 : Int32)) dX2_boardsLeftFaultless_13 (by decide) ?_
      refine vi_imul dX2_boardsLeftFaultless_15 ?_
      obtain ⟨y2, ey2, hf⟩ := vv_lt hf
      refine vi_istore_n (L' := [(3, .int y2), (0, .ref p0), (1, .int x1), (2, .int x2)]) dX2_boardsLeftFaultless_16 rfl (by decide) (by rw [ey2]; rfl) ?_
      refine vi_aload_n 1 dX2_boardsLeftFaultless_17 rfl rfl ?_
      refine vi_getr (t := p0 + 4) 3 rfl (vv_oven_o h0) rfl wu_X2 (by decide) wf_X2_21 dX2_boardsLeftFaultless_18 ?_
      refine vi_iload_n 0 dX2_boardsLeftFaultless_21 rfl rfl ?_
      refine vi_iconst (v := (2 : Int32)) dX2_boardsLeftFaultless_22 (by decide) ?_
      refine vi_iadd dX2_boardsLeftFaultless_23 ?_
      obtain ⟨g8, hf⟩ := vv_gd hf
      refine vi_iald (vv_oven_boards h0) g8 dX2_boardsLeftFaultless_24 ?_
      refine vi_iconst (v := (1 : Int32)) dX2_boardsLeftFaultless_25 (by decide) ?_
      refine vi_icmp_ne 44 dX2_boardsLeftFaultless_26 (by decide) (fun c3 => ?_) (fun c3 => ?_)
      · rw [if_neg c3] at hf
        refine vi_sub (L' := [(0, .ref p0), (1, .int x1), (2, .int x2)]) [1, 2, 3] rfl ?_
        exact t_X2_boardsLeftFaultless_44 n (f_X2_boardsLeftFaultless_4 n k) u ih p0 x1 x2 M h0 hf
      · rw [if_pos c3] at hf
        refine vi_aload_n 1 dX2_boardsLeftFaultless_29 rfl rfl ?_
        refine vi_getr (t := p0 + 4) 3 rfl (vv_oven_o h0) rfl wu_X2 (by decide) wf_X2_21 dX2_boardsLeftFaultless_30 ?_
        refine vi_iload_n 0 dX2_boardsLeftFaultless_33 rfl rfl ?_
        refine vi_bipush (v := (8 : Int32)) dX2_boardsLeftFaultless_34 (by decide) ?_
        refine vi_iadd dX2_boardsLeftFaultless_36 ?_
        obtain ⟨g7, hf⟩ := vv_gd hf
        refine vi_iald (vv_oven_boards h0) g7 dX2_boardsLeftFaultless_37 ?_
        refine vi_if_ne 44 dX2_boardsLeftFaultless_38 (by decide) (fun c5 => ?_) (fun c5 => ?_)
        · rw [if_neg c5] at hf
          refine vi_sub (L' := [(0, .ref p0), (1, .int x1), (2, .int x2)]) [1, 2, 3] rfl ?_
          exact t_X2_boardsLeftFaultless_44 n (f_X2_boardsLeftFaultless_4 n k) u ih p0 x1 x2 M h0 hf
        · rw [if_pos c5] at hf
          obtain ⟨y6, ey6, hf⟩ := vv_lt hf
          refine vi_iinc (v := y6) (L' := [(1, .int y6), (3, .int y2), (0, .ref p0), (2, .int x2)]) 2 dX2_boardsLeftFaultless_41 rfl (by rw [ey6]; rfl) (by decide) rfl ?_
          refine vi_sub (L' := [(0, .ref p0), (1, .int y6), (2, .int x2)]) [2, 0, 3] rfl ?_
          exact t_X2_boardsLeftFaultless_44 n (f_X2_boardsLeftFaultless_4 n k) u ih p0 y6 x2 M h0 hf
set_option maxRecDepth 20000 in
theorem t_X2_boardsLeftFaultless {S : List vv_Sh} (n : Nat) (p0 : Nat) (M : vv_M) (u : Int32 × vv_M) (h0 : vv_oven S p0) (hf : f_X2_boardsLeftFaultless n p0 M = some u) : vv_C yX2_boardsLeftFaultless (vv_w yX2_boardsLeftFaultless cX2_boardsLeftFaultless 4 (some .int)) (vv_R 0 0 0) [.ref p0] S M (some (.int u.1)) S u.2 := by
  refine vv_ofV (by decide +kernel) (Nat.le_of_ble_eq_true rfl) (L := [(0, .ref p0)]) rfl rfl rfl ?_
  show vv_V [] yX2_boardsLeftFaultless.cls yX2_boardsLeftFaultless.name cX2_boardsLeftFaultless 4 (some .int) (vv_R 0 0 0) S.length (vv_sz S) (vv_fi S u) 0 [(0, .ref p0)] [] S M
  unfold f_X2_boardsLeftFaultless at hf
  refine vi_iconst (v := (0 : Int32)) dX2_boardsLeftFaultless_0 (by decide) ?_
  refine vi_istore_n (L' := [(1, .int (0 : Int32)), (0, .ref p0)]) dX2_boardsLeftFaultless_1 rfl (by decide) rfl ?_
  refine vi_iconst (v := (0 : Int32)) dX2_boardsLeftFaultless_2 (by decide) ?_
  refine vi_istore_n (L' := [(2, .int (0 : Int32)), (1, .int (0 : Int32)), (0, .ref p0)]) dX2_boardsLeftFaultless_3 rfl (by decide) rfl ?_
  refine vi_sub (L' := [(0, .ref p0), (1, .int (0 : Int32)), (2, .int (0 : Int32))]) [2, 1, 0] rfl ?_
  exact t_X2_boardsLeftFaultless_4 n  u  n p0 (0 : Int32) (0 : Int32) M h0 hf
set_option maxRecDepth 20000 in
theorem t_X2_boardsIn_39 {S : List vv_Sh} (n : Nat) (k4 : Nat → Int32 → Int32 → Int32 → vv_M → Option (Int32 × vv_M)) (u : Int32 × vv_M) (hk4 : ∀ (p0 : Nat) (x1 : Int32) (x2 : Int32) (x3 : Int32) (M : vv_M) (h0 : vv_oven S p0) (hf : k4 p0 x1 x2 x3 M = some u), vv_V [] yX2_boardsIn.cls yX2_boardsIn.name cX2_boardsIn 4 (some .int) (vv_R 1 0 0) S.length (vv_sz S) (vv_fi S u) 4 [(0, .ref p0), (1, .int x1), (2, .int x2), (3, .int x3)] [] S M) (p0 : Nat) (x1 : Int32) (x2 : Int32) (x3 : Int32) (M : vv_M) (h0 : vv_oven S p0) (hf : f_X2_boardsIn_39 n k4 p0 x1 x2 x3 M = some u) : vv_V [] yX2_boardsIn.cls yX2_boardsIn.name cX2_boardsIn 4 (some .int) (vv_R 1 0 0) S.length (vv_sz S) (vv_fi S u) 39 [(0, .ref p0), (1, .int x1), (2, .int x2), (3, .int x3)] [] S M := by
  unfold f_X2_boardsIn_39 at hf
  obtain ⟨y4, ey4, hf⟩ := vv_lt hf
  refine vi_iinc (v := y4) (L' := [(3, .int y4), (0, .ref p0), (1, .int x1), (2, .int x2)]) 3 dX2_boardsIn_39 rfl (by rw [ey4]; rfl) (by decide) rfl ?_
  refine vi_goto 4 dX2_boardsIn_42 (by decide) ?_
  refine vi_sub (L' := [(0, .ref p0), (1, .int x1), (2, .int x2), (3, .int y4)]) [1, 2, 3, 0] rfl ?_
  exact hk4 p0 x1 x2 y4 M h0 hf
set_option maxRecDepth 20000 in
theorem t_X2_boardsIn_4 {S : List vv_Sh} (n : Nat)  (u : Int32 × vv_M)  : ∀ (k : Nat) (p0 : Nat) (x1 : Int32) (x2 : Int32) (x3 : Int32) (M : vv_M) (h0 : vv_oven S p0) (hf : f_X2_boardsIn_4 n  k p0 x1 x2 x3 M = some u), vv_V [] yX2_boardsIn.cls yX2_boardsIn.name cX2_boardsIn 4 (some .int) (vv_R 1 0 0) S.length (vv_sz S) (vv_fi S u) 4 [(0, .ref p0), (1, .int x1), (2, .int x2), (3, .int x3)] [] S M := by
  intro k
  induction k with
  | zero =>
    intro p0 x1 x2 x3 M h0 hf
    exact absurd (show (none : Option (Int32 × vv_M)) = some u from hf) (by simp)
  | succ k ih =>
    intro p0 x1 x2 x3 M h0 hf
    rw [f_X2_boardsIn_4.eq_2] at hf
    refine vi_iload_n 3 dX2_boardsIn_4 rfl rfl ?_
    refine vi_aload_n 0 dX2_boardsIn_5 rfl rfl ?_
    refine vi_geti 6 rfl (vv_oven_o h0) rfl wu_X2 (by decide) wf_X2_42 dX2_boardsIn_6 ?_
    refine vi_icmp_ge 45 dX2_boardsIn_9 (by decide) (fun c1 => ?_) (fun c1 => ?_)
    · rw [if_pos c1] at hf
      refine vi_iload_n 2 dX2_boardsIn_45 rfl rfl ?_
      obtain rfl := Option.some.inj hf
      exact vi_ret (v := some (.int x2)) rfl ⟨dX2_boardsIn_46, .int, rfl, rfl⟩ ⟨rfl, rfl, rfl⟩
    · rw [if_neg c1] at hf
      refine vi_aload_n 0 dX2_boardsIn_12 rfl rfl ?_
      refine vi_iload_n 3 dX2_boardsIn_13 rfl rfl ?_
      obtain ⟨u2, hu2, hf⟩ := vv_bd hf
      refine vi_callV (As := [.int x3]) (st := []) (t_X2_isOnBelt n p0 x3 M u2 h0 hu2) rfl yo_X2_isOnBelt wm_X2_91 wi_X2_isOnBelt ws_X2_isOnBelt wI_X2 wc_X2_isOnBelt (vv_oven_o h0) rfl ⟨Nat.le_of_ble_eq_true rfl, Nat.le_of_ble_eq_true rfl⟩ (vv_rm0 rfl rfl) (Nat.le_of_ble_eq_true rfl) rfl rfl dX2_boardsIn_14 ?_
      refine vi_if_eq 39 dX2_boardsIn_17 (by decide) (fun c3 => ?_) (fun c3 => ?_)
      · rw [if_pos c3] at hf
        exact t_X2_boardsIn_39 n (f_X2_boardsIn_4 n k) u ih p0 x1 x2 x3 u2.2 h0 hf
      · rw [if_neg c3] at hf
        refine vi_aload_n 0 dX2_boardsIn_20 rfl rfl ?_
        refine vi_getr (t := p0 + 4) 3 rfl (vv_oven_o h0) rfl wu_X2 (by decide) wf_X2_21 dX2_boardsIn_21 ?_
        refine vi_iload_n 3 dX2_boardsIn_24 rfl rfl ?_
        refine vi_bipush (v := (22 : Int32)) dX2_boardsIn_25 (by decide) ?_
        refine vi_imul dX2_boardsIn_27 ?_
        refine vi_bipush (v := (11 : Int32)) dX2_boardsIn_28 (by decide) ?_
        refine vi_iadd dX2_boardsIn_30 ?_
        obtain ⟨g7, hf⟩ := vv_gd hf
        refine vi_iald (vv_oven_boards h0) g7 dX2_boardsIn_31 ?_
        refine vi_iload_n 1 dX2_boardsIn_32 rfl rfl ?_
        refine vi_icmp_ne 39 dX2_boardsIn_33 (by decide) (fun c5 => ?_) (fun c5 => ?_)
        · rw [if_neg c5] at hf
          exact t_X2_boardsIn_39 n (f_X2_boardsIn_4 n k) u ih p0 x1 x2 x3 u2.2 h0 hf
        · rw [if_pos c5] at hf
          obtain ⟨y6, ey6, hf⟩ := vv_lt hf
          refine vi_iinc (v := y6) (L' := [(2, .int y6), (0, .ref p0), (1, .int x1), (3, .int x3)]) 2 dX2_boardsIn_36 rfl (by rw [ey6]; rfl) (by decide) rfl ?_
          refine vi_sub (L' := [(0, .ref p0), (1, .int x1), (2, .int y6), (3, .int x3)]) [1, 2, 0, 3] rfl ?_
          exact t_X2_boardsIn_39 n (f_X2_boardsIn_4 n k) u ih p0 x1 y6 x3 u2.2 h0 hf
set_option maxRecDepth 20000 in
theorem t_X2_boardsIn {S : List vv_Sh} (n : Nat) (p0 : Nat) (x1 : Int32) (M : vv_M) (u : Int32 × vv_M) (h0 : vv_oven S p0) (hf : f_X2_boardsIn n p0 x1 M = some u) : vv_C yX2_boardsIn (vv_w yX2_boardsIn cX2_boardsIn 4 (some .int)) (vv_R 1 0 0) [.ref p0, .int x1] S M (some (.int u.1)) S u.2 := by
  refine vv_ofV (by decide +kernel) (Nat.le_of_ble_eq_true rfl) (L := [(0, .ref p0), (1, .int x1)]) rfl rfl rfl ?_
  show vv_V [] yX2_boardsIn.cls yX2_boardsIn.name cX2_boardsIn 4 (some .int) (vv_R 1 0 0) S.length (vv_sz S) (vv_fi S u) 0 [(0, .ref p0), (1, .int x1)] [] S M
  unfold f_X2_boardsIn at hf
  refine vi_iconst (v := (0 : Int32)) dX2_boardsIn_0 (by decide) ?_
  refine vi_istore_n (L' := [(2, .int (0 : Int32)), (0, .ref p0), (1, .int x1)]) dX2_boardsIn_1 rfl (by decide) rfl ?_
  refine vi_iconst (v := (0 : Int32)) dX2_boardsIn_2 (by decide) ?_
  refine vi_istore_n (L' := [(3, .int (0 : Int32)), (2, .int (0 : Int32)), (0, .ref p0), (1, .int x1)]) dX2_boardsIn_3 rfl (by decide) rfl ?_
  refine vi_sub (L' := [(0, .ref p0), (1, .int x1), (2, .int (0 : Int32)), (3, .int (0 : Int32))]) [2, 3, 1, 0] rfl ?_
  exact t_X2_boardsIn_4 n  u  n p0 x1 (0 : Int32) (0 : Int32) M h0 hf
set_option maxRecDepth 20000 in
theorem t_X2_weightIn_50 {S : List vv_Sh} (n : Nat) (k4 : Nat → Int32 → Int32 → Int32 → vv_M → Option (Int32 × vv_M)) (u : Int32 × vv_M) (hk4 : ∀ (p0 : Nat) (x1 : Int32) (x2 : Int32) (x3 : Int32) (M : vv_M) (h0 : vv_oven S p0) (hf : k4 p0 x1 x2 x3 M = some u), vv_V [] yX2_weightIn.cls yX2_weightIn.name cX2_weightIn 4 (some .int) (vv_R 1 0 0) S.length (vv_sz S) (vv_fi S u) 4 [(0, .ref p0), (1, .int x1), (2, .int x2), (3, .int x3)] [] S M) (p0 : Nat) (x1 : Int32) (x2 : Int32) (x3 : Int32) (M : vv_M) (h0 : vv_oven S p0) (hf : f_X2_weightIn_50 n k4 p0 x1 x2 x3 M = some u) : vv_V [] yX2_weightIn.cls yX2_weightIn.name cX2_weightIn 4 (some .int) (vv_R 1 0 0) S.length (vv_sz S) (vv_fi S u) 50 [(0, .ref p0), (1, .int x1), (2, .int x2), (3, .int x3)] [] S M := by
  unfold f_X2_weightIn_50 at hf
  obtain ⟨y4, ey4, hf⟩ := vv_lt hf
  refine vi_iinc (v := y4) (L' := [(3, .int y4), (0, .ref p0), (1, .int x1), (2, .int x2)]) 3 dX2_weightIn_50 rfl (by rw [ey4]; rfl) (by decide) rfl ?_
  refine vi_goto 4 dX2_weightIn_53 (by decide) ?_
  refine vi_sub (L' := [(0, .ref p0), (1, .int x1), (2, .int x2), (3, .int y4)]) [1, 2, 3, 0] rfl ?_
  exact hk4 p0 x1 x2 y4 M h0 hf
set_option maxRecDepth 20000 in
theorem t_X2_weightIn_4 {S : List vv_Sh} (n : Nat)  (u : Int32 × vv_M)  : ∀ (k : Nat) (p0 : Nat) (x1 : Int32) (x2 : Int32) (x3 : Int32) (M : vv_M) (h0 : vv_oven S p0) (hf : f_X2_weightIn_4 n  k p0 x1 x2 x3 M = some u), vv_V [] yX2_weightIn.cls yX2_weightIn.name cX2_weightIn 4 (some .int) (vv_R 1 0 0) S.length (vv_sz S) (vv_fi S u) 4 [(0, .ref p0), (1, .int x1), (2, .int x2), (3, .int x3)] [] S M := by
  intro k
  induction k with
  | zero =>
    intro p0 x1 x2 x3 M h0 hf
    exact absurd (show (none : Option (Int32 × vv_M)) = some u from hf) (by simp)
  | succ k ih =>
    intro p0 x1 x2 x3 M h0 hf
    rw [f_X2_weightIn_4.eq_2] at hf
    refine vi_iload_n 3 dX2_weightIn_4 rfl rfl ?_
    refine vi_aload_n 0 dX2_weightIn_5 rfl rfl ?_
    refine vi_geti 6 rfl (vv_oven_o h0) rfl wu_X2 (by decide) wf_X2_42 dX2_weightIn_6 ?_
    refine vi_icmp_ge 56 dX2_weightIn_9 (by decide) (fun c1 => ?_) (fun c1 => ?_)
    · rw [if_pos c1] at hf
      refine vi_iload_n 2 dX2_weightIn_56 rfl rfl ?_
      obtain rfl := Option.some.inj hf
      exact vi_ret (v := some (.int x2)) rfl ⟨dX2_weightIn_57, .int, rfl, rfl⟩ ⟨rfl, rfl, rfl⟩
    · rw [if_neg c1] at hf
      refine vi_aload_n 0 dX2_weightIn_12 rfl rfl ?_
      refine vi_iload_n 3 dX2_weightIn_13 rfl rfl ?_
      obtain ⟨u2, hu2, hf⟩ := vv_bd hf
      refine vi_callV (As := [.int x3]) (st := []) (t_X2_isOnBelt n p0 x3 M u2 h0 hu2) rfl yo_X2_isOnBelt wm_X2_91 wi_X2_isOnBelt ws_X2_isOnBelt wI_X2 wc_X2_isOnBelt (vv_oven_o h0) rfl ⟨Nat.le_of_ble_eq_true rfl, Nat.le_of_ble_eq_true rfl⟩ (vv_rm0 rfl rfl) (Nat.le_of_ble_eq_true rfl) rfl rfl dX2_weightIn_14 ?_
      refine vi_if_eq 50 dX2_weightIn_17 (by decide) (fun c3 => ?_) (fun c3 => ?_)
      · rw [if_pos c3] at hf
        exact t_X2_weightIn_50 n (f_X2_weightIn_4 n k) u ih p0 x1 x2 x3 u2.2 h0 hf
      · rw [if_neg c3] at hf
        refine vi_aload_n 0 dX2_weightIn_20 rfl rfl ?_
        refine vi_getr (t := p0 + 4) 3 rfl (vv_oven_o h0) rfl wu_X2 (by decide) wf_X2_21 dX2_weightIn_21 ?_
        refine vi_iload_n 3 dX2_weightIn_24 rfl rfl ?_
        refine vi_bipush (v := (22 : Int32)) dX2_weightIn_25 (by decide) ?_
        refine vi_imul dX2_weightIn_27 ?_
        refine vi_bipush (v := (11 : Int32)) dX2_weightIn_28 (by decide) ?_
        refine vi_iadd dX2_weightIn_30 ?_
        obtain ⟨g8, hf⟩ := vv_gd hf
        refine vi_iald (vv_oven_boards h0) g8 dX2_weightIn_31 ?_
        refine vi_iload_n 1 dX2_weightIn_32 rfl rfl ?_
        refine vi_icmp_ne 50 dX2_weightIn_33 (by decide) (fun c5 => ?_) (fun c5 => ?_)
        · rw [if_neg c5] at hf
          exact t_X2_weightIn_50 n (f_X2_weightIn_4 n k) u ih p0 x1 x2 x3 u2.2 h0 hf
        · rw [if_pos c5] at hf
          refine vi_iload_n 2 dX2_weightIn_36 rfl rfl ?_
          refine vi_aload_n 0 dX2_weightIn_37 rfl rfl ?_
          refine vi_getr (t := p0 + 4) 3 rfl (vv_oven_o h0) rfl wu_X2 (by decide) wf_X2_21 dX2_weightIn_38 ?_
          refine vi_iload_n 3 dX2_weightIn_41 rfl rfl ?_
          refine vi_bipush (v := (22 : Int32)) dX2_weightIn_42 (by decide) ?_
          refine vi_imul dX2_weightIn_44 ?_
          refine vi_iconst (v := (1 : Int32)) dX2_weightIn_45 (by decide) ?_
          refine vi_iadd dX2_weightIn_46 ?_
          obtain ⟨g7, hf⟩ := vv_gd hf
          refine vi_iald (vv_oven_boards h0) g7 dX2_weightIn_47 ?_
          refine vi_iadd dX2_weightIn_48 ?_
          obtain ⟨y6, ey6, hf⟩ := vv_lt hf
          refine vi_istore_n (L' := [(2, .int y6), (0, .ref p0), (1, .int x1), (3, .int x3)]) dX2_weightIn_49 rfl (by decide) (by rw [ey6]; rfl) ?_
          refine vi_sub (L' := [(0, .ref p0), (1, .int x1), (2, .int y6), (3, .int x3)]) [1, 2, 0, 3] rfl ?_
          exact t_X2_weightIn_50 n (f_X2_weightIn_4 n k) u ih p0 x1 y6 x3 u2.2 h0 hf
set_option maxRecDepth 20000 in
theorem t_X2_weightIn {S : List vv_Sh} (n : Nat) (p0 : Nat) (x1 : Int32) (M : vv_M) (u : Int32 × vv_M) (h0 : vv_oven S p0) (hf : f_X2_weightIn n p0 x1 M = some u) : vv_C yX2_weightIn (vv_w yX2_weightIn cX2_weightIn 4 (some .int)) (vv_R 1 0 0) [.ref p0, .int x1] S M (some (.int u.1)) S u.2 := by
  refine vv_ofV (by decide +kernel) (Nat.le_of_ble_eq_true rfl) (L := [(0, .ref p0), (1, .int x1)]) rfl rfl rfl ?_
  show vv_V [] yX2_weightIn.cls yX2_weightIn.name cX2_weightIn 4 (some .int) (vv_R 1 0 0) S.length (vv_sz S) (vv_fi S u) 0 [(0, .ref p0), (1, .int x1)] [] S M
  unfold f_X2_weightIn at hf
  refine vi_iconst (v := (0 : Int32)) dX2_weightIn_0 (by decide) ?_
  refine vi_istore_n (L' := [(2, .int (0 : Int32)), (0, .ref p0), (1, .int x1)]) dX2_weightIn_1 rfl (by decide) rfl ?_
  refine vi_iconst (v := (0 : Int32)) dX2_weightIn_2 (by decide) ?_
  refine vi_istore_n (L' := [(3, .int (0 : Int32)), (2, .int (0 : Int32)), (0, .ref p0), (1, .int x1)]) dX2_weightIn_3 rfl (by decide) rfl ?_
  refine vi_sub (L' := [(0, .ref p0), (1, .int x1), (2, .int (0 : Int32)), (3, .int (0 : Int32))]) [2, 3, 1, 0] rfl ?_
  exact t_X2_weightIn_4 n  u  n p0 x1 (0 : Int32) (0 : Int32) M h0 hf
set_option maxRecDepth 20000 in
theorem t_X2_boardsWithFault_36 {S : List vv_Sh} (n : Nat) (k5 : Nat → Int32 → Int32 → Int32 → Int32 → vv_M → Option (Int32 × vv_M)) (u : Int32 × vv_M) (hk5 : ∀ (p0 : Nat) (x1 : Int32) (x2 : Int32) (x3 : Int32) (x4 : Int32) (M : vv_M) (h0 : vv_oven S p0) (hf : k5 p0 x1 x2 x3 x4 M = some u), vv_V [] yX2_boardsWithFault.cls yX2_boardsWithFault.name cX2_boardsWithFault 5 (some .int) (vv_R 0 0 0) S.length (vv_sz S) (vv_fi S u) 5 [(0, .ref p0), (1, .int x1), (2, .int x2), (3, .int x3), (4, .int x4)] [] S M) (p0 : Nat) (x1 : Int32) (x2 : Int32) (x3 : Int32) (x4 : Int32) (M : vv_M) (h0 : vv_oven S p0) (hf : f_X2_boardsWithFault_36 n k5 p0 x1 x2 x3 x4 M = some u) : vv_V [] yX2_boardsWithFault.cls yX2_boardsWithFault.name cX2_boardsWithFault 5 (some .int) (vv_R 0 0 0) S.length (vv_sz S) (vv_fi S u) 36 [(0, .ref p0), (1, .int x1), (2, .int x2), (3, .int x3), (4, .int x4)] [] S M := by
  unfold f_X2_boardsWithFault_36 at hf
  obtain ⟨y3, ey3, hf⟩ := vv_lt hf
  refine vi_iinc (v := y3) (L' := [(4, .int y3), (0, .ref p0), (1, .int x1), (2, .int x2), (3, .int x3)]) 4 dX2_boardsWithFault_36 rfl (by rw [ey3]; rfl) (by decide) rfl ?_
  refine vi_goto 5 dX2_boardsWithFault_39 (by decide) ?_
  refine vi_sub (L' := [(0, .ref p0), (1, .int x1), (2, .int x2), (3, .int x3), (4, .int y3)]) [1, 2, 3, 4, 0] rfl ?_
  exact hk5 p0 x1 x2 x3 y3 M h0 hf
set_option maxRecDepth 20000 in
theorem t_X2_boardsWithFault_5 {S : List vv_Sh} (n : Nat)  (u : Int32 × vv_M)  : ∀ (k : Nat) (p0 : Nat) (x1 : Int32) (x2 : Int32) (x3 : Int32) (x4 : Int32) (M : vv_M) (h0 : vv_oven S p0) (hf : f_X2_boardsWithFault_5 n  k p0 x1 x2 x3 x4 M = some u), vv_V [] yX2_boardsWithFault.cls yX2_boardsWithFault.name cX2_boardsWithFault 5 (some .int) (vv_R 0 0 0) S.length (vv_sz S) (vv_fi S u) 5 [(0, .ref p0), (1, .int x1), (2, .int x2), (3, .int x3), (4, .int x4)] [] S M := by
  intro k
  induction k with
  | zero =>
    intro p0 x1 x2 x3 x4 M h0 hf
    exact absurd (show (none : Option (Int32 × vv_M)) = some u from hf) (by simp)
  | succ k ih =>
    intro p0 x1 x2 x3 x4 M h0 hf
    rw [f_X2_boardsWithFault_5.eq_2] at hf
    refine vi_iload 4 dX2_boardsWithFault_5 rfl ?_
    refine vi_aload_n 0 dX2_boardsWithFault_7 rfl rfl ?_
    refine vi_geti 6 rfl (vv_oven_o h0) rfl wu_X2 (by decide) wf_X2_42 dX2_boardsWithFault_8 ?_
    refine vi_icmp_ge 42 dX2_boardsWithFault_11 (by decide) (fun c1 => ?_) (fun c1 => ?_)
    · rw [if_pos c1] at hf
      refine vi_iload_n 3 dX2_boardsWithFault_42 rfl rfl ?_
      obtain rfl := Option.some.inj hf
      exact vi_ret (v := some (.int x3)) rfl ⟨dX2_boardsWithFault_43, .int, rfl, rfl⟩ ⟨rfl, rfl, rfl⟩
    · rw [if_neg c1] at hf
      refine vi_aload_n 0 dX2_boardsWithFault_14 rfl rfl ?_
      refine vi_getr (t := p0 + 4) 3 rfl (vv_oven_o h0) rfl wu_X2 (by decide) wf_X2_21 dX2_boardsWithFault_15 ?_
      refine vi_iload 4 dX2_boardsWithFault_18 rfl ?_
      refine vi_bipush (v := (22 : Int32)) dX2_boardsWithFault_20 (by decide) ?_
      refine vi_imul dX2_boardsWithFault_22 ?_
      refine vi_bipush (v := (12 : Int32)) dX2_boardsWithFault_23 (by decide) ?_
      refine vi_iadd dX2_boardsWithFault_25 ?_
      refine vi_iload_n 1 dX2_boardsWithFault_26 rfl rfl ?_
      refine vi_iadd dX2_boardsWithFault_27 ?_
      obtain ⟨g5, hf⟩ := vv_gd hf
      refine vi_iald (vv_oven_boards h0) g5 dX2_boardsWithFault_28 ?_
      refine vi_iload_n 2 dX2_boardsWithFault_29 rfl rfl ?_
      refine vi_icmp_ne 36 dX2_boardsWithFault_30 (by decide) (fun c2 => ?_) (fun c2 => ?_)
      · rw [if_neg c2] at hf
        exact t_X2_boardsWithFault_36 n (f_X2_boardsWithFault_5 n k) u ih p0 x1 x2 x3 x4 M h0 hf
      · rw [if_pos c2] at hf
        obtain ⟨y4, ey4, hf⟩ := vv_lt hf
        refine vi_iinc (v := y4) (L' := [(3, .int y4), (0, .ref p0), (1, .int x1), (2, .int x2), (4, .int x4)]) 3 dX2_boardsWithFault_33 rfl (by rw [ey4]; rfl) (by decide) rfl ?_
        refine vi_sub (L' := [(0, .ref p0), (1, .int x1), (2, .int x2), (3, .int y4), (4, .int x4)]) [1, 2, 3, 0, 4] rfl ?_
        exact t_X2_boardsWithFault_36 n (f_X2_boardsWithFault_5 n k) u ih p0 x1 x2 y4 x4 M h0 hf
set_option maxRecDepth 20000 in
theorem t_X2_boardsWithFault {S : List vv_Sh} (n : Nat) (p0 : Nat) (x1 : Int32) (x2 : Int32) (M : vv_M) (u : Int32 × vv_M) (h0 : vv_oven S p0) (hf : f_X2_boardsWithFault n p0 x1 x2 M = some u) : vv_C yX2_boardsWithFault (vv_w yX2_boardsWithFault cX2_boardsWithFault 5 (some .int)) (vv_R 0 0 0) [.ref p0, .int x1, .int x2] S M (some (.int u.1)) S u.2 := by
  refine vv_ofV (by decide +kernel) (Nat.le_of_ble_eq_true rfl) (L := [(0, .ref p0), (1, .int x1), (2, .int x2)]) rfl rfl rfl ?_
  show vv_V [] yX2_boardsWithFault.cls yX2_boardsWithFault.name cX2_boardsWithFault 5 (some .int) (vv_R 0 0 0) S.length (vv_sz S) (vv_fi S u) 0 [(0, .ref p0), (1, .int x1), (2, .int x2)] [] S M
  unfold f_X2_boardsWithFault at hf
  refine vi_iconst (v := (0 : Int32)) dX2_boardsWithFault_0 (by decide) ?_
  refine vi_istore_n (L' := [(3, .int (0 : Int32)), (0, .ref p0), (1, .int x1), (2, .int x2)]) dX2_boardsWithFault_1 rfl (by decide) rfl ?_
  refine vi_iconst (v := (0 : Int32)) dX2_boardsWithFault_2 (by decide) ?_
  refine vi_istore (L' := [(4, .int (0 : Int32)), (3, .int (0 : Int32)), (0, .ref p0), (1, .int x1), (2, .int x2)]) dX2_boardsWithFault_3 (by decide) rfl ?_
  refine vi_sub (L' := [(0, .ref p0), (1, .int x1), (2, .int x2), (3, .int (0 : Int32)), (4, .int (0 : Int32))]) [2, 3, 4, 1, 0] rfl ?_
  exact t_X2_boardsWithFault_5 n  u  n p0 x1 x2 (0 : Int32) (0 : Int32) M h0 hf
set_option maxRecDepth 20000 in
theorem t_X2_setOfFaultCells_53 {S : List vv_Sh} (n : Nat) (k4 : Nat → Int64 → Int32 → vv_M → Option (Int64 × vv_M)) (k15 : Nat → Int64 → Int32 → Int32 → vv_M → Option (Int64 × vv_M)) (u : Int64 × vv_M) (hk4 : ∀ (p0 : Nat) (l1 : Int64) (x3 : Int32) (M : vv_M) (h0 : vv_oven S p0) (hf : k4 p0 l1 x3 M = some u), vv_V [] yX2_setOfFaultCells.cls yX2_setOfFaultCells.name cX2_setOfFaultCells 6 (some .long) (vv_R 0 0 0) S.length (vv_sz S) (vv_fl S u) 4 [(0, .ref p0), (1, .long l1), (3, .int x3)] [] S M) (hk15 : ∀ (p0 : Nat) (l1 : Int64) (x3 : Int32) (x4 : Int32) (M : vv_M) (h0 : vv_oven S p0) (hf : k15 p0 l1 x3 x4 M = some u), vv_V [] yX2_setOfFaultCells.cls yX2_setOfFaultCells.name cX2_setOfFaultCells 6 (some .long) (vv_R 0 0 0) S.length (vv_sz S) (vv_fl S u) 15 [(0, .ref p0), (1, .long l1), (3, .int x3), (4, .int x4)] [] S M) (p0 : Nat) (l1 : Int64) (x3 : Int32) (x4 : Int32) (M : vv_M) (h0 : vv_oven S p0) (hf : f_X2_setOfFaultCells_53 n k4 k15 p0 l1 x3 x4 M = some u) : vv_V [] yX2_setOfFaultCells.cls yX2_setOfFaultCells.name cX2_setOfFaultCells 6 (some .long) (vv_R 0 0 0) S.length (vv_sz S) (vv_fl S u) 53 [(0, .ref p0), (1, .long l1), (3, .int x3), (4, .int x4)] [] S M := by
  unfold f_X2_setOfFaultCells_53 at hf
  obtain ⟨y6, ey6, hf⟩ := vv_lt hf
  refine vi_iinc (v := y6) (L' := [(4, .int y6), (0, .ref p0), (1, .long l1), (3, .int x3)]) 3 dX2_setOfFaultCells_53 rfl (by rw [ey6]; rfl) (by decide) rfl ?_
  refine vi_goto 15 dX2_setOfFaultCells_56 (by decide) ?_
  refine vi_sub (L' := [(0, .ref p0), (1, .long l1), (3, .int x3), (4, .int y6)]) [1, 2, 3, 0] rfl ?_
  exact hk15 p0 l1 x3 y6 M h0 hf
set_option maxRecDepth 20000 in
theorem t_X2_setOfFaultCells_15 {S : List vv_Sh} (n : Nat) (k4 : Nat → Int64 → Int32 → vv_M → Option (Int64 × vv_M)) (u : Int64 × vv_M) (hk4 : ∀ (p0 : Nat) (l1 : Int64) (x3 : Int32) (M : vv_M) (h0 : vv_oven S p0) (hf : k4 p0 l1 x3 M = some u), vv_V [] yX2_setOfFaultCells.cls yX2_setOfFaultCells.name cX2_setOfFaultCells 6 (some .long) (vv_R 0 0 0) S.length (vv_sz S) (vv_fl S u) 4 [(0, .ref p0), (1, .long l1), (3, .int x3)] [] S M) : ∀ (k : Nat) (p0 : Nat) (l1 : Int64) (x3 : Int32) (x4 : Int32) (M : vv_M) (h0 : vv_oven S p0) (hf : f_X2_setOfFaultCells_15 n k4 k p0 l1 x3 x4 M = some u), vv_V [] yX2_setOfFaultCells.cls yX2_setOfFaultCells.name cX2_setOfFaultCells 6 (some .long) (vv_R 0 0 0) S.length (vv_sz S) (vv_fl S u) 15 [(0, .ref p0), (1, .long l1), (3, .int x3), (4, .int x4)] [] S M := by
  intro k
  induction k with
  | zero =>
    intro p0 l1 x3 x4 M h0 hf
    exact absurd (show (none : Option (Int64 × vv_M)) = some u from hf) (by simp)
  | succ k ih =>
    intro p0 l1 x3 x4 M h0 hf
    rw [f_X2_setOfFaultCells_15.eq_2] at hf
    refine vi_iload 3 dX2_setOfFaultCells_15 rfl ?_
    refine vi_iconst (v := (5 : Int32)) dX2_setOfFaultCells_17 (by decide) ?_
    refine vi_icmp_ge 59 dX2_setOfFaultCells_18 (by decide) (fun c2 => ?_) (fun c2 => ?_)
    · rw [if_pos c2] at hf
      obtain ⟨y3, ey3, hf⟩ := vv_lt hf
      refine vi_iinc (v := y3) (L' := [(3, .int y3), (0, .ref p0), (1, .long l1), (4, .int x4)]) 2 dX2_setOfFaultCells_59 rfl (by rw [ey3]; rfl) (by decide) rfl ?_
      refine vi_goto 4 dX2_setOfFaultCells_62 (by decide) ?_
      refine vi_sub (L' := [(0, .ref p0), (1, .long l1), (3, .int y3)]) [1, 2, 0] rfl ?_
      exact hk4 p0 l1 y3 M h0 hf
    · rw [if_neg c2] at hf
      refine vi_aload_n 0 dX2_setOfFaultCells_21 rfl rfl ?_
      refine vi_getr (t := p0 + 4) 3 rfl (vv_oven_o h0) rfl wu_X2 (by decide) wf_X2_21 dX2_setOfFaultCells_22 ?_
      refine vi_iload_n 2 dX2_setOfFaultCells_25 rfl rfl ?_
      refine vi_bipush (v := (22 : Int32)) dX2_setOfFaultCells_26 (by decide) ?_
      refine vi_imul dX2_setOfFaultCells_28 ?_
      refine vi_bipush (v := (12 : Int32)) dX2_setOfFaultCells_29 (by decide) ?_
      refine vi_iadd dX2_setOfFaultCells_31 ?_
      refine vi_iload 3 dX2_setOfFaultCells_32 rfl ?_
      refine vi_iadd dX2_setOfFaultCells_34 ?_
      obtain ⟨g8, hf⟩ := vv_gd hf
      refine vi_iald (vv_oven_boards h0) g8 dX2_setOfFaultCells_35 ?_
      obtain ⟨y4, ey4, hf⟩ := vv_lt hf
      refine vi_istore (L' := [(5, .int y4), (0, .ref p0), (1, .long l1), (3, .int x3), (4, .int x4)]) dX2_setOfFaultCells_36 (by decide) (by rw [ey4]; rfl) ?_
      refine vi_iload 0 dX2_setOfFaultCells_38 rfl ?_
      refine vi_sipush (v := (-1009 : Int32)) dX2_setOfFaultCells_40 (by decide) ?_
      refine vi_icmp_eq 53 dX2_setOfFaultCells_43 (by decide) (fun c5 => ?_) (fun c5 => ?_)
      · rw [if_pos c5] at hf
        refine vi_sub (L' := [(0, .ref p0), (1, .long l1), (3, .int x3), (4, .int x4)]) [1, 2, 3, 4] rfl ?_
        exact t_X2_setOfFaultCells_53 n k4 (f_X2_setOfFaultCells_15 n k4 k) u hk4 ih p0 l1 x3 x4 M h0 hf
      · rw [if_neg c5] at hf
        refine vi_lload_n 2 dX2_setOfFaultCells_46 rfl rfl ?_
        refine vi_lconst (v := (1 : Int64)) dX2_setOfFaultCells_47 rfl ?_
        refine vi_iload 0 dX2_setOfFaultCells_48 rfl ?_
        refine vi_lshl dX2_setOfFaultCells_50 ?_
        refine vi_lor dX2_setOfFaultCells_51 ?_
        obtain ⟨y7, ey7, hf⟩ := vv_lt hf
        refine vi_lstore_n (L' := [(1, .long y7), (5, .int y4), (0, .ref p0), (3, .int x3), (4, .int x4)]) dX2_setOfFaultCells_52 rfl (by decide) (by rw [ey7]; rfl) ?_
        refine vi_sub (L' := [(0, .ref p0), (1, .long y7), (3, .int x3), (4, .int x4)]) [2, 0, 3, 4] rfl ?_
        exact t_X2_setOfFaultCells_53 n k4 (f_X2_setOfFaultCells_15 n k4 k) u hk4 ih p0 y7 x3 x4 M h0 hf
set_option maxRecDepth 20000 in
theorem t_X2_setOfFaultCells_4 {S : List vv_Sh} (n : Nat)  (u : Int64 × vv_M)  : ∀ (k : Nat) (p0 : Nat) (l1 : Int64) (x3 : Int32) (M : vv_M) (h0 : vv_oven S p0) (hf : f_X2_setOfFaultCells_4 n  k p0 l1 x3 M = some u), vv_V [] yX2_setOfFaultCells.cls yX2_setOfFaultCells.name cX2_setOfFaultCells 6 (some .long) (vv_R 0 0 0) S.length (vv_sz S) (vv_fl S u) 4 [(0, .ref p0), (1, .long l1), (3, .int x3)] [] S M := by
  intro k
  induction k with
  | zero =>
    intro p0 l1 x3 M h0 hf
    exact absurd (show (none : Option (Int64 × vv_M)) = some u from hf) (by simp)
  | succ k ih =>
    intro p0 l1 x3 M h0 hf
    rw [f_X2_setOfFaultCells_4.eq_2] at hf
    refine vi_iload_n 2 dX2_setOfFaultCells_4 rfl rfl ?_
    refine vi_aload_n 0 dX2_setOfFaultCells_5 rfl rfl ?_
    refine vi_geti 6 rfl (vv_oven_o h0) rfl wu_X2 (by decide) wf_X2_42 dX2_setOfFaultCells_6 ?_
    refine vi_icmp_ge 65 dX2_setOfFaultCells_9 (by decide) (fun c1 => ?_) (fun c1 => ?_)
    · rw [if_pos c1] at hf
      refine vi_lload_n 1 dX2_setOfFaultCells_65 rfl rfl ?_
      obtain rfl := Option.some.inj hf
      exact vi_ret (v := some (.long l1)) rfl ⟨dX2_setOfFaultCells_66, rfl⟩ ⟨rfl, rfl, rfl⟩
    · rw [if_neg c1] at hf
      refine vi_iconst (v := (0 : Int32)) dX2_setOfFaultCells_12 (by decide) ?_
      refine vi_istore (L' := [(4, .int (0 : Int32)), (0, .ref p0), (1, .long l1), (3, .int x3)]) dX2_setOfFaultCells_13 (by decide) rfl ?_
      refine vi_sub (L' := [(0, .ref p0), (1, .long l1), (3, .int x3), (4, .int (0 : Int32))]) [1, 2, 3, 0] rfl ?_
      exact t_X2_setOfFaultCells_15 n (f_X2_setOfFaultCells_4 n k) u ih n p0 l1 x3 (0 : Int32) M h0 hf
set_option maxRecDepth 20000 in
theorem t_X2_setOfFaultCells {S : List vv_Sh} (n : Nat) (p0 : Nat) (M : vv_M) (u : Int64 × vv_M) (h0 : vv_oven S p0) (hf : f_X2_setOfFaultCells n p0 M = some u) : vv_C yX2_setOfFaultCells (vv_w yX2_setOfFaultCells cX2_setOfFaultCells 6 (some .long)) (vv_R 0 0 0) [.ref p0] S M (some (.long u.1)) S u.2 := by
  refine vv_ofV (by decide +kernel) (Nat.le_of_ble_eq_true rfl) (L := [(0, .ref p0)]) rfl rfl rfl ?_
  show vv_V [] yX2_setOfFaultCells.cls yX2_setOfFaultCells.name cX2_setOfFaultCells 6 (some .long) (vv_R 0 0 0) S.length (vv_sz S) (vv_fl S u) 0 [(0, .ref p0)] [] S M
  unfold f_X2_setOfFaultCells at hf
  refine vi_lconst (v := (0 : Int64)) dX2_setOfFaultCells_0 rfl ?_
  refine vi_lstore_n (L' := [(1, .long (0 : Int64)), (0, .ref p0)]) dX2_setOfFaultCells_1 rfl (by decide) rfl ?_
  refine vi_iconst (v := (0 : Int32)) dX2_setOfFaultCells_2 (by decide) ?_
  refine vi_istore_n (L' := [(3, .int (0 : Int32)), (1, .long (0 : Int64)), (0, .ref p0)]) dX2_setOfFaultCells_3 rfl (by decide) rfl ?_
  refine vi_sub (L' := [(0, .ref p0), (1, .long (0 : Int64)), (3, .int (0 : Int32))]) [2, 1, 0] rfl ?_
  exact t_X2_setOfFaultCells_4 n  u  n p0 (0 : Int64) (0 : Int32) M h0 hf
set_option maxRecDepth 20000 in
theorem t_X3_add {S : List vv_Sh} (n : Nat) (p0 : Nat) (x1 : Int32) (M : vv_M) (u : Int32 × vv_M) (h0 : vv_text S p0) (hf : f_X3_add n p0 x1 M = some u) : vv_C yX3_add (vv_w yX3_add cX3_add 2 (some .int)) (vv_R 1 0 0) [.ref p0, .int x1] S M (some (.int u.1)) S u.2 := by
  refine vv_ofV (by decide +kernel) (Nat.le_of_ble_eq_true rfl) (L := [(0, .ref p0), (1, .int x1)]) rfl rfl rfl ?_
  show vv_V [] yX3_add.cls yX3_add.name cX3_add 2 (some .int) (vv_R 1 0 0) S.length (vv_sz S) (vv_fi S u) 0 [(0, .ref p0), (1, .int x1)] [] S M
  unfold f_X3_add at hf
  refine vi_iload_n 1 dX3_add_0 rfl rfl ?_
  refine vi_iconst (v := (1 : Int32)) dX3_add_1 (by decide) ?_
  refine vi_sipush (v := (255 : Int32)) dX3_add_2 (by decide) ?_
  obtain ⟨u1, hu1, hf⟩ := vv_bd hf
  refine vi_callSN (As := [.int x1, .int (1 : Int32), .int (255 : Int32)]) (st := []) (t_X4_isWithin n x1 (1 : Int32) (255 : Int32) M u1  hu1) rfl yo_X4_isWithin wm_X3_15 wi_X4_isWithin wI_X4 wc_X4_isWithin ⟨Nat.le_of_ble_eq_true rfl, Nat.le_of_ble_eq_true rfl⟩ (vv_rm0 rfl rfl) (Nat.le_of_ble_eq_true rfl) rfl rfl dX3_add_5 ?_
  refine vi_if_ne 15 dX3_add_8 (by decide) (fun c2 => ?_) (fun c2 => ?_)
  · rw [if_neg c2] at hf
    refine vi_aload_n 0 dX3_add_15 rfl rfl ?_
    refine vi_geti 1 rfl (vv_text_o h0) rfl wu_X3 (by decide) wf_X3_19 dX3_add_16 ?_
    refine vi_bipush (v := (100 : Int32)) dX3_add_19 (by decide) ?_
    refine vi_icmp_lt 28 dX3_add_21 (by decide) (fun c3 => ?_) (fun c3 => ?_)
    · rw [if_pos c3] at hf
      refine vi_aload_n 0 dX3_add_28 rfl rfl ?_
      refine vi_getr (t := p0 + 1) 0 rfl (vv_text_o h0) rfl wu_X3 (by decide) wf_X3_9 dX3_add_29 ?_
      refine vi_aload_n 0 dX3_add_32 rfl rfl ?_
      refine vi_geti 1 rfl (vv_text_o h0) rfl wu_X3 (by decide) wf_X3_19 dX3_add_33 ?_
      refine vi_iload_n 1 dX3_add_36 rfl rfl ?_
      obtain ⟨g4, hf⟩ := vv_gd hf
      obtain ⟨M5, eM5, hf⟩ := vv_lt hf
      refine vi_iast (vv_text_characters h0) g4 eM5.symm dX3_add_37 ?_
      refine vi_aload_n 0 dX3_add_38 rfl rfl ?_
      refine vi_dup dX3_add_39 rfl ?_
      refine vi_geti 1 rfl (vv_text_o h0) rfl wu_X3 (by decide) wf_X3_19 dX3_add_40 ?_
      refine vi_iconst (v := (1 : Int32)) dX3_add_43 (by decide) ?_
      refine vi_iadd dX3_add_44 ?_
      obtain ⟨M6, eM6, hf⟩ := vv_lt hf
      refine vi_puti 1 rfl eM6.symm (vv_text_o h0) rfl wu_X3 tyX3 tyX3_ok nmX3 (by decide) rfl (by decide +kernel) wf_X3_19 dX3_add_45 ?_
      refine vi_aload_n 0 dX3_add_48 rfl rfl ?_
      refine vi_geti 1 rfl (vv_text_o h0) rfl wu_X3 (by decide) wf_X3_19 dX3_add_49 ?_
      obtain rfl := Option.some.inj hf
      exact vi_ret (v := some (.int (M6 p0 1))) rfl ⟨dX3_add_52, .int, rfl, rfl⟩ ⟨rfl, rfl, rfl⟩
    · rw [if_neg c3] at hf
      refine vi_sipush (v := (-1003 : Int32)) dX3_add_24 (by decide) ?_
      obtain rfl := Option.some.inj hf
      exact vi_ret (v := some (.int (-1003 : Int32))) rfl ⟨dX3_add_27, .int, rfl, rfl⟩ ⟨rfl, rfl, rfl⟩
  · rw [if_pos c2] at hf
    refine vi_sipush (v := (-1001 : Int32)) dX3_add_11 (by decide) ?_
    obtain rfl := Option.some.inj hf
    exact vi_ret (v := some (.int (-1001 : Int32))) rfl ⟨dX3_add_14, .int, rfl, rfl⟩ ⟨rfl, rfl, rfl⟩
set_option maxRecDepth 20000 in
theorem t_X3_wipe {S : List vv_Sh} (n : Nat) (p0 : Nat) (M : vv_M) (u : Int32 × vv_M) (h0 : vv_text S p0) (hf : f_X3_wipe n p0 M = some u) : vv_C yX3_wipe (vv_w yX3_wipe cX3_wipe 2 (some .int)) (vv_R 0 0 0) [.ref p0] S M (some (.int u.1)) S u.2 := by
  refine vv_ofV (by decide +kernel) (Nat.le_of_ble_eq_true rfl) (L := [(0, .ref p0)]) rfl rfl rfl ?_
  show vv_V [] yX3_wipe.cls yX3_wipe.name cX3_wipe 2 (some .int) (vv_R 0 0 0) S.length (vv_sz S) (vv_fi S u) 0 [(0, .ref p0)] [] S M
  unfold f_X3_wipe at hf
  refine vi_aload_n 0 dX3_wipe_0 rfl rfl ?_
  refine vi_geti 1 rfl (vv_text_o h0) rfl wu_X3 (by decide) wf_X3_19 dX3_wipe_1 ?_
  obtain ⟨y1, ey1, hf⟩ := vv_lt hf
  refine vi_istore_n (L' := [(1, .int y1), (0, .ref p0)]) dX3_wipe_4 rfl (by decide) (by rw [ey1]; rfl) ?_
  refine vi_aload_n 1 dX3_wipe_5 rfl rfl ?_
  refine vi_iconst (v := (0 : Int32)) dX3_wipe_6 (by decide) ?_
  obtain ⟨M2, eM2, hf⟩ := vv_lt hf
  refine vi_puti 1 rfl eM2.symm (vv_text_o h0) rfl wu_X3 tyX3 tyX3_ok nmX3 (by decide) rfl (by decide +kernel) wf_X3_19 dX3_wipe_7 ?_
  refine vi_aload_n 1 dX3_wipe_10 rfl rfl ?_
  refine vi_iconst (v := (0 : Int32)) dX3_wipe_11 (by decide) ?_
  obtain ⟨M3, eM3, hf⟩ := vv_lt hf
  refine vi_puti 2 rfl eM3.symm (vv_text_o h0) rfl wu_X3 tyX3 tyX3_ok nmX3 (by decide) rfl (by decide +kernel) wf_X3_23 dX3_wipe_12 ?_
  refine vi_iload_n 0 dX3_wipe_15 rfl rfl ?_
  obtain rfl := Option.some.inj hf
  exact vi_ret (v := some (.int y1)) rfl ⟨dX3_wipe_16, .int, rfl, rfl⟩ ⟨rfl, rfl, rfl⟩
set_option maxRecDepth 20000 in
theorem t_X3_placeAfterLetter {S : List vv_Sh} (n : Nat) (x0 : Int32) (M : vv_M) (u : Int32 × vv_M)  (hf : f_X3_placeAfterLetter n x0 M = some u) : vv_C yX3_placeAfterLetter (vv_w yX3_placeAfterLetter cX3_placeAfterLetter 1 (some .int)) (vv_R 0 0 0) [.int x0] S M (some (.int u.1)) S u.2 := by
  refine vv_ofV (by decide +kernel) (Nat.le_of_ble_eq_true rfl) (L := [(0, .int x0)]) rfl rfl rfl ?_
  show vv_V [] yX3_placeAfterLetter.cls yX3_placeAfterLetter.name cX3_placeAfterLetter 1 (some .int) (vv_R 0 0 0) S.length (vv_sz S) (vv_fi S u) 0 [(0, .int x0)] [] S M
  unfold f_X3_placeAfterLetter at hf
  refine vi_iload_n 0 dX3_placeAfterLetter_0 rfl rfl ?_
  by_cases c1 : x0 = (108 : Int32)
  · rw [if_pos c1] at hf
    refine vi_tableAt 52 c1 dX3_placeAfterLetter_1 (by decide) (by decide) rfl (by decide) ?_
    refine vi_iconst (v := (1 : Int32)) dX3_placeAfterLetter_52 (by decide) ?_
    obtain rfl := Option.some.inj hf
    exact vi_ret (v := some (.int (1 : Int32))) rfl ⟨dX3_placeAfterLetter_53, .int, rfl, rfl⟩ ⟨rfl, rfl, rfl⟩
  rw [if_neg c1] at hf
  by_cases c2 : x0 = (112 : Int32)
  · rw [if_pos c2] at hf
    refine vi_tableAt 54 c2 dX3_placeAfterLetter_1 (by decide) (by decide) rfl (by decide) ?_
    refine vi_iconst (v := (4 : Int32)) dX3_placeAfterLetter_54 (by decide) ?_
    obtain rfl := Option.some.inj hf
    exact vi_ret (v := some (.int (4 : Int32))) rfl ⟨dX3_placeAfterLetter_55, .int, rfl, rfl⟩ ⟨rfl, rfl, rfl⟩
  rw [if_neg c2] at hf
  by_cases c3 : x0 = (115 : Int32)
  · rw [if_pos c3] at hf
    refine vi_tableAt 54 c3 dX3_placeAfterLetter_1 (by decide) (by decide) rfl (by decide) ?_
    refine vi_iconst (v := (4 : Int32)) dX3_placeAfterLetter_54 (by decide) ?_
    obtain rfl := Option.some.inj hf
    exact vi_ret (v := some (.int (4 : Int32))) rfl ⟨dX3_placeAfterLetter_55, .int, rfl, rfl⟩ ⟨rfl, rfl, rfl⟩
  rw [if_neg c3] at hf
  by_cases c4 : x0 = (116 : Int32)
  · rw [if_pos c4] at hf
    refine vi_tableAt 54 c4 dX3_placeAfterLetter_1 (by decide) (by decide) rfl (by decide) ?_
    refine vi_iconst (v := (4 : Int32)) dX3_placeAfterLetter_54 (by decide) ?_
    obtain rfl := Option.some.inj hf
    exact vi_ret (v := some (.int (4 : Int32))) rfl ⟨dX3_placeAfterLetter_55, .int, rfl, rfl⟩ ⟨rfl, rfl, rfl⟩
  rw [if_neg c4] at hf
  by_cases c5 : x0 = (109 : Int32)
  · refine vi_tableAt 56 c5 dX3_placeAfterLetter_1 (by decide) (by decide) rfl (by decide) ?_
    refine vi_iconst (v := (-1 : Int32)) dX3_placeAfterLetter_56 (by decide) ?_
    obtain rfl := Option.some.inj hf
    exact vi_ret (v := some (.int (-1 : Int32))) rfl ⟨dX3_placeAfterLetter_57, .int, rfl, rfl⟩ ⟨rfl, rfl, rfl⟩
  by_cases c6 : x0 = (110 : Int32)
  · refine vi_tableAt 56 c6 dX3_placeAfterLetter_1 (by decide) (by decide) rfl (by decide) ?_
    refine vi_iconst (v := (-1 : Int32)) dX3_placeAfterLetter_56 (by decide) ?_
    obtain rfl := Option.some.inj hf
    exact vi_ret (v := some (.int (-1 : Int32))) rfl ⟨dX3_placeAfterLetter_57, .int, rfl, rfl⟩ ⟨rfl, rfl, rfl⟩
  by_cases c7 : x0 = (111 : Int32)
  · refine vi_tableAt 56 c7 dX3_placeAfterLetter_1 (by decide) (by decide) rfl (by decide) ?_
    refine vi_iconst (v := (-1 : Int32)) dX3_placeAfterLetter_56 (by decide) ?_
    obtain rfl := Option.some.inj hf
    exact vi_ret (v := some (.int (-1 : Int32))) rfl ⟨dX3_placeAfterLetter_57, .int, rfl, rfl⟩ ⟨rfl, rfl, rfl⟩
  by_cases c8 : x0 = (113 : Int32)
  · refine vi_tableAt 56 c8 dX3_placeAfterLetter_1 (by decide) (by decide) rfl (by decide) ?_
    refine vi_iconst (v := (-1 : Int32)) dX3_placeAfterLetter_56 (by decide) ?_
    obtain rfl := Option.some.inj hf
    exact vi_ret (v := some (.int (-1 : Int32))) rfl ⟨dX3_placeAfterLetter_57, .int, rfl, rfl⟩ ⟨rfl, rfl, rfl⟩
  by_cases c9 : x0 = (114 : Int32)
  · refine vi_tableAt 56 c9 dX3_placeAfterLetter_1 (by decide) (by decide) rfl (by decide) ?_
    refine vi_iconst (v := (-1 : Int32)) dX3_placeAfterLetter_56 (by decide) ?_
    obtain rfl := Option.some.inj hf
    exact vi_ret (v := some (.int (-1 : Int32))) rfl ⟨dX3_placeAfterLetter_57, .int, rfl, rfl⟩ ⟨rfl, rfl, rfl⟩
  refine vi_tableOut 56 dX3_placeAfterLetter_1 (by have nc1 := vv_nk c1 (show (108 : Int32).toInt = 108 from rfl); have nc2 := vv_nk c2 (show (112 : Int32).toInt = 112 from rfl); have nc3 := vv_nk c3 (show (115 : Int32).toInt = 115 from rfl); have nc4 := vv_nk c4 (show (116 : Int32).toInt = 116 from rfl); have nc5 := vv_nk c5 (show (109 : Int32).toInt = 109 from rfl); have nc6 := vv_nk c6 (show (110 : Int32).toInt = 110 from rfl); have nc7 := vv_nk c7 (show (111 : Int32).toInt = 111 from rfl); have nc8 := vv_nk c8 (show (113 : Int32).toInt = 113 from rfl); have nc9 := vv_nk c9 (show (114 : Int32).toInt = 114 from rfl); omega) (by decide) ?_
  refine vi_iconst (v := (-1 : Int32)) dX3_placeAfterLetter_56 (by decide) ?_
  obtain rfl := Option.some.inj hf
  exact vi_ret (v := some (.int (-1 : Int32))) rfl ⟨dX3_placeAfterLetter_57, .int, rfl, rfl⟩ ⟨rfl, rfl, rfl⟩
set_option maxRecDepth 20000 in
theorem t_X3_isDigit {S : List vv_Sh} (n : Nat) (x0 : Int32) (M : vv_M) (u : Int32 × vv_M)  (hf : f_X3_isDigit n x0 M = some u) : vv_C yX3_isDigit (vv_w yX3_isDigit cX3_isDigit 1 (some .boolean)) (vv_R 1 0 0) [.int x0] S M (some (.int u.1)) S u.2 := by
  refine vv_ofV (by decide +kernel) (Nat.le_of_ble_eq_true rfl) (L := [(0, .int x0)]) rfl rfl rfl ?_
  show vv_V [] yX3_isDigit.cls yX3_isDigit.name cX3_isDigit 1 (some .boolean) (vv_R 1 0 0) S.length (vv_sz S) (vv_fi S u) 0 [(0, .int x0)] [] S M
  unfold f_X3_isDigit at hf
  refine vi_iload_n 0 dX3_isDigit_0 rfl rfl ?_
  refine vi_bipush (v := (48 : Int32)) dX3_isDigit_1 (by decide) ?_
  refine vi_bipush (v := (57 : Int32)) dX3_isDigit_3 (by decide) ?_
  obtain ⟨u1, hu1, hf⟩ := vv_bd hf
  refine vi_callSN (As := [.int x0, .int (48 : Int32), .int (57 : Int32)]) (st := []) (t_X4_isWithin n x0 (48 : Int32) (57 : Int32) M u1  hu1) rfl yo_X4_isWithin wm_X3_15 wi_X4_isWithin wI_X4 wc_X4_isWithin ⟨Nat.le_of_ble_eq_true rfl, Nat.le_of_ble_eq_true rfl⟩ (vv_rm0 rfl rfl) (Nat.le_of_ble_eq_true rfl) rfl rfl dX3_isDigit_5 ?_
  obtain ⟨g2, hf⟩ := vv_gt hf
  obtain rfl := Option.some.inj hf
  exact vi_ret (v := some (.int u1.1)) rfl ⟨dX3_isDigit_8, .boolean, rfl, vv_nb g2⟩ ⟨rfl, rfl, rfl⟩
set_option maxRecDepth 20000 in
theorem t_X3_placeAfterFirstDigit {S : List vv_Sh} (n : Nat) (x0 : Int32) (x1 : Int32) (x2 : Int32) (M : vv_M) (u : Int32 × vv_M)  (hf : f_X3_placeAfterFirstDigit n x0 x1 x2 M = some u) : vv_C yX3_placeAfterFirstDigit (vv_w yX3_placeAfterFirstDigit cX3_placeAfterFirstDigit 3 (some .int)) (vv_R 2 0 0) [.int x0, .int x1, .int x2] S M (some (.int u.1)) S u.2 := by
  refine vv_ofV (by decide +kernel) (Nat.le_of_ble_eq_true rfl) (L := [(0, .int x0), (1, .int x1), (2, .int x2)]) rfl rfl rfl ?_
  show vv_V [] yX3_placeAfterFirstDigit.cls yX3_placeAfterFirstDigit.name cX3_placeAfterFirstDigit 3 (some .int) (vv_R 2 0 0) S.length (vv_sz S) (vv_fi S u) 0 [(0, .int x0), (1, .int x1), (2, .int x2)] [] S M
  unfold f_X3_placeAfterFirstDigit at hf
  refine vi_iload_n 0 dX3_placeAfterFirstDigit_0 rfl rfl ?_
  obtain ⟨u1, hu1, hf⟩ := vv_bd hf
  refine vi_callS (As := [.int x0]) (st := []) (t_X3_isDigit n x0 M u1  hu1) rfl yo_X3_isDigit wm_X3_38 wi_X3_isDigit wI_X3 wc_X3_isDigit ⟨Nat.le_of_ble_eq_true rfl, Nat.le_of_ble_eq_true rfl⟩ (vv_rm0 rfl rfl) (Nat.le_of_ble_eq_true rfl) rfl rfl dX3_placeAfterFirstDigit_1 ?_
  refine vi_if_ne 9 dX3_placeAfterFirstDigit_4 (by decide) (fun c2 => ?_) (fun c2 => ?_)
  · rw [if_neg c2] at hf
    refine vi_iload_n 0 dX3_placeAfterFirstDigit_9 rfl rfl ?_
    refine vi_bipush (v := (48 : Int32)) dX3_placeAfterFirstDigit_10 (by decide) ?_
    refine vi_icmp_ne 19 dX3_placeAfterFirstDigit_12 (by decide) (fun c3 => ?_) (fun c3 => ?_)
    · rw [if_neg c3] at hf
      refine vi_iload_n 1 dX3_placeAfterFirstDigit_19 rfl rfl ?_
      obtain rfl := Option.some.inj hf
      exact vi_ret (v := some (.int x1)) rfl ⟨dX3_placeAfterFirstDigit_20, .int, rfl, rfl⟩ ⟨rfl, rfl, rfl⟩
    · rw [if_pos c3] at hf
      refine vi_iload_n 2 dX3_placeAfterFirstDigit_15 rfl rfl ?_
      refine vi_goto 20 dX3_placeAfterFirstDigit_16 (by decide) ?_
      obtain rfl := Option.some.inj hf
      exact vi_ret (v := some (.int x2)) rfl ⟨dX3_placeAfterFirstDigit_20, .int, rfl, rfl⟩ ⟨rfl, rfl, rfl⟩
  · rw [if_pos c2] at hf
    refine vi_iconst (v := (-1 : Int32)) dX3_placeAfterFirstDigit_7 (by decide) ?_
    obtain rfl := Option.some.inj hf
    exact vi_ret (v := some (.int (-1 : Int32))) rfl ⟨dX3_placeAfterFirstDigit_8, .int, rfl, rfl⟩ ⟨rfl, rfl, rfl⟩
set_option maxRecDepth 20000 in
theorem t_X3_placeAfter {S : List vv_Sh} (n : Nat) (x0 : Int32) (x1 : Int32) (M : vv_M) (u : Int32 × vv_M)  (hf : f_X3_placeAfter n x0 x1 M = some u) : vv_C yX3_placeAfter (vv_w yX3_placeAfter cX3_placeAfter 2 (some .int)) (vv_R 3 0 0) [.int x0, .int x1] S M (some (.int u.1)) S u.2 := by
  refine vv_ofV (by decide +kernel) (Nat.le_of_ble_eq_true rfl) (L := [(0, .int x0), (1, .int x1)]) rfl rfl rfl ?_
  show vv_V [] yX3_placeAfter.cls yX3_placeAfter.name cX3_placeAfter 2 (some .int) (vv_R 3 0 0) S.length (vv_sz S) (vv_fi S u) 0 [(0, .int x0), (1, .int x1)] [] S M
  unfold f_X3_placeAfter at hf
  refine vi_iload_n 0 dX3_placeAfter_0 rfl rfl ?_
  by_cases c1 : x0 = (0 : Int32)
  · rw [if_pos c1] at hf
    refine vi_tableAt 44 c1 dX3_placeAfter_1 (by decide) (by decide) rfl (by decide) ?_
    refine vi_iload_n 1 dX3_placeAfter_44 rfl rfl ?_
    obtain ⟨u2, hu2, hf⟩ := vv_bd hf
    refine vi_callS (As := [.int x1]) (st := []) (t_X3_placeAfterLetter n x1 M u2  hu2) rfl yo_X3_placeAfterLetter wm_X3_30 wi_X3_placeAfterLetter wI_X3 wc_X3_placeAfterLetter ⟨Nat.le_of_ble_eq_true rfl, Nat.le_of_ble_eq_true rfl⟩ (vv_rm0 rfl rfl) (Nat.le_of_ble_eq_true rfl) rfl rfl dX3_placeAfter_45 ?_
    obtain rfl := Option.some.inj hf
    exact vi_ret (v := some (.int u2.1)) rfl ⟨dX3_placeAfter_48, .int, rfl, rfl⟩ ⟨rfl, rfl, rfl⟩
  rw [if_neg c1] at hf
  by_cases c3 : x0 = (1 : Int32)
  · rw [if_pos c3] at hf
    refine vi_tableAt 49 c3 dX3_placeAfter_1 (by decide) (by decide) rfl (by decide) ?_
    refine vi_iload_n 1 dX3_placeAfter_49 rfl rfl ?_
    refine vi_iconst (v := (2 : Int32)) dX3_placeAfter_50 (by decide) ?_
    refine vi_iconst (v := (3 : Int32)) dX3_placeAfter_51 (by decide) ?_
    obtain ⟨u4, hu4, hf⟩ := vv_bd hf
    refine vi_callS (As := [.int x1, .int (2 : Int32), .int (3 : Int32)]) (st := []) (t_X3_placeAfterFirstDigit n x1 (2 : Int32) (3 : Int32) M u4  hu4) rfl yo_X3_placeAfterFirstDigit wm_X3_34 wi_X3_placeAfterFirstDigit wI_X3 wc_X3_placeAfterFirstDigit ⟨Nat.le_of_ble_eq_true rfl, Nat.le_of_ble_eq_true rfl⟩ (vv_rm0 rfl rfl) (Nat.le_of_ble_eq_true rfl) rfl rfl dX3_placeAfter_52 ?_
    obtain rfl := Option.some.inj hf
    exact vi_ret (v := some (.int u4.1)) rfl ⟨dX3_placeAfter_55, .int, rfl, rfl⟩ ⟨rfl, rfl, rfl⟩
  rw [if_neg c3] at hf
  by_cases c5 : x0 = (2 : Int32)
  · rw [if_pos c5] at hf
    refine vi_tableAt 56 c5 dX3_placeAfter_1 (by decide) (by decide) rfl (by decide) ?_
    refine vi_iload_n 1 dX3_placeAfter_56 rfl rfl ?_
    obtain ⟨u6, hu6, hf⟩ := vv_bd hf
    refine vi_callS (As := [.int x1]) (st := []) (t_X3_isDigit n x1 M u6  hu6) rfl yo_X3_isDigit wm_X3_38 wi_X3_isDigit wI_X3 wc_X3_isDigit ⟨Nat.le_of_ble_eq_true rfl, Nat.le_of_ble_eq_true rfl⟩ (vv_rm0 rfl rfl) (Nat.le_of_ble_eq_true rfl) rfl rfl dX3_placeAfter_57 ?_
    refine vi_if_eq 67 dX3_placeAfter_60 (by decide) (fun c7 => ?_) (fun c7 => ?_)
    · rw [if_pos c7] at hf
      refine vi_iload_n 1 dX3_placeAfter_67 rfl rfl ?_
      refine vi_bipush (v := (44 : Int32)) dX3_placeAfter_68 (by decide) ?_
      refine vi_icmp_ne 77 dX3_placeAfter_70 (by decide) (fun c8 => ?_) (fun c8 => ?_)
      · rw [if_neg c8] at hf
        refine vi_iconst (v := (-1 : Int32)) dX3_placeAfter_77 (by decide) ?_
        obtain rfl := Option.some.inj hf
        exact vi_ret (v := some (.int (-1 : Int32))) rfl ⟨dX3_placeAfter_78, .int, rfl, rfl⟩ ⟨rfl, rfl, rfl⟩
      · rw [if_pos c8] at hf
        refine vi_iconst (v := (4 : Int32)) dX3_placeAfter_73 (by decide) ?_
        refine vi_goto 78 dX3_placeAfter_74 (by decide) ?_
        obtain rfl := Option.some.inj hf
        exact vi_ret (v := some (.int (4 : Int32))) rfl ⟨dX3_placeAfter_78, .int, rfl, rfl⟩ ⟨rfl, rfl, rfl⟩
    · rw [if_neg c7] at hf
      refine vi_iconst (v := (3 : Int32)) dX3_placeAfter_63 (by decide) ?_
      refine vi_goto 78 dX3_placeAfter_64 (by decide) ?_
      obtain rfl := Option.some.inj hf
      exact vi_ret (v := some (.int (3 : Int32))) rfl ⟨dX3_placeAfter_78, .int, rfl, rfl⟩ ⟨rfl, rfl, rfl⟩
  rw [if_neg c5] at hf
  by_cases c9 : x0 = (3 : Int32)
  · rw [if_pos c9] at hf
    refine vi_tableAt 79 c9 dX3_placeAfter_1 (by decide) (by decide) rfl (by decide) ?_
    refine vi_iload_n 1 dX3_placeAfter_79 rfl rfl ?_
    refine vi_bipush (v := (44 : Int32)) dX3_placeAfter_80 (by decide) ?_
    refine vi_icmp_ne 89 dX3_placeAfter_82 (by decide) (fun c10 => ?_) (fun c10 => ?_)
    · rw [if_neg c10] at hf
      refine vi_iconst (v := (-1 : Int32)) dX3_placeAfter_89 (by decide) ?_
      obtain rfl := Option.some.inj hf
      exact vi_ret (v := some (.int (-1 : Int32))) rfl ⟨dX3_placeAfter_90, .int, rfl, rfl⟩ ⟨rfl, rfl, rfl⟩
    · rw [if_pos c10] at hf
      refine vi_iconst (v := (4 : Int32)) dX3_placeAfter_85 (by decide) ?_
      refine vi_goto 90 dX3_placeAfter_86 (by decide) ?_
      obtain rfl := Option.some.inj hf
      exact vi_ret (v := some (.int (4 : Int32))) rfl ⟨dX3_placeAfter_90, .int, rfl, rfl⟩ ⟨rfl, rfl, rfl⟩
  rw [if_neg c9] at hf
  by_cases c11 : x0 = (4 : Int32)
  · rw [if_pos c11] at hf
    refine vi_tableAt 91 c11 dX3_placeAfter_1 (by decide) (by decide) rfl (by decide) ?_
    refine vi_iload_n 1 dX3_placeAfter_91 rfl rfl ?_
    refine vi_iconst (v := (5 : Int32)) dX3_placeAfter_92 (by decide) ?_
    refine vi_bipush (v := (6 : Int32)) dX3_placeAfter_93 (by decide) ?_
    obtain ⟨u12, hu12, hf⟩ := vv_bd hf
    refine vi_callS (As := [.int x1, .int (5 : Int32), .int (6 : Int32)]) (st := []) (t_X3_placeAfterFirstDigit n x1 (5 : Int32) (6 : Int32) M u12  hu12) rfl yo_X3_placeAfterFirstDigit wm_X3_34 wi_X3_placeAfterFirstDigit wI_X3 wc_X3_placeAfterFirstDigit ⟨Nat.le_of_ble_eq_true rfl, Nat.le_of_ble_eq_true rfl⟩ (vv_rm0 rfl rfl) (Nat.le_of_ble_eq_true rfl) rfl rfl dX3_placeAfter_95 ?_
    obtain rfl := Option.some.inj hf
    exact vi_ret (v := some (.int u12.1)) rfl ⟨dX3_placeAfter_98, .int, rfl, rfl⟩ ⟨rfl, rfl, rfl⟩
  rw [if_neg c11] at hf
  by_cases c13 : x0 = (5 : Int32)
  · rw [if_pos c13] at hf
    refine vi_tableAt 99 c13 dX3_placeAfter_1 (by decide) (by decide) rfl (by decide) ?_
    refine vi_iload_n 1 dX3_placeAfter_99 rfl rfl ?_
    obtain ⟨u14, hu14, hf⟩ := vv_bd hf
    refine vi_callS (As := [.int x1]) (st := []) (t_X3_isDigit n x1 M u14  hu14) rfl yo_X3_isDigit wm_X3_38 wi_X3_isDigit wI_X3 wc_X3_isDigit ⟨Nat.le_of_ble_eq_true rfl, Nat.le_of_ble_eq_true rfl⟩ (vv_rm0 rfl rfl) (Nat.le_of_ble_eq_true rfl) rfl rfl dX3_placeAfter_100 ?_
    refine vi_if_eq 111 dX3_placeAfter_103 (by decide) (fun c15 => ?_) (fun c15 => ?_)
    · rw [if_pos c15] at hf
      refine vi_iload_n 1 dX3_placeAfter_111 rfl rfl ?_
      refine vi_bipush (v := (59 : Int32)) dX3_placeAfter_112 (by decide) ?_
      refine vi_icmp_ne 121 dX3_placeAfter_114 (by decide) (fun c16 => ?_) (fun c16 => ?_)
      · rw [if_neg c16] at hf
        refine vi_iconst (v := (-1 : Int32)) dX3_placeAfter_121 (by decide) ?_
        obtain rfl := Option.some.inj hf
        exact vi_ret (v := some (.int (-1 : Int32))) rfl ⟨dX3_placeAfter_122, .int, rfl, rfl⟩ ⟨rfl, rfl, rfl⟩
      · rw [if_pos c16] at hf
        refine vi_iconst (v := (0 : Int32)) dX3_placeAfter_117 (by decide) ?_
        refine vi_goto 122 dX3_placeAfter_118 (by decide) ?_
        obtain rfl := Option.some.inj hf
        exact vi_ret (v := some (.int (0 : Int32))) rfl ⟨dX3_placeAfter_122, .int, rfl, rfl⟩ ⟨rfl, rfl, rfl⟩
    · rw [if_neg c15] at hf
      refine vi_bipush (v := (6 : Int32)) dX3_placeAfter_106 (by decide) ?_
      refine vi_goto 122 dX3_placeAfter_108 (by decide) ?_
      obtain rfl := Option.some.inj hf
      exact vi_ret (v := some (.int (6 : Int32))) rfl ⟨dX3_placeAfter_122, .int, rfl, rfl⟩ ⟨rfl, rfl, rfl⟩
  rw [if_neg c13] at hf
  by_cases c17 : x0 = (6 : Int32)
  · rw [if_pos c17] at hf
    refine vi_tableAt 123 c17 dX3_placeAfter_1 (by decide) (by decide) rfl (by decide) ?_
    refine vi_iload_n 1 dX3_placeAfter_123 rfl rfl ?_
    refine vi_bipush (v := (59 : Int32)) dX3_placeAfter_124 (by decide) ?_
    refine vi_icmp_ne 133 dX3_placeAfter_126 (by decide) (fun c18 => ?_) (fun c18 => ?_)
    · rw [if_neg c18] at hf
      refine vi_iconst (v := (-1 : Int32)) dX3_placeAfter_133 (by decide) ?_
      obtain rfl := Option.some.inj hf
      exact vi_ret (v := some (.int (-1 : Int32))) rfl ⟨dX3_placeAfter_134, .int, rfl, rfl⟩ ⟨rfl, rfl, rfl⟩
    · rw [if_pos c18] at hf
      refine vi_iconst (v := (0 : Int32)) dX3_placeAfter_129 (by decide) ?_
      refine vi_goto 134 dX3_placeAfter_130 (by decide) ?_
      obtain rfl := Option.some.inj hf
      exact vi_ret (v := some (.int (0 : Int32))) rfl ⟨dX3_placeAfter_134, .int, rfl, rfl⟩ ⟨rfl, rfl, rfl⟩
  rw [if_neg c17] at hf
  refine vi_tableOut 135 dX3_placeAfter_1 (by have nc1 := vv_nk c1 (show (0 : Int32).toInt = 0 from rfl); have nc3 := vv_nk c3 (show (1 : Int32).toInt = 1 from rfl); have nc5 := vv_nk c5 (show (2 : Int32).toInt = 2 from rfl); have nc9 := vv_nk c9 (show (3 : Int32).toInt = 3 from rfl); have nc11 := vv_nk c11 (show (4 : Int32).toInt = 4 from rfl); have nc13 := vv_nk c13 (show (5 : Int32).toInt = 5 from rfl); have nc17 := vv_nk c17 (show (6 : Int32).toInt = 6 from rfl); omega) (by decide) ?_
  refine vi_iconst (v := (-1 : Int32)) dX3_placeAfter_135 (by decide) ?_
  obtain rfl := Option.some.inj hf
  exact vi_ret (v := some (.int (-1 : Int32))) rfl ⟨dX3_placeAfter_136, .int, rfl, rfl⟩ ⟨rfl, rfl, rfl⟩
