set_option maxRecDepth 20000 in
theorem t_X2_init_108 {S : List vv_Sh} (n : Nat) (n0 z0 : Nat) (hrm : vv_rm (vv_R 1 5 740) n0 z0 S (vv_R 0 0 0))  (u : Unit × vv_M)  : ∀ (k : Nat) (p0 : Nat) (x1 : Int32) (M : vv_M) (h0 : vv_oven S p0) (hf : f_X2_init_108 n  k p0 x1 M = some u), vv_V [] yX2_init.cls yX2_init.name cX2_init 3 none (vv_R 1 5 740) n0 z0 (vv_fu S u) 108 [(0, .ref p0), (1, .int x1)] [] S M := by
  intro k
  induction k with
  | zero =>
    intro p0 x1 M h0 hf
    exact absurd (show (none : Option (Unit × vv_M)) = some u from hf) (by simp)
  | succ k ih =>
    intro p0 x1 M h0 hf
    rw [f_X2_init_108.eq_2] at hf
    refine vi_iload_n 1 dX2_init_108 rfl rfl ?_
    refine vi_iconst (v := (4 : Int32)) dX2_init_109 (by decide) ?_
    refine vi_icmp_ge 136 dX2_init_110 (by decide) (fun c2 => ?_) (fun c2 => ?_)
    · rw [if_pos c2] at hf
      refine vi_gets (i := 1) 1 rfl rfl wf_X2_39 dX2_init_136 ?_
      refine vi_iconst (v := (0 : Int32)) dX2_init_139 (by decide) ?_
      refine vi_aload_n 0 dX2_init_140 rfl rfl ?_
      refine vi_getr (t := p0 + 3) 2 rfl (vv_oven_o h0) rfl wu_X2 (by decide) wf_X2_18 dX2_init_141 ?_
      refine vi_iconst (v := (0 : Int32)) dX2_init_144 (by decide) ?_
      refine vi_iconst (v := (4 : Int32)) dX2_init_145 (by decide) ?_
      obtain ⟨g4, hf⟩ := vv_gd hf
      obtain ⟨g5, hf⟩ := vv_gd hf
      obtain ⟨g6, hf⟩ := vv_gd hf
      obtain ⟨g7, hf⟩ := vv_gd hf
      obtain ⟨g8, hf⟩ := vv_gd hf
      obtain ⟨M3, eM3, hf⟩ := vv_lt hf
      refine vi_copyT (i := 1) (xs := [2, 3, 6, 1]) rfl rfl (vv_oven_numbers h0) g4 g5 g6 (Nat.not_lt.mp g7) (Nat.not_lt.mp g8) wm_X2_33 wa_native wa_static wI_sys (by decide) (by decide +kernel) eM3.symm dX2_init_146 ?_
      obtain rfl := Option.some.inj hf
      exact vi_ret (v := none) rfl ⟨dX2_init_149, rfl⟩ ⟨rfl, rfl, rfl⟩
    · rw [if_neg c2] at hf
      refine vi_gets (i := 4) 4 rfl rfl wf_X2_30 dX2_init_113 ?_
      refine vi_iconst (v := (0 : Int32)) dX2_init_116 (by decide) ?_
      refine vi_aload_n 0 dX2_init_117 rfl rfl ?_
      refine vi_getr (t := p0 + 2) 1 rfl (vv_oven_o h0) rfl wu_X2 (by decide) wf_X2_15 dX2_init_118 ?_
      refine vi_iload_n 1 dX2_init_121 rfl rfl ?_
      refine vi_bipush (v := (6 : Int32)) dX2_init_122 (by decide) ?_
      refine vi_imul dX2_init_124 ?_
      refine vi_bipush (v := (6 : Int32)) dX2_init_125 (by decide) ?_
      obtain ⟨g10, hf⟩ := vv_gd hf
      obtain ⟨g11, hf⟩ := vv_gd hf
      obtain ⟨g12, hf⟩ := vv_gd hf
      obtain ⟨g13, hf⟩ := vv_gd hf
      obtain ⟨g14, hf⟩ := vv_gd hf
      obtain ⟨M9, eM9, hf⟩ := vv_lt hf
      refine vi_copyT (i := 4) (xs := [40, 180, 2, 6, 190, 240]) rfl rfl (vv_oven_curves h0) g10 g11 g12 (Nat.not_lt.mp g13) (Nat.not_lt.mp g14) wm_X2_33 wa_native wa_static wI_sys (by decide) (by decide +kernel) eM9.symm dX2_init_127 ?_
      obtain ⟨y15, ey15, hf⟩ := vv_lt hf
      refine vi_iinc (v := y15) (L' := [(1, .int y15), (0, .ref p0)]) 1 dX2_init_130 rfl (by rw [ey15]; rfl) (by decide) rfl ?_
      refine vi_goto 108 dX2_init_133 (by decide) ?_
      refine vi_sub (L' := [(0, .ref p0), (1, .int y15)]) [1, 0] rfl ?_
      exact ih p0 y15 M9 h0 hf
set_option maxRecDepth 20000 in
theorem t_X2_init_100 {S : List vv_Sh} (n : Nat) (n0 z0 : Nat) (hrm : vv_rm (vv_R 1 5 740) n0 z0 S (vv_R 0 0 0)) (k46 : Nat → Int32 → vv_M → Option (Unit × vv_M)) (u : Unit × vv_M) (hk46 : ∀ (p0 : Nat) (x1 : Int32) (M : vv_M) (h0 : vv_oven S p0) (hf : k46 p0 x1 M = some u), vv_V [] yX2_init.cls yX2_init.name cX2_init 3 none (vv_R 1 5 740) n0 z0 (vv_fu S u) 46 [(0, .ref p0), (1, .int x1)] [] S M) (p0 : Nat) (x1 : Int32) (M : vv_M) (h0 : vv_oven S p0) (hf : f_X2_init_100 n k46 p0 x1 M = some u) : vv_V [] yX2_init.cls yX2_init.name cX2_init 3 none (vv_R 1 5 740) n0 z0 (vv_fu S u) 100 [(0, .ref p0), (1, .int x1)] [] S M := by
  unfold f_X2_init_100 at hf
  obtain ⟨y25, ey25, hf⟩ := vv_lt hf
  refine vi_iinc (v := y25) (L' := [(1, .int y25), (0, .ref p0)]) 1 dX2_init_100 rfl (by rw [ey25]; rfl) (by decide) rfl ?_
  refine vi_goto 46 dX2_init_103 (by decide) ?_
  refine vi_sub (L' := [(0, .ref p0), (1, .int y25)]) [1, 0] rfl ?_
  exact hk46 p0 y25 M h0 hf
set_option maxRecDepth 20000 in
theorem t_X2_init_46 {S : List vv_Sh} (n : Nat) (n0 z0 : Nat) (hrm : vv_rm (vv_R 1 5 740) n0 z0 S (vv_R 0 0 0))  (u : Unit × vv_M)  : ∀ (k : Nat) (p0 : Nat) (x1 : Int32) (M : vv_M) (h0 : vv_oven S p0) (hf : f_X2_init_46 n  k p0 x1 M = some u), vv_V [] yX2_init.cls yX2_init.name cX2_init 3 none (vv_R 1 5 740) n0 z0 (vv_fu S u) 46 [(0, .ref p0), (1, .int x1)] [] S M := by
  intro k
  induction k with
  | zero =>
    intro p0 x1 M h0 hf
    exact absurd (show (none : Option (Unit × vv_M)) = some u from hf) (by simp)
  | succ k ih =>
    intro p0 x1 M h0 hf
    rw [f_X2_init_46.eq_2] at hf
    refine vi_iload_n 1 dX2_init_46 rfl rfl ?_
    refine vi_bipush (v := (6 : Int32)) dX2_init_47 (by decide) ?_
    refine vi_icmp_ge 106 dX2_init_49 (by decide) (fun c1 => ?_) (fun c1 => ?_)
    · rw [if_pos c1] at hf
      refine vi_iconst (v := (0 : Int32)) dX2_init_106 (by decide) ?_
      refine vi_istore_n (L' := [(1, .int (0 : Int32)), (0, .ref p0)]) dX2_init_107 rfl (by decide) rfl ?_
      refine vi_sub (L' := [(0, .ref p0), (1, .int (0 : Int32))]) [1, 0] rfl ?_
      exact t_X2_init_108 n n0 z0 hrm  u  n p0 (0 : Int32) M h0 hf
    · rw [if_neg c1] at hf
      refine vi_iload_n 1 dX2_init_52 rfl rfl ?_
      refine vi_iconst (v := (4 : Int32)) dX2_init_53 (by decide) ?_
      refine vi_imul dX2_init_54 ?_
      obtain ⟨y16, ey16, hf⟩ := vv_lt hf
      refine vi_istore_n (L' := [(2, .int y16), (0, .ref p0), (1, .int x1)]) dX2_init_55 rfl (by decide) (by rw [ey16]; rfl) ?_
      refine vi_aload_n 1 dX2_init_56 rfl rfl ?_
      refine vi_getr (t := p0 + 1) 0 rfl (vv_oven_o h0) rfl wu_X2 (by decide) wf_X2_9 dX2_init_57 ?_
      refine vi_iload_n 0 dX2_init_60 rfl rfl ?_
      refine vi_iconst (v := (0 : Int32)) dX2_init_61 (by decide) ?_
      refine vi_iadd dX2_init_62 ?_
      refine vi_iconst (v := (4 : Int32)) dX2_init_63 (by decide) ?_
      obtain ⟨g17, hf⟩ := vv_gd hf
      obtain ⟨M18, eM18, hf⟩ := vv_lt hf
      refine vi_iast (vv_oven_zones h0) g17 eM18.symm dX2_init_64 ?_
      refine vi_aload_n 1 dX2_init_65 rfl rfl ?_
      refine vi_getr (t := p0 + 1) 0 rfl (vv_oven_o h0) rfl wu_X2 (by decide) wf_X2_9 dX2_init_66 ?_
      refine vi_iload_n 0 dX2_init_69 rfl rfl ?_
      refine vi_iconst (v := (1 : Int32)) dX2_init_70 (by decide) ?_
      refine vi_iadd dX2_init_71 ?_
      refine vi_gets (i := 0) 0 rfl rfl wf_X2_27 dX2_init_72 ?_
      refine vi_iload_n 2 dX2_init_75 rfl rfl ?_
      obtain ⟨g27, hf⟩ := vv_gd hf
      refine vi_tald (i := 0) (xs := [120, 160, 180, 240, 230, 60]) rfl rfl g27 dX2_init_76 ?_
      obtain ⟨g19, hf⟩ := vv_gd hf
      obtain ⟨M20, eM20, hf⟩ := vv_lt hf
      refine vi_iast (vv_oven_zones h0) g19 eM20.symm dX2_init_77 ?_
      refine vi_aload_n 1 dX2_init_78 rfl rfl ?_
      refine vi_getr (t := p0 + 1) 0 rfl (vv_oven_o h0) rfl wu_X2 (by decide) wf_X2_9 dX2_init_79 ?_
      refine vi_iload_n 0 dX2_init_82 rfl rfl ?_
      refine vi_iconst (v := (2 : Int32)) dX2_init_83 (by decide) ?_
      refine vi_iadd dX2_init_84 ?_
      refine vi_iconst (v := (5 : Int32)) dX2_init_85 (by decide) ?_
      obtain ⟨g21, hf⟩ := vv_gd hf
      obtain ⟨M22, eM22, hf⟩ := vv_lt hf
      refine vi_iast (vv_oven_zones h0) g21 eM22.symm dX2_init_86 ?_
      refine vi_aload_n 1 dX2_init_87 rfl rfl ?_
      refine vi_getr (t := p0 + 1) 0 rfl (vv_oven_o h0) rfl wu_X2 (by decide) wf_X2_9 dX2_init_88 ?_
      refine vi_iload_n 0 dX2_init_91 rfl rfl ?_
      refine vi_iconst (v := (3 : Int32)) dX2_init_92 (by decide) ?_
      refine vi_iadd dX2_init_93 ?_
      refine vi_gets (i := 0) 0 rfl rfl wf_X2_27 dX2_init_94 ?_
      refine vi_iload_n 2 dX2_init_97 rfl rfl ?_
      obtain ⟨g26, hf⟩ := vv_gd hf
      refine vi_tald (i := 0) (xs := [120, 160, 180, 240, 230, 60]) rfl rfl g26 dX2_init_98 ?_
      obtain ⟨g23, hf⟩ := vv_gd hf
      obtain ⟨M24, eM24, hf⟩ := vv_lt hf
      refine vi_iast (vv_oven_zones h0) g23 eM24.symm dX2_init_99 ?_
      refine vi_sub (L' := [(0, .ref p0), (1, .int x1)]) [1, 2] rfl ?_
      exact t_X2_init_100 n n0 z0 hrm (f_X2_init_46 n k) u ih p0 x1 M24 h0 hf
