set_option maxRecDepth 20000 in
theorem t_X2_init_108 {S : List vv_Sh} (n : Nat) (n0 z0 : Nat) (hrm : vv_rm (vv_R 1 5 740) n0 z0 S (vv_R 0 0 0))  (u : Unit × vv_M)  : ∀ (k : Nat) (p0 : Nat) (x1 : Int32) (M : vv_M) (h0 : vv_oven S p0) (hf : f_X2_init_108 n  k p0 x1 M = some u), vv_V [] yX2_init.cls yX2_init.name cX2_init 3 none (vv_R 1 5 740) n0 z0 (vv_fu S u) 108 [(0, .ref p0), (1, .int x1)] [] S M := by
  intro k
  induction k with
  | zero =>
    intro p0 x1 M h0 hf
    exact absurd (show (none : Option (Unit × vv_M)) = some u from hf) (by simp)
  | succ k ih =>
    intro p0 x1 M h0 hf
    rw [f_X2_init_108.eq_2] at hf
    refine vi_iload_n 1 dX2_init_108 rfl rfl ?_
    refine vi_iconst (v := (4 : Int32)) dX2_init_109 (by decide) ?_
    refine vi_icmp_ge 136 dX2_init_110 (by decide) (fun c2 => ?_) (fun c2 => ?_)
    · rw [if_pos c2] at hf
      refine vi_gets (i := 1) 1 rfl rfl wf_X2_39 dX2_init_136 ?_
      refine vi_iconst (v := (0 : Int32)) dX2_init_139 (by decide) ?_
      refine vi_aload_n 0 dX2_init_140 rfl rfl ?_
      refine vi_getr (t := p0 + 3) 2 rfl (vv_oven_o h0) rfl wu_X2 (by decide) wf_X2_18 dX2_init_141 ?_
      refine vi_iconst (v := (0 : Int32)) dX2_init_144 (by decide) ?_
      refine vi_iconst (v := (4 : Int32)) dX2_init_145 (by decide) ?_
      obtain ⟨g4, hf⟩ := vv_gd hf
      obtain ⟨g5, hf⟩ := vv_gd hf
      obtain ⟨g6, hf⟩ := vv_gd hf
      obtain ⟨g7, hf⟩ := vv_gd hf
      obtain ⟨g8, hf⟩ := vv_gd hf
      obtain ⟨M3, eM3, hf⟩ := vv_lt hf
      refine vi_copyT (i := 1) (xs := [2, 3, 6, 1]) rfl rfl (vv_oven_numbers h0) g4 g5 g6 (Nat.not_lt.mp g7) (Nat.not_lt.mp g8) wm_X2_33 wa_native wa_static wI_sys (by decide) (by decide +kernel) eM3.symm dX2_init_146 ?_
      obtain rfl := Option.some.inj hf
      exact vi_ret (v := none) rfl ⟨dX2_init_149, rfl⟩ ⟨rfl, rfl, rfl⟩
    · rw [if_neg c2] at hf
      refine vi_gets (i := 4) 4 rfl rfl wf_X2_30 dX2_init_113 ?_
      refine vi_iconst (v := (0 : Int32)) dX2_init_116 (by decide) ?_
      refine vi_aload_n 0 dX2_init_117 rfl rfl ?_
      refine vi_getr (t := p0 + 2) 1 rfl (vv_oven_o h0) rfl wu_X2 (by decide) wf_X2_15 dX2_init_118 ?_
      refine vi_iload_n 1 dX2_init_121 rfl rfl ?_
      refine vi_bipush (v := (6 : Int32)) dX2_init_122 (by decide) ?_
      refine vi_imul dX2_init_124 ?_
      refine vi_bipush (v := (6 : Int32)) dX2_init_125 (by decide) ?_
      obtain ⟨g10, hf⟩ := vv_gd hf
      obtain ⟨g11, hf⟩ := vv_gd hf
      obtain ⟨g12, hf⟩ := vv_gd hf
      obtain ⟨g13, hf⟩ := vv_gd hf
      obtain ⟨g14, hf⟩ := vv_gd hf
      obtain ⟨M9, eM9, hf⟩ := vv_lt hf
      refine vi_copyT (i := 4) (xs := [40, 180, 2, 6, 190, 240]) rfl rfl (vv_oven_curves h0) g10 g11 g12 (Nat.not_lt.mp g13) (Nat.not_lt.mp g14) wm_X2_33 wa_native wa_static wI_sys (by decide) (by decide +kernel) eM9.symm dX2_init_127 ?_
      obtain ⟨y15, ey15, hf⟩ := vv_lt hf
      refine vi_iinc (v := y15) (L' := [(1, .int y15), (0, .ref p0)]) 1 dX2_init_130 rfl (by rw [ey15]; rfl) (by decide) rfl ?_
      refine vi_goto 108 dX2_init_133 (by decide) ?_
      refine vi_sub (L' := [(0, .ref p0), (1, .int y15)]) [1, 0] rfl ?_
      exact ih p0 y15 M9 h0 hf
set_option maxRecDepth 20000 in
theorem t_X2_init_100 {S : List vv_Sh} (n : Nat) (n0 z0 : Nat) (hrm : vv_rm (vv_R 1 5 740) n0 z0 S (vv_R 0 0 0)) (k46 : Nat → Int32 → vv_M → Option (Unit × vv_M)) (u : Unit × vv_M) (hk46 : ∀ (p0 : Nat) (x1 : Int32) (M : vv_M) (h0 : vv_oven S p0) (hf : k46 p0 x1 M = some u), vv_V [] yX2_init.cls yX2_init.name cX2_init 3 none (vv_R 1 5 740) n0 z0 (vv_fu S u) 46 [(0, .ref p0), (1, .int x1)] [] S M) (p0 : Nat) (x1 : Int32) (M : vv_M) (h0 : vv_oven S p0) (hf : f_X2_init_100 n k46 p0 x1 M = some u) : vv_V [] yX2_init.cls yX2_init.name cX2_init 3 none (vv_R 1 5 740) n0 z0 (vv_fu S u) 100 [(0, .ref p0), (1, .int x1)] [] S M := by
  unfold f_X2_init_100 at hf
  obtain ⟨y25, ey25, hf⟩ := vv_lt hf
  refine vi_iinc (v := y25) (L' := [(1, .int y25), (0, .ref p0)]) 1 dX2_init_100 rfl (by rw [ey25]; rfl) (by decide) rfl ?_
  refine vi_goto 46 dX2_init_103 (by decide) ?_
  refine vi_sub (L' := [(0, .ref p0), (1, .int y25)]) [1, 0] rfl ?_
  exact hk46 p0 y25 M h0 hf
set_option maxRecDepth 20000 in
theorem t_X2_init_46 {S : List vv_Sh} (n : Nat) (n0 z0 : Nat) (hrm : vv_rm (vv_R 1 5 740) n0 z0 S (vv_R 0 0 0))  (u : Unit × vv_M)  : ∀ (k : Nat) (p0 : Nat) (x1 : Int32) (M : vv_M) (h0 : vv_oven S p0) (hf : f_X2_init_46 n  k p0 x1 M = some u), vv_V [] yX2_init.cls yX2_init.name cX2_init 3 none (vv_R 1 5 740) n0 z0 (vv_fu S u) 46 [(0, .ref p0), (1, .int x1)] [] S M := by
  intro k
  induction k with
  | zero =>
    intro p0 x1 M h0 hf
    exact absurd (show (none : Option (Unit × vv_M)) = some u from hf) (by simp)
  | succ k ih =>
    intro p0 x1 M h0 hf
    rw [f_X2_init_46.eq_2] at hf
    refine vi_iload_n 1 dX2_init_46 rfl rfl ?_
    refine vi_bipush (v := (6 : Int32)) dX2_init_47 (by decide) ?_
    refine vi_icmp_ge 106 dX2_init_49 (by decide) (fun c1 => ?_) (fun c1 => ?_)
    · rw [if_pos c1] at hf
      refine vi_iconst (v := (0 : Int32)) dX2_init_106 (by decide) ?_
      refine vi_istore_n (L' := [(1, .int (0 : Int32)), (0, .ref p0)]) dX2_init_107 rfl (by decide) rfl ?_
      refine vi_sub (L' := [(0, .ref p0), (1, .int (0 : Int32))]) [1, 0] rfl ?_
      exact t_X2_init_108 n n0 z0 hrm  u  n p0 (0 : Int32) M h0 hf
    · rw [if_neg c1] at hf
      refine vi_iload_n 1 dX2_init_52 rfl rfl ?_
      refine vi_iconst (v := (4 : Int32)) dX2_init_53 (by decide) ?_
      refine vi_imul dX2_init_54 ?_
      obtain ⟨y16, ey16, hf⟩ := vv_lt hf
      refine vi_istore_n (L' := [(2, .int y16), (0, .ref p0), (1, .int x1)]) dX2_init_55 rfl (by decide) (by rw [ey16]; rfl) ?_
      refine vi_aload_n 1 dX2_init_56 rfl rfl ?_
      refine vi_getr (t := p0 + 1) 0 rfl (vv_oven_o h0) rfl wu_X2 (by decide) wf_X2_9 dX2_init_57 ?_
      refine vi_iload_n 0 dX2_init_60 rfl rfl ?_
      refine vi_iconst (v := (0 : Int32)) dX2_init_61 (by decide) ?_
      refine vi_iadd dX2_init_62 ?_
      refine vi_iconst (v := (4 : Int32)) dX2_init_63 (by decide) ?_
      obtain ⟨g17, hf⟩ := vv_gd hf
      obtain ⟨M18, eM18, hf⟩ := vv_lt hf
      refine vi_iast (vv_oven_zones h0) g17 eM18.symm dX2_init_64 ?_
      refine vi_aload_n 1 dX2_init_65 rfl rfl ?_
      refine vi_getr (t := p0 + 1) 0 rfl (vv_oven_o h0) rfl wu_X2 (by decide) wf_X2_9 dX2_init_66 ?_
      refine vi_iload_n 0 dX2_init_69 rfl rfl ?_
      refine vi_iconst (v := (1 : Int32)) dX2_init_70 (by decide) ?_
      refine vi_iadd dX2_init_71 ?_
      refine vi_gets (i := 0) 0 rfl rfl wf_X2_27 dX2_init_72 ?_
      refine vi_iload_n 2 dX2_init_75 rfl rfl ?_
      obtain ⟨g27, hf⟩ := vv_gd hf
      refine vi_tald (i := 0) (xs := [120, 160, 180, 240, 230, 60]) rfl rfl g27 dX2_init_76 ?_
      obtain ⟨g19, hf⟩ := vv_gd hf
      obtain ⟨M20, eM20, hf⟩ := vv_lt hf
      refine vi_iast (vv_oven_zones h0) g19 eM20.symm dX2_init_77 ?_
      refine vi_aload_n 1 dX2_init_78 rfl rfl ?_
      refine vi_getr (t := p0 + 1) 0 rfl (vv_oven_o h0) rfl wu_X2 (by decide) wf_X2_9 dX2_init_79 ?_
      refine vi_iload_n 0 dX2_init_82 rfl rfl ?_
      refine vi_iconst (v := (2 : Int32)) dX2_init_83 (by decide) ?_
      refine vi_iadd dX2_init_84 ?_
      refine vi_iconst (v := (5 : Int32)) dX2_init_85 (by decide) ?_
      obtain ⟨g21, hf⟩ := vv_gd hf
      obtain ⟨M22, eM22, hf⟩ := vv_lt hf
      refine vi_iast (vv_oven_zones h0) g21 eM22.symm dX2_init_86 ?_
      refine vi_aload_n 1 dX2_init_87 rfl rfl ?_
      refine vi_getr (t := p0 + 1) 0 rfl (vv_oven_o h0) rfl wu_X2 (by decide) wf_X2_9 dX2_init_88 ?_
      refine vi_iload_n 0 dX2_init_91 rfl rfl ?_
      refine vi_iconst (v := (3 : Int32)) dX2_init_92 (by decide) ?_
      refine vi_iadd dX2_init_93 ?_
      refine vi_gets (i := 0) 0 rfl rfl wf_X2_27 dX2_init_94 ?_
      refine vi_iload_n 2 dX2_init_97 rfl rfl ?_
      obtain ⟨g26, hf⟩ := vv_gd hf
      refine vi_tald (i := 0) (xs := [120, 160, 180, 240, 230, 60]) rfl rfl g26 dX2_init_98 ?_
      obtain ⟨g23, hf⟩ := vv_gd hf
      obtain ⟨M24, eM24, hf⟩ := vv_lt hf
      refine vi_iast (vv_oven_zones h0) g23 eM24.symm dX2_init_99 ?_
      refine vi_sub (L' := [(0, .ref p0), (1, .int x1)]) [1, 2] rfl ?_
      exact t_X2_init_100 n n0 z0 hrm (f_X2_init_46 n k) u ih p0 x1 M24 h0 hf
set_option maxRecDepth 20000 in
theorem t_X5_init_216 {S : List vv_Sh} (n : Nat) (n0 z0 : Nat) (hrm : vv_rm (vv_R 1 2 13545) n0 z0 S (vv_R 0 0 0)) (k137 : Nat → Int32 → vv_M → Option (Unit × vv_M)) (u : Unit × vv_M) (hk137 : ∀ (p0 : Nat) (x1 : Int32) (M : vv_M) (h0 : vv_model S p0) (hf : k137 p0 x1 M = some u), vv_V [] yX5_init.cls yX5_init.name cX5_init 3 none (vv_R 1 2 13545) n0 z0 (vv_fu S u) 137 [(0, .ref p0), (1, .int x1)] [] S M) (p0 : Nat) (x1 : Int32) (M : vv_M) (h0 : vv_model S p0) (hf : f_X5_init_216 n k137 p0 x1 M = some u) : vv_V [] yX5_init.cls yX5_init.name cX5_init 3 none (vv_R 1 2 13545) n0 z0 (vv_fu S u) 216 [(0, .ref p0), (1, .int x1)] [] S M := by
  unfold f_X5_init_216 at hf
  obtain ⟨y29, ey29, hf⟩ := vv_lt hf
  refine vi_iinc (v := y29) (L' := [(1, .int y29), (0, .ref p0)]) 1 dX5_init_216 rfl (by rw [ey29]; rfl) (by decide) rfl ?_
  refine vi_goto 137 dX5_init_219 (by decide) ?_
  refine vi_sub (L' := [(0, .ref p0), (1, .int y29)]) [1, 0] rfl ?_
  exact hk137 p0 y29 M h0 hf
set_option maxRecDepth 20000 in
theorem t_X5_init_178 {S : List vv_Sh} (n : Nat) (n0 z0 : Nat) (hrm : vv_rm (vv_R 1 2 13545) n0 z0 S (vv_R 0 0 0)) (k137 : Nat → Int32 → vv_M → Option (Unit × vv_M)) (u : Unit × vv_M) (hk137 : ∀ (p0 : Nat) (x1 : Int32) (M : vv_M) (h0 : vv_model S p0) (hf : k137 p0 x1 M = some u), vv_V [] yX5_init.cls yX5_init.name cX5_init 3 none (vv_R 1 2 13545) n0 z0 (vv_fu S u) 137 [(0, .ref p0), (1, .int x1)] [] S M) (p0 : Nat) (x1 : Int32) (M : vv_M) (h0 : vv_model S p0) (hf : f_X5_init_178 n k137 p0 x1 M = some u) : vv_V [] yX5_init.cls yX5_init.name cX5_init 3 none (vv_R 1 2 13545) n0 z0 (vv_fu S u) 178 [(0, .ref p0), (1, .int x1)] [] S M := by
  unfold f_X5_init_178 at hf
  refine vi_aload_n 0 dX5_init_178 rfl rfl ?_
  refine vi_getr (t := p0 + 1) 0 rfl (vv_model_o h0) rfl wu_X5 (by decide) wf_X5_7 dX5_init_179 ?_
  refine vi_iload_n 1 dX5_init_182 rfl rfl ?_
  refine vi_iconst (v := (3 : Int32)) dX5_init_183 (by decide) ?_
  obtain ⟨u20, hu20, hf⟩ := vv_bd hf
  refine vi_callS (As := [.int x1, .int (3 : Int32)]) (st := [.ref (p0 + 1)]) (t_X5_ofCurve n x1 (3 : Int32) M u20  hu20) rfl yo_X5_ofCurve wm_X5_20 wi_X5_ofCurve wI_X5 wc_X5_ofCurve ⟨Nat.le_of_ble_eq_true rfl, Nat.le_of_ble_eq_true rfl⟩ hrm (Nat.le_of_ble_eq_true rfl) rfl rfl dX5_init_184 ?_
  refine vi_bipush (v := (6 : Int32)) dX5_init_187 (by decide) ?_
  obtain ⟨g21, hf⟩ := vv_gd hf
  obtain ⟨M22, eM22, hf⟩ := vv_lt hf
  refine vi_iast (vv_model_row h0) g21 eM22.symm dX5_init_189 ?_
  refine vi_aload_n 0 dX5_init_190 rfl rfl ?_
  refine vi_getr (t := p0 + 1) 0 rfl (vv_model_o h0) rfl wu_X5 (by decide) wf_X5_7 dX5_init_191 ?_
  refine vi_iload_n 1 dX5_init_194 rfl rfl ?_
  refine vi_iconst (v := (4 : Int32)) dX5_init_195 (by decide) ?_
  obtain ⟨u23, hu23, hf⟩ := vv_bd hf
  refine vi_callS (As := [.int x1, .int (4 : Int32)]) (st := [.ref (p0 + 1)]) (t_X5_ofCurve n x1 (4 : Int32) M22 u23  hu23) rfl yo_X5_ofCurve wm_X5_20 wi_X5_ofCurve wI_X5 wc_X5_ofCurve ⟨Nat.le_of_ble_eq_true rfl, Nat.le_of_ble_eq_true rfl⟩ hrm (Nat.le_of_ble_eq_true rfl) rfl rfl dX5_init_196 ?_
  refine vi_sipush (v := (190 : Int32)) dX5_init_199 (by decide) ?_
  obtain ⟨g24, hf⟩ := vv_gd hf
  obtain ⟨M25, eM25, hf⟩ := vv_lt hf
  refine vi_iast (vv_model_row h0) g24 eM25.symm dX5_init_202 ?_
  refine vi_aload_n 0 dX5_init_203 rfl rfl ?_
  refine vi_getr (t := p0 + 1) 0 rfl (vv_model_o h0) rfl wu_X5 (by decide) wf_X5_7 dX5_init_204 ?_
  refine vi_iload_n 1 dX5_init_207 rfl rfl ?_
  refine vi_iconst (v := (5 : Int32)) dX5_init_208 (by decide) ?_
  obtain ⟨u26, hu26, hf⟩ := vv_bd hf
  refine vi_callS (As := [.int x1, .int (5 : Int32)]) (st := [.ref (p0 + 1)]) (t_X5_ofCurve n x1 (5 : Int32) M25 u26  hu26) rfl yo_X5_ofCurve wm_X5_20 wi_X5_ofCurve wI_X5 wc_X5_ofCurve ⟨Nat.le_of_ble_eq_true rfl, Nat.le_of_ble_eq_true rfl⟩ hrm (Nat.le_of_ble_eq_true rfl) rfl rfl dX5_init_209 ?_
  refine vi_sipush (v := (240 : Int32)) dX5_init_212 (by decide) ?_
  obtain ⟨g27, hf⟩ := vv_gd hf
  obtain ⟨M28, eM28, hf⟩ := vv_lt hf
  refine vi_iast (vv_model_row h0) g27 eM28.symm dX5_init_215 ?_
  exact t_X5_init_216 n n0 z0 hrm k137 u hk137 p0 x1 M28 h0 hf
set_option maxRecDepth 20000 in
theorem t_X5_init_137 {S : List vv_Sh} (n : Nat) (n0 z0 : Nat) (hrm : vv_rm (vv_R 1 2 13545) n0 z0 S (vv_R 0 0 0))  (u : Unit × vv_M)  : ∀ (k : Nat) (p0 : Nat) (x1 : Int32) (M : vv_M) (h0 : vv_model S p0) (hf : f_X5_init_137 n  k p0 x1 M = some u), vv_V [] yX5_init.cls yX5_init.name cX5_init 3 none (vv_R 1 2 13545) n0 z0 (vv_fu S u) 137 [(0, .ref p0), (1, .int x1)] [] S M := by
  intro k
  induction k with
  | zero =>
    intro p0 x1 M h0 hf
    exact absurd (show (none : Option (Unit × vv_M)) = some u from hf) (by simp)
  | succ k ih =>
    intro p0 x1 M h0 hf
    rw [f_X5_init_137.eq_2] at hf
    refine vi_iload_n 1 dX5_init_137 rfl rfl ?_
    refine vi_iconst (v := (4 : Int32)) dX5_init_138 (by decide) ?_
    refine vi_icmp_ge 222 dX5_init_139 (by decide) (fun c2 => ?_) (fun c2 => ?_)
    · rw [if_pos c2] at hf
      refine vi_aload_n 0 dX5_init_222 rfl rfl ?_
      refine vi_getr (t := p0 + 1) 0 rfl (vv_model_o h0) rfl wu_X5 (by decide) wf_X5_7 dX5_init_223 ?_
      refine vi_bipush (v := (48 : Int32)) dX5_init_226 (by decide) ?_
      refine vi_iconst (v := (2 : Int32)) dX5_init_228 (by decide) ?_
      obtain ⟨g3, hf⟩ := vv_gd hf
      obtain ⟨M4, eM4, hf⟩ := vv_lt hf
      refine vi_iast (vv_model_row h0) g3 eM4.symm dX5_init_229 ?_
      refine vi_aload_n 0 dX5_init_230 rfl rfl ?_
      refine vi_getr (t := p0 + 1) 0 rfl (vv_model_o h0) rfl wu_X5 (by decide) wf_X5_7 dX5_init_231 ?_
      refine vi_bipush (v := (49 : Int32)) dX5_init_234 (by decide) ?_
      refine vi_iconst (v := (3 : Int32)) dX5_init_236 (by decide) ?_
      obtain ⟨g5, hf⟩ := vv_gd hf
      obtain ⟨M6, eM6, hf⟩ := vv_lt hf
      refine vi_iast (vv_model_row h0) g5 eM6.symm dX5_init_237 ?_
      refine vi_aload_n 0 dX5_init_238 rfl rfl ?_
      refine vi_getr (t := p0 + 1) 0 rfl (vv_model_o h0) rfl wu_X5 (by decide) wf_X5_7 dX5_init_239 ?_
      refine vi_bipush (v := (50 : Int32)) dX5_init_242 (by decide) ?_
      refine vi_bipush (v := (6 : Int32)) dX5_init_244 (by decide) ?_
      obtain ⟨g7, hf⟩ := vv_gd hf
      obtain ⟨M8, eM8, hf⟩ := vv_lt hf
      refine vi_iast (vv_model_row h0) g7 eM8.symm dX5_init_246 ?_
      refine vi_aload_n 0 dX5_init_247 rfl rfl ?_
      refine vi_getr (t := p0 + 1) 0 rfl (vv_model_o h0) rfl wu_X5 (by decide) wf_X5_7 dX5_init_248 ?_
      refine vi_bipush (v := (51 : Int32)) dX5_init_251 (by decide) ?_
      refine vi_iconst (v := (1 : Int32)) dX5_init_253 (by decide) ?_
      obtain ⟨g9, hf⟩ := vv_gd hf
      obtain ⟨M10, eM10, hf⟩ := vv_lt hf
      refine vi_iast (vv_model_row h0) g9 eM10.symm dX5_init_254 ?_
      obtain rfl := Option.some.inj hf
      exact vi_ret (v := none) rfl ⟨dX5_init_255, rfl⟩ ⟨rfl, rfl, rfl⟩
    · rw [if_neg c2] at hf
      refine vi_aload_n 0 dX5_init_142 rfl rfl ?_
      refine vi_getr (t := p0 + 1) 0 rfl (vv_model_o h0) rfl wu_X5 (by decide) wf_X5_7 dX5_init_143 ?_
      refine vi_iload_n 1 dX5_init_146 rfl rfl ?_
      refine vi_iconst (v := (0 : Int32)) dX5_init_147 (by decide) ?_
      obtain ⟨u11, hu11, hf⟩ := vv_bd hf
      refine vi_callS (As := [.int x1, .int (0 : Int32)]) (st := [.ref (p0 + 1)]) (t_X5_ofCurve n x1 (0 : Int32) M u11  hu11) rfl yo_X5_ofCurve wm_X5_20 wi_X5_ofCurve wI_X5 wc_X5_ofCurve ⟨Nat.le_of_ble_eq_true rfl, Nat.le_of_ble_eq_true rfl⟩ hrm (Nat.le_of_ble_eq_true rfl) rfl rfl dX5_init_148 ?_
      refine vi_bipush (v := (40 : Int32)) dX5_init_151 (by decide) ?_
      obtain ⟨g12, hf⟩ := vv_gd hf
      obtain ⟨M13, eM13, hf⟩ := vv_lt hf
      refine vi_iast (vv_model_row h0) g12 eM13.symm dX5_init_153 ?_
      refine vi_aload_n 0 dX5_init_154 rfl rfl ?_
      refine vi_getr (t := p0 + 1) 0 rfl (vv_model_o h0) rfl wu_X5 (by decide) wf_X5_7 dX5_init_155 ?_
      refine vi_iload_n 1 dX5_init_158 rfl rfl ?_
      refine vi_iconst (v := (1 : Int32)) dX5_init_159 (by decide) ?_
      obtain ⟨u14, hu14, hf⟩ := vv_bd hf
      refine vi_callS (As := [.int x1, .int (1 : Int32)]) (st := [.ref (p0 + 1)]) (t_X5_ofCurve n x1 (1 : Int32) M13 u14  hu14) rfl yo_X5_ofCurve wm_X5_20 wi_X5_ofCurve wI_X5 wc_X5_ofCurve ⟨Nat.le_of_ble_eq_true rfl, Nat.le_of_ble_eq_true rfl⟩ hrm (Nat.le_of_ble_eq_true rfl) rfl rfl dX5_init_160 ?_
      refine vi_sipush (v := (180 : Int32)) dX5_init_163 (by decide) ?_
      obtain ⟨g15, hf⟩ := vv_gd hf
      obtain ⟨M16, eM16, hf⟩ := vv_lt hf
      refine vi_iast (vv_model_row h0) g15 eM16.symm dX5_init_166 ?_
      refine vi_aload_n 0 dX5_init_167 rfl rfl ?_
      refine vi_getr (t := p0 + 1) 0 rfl (vv_model_o h0) rfl wu_X5 (by decide) wf_X5_7 dX5_init_168 ?_
      refine vi_iload_n 1 dX5_init_171 rfl rfl ?_
      refine vi_iconst (v := (2 : Int32)) dX5_init_172 (by decide) ?_
      obtain ⟨u17, hu17, hf⟩ := vv_bd hf
      refine vi_callS (As := [.int x1, .int (2 : Int32)]) (st := [.ref (p0 + 1)]) (t_X5_ofCurve n x1 (2 : Int32) M16 u17  hu17) rfl yo_X5_ofCurve wm_X5_20 wi_X5_ofCurve wI_X5 wc_X5_ofCurve ⟨Nat.le_of_ble_eq_true rfl, Nat.le_of_ble_eq_true rfl⟩ hrm (Nat.le_of_ble_eq_true rfl) rfl rfl dX5_init_173 ?_
      refine vi_iconst (v := (2 : Int32)) dX5_init_176 (by decide) ?_
      obtain ⟨g18, hf⟩ := vv_gd hf
      obtain ⟨M19, eM19, hf⟩ := vv_lt hf
      refine vi_iast (vv_model_row h0) g18 eM19.symm dX5_init_177 ?_
      exact t_X5_init_178 n n0 z0 hrm (f_X5_init_137 n k) u ih p0 x1 M19 h0 hf
set_option maxRecDepth 20000 in
theorem t_X5_init_132 {S : List vv_Sh} (n : Nat) (n0 z0 : Nat) (hrm : vv_rm (vv_R 1 2 13545) n0 z0 S (vv_R 0 0 0)) (k23 : Nat → Int32 → vv_M → Option (Unit × vv_M)) (u : Unit × vv_M) (hk23 : ∀ (p0 : Nat) (x1 : Int32) (M : vv_M) (h0 : vv_model S p0) (hf : k23 p0 x1 M = some u), vv_V [] yX5_init.cls yX5_init.name cX5_init 3 none (vv_R 1 2 13545) n0 z0 (vv_fu S u) 23 [(0, .ref p0), (1, .int x1)] [] S M) (p0 : Nat) (x1 : Int32) (M : vv_M) (h0 : vv_model S p0) (hf : f_X5_init_132 n k23 p0 x1 M = some u) : vv_V [] yX5_init.cls yX5_init.name cX5_init 3 none (vv_R 1 2 13545) n0 z0 (vv_fu S u) 132 [(0, .ref p0), (1, .int x1)] [] S M := by
  unfold f_X5_init_132 at hf
  refine vi_goto 23 dX5_init_132 (by decide) ?_
  exact hk23 p0 x1 M h0 hf
set_option maxRecDepth 20000 in
theorem t_X5_init_107 {S : List vv_Sh} (n : Nat) (n0 z0 : Nat) (hrm : vv_rm (vv_R 1 2 13545) n0 z0 S (vv_R 0 0 0)) (k23 : Nat → Int32 → vv_M → Option (Unit × vv_M)) (u : Unit × vv_M) (hk23 : ∀ (p0 : Nat) (x1 : Int32) (M : vv_M) (h0 : vv_model S p0) (hf : k23 p0 x1 M = some u), vv_V [] yX5_init.cls yX5_init.name cX5_init 3 none (vv_R 1 2 13545) n0 z0 (vv_fu S u) 23 [(0, .ref p0), (1, .int x1)] [] S M) (p0 : Nat) (x1 : Int32) (x2 : Int32) (M : vv_M) (h0 : vv_model S p0) (hf : f_X5_init_107 n k23 p0 x1 x2 M = some u) : vv_V [] yX5_init.cls yX5_init.name cX5_init 3 none (vv_R 1 2 13545) n0 z0 (vv_fu S u) 107 [(0, .ref p0), (1, .int x1), (2, .int x2)] [] S M := by
  unfold f_X5_init_107 at hf
  refine vi_aload_n 0 dX5_init_107 rfl rfl ?_
  refine vi_getr (t := p0 + 1) 0 rfl (vv_model_o h0) rfl wu_X5 (by decide) wf_X5_7 dX5_init_108 ?_
  refine vi_iload_n 1 dX5_init_111 rfl rfl ?_
  refine vi_iconst (v := (2 : Int32)) dX5_init_112 (by decide) ?_
  obtain ⟨u41, hu41, hf⟩ := vv_bd hf
  refine vi_callS (As := [.int x1, .int (2 : Int32)]) (st := [.ref (p0 + 1)]) (t_X5_ofZone n x1 (2 : Int32) M u41  hu41) rfl yo_X5_ofZone wm_X5_16 wi_X5_ofZone wI_X5 wc_X5_ofZone ⟨Nat.le_of_ble_eq_true rfl, Nat.le_of_ble_eq_true rfl⟩ hrm (Nat.le_of_ble_eq_true rfl) rfl rfl dX5_init_113 ?_
  refine vi_iconst (v := (5 : Int32)) dX5_init_116 (by decide) ?_
  obtain ⟨g42, hf⟩ := vv_gd hf
  obtain ⟨M43, eM43, hf⟩ := vv_lt hf
  refine vi_iast (vv_model_row h0) g42 eM43.symm dX5_init_117 ?_
  refine vi_aload_n 0 dX5_init_118 rfl rfl ?_
  refine vi_getr (t := p0 + 1) 0 rfl (vv_model_o h0) rfl wu_X5 (by decide) wf_X5_7 dX5_init_119 ?_
  refine vi_iload_n 1 dX5_init_122 rfl rfl ?_
  refine vi_iconst (v := (3 : Int32)) dX5_init_123 (by decide) ?_
  obtain ⟨u44, hu44, hf⟩ := vv_bd hf
  refine vi_callS (As := [.int x1, .int (3 : Int32)]) (st := [.ref (p0 + 1)]) (t_X5_ofZone n x1 (3 : Int32) M43 u44  hu44) rfl yo_X5_ofZone wm_X5_16 wi_X5_ofZone wI_X5 wc_X5_ofZone ⟨Nat.le_of_ble_eq_true rfl, Nat.le_of_ble_eq_true rfl⟩ hrm (Nat.le_of_ble_eq_true rfl) rfl rfl dX5_init_124 ?_
  refine vi_iload_n 2 dX5_init_127 rfl rfl ?_
  obtain ⟨g45, hf⟩ := vv_gd hf
  obtain ⟨M46, eM46, hf⟩ := vv_lt hf
  refine vi_iast (vv_model_row h0) g45 eM46.symm dX5_init_128 ?_
  obtain ⟨y47, ey47, hf⟩ := vv_lt hf
  refine vi_iinc (v := y47) (L' := [(1, .int y47), (0, .ref p0), (2, .int x2)]) 1 dX5_init_129 rfl (by rw [ey47]; rfl) (by decide) rfl ?_
  refine vi_sub (L' := [(0, .ref p0), (1, .int y47)]) [1, 0] rfl ?_
  exact t_X5_init_132 n n0 z0 hrm k23 u hk23 p0 y47 M46 h0 hf
set_option maxRecDepth 20000 in
theorem t_X5_init_84 {S : List vv_Sh} (n : Nat) (n0 z0 : Nat) (hrm : vv_rm (vv_R 1 2 13545) n0 z0 S (vv_R 0 0 0)) (k23 : Nat → Int32 → vv_M → Option (Unit × vv_M)) (u : Unit × vv_M) (hk23 : ∀ (p0 : Nat) (x1 : Int32) (M : vv_M) (h0 : vv_model S p0) (hf : k23 p0 x1 M = some u), vv_V [] yX5_init.cls yX5_init.name cX5_init 3 none (vv_R 1 2 13545) n0 z0 (vv_fu S u) 23 [(0, .ref p0), (1, .int x1)] [] S M) (p0 : Nat) (x1 : Int32) (s0 : Int32) (M : vv_M) (h0 : vv_model S p0) (hf : f_X5_init_84 n k23 p0 x1 s0 M = some u) : vv_V [] yX5_init.cls yX5_init.name cX5_init 3 none (vv_R 1 2 13545) n0 z0 (vv_fu S u) 84 [(0, .ref p0), (1, .int x1)] [.int s0] S M := by
  unfold f_X5_init_84 at hf
  refine vi_istore_n (L' := [(2, .int s0), (0, .ref p0), (1, .int x1)]) dX5_init_84 rfl (by decide) rfl ?_
  refine vi_aload_n 1 dX5_init_85 rfl rfl ?_
  refine vi_getr (t := p0 + 1) 0 rfl (vv_model_o h0) rfl wu_X5 (by decide) wf_X5_7 dX5_init_86 ?_
  refine vi_iload_n 2 dX5_init_89 rfl rfl ?_
  refine vi_iconst (v := (0 : Int32)) dX5_init_90 (by decide) ?_
  obtain ⟨u35, hu35, hf⟩ := vv_bd hf
  refine vi_callS (As := [.int x1, .int (0 : Int32)]) (st := [.ref (p0 + 1)]) (t_X5_ofZone n x1 (0 : Int32) M u35  hu35) rfl yo_X5_ofZone wm_X5_16 wi_X5_ofZone wI_X5 wc_X5_ofZone ⟨Nat.le_of_ble_eq_true rfl, Nat.le_of_ble_eq_true rfl⟩ hrm (Nat.le_of_ble_eq_true rfl) rfl rfl dX5_init_91 ?_
  refine vi_iconst (v := (4 : Int32)) dX5_init_94 (by decide) ?_
  obtain ⟨g36, hf⟩ := vv_gd hf
  obtain ⟨M37, eM37, hf⟩ := vv_lt hf
  refine vi_iast (vv_model_row h0) g36 eM37.symm dX5_init_95 ?_
  refine vi_aload_n 1 dX5_init_96 rfl rfl ?_
  refine vi_getr (t := p0 + 1) 0 rfl (vv_model_o h0) rfl wu_X5 (by decide) wf_X5_7 dX5_init_97 ?_
  refine vi_iload_n 2 dX5_init_100 rfl rfl ?_
  refine vi_iconst (v := (1 : Int32)) dX5_init_101 (by decide) ?_
  obtain ⟨u38, hu38, hf⟩ := vv_bd hf
  refine vi_callS (As := [.int x1, .int (1 : Int32)]) (st := [.ref (p0 + 1)]) (t_X5_ofZone n x1 (1 : Int32) M37 u38  hu38) rfl yo_X5_ofZone wm_X5_16 wi_X5_ofZone wI_X5 wc_X5_ofZone ⟨Nat.le_of_ble_eq_true rfl, Nat.le_of_ble_eq_true rfl⟩ hrm (Nat.le_of_ble_eq_true rfl) rfl rfl dX5_init_102 ?_
  refine vi_iload_n 0 dX5_init_105 rfl rfl ?_
  obtain ⟨g39, hf⟩ := vv_gd hf
  obtain ⟨M40, eM40, hf⟩ := vv_lt hf
  refine vi_iast (vv_model_row h0) g39 eM40.symm dX5_init_106 ?_
  refine vi_sub (L' := [(0, .ref p0), (1, .int x1), (2, .int s0)]) [1, 2, 0] rfl ?_
  exact t_X5_init_107 n n0 z0 hrm k23 u hk23 p0 x1 s0 M40 h0 hf
set_option maxRecDepth 20000 in
theorem t_X5_init_23 {S : List vv_Sh} (n : Nat) (n0 z0 : Nat) (hrm : vv_rm (vv_R 1 2 13545) n0 z0 S (vv_R 0 0 0))  (u : Unit × vv_M)  : ∀ (k : Nat) (p0 : Nat) (x1 : Int32) (M : vv_M) (h0 : vv_model S p0) (hf : f_X5_init_23 n  k p0 x1 M = some u), vv_V [] yX5_init.cls yX5_init.name cX5_init 3 none (vv_R 1 2 13545) n0 z0 (vv_fu S u) 23 [(0, .ref p0), (1, .int x1)] [] S M := by
  intro k
  induction k with
  | zero =>
    intro p0 x1 M h0 hf
    exact absurd (show (none : Option (Unit × vv_M)) = some u from hf) (by simp)
  | succ k ih =>
    intro p0 x1 M h0 hf
    rw [f_X5_init_23.eq_2] at hf
    refine vi_iload_n 1 dX5_init_23 rfl rfl ?_
    refine vi_bipush (v := (6 : Int32)) dX5_init_24 (by decide) ?_
    refine vi_icmp_ge 135 dX5_init_26 (by decide) (fun c1 => ?_) (fun c1 => ?_)
    · rw [if_pos c1] at hf
      refine vi_iconst (v := (0 : Int32)) dX5_init_135 (by decide) ?_
      refine vi_istore_n (L' := [(1, .int (0 : Int32)), (0, .ref p0)]) dX5_init_136 rfl (by decide) rfl ?_
      refine vi_sub (L' := [(0, .ref p0), (1, .int (0 : Int32))]) [1, 0] rfl ?_
      exact t_X5_init_137 n n0 z0 hrm  u  n p0 (0 : Int32) M h0 hf
    · rw [if_neg c1] at hf
      refine vi_iload_n 1 dX5_init_29 rfl rfl ?_
      refine vi_if_ne 38 dX5_init_30 (by decide) (fun c30 => ?_) (fun c30 => ?_)
      · rw [if_neg c30] at hf
        refine vi_iload_n 1 dX5_init_38 rfl rfl ?_
        refine vi_iconst (v := (1 : Int32)) dX5_init_39 (by decide) ?_
        refine vi_icmp_ne 49 dX5_init_40 (by decide) (fun c31 => ?_) (fun c31 => ?_)
        · rw [if_neg c31] at hf
          refine vi_iload_n 1 dX5_init_49 rfl rfl ?_
          refine vi_iconst (v := (2 : Int32)) dX5_init_50 (by decide) ?_
          refine vi_icmp_ne 60 dX5_init_51 (by decide) (fun c32 => ?_) (fun c32 => ?_)
          · rw [if_neg c32] at hf
            refine vi_iload_n 1 dX5_init_60 rfl rfl ?_
            refine vi_iconst (v := (3 : Int32)) dX5_init_61 (by decide) ?_
            refine vi_icmp_ne 71 dX5_init_62 (by decide) (fun c33 => ?_) (fun c33 => ?_)
            · rw [if_neg c33] at hf
              refine vi_iload_n 1 dX5_init_71 rfl rfl ?_
              refine vi_iconst (v := (4 : Int32)) dX5_init_72 (by decide) ?_
              refine vi_icmp_ne 82 dX5_init_73 (by decide) (fun c34 => ?_) (fun c34 => ?_)
              · rw [if_neg c34] at hf
                refine vi_bipush (v := (60 : Int32)) dX5_init_82 (by decide) ?_
                exact t_X5_init_84 n n0 z0 hrm (f_X5_init_23 n k) u ih p0 x1 (60 : Int32) M h0 hf
              · rw [if_pos c34] at hf
                refine vi_sipush (v := (230 : Int32)) dX5_init_76 (by decide) ?_
                refine vi_goto 84 dX5_init_79 (by decide) ?_
                exact t_X5_init_84 n n0 z0 hrm (f_X5_init_23 n k) u ih p0 x1 (230 : Int32) M h0 hf
            · rw [if_pos c33] at hf
              refine vi_sipush (v := (240 : Int32)) dX5_init_65 (by decide) ?_
              refine vi_goto 84 dX5_init_68 (by decide) ?_
              exact t_X5_init_84 n n0 z0 hrm (f_X5_init_23 n k) u ih p0 x1 (240 : Int32) M h0 hf
          · rw [if_pos c32] at hf
            refine vi_sipush (v := (180 : Int32)) dX5_init_54 (by decide) ?_
            refine vi_goto 84 dX5_init_57 (by decide) ?_
            exact t_X5_init_84 n n0 z0 hrm (f_X5_init_23 n k) u ih p0 x1 (180 : Int32) M h0 hf
        · rw [if_pos c31] at hf
          refine vi_sipush (v := (160 : Int32)) dX5_init_43 (by decide) ?_
          refine vi_goto 84 dX5_init_46 (by decide) ?_
          exact t_X5_init_84 n n0 z0 hrm (f_X5_init_23 n k) u ih p0 x1 (160 : Int32) M h0 hf
      · rw [if_pos c30] at hf
        refine vi_bipush (v := (120 : Int32)) dX5_init_33 (by decide) ?_
        refine vi_goto 84 dX5_init_35 (by decide) ?_
        exact t_X5_init_84 n n0 z0 hrm (f_X5_init_23 n k) u ih p0 x1 (120 : Int32) M h0 hf
