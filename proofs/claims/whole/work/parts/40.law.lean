theorem vv_rmL {S : List vv_Sh} {R' : Room} (h : S.length ≤ 600000 ∧ vv_sz S ≤ 7302250) (h1 : R'.cells = 0) (h2 : R'.slots = 0) : vv_rm room_1 0 0 S R' := by
  unfold vv_rm
  show S.length - 0 + R'.cells ≤ 600000 ∧ vv_sz S - 0 + R'.slots ≤ 7302250
  omega
set_option maxRecDepth 20000 in
theorem t_L_law_779 {S : List vv_Sh} (n : Nat) (sc : List Int32) (hrm : S.length ≤ 600000 ∧ vv_sz S ≤ 7302250) (k18 : Nat → Nat → Int32 → vv_M → Option (Int32 × vv_M)) (u : Int32 × vv_M) (hk18 : ∀ (p1 : Nat) (p2 : Nat) (x3 : Int32) (M : vv_M) (h1 : vv_bb S p1) (h2 : vv_model S p2) (hf : k18 p1 p2 x3 M = some u), vv_V (0 :: sc) yL_law.cls yL_law.name cL_law 4 (some .boolean) room_1 0 0 (vv_fi S u) 18 [(0, .float 7), (1, .ref p1), (2, .ref p2), (3, .int x3)] [] S M) (p1 : Nat) (p2 : Nat) (x3 : Int32) (M : vv_M) (h1 : vv_bb S p1) (h2 : vv_model S p2) (hf : f_L_law_779 n sc k18 p1 p2 x3 M = some u) : vv_V (0 :: sc) yL_law.cls yL_law.name cL_law 4 (some .boolean) room_1 0 0 (vv_fi S u) 779 [(0, .float 7), (1, .ref p1), (2, .ref p2), (3, .int x3)] [] S M := by
  unfold f_L_law_779 at hf
  obtain ⟨y6, ey6, hf⟩ := vv_lt hf
  refine vi_iinc (v := y6) (L' := [(3, .int y6), (0, .float 7), (1, .ref p1), (2, .ref p2)]) 3 dL_law_779 rfl (by rw [ey6]; rfl) (by decide) rfl ?_
  refine vi_goto 18 dL_law_782 (by decide) ?_
  refine vi_sub (L' := [(0, .float 7), (1, .ref p1), (2, .ref p2), (3, .int y6)]) [1, 2, 3, 0] rfl ?_
  exact hk18 p1 p2 y6 M h1 h2 hf
set_option maxRecDepth 20000 in
theorem t_L_law_18 {S : List vv_Sh} (n : Nat) (sc : List Int32) (hrm : S.length ≤ 600000 ∧ vv_sz S ≤ 7302250)  (u : Int32 × vv_M)  : ∀ (k : Nat) (p1 : Nat) (p2 : Nat) (x3 : Int32) (M : vv_M) (h1 : vv_bb S p1) (h2 : vv_model S p2) (hf : f_L_law_18 n sc  k p1 p2 x3 M = some u), vv_V (0 :: sc) yL_law.cls yL_law.name cL_law 4 (some .boolean) room_1 0 0 (vv_fi S u) 18 [(0, .float 7), (1, .ref p1), (2, .ref p2), (3, .int x3)] [] S M := by
  intro k
  induction k with
  | zero =>
    intro p1 p2 x3 M h1 h2 hf
    exact absurd (show (none : Option (Int32 × vv_M)) = some u from hf) (by simp)
  | succ k ih =>
    intro p1 p2 x3 M h1 h2 hf
    rw [f_L_law_18.eq_2] at hf
    refine vi_iload_n 3 dL_law_18 rfl rfl ?_
    refine vi_aloadf_n 0 dL_law_19 rfl rfl ?_
    refine vi_slen dL_law_20 ?_
    refine vi_iconst (v := (5 : Int32)) dL_law_21 (by decide) ?_
    refine vi_isub dL_law_22 ?_
    refine vi_icmp_gt 785 dL_law_23 (by decide) (fun c1 => ?_) (fun c1 => ?_)
    · rw [if_pos c1] at hf
      refine vi_iconst (v := (1 : Int32)) dL_law_785 (by decide) ?_
      obtain rfl := Option.some.inj hf
      exact vi_ret (v := some (.int (1 : Int32))) rfl ⟨dL_law_786, .boolean, rfl, rfl⟩ ⟨rfl, rfl, rfl⟩
    · rw [if_neg c1] at hf
      refine vi_aloadf_n 0 dL_law_26 rfl rfl ?_
      refine vi_iload_n 3 dL_law_27 rfl rfl ?_
      obtain ⟨g163, hf⟩ := vv_gd hf
      refine vi_sld g163 dL_law_28 ?_
      refine vi_bipush (v := (31 : Int32)) dL_law_29 (by decide) ?_
      refine vi_iand dL_law_31 ?_
      by_cases c2 : ((sc.getD x3.toNatClampNeg 0) &&& (31 : Int32)) = (0 : Int32)
      · rw [if_pos c2] at hf
        refine vi_tableAt 140 c2 dL_law_32 (by decide) (by decide) rfl (by decide) ?_
        refine vi_aload_n 1 dL_law_140 rfl rfl ?_
        refine vi_aloadf_n 0 dL_law_141 rfl rfl ?_
        refine vi_iload_n 3 dL_law_142 rfl rfl ?_
        refine vi_iconst (v := (1 : Int32)) dL_law_143 (by decide) ?_
        refine vi_iadd dL_law_144 ?_
        obtain ⟨g14, hf⟩ := vv_gd hf
        refine vi_sld g14 dL_law_145 ?_
        refine vi_aloadf_n 0 dL_law_146 rfl rfl ?_
        refine vi_iload_n 3 dL_law_147 rfl rfl ?_
        refine vi_iconst (v := (2 : Int32)) dL_law_148 (by decide) ?_
        refine vi_iadd dL_law_149 ?_
        obtain ⟨g13, hf⟩ := vv_gd hf
        refine vi_sld g13 dL_law_150 ?_
        refine vi_aloadf_n 0 dL_law_151 rfl rfl ?_
        refine vi_iload_n 3 dL_law_152 rfl rfl ?_
        refine vi_iconst (v := (3 : Int32)) dL_law_153 (by decide) ?_
        refine vi_iadd dL_law_154 ?_
        obtain ⟨g12, hf⟩ := vv_gd hf
        refine vi_sld g12 dL_law_155 ?_
        refine vi_aloadf_n 0 dL_law_156 rfl rfl ?_
        refine vi_iload_n 3 dL_law_157 rfl rfl ?_
        refine vi_iconst (v := (4 : Int32)) dL_law_158 (by decide) ?_
        refine vi_iadd dL_law_159 ?_
        obtain ⟨g11, hf⟩ := vv_gd hf
        refine vi_sld g11 dL_law_160 ?_
        obtain ⟨u3, hu3, hf⟩ := vv_bd hf
        refine vi_callV (As := [.int (sc.getD (x3 + (1 : Int32)).toNatClampNeg 0), .int (sc.getD (x3 + (2 : Int32)).toNatClampNeg 0), .int (sc.getD (x3 + (3 : Int32)).toNatClampNeg 0), .int (sc.getD (x3 + (4 : Int32)).toNatClampNeg 0)]) (st := []) (t_X4_setZone n p1 (sc.getD (x3 + (1 : Int32)).toNatClampNeg 0) (sc.getD (x3 + (2 : Int32)).toNatClampNeg 0) (sc.getD (x3 + (3 : Int32)).toNatClampNeg 0) (sc.getD (x3 + (4 : Int32)).toNatClampNeg 0) M u3 h1 hu3) rfl yo_X4_setZone wm_L_13 wi_X4_setZone ws_X4_setZone wI_X4 wc_X4_setZone (vv_bb_o h1) rfl ⟨Nat.le_of_ble_eq_true rfl, Nat.le_of_ble_eq_true rfl⟩ (vv_rmL hrm rfl rfl) (Nat.le_of_ble_eq_true rfl) rfl rfl dL_law_161 ?_
        refine vi_aload_n 2 dL_law_164 rfl rfl ?_
        refine vi_aloadf_n 0 dL_law_165 rfl rfl ?_
        refine vi_iload_n 3 dL_law_166 rfl rfl ?_
        refine vi_iconst (v := (1 : Int32)) dL_law_167 (by decide) ?_
        refine vi_iadd dL_law_168 ?_
        obtain ⟨g10, hf⟩ := vv_gd hf
        refine vi_sld g10 dL_law_169 ?_
        refine vi_aloadf_n 0 dL_law_170 rfl rfl ?_
        refine vi_iload_n 3 dL_law_171 rfl rfl ?_
        refine vi_iconst (v := (2 : Int32)) dL_law_172 (by decide) ?_
        refine vi_iadd dL_law_173 ?_
        obtain ⟨g9, hf⟩ := vv_gd hf
        refine vi_sld g9 dL_law_174 ?_
        refine vi_aloadf_n 0 dL_law_175 rfl rfl ?_
        refine vi_iload_n 3 dL_law_176 rfl rfl ?_
        refine vi_iconst (v := (3 : Int32)) dL_law_177 (by decide) ?_
        refine vi_iadd dL_law_178 ?_
        obtain ⟨g8, hf⟩ := vv_gd hf
        refine vi_sld g8 dL_law_179 ?_
        refine vi_aloadf_n 0 dL_law_180 rfl rfl ?_
        refine vi_iload_n 3 dL_law_181 rfl rfl ?_
        refine vi_iconst (v := (4 : Int32)) dL_law_182 (by decide) ?_
        refine vi_iadd dL_law_183 ?_
        obtain ⟨g7, hf⟩ := vv_gd hf
        refine vi_sld g7 dL_law_184 ?_
        obtain ⟨u4, hu4, hf⟩ := vv_bd hf
        refine vi_callV (As := [.int (sc.getD (x3 + (1 : Int32)).toNatClampNeg 0), .int (sc.getD (x3 + (2 : Int32)).toNatClampNeg 0), .int (sc.getD (x3 + (3 : Int32)).toNatClampNeg 0), .int (sc.getD (x3 + (4 : Int32)).toNatClampNeg 0)]) (st := [.int u3.1]) (t_X5_setZone n p2 (sc.getD (x3 + (1 : Int32)).toNatClampNeg 0) (sc.getD (x3 + (2 : Int32)).toNatClampNeg 0) (sc.getD (x3 + (3 : Int32)).toNatClampNeg 0) (sc.getD (x3 + (4 : Int32)).toNatClampNeg 0) u3.2 u4 h2 hu4) rfl yo_X5_setZone wm_L_17 wi_X5_setZone ws_X5_setZone wI_X5 wc_X5_setZone (vv_model_o h2) rfl ⟨Nat.le_of_ble_eq_true rfl, Nat.le_of_ble_eq_true rfl⟩ (vv_rmL hrm rfl rfl) (Nat.le_of_ble_eq_true rfl) rfl rfl dL_law_185 ?_
        refine vi_icmp_eq 779 dL_law_188 (by decide) (fun c5 => ?_) (fun c5 => ?_)
        · rw [if_pos c5] at hf
          exact t_L_law_779 n sc hrm (f_L_law_18 n sc k) u ih p1 p2 x3 u4.2 h1 h2 hf
        · rw [if_neg c5] at hf
          refine vi_iconst (v := (0 : Int32)) dL_law_191 (by decide) ?_
          obtain rfl := Option.some.inj hf
          exact vi_ret (v := some (.int (0 : Int32))) rfl ⟨dL_law_192, .boolean, rfl, rfl⟩ ⟨rfl, rfl, rfl⟩
      rw [if_neg c2] at hf
      by_cases c15 : ((sc.getD x3.toNatClampNeg 0) &&& (31 : Int32)) = (1 : Int32)
      · rw [if_pos c15] at hf
        refine vi_tableAt 193 c15 dL_law_32 (by decide) (by decide) rfl (by decide) ?_
        refine vi_aload_n 1 dL_law_193 rfl rfl ?_
        refine vi_aloadf_n 0 dL_law_194 rfl rfl ?_
        refine vi_iload_n 3 dL_law_195 rfl rfl ?_
        refine vi_iconst (v := (1 : Int32)) dL_law_196 (by decide) ?_
        refine vi_iadd dL_law_197 ?_
        obtain ⟨g24, hf⟩ := vv_gd hf
        refine vi_sld g24 dL_law_198 ?_
        refine vi_aloadf_n 0 dL_law_199 rfl rfl ?_
        refine vi_iload_n 3 dL_law_200 rfl rfl ?_
        refine vi_iconst (v := (2 : Int32)) dL_law_201 (by decide) ?_
        refine vi_iadd dL_law_202 ?_
        obtain ⟨g23, hf⟩ := vv_gd hf
        refine vi_sld g23 dL_law_203 ?_
        refine vi_aloadf_n 0 dL_law_204 rfl rfl ?_
        refine vi_iload_n 3 dL_law_205 rfl rfl ?_
        refine vi_iconst (v := (3 : Int32)) dL_law_206 (by decide) ?_
        refine vi_iadd dL_law_207 ?_
        obtain ⟨g22, hf⟩ := vv_gd hf
        refine vi_sld g22 dL_law_208 ?_
        obtain ⟨u16, hu16, hf⟩ := vv_bd hf
        refine vi_callV (As := [.int (sc.getD (x3 + (1 : Int32)).toNatClampNeg 0), .int (sc.getD (x3 + (2 : Int32)).toNatClampNeg 0), .int (sc.getD (x3 + (3 : Int32)).toNatClampNeg 0)]) (st := []) (t_X4_setCurve n p1 (sc.getD (x3 + (1 : Int32)).toNatClampNeg 0) (sc.getD (x3 + (2 : Int32)).toNatClampNeg 0) (sc.getD (x3 + (3 : Int32)).toNatClampNeg 0) M u16 h1 hu16) rfl yo_X4_setCurve wm_L_18 wi_X4_setCurve ws_X4_setCurve wI_X4 wc_X4_setCurve (vv_bb_o h1) rfl ⟨Nat.le_of_ble_eq_true rfl, Nat.le_of_ble_eq_true rfl⟩ (vv_rmL hrm rfl rfl) (Nat.le_of_ble_eq_true rfl) rfl rfl dL_law_209 ?_
        refine vi_aload_n 2 dL_law_212 rfl rfl ?_
        refine vi_aloadf_n 0 dL_law_213 rfl rfl ?_
        refine vi_iload_n 3 dL_law_214 rfl rfl ?_
        refine vi_iconst (v := (1 : Int32)) dL_law_215 (by decide) ?_
        refine vi_iadd dL_law_216 ?_
        obtain ⟨g21, hf⟩ := vv_gd hf
        refine vi_sld g21 dL_law_217 ?_
        refine vi_aloadf_n 0 dL_law_218 rfl rfl ?_
        refine vi_iload_n 3 dL_law_219 rfl rfl ?_
        refine vi_iconst (v := (2 : Int32)) dL_law_220 (by decide) ?_
        refine vi_iadd dL_law_221 ?_
        obtain ⟨g20, hf⟩ := vv_gd hf
        refine vi_sld g20 dL_law_222 ?_
        refine vi_aloadf_n 0 dL_law_223 rfl rfl ?_
        refine vi_iload_n 3 dL_law_224 rfl rfl ?_
        refine vi_iconst (v := (3 : Int32)) dL_law_225 (by decide) ?_
        refine vi_iadd dL_law_226 ?_
        obtain ⟨g19, hf⟩ := vv_gd hf
        refine vi_sld g19 dL_law_227 ?_
        obtain ⟨u17, hu17, hf⟩ := vv_bd hf
        refine vi_callV (As := [.int (sc.getD (x3 + (1 : Int32)).toNatClampNeg 0), .int (sc.getD (x3 + (2 : Int32)).toNatClampNeg 0), .int (sc.getD (x3 + (3 : Int32)).toNatClampNeg 0)]) (st := [.int u16.1]) (t_X5_setCurve n p2 (sc.getD (x3 + (1 : Int32)).toNatClampNeg 0) (sc.getD (x3 + (2 : Int32)).toNatClampNeg 0) (sc.getD (x3 + (3 : Int32)).toNatClampNeg 0) u16.2 u17 h2 hu17) rfl yo_X5_setCurve wm_L_22 wi_X5_setCurve ws_X5_setCurve wI_X5 wc_X5_setCurve (vv_model_o h2) rfl ⟨Nat.le_of_ble_eq_true rfl, Nat.le_of_ble_eq_true rfl⟩ (vv_rmL hrm rfl rfl) (Nat.le_of_ble_eq_true rfl) rfl rfl dL_law_228 ?_
        refine vi_icmp_eq 779 dL_law_231 (by decide) (fun c18 => ?_) (fun c18 => ?_)
        · rw [if_pos c18] at hf
          exact t_L_law_779 n sc hrm (f_L_law_18 n sc k) u ih p1 p2 x3 u17.2 h1 h2 hf
        · rw [if_neg c18] at hf
          refine vi_iconst (v := (0 : Int32)) dL_law_234 (by decide) ?_
          obtain rfl := Option.some.inj hf
          exact vi_ret (v := some (.int (0 : Int32))) rfl ⟨dL_law_235, .boolean, rfl, rfl⟩ ⟨rfl, rfl, rfl⟩
      rw [if_neg c15] at hf
      by_cases c25 : ((sc.getD x3.toNatClampNeg 0) &&& (31 : Int32)) = (2 : Int32)
      · rw [if_pos c25] at hf
        refine vi_tableAt 236 c25 dL_law_32 (by decide) (by decide) rfl (by decide) ?_
        refine vi_aload_n 1 dL_law_236 rfl rfl ?_
        refine vi_aloadf_n 0 dL_law_237 rfl rfl ?_
        refine vi_iload_n 3 dL_law_238 rfl rfl ?_
        refine vi_iconst (v := (1 : Int32)) dL_law_239 (by decide) ?_
        refine vi_iadd dL_law_240 ?_
        obtain ⟨g32, hf⟩ := vv_gd hf
        refine vi_sld g32 dL_law_241 ?_
        refine vi_aloadf_n 0 dL_law_242 rfl rfl ?_
        refine vi_iload_n 3 dL_law_243 rfl rfl ?_
        refine vi_iconst (v := (2 : Int32)) dL_law_244 (by decide) ?_
        refine vi_iadd dL_law_245 ?_
        obtain ⟨g31, hf⟩ := vv_gd hf
        refine vi_sld g31 dL_law_246 ?_
        obtain ⟨u26, hu26, hf⟩ := vv_bd hf
        refine vi_callV (As := [.int (sc.getD (x3 + (1 : Int32)).toNatClampNeg 0), .int (sc.getD (x3 + (2 : Int32)).toNatClampNeg 0)]) (st := []) (t_X4_set n p1 (sc.getD (x3 + (1 : Int32)).toNatClampNeg 0) (sc.getD (x3 + (2 : Int32)).toNatClampNeg 0) M u26 h1 hu26) rfl yo_X4_set wm_L_23 wi_X4_set ws_X4_set wI_X4 wc_X4_set (vv_bb_o h1) rfl ⟨Nat.le_of_ble_eq_true rfl, Nat.le_of_ble_eq_true rfl⟩ (vv_rmL hrm rfl rfl) (Nat.le_of_ble_eq_true rfl) rfl rfl dL_law_247 ?_
        refine vi_aload_n 2 dL_law_250 rfl rfl ?_
        refine vi_aloadf_n 0 dL_law_251 rfl rfl ?_
        refine vi_iload_n 3 dL_law_252 rfl rfl ?_
        refine vi_iconst (v := (1 : Int32)) dL_law_253 (by decide) ?_
        refine vi_iadd dL_law_254 ?_
        obtain ⟨g30, hf⟩ := vv_gd hf
        refine vi_sld g30 dL_law_255 ?_
        refine vi_aloadf_n 0 dL_law_256 rfl rfl ?_
        refine vi_iload_n 3 dL_law_257 rfl rfl ?_
        refine vi_iconst (v := (2 : Int32)) dL_law_258 (by decide) ?_
        refine vi_iadd dL_law_259 ?_
        obtain ⟨g29, hf⟩ := vv_gd hf
        refine vi_sld g29 dL_law_260 ?_
        obtain ⟨u27, hu27, hf⟩ := vv_bd hf
        refine vi_callV (As := [.int (sc.getD (x3 + (1 : Int32)).toNatClampNeg 0), .int (sc.getD (x3 + (2 : Int32)).toNatClampNeg 0)]) (st := [.int u26.1]) (t_X5_set n p2 (sc.getD (x3 + (1 : Int32)).toNatClampNeg 0) (sc.getD (x3 + (2 : Int32)).toNatClampNeg 0) u26.2 u27 h2 hu27) rfl yo_X5_set wm_L_27 wi_X5_set ws_X5_set wI_X5 wc_X5_set (vv_model_o h2) rfl ⟨Nat.le_of_ble_eq_true rfl, Nat.le_of_ble_eq_true rfl⟩ (vv_rmL hrm rfl rfl) (Nat.le_of_ble_eq_true rfl) rfl rfl dL_law_261 ?_
        refine vi_icmp_eq 779 dL_law_264 (by decide) (fun c28 => ?_) (fun c28 => ?_)
        · rw [if_pos c28] at hf
          exact t_L_law_779 n sc hrm (f_L_law_18 n sc k) u ih p1 p2 x3 u27.2 h1 h2 hf
        · rw [if_neg c28] at hf
          refine vi_iconst (v := (0 : Int32)) dL_law_267 (by decide) ?_
          obtain rfl := Option.some.inj hf
          exact vi_ret (v := some (.int (0 : Int32))) rfl ⟨dL_law_268, .boolean, rfl, rfl⟩ ⟨rfl, rfl, rfl⟩
      rw [if_neg c25] at hf
      by_cases c33 : ((sc.getD x3.toNatClampNeg 0) &&& (31 : Int32)) = (3 : Int32)
      · rw [if_pos c33] at hf
        refine vi_tableAt 269 c33 dL_law_32 (by decide) (by decide) rfl (by decide) ?_
        refine vi_aload_n 1 dL_law_269 rfl rfl ?_
        refine vi_aloadf_n 0 dL_law_270 rfl rfl ?_
        refine vi_iload_n 3 dL_law_271 rfl rfl ?_
        refine vi_iconst (v := (1 : Int32)) dL_law_272 (by decide) ?_
        refine vi_iadd dL_law_273 ?_
        obtain ⟨g40, hf⟩ := vv_gd hf
        refine vi_sld g40 dL_law_274 ?_
        refine vi_aloadf_n 0 dL_law_275 rfl rfl ?_
        refine vi_iload_n 3 dL_law_276 rfl rfl ?_
        refine vi_iconst (v := (2 : Int32)) dL_law_277 (by decide) ?_
        refine vi_iadd dL_law_278 ?_
        obtain ⟨g39, hf⟩ := vv_gd hf
        refine vi_sld g39 dL_law_279 ?_
        obtain ⟨u34, hu34, hf⟩ := vv_bd hf
        refine vi_callV (As := [.int (sc.getD (x3 + (1 : Int32)).toNatClampNeg 0), .int (sc.getD (x3 + (2 : Int32)).toNatClampNeg 0)]) (st := []) (t_X4_load n p1 (sc.getD (x3 + (1 : Int32)).toNatClampNeg 0) (sc.getD (x3 + (2 : Int32)).toNatClampNeg 0) M u34 h1 hu34) rfl yo_X4_load wm_L_28 wi_X4_load ws_X4_load wI_X4 wc_X4_load (vv_bb_o h1) rfl ⟨Nat.le_of_ble_eq_true rfl, Nat.le_of_ble_eq_true rfl⟩ (vv_rmL hrm rfl rfl) (Nat.le_of_ble_eq_true rfl) rfl rfl dL_law_280 ?_
        refine vi_aload_n 2 dL_law_283 rfl rfl ?_
        refine vi_aloadf_n 0 dL_law_284 rfl rfl ?_
        refine vi_iload_n 3 dL_law_285 rfl rfl ?_
        refine vi_iconst (v := (1 : Int32)) dL_law_286 (by decide) ?_
        refine vi_iadd dL_law_287 ?_
        obtain ⟨g38, hf⟩ := vv_gd hf
        refine vi_sld g38 dL_law_288 ?_
        refine vi_aloadf_n 0 dL_law_289 rfl rfl ?_
        refine vi_iload_n 3 dL_law_290 rfl rfl ?_
        refine vi_iconst (v := (2 : Int32)) dL_law_291 (by decide) ?_
        refine vi_iadd dL_law_292 ?_
        obtain ⟨g37, hf⟩ := vv_gd hf
        refine vi_sld g37 dL_law_293 ?_
        obtain ⟨u35, hu35, hf⟩ := vv_bd hf
        refine vi_callV (As := [.int (sc.getD (x3 + (1 : Int32)).toNatClampNeg 0), .int (sc.getD (x3 + (2 : Int32)).toNatClampNeg 0)]) (st := [.int u34.1]) (t_X5_load n p2 (sc.getD (x3 + (1 : Int32)).toNatClampNeg 0) (sc.getD (x3 + (2 : Int32)).toNatClampNeg 0) u34.2 u35 h2 hu35) rfl yo_X5_load wm_L_31 wi_X5_load ws_X5_load wI_X5 wc_X5_load (vv_model_o h2) rfl ⟨Nat.le_of_ble_eq_true rfl, Nat.le_of_ble_eq_true rfl⟩ (vv_rmL hrm rfl rfl) (Nat.le_of_ble_eq_true rfl) rfl rfl dL_law_294 ?_
        refine vi_icmp_eq 779 dL_law_297 (by decide) (fun c36 => ?_) (fun c36 => ?_)
        · rw [if_pos c36] at hf
          exact t_L_law_779 n sc hrm (f_L_law_18 n sc k) u ih p1 p2 x3 u35.2 h1 h2 hf
        · rw [if_neg c36] at hf
          refine vi_iconst (v := (0 : Int32)) dL_law_300 (by decide) ?_
          obtain rfl := Option.some.inj hf
          exact vi_ret (v := some (.int (0 : Int32))) rfl ⟨dL_law_301, .boolean, rfl, rfl⟩ ⟨rfl, rfl, rfl⟩
      rw [if_neg c33] at hf
      by_cases c41 : ((sc.getD x3.toNatClampNeg 0) &&& (31 : Int32)) = (4 : Int32)
      · rw [if_pos c41] at hf
        refine vi_tableAt 302 c41 dL_law_32 (by decide) (by decide) rfl (by decide) ?_
        refine vi_aload_n 1 dL_law_302 rfl rfl ?_
        refine vi_aloadf_n 0 dL_law_303 rfl rfl ?_
        refine vi_iload_n 3 dL_law_304 rfl rfl ?_
        refine vi_iconst (v := (1 : Int32)) dL_law_305 (by decide) ?_
        refine vi_iadd dL_law_306 ?_
        obtain ⟨g46, hf⟩ := vv_gd hf
        refine vi_sld g46 dL_law_307 ?_
        obtain ⟨u42, hu42, hf⟩ := vv_bd hf
        refine vi_callV (As := [.int (sc.getD (x3 + (1 : Int32)).toNatClampNeg 0)]) (st := []) (t_X4_takeOff n p1 (sc.getD (x3 + (1 : Int32)).toNatClampNeg 0) M u42 h1 hu42) rfl yo_X4_takeOff wm_L_32 wi_X4_takeOff ws_X4_takeOff wI_X4 wc_X4_takeOff (vv_bb_o h1) rfl ⟨Nat.le_of_ble_eq_true rfl, Nat.le_of_ble_eq_true rfl⟩ (vv_rmL hrm rfl rfl) (Nat.le_of_ble_eq_true rfl) rfl rfl dL_law_308 ?_
        refine vi_aload_n 2 dL_law_311 rfl rfl ?_
        refine vi_aloadf_n 0 dL_law_312 rfl rfl ?_
        refine vi_iload_n 3 dL_law_313 rfl rfl ?_
        refine vi_iconst (v := (1 : Int32)) dL_law_314 (by decide) ?_
        refine vi_iadd dL_law_315 ?_
        obtain ⟨g45, hf⟩ := vv_gd hf
        refine vi_sld g45 dL_law_316 ?_
        obtain ⟨u43, hu43, hf⟩ := vv_bd hf
        refine vi_callV (As := [.int (sc.getD (x3 + (1 : Int32)).toNatClampNeg 0)]) (st := [.int u42.1]) (t_X5_takeOff n p2 (sc.getD (x3 + (1 : Int32)).toNatClampNeg 0) u42.2 u43 h2 hu43) rfl yo_X5_takeOff wm_L_36 wi_X5_takeOff ws_X5_takeOff wI_X5 wc_X5_takeOff (vv_model_o h2) rfl ⟨Nat.le_of_ble_eq_true rfl, Nat.le_of_ble_eq_true rfl⟩ (vv_rmL hrm rfl rfl) (Nat.le_of_ble_eq_true rfl) rfl rfl dL_law_317 ?_
        refine vi_icmp_eq 779 dL_law_320 (by decide) (fun c44 => ?_) (fun c44 => ?_)
        · rw [if_pos c44] at hf
          exact t_L_law_779 n sc hrm (f_L_law_18 n sc k) u ih p1 p2 x3 u43.2 h1 h2 hf
        · rw [if_neg c44] at hf
          refine vi_iconst (v := (0 : Int32)) dL_law_323 (by decide) ?_
          obtain rfl := Option.some.inj hf
          exact vi_ret (v := some (.int (0 : Int32))) rfl ⟨dL_law_324, .boolean, rfl, rfl⟩ ⟨rfl, rfl, rfl⟩
      rw [if_neg c41] at hf
      by_cases c47 : ((sc.getD x3.toNatClampNeg 0) &&& (31 : Int32)) = (5 : Int32)
      · rw [if_pos c47] at hf
        refine vi_tableAt 325 c47 dL_law_32 (by decide) (by decide) rfl (by decide) ?_
        refine vi_aload_n 1 dL_law_325 rfl rfl ?_
        refine vi_aloadf_n 0 dL_law_326 rfl rfl ?_
        refine vi_iload_n 3 dL_law_327 rfl rfl ?_
        refine vi_iconst (v := (1 : Int32)) dL_law_328 (by decide) ?_
        refine vi_iadd dL_law_329 ?_
        obtain ⟨g52, hf⟩ := vv_gd hf
        refine vi_sld g52 dL_law_330 ?_
        obtain ⟨u48, hu48, hf⟩ := vv_bd hf
        refine vi_callV (As := [.int (sc.getD (x3 + (1 : Int32)).toNatClampNeg 0)]) (st := []) (t_X4_pass n p1 (sc.getD (x3 + (1 : Int32)).toNatClampNeg 0) M u48 h1 hu48) rfl yo_X4_pass wm_L_37 wi_X4_pass ws_X4_pass wI_X4 wc_X4_pass (vv_bb_o h1) rfl ⟨Nat.le_of_ble_eq_true rfl, Nat.le_of_ble_eq_true rfl⟩ (vv_rmL hrm rfl rfl) (Nat.le_of_ble_eq_true rfl) rfl rfl dL_law_331 ?_
        refine vi_aload_n 2 dL_law_334 rfl rfl ?_
        refine vi_aloadf_n 0 dL_law_335 rfl rfl ?_
        refine vi_iload_n 3 dL_law_336 rfl rfl ?_
        refine vi_iconst (v := (1 : Int32)) dL_law_337 (by decide) ?_
        refine vi_iadd dL_law_338 ?_
        obtain ⟨g51, hf⟩ := vv_gd hf
        refine vi_sld g51 dL_law_339 ?_
        obtain ⟨u49, hu49, hf⟩ := vv_bd hf
        refine vi_callV (As := [.int (sc.getD (x3 + (1 : Int32)).toNatClampNeg 0)]) (st := [.int u48.1]) (t_X5_pass n p2 (sc.getD (x3 + (1 : Int32)).toNatClampNeg 0) u48.2 u49 h2 hu49) rfl yo_X5_pass wm_L_40 wi_X5_pass ws_X5_pass wI_X5 wc_X5_pass (vv_model_o h2) rfl ⟨Nat.le_of_ble_eq_true rfl, Nat.le_of_ble_eq_true rfl⟩ (vv_rmL hrm rfl rfl) (Nat.le_of_ble_eq_true rfl) rfl rfl dL_law_340 ?_
        refine vi_icmp_eq 779 dL_law_343 (by decide) (fun c50 => ?_) (fun c50 => ?_)
        · rw [if_pos c50] at hf
          exact t_L_law_779 n sc hrm (f_L_law_18 n sc k) u ih p1 p2 x3 u49.2 h1 h2 hf
        · rw [if_neg c50] at hf
          refine vi_iconst (v := (0 : Int32)) dL_law_346 (by decide) ?_
          obtain rfl := Option.some.inj hf
          exact vi_ret (v := some (.int (0 : Int32))) rfl ⟨dL_law_347, .boolean, rfl, rfl⟩ ⟨rfl, rfl, rfl⟩
      rw [if_neg c47] at hf
      by_cases c53 : ((sc.getD x3.toNatClampNeg 0) &&& (31 : Int32)) = (6 : Int32)
      · rw [if_pos c53] at hf
        refine vi_tableAt 348 c53 dL_law_32 (by decide) (by decide) rfl (by decide) ?_
        refine vi_aload_n 1 dL_law_348 rfl rfl ?_
        refine vi_aloadf_n 0 dL_law_349 rfl rfl ?_
        refine vi_iload_n 3 dL_law_350 rfl rfl ?_
        refine vi_iconst (v := (1 : Int32)) dL_law_351 (by decide) ?_
        refine vi_iadd dL_law_352 ?_
        obtain ⟨g58, hf⟩ := vv_gd hf
        refine vi_sld g58 dL_law_353 ?_
        obtain ⟨u54, hu54, hf⟩ := vv_bd hf
        refine vi_callV (As := [.int (sc.getD (x3 + (1 : Int32)).toNatClampNeg 0)]) (st := []) (t_X4_take n p1 (sc.getD (x3 + (1 : Int32)).toNatClampNeg 0) M u54 h1 hu54) rfl yo_X4_take wm_L_41 wi_X4_take ws_X4_take wI_X4 wc_X4_take (vv_bb_o h1) rfl ⟨Nat.le_of_ble_eq_true rfl, Nat.le_of_ble_eq_true rfl⟩ (vv_rmL hrm rfl rfl) (Nat.le_of_ble_eq_true rfl) rfl rfl dL_law_354 ?_
        refine vi_aload_n 2 dL_law_357 rfl rfl ?_
        refine vi_aloadf_n 0 dL_law_358 rfl rfl ?_
        refine vi_iload_n 3 dL_law_359 rfl rfl ?_
        refine vi_iconst (v := (1 : Int32)) dL_law_360 (by decide) ?_
        refine vi_iadd dL_law_361 ?_
        obtain ⟨g57, hf⟩ := vv_gd hf
        refine vi_sld g57 dL_law_362 ?_
        obtain ⟨u55, hu55, hf⟩ := vv_bd hf
        refine vi_callV (As := [.int (sc.getD (x3 + (1 : Int32)).toNatClampNeg 0)]) (st := [.int u54.1]) (t_X5_take n p2 (sc.getD (x3 + (1 : Int32)).toNatClampNeg 0) u54.2 u55 h2 hu55) rfl yo_X5_take wm_L_44 wi_X5_take ws_X5_take wI_X5 wc_X5_take (vv_model_o h2) rfl ⟨Nat.le_of_ble_eq_true rfl, Nat.le_of_ble_eq_true rfl⟩ (vv_rmL hrm rfl rfl) (Nat.le_of_ble_eq_true rfl) rfl rfl dL_law_363 ?_
        refine vi_icmp_eq 779 dL_law_366 (by decide) (fun c56 => ?_) (fun c56 => ?_)
        · rw [if_pos c56] at hf
          exact t_L_law_779 n sc hrm (f_L_law_18 n sc k) u ih p1 p2 x3 u55.2 h1 h2 hf
        · rw [if_neg c56] at hf
          refine vi_iconst (v := (0 : Int32)) dL_law_369 (by decide) ?_
          obtain rfl := Option.some.inj hf
          exact vi_ret (v := some (.int (0 : Int32))) rfl ⟨dL_law_370, .boolean, rfl, rfl⟩ ⟨rfl, rfl, rfl⟩
      rw [if_neg c53] at hf
      by_cases c59 : ((sc.getD x3.toNatClampNeg 0) &&& (31 : Int32)) = (7 : Int32)
      · rw [if_pos c59] at hf
        refine vi_tableAt 371 c59 dL_law_32 (by decide) (by decide) rfl (by decide) ?_
        refine vi_aload_n 1 dL_law_371 rfl rfl ?_
        refine vi_aloadf_n 0 dL_law_372 rfl rfl ?_
        refine vi_iload_n 3 dL_law_373 rfl rfl ?_
        refine vi_iconst (v := (1 : Int32)) dL_law_374 (by decide) ?_
        refine vi_iadd dL_law_375 ?_
        obtain ⟨g64, hf⟩ := vv_gd hf
        refine vi_sld g64 dL_law_376 ?_
        obtain ⟨u60, hu60, hf⟩ := vv_bd hf
        refine vi_callV (As := [.int (sc.getD (x3 + (1 : Int32)).toNatClampNeg 0)]) (st := []) (t_X4_restore n p1 (sc.getD (x3 + (1 : Int32)).toNatClampNeg 0) M u60 h1 hu60) rfl yo_X4_restore wm_L_45 wi_X4_restore ws_X4_restore wI_X4 wc_X4_restore (vv_bb_o h1) rfl ⟨Nat.le_of_ble_eq_true rfl, Nat.le_of_ble_eq_true rfl⟩ (vv_rmL hrm rfl rfl) (Nat.le_of_ble_eq_true rfl) rfl rfl dL_law_377 ?_
        refine vi_aload_n 2 dL_law_380 rfl rfl ?_
        refine vi_aloadf_n 0 dL_law_381 rfl rfl ?_
        refine vi_iload_n 3 dL_law_382 rfl rfl ?_
        refine vi_iconst (v := (1 : Int32)) dL_law_383 (by decide) ?_
        refine vi_iadd dL_law_384 ?_
        obtain ⟨g63, hf⟩ := vv_gd hf
        refine vi_sld g63 dL_law_385 ?_
        obtain ⟨u61, hu61, hf⟩ := vv_bd hf
        refine vi_callV (As := [.int (sc.getD (x3 + (1 : Int32)).toNatClampNeg 0)]) (st := [.int u60.1]) (t_X5_restore n p2 (sc.getD (x3 + (1 : Int32)).toNatClampNeg 0) u60.2 u61 h2 hu61) rfl yo_X5_restore wm_L_48 wi_X5_restore ws_X5_restore wI_X5 wc_X5_restore (vv_model_o h2) rfl ⟨Nat.le_of_ble_eq_true rfl, Nat.le_of_ble_eq_true rfl⟩ (vv_rmL hrm rfl rfl) (Nat.le_of_ble_eq_true rfl) rfl rfl dL_law_386 ?_
        refine vi_icmp_eq 779 dL_law_389 (by decide) (fun c62 => ?_) (fun c62 => ?_)
        · rw [if_pos c62] at hf
          exact t_L_law_779 n sc hrm (f_L_law_18 n sc k) u ih p1 p2 x3 u61.2 h1 h2 hf
        · rw [if_neg c62] at hf
          refine vi_iconst (v := (0 : Int32)) dL_law_392 (by decide) ?_
          obtain rfl := Option.some.inj hf
          exact vi_ret (v := some (.int (0 : Int32))) rfl ⟨dL_law_393, .boolean, rfl, rfl⟩ ⟨rfl, rfl, rfl⟩
      rw [if_neg c59] at hf
      by_cases c65 : ((sc.getD x3.toNatClampNeg 0) &&& (31 : Int32)) = (8 : Int32)
      · rw [if_pos c65] at hf
        refine vi_tableAt 394 c65 dL_law_32 (by decide) (by decide) rfl (by decide) ?_
        refine vi_aload_n 1 dL_law_394 rfl rfl ?_
        obtain ⟨u66, hu66, hf⟩ := vv_bd hf
        refine vi_callV (As := []) (st := []) (t_X4_undo n p1 M u66 h1 hu66) rfl yo_X4_undo wm_L_49 wi_X4_undo ws_X4_undo wI_X4 wc_X4_undo (vv_bb_o h1) rfl ⟨Nat.le_of_ble_eq_true rfl, Nat.le_of_ble_eq_true rfl⟩ (vv_rmL hrm rfl rfl) (Nat.le_of_ble_eq_true rfl) rfl rfl dL_law_395 ?_
        refine vi_aload_n 2 dL_law_398 rfl rfl ?_
        obtain ⟨u67, hu67, hf⟩ := vv_bd hf
        refine vi_callV (As := []) (st := [.int u66.1]) (t_X5_undo n p2 u66.2 u67 h2 hu67) rfl yo_X5_undo wm_L_53 wi_X5_undo ws_X5_undo wI_X5 wc_X5_undo (vv_model_o h2) rfl ⟨Nat.le_of_ble_eq_true rfl, Nat.le_of_ble_eq_true rfl⟩ (vv_rmL hrm rfl rfl) (Nat.le_of_ble_eq_true rfl) rfl rfl dL_law_399 ?_
        refine vi_icmp_eq 779 dL_law_402 (by decide) (fun c68 => ?_) (fun c68 => ?_)
        · rw [if_pos c68] at hf
          exact t_L_law_779 n sc hrm (f_L_law_18 n sc k) u ih p1 p2 x3 u67.2 h1 h2 hf
        · rw [if_neg c68] at hf
          refine vi_iconst (v := (0 : Int32)) dL_law_405 (by decide) ?_
          obtain rfl := Option.some.inj hf
          exact vi_ret (v := some (.int (0 : Int32))) rfl ⟨dL_law_406, .boolean, rfl, rfl⟩ ⟨rfl, rfl, rfl⟩
      rw [if_neg c65] at hf
      by_cases c69 : ((sc.getD x3.toNatClampNeg 0) &&& (31 : Int32)) = (9 : Int32)
      · rw [if_pos c69] at hf
        refine vi_tableAt 407 c69 dL_law_32 (by decide) (by decide) rfl (by decide) ?_
        refine vi_aload_n 1 dL_law_407 rfl rfl ?_
        refine vi_aloadf_n 0 dL_law_408 rfl rfl ?_
        refine vi_iload_n 3 dL_law_409 rfl rfl ?_
        refine vi_iconst (v := (1 : Int32)) dL_law_410 (by decide) ?_
        refine vi_iadd dL_law_411 ?_
        obtain ⟨g74, hf⟩ := vv_gd hf
        refine vi_sld g74 dL_law_412 ?_
        obtain ⟨u70, hu70, hf⟩ := vv_bd hf
        refine vi_callV (As := [.int (sc.getD (x3 + (1 : Int32)).toNatClampNeg 0)]) (st := []) (t_X4_append n p1 (sc.getD (x3 + (1 : Int32)).toNatClampNeg 0) M u70 h1 hu70) rfl yo_X4_append wm_L_54 wi_X4_append ws_X4_append wI_X4 wc_X4_append (vv_bb_o h1) rfl ⟨Nat.le_of_ble_eq_true rfl, Nat.le_of_ble_eq_true rfl⟩ (vv_rmL hrm rfl rfl) (Nat.le_of_ble_eq_true rfl) rfl rfl dL_law_413 ?_
        refine vi_aload_n 2 dL_law_416 rfl rfl ?_
        refine vi_aloadf_n 0 dL_law_417 rfl rfl ?_
        refine vi_iload_n 3 dL_law_418 rfl rfl ?_
        refine vi_iconst (v := (1 : Int32)) dL_law_419 (by decide) ?_
        refine vi_iadd dL_law_420 ?_
        obtain ⟨g73, hf⟩ := vv_gd hf
        refine vi_sld g73 dL_law_421 ?_
        obtain ⟨u71, hu71, hf⟩ := vv_bd hf
        refine vi_callV (As := [.int (sc.getD (x3 + (1 : Int32)).toNatClampNeg 0)]) (st := [.int u70.1]) (t_X5_append n p2 (sc.getD (x3 + (1 : Int32)).toNatClampNeg 0) u70.2 u71 h2 hu71) rfl yo_X5_append wm_L_57 wi_X5_append ws_X5_append wI_X5 wc_X5_append (vv_model_o h2) rfl ⟨Nat.le_of_ble_eq_true rfl, Nat.le_of_ble_eq_true rfl⟩ (vv_rmL hrm rfl rfl) (Nat.le_of_ble_eq_true rfl) rfl rfl dL_law_422 ?_
        refine vi_icmp_eq 779 dL_law_425 (by decide) (fun c72 => ?_) (fun c72 => ?_)
        · rw [if_pos c72] at hf
          exact t_L_law_779 n sc hrm (f_L_law_18 n sc k) u ih p1 p2 x3 u71.2 h1 h2 hf
        · rw [if_neg c72] at hf
          refine vi_iconst (v := (0 : Int32)) dL_law_428 (by decide) ?_
          obtain rfl := Option.some.inj hf
          exact vi_ret (v := some (.int (0 : Int32))) rfl ⟨dL_law_429, .boolean, rfl, rfl⟩ ⟨rfl, rfl, rfl⟩
      rw [if_neg c69] at hf
      by_cases c75 : ((sc.getD x3.toNatClampNeg 0) &&& (31 : Int32)) = (10 : Int32)
      · rw [if_pos c75] at hf
        refine vi_tableAt 430 c75 dL_law_32 (by decide) (by decide) rfl (by decide) ?_
        refine vi_aload_n 1 dL_law_430 rfl rfl ?_
        obtain ⟨u76, hu76, hf⟩ := vv_bd hf
        refine vi_callV (As := []) (st := []) (t_X4_clearText n p1 M u76 h1 hu76) rfl yo_X4_clearText wm_L_58 wi_X4_clearText ws_X4_clearText wI_X4 wc_X4_clearText (vv_bb_o h1) rfl ⟨Nat.le_of_ble_eq_true rfl, Nat.le_of_ble_eq_true rfl⟩ (vv_rmL hrm rfl rfl) (Nat.le_of_ble_eq_true rfl) rfl rfl dL_law_431 ?_
        refine vi_aload_n 2 dL_law_434 rfl rfl ?_
        obtain ⟨u77, hu77, hf⟩ := vv_bd hf
        refine vi_callV (As := []) (st := [.int u76.1]) (t_X5_clearText n p2 u76.2 u77 h2 hu77) rfl yo_X5_clearText wm_L_61 wi_X5_clearText ws_X5_clearText wI_X5 wc_X5_clearText (vv_model_o h2) rfl ⟨Nat.le_of_ble_eq_true rfl, Nat.le_of_ble_eq_true rfl⟩ (vv_rmL hrm rfl rfl) (Nat.le_of_ble_eq_true rfl) rfl rfl dL_law_435 ?_
        refine vi_icmp_eq 779 dL_law_438 (by decide) (fun c78 => ?_) (fun c78 => ?_)
        · rw [if_pos c78] at hf
          exact t_L_law_779 n sc hrm (f_L_law_18 n sc k) u ih p1 p2 x3 u77.2 h1 h2 hf
        · rw [if_neg c78] at hf
          refine vi_iconst (v := (0 : Int32)) dL_law_441 (by decide) ?_
          obtain rfl := Option.some.inj hf
          exact vi_ret (v := some (.int (0 : Int32))) rfl ⟨dL_law_442, .boolean, rfl, rfl⟩ ⟨rfl, rfl, rfl⟩
      rw [if_neg c75] at hf
      by_cases c79 : ((sc.getD x3.toNatClampNeg 0) &&& (31 : Int32)) = (11 : Int32)
      · rw [if_pos c79] at hf
        refine vi_tableAt 443 c79 dL_law_32 (by decide) (by decide) rfl (by decide) ?_
        refine vi_aload_n 1 dL_law_443 rfl rfl ?_
        obtain ⟨u80, hu80, hf⟩ := vv_bd hf
        refine vi_callV (As := []) (st := []) (t_X4_carryOut n p1 M u80 h1 hu80) rfl yo_X4_carryOut wm_L_62 wi_X4_carryOut ws_X4_carryOut wI_X4 wc_X4_carryOut (vv_bb_o h1) rfl ⟨Nat.le_of_ble_eq_true rfl, Nat.le_of_ble_eq_true rfl⟩ (vv_rmL hrm rfl rfl) (Nat.le_of_ble_eq_true rfl) rfl rfl dL_law_444 ?_
        refine vi_aload_n 2 dL_law_447 rfl rfl ?_
        obtain ⟨u81, hu81, hf⟩ := vv_bd hf
        refine vi_callV (As := []) (st := [.int u80.1]) (t_X5_carryOut n p2 u80.2 u81 h2 hu81) rfl yo_X5_carryOut wm_L_65 wi_X5_carryOut ws_X5_carryOut wI_X5 wc_X5_carryOut (vv_model_o h2) rfl ⟨Nat.le_of_ble_eq_true rfl, Nat.le_of_ble_eq_true rfl⟩ (vv_rmL hrm rfl rfl) (Nat.le_of_ble_eq_true rfl) rfl rfl dL_law_448 ?_
        refine vi_icmp_eq 779 dL_law_451 (by decide) (fun c82 => ?_) (fun c82 => ?_)
        · rw [if_pos c82] at hf
          exact t_L_law_779 n sc hrm (f_L_law_18 n sc k) u ih p1 p2 x3 u81.2 h1 h2 hf
        · rw [if_neg c82] at hf
          refine vi_iconst (v := (0 : Int32)) dL_law_454 (by decide) ?_
          obtain rfl := Option.some.inj hf
          exact vi_ret (v := some (.int (0 : Int32))) rfl ⟨dL_law_455, .boolean, rfl, rfl⟩ ⟨rfl, rfl, rfl⟩
      rw [if_neg c79] at hf
      by_cases c83 : ((sc.getD x3.toNatClampNeg 0) &&& (31 : Int32)) = (12 : Int32)
      · rw [if_pos c83] at hf
        refine vi_tableAt 456 c83 dL_law_32 (by decide) (by decide) rfl (by decide) ?_
        refine vi_aload_n 1 dL_law_456 rfl rfl ?_
        refine vi_aloadf_n 0 dL_law_457 rfl rfl ?_
        refine vi_iload_n 3 dL_law_458 rfl rfl ?_
        refine vi_iconst (v := (1 : Int32)) dL_law_459 (by decide) ?_
        refine vi_iadd dL_law_460 ?_
        obtain ⟨g88, hf⟩ := vv_gd hf
        refine vi_sld g88 dL_law_461 ?_
        obtain ⟨u84, hu84, hf⟩ := vv_bd hf
        refine vi_callV (As := [.int (sc.getD (x3 + (1 : Int32)).toNatClampNeg 0)]) (st := []) (t_X4_count n p1 (sc.getD (x3 + (1 : Int32)).toNatClampNeg 0) M u84 h1 hu84) rfl yo_X4_count wm_L_66 wi_X4_count ws_X4_count wI_X4 wc_X4_count (vv_bb_o h1) rfl ⟨Nat.le_of_ble_eq_true rfl, Nat.le_of_ble_eq_true rfl⟩ (vv_rmL hrm rfl rfl) (Nat.le_of_ble_eq_true rfl) rfl rfl dL_law_462 ?_
        refine vi_aload_n 2 dL_law_465 rfl rfl ?_
        refine vi_aloadf_n 0 dL_law_466 rfl rfl ?_
        refine vi_iload_n 3 dL_law_467 rfl rfl ?_
        refine vi_iconst (v := (1 : Int32)) dL_law_468 (by decide) ?_
        refine vi_iadd dL_law_469 ?_
        obtain ⟨g87, hf⟩ := vv_gd hf
        refine vi_sld g87 dL_law_470 ?_
        obtain ⟨u85, hu85, hf⟩ := vv_bd hf
        refine vi_callV (As := [.int (sc.getD (x3 + (1 : Int32)).toNatClampNeg 0)]) (st := [.int u84.1]) (t_X5_count n p2 (sc.getD (x3 + (1 : Int32)).toNatClampNeg 0) u84.2 u85 h2 hu85) rfl yo_X5_count wm_L_69 wi_X5_count ws_X5_count wI_X5 wc_X5_count (vv_model_o h2) rfl ⟨Nat.le_of_ble_eq_true rfl, Nat.le_of_ble_eq_true rfl⟩ (vv_rmL hrm rfl rfl) (Nat.le_of_ble_eq_true rfl) rfl rfl dL_law_471 ?_
        refine vi_icmp_eq 779 dL_law_474 (by decide) (fun c86 => ?_) (fun c86 => ?_)
        · rw [if_pos c86] at hf
          exact t_L_law_779 n sc hrm (f_L_law_18 n sc k) u ih p1 p2 x3 u85.2 h1 h2 hf
        · rw [if_neg c86] at hf
          refine vi_iconst (v := (0 : Int32)) dL_law_477 (by decide) ?_
          obtain rfl := Option.some.inj hf
          exact vi_ret (v := some (.int (0 : Int32))) rfl ⟨dL_law_478, .boolean, rfl, rfl⟩ ⟨rfl, rfl, rfl⟩
      rw [if_neg c83] at hf
      by_cases c89 : ((sc.getD x3.toNatClampNeg 0) &&& (31 : Int32)) = (13 : Int32)
      · rw [if_pos c89] at hf
        refine vi_tableAt 479 c89 dL_law_32 (by decide) (by decide) rfl (by decide) ?_
        refine vi_aload_n 1 dL_law_479 rfl rfl ?_
        refine vi_aloadf_n 0 dL_law_480 rfl rfl ?_
        refine vi_iload_n 3 dL_law_481 rfl rfl ?_
        refine vi_iconst (v := (1 : Int32)) dL_law_482 (by decide) ?_
        refine vi_iadd dL_law_483 ?_
        obtain ⟨g96, hf⟩ := vv_gd hf
        refine vi_sld g96 dL_law_484 ?_
        refine vi_aloadf_n 0 dL_law_485 rfl rfl ?_
        refine vi_iload_n 3 dL_law_486 rfl rfl ?_
        refine vi_iconst (v := (2 : Int32)) dL_law_487 (by decide) ?_
        refine vi_iadd dL_law_488 ?_
        obtain ⟨g95, hf⟩ := vv_gd hf
        refine vi_sld g95 dL_law_489 ?_
        obtain ⟨u90, hu90, hf⟩ := vv_bd hf
        refine vi_callV (As := [.int (sc.getD (x3 + (1 : Int32)).toNatClampNeg 0), .int (sc.getD (x3 + (2 : Int32)).toNatClampNeg 0)]) (st := []) (t_X4_zone n p1 (sc.getD (x3 + (1 : Int32)).toNatClampNeg 0) (sc.getD (x3 + (2 : Int32)).toNatClampNeg 0) M u90 h1 hu90) rfl yo_X4_zone wm_L_70 wi_X4_zone ws_X4_zone wI_X4 wc_X4_zone (vv_bb_o h1) rfl ⟨Nat.le_of_ble_eq_true rfl, Nat.le_of_ble_eq_true rfl⟩ (vv_rmL hrm rfl rfl) (Nat.le_of_ble_eq_true rfl) rfl rfl dL_law_490 ?_
        refine vi_aload_n 2 dL_law_493 rfl rfl ?_
        refine vi_aloadf_n 0 dL_law_494 rfl rfl ?_
        refine vi_iload_n 3 dL_law_495 rfl rfl ?_
        refine vi_iconst (v := (1 : Int32)) dL_law_496 (by decide) ?_
        refine vi_iadd dL_law_497 ?_
        obtain ⟨g94, hf⟩ := vv_gd hf
        refine vi_sld g94 dL_law_498 ?_
        refine vi_aloadf_n 0 dL_law_499 rfl rfl ?_
        refine vi_iload_n 3 dL_law_500 rfl rfl ?_
        refine vi_iconst (v := (2 : Int32)) dL_law_501 (by decide) ?_
        refine vi_iadd dL_law_502 ?_
        obtain ⟨g93, hf⟩ := vv_gd hf
        refine vi_sld g93 dL_law_503 ?_
        obtain ⟨u91, hu91, hf⟩ := vv_bd hf
        refine vi_callV (As := [.int (sc.getD (x3 + (1 : Int32)).toNatClampNeg 0), .int (sc.getD (x3 + (2 : Int32)).toNatClampNeg 0)]) (st := [.int u90.1]) (t_X5_zone n p2 (sc.getD (x3 + (1 : Int32)).toNatClampNeg 0) (sc.getD (x3 + (2 : Int32)).toNatClampNeg 0) u90.2 u91 h2 hu91) rfl yo_X5_zone wm_L_73 wi_X5_zone ws_X5_zone wI_X5 wc_X5_zone (vv_model_o h2) rfl ⟨Nat.le_of_ble_eq_true rfl, Nat.le_of_ble_eq_true rfl⟩ (vv_rmL hrm rfl rfl) (Nat.le_of_ble_eq_true rfl) rfl rfl dL_law_504 ?_
        refine vi_icmp_eq 779 dL_law_507 (by decide) (fun c92 => ?_) (fun c92 => ?_)
        · rw [if_pos c92] at hf
          exact t_L_law_779 n sc hrm (f_L_law_18 n sc k) u ih p1 p2 x3 u91.2 h1 h2 hf
        · rw [if_neg c92] at hf
          refine vi_iconst (v := (0 : Int32)) dL_law_510 (by decide) ?_
          obtain rfl := Option.some.inj hf
          exact vi_ret (v := some (.int (0 : Int32))) rfl ⟨dL_law_511, .boolean, rfl, rfl⟩ ⟨rfl, rfl, rfl⟩
      rw [if_neg c89] at hf
      by_cases c97 : ((sc.getD x3.toNatClampNeg 0) &&& (31 : Int32)) = (14 : Int32)
      · rw [if_pos c97] at hf
        refine vi_tableAt 512 c97 dL_law_32 (by decide) (by decide) rfl (by decide) ?_
        refine vi_aload_n 1 dL_law_512 rfl rfl ?_
        refine vi_aloadf_n 0 dL_law_513 rfl rfl ?_
        refine vi_iload_n 3 dL_law_514 rfl rfl ?_
        refine vi_iconst (v := (1 : Int32)) dL_law_515 (by decide) ?_
        refine vi_iadd dL_law_516 ?_
        obtain ⟨g104, hf⟩ := vv_gd hf
        refine vi_sld g104 dL_law_517 ?_
        refine vi_aloadf_n 0 dL_law_518 rfl rfl ?_
        refine vi_iload_n 3 dL_law_519 rfl rfl ?_
        refine vi_iconst (v := (2 : Int32)) dL_law_520 (by decide) ?_
        refine vi_iadd dL_law_521 ?_
        obtain ⟨g103, hf⟩ := vv_gd hf
        refine vi_sld g103 dL_law_522 ?_
        obtain ⟨u98, hu98, hf⟩ := vv_bd hf
        refine vi_callV (As := [.int (sc.getD (x3 + (1 : Int32)).toNatClampNeg 0), .int (sc.getD (x3 + (2 : Int32)).toNatClampNeg 0)]) (st := []) (t_X4_curve n p1 (sc.getD (x3 + (1 : Int32)).toNatClampNeg 0) (sc.getD (x3 + (2 : Int32)).toNatClampNeg 0) M u98 h1 hu98) rfl yo_X4_curve wm_L_74 wi_X4_curve ws_X4_curve wI_X4 wc_X4_curve (vv_bb_o h1) rfl ⟨Nat.le_of_ble_eq_true rfl, Nat.le_of_ble_eq_true rfl⟩ (vv_rmL hrm rfl rfl) (Nat.le_of_ble_eq_true rfl) rfl rfl dL_law_523 ?_
        refine vi_aload_n 2 dL_law_526 rfl rfl ?_
        refine vi_aloadf_n 0 dL_law_527 rfl rfl ?_
        refine vi_iload_n 3 dL_law_528 rfl rfl ?_
        refine vi_iconst (v := (1 : Int32)) dL_law_529 (by decide) ?_
        refine vi_iadd dL_law_530 ?_
        obtain ⟨g102, hf⟩ := vv_gd hf
        refine vi_sld g102 dL_law_531 ?_
        refine vi_aloadf_n 0 dL_law_532 rfl rfl ?_
        refine vi_iload_n 3 dL_law_533 rfl rfl ?_
        refine vi_iconst (v := (2 : Int32)) dL_law_534 (by decide) ?_
        refine vi_iadd dL_law_535 ?_
        obtain ⟨g101, hf⟩ := vv_gd hf
        refine vi_sld g101 dL_law_536 ?_
        obtain ⟨u99, hu99, hf⟩ := vv_bd hf
        refine vi_callV (As := [.int (sc.getD (x3 + (1 : Int32)).toNatClampNeg 0), .int (sc.getD (x3 + (2 : Int32)).toNatClampNeg 0)]) (st := [.int u98.1]) (t_X5_curve n p2 (sc.getD (x3 + (1 : Int32)).toNatClampNeg 0) (sc.getD (x3 + (2 : Int32)).toNatClampNeg 0) u98.2 u99 h2 hu99) rfl yo_X5_curve wm_L_77 wi_X5_curve ws_X5_curve wI_X5 wc_X5_curve (vv_model_o h2) rfl ⟨Nat.le_of_ble_eq_true rfl, Nat.le_of_ble_eq_true rfl⟩ (vv_rmL hrm rfl rfl) (Nat.le_of_ble_eq_true rfl) rfl rfl dL_law_537 ?_
        refine vi_icmp_eq 779 dL_law_540 (by decide) (fun c100 => ?_) (fun c100 => ?_)
        · rw [if_pos c100] at hf
          exact t_L_law_779 n sc hrm (f_L_law_18 n sc k) u ih p1 p2 x3 u99.2 h1 h2 hf
        · rw [if_neg c100] at hf
          refine vi_iconst (v := (0 : Int32)) dL_law_543 (by decide) ?_
          obtain rfl := Option.some.inj hf
          exact vi_ret (v := some (.int (0 : Int32))) rfl ⟨dL_law_544, .boolean, rfl, rfl⟩ ⟨rfl, rfl, rfl⟩
      rw [if_neg c97] at hf
      by_cases c105 : ((sc.getD x3.toNatClampNeg 0) &&& (31 : Int32)) = (15 : Int32)
      · rw [if_pos c105] at hf
        refine vi_tableAt 545 c105 dL_law_32 (by decide) (by decide) rfl (by decide) ?_
        refine vi_aload_n 1 dL_law_545 rfl rfl ?_
        refine vi_aloadf_n 0 dL_law_546 rfl rfl ?_
        refine vi_iload_n 3 dL_law_547 rfl rfl ?_
        refine vi_iconst (v := (1 : Int32)) dL_law_548 (by decide) ?_
        refine vi_iadd dL_law_549 ?_
        obtain ⟨g112, hf⟩ := vv_gd hf
        refine vi_sld g112 dL_law_550 ?_
        refine vi_aloadf_n 0 dL_law_551 rfl rfl ?_
        refine vi_iload_n 3 dL_law_552 rfl rfl ?_
        refine vi_iconst (v := (2 : Int32)) dL_law_553 (by decide) ?_
        refine vi_iadd dL_law_554 ?_
        obtain ⟨g111, hf⟩ := vv_gd hf
        refine vi_sld g111 dL_law_555 ?_
        obtain ⟨u106, hu106, hf⟩ := vv_bd hf
        refine vi_callV (As := [.int (sc.getD (x3 + (1 : Int32)).toNatClampNeg 0), .int (sc.getD (x3 + (2 : Int32)).toNatClampNeg 0)]) (st := []) (t_X4_board n p1 (sc.getD (x3 + (1 : Int32)).toNatClampNeg 0) (sc.getD (x3 + (2 : Int32)).toNatClampNeg 0) M u106 h1 hu106) rfl yo_X4_board wm_L_78 wi_X4_board ws_X4_board wI_X4 wc_X4_board (vv_bb_o h1) rfl ⟨Nat.le_of_ble_eq_true rfl, Nat.le_of_ble_eq_true rfl⟩ (vv_rmL hrm rfl rfl) (Nat.le_of_ble_eq_true rfl) rfl rfl dL_law_556 ?_
        refine vi_aload_n 2 dL_law_559 rfl rfl ?_
        refine vi_aloadf_n 0 dL_law_560 rfl rfl ?_
        refine vi_iload_n 3 dL_law_561 rfl rfl ?_
        refine vi_iconst (v := (1 : Int32)) dL_law_562 (by decide) ?_
        refine vi_iadd dL_law_563 ?_
        obtain ⟨g110, hf⟩ := vv_gd hf
        refine vi_sld g110 dL_law_564 ?_
        refine vi_aloadf_n 0 dL_law_565 rfl rfl ?_
        refine vi_iload_n 3 dL_law_566 rfl rfl ?_
        refine vi_iconst (v := (2 : Int32)) dL_law_567 (by decide) ?_
        refine vi_iadd dL_law_568 ?_
        obtain ⟨g109, hf⟩ := vv_gd hf
        refine vi_sld g109 dL_law_569 ?_
        obtain ⟨u107, hu107, hf⟩ := vv_bd hf
        refine vi_callV (As := [.int (sc.getD (x3 + (1 : Int32)).toNatClampNeg 0), .int (sc.getD (x3 + (2 : Int32)).toNatClampNeg 0)]) (st := [.int u106.1]) (t_X5_board n p2 (sc.getD (x3 + (1 : Int32)).toNatClampNeg 0) (sc.getD (x3 + (2 : Int32)).toNatClampNeg 0) u106.2 u107 h2 hu107) rfl yo_X5_board wm_L_81 wi_X5_board ws_X5_board wI_X5 wc_X5_board (vv_model_o h2) rfl ⟨Nat.le_of_ble_eq_true rfl, Nat.le_of_ble_eq_true rfl⟩ (vv_rmL hrm rfl rfl) (Nat.le_of_ble_eq_true rfl) rfl rfl dL_law_570 ?_
        refine vi_icmp_eq 779 dL_law_573 (by decide) (fun c108 => ?_) (fun c108 => ?_)
        · rw [if_pos c108] at hf
          exact t_L_law_779 n sc hrm (f_L_law_18 n sc k) u ih p1 p2 x3 u107.2 h1 h2 hf
        · rw [if_neg c108] at hf
          refine vi_iconst (v := (0 : Int32)) dL_law_576 (by decide) ?_
          obtain rfl := Option.some.inj hf
          exact vi_ret (v := some (.int (0 : Int32))) rfl ⟨dL_law_577, .boolean, rfl, rfl⟩ ⟨rfl, rfl, rfl⟩
      rw [if_neg c105] at hf
      by_cases c113 : ((sc.getD x3.toNatClampNeg 0) &&& (31 : Int32)) = (16 : Int32)
      · rw [if_pos c113] at hf
        refine vi_tableAt 578 c113 dL_law_32 (by decide) (by decide) rfl (by decide) ?_
        refine vi_aload_n 1 dL_law_578 rfl rfl ?_
        refine vi_aloadf_n 0 dL_law_579 rfl rfl ?_
        refine vi_iload_n 3 dL_law_580 rfl rfl ?_
        refine vi_iconst (v := (1 : Int32)) dL_law_581 (by decide) ?_
        refine vi_iadd dL_law_582 ?_
        obtain ⟨g122, hf⟩ := vv_gd hf
        refine vi_sld g122 dL_law_583 ?_
        refine vi_aloadf_n 0 dL_law_584 rfl rfl ?_
        refine vi_iload_n 3 dL_law_585 rfl rfl ?_
        refine vi_iconst (v := (2 : Int32)) dL_law_586 (by decide) ?_
        refine vi_iadd dL_law_587 ?_
        obtain ⟨g121, hf⟩ := vv_gd hf
        refine vi_sld g121 dL_law_588 ?_
        refine vi_aloadf_n 0 dL_law_589 rfl rfl ?_
        refine vi_iload_n 3 dL_law_590 rfl rfl ?_
        refine vi_iconst (v := (3 : Int32)) dL_law_591 (by decide) ?_
        refine vi_iadd dL_law_592 ?_
        obtain ⟨g120, hf⟩ := vv_gd hf
        refine vi_sld g120 dL_law_593 ?_
        obtain ⟨u114, hu114, hf⟩ := vv_bd hf
        refine vi_callV (As := [.int (sc.getD (x3 + (1 : Int32)).toNatClampNeg 0), .int (sc.getD (x3 + (2 : Int32)).toNatClampNeg 0), .int (sc.getD (x3 + (3 : Int32)).toNatClampNeg 0)]) (st := []) (t_X4_fault n p1 (sc.getD (x3 + (1 : Int32)).toNatClampNeg 0) (sc.getD (x3 + (2 : Int32)).toNatClampNeg 0) (sc.getD (x3 + (3 : Int32)).toNatClampNeg 0) M u114 h1 hu114) rfl yo_X4_fault wm_L_82 wi_X4_fault ws_X4_fault wI_X4 wc_X4_fault (vv_bb_o h1) rfl ⟨Nat.le_of_ble_eq_true rfl, Nat.le_of_ble_eq_true rfl⟩ (vv_rmL hrm rfl rfl) (Nat.le_of_ble_eq_true rfl) rfl rfl dL_law_594 ?_
        refine vi_aload_n 2 dL_law_597 rfl rfl ?_
        refine vi_aloadf_n 0 dL_law_598 rfl rfl ?_
        refine vi_iload_n 3 dL_law_599 rfl rfl ?_
        refine vi_iconst (v := (1 : Int32)) dL_law_600 (by decide) ?_
        refine vi_iadd dL_law_601 ?_
        obtain ⟨g119, hf⟩ := vv_gd hf
        refine vi_sld g119 dL_law_602 ?_
        refine vi_aloadf_n 0 dL_law_603 rfl rfl ?_
        refine vi_iload_n 3 dL_law_604 rfl rfl ?_
        refine vi_iconst (v := (2 : Int32)) dL_law_605 (by decide) ?_
        refine vi_iadd dL_law_606 ?_
        obtain ⟨g118, hf⟩ := vv_gd hf
        refine vi_sld g118 dL_law_607 ?_
        refine vi_aloadf_n 0 dL_law_608 rfl rfl ?_
        refine vi_iload_n 3 dL_law_609 rfl rfl ?_
        refine vi_iconst (v := (3 : Int32)) dL_law_610 (by decide) ?_
        refine vi_iadd dL_law_611 ?_
        obtain ⟨g117, hf⟩ := vv_gd hf
        refine vi_sld g117 dL_law_612 ?_
        obtain ⟨u115, hu115, hf⟩ := vv_bd hf
        refine vi_callV (As := [.int (sc.getD (x3 + (1 : Int32)).toNatClampNeg 0), .int (sc.getD (x3 + (2 : Int32)).toNatClampNeg 0), .int (sc.getD (x3 + (3 : Int32)).toNatClampNeg 0)]) (st := [.int u114.1]) (t_X5_fault n p2 (sc.getD (x3 + (1 : Int32)).toNatClampNeg 0) (sc.getD (x3 + (2 : Int32)).toNatClampNeg 0) (sc.getD (x3 + (3 : Int32)).toNatClampNeg 0) u114.2 u115 h2 hu115) rfl yo_X5_fault wm_L_85 wi_X5_fault ws_X5_fault wI_X5 wc_X5_fault (vv_model_o h2) rfl ⟨Nat.le_of_ble_eq_true rfl, Nat.le_of_ble_eq_true rfl⟩ (vv_rmL hrm rfl rfl) (Nat.le_of_ble_eq_true rfl) rfl rfl dL_law_613 ?_
        refine vi_icmp_eq 779 dL_law_616 (by decide) (fun c116 => ?_) (fun c116 => ?_)
        · rw [if_pos c116] at hf
          exact t_L_law_779 n sc hrm (f_L_law_18 n sc k) u ih p1 p2 x3 u115.2 h1 h2 hf
        · rw [if_neg c116] at hf
          refine vi_iconst (v := (0 : Int32)) dL_law_619 (by decide) ?_
          obtain rfl := Option.some.inj hf
          exact vi_ret (v := some (.int (0 : Int32))) rfl ⟨dL_law_620, .boolean, rfl, rfl⟩ ⟨rfl, rfl, rfl⟩
      rw [if_neg c113] at hf
      by_cases c123 : ((sc.getD x3.toNatClampNeg 0) &&& (31 : Int32)) = (17 : Int32)
      · rw [if_pos c123] at hf
        refine vi_tableAt 621 c123 dL_law_32 (by decide) (by decide) rfl (by decide) ?_
        refine vi_aload_n 1 dL_law_621 rfl rfl ?_
        refine vi_aloadf_n 0 dL_law_622 rfl rfl ?_
        refine vi_iload_n 3 dL_law_623 rfl rfl ?_
        refine vi_iconst (v := (1 : Int32)) dL_law_624 (by decide) ?_
        refine vi_iadd dL_law_625 ?_
        obtain ⟨g130, hf⟩ := vv_gd hf
        refine vi_sld g130 dL_law_626 ?_
        refine vi_aloadf_n 0 dL_law_627 rfl rfl ?_
        refine vi_iload_n 3 dL_law_628 rfl rfl ?_
        refine vi_iconst (v := (2 : Int32)) dL_law_629 (by decide) ?_
        refine vi_iadd dL_law_630 ?_
        obtain ⟨g129, hf⟩ := vv_gd hf
        refine vi_sld g129 dL_law_631 ?_
        obtain ⟨u124, hu124, hf⟩ := vv_bd hf
        refine vi_callV (As := [.int (sc.getD (x3 + (1 : Int32)).toNatClampNeg 0), .int (sc.getD (x3 + (2 : Int32)).toNatClampNeg 0)]) (st := []) (t_X4_worstCell n p1 (sc.getD (x3 + (1 : Int32)).toNatClampNeg 0) (sc.getD (x3 + (2 : Int32)).toNatClampNeg 0) M u124 h1 hu124) rfl yo_X4_worstCell wm_L_86 wi_X4_worstCell ws_X4_worstCell wI_X4 wc_X4_worstCell (vv_bb_o h1) rfl ⟨Nat.le_of_ble_eq_true rfl, Nat.le_of_ble_eq_true rfl⟩ (vv_rmL hrm rfl rfl) (Nat.le_of_ble_eq_true rfl) rfl rfl dL_law_632 ?_
        refine vi_aload_n 2 dL_law_635 rfl rfl ?_
        refine vi_aloadf_n 0 dL_law_636 rfl rfl ?_
        refine vi_iload_n 3 dL_law_637 rfl rfl ?_
        refine vi_iconst (v := (1 : Int32)) dL_law_638 (by decide) ?_
        refine vi_iadd dL_law_639 ?_
        obtain ⟨g128, hf⟩ := vv_gd hf
        refine vi_sld g128 dL_law_640 ?_
        refine vi_aloadf_n 0 dL_law_641 rfl rfl ?_
        refine vi_iload_n 3 dL_law_642 rfl rfl ?_
        refine vi_iconst (v := (2 : Int32)) dL_law_643 (by decide) ?_
        refine vi_iadd dL_law_644 ?_
        obtain ⟨g127, hf⟩ := vv_gd hf
        refine vi_sld g127 dL_law_645 ?_
        obtain ⟨u125, hu125, hf⟩ := vv_bd hf
        refine vi_callV (As := [.int (sc.getD (x3 + (1 : Int32)).toNatClampNeg 0), .int (sc.getD (x3 + (2 : Int32)).toNatClampNeg 0)]) (st := [.int u124.1]) (t_X5_worstCell n p2 (sc.getD (x3 + (1 : Int32)).toNatClampNeg 0) (sc.getD (x3 + (2 : Int32)).toNatClampNeg 0) u124.2 u125 h2 hu125) rfl yo_X5_worstCell wm_L_89 wi_X5_worstCell ws_X5_worstCell wI_X5 wc_X5_worstCell (vv_model_o h2) rfl ⟨Nat.le_of_ble_eq_true rfl, Nat.le_of_ble_eq_true rfl⟩ (vv_rmL hrm rfl rfl) (Nat.le_of_ble_eq_true rfl) rfl rfl dL_law_646 ?_
        refine vi_icmp_eq 779 dL_law_649 (by decide) (fun c126 => ?_) (fun c126 => ?_)
        · rw [if_pos c126] at hf
          exact t_L_law_779 n sc hrm (f_L_law_18 n sc k) u ih p1 p2 x3 u125.2 h1 h2 hf
        · rw [if_neg c126] at hf
          refine vi_iconst (v := (0 : Int32)) dL_law_652 (by decide) ?_
          obtain rfl := Option.some.inj hf
          exact vi_ret (v := some (.int (0 : Int32))) rfl ⟨dL_law_653, .boolean, rfl, rfl⟩ ⟨rfl, rfl, rfl⟩
      rw [if_neg c123] at hf
      by_cases c131 : ((sc.getD x3.toNatClampNeg 0) &&& (31 : Int32)) = (18 : Int32)
      · rw [if_pos c131] at hf
        refine vi_tableAt 654 c131 dL_law_32 (by decide) (by decide) rfl (by decide) ?_
        refine vi_aload_n 1 dL_law_654 rfl rfl ?_
        obtain ⟨u132, hu132, hf⟩ := vv_bd hf
        refine vi_callV (As := []) (st := []) (t_X4_faultCells n p1 M u132 h1 hu132) rfl yo_X4_faultCells wm_L_90 wi_X4_faultCells ws_X4_faultCells wI_X4 wc_X4_faultCells (vv_bb_o h1) rfl ⟨Nat.le_of_ble_eq_true rfl, Nat.le_of_ble_eq_true rfl⟩ (vv_rmL hrm rfl rfl) (Nat.le_of_ble_eq_true rfl) rfl rfl dL_law_655 ?_
        refine vi_aload_n 2 dL_law_658 rfl rfl ?_
        obtain ⟨u133, hu133, hf⟩ := vv_bd hf
        refine vi_callV (As := []) (st := [.int u132.1]) (t_X5_faultCells n p2 u132.2 u133 h2 hu133) rfl yo_X5_faultCells wm_L_93 wi_X5_faultCells ws_X5_faultCells wI_X5 wc_X5_faultCells (vv_model_o h2) rfl ⟨Nat.le_of_ble_eq_true rfl, Nat.le_of_ble_eq_true rfl⟩ (vv_rmL hrm rfl rfl) (Nat.le_of_ble_eq_true rfl) rfl rfl dL_law_659 ?_
        refine vi_icmp_eq 779 dL_law_662 (by decide) (fun c134 => ?_) (fun c134 => ?_)
        · rw [if_pos c134] at hf
          exact t_L_law_779 n sc hrm (f_L_law_18 n sc k) u ih p1 p2 x3 u133.2 h1 h2 hf
        · rw [if_neg c134] at hf
          refine vi_iconst (v := (0 : Int32)) dL_law_665 (by decide) ?_
          obtain rfl := Option.some.inj hf
          exact vi_ret (v := some (.int (0 : Int32))) rfl ⟨dL_law_666, .boolean, rfl, rfl⟩ ⟨rfl, rfl, rfl⟩
      rw [if_neg c131] at hf
      by_cases c135 : ((sc.getD x3.toNatClampNeg 0) &&& (31 : Int32)) = (19 : Int32)
      · rw [if_pos c135] at hf
        refine vi_tableAt 667 c135 dL_law_32 (by decide) (by decide) rfl (by decide) ?_
        refine vi_aload_n 1 dL_law_667 rfl rfl ?_
        refine vi_aloadf_n 0 dL_law_668 rfl rfl ?_
        refine vi_iload_n 3 dL_law_669 rfl rfl ?_
        refine vi_iconst (v := (1 : Int32)) dL_law_670 (by decide) ?_
        refine vi_iadd dL_law_671 ?_
        obtain ⟨g142, hf⟩ := vv_gd hf
        refine vi_sld g142 dL_law_672 ?_
        refine vi_aloadf_n 0 dL_law_673 rfl rfl ?_
        refine vi_iload_n 3 dL_law_674 rfl rfl ?_
        refine vi_iconst (v := (2 : Int32)) dL_law_675 (by decide) ?_
        refine vi_iadd dL_law_676 ?_
        obtain ⟨g141, hf⟩ := vv_gd hf
        refine vi_sld g141 dL_law_677 ?_
        obtain ⟨u136, hu136, hf⟩ := vv_bd hf
        refine vi_callV (As := [.int (sc.getD (x3 + (1 : Int32)).toNatClampNeg 0), .int (sc.getD (x3 + (2 : Int32)).toNatClampNeg 0)]) (st := []) (t_X4_foretell n p1 (sc.getD (x3 + (1 : Int32)).toNatClampNeg 0) (sc.getD (x3 + (2 : Int32)).toNatClampNeg 0) M u136 h1 hu136) rfl yo_X4_foretell wm_L_94 wi_X4_foretell ws_X4_foretell wI_X4 wc_X4_foretell (vv_bb_o h1) rfl ⟨Nat.le_of_ble_eq_true rfl, Nat.le_of_ble_eq_true rfl⟩ (vv_rmL hrm rfl rfl) (Nat.le_of_ble_eq_true rfl) rfl rfl dL_law_678 ?_
        refine vi_aload_n 2 dL_law_681 rfl rfl ?_
        refine vi_aloadf_n 0 dL_law_682 rfl rfl ?_
        refine vi_iload_n 3 dL_law_683 rfl rfl ?_
        refine vi_iconst (v := (1 : Int32)) dL_law_684 (by decide) ?_
        refine vi_iadd dL_law_685 ?_
        obtain ⟨g140, hf⟩ := vv_gd hf
        refine vi_sld g140 dL_law_686 ?_
        refine vi_aloadf_n 0 dL_law_687 rfl rfl ?_
        refine vi_iload_n 3 dL_law_688 rfl rfl ?_
        refine vi_iconst (v := (2 : Int32)) dL_law_689 (by decide) ?_
        refine vi_iadd dL_law_690 ?_
        obtain ⟨g139, hf⟩ := vv_gd hf
        refine vi_sld g139 dL_law_691 ?_
        obtain ⟨u137, hu137, hf⟩ := vv_bd hf
        refine vi_callV (As := [.int (sc.getD (x3 + (1 : Int32)).toNatClampNeg 0), .int (sc.getD (x3 + (2 : Int32)).toNatClampNeg 0)]) (st := [.int u136.1]) (t_X5_foretell n p2 (sc.getD (x3 + (1 : Int32)).toNatClampNeg 0) (sc.getD (x3 + (2 : Int32)).toNatClampNeg 0) u136.2 u137 h2 hu137) rfl yo_X5_foretell wm_L_97 wi_X5_foretell ws_X5_foretell wI_X5 wc_X5_foretell (vv_model_o h2) rfl ⟨Nat.le_of_ble_eq_true rfl, Nat.le_of_ble_eq_true rfl⟩ (vv_rmL hrm rfl rfl) (Nat.le_of_ble_eq_true rfl) rfl rfl dL_law_692 ?_
        refine vi_icmp_eq 779 dL_law_695 (by decide) (fun c138 => ?_) (fun c138 => ?_)
        · rw [if_pos c138] at hf
          exact t_L_law_779 n sc hrm (f_L_law_18 n sc k) u ih p1 p2 x3 u137.2 h1 h2 hf
        · rw [if_neg c138] at hf
          refine vi_iconst (v := (0 : Int32)) dL_law_698 (by decide) ?_
          obtain rfl := Option.some.inj hf
          exact vi_ret (v := some (.int (0 : Int32))) rfl ⟨dL_law_699, .boolean, rfl, rfl⟩ ⟨rfl, rfl, rfl⟩
      rw [if_neg c135] at hf
      by_cases c143 : ((sc.getD x3.toNatClampNeg 0) &&& (31 : Int32)) = (20 : Int32)
      · rw [if_pos c143] at hf
        refine vi_tableAt 700 c143 dL_law_32 (by decide) (by decide) rfl (by decide) ?_
        refine vi_aload_n 1 dL_law_700 rfl rfl ?_
        refine vi_aloadf_n 0 dL_law_701 rfl rfl ?_
        refine vi_iload_n 3 dL_law_702 rfl rfl ?_
        refine vi_iconst (v := (1 : Int32)) dL_law_703 (by decide) ?_
        refine vi_iadd dL_law_704 ?_
        obtain ⟨g152, hf⟩ := vv_gd hf
        refine vi_sld g152 dL_law_705 ?_
        refine vi_aloadf_n 0 dL_law_706 rfl rfl ?_
        refine vi_iload_n 3 dL_law_707 rfl rfl ?_
        refine vi_iconst (v := (2 : Int32)) dL_law_708 (by decide) ?_
        refine vi_iadd dL_law_709 ?_
        obtain ⟨g151, hf⟩ := vv_gd hf
        refine vi_sld g151 dL_law_710 ?_
        refine vi_aloadf_n 0 dL_law_711 rfl rfl ?_
        refine vi_iload_n 3 dL_law_712 rfl rfl ?_
        refine vi_iconst (v := (3 : Int32)) dL_law_713 (by decide) ?_
        refine vi_iadd dL_law_714 ?_
        obtain ⟨g150, hf⟩ := vv_gd hf
        refine vi_sld g150 dL_law_715 ?_
        obtain ⟨u144, hu144, hf⟩ := vv_bd hf
        refine vi_callV (As := [.int (sc.getD (x3 + (1 : Int32)).toNatClampNeg 0), .int (sc.getD (x3 + (2 : Int32)).toNatClampNeg 0), .int (sc.getD (x3 + (3 : Int32)).toNatClampNeg 0)]) (st := []) (t_X4_wouldFail n p1 (sc.getD (x3 + (1 : Int32)).toNatClampNeg 0) (sc.getD (x3 + (2 : Int32)).toNatClampNeg 0) (sc.getD (x3 + (3 : Int32)).toNatClampNeg 0) M u144 h1 hu144) rfl yo_X4_wouldFail wm_L_98 wi_X4_wouldFail ws_X4_wouldFail wI_X4 wc_X4_wouldFail (vv_bb_o h1) rfl ⟨Nat.le_of_ble_eq_true rfl, Nat.le_of_ble_eq_true rfl⟩ (vv_rmL hrm rfl rfl) (Nat.le_of_ble_eq_true rfl) rfl rfl dL_law_716 ?_
        refine vi_aload_n 2 dL_law_719 rfl rfl ?_
        refine vi_aloadf_n 0 dL_law_720 rfl rfl ?_
        refine vi_iload_n 3 dL_law_721 rfl rfl ?_
        refine vi_iconst (v := (1 : Int32)) dL_law_722 (by decide) ?_
        refine vi_iadd dL_law_723 ?_
        obtain ⟨g149, hf⟩ := vv_gd hf
        refine vi_sld g149 dL_law_724 ?_
        refine vi_aloadf_n 0 dL_law_725 rfl rfl ?_
        refine vi_iload_n 3 dL_law_726 rfl rfl ?_
        refine vi_iconst (v := (2 : Int32)) dL_law_727 (by decide) ?_
        refine vi_iadd dL_law_728 ?_
        obtain ⟨g148, hf⟩ := vv_gd hf
        refine vi_sld g148 dL_law_729 ?_
        refine vi_aloadf_n 0 dL_law_730 rfl rfl ?_
        refine vi_iload_n 3 dL_law_731 rfl rfl ?_
        refine vi_iconst (v := (3 : Int32)) dL_law_732 (by decide) ?_
        refine vi_iadd dL_law_733 ?_
        obtain ⟨g147, hf⟩ := vv_gd hf
        refine vi_sld g147 dL_law_734 ?_
        obtain ⟨u145, hu145, hf⟩ := vv_bd hf
        refine vi_callV (As := [.int (sc.getD (x3 + (1 : Int32)).toNatClampNeg 0), .int (sc.getD (x3 + (2 : Int32)).toNatClampNeg 0), .int (sc.getD (x3 + (3 : Int32)).toNatClampNeg 0)]) (st := [.int u144.1]) (t_X5_wouldFail n p2 (sc.getD (x3 + (1 : Int32)).toNatClampNeg 0) (sc.getD (x3 + (2 : Int32)).toNatClampNeg 0) (sc.getD (x3 + (3 : Int32)).toNatClampNeg 0) u144.2 u145 h2 hu145) rfl yo_X5_wouldFail wm_L_101 wi_X5_wouldFail ws_X5_wouldFail wI_X5 wc_X5_wouldFail (vv_model_o h2) rfl ⟨Nat.le_of_ble_eq_true rfl, Nat.le_of_ble_eq_true rfl⟩ (vv_rmL hrm rfl rfl) (Nat.le_of_ble_eq_true rfl) rfl rfl dL_law_735 ?_
        refine vi_icmp_eq 779 dL_law_738 (by decide) (fun c146 => ?_) (fun c146 => ?_)
        · rw [if_pos c146] at hf
          exact t_L_law_779 n sc hrm (f_L_law_18 n sc k) u ih p1 p2 x3 u145.2 h1 h2 hf
        · rw [if_neg c146] at hf
          refine vi_iconst (v := (0 : Int32)) dL_law_741 (by decide) ?_
          obtain rfl := Option.some.inj hf
          exact vi_ret (v := some (.int (0 : Int32))) rfl ⟨dL_law_742, .boolean, rfl, rfl⟩ ⟨rfl, rfl, rfl⟩
      rw [if_neg c143] at hf
      by_cases c153 : ((sc.getD x3.toNatClampNeg 0) &&& (31 : Int32)) = (21 : Int32)
      · rw [if_pos c153] at hf
        refine vi_tableAt 743 c153 dL_law_32 (by decide) (by decide) rfl (by decide) ?_
        refine vi_aload_n 1 dL_law_743 rfl rfl ?_
        refine vi_aloadf_n 0 dL_law_744 rfl rfl ?_
        refine vi_iload_n 3 dL_law_745 rfl rfl ?_
        refine vi_iconst (v := (1 : Int32)) dL_law_746 (by decide) ?_
        refine vi_iadd dL_law_747 ?_
        obtain ⟨g158, hf⟩ := vv_gd hf
        refine vi_sld g158 dL_law_748 ?_
        obtain ⟨u154, hu154, hf⟩ := vv_bd hf
        refine vi_callV (As := [.int (sc.getD (x3 + (1 : Int32)).toNatClampNeg 0)]) (st := []) (t_X4_heaviest n p1 (sc.getD (x3 + (1 : Int32)).toNatClampNeg 0) M u154 h1 hu154) rfl yo_X4_heaviest wm_L_102 wi_X4_heaviest ws_X4_heaviest wI_X4 wc_X4_heaviest (vv_bb_o h1) rfl ⟨Nat.le_of_ble_eq_true rfl, Nat.le_of_ble_eq_true rfl⟩ (vv_rmL hrm rfl rfl) (Nat.le_of_ble_eq_true rfl) rfl rfl dL_law_749 ?_
        refine vi_aload_n 2 dL_law_752 rfl rfl ?_
        refine vi_aloadf_n 0 dL_law_753 rfl rfl ?_
        refine vi_iload_n 3 dL_law_754 rfl rfl ?_
        refine vi_iconst (v := (1 : Int32)) dL_law_755 (by decide) ?_
        refine vi_iadd dL_law_756 ?_
        obtain ⟨g157, hf⟩ := vv_gd hf
        refine vi_sld g157 dL_law_757 ?_
        obtain ⟨u155, hu155, hf⟩ := vv_bd hf
        refine vi_callV (As := [.int (sc.getD (x3 + (1 : Int32)).toNatClampNeg 0)]) (st := [.int u154.1]) (t_X5_heaviest n p2 (sc.getD (x3 + (1 : Int32)).toNatClampNeg 0) u154.2 u155 h2 hu155) rfl yo_X5_heaviest wm_L_105 wi_X5_heaviest ws_X5_heaviest wI_X5 wc_X5_heaviest (vv_model_o h2) rfl ⟨Nat.le_of_ble_eq_true rfl, Nat.le_of_ble_eq_true rfl⟩ (vv_rmL hrm rfl rfl) (Nat.le_of_ble_eq_true rfl) rfl rfl dL_law_758 ?_
        refine vi_icmp_eq 779 dL_law_761 (by decide) (fun c156 => ?_) (fun c156 => ?_)
        · rw [if_pos c156] at hf
          exact t_L_law_779 n sc hrm (f_L_law_18 n sc k) u ih p1 p2 x3 u155.2 h1 h2 hf
        · rw [if_neg c156] at hf
          refine vi_iconst (v := (0 : Int32)) dL_law_764 (by decide) ?_
          obtain rfl := Option.some.inj hf
          exact vi_ret (v := some (.int (0 : Int32))) rfl ⟨dL_law_765, .boolean, rfl, rfl⟩ ⟨rfl, rfl, rfl⟩
      rw [if_neg c153] at hf
      by_cases c159 : ((sc.getD x3.toNatClampNeg 0) &&& (31 : Int32)) = (22 : Int32)
      · rw [if_pos c159] at hf
        refine vi_tableAt 766 c159 dL_law_32 (by decide) (by decide) rfl (by decide) ?_
        refine vi_aload_n 1 dL_law_766 rfl rfl ?_
        obtain ⟨u160, hu160, hf⟩ := vv_bd hf
        refine vi_callV (As := []) (st := []) (t_X4_room n p1 M u160 h1 hu160) rfl yo_X4_room wm_L_106 wi_X4_room ws_X4_room wI_X4 wc_X4_room (vv_bb_o h1) rfl ⟨Nat.le_of_ble_eq_true rfl, Nat.le_of_ble_eq_true rfl⟩ (vv_rmL hrm rfl rfl) (Nat.le_of_ble_eq_true rfl) rfl rfl dL_law_767 ?_
        refine vi_aload_n 2 dL_law_770 rfl rfl ?_
        obtain ⟨u161, hu161, hf⟩ := vv_bd hf
        refine vi_callV (As := []) (st := [.int u160.1]) (t_X5_room n p2 u160.2 u161 h2 hu161) rfl yo_X5_room wm_L_109 wi_X5_room ws_X5_room wI_X5 wc_X5_room (vv_model_o h2) rfl ⟨Nat.le_of_ble_eq_true rfl, Nat.le_of_ble_eq_true rfl⟩ (vv_rmL hrm rfl rfl) (Nat.le_of_ble_eq_true rfl) rfl rfl dL_law_771 ?_
        refine vi_icmp_eq 779 dL_law_774 (by decide) (fun c162 => ?_) (fun c162 => ?_)
        · rw [if_pos c162] at hf
          exact t_L_law_779 n sc hrm (f_L_law_18 n sc k) u ih p1 p2 x3 u161.2 h1 h2 hf
        · rw [if_neg c162] at hf
          refine vi_iconst (v := (0 : Int32)) dL_law_777 (by decide) ?_
          obtain rfl := Option.some.inj hf
          exact vi_ret (v := some (.int (0 : Int32))) rfl ⟨dL_law_778, .boolean, rfl, rfl⟩ ⟨rfl, rfl, rfl⟩
      rw [if_neg c159] at hf
      refine vi_tableOut 779 dL_law_32 (by have nc2 := vv_nk c2 (show (0 : Int32).toInt = 0 from rfl); have nc15 := vv_nk c15 (show (1 : Int32).toInt = 1 from rfl); have nc25 := vv_nk c25 (show (2 : Int32).toInt = 2 from rfl); have nc33 := vv_nk c33 (show (3 : Int32).toInt = 3 from rfl); have nc41 := vv_nk c41 (show (4 : Int32).toInt = 4 from rfl); have nc47 := vv_nk c47 (show (5 : Int32).toInt = 5 from rfl); have nc53 := vv_nk c53 (show (6 : Int32).toInt = 6 from rfl); have nc59 := vv_nk c59 (show (7 : Int32).toInt = 7 from rfl); have nc65 := vv_nk c65 (show (8 : Int32).toInt = 8 from rfl); have nc69 := vv_nk c69 (show (9 : Int32).toInt = 9 from rfl); have nc75 := vv_nk c75 (show (10 : Int32).toInt = 10 from rfl); have nc79 := vv_nk c79 (show (11 : Int32).toInt = 11 from rfl); have nc83 := vv_nk c83 (show (12 : Int32).toInt = 12 from rfl); have nc89 := vv_nk c89 (show (13 : Int32).toInt = 13 from rfl); have nc97 := vv_nk c97 (show (14 : Int32).toInt = 14 from rfl); have nc105 := vv_nk c105 (show (15 : Int32).toInt = 15 from rfl); have nc113 := vv_nk c113 (show (16 : Int32).toInt = 16 from rfl); have nc123 := vv_nk c123 (show (17 : Int32).toInt = 17 from rfl); have nc131 := vv_nk c131 (show (18 : Int32).toInt = 18 from rfl); have nc135 := vv_nk c135 (show (19 : Int32).toInt = 19 from rfl); have nc143 := vv_nk c143 (show (20 : Int32).toInt = 20 from rfl); have nc153 := vv_nk c153 (show (21 : Int32).toInt = 21 from rfl); have nc159 := vv_nk c159 (show (22 : Int32).toInt = 22 from rfl); omega) (by decide) ?_
      exact t_L_law_779 n sc hrm (f_L_law_18 n sc k) u ih p1 p2 x3 M h1 h2 hf
