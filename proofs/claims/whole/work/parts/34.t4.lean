set_option maxRecDepth 20000 in
theorem t_X5_warmUp_274 {S : List vv_Sh} (n : Nat)  (u : Unit × vv_M)  (s0 : Nat) (s1 : Int32) (s2 : Int32) (M : vv_M) (g0 : S[s0]? = some (.inl (0, 13445))) (hf : f_X5_warmUp_274 n  s0 s1 s2 M = some u) : vv_V [] yX5_warmUp.cls yX5_warmUp.name cX5_warmUp 7 none (vv_R 2 0 0) S.length (vv_sz S) (vv_fu S u) 274 [] [.int s2, .int s1, .ref s0] S M := by
  unfold f_X5_warmUp_274 at hf
  obtain ⟨g40, hf⟩ := vv_gd hf
  obtain ⟨M41, eM41, hf⟩ := vv_lt hf
  refine vi_iast g0 g40 eM41.symm dX5_warmUp_274 ?_
  obtain rfl := Option.some.inj hf
  exact vi_ret (v := none) rfl ⟨dX5_warmUp_275, rfl⟩ ⟨rfl, rfl, rfl⟩
set_option maxRecDepth 20000 in
theorem t_X5_warmUp_239 {S : List vv_Sh} (n : Nat)  (u : Unit × vv_M)  (p0 : Nat) (x1 : Int32) (x2 : Int32) (x5 : Int32) (x6 : Int32) (s0 : Nat) (s1 : Int32) (M : vv_M) (h0 : vv_model S p0) (g0 : vv_model S s0) (hf : f_X5_warmUp_239 n  p0 x1 x2 x5 x6 s0 s1 M = some u) : vv_V [] yX5_warmUp.cls yX5_warmUp.name cX5_warmUp 7 none (vv_R 2 0 0) S.length (vv_sz S) (vv_fu S u) 239 [(0, .ref p0), (1, .int x1), (2, .int x2), (5, .int x5), (6, .int x6)] [.int s1, .ref s0] S M := by
  unfold f_X5_warmUp_239 at hf
  refine vi_iload_n 1 dX5_warmUp_239 rfl rfl ?_
  refine vi_iconst (v := (2 : Int32)) dX5_warmUp_240 (by decide) ?_
  refine vi_iload_n 2 dX5_warmUp_241 rfl rfl ?_
  obtain ⟨u36, hu36, hf⟩ := vv_bd hf
  refine vi_callV (As := [.int s1, .int x1, .int (2 : Int32), .int x2]) (st := []) (t_X5_faultIf n s0 s1 x1 (2 : Int32) x2 M u36 g0 hu36) rfl yo_X5_faultIf wm_X5_92 wi_X5_faultIf ws_X5_faultIf wI_X5 wc_X5_faultIf (vv_model_o g0) rfl ⟨Nat.le_of_ble_eq_true rfl, Nat.le_of_ble_eq_true rfl⟩ (vv_rm0 rfl rfl) (Nat.le_of_ble_eq_true rfl) rfl rfl dX5_warmUp_242 ?_
  refine vi_aload_n 0 dX5_warmUp_245 rfl rfl ?_
  refine vi_getr (t := p0 + 1) 0 rfl (vv_model_o h0) rfl wu_X5 (by decide) wf_X5_7 dX5_warmUp_246 ?_
  refine vi_iload_n 1 dX5_warmUp_249 rfl rfl ?_
  refine vi_bipush (v := (9 : Int32)) dX5_warmUp_250 (by decide) ?_
  obtain ⟨u37, hu37, hf⟩ := vv_bd hf
  refine vi_callS (As := [.int x1, .int (9 : Int32)]) (st := [.ref (p0 + 1)]) (t_X5_of n x1 (9 : Int32) u36.2 u37  hu37) rfl yo_X5_of wm_X5_27 wi_X5_of wI_X5 wc_X5_of ⟨Nat.le_of_ble_eq_true rfl, Nat.le_of_ble_eq_true rfl⟩ (vv_rm0 rfl rfl) (Nat.le_of_ble_eq_true rfl) rfl rfl dX5_warmUp_252 ?_
  refine vi_iload 3 dX5_warmUp_255 rfl ?_
  refine vi_if_eq 264 dX5_warmUp_257 (by decide) (fun c38 => ?_) (fun c38 => ?_)
  · rw [if_pos c38] at hf
    refine vi_iload 4 dX5_warmUp_264 rfl ?_
    refine vi_if_eq 273 dX5_warmUp_266 (by decide) (fun c39 => ?_) (fun c39 => ?_)
    · rw [if_pos c39] at hf
      refine vi_iconst (v := (0 : Int32)) dX5_warmUp_273 (by decide) ?_
      refine vi_sub (L' := []) [] rfl ?_
      exact t_X5_warmUp_274 n  u  (p0 + 1) u37.1 (0 : Int32) u37.2 (vv_model_row h0) hf
    · rw [if_neg c39] at hf
      refine vi_iconst (v := (2 : Int32)) dX5_warmUp_269 (by decide) ?_
      refine vi_goto 274 dX5_warmUp_270 (by decide) ?_
      refine vi_sub (L' := []) [] rfl ?_
      exact t_X5_warmUp_274 n  u  (p0 + 1) u37.1 (2 : Int32) u37.2 (vv_model_row h0) hf
  · rw [if_neg c38] at hf
    refine vi_iconst (v := (1 : Int32)) dX5_warmUp_260 (by decide) ?_
    refine vi_goto 274 dX5_warmUp_261 (by decide) ?_
    refine vi_sub (L' := []) [] rfl ?_
    exact t_X5_warmUp_274 n  u  (p0 + 1) u37.1 (1 : Int32) u37.2 (vv_model_row h0) hf
set_option maxRecDepth 20000 in
theorem t_X5_warmUp_202 {S : List vv_Sh} (n : Nat)  (u : Unit × vv_M)  (p0 : Nat) (x1 : Int32) (x2 : Int32) (x4 : Int32) (x5 : Int32) (s0 : Int32) (M : vv_M) (h0 : vv_model S p0) (hf : f_X5_warmUp_202 n  p0 x1 x2 x4 x5 s0 M = some u) : vv_V [] yX5_warmUp.cls yX5_warmUp.name cX5_warmUp 7 none (vv_R 2 0 0) S.length (vv_sz S) (vv_fu S u) 202 [(0, .ref p0), (1, .int x1), (2, .int x2), (4, .int x4), (5, .int x5)] [.int s0] S M := by
  unfold f_X5_warmUp_202 at hf
  refine vi_istore (L' := [(6, .int s0), (0, .ref p0), (1, .int x1), (2, .int x2), (4, .int x4), (5, .int x5)]) dX5_warmUp_202 (by decide) rfl ?_
  refine vi_aload_n 1 dX5_warmUp_204 rfl rfl ?_
  refine vi_iload 5 dX5_warmUp_205 rfl ?_
  refine vi_iload_n 2 dX5_warmUp_207 rfl rfl ?_
  refine vi_iconst (v := (0 : Int32)) dX5_warmUp_208 (by decide) ?_
  refine vi_iload_n 3 dX5_warmUp_209 rfl rfl ?_
  obtain ⟨u32, hu32, hf⟩ := vv_bd hf
  refine vi_callV (As := [.int x5, .int x1, .int (0 : Int32), .int x2]) (st := []) (t_X5_faultIf n p0 x5 x1 (0 : Int32) x2 M u32 h0 hu32) rfl yo_X5_faultIf wm_X5_92 wi_X5_faultIf ws_X5_faultIf wI_X5 wc_X5_faultIf (vv_model_o h0) rfl ⟨Nat.le_of_ble_eq_true rfl, Nat.le_of_ble_eq_true rfl⟩ (vv_rm0 rfl rfl) (Nat.le_of_ble_eq_true rfl) rfl rfl dX5_warmUp_210 ?_
  refine vi_aload_n 1 dX5_warmUp_213 rfl rfl ?_
  refine vi_iload 0 dX5_warmUp_214 rfl ?_
  refine vi_iload_n 2 dX5_warmUp_216 rfl rfl ?_
  refine vi_iconst (v := (1 : Int32)) dX5_warmUp_217 (by decide) ?_
  refine vi_iload_n 3 dX5_warmUp_218 rfl rfl ?_
  obtain ⟨u33, hu33, hf⟩ := vv_bd hf
  refine vi_callV (As := [.int s0, .int x1, .int (1 : Int32), .int x2]) (st := []) (t_X5_faultIf n p0 s0 x1 (1 : Int32) x2 u32.2 u33 h0 hu33) rfl yo_X5_faultIf wm_X5_92 wi_X5_faultIf ws_X5_faultIf wI_X5 wc_X5_faultIf (vv_model_o h0) rfl ⟨Nat.le_of_ble_eq_true rfl, Nat.le_of_ble_eq_true rfl⟩ (vv_rm0 rfl rfl) (Nat.le_of_ble_eq_true rfl) rfl rfl dX5_warmUp_219 ?_
  refine vi_aload_n 1 dX5_warmUp_222 rfl rfl ?_
  refine vi_iload 4 dX5_warmUp_223 rfl ?_
  refine vi_aload_n 1 dX5_warmUp_225 rfl rfl ?_
  refine vi_iload_n 2 dX5_warmUp_226 rfl rfl ?_
  refine vi_iconst (v := (5 : Int32)) dX5_warmUp_227 (by decide) ?_
  obtain ⟨u34, hu34, hf⟩ := vv_bd hf
  refine vi_callV (As := [.int x1, .int (5 : Int32)]) (st := [.int x4, .ref p0]) (t_X5_curveOf n p0 x1 (5 : Int32) u33.2 u34 h0 hu34) rfl yo_X5_curveOf wm_X5_89 wi_X5_curveOf ws_X5_curveOf wI_X5 wc_X5_curveOf (vv_model_o h0) rfl ⟨Nat.le_of_ble_eq_true rfl, Nat.le_of_ble_eq_true rfl⟩ (vv_rm0 rfl rfl) (Nat.le_of_ble_eq_true rfl) rfl rfl dX5_warmUp_228 ?_
  refine vi_icmp_le 238 dX5_warmUp_231 (by decide) (fun c35 => ?_) (fun c35 => ?_)
  · rw [if_pos c35] at hf
    refine vi_iconst (v := (0 : Int32)) dX5_warmUp_238 (by decide) ?_
    refine vi_sub (L' := [(0, .ref p0), (1, .int x1), (2, .int x2), (5, .int x5), (6, .int s0)]) [1, 2, 3, 5, 0] rfl ?_
    exact t_X5_warmUp_239 n  u  p0 x1 x2 x5 s0 p0 (0 : Int32) u34.2 h0 h0 hf
  · rw [if_neg c35] at hf
    refine vi_iconst (v := (1 : Int32)) dX5_warmUp_234 (by decide) ?_
    refine vi_goto 239 dX5_warmUp_235 (by decide) ?_
    refine vi_sub (L' := [(0, .ref p0), (1, .int x1), (2, .int x2), (5, .int x5), (6, .int s0)]) [1, 2, 3, 5, 0] rfl ?_
    exact t_X5_warmUp_239 n  u  p0 x1 x2 x5 s0 p0 (1 : Int32) u34.2 h0 h0 hf
set_option maxRecDepth 20000 in
theorem t_X5_warmUp_175 {S : List vv_Sh} (n : Nat)  (u : Unit × vv_M)  (p0 : Nat) (x1 : Int32) (x2 : Int32) (x4 : Int32) (s0 : Int32) (M : vv_M) (h0 : vv_model S p0) (hf : f_X5_warmUp_175 n  p0 x1 x2 x4 s0 M = some u) : vv_V [] yX5_warmUp.cls yX5_warmUp.name cX5_warmUp 7 none (vv_R 2 0 0) S.length (vv_sz S) (vv_fu S u) 175 [(0, .ref p0), (1, .int x1), (2, .int x2), (4, .int x4)] [.int s0] S M := by
  unfold f_X5_warmUp_175 at hf
  refine vi_istore (L' := [(5, .int s0), (0, .ref p0), (1, .int x1), (2, .int x2), (4, .int x4)]) dX5_warmUp_175 (by decide) rfl ?_
  refine vi_aload_n 1 dX5_warmUp_177 rfl rfl ?_
  refine vi_getr (t := p0 + 1) 0 rfl (vv_model_o h0) rfl wu_X5 (by decide) wf_X5_7 dX5_warmUp_178 ?_
  refine vi_iload_n 2 dX5_warmUp_181 rfl rfl ?_
  refine vi_bipush (v := (7 : Int32)) dX5_warmUp_182 (by decide) ?_
  obtain ⟨u29, hu29, hf⟩ := vv_bd hf
  refine vi_callS (As := [.int x1, .int (7 : Int32)]) (st := [.ref (p0 + 1)]) (t_X5_of n x1 (7 : Int32) M u29  hu29) rfl yo_X5_of wm_X5_27 wi_X5_of wI_X5 wc_X5_of ⟨Nat.le_of_ble_eq_true rfl, Nat.le_of_ble_eq_true rfl⟩ (vv_rm0 rfl rfl) (Nat.le_of_ble_eq_true rfl) rfl rfl dX5_warmUp_184 ?_
  obtain ⟨g42, hf⟩ := vv_gd hf
  refine vi_iald (vv_model_row h0) g42 dX5_warmUp_187 ?_
  refine vi_aload_n 1 dX5_warmUp_188 rfl rfl ?_
  refine vi_iload_n 2 dX5_warmUp_189 rfl rfl ?_
  refine vi_iconst (v := (3 : Int32)) dX5_warmUp_190 (by decide) ?_
  obtain ⟨u30, hu30, hf⟩ := vv_bd hf
  refine vi_callV (As := [.int x1, .int (3 : Int32)]) (st := [.int (u29.2 (p0 + 1) u29.1.toNatClampNeg)]) (t_X5_curveOf n p0 x1 (3 : Int32) u29.2 u30 h0 hu30) rfl yo_X5_curveOf wm_X5_89 wi_X5_curveOf ws_X5_curveOf wI_X5 wc_X5_curveOf (vv_model_o h0) rfl ⟨Nat.le_of_ble_eq_true rfl, Nat.le_of_ble_eq_true rfl⟩ (vv_rm0 rfl rfl) (Nat.le_of_ble_eq_true rfl) rfl rfl dX5_warmUp_191 ?_
  refine vi_icmp_le 201 dX5_warmUp_194 (by decide) (fun c31 => ?_) (fun c31 => ?_)
  · rw [if_pos c31] at hf
    refine vi_iconst (v := (0 : Int32)) dX5_warmUp_201 (by decide) ?_
    refine vi_sub (L' := [(0, .ref p0), (1, .int x1), (2, .int x2), (4, .int x4), (5, .int s0)]) [1, 2, 3, 4, 0] rfl ?_
    exact t_X5_warmUp_202 n  u  p0 x1 x2 x4 s0 (0 : Int32) u30.2 h0 hf
  · rw [if_neg c31] at hf
    refine vi_iconst (v := (1 : Int32)) dX5_warmUp_197 (by decide) ?_
    refine vi_goto 202 dX5_warmUp_198 (by decide) ?_
    refine vi_sub (L' := [(0, .ref p0), (1, .int x1), (2, .int x2), (4, .int x4), (5, .int s0)]) [1, 2, 3, 4, 0] rfl ?_
    exact t_X5_warmUp_202 n  u  p0 x1 x2 x4 s0 (1 : Int32) u30.2 h0 hf
set_option maxRecDepth 20000 in
theorem t_X5_warmUp_158 {S : List vv_Sh} (n : Nat)  (u : Unit × vv_M)  (p0 : Nat) (x1 : Int32) (x2 : Int32) (x3 : Int32) (x4 : Int32) (s0 : Nat) (s1 : Int32) (s2 : Int32) (s3 : Int32) (M : vv_M) (h0 : vv_model S p0) (g0 : S[s0]? = some (.inl (0, 13445))) (hf : f_X5_warmUp_158 n  p0 x1 x2 x3 x4 s0 s1 s2 s3 M = some u) : vv_V [] yX5_warmUp.cls yX5_warmUp.name cX5_warmUp 7 none (vv_R 2 0 0) S.length (vv_sz S) (vv_fu S u) 158 [(0, .ref p0), (1, .int x1), (2, .int x2), (3, .int x3), (4, .int x4)] [.int s3, .int s2, .int s1, .ref s0] S M := by
  unfold f_X5_warmUp_158 at hf
  refine vi_iadd dX5_warmUp_158 ?_
  obtain ⟨g25, hf⟩ := vv_gd hf
  obtain ⟨M26, eM26, hf⟩ := vv_lt hf
  refine vi_iast g0 g25 eM26.symm dX5_warmUp_159 ?_
  refine vi_iload_n 3 dX5_warmUp_160 rfl rfl ?_
  refine vi_aload_n 0 dX5_warmUp_161 rfl rfl ?_
  refine vi_iload_n 1 dX5_warmUp_162 rfl rfl ?_
  refine vi_iconst (v := (0 : Int32)) dX5_warmUp_163 (by decide) ?_
  obtain ⟨u27, hu27, hf⟩ := vv_bd hf
  refine vi_callV (As := [.int x1, .int (0 : Int32)]) (st := [.int x3]) (t_X5_curveOf n p0 x1 (0 : Int32) M26 u27 h0 hu27) rfl yo_X5_curveOf wm_X5_89 wi_X5_curveOf ws_X5_curveOf wI_X5 wc_X5_curveOf (vv_model_o h0) rfl ⟨Nat.le_of_ble_eq_true rfl, Nat.le_of_ble_eq_true rfl⟩ (vv_rm0 rfl rfl) (Nat.le_of_ble_eq_true rfl) rfl rfl dX5_warmUp_164 ?_
  refine vi_icmp_le 174 dX5_warmUp_167 (by decide) (fun c28 => ?_) (fun c28 => ?_)
  · rw [if_pos c28] at hf
    refine vi_iconst (v := (0 : Int32)) dX5_warmUp_174 (by decide) ?_
    refine vi_sub (L' := [(0, .ref p0), (1, .int x1), (2, .int x2), (4, .int x4)]) [0, 1, 2, 4] rfl ?_
    exact t_X5_warmUp_175 n  u  p0 x1 x2 x4 (0 : Int32) u27.2 h0 hf
  · rw [if_neg c28] at hf
    refine vi_iconst (v := (1 : Int32)) dX5_warmUp_170 (by decide) ?_
    refine vi_goto 175 dX5_warmUp_171 (by decide) ?_
    refine vi_sub (L' := [(0, .ref p0), (1, .int x1), (2, .int x2), (4, .int x4)]) [0, 1, 2, 4] rfl ?_
    exact t_X5_warmUp_175 n  u  p0 x1 x2 x4 (1 : Int32) u27.2 h0 hf
set_option maxRecDepth 20000 in
theorem t_X5_warmUp_129 {S : List vv_Sh} (n : Nat)  (u : Unit × vv_M)  (p0 : Nat) (x1 : Int32) (x2 : Int32) (x3 : Int32) (x4 : Int32) (s0 : Nat) (s1 : Int32) (s2 : Int32) (M : vv_M) (h0 : vv_model S p0) (g0 : S[s0]? = some (.inl (0, 13445))) (hf : f_X5_warmUp_129 n  p0 x1 x2 x3 x4 s0 s1 s2 M = some u) : vv_V [] yX5_warmUp.cls yX5_warmUp.name cX5_warmUp 7 none (vv_R 2 0 0) S.length (vv_sz S) (vv_fu S u) 129 [(0, .ref p0), (1, .int x1), (2, .int x2), (3, .int x3), (4, .int x4)] [.int s2, .int s1, .ref s0] S M := by
  unfold f_X5_warmUp_129 at hf
  obtain ⟨g20, hf⟩ := vv_gd hf
  obtain ⟨M21, eM21, hf⟩ := vv_lt hf
  refine vi_iast g0 g20 eM21.symm dX5_warmUp_129 ?_
  refine vi_aload_n 0 dX5_warmUp_130 rfl rfl ?_
  refine vi_getr (t := p0 + 1) 0 rfl (vv_model_o h0) rfl wu_X5 (by decide) wf_X5_7 dX5_warmUp_131 ?_
  refine vi_iload_n 1 dX5_warmUp_134 rfl rfl ?_
  refine vi_bipush (v := (7 : Int32)) dX5_warmUp_135 (by decide) ?_
  obtain ⟨u22, hu22, hf⟩ := vv_bd hf
  refine vi_callS (As := [.int x1, .int (7 : Int32)]) (st := [.ref (p0 + 1)]) (t_X5_of n x1 (7 : Int32) M21 u22  hu22) rfl yo_X5_of wm_X5_27 wi_X5_of wI_X5 wc_X5_of ⟨Nat.le_of_ble_eq_true rfl, Nat.le_of_ble_eq_true rfl⟩ (vv_rm0 rfl rfl) (Nat.le_of_ble_eq_true rfl) rfl rfl dX5_warmUp_137 ?_
  refine vi_dup2 dX5_warmUp_140 rfl rfl ?_
  obtain ⟨g43, hf⟩ := vv_gd hf
  refine vi_iald (vv_model_row h0) g43 dX5_warmUp_141 ?_
  refine vi_iload 4 dX5_warmUp_142 rfl ?_
  refine vi_aload_n 0 dX5_warmUp_144 rfl rfl ?_
  refine vi_iload_n 1 dX5_warmUp_145 rfl rfl ?_
  refine vi_iconst (v := (1 : Int32)) dX5_warmUp_146 (by decide) ?_
  obtain ⟨u23, hu23, hf⟩ := vv_bd hf
  refine vi_callV (As := [.int x1, .int (1 : Int32)]) (st := [.int x4, .int (u22.2 (p0 + 1) u22.1.toNatClampNeg), .int u22.1, .ref (p0 + 1)]) (t_X5_curveOf n p0 x1 (1 : Int32) u22.2 u23 h0 hu23) rfl yo_X5_curveOf wm_X5_89 wi_X5_curveOf ws_X5_curveOf wI_X5 wc_X5_curveOf (vv_model_o h0) rfl ⟨Nat.le_of_ble_eq_true rfl, Nat.le_of_ble_eq_true rfl⟩ (vv_rm0 rfl rfl) (Nat.le_of_ble_eq_true rfl) rfl rfl dX5_warmUp_147 ?_
  refine vi_icmp_le 157 dX5_warmUp_150 (by decide) (fun c24 => ?_) (fun c24 => ?_)
  · rw [if_pos c24] at hf
    refine vi_iconst (v := (0 : Int32)) dX5_warmUp_157 (by decide) ?_
    exact t_X5_warmUp_158 n  u  p0 x1 x2 x3 x4 (p0 + 1) u22.1 (u22.2 (p0 + 1) u22.1.toNatClampNeg) (0 : Int32) u23.2 h0 (vv_model_row h0) hf
  · rw [if_neg c24] at hf
    refine vi_iconst (v := (1 : Int32)) dX5_warmUp_153 (by decide) ?_
    refine vi_goto 158 dX5_warmUp_154 (by decide) ?_
    exact t_X5_warmUp_158 n  u  p0 x1 x2 x3 x4 (p0 + 1) u22.1 (u22.2 (p0 + 1) u22.1.toNatClampNeg) (1 : Int32) u23.2 h0 (vv_model_row h0) hf
set_option maxRecDepth 20000 in
theorem t_X5_warmUp_87 {S : List vv_Sh} (n : Nat)  (u : Unit × vv_M)  (p0 : Nat) (x1 : Int32) (x2 : Int32) (x3 : Int32) (x4 : Int32) (M : vv_M) (h0 : vv_model S p0) (hf : f_X5_warmUp_87 n  p0 x1 x2 x3 x4 M = some u) : vv_V [] yX5_warmUp.cls yX5_warmUp.name cX5_warmUp 7 none (vv_R 2 0 0) S.length (vv_sz S) (vv_fu S u) 87 [(0, .ref p0), (1, .int x1), (2, .int x2), (3, .int x3), (4, .int x4)] [] S M := by
  unfold f_X5_warmUp_87 at hf
  refine vi_aload_n 0 dX5_warmUp_87 rfl rfl ?_
  refine vi_getr (t := p0 + 1) 0 rfl (vv_model_o h0) rfl wu_X5 (by decide) wf_X5_7 dX5_warmUp_88 ?_
  refine vi_iload_n 1 dX5_warmUp_91 rfl rfl ?_
  refine vi_bipush (v := (6 : Int32)) dX5_warmUp_92 (by decide) ?_
  obtain ⟨u16, hu16, hf⟩ := vv_bd hf
  refine vi_callS (As := [.int x1, .int (6 : Int32)]) (st := [.ref (p0 + 1)]) (t_X5_of n x1 (6 : Int32) M u16  hu16) rfl yo_X5_of wm_X5_27 wi_X5_of wI_X5 wc_X5_of ⟨Nat.le_of_ble_eq_true rfl, Nat.le_of_ble_eq_true rfl⟩ (vv_rm0 rfl rfl) (Nat.le_of_ble_eq_true rfl) rfl rfl dX5_warmUp_94 ?_
  refine vi_iload 4 dX5_warmUp_97 rfl ?_
  refine vi_aload_n 0 dX5_warmUp_99 rfl rfl ?_
  refine vi_getr (t := p0 + 1) 0 rfl (vv_model_o h0) rfl wu_X5 (by decide) wf_X5_7 dX5_warmUp_100 ?_
  refine vi_iload_n 1 dX5_warmUp_103 rfl rfl ?_
  refine vi_bipush (v := (6 : Int32)) dX5_warmUp_104 (by decide) ?_
  obtain ⟨u17, hu17, hf⟩ := vv_bd hf
  refine vi_callS (As := [.int x1, .int (6 : Int32)]) (st := [.ref (p0 + 1), .int x4, .int u16.1, .ref (p0 + 1)]) (t_X5_of n x1 (6 : Int32) u16.2 u17  hu17) rfl yo_X5_of wm_X5_27 wi_X5_of wI_X5 wc_X5_of ⟨Nat.le_of_ble_eq_true rfl, Nat.le_of_ble_eq_true rfl⟩ (vv_rm0 rfl rfl) (Nat.le_of_ble_eq_true rfl) rfl rfl dX5_warmUp_106 ?_
  obtain ⟨g45, hf⟩ := vv_gd hf
  refine vi_iald (vv_model_row h0) g45 dX5_warmUp_109 ?_
  refine vi_icmp_le 118 dX5_warmUp_110 (by decide) (fun c18 => ?_) (fun c18 => ?_)
  · rw [if_pos c18] at hf
    refine vi_aload_n 0 dX5_warmUp_118 rfl rfl ?_
    refine vi_getr (t := p0 + 1) 0 rfl (vv_model_o h0) rfl wu_X5 (by decide) wf_X5_7 dX5_warmUp_119 ?_
    refine vi_iload_n 1 dX5_warmUp_122 rfl rfl ?_
    refine vi_bipush (v := (6 : Int32)) dX5_warmUp_123 (by decide) ?_
    obtain ⟨u19, hu19, hf⟩ := vv_bd hf
    refine vi_callS (As := [.int x1, .int (6 : Int32)]) (st := [.ref (p0 + 1), .int u16.1, .ref (p0 + 1)]) (t_X5_of n x1 (6 : Int32) u17.2 u19  hu19) rfl yo_X5_of wm_X5_27 wi_X5_of wI_X5 wc_X5_of ⟨Nat.le_of_ble_eq_true rfl, Nat.le_of_ble_eq_true rfl⟩ (vv_rm0 rfl rfl) (Nat.le_of_ble_eq_true rfl) rfl rfl dX5_warmUp_125 ?_
    obtain ⟨g44, hf⟩ := vv_gd hf
    refine vi_iald (vv_model_row h0) g44 dX5_warmUp_128 ?_
    exact t_X5_warmUp_129 n  u  p0 x1 x2 x3 x4 (p0 + 1) u16.1 (u19.2 (p0 + 1) u19.1.toNatClampNeg) u19.2 h0 (vv_model_row h0) hf
  · rw [if_neg c18] at hf
    refine vi_iload 4 dX5_warmUp_113 rfl ?_
    refine vi_goto 129 dX5_warmUp_115 (by decide) ?_
    exact t_X5_warmUp_129 n  u  p0 x1 x2 x3 x4 (p0 + 1) u16.1 x4 u17.2 h0 (vv_model_row h0) hf
set_option maxRecDepth 20000 in
theorem t_X5_warmUp_50 {S : List vv_Sh} (n : Nat)  (u : Unit × vv_M)  (p0 : Nat) (x1 : Int32) (x2 : Int32) (x3 : Int32) (M : vv_M) (h0 : vv_model S p0) (hf : f_X5_warmUp_50 n  p0 x1 x2 x3 M = some u) : vv_V [] yX5_warmUp.cls yX5_warmUp.name cX5_warmUp 7 none (vv_R 2 0 0) S.length (vv_sz S) (vv_fu S u) 50 [(0, .ref p0), (1, .int x1), (2, .int x2), (3, .int x3)] [] S M := by
  unfold f_X5_warmUp_50 at hf
  refine vi_aload_n 0 dX5_warmUp_50 rfl rfl ?_
  refine vi_getr (t := p0 + 1) 0 rfl (vv_model_o h0) rfl wu_X5 (by decide) wf_X5_7 dX5_warmUp_51 ?_
  refine vi_iload_n 1 dX5_warmUp_54 rfl rfl ?_
  refine vi_iconst (v := (4 : Int32)) dX5_warmUp_55 (by decide) ?_
  obtain ⟨u8, hu8, hf⟩ := vv_bd hf
  refine vi_callS (As := [.int x1, .int (4 : Int32)]) (st := [.ref (p0 + 1)]) (t_X5_of n x1 (4 : Int32) M u8  hu8) rfl yo_X5_of wm_X5_27 wi_X5_of wI_X5 wc_X5_of ⟨Nat.le_of_ble_eq_true rfl, Nat.le_of_ble_eq_true rfl⟩ (vv_rm0 rfl rfl) (Nat.le_of_ble_eq_true rfl) rfl rfl dX5_warmUp_56 ?_
  obtain ⟨g46, hf⟩ := vv_gd hf
  refine vi_iald (vv_model_row h0) g46 dX5_warmUp_59 ?_
  refine vi_iload_n 3 dX5_warmUp_60 rfl rfl ?_
  refine vi_iadd dX5_warmUp_61 ?_
  obtain ⟨y9, ey9, hf⟩ := vv_lt hf
  refine vi_istore (L' := [(4, .int y9), (0, .ref p0), (1, .int x1), (2, .int x2), (3, .int x3)]) dX5_warmUp_62 (by decide) (by rw [ey9]; rfl) ?_
  refine vi_aload_n 1 dX5_warmUp_64 rfl rfl ?_
  refine vi_getr (t := p0 + 1) 0 rfl (vv_model_o h0) rfl wu_X5 (by decide) wf_X5_7 dX5_warmUp_65 ?_
  refine vi_iload_n 2 dX5_warmUp_68 rfl rfl ?_
  refine vi_iconst (v := (5 : Int32)) dX5_warmUp_69 (by decide) ?_
  obtain ⟨u10, hu10, hf⟩ := vv_bd hf
  refine vi_callS (As := [.int x1, .int (5 : Int32)]) (st := [.ref (p0 + 1)]) (t_X5_of n x1 (5 : Int32) u8.2 u10  hu10) rfl yo_X5_of wm_X5_27 wi_X5_of wI_X5 wc_X5_of ⟨Nat.le_of_ble_eq_true rfl, Nat.le_of_ble_eq_true rfl⟩ (vv_rm0 rfl rfl) (Nat.le_of_ble_eq_true rfl) rfl rfl dX5_warmUp_70 ?_
  refine vi_iload_n 4 dX5_warmUp_73 rfl rfl ?_
  obtain ⟨g11, hf⟩ := vv_gd hf
  obtain ⟨M12, eM12, hf⟩ := vv_lt hf
  refine vi_iast (vv_model_row h0) g11 eM12.symm dX5_warmUp_74 ?_
  refine vi_aload_n 1 dX5_warmUp_75 rfl rfl ?_
  refine vi_getr (t := p0 + 1) 0 rfl (vv_model_o h0) rfl wu_X5 (by decide) wf_X5_7 dX5_warmUp_76 ?_
  refine vi_iload_n 2 dX5_warmUp_79 rfl rfl ?_
  refine vi_iconst (v := (4 : Int32)) dX5_warmUp_80 (by decide) ?_
  obtain ⟨u13, hu13, hf⟩ := vv_bd hf
  refine vi_callS (As := [.int x1, .int (4 : Int32)]) (st := [.ref (p0 + 1)]) (t_X5_of n x1 (4 : Int32) M12 u13  hu13) rfl yo_X5_of wm_X5_27 wi_X5_of wI_X5 wc_X5_of ⟨Nat.le_of_ble_eq_true rfl, Nat.le_of_ble_eq_true rfl⟩ (vv_rm0 rfl rfl) (Nat.le_of_ble_eq_true rfl) rfl rfl dX5_warmUp_81 ?_
  refine vi_iload 0 dX5_warmUp_84 rfl ?_
  obtain ⟨g14, hf⟩ := vv_gd hf
  obtain ⟨M15, eM15, hf⟩ := vv_lt hf
  refine vi_iast (vv_model_row h0) g14 eM15.symm dX5_warmUp_86 ?_
  refine vi_sub (L' := [(0, .ref p0), (1, .int x1), (2, .int x2), (3, .int x3), (4, .int y9)]) [1, 2, 3, 4, 0] rfl ?_
  exact t_X5_warmUp_87 n  u  p0 x1 x2 x3 y9 M15 h0 hf
set_option maxRecDepth 20000 in
theorem t_X5_warmUp {S : List vv_Sh} (n : Nat) (p0 : Nat) (x1 : Int32) (M : vv_M) (u : Unit × vv_M) (h0 : vv_model S p0) (hf : f_X5_warmUp n p0 x1 M = some u) : vv_C yX5_warmUp (vv_w yX5_warmUp cX5_warmUp 7 none) (vv_R 2 0 0) [.ref p0, .int x1] S M none S u.2 := by
  refine vv_ofV (by decide +kernel) (Nat.le_of_ble_eq_true rfl) (L := [(0, .ref p0), (1, .int x1)]) rfl rfl rfl ?_
  show vv_V [] yX5_warmUp.cls yX5_warmUp.name cX5_warmUp 7 none (vv_R 2 0 0) S.length (vv_sz S) (vv_fu S u) 0 [(0, .ref p0), (1, .int x1)] [] S M
  unfold f_X5_warmUp at hf
  refine vi_aload_n 0 dX5_warmUp_0 rfl rfl ?_
  refine vi_getr (t := p0 + 1) 0 rfl (vv_model_o h0) rfl wu_X5 (by decide) wf_X5_7 dX5_warmUp_1 ?_
  refine vi_iload_n 1 dX5_warmUp_4 rfl rfl ?_
  refine vi_iconst (v := (3 : Int32)) dX5_warmUp_5 (by decide) ?_
  obtain ⟨u1, hu1, hf⟩ := vv_bd hf
  refine vi_callS (As := [.int x1, .int (3 : Int32)]) (st := [.ref (p0 + 1)]) (t_X5_of n x1 (3 : Int32) M u1  hu1) rfl yo_X5_of wm_X5_27 wi_X5_of wI_X5 wc_X5_of ⟨Nat.le_of_ble_eq_true rfl, Nat.le_of_ble_eq_true rfl⟩ (vv_rm0 rfl rfl) (Nat.le_of_ble_eq_true rfl) rfl rfl dX5_warmUp_6 ?_
  obtain ⟨g51, hf⟩ := vv_gd hf
  refine vi_iald (vv_model_row h0) g51 dX5_warmUp_9 ?_
  obtain ⟨y2, ey2, hf⟩ := vv_lt hf
  refine vi_istore_n (L' := [(2, .int y2), (0, .ref p0), (1, .int x1)]) dX5_warmUp_10 rfl (by decide) (by rw [ey2]; rfl) ?_
  refine vi_aload_n 1 dX5_warmUp_11 rfl rfl ?_
  refine vi_getr (t := p0 + 1) 0 rfl (vv_model_o h0) rfl wu_X5 (by decide) wf_X5_7 dX5_warmUp_12 ?_
  refine vi_aload_n 1 dX5_warmUp_15 rfl rfl ?_
  refine vi_iload_n 0 dX5_warmUp_16 rfl rfl ?_
  obtain ⟨u3, hu3, hf⟩ := vv_bd hf
  refine vi_callV (As := [.int y2]) (st := [.ref (p0 + 1)]) (t_X5_zoneOf n p0 y2 u1.2 u3 h0 hu3) rfl yo_X5_zoneOf wm_X5_96 wi_X5_zoneOf ws_X5_zoneOf wI_X5 wc_X5_zoneOf (vv_model_o h0) rfl ⟨Nat.le_of_ble_eq_true rfl, Nat.le_of_ble_eq_true rfl⟩ (vv_rm0 rfl rfl) (Nat.le_of_ble_eq_true rfl) rfl rfl dX5_warmUp_17 ?_
  refine vi_iconst (v := (3 : Int32)) dX5_warmUp_20 (by decide) ?_
  obtain ⟨u4, hu4, hf⟩ := vv_bd hf
  refine vi_callS (As := [.int u3.1, .int (3 : Int32)]) (st := [.ref (p0 + 1)]) (t_X5_ofZone n u3.1 (3 : Int32) u3.2 u4  hu4) rfl yo_X5_ofZone wm_X5_16 wi_X5_ofZone wI_X5 wc_X5_ofZone ⟨Nat.le_of_ble_eq_true rfl, Nat.le_of_ble_eq_true rfl⟩ (vv_rm0 rfl rfl) (Nat.le_of_ble_eq_true rfl) rfl rfl dX5_warmUp_21 ?_
  obtain ⟨g50, hf⟩ := vv_gd hf
  refine vi_iald (vv_model_row h0) g50 dX5_warmUp_24 ?_
  refine vi_aload_n 1 dX5_warmUp_25 rfl rfl ?_
  refine vi_getr (t := p0 + 1) 0 rfl (vv_model_o h0) rfl wu_X5 (by decide) wf_X5_7 dX5_warmUp_26 ?_
  refine vi_iload_n 2 dX5_warmUp_29 rfl rfl ?_
  refine vi_iconst (v := (4 : Int32)) dX5_warmUp_30 (by decide) ?_
  obtain ⟨u5, hu5, hf⟩ := vv_bd hf
  refine vi_callS (As := [.int x1, .int (4 : Int32)]) (st := [.ref (p0 + 1), .int (u4.2 (p0 + 1) u4.1.toNatClampNeg)]) (t_X5_of n x1 (4 : Int32) u4.2 u5  hu5) rfl yo_X5_of wm_X5_27 wi_X5_of wI_X5 wc_X5_of ⟨Nat.le_of_ble_eq_true rfl, Nat.le_of_ble_eq_true rfl⟩ (vv_rm0 rfl rfl) (Nat.le_of_ble_eq_true rfl) rfl rfl dX5_warmUp_31 ?_
  obtain ⟨g49, hf⟩ := vv_gd hf
  refine vi_iald (vv_model_row h0) g49 dX5_warmUp_34 ?_
  refine vi_isub dX5_warmUp_35 ?_
  refine vi_aload_n 1 dX5_warmUp_36 rfl rfl ?_
  refine vi_getr (t := p0 + 1) 0 rfl (vv_model_o h0) rfl wu_X5 (by decide) wf_X5_7 dX5_warmUp_37 ?_
  refine vi_iload_n 2 dX5_warmUp_40 rfl rfl ?_
  refine vi_iconst (v := (1 : Int32)) dX5_warmUp_41 (by decide) ?_
  obtain ⟨u6, hu6, hf⟩ := vv_bd hf
  refine vi_callS (As := [.int x1, .int (1 : Int32)]) (st := [.ref (p0 + 1), .int ((u4.2 (p0 + 1) u4.1.toNatClampNeg) - (u5.2 (p0 + 1) u5.1.toNatClampNeg))]) (t_X5_of n x1 (1 : Int32) u5.2 u6  hu6) rfl yo_X5_of wm_X5_27 wi_X5_of wI_X5 wc_X5_of ⟨Nat.le_of_ble_eq_true rfl, Nat.le_of_ble_eq_true rfl⟩ (vv_rm0 rfl rfl) (Nat.le_of_ble_eq_true rfl) rfl rfl dX5_warmUp_42 ?_
  obtain ⟨g48, hf⟩ := vv_gd hf
  refine vi_iald (vv_model_row h0) g48 dX5_warmUp_45 ?_
  refine vi_iconst (v := (1 : Int32)) dX5_warmUp_46 (by decide) ?_
  refine vi_iadd dX5_warmUp_47 ?_
  obtain ⟨g47, hf⟩ := vv_gd hf
  refine vi_idiv dX5_warmUp_48 g47 ?_
  obtain ⟨y7, ey7, hf⟩ := vv_lt hf
  refine vi_istore_n (L' := [(3, .int y7), (2, .int y2), (0, .ref p0), (1, .int x1)]) dX5_warmUp_49 rfl (by decide) (by rw [ey7]; rfl) ?_
  refine vi_sub (L' := [(0, .ref p0), (1, .int x1), (2, .int y2), (3, .int y7)]) [2, 3, 1, 0] rfl ?_
  exact t_X5_warmUp_50 n  u  p0 x1 y2 y7 u6.2 h0 hf
set_option maxRecDepth 20000 in
theorem t_X5_hear_144 {S : List vv_Sh} (n : Nat)  (u : Unit × vv_M)  (p0 : Nat) (x1 : Int32) (M : vv_M) (h0 : vv_model S p0) (hf : f_X5_hear_144 n  p0 x1 M = some u) : vv_V [] yX5_hear.cls yX5_hear.name cX5_hear 4 none (vv_R 2 0 0) S.length (vv_sz S) (vv_fu S u) 144 [(0, .ref p0), (1, .int x1)] [] S M := by
  unfold f_X5_hear_144 at hf
  refine vi_iload_n 1 dX5_hear_144 rfl rfl ?_
  refine vi_ineg dX5_hear_145 ?_
  refine vi_aload_n 0 dX5_hear_146 rfl rfl ?_
  refine vi_getr (t := p0 + 1) 0 rfl (vv_model_o h0) rfl wu_X5 (by decide) wf_X5_7 dX5_hear_147 ?_
  refine vi_bipush (v := (50 : Int32)) dX5_hear_150 (by decide) ?_
  obtain ⟨g13, hf⟩ := vv_gd hf
  refine vi_iald (vv_model_row h0) g13 dX5_hear_152 ?_
  refine vi_icmp_lt 189 dX5_hear_153 (by decide) (fun c4 => ?_) (fun c4 => ?_)
  · rw [if_pos c4] at hf
    obtain rfl := Option.some.inj hf
    exact vi_ret (v := none) rfl ⟨dX5_hear_189, rfl⟩ ⟨rfl, rfl, rfl⟩
  · rw [if_neg c4] at hf
    refine vi_aload_n 0 dX5_hear_156 rfl rfl ?_
    refine vi_getr (t := p0 + 1) 0 rfl (vv_model_o h0) rfl wu_X5 (by decide) wf_X5_7 dX5_hear_157 ?_
    refine vi_bipush (v := (48 : Int32)) dX5_hear_160 (by decide) ?_
    obtain ⟨g12, hf⟩ := vv_gd hf
    refine vi_iald (vv_model_row h0) g12 dX5_hear_162 ?_
    refine vi_iconst (v := (3 : Int32)) dX5_hear_163 (by decide) ?_
    refine vi_icmp_ge 189 dX5_hear_164 (by decide) (fun c5 => ?_) (fun c5 => ?_)
    · rw [if_pos c5] at hf
      obtain rfl := Option.some.inj hf
      exact vi_ret (v := none) rfl ⟨dX5_hear_189, rfl⟩ ⟨rfl, rfl, rfl⟩
    · rw [if_neg c5] at hf
      refine vi_aload_n 0 dX5_hear_167 rfl rfl ?_
      refine vi_getr (t := p0 + 1) 0 rfl (vv_model_o h0) rfl wu_X5 (by decide) wf_X5_7 dX5_hear_168 ?_
      refine vi_bipush (v := (48 : Int32)) dX5_hear_171 (by decide) ?_
      refine vi_dup2 dX5_hear_173 rfl rfl ?_
      obtain ⟨g11, hf⟩ := vv_gd hf
      refine vi_iald (vv_model_row h0) g11 dX5_hear_174 ?_
      refine vi_iconst (v := (1 : Int32)) dX5_hear_175 (by decide) ?_
      refine vi_iadd dX5_hear_176 ?_
      obtain ⟨g6, hf⟩ := vv_gd hf
      obtain ⟨M7, eM7, hf⟩ := vv_lt hf
      refine vi_iast (vv_model_row h0) g6 eM7.symm dX5_hear_177 ?_
      refine vi_aload_n 0 dX5_hear_178 rfl rfl ?_
      refine vi_getr (t := p0 + 1) 0 rfl (vv_model_o h0) rfl wu_X5 (by decide) wf_X5_7 dX5_hear_179 ?_
      refine vi_bipush (v := (55 : Int32)) dX5_hear_182 (by decide) ?_
      refine vi_dup2 dX5_hear_184 rfl rfl ?_
      obtain ⟨g10, hf⟩ := vv_gd hf
      refine vi_iald (vv_model_row h0) g10 dX5_hear_185 ?_
      refine vi_iconst (v := (1 : Int32)) dX5_hear_186 (by decide) ?_
      refine vi_iadd dX5_hear_187 ?_
      obtain ⟨g8, hf⟩ := vv_gd hf
      obtain ⟨M9, eM9, hf⟩ := vv_lt hf
      refine vi_iast (vv_model_row h0) g8 eM9.symm dX5_hear_188 ?_
      obtain rfl := Option.some.inj hf
      exact vi_ret (v := none) rfl ⟨dX5_hear_189, rfl⟩ ⟨rfl, rfl, rfl⟩
set_option maxRecDepth 20000 in
theorem t_X5_hear_78 {S : List vv_Sh} (n : Nat) (k4 : Nat → Int32 → Int32 → vv_M → Option (Unit × vv_M)) (u : Unit × vv_M) (hk4 : ∀ (p0 : Nat) (x1 : Int32) (x2 : Int32) (M : vv_M) (h0 : vv_model S p0) (hf : k4 p0 x1 x2 M = some u), vv_V [] yX5_hear.cls yX5_hear.name cX5_hear 4 none (vv_R 2 0 0) S.length (vv_sz S) (vv_fu S u) 4 [(0, .ref p0), (1, .int x1), (2, .int x2)] [] S M) (p0 : Nat) (x2 : Int32) (s0 : Int32) (s1 : Int32) (M : vv_M) (h0 : vv_model S p0) (hf : f_X5_hear_78 n k4 p0 x2 s0 s1 M = some u) : vv_V [] yX5_hear.cls yX5_hear.name cX5_hear 4 none (vv_R 2 0 0) S.length (vv_sz S) (vv_fu S u) 78 [(0, .ref p0), (2, .int x2)] [.int s1, .int s0] S M := by
  unfold f_X5_hear_78 at hf
  refine vi_iadd dX5_hear_78 ?_
  obtain ⟨y28, ey28, hf⟩ := vv_lt hf
  refine vi_istore_n (L' := [(1, .int y28), (0, .ref p0), (2, .int x2)]) dX5_hear_79 rfl (by decide) (by rw [ey28]; rfl) ?_
  obtain ⟨y29, ey29, hf⟩ := vv_lt hf
  refine vi_iinc (v := y29) (L' := [(2, .int y29), (1, .int y28), (0, .ref p0)]) 2 dX5_hear_80 rfl (by rw [ey29]; rfl) (by decide) rfl ?_
  refine vi_goto 4 dX5_hear_83 (by decide) ?_
  refine vi_sub (L' := [(0, .ref p0), (1, .int y28), (2, .int y29)]) [2, 1, 0] rfl ?_
  exact hk4 p0 y28 y29 M h0 hf
set_option maxRecDepth 20000 in
theorem t_X5_hear_38 {S : List vv_Sh} (n : Nat) (k4 : Nat → Int32 → Int32 → vv_M → Option (Unit × vv_M)) (u : Unit × vv_M) (hk4 : ∀ (p0 : Nat) (x1 : Int32) (x2 : Int32) (M : vv_M) (h0 : vv_model S p0) (hf : k4 p0 x1 x2 M = some u), vv_V [] yX5_hear.cls yX5_hear.name cX5_hear 4 none (vv_R 2 0 0) S.length (vv_sz S) (vv_fu S u) 4 [(0, .ref p0), (1, .int x1), (2, .int x2)] [] S M) (p0 : Nat) (x1 : Int32) (x2 : Int32) (s0 : Int32) (M : vv_M) (h0 : vv_model S p0) (hf : f_X5_hear_38 n k4 p0 x1 x2 s0 M = some u) : vv_V [] yX5_hear.cls yX5_hear.name cX5_hear 4 none (vv_R 2 0 0) S.length (vv_sz S) (vv_fu S u) 38 [(0, .ref p0), (1, .int x1), (2, .int x2)] [.int s0] S M := by
  unfold f_X5_hear_38 at hf
  refine vi_istore_n (L' := [(3, .int s0), (0, .ref p0), (1, .int x1), (2, .int x2)]) dX5_hear_38 rfl (by decide) rfl ?_
  refine vi_iload_n 2 dX5_hear_39 rfl rfl ?_
  refine vi_iload_n 0 dX5_hear_40 rfl rfl ?_
  refine vi_iconst (v := (1 : Int32)) dX5_hear_41 (by decide) ?_
  refine vi_icmp_ne 58 dX5_hear_42 (by decide) (fun c26 => ?_) (fun c26 => ?_)
  · rw [if_neg c26] at hf
    refine vi_iload_n 0 dX5_hear_58 rfl rfl ?_
    refine vi_iconst (v := (2 : Int32)) dX5_hear_59 (by decide) ?_
    refine vi_icmp_ne 77 dX5_hear_60 (by decide) (fun c27 => ?_) (fun c27 => ?_)
    · rw [if_neg c27] at hf
      refine vi_iconst (v := (0 : Int32)) dX5_hear_77 (by decide) ?_
      refine vi_sub (L' := [(0, .ref p0), (2, .int x2)]) [1, 3] rfl ?_
      exact t_X5_hear_78 n k4 u hk4 p0 x2 x1 (0 : Int32) M h0 hf
    · rw [if_pos c27] at hf
      refine vi_aload_n 1 dX5_hear_63 rfl rfl ?_
      refine vi_getr (t := p0 + 1) 0 rfl (vv_model_o h0) rfl wu_X5 (by decide) wf_X5_7 dX5_hear_64 ?_
      refine vi_iload_n 3 dX5_hear_67 rfl rfl ?_
      refine vi_iconst (v := (1 : Int32)) dX5_hear_68 (by decide) ?_
      obtain ⟨u30, hu30, hf⟩ := vv_bd hf
      refine vi_callS (As := [.int x2, .int (1 : Int32)]) (st := [.ref (p0 + 1), .int x1]) (t_X5_of n x2 (1 : Int32) M u30  hu30) rfl yo_X5_of wm_X5_27 wi_X5_of wI_X5 wc_X5_of ⟨Nat.le_of_ble_eq_true rfl, Nat.le_of_ble_eq_true rfl⟩ (vv_rm0 rfl rfl) (Nat.le_of_ble_eq_true rfl) rfl rfl dX5_hear_69 ?_
      obtain ⟨g31, hf⟩ := vv_gd hf
      refine vi_iald (vv_model_row h0) g31 dX5_hear_72 ?_
      refine vi_ineg dX5_hear_73 ?_
      refine vi_goto 78 dX5_hear_74 (by decide) ?_
      refine vi_sub (L' := [(0, .ref p0), (2, .int x2)]) [1, 3] rfl ?_
      exact t_X5_hear_78 n k4 u hk4 p0 x2 x1 (-(u30.2 (p0 + 1) u30.1.toNatClampNeg)) u30.2 h0 hf
  · rw [if_pos c26] at hf
    refine vi_aload_n 1 dX5_hear_45 rfl rfl ?_
    refine vi_getr (t := p0 + 1) 0 rfl (vv_model_o h0) rfl wu_X5 (by decide) wf_X5_7 dX5_hear_46 ?_
    refine vi_iload_n 3 dX5_hear_49 rfl rfl ?_
    refine vi_iconst (v := (1 : Int32)) dX5_hear_50 (by decide) ?_
    obtain ⟨u32, hu32, hf⟩ := vv_bd hf
    refine vi_callS (As := [.int x2, .int (1 : Int32)]) (st := [.ref (p0 + 1), .int x1]) (t_X5_of n x2 (1 : Int32) M u32  hu32) rfl yo_X5_of wm_X5_27 wi_X5_of wI_X5 wc_X5_of ⟨Nat.le_of_ble_eq_true rfl, Nat.le_of_ble_eq_true rfl⟩ (vv_rm0 rfl rfl) (Nat.le_of_ble_eq_true rfl) rfl rfl dX5_hear_51 ?_
    obtain ⟨g33, hf⟩ := vv_gd hf
    refine vi_iald (vv_model_row h0) g33 dX5_hear_54 ?_
    refine vi_goto 78 dX5_hear_55 (by decide) ?_
    refine vi_sub (L' := [(0, .ref p0), (2, .int x2)]) [1, 3] rfl ?_
    exact t_X5_hear_78 n k4 u hk4 p0 x2 x1 (u32.2 (p0 + 1) u32.1.toNatClampNeg) u32.2 h0 hf
set_option maxRecDepth 20000 in
theorem t_X5_hear_4 {S : List vv_Sh} (n : Nat)  (u : Unit × vv_M)  : ∀ (k : Nat) (p0 : Nat) (x1 : Int32) (x2 : Int32) (M : vv_M) (h0 : vv_model S p0) (hf : f_X5_hear_4 n  k p0 x1 x2 M = some u), vv_V [] yX5_hear.cls yX5_hear.name cX5_hear 4 none (vv_R 2 0 0) S.length (vv_sz S) (vv_fu S u) 4 [(0, .ref p0), (1, .int x1), (2, .int x2)] [] S M := by
  intro k
  induction k with
  | zero =>
    intro p0 x1 x2 M h0 hf
    exact absurd (show (none : Option (Unit × vv_M)) = some u from hf) (by simp)
  | succ k ih =>
    intro p0 x1 x2 M h0 hf
    rw [f_X5_hear_4.eq_2] at hf
    refine vi_iload_n 2 dX5_hear_4 rfl rfl ?_
    refine vi_aload_n 0 dX5_hear_5 rfl rfl ?_
    refine vi_getr (t := p0 + 1) 0 rfl (vv_model_o h0) rfl wu_X5 (by decide) wf_X5_7 dX5_hear_6 ?_
    refine vi_bipush (v := (53 : Int32)) dX5_hear_9 (by decide) ?_
    obtain ⟨g36, hf⟩ := vv_gd hf
    refine vi_iald (vv_model_row h0) g36 dX5_hear_11 ?_
    refine vi_icmp_ge 86 dX5_hear_12 (by decide) (fun c1 => ?_) (fun c1 => ?_)
    · rw [if_pos c1] at hf
      refine vi_aload_n 0 dX5_hear_86 rfl rfl ?_
      refine vi_getr (t := p0 + 1) 0 rfl (vv_model_o h0) rfl wu_X5 (by decide) wf_X5_7 dX5_hear_87 ?_
      refine vi_bipush (v := (50 : Int32)) dX5_hear_90 (by decide) ?_
      obtain ⟨g23, hf⟩ := vv_gd hf
      refine vi_iald (vv_model_row h0) g23 dX5_hear_92 ?_
      refine vi_if_ne 97 dX5_hear_93 (by decide) (fun c2 => ?_) (fun c2 => ?_)
      · rw [if_neg c2] at hf
        refine vi_iload_n 1 dX5_hear_97 rfl rfl ?_
        refine vi_aload_n 0 dX5_hear_98 rfl rfl ?_
        refine vi_getr (t := p0 + 1) 0 rfl (vv_model_o h0) rfl wu_X5 (by decide) wf_X5_7 dX5_hear_99 ?_
        refine vi_bipush (v := (50 : Int32)) dX5_hear_102 (by decide) ?_
        obtain ⟨g22, hf⟩ := vv_gd hf
        refine vi_iald (vv_model_row h0) g22 dX5_hear_104 ?_
        refine vi_icmp_lt 144 dX5_hear_105 (by decide) (fun c3 => ?_) (fun c3 => ?_)
        · rw [if_pos c3] at hf
          refine vi_sub (L' := [(0, .ref p0), (1, .int x1)]) [0, 1] rfl ?_
          exact t_X5_hear_144 n  u  p0 x1 M h0 hf
        · rw [if_neg c3] at hf
          refine vi_aload_n 0 dX5_hear_108 rfl rfl ?_
          refine vi_getr (t := p0 + 1) 0 rfl (vv_model_o h0) rfl wu_X5 (by decide) wf_X5_7 dX5_hear_109 ?_
          refine vi_bipush (v := (48 : Int32)) dX5_hear_112 (by decide) ?_
          obtain ⟨g21, hf⟩ := vv_gd hf
          refine vi_iald (vv_model_row h0) g21 dX5_hear_114 ?_
          refine vi_iconst (v := (1 : Int32)) dX5_hear_115 (by decide) ?_
          refine vi_icmp_le 144 dX5_hear_116 (by decide) (fun c14 => ?_) (fun c14 => ?_)
          · rw [if_pos c14] at hf
            refine vi_sub (L' := [(0, .ref p0), (1, .int x1)]) [0, 1] rfl ?_
            exact t_X5_hear_144 n  u  p0 x1 M h0 hf
          · rw [if_neg c14] at hf
            refine vi_aload_n 0 dX5_hear_119 rfl rfl ?_
            refine vi_getr (t := p0 + 1) 0 rfl (vv_model_o h0) rfl wu_X5 (by decide) wf_X5_7 dX5_hear_120 ?_
            refine vi_bipush (v := (48 : Int32)) dX5_hear_123 (by decide) ?_
            refine vi_dup2 dX5_hear_125 rfl rfl ?_
            obtain ⟨g20, hf⟩ := vv_gd hf
            refine vi_iald (vv_model_row h0) g20 dX5_hear_126 ?_
            refine vi_iconst (v := (1 : Int32)) dX5_hear_127 (by decide) ?_
            refine vi_isub dX5_hear_128 ?_
            obtain ⟨g15, hf⟩ := vv_gd hf
            obtain ⟨M16, eM16, hf⟩ := vv_lt hf
            refine vi_iast (vv_model_row h0) g15 eM16.symm dX5_hear_129 ?_
            refine vi_aload_n 0 dX5_hear_130 rfl rfl ?_
            refine vi_getr (t := p0 + 1) 0 rfl (vv_model_o h0) rfl wu_X5 (by decide) wf_X5_7 dX5_hear_131 ?_
            refine vi_bipush (v := (54 : Int32)) dX5_hear_134 (by decide) ?_
            refine vi_dup2 dX5_hear_136 rfl rfl ?_
            obtain ⟨g19, hf⟩ := vv_gd hf
            refine vi_iald (vv_model_row h0) g19 dX5_hear_137 ?_
            refine vi_iconst (v := (1 : Int32)) dX5_hear_138 (by decide) ?_
            refine vi_iadd dX5_hear_139 ?_
            obtain ⟨g17, hf⟩ := vv_gd hf
            obtain ⟨M18, eM18, hf⟩ := vv_lt hf
            refine vi_iast (vv_model_row h0) g17 eM18.symm dX5_hear_140 ?_
            refine vi_goto 189 dX5_hear_141 (by decide) ?_
            obtain rfl := Option.some.inj hf
            exact vi_ret (v := none) rfl ⟨dX5_hear_189, rfl⟩ ⟨rfl, rfl, rfl⟩
      · rw [if_pos c2] at hf
        obtain rfl := Option.some.inj hf
        exact vi_ret (v := none) rfl ⟨dX5_hear_96, rfl⟩ ⟨rfl, rfl, rfl⟩
    · rw [if_neg c1] at hf
      refine vi_aload_n 0 dX5_hear_15 rfl rfl ?_
      refine vi_iload_n 2 dX5_hear_16 rfl rfl ?_
      obtain ⟨u24, hu24, hf⟩ := vv_bd hf
      refine vi_callV (As := [.int x2]) (st := []) (t_X5_isOn n p0 x2 M u24 h0 hu24) rfl yo_X5_isOn wm_X5_67 wi_X5_isOn ws_X5_isOn wI_X5 wc_X5_isOn (vv_model_o h0) rfl ⟨Nat.le_of_ble_eq_true rfl, Nat.le_of_ble_eq_true rfl⟩ (vv_rm0 rfl rfl) (Nat.le_of_ble_eq_true rfl) rfl rfl dX5_hear_17 ?_
      refine vi_if_eq 37 dX5_hear_20 (by decide) (fun c25 => ?_) (fun c25 => ?_)
      · rw [if_pos c25] at hf
        refine vi_iconst (v := (0 : Int32)) dX5_hear_37 (by decide) ?_
        exact t_X5_hear_38 n (f_X5_hear_4 n k) u ih p0 x1 x2 (0 : Int32) u24.2 h0 hf
      · rw [if_neg c25] at hf
        refine vi_aload_n 0 dX5_hear_23 rfl rfl ?_
        refine vi_getr (t := p0 + 1) 0 rfl (vv_model_o h0) rfl wu_X5 (by decide) wf_X5_7 dX5_hear_24 ?_
        refine vi_iload_n 2 dX5_hear_27 rfl rfl ?_
        refine vi_bipush (v := (9 : Int32)) dX5_hear_28 (by decide) ?_
        obtain ⟨u34, hu34, hf⟩ := vv_bd hf
        refine vi_callS (As := [.int x2, .int (9 : Int32)]) (st := [.ref (p0 + 1)]) (t_X5_of n x2 (9 : Int32) u24.2 u34  hu34) rfl yo_X5_of wm_X5_27 wi_X5_of wI_X5 wc_X5_of ⟨Nat.le_of_ble_eq_true rfl, Nat.le_of_ble_eq_true rfl⟩ (vv_rm0 rfl rfl) (Nat.le_of_ble_eq_true rfl) rfl rfl dX5_hear_30 ?_
        obtain ⟨g35, hf⟩ := vv_gd hf
        refine vi_iald (vv_model_row h0) g35 dX5_hear_33 ?_
        refine vi_goto 38 dX5_hear_34 (by decide) ?_
        exact t_X5_hear_38 n (f_X5_hear_4 n k) u ih p0 x1 x2 (u34.2 (p0 + 1) u34.1.toNatClampNeg) u34.2 h0 hf
set_option maxRecDepth 20000 in
theorem t_X5_hear {S : List vv_Sh} (n : Nat) (p0 : Nat) (M : vv_M) (u : Unit × vv_M) (h0 : vv_model S p0) (hf : f_X5_hear n p0 M = some u) : vv_C yX5_hear (vv_w yX5_hear cX5_hear 4 none) (vv_R 2 0 0) [.ref p0] S M none S u.2 := by
  refine vv_ofV (by decide +kernel) (Nat.le_of_ble_eq_true rfl) (L := [(0, .ref p0)]) rfl rfl rfl ?_
  show vv_V [] yX5_hear.cls yX5_hear.name cX5_hear 4 none (vv_R 2 0 0) S.length (vv_sz S) (vv_fu S u) 0 [(0, .ref p0)] [] S M
  unfold f_X5_hear at hf
  refine vi_iconst (v := (0 : Int32)) dX5_hear_0 (by decide) ?_
  refine vi_istore_n (L' := [(1, .int (0 : Int32)), (0, .ref p0)]) dX5_hear_1 rfl (by decide) rfl ?_
  refine vi_iconst (v := (0 : Int32)) dX5_hear_2 (by decide) ?_
  refine vi_istore_n (L' := [(2, .int (0 : Int32)), (1, .int (0 : Int32)), (0, .ref p0)]) dX5_hear_3 rfl (by decide) rfl ?_
  refine vi_sub (L' := [(0, .ref p0), (1, .int (0 : Int32)), (2, .int (0 : Int32))]) [2, 1, 0] rfl ?_
  exact t_X5_hear_4 n  u  n p0 (0 : Int32) (0 : Int32) M h0 hf
set_option maxRecDepth 20000 in
theorem t_X5_tick_77 {S : List vv_Sh} (n : Nat) (k53 : Nat → Int32 → vv_M → Option (Unit × vv_M)) (u : Unit × vv_M) (hk53 : ∀ (p0 : Nat) (x1 : Int32) (M : vv_M) (h0 : vv_model S p0) (hf : k53 p0 x1 M = some u), vv_V [] yX5_tick.cls yX5_tick.name cX5_tick 2 none (vv_R 4 0 0) S.length (vv_sz S) (vv_fu S u) 53 [(0, .ref p0), (1, .int x1)] [] S M) (p0 : Nat) (x1 : Int32) (M : vv_M) (h0 : vv_model S p0) (hf : f_X5_tick_77 n k53 p0 x1 M = some u) : vv_V [] yX5_tick.cls yX5_tick.name cX5_tick 2 none (vv_R 4 0 0) S.length (vv_sz S) (vv_fu S u) 77 [(0, .ref p0), (1, .int x1)] [] S M := by
  unfold f_X5_tick_77 at hf
  obtain ⟨y10, ey10, hf⟩ := vv_lt hf
  refine vi_iinc (v := y10) (L' := [(1, .int y10), (0, .ref p0)]) 1 dX5_tick_77 rfl (by rw [ey10]; rfl) (by decide) rfl ?_
  refine vi_goto 53 dX5_tick_80 (by decide) ?_
  refine vi_sub (L' := [(0, .ref p0), (1, .int y10)]) [1, 0] rfl ?_
  exact hk53 p0 y10 M h0 hf
set_option maxRecDepth 20000 in
theorem t_X5_tick_53 {S : List vv_Sh} (n : Nat)  (u : Unit × vv_M)  : ∀ (k : Nat) (p0 : Nat) (x1 : Int32) (M : vv_M) (h0 : vv_model S p0) (hf : f_X5_tick_53 n  k p0 x1 M = some u), vv_V [] yX5_tick.cls yX5_tick.name cX5_tick 2 none (vv_R 4 0 0) S.length (vv_sz S) (vv_fu S u) 53 [(0, .ref p0), (1, .int x1)] [] S M := by
  intro k
  induction k with
  | zero =>
    intro p0 x1 M h0 hf
    exact absurd (show (none : Option (Unit × vv_M)) = some u from hf) (by simp)
  | succ k ih =>
    intro p0 x1 M h0 hf
    rw [f_X5_tick_53.eq_2] at hf
    refine vi_iload_n 1 dX5_tick_53 rfl rfl ?_
    refine vi_aload_n 0 dX5_tick_54 rfl rfl ?_
    refine vi_getr (t := p0 + 1) 0 rfl (vv_model_o h0) rfl wu_X5 (by decide) wf_X5_7 dX5_tick_55 ?_
    refine vi_bipush (v := (53 : Int32)) dX5_tick_58 (by decide) ?_
    obtain ⟨g12, hf⟩ := vv_gd hf
    refine vi_iald (vv_model_row h0) g12 dX5_tick_60 ?_
    refine vi_icmp_ge 83 dX5_tick_61 (by decide) (fun c3 => ?_) (fun c3 => ?_)
    · rw [if_pos c3] at hf
      refine vi_aload_n 0 dX5_tick_83 rfl rfl ?_
      obtain ⟨u4, hu4, hf⟩ := vv_bd hf
      refine vi_callV (As := []) (st := []) (t_X5_hear n p0 M u4 h0 hu4) rfl yo_X5_hear wm_X5_112 wi_X5_hear ws_X5_hear wI_X5 wc_X5_hear (vv_model_o h0) rfl ⟨Nat.le_of_ble_eq_true rfl, Nat.le_of_ble_eq_true rfl⟩ (vv_rm0 rfl rfl) (Nat.le_of_ble_eq_true rfl) rfl rfl dX5_tick_84 ?_
      refine vi_aload_n 0 dX5_tick_87 rfl rfl ?_
      refine vi_getr (t := p0 + 1) 0 rfl (vv_model_o h0) rfl wu_X5 (by decide) wf_X5_7 dX5_tick_88 ?_
      refine vi_bipush (v := (52 : Int32)) dX5_tick_91 (by decide) ?_
      refine vi_dup2 dX5_tick_93 rfl rfl ?_
      obtain ⟨g7, hf⟩ := vv_gd hf
      refine vi_iald (vv_model_row h0) g7 dX5_tick_94 ?_
      refine vi_iconst (v := (1 : Int32)) dX5_tick_95 (by decide) ?_
      refine vi_iadd dX5_tick_96 ?_
      obtain ⟨g5, hf⟩ := vv_gd hf
      obtain ⟨M6, eM6, hf⟩ := vv_lt hf
      refine vi_iast (vv_model_row h0) g5 eM6.symm dX5_tick_97 ?_
      obtain rfl := Option.some.inj hf
      exact vi_ret (v := none) rfl ⟨dX5_tick_98, rfl⟩ ⟨rfl, rfl, rfl⟩
    · rw [if_neg c3] at hf
      refine vi_aload_n 0 dX5_tick_64 rfl rfl ?_
      refine vi_iload_n 1 dX5_tick_65 rfl rfl ?_
      obtain ⟨u8, hu8, hf⟩ := vv_bd hf
      refine vi_callV (As := [.int x1]) (st := []) (t_X5_isOn n p0 x1 M u8 h0 hu8) rfl yo_X5_isOn wm_X5_67 wi_X5_isOn ws_X5_isOn wI_X5 wc_X5_isOn (vv_model_o h0) rfl ⟨Nat.le_of_ble_eq_true rfl, Nat.le_of_ble_eq_true rfl⟩ (vv_rm0 rfl rfl) (Nat.le_of_ble_eq_true rfl) rfl rfl dX5_tick_66 ?_
      refine vi_if_eq 77 dX5_tick_69 (by decide) (fun c9 => ?_) (fun c9 => ?_)
      · rw [if_pos c9] at hf
        exact t_X5_tick_77 n (f_X5_tick_53 n k) u ih p0 x1 u8.2 h0 hf
      · rw [if_neg c9] at hf
        refine vi_aload_n 0 dX5_tick_72 rfl rfl ?_
        refine vi_iload_n 1 dX5_tick_73 rfl rfl ?_
        obtain ⟨u11, hu11, hf⟩ := vv_bd hf
        refine vi_callV (As := [.int x1]) (st := []) (t_X5_warmUp n p0 x1 u8.2 u11 h0 hu11) rfl yo_X5_warmUp wm_X5_109 wi_X5_warmUp ws_X5_warmUp wI_X5 wc_X5_warmUp (vv_model_o h0) rfl ⟨Nat.le_of_ble_eq_true rfl, Nat.le_of_ble_eq_true rfl⟩ (vv_rm0 rfl rfl) (Nat.le_of_ble_eq_true rfl) rfl rfl dX5_tick_74 ?_
        exact t_X5_tick_77 n (f_X5_tick_53 n k) u ih p0 x1 u11.2 h0 hf
set_option maxRecDepth 20000 in
theorem t_X5_tick_34 {S : List vv_Sh} (n : Nat)  (u : Unit × vv_M)  : ∀ (k : Nat) (p0 : Nat) (x1 : Int32) (M : vv_M) (h0 : vv_model S p0) (hf : f_X5_tick_34 n  k p0 x1 M = some u), vv_V [] yX5_tick.cls yX5_tick.name cX5_tick 2 none (vv_R 4 0 0) S.length (vv_sz S) (vv_fu S u) 34 [(0, .ref p0), (1, .int x1)] [] S M := by
  intro k
  induction k with
  | zero =>
    intro p0 x1 M h0 hf
    exact absurd (show (none : Option (Unit × vv_M)) = some u from hf) (by simp)
  | succ k ih =>
    intro p0 x1 M h0 hf
    rw [f_X5_tick_34.eq_2] at hf
    refine vi_iload_n 1 dX5_tick_34 rfl rfl ?_
    refine vi_bipush (v := (6 : Int32)) dX5_tick_35 (by decide) ?_
    refine vi_icmp_ge 51 dX5_tick_37 (by decide) (fun c2 => ?_) (fun c2 => ?_)
    · rw [if_pos c2] at hf
      refine vi_iconst (v := (0 : Int32)) dX5_tick_51 (by decide) ?_
      refine vi_istore_n (L' := [(1, .int (0 : Int32)), (0, .ref p0)]) dX5_tick_52 rfl (by decide) rfl ?_
      refine vi_sub (L' := [(0, .ref p0), (1, .int (0 : Int32))]) [1, 0] rfl ?_
      exact t_X5_tick_53 n  u  n p0 (0 : Int32) M h0 hf
    · rw [if_neg c2] at hf
      refine vi_aload_n 0 dX5_tick_40 rfl rfl ?_
      refine vi_iload_n 1 dX5_tick_41 rfl rfl ?_
      obtain ⟨u13, hu13, hf⟩ := vv_bd hf
      refine vi_callV (As := [.int x1]) (st := []) (t_X5_heat n p0 x1 M u13 h0 hu13) rfl yo_X5_heat wm_X5_106 wi_X5_heat ws_X5_heat wI_X5 wc_X5_heat (vv_model_o h0) rfl ⟨Nat.le_of_ble_eq_true rfl, Nat.le_of_ble_eq_true rfl⟩ (vv_rm0 rfl rfl) (Nat.le_of_ble_eq_true rfl) rfl rfl dX5_tick_42 ?_
      obtain ⟨y14, ey14, hf⟩ := vv_lt hf
      refine vi_iinc (v := y14) (L' := [(1, .int y14), (0, .ref p0)]) 1 dX5_tick_45 rfl (by rw [ey14]; rfl) (by decide) rfl ?_
      refine vi_goto 34 dX5_tick_48 (by decide) ?_
      refine vi_sub (L' := [(0, .ref p0), (1, .int y14)]) [1, 0] rfl ?_
      exact ih p0 y14 u13.2 h0 hf
set_option maxRecDepth 20000 in
theorem t_X5_tick_26 {S : List vv_Sh} (n : Nat) (k2 : Nat → Int32 → vv_M → Option (Unit × vv_M)) (u : Unit × vv_M) (hk2 : ∀ (p0 : Nat) (x1 : Int32) (M : vv_M) (h0 : vv_model S p0) (hf : k2 p0 x1 M = some u), vv_V [] yX5_tick.cls yX5_tick.name cX5_tick 2 none (vv_R 4 0 0) S.length (vv_sz S) (vv_fu S u) 2 [(0, .ref p0), (1, .int x1)] [] S M) (p0 : Nat) (x1 : Int32) (M : vv_M) (h0 : vv_model S p0) (hf : f_X5_tick_26 n k2 p0 x1 M = some u) : vv_V [] yX5_tick.cls yX5_tick.name cX5_tick 2 none (vv_R 4 0 0) S.length (vv_sz S) (vv_fu S u) 26 [(0, .ref p0), (1, .int x1)] [] S M := by
  unfold f_X5_tick_26 at hf
  obtain ⟨y17, ey17, hf⟩ := vv_lt hf
  refine vi_iinc (v := y17) (L' := [(1, .int y17), (0, .ref p0)]) 1 dX5_tick_26 rfl (by rw [ey17]; rfl) (by decide) rfl ?_
  refine vi_goto 2 dX5_tick_29 (by decide) ?_
  refine vi_sub (L' := [(0, .ref p0), (1, .int y17)]) [1, 0] rfl ?_
  exact hk2 p0 y17 M h0 hf
set_option maxRecDepth 20000 in
theorem t_X5_tick_2 {S : List vv_Sh} (n : Nat)  (u : Unit × vv_M)  : ∀ (k : Nat) (p0 : Nat) (x1 : Int32) (M : vv_M) (h0 : vv_model S p0) (hf : f_X5_tick_2 n  k p0 x1 M = some u), vv_V [] yX5_tick.cls yX5_tick.name cX5_tick 2 none (vv_R 4 0 0) S.length (vv_sz S) (vv_fu S u) 2 [(0, .ref p0), (1, .int x1)] [] S M := by
  intro k
  induction k with
  | zero =>
    intro p0 x1 M h0 hf
    exact absurd (show (none : Option (Unit × vv_M)) = some u from hf) (by simp)
  | succ k ih =>
    intro p0 x1 M h0 hf
    rw [f_X5_tick_2.eq_2] at hf
    refine vi_iload_n 1 dX5_tick_2 rfl rfl ?_
    refine vi_aload_n 0 dX5_tick_3 rfl rfl ?_
    refine vi_getr (t := p0 + 1) 0 rfl (vv_model_o h0) rfl wu_X5 (by decide) wf_X5_7 dX5_tick_4 ?_
    refine vi_bipush (v := (53 : Int32)) dX5_tick_7 (by decide) ?_
    obtain ⟨g19, hf⟩ := vv_gd hf
    refine vi_iald (vv_model_row h0) g19 dX5_tick_9 ?_
    refine vi_icmp_ge 32 dX5_tick_10 (by decide) (fun c1 => ?_) (fun c1 => ?_)
    · rw [if_pos c1] at hf
      refine vi_iconst (v := (0 : Int32)) dX5_tick_32 (by decide) ?_
      refine vi_istore_n (L' := [(1, .int (0 : Int32)), (0, .ref p0)]) dX5_tick_33 rfl (by decide) rfl ?_
      refine vi_sub (L' := [(0, .ref p0), (1, .int (0 : Int32))]) [1, 0] rfl ?_
      exact t_X5_tick_34 n  u  n p0 (0 : Int32) M h0 hf
    · rw [if_neg c1] at hf
      refine vi_aload_n 0 dX5_tick_13 rfl rfl ?_
      refine vi_iload_n 1 dX5_tick_14 rfl rfl ?_
      obtain ⟨u15, hu15, hf⟩ := vv_bd hf
      refine vi_callV (As := [.int x1]) (st := []) (t_X5_isOn n p0 x1 M u15 h0 hu15) rfl yo_X5_isOn wm_X5_67 wi_X5_isOn ws_X5_isOn wI_X5 wc_X5_isOn (vv_model_o h0) rfl ⟨Nat.le_of_ble_eq_true rfl, Nat.le_of_ble_eq_true rfl⟩ (vv_rm0 rfl rfl) (Nat.le_of_ble_eq_true rfl) rfl rfl dX5_tick_15 ?_
      refine vi_if_eq 26 dX5_tick_18 (by decide) (fun c16 => ?_) (fun c16 => ?_)
      · rw [if_pos c16] at hf
        exact t_X5_tick_26 n (f_X5_tick_2 n k) u ih p0 x1 u15.2 h0 hf
      · rw [if_neg c16] at hf
        refine vi_aload_n 0 dX5_tick_21 rfl rfl ?_
        refine vi_iload_n 1 dX5_tick_22 rfl rfl ?_
        obtain ⟨u18, hu18, hf⟩ := vv_bd hf
        refine vi_callV (As := [.int x1]) (st := []) (t_X5_goOn n p0 x1 u15.2 u18 h0 hu18) rfl yo_X5_goOn wm_X5_102 wi_X5_goOn ws_X5_goOn wI_X5 wc_X5_goOn (vv_model_o h0) rfl ⟨Nat.le_of_ble_eq_true rfl, Nat.le_of_ble_eq_true rfl⟩ (vv_rm0 rfl rfl) (Nat.le_of_ble_eq_true rfl) rfl rfl dX5_tick_23 ?_
        exact t_X5_tick_26 n (f_X5_tick_2 n k) u ih p0 x1 u18.2 h0 hf
set_option maxRecDepth 20000 in
theorem t_X5_tick {S : List vv_Sh} (n : Nat) (p0 : Nat) (M : vv_M) (u : Unit × vv_M) (h0 : vv_model S p0) (hf : f_X5_tick n p0 M = some u) : vv_C yX5_tick (vv_w yX5_tick cX5_tick 2 none) (vv_R 4 0 0) [.ref p0] S M none S u.2 := by
  refine vv_ofV (by decide +kernel) (Nat.le_of_ble_eq_true rfl) (L := [(0, .ref p0)]) rfl rfl rfl ?_
  show vv_V [] yX5_tick.cls yX5_tick.name cX5_tick 2 none (vv_R 4 0 0) S.length (vv_sz S) (vv_fu S u) 0 [(0, .ref p0)] [] S M
  unfold f_X5_tick at hf
  refine vi_iconst (v := (0 : Int32)) dX5_tick_0 (by decide) ?_
  refine vi_istore_n (L' := [(1, .int (0 : Int32)), (0, .ref p0)]) dX5_tick_1 rfl (by decide) rfl ?_
  refine vi_sub (L' := [(0, .ref p0), (1, .int (0 : Int32))]) [1, 0] rfl ?_
  exact t_X5_tick_2 n  u  n p0 (0 : Int32) M h0 hf
set_option maxRecDepth 20000 in
theorem t_X5_noPass {S : List vv_Sh} (n : Nat) (p0 : Nat) (x1 : Int32) (M : vv_M) (u : Int32 × vv_M) (h0 : vv_model S p0) (hf : f_X5_noPass n p0 x1 M = some u) : vv_C yX5_noPass (vv_w yX5_noPass cX5_noPass 2 (some .int)) (vv_R 1 0 0) [.ref p0, .int x1] S M (some (.int u.1)) S u.2 := by
  refine vv_ofV (by decide +kernel) (Nat.le_of_ble_eq_true rfl) (L := [(0, .ref p0), (1, .int x1)]) rfl rfl rfl ?_
  show vv_V [] yX5_noPass.cls yX5_noPass.name cX5_noPass 2 (some .int) (vv_R 1 0 0) S.length (vv_sz S) (vv_fi S u) 0 [(0, .ref p0), (1, .int x1)] [] S M
  unfold f_X5_noPass at hf
  refine vi_iload_n 1 dX5_noPass_0 rfl rfl ?_
  refine vi_iconst (v := (1 : Int32)) dX5_noPass_1 (by decide) ?_
  refine vi_bipush (v := (99 : Int32)) dX5_noPass_2 (by decide) ?_
  obtain ⟨u1, hu1, hf⟩ := vv_bd hf
  refine vi_callS (As := [.int x1, .int (1 : Int32), .int (99 : Int32)]) (st := []) (t_X5_in n x1 (1 : Int32) (99 : Int32) M u1  hu1) rfl yo_X5_in wm_X5_23 wi_X5_in wI_X5 wc_X5_in ⟨Nat.le_of_ble_eq_true rfl, Nat.le_of_ble_eq_true rfl⟩ (vv_rm0 rfl rfl) (Nat.le_of_ble_eq_true rfl) rfl rfl dX5_noPass_4 ?_
  refine vi_if_ne 16 dX5_noPass_7 (by decide) (fun c2 => ?_) (fun c2 => ?_)
  · rw [if_neg c2] at hf
    refine vi_aload_n 0 dX5_noPass_16 rfl rfl ?_
    refine vi_getr (t := p0 + 1) 0 rfl (vv_model_o h0) rfl wu_X5 (by decide) wf_X5_7 dX5_noPass_17 ?_
    refine vi_bipush (v := (52 : Int32)) dX5_noPass_20 (by decide) ?_
    obtain ⟨g4, hf⟩ := vv_gd hf
    refine vi_iald (vv_model_row h0) g4 dX5_noPass_22 ?_
    refine vi_iload_n 1 dX5_noPass_23 rfl rfl ?_
    refine vi_iadd dX5_noPass_24 ?_
    refine vi_sipush (v := (5000 : Int32)) dX5_noPass_25 (by decide) ?_
    refine vi_icmp_le 37 dX5_noPass_28 (by decide) (fun c3 => ?_) (fun c3 => ?_)
    · rw [if_pos c3] at hf
      refine vi_iconst (v := (0 : Int32)) dX5_noPass_37 (by decide) ?_
      obtain rfl := Option.some.inj hf
      exact vi_ret (v := some (.int (0 : Int32))) rfl ⟨dX5_noPass_38, .int, rfl, rfl⟩ ⟨rfl, rfl, rfl⟩
    · rw [if_neg c3] at hf
      refine vi_sipush (v := (-1003 : Int32)) dX5_noPass_31 (by decide) ?_
      refine vi_goto 38 dX5_noPass_34 (by decide) ?_
      obtain rfl := Option.some.inj hf
      exact vi_ret (v := some (.int (-1003 : Int32))) rfl ⟨dX5_noPass_38, .int, rfl, rfl⟩ ⟨rfl, rfl, rfl⟩
  · rw [if_pos c2] at hf
    refine vi_sipush (v := (-1001 : Int32)) dX5_noPass_10 (by decide) ?_
    refine vi_goto 38 dX5_noPass_13 (by decide) ?_
    obtain rfl := Option.some.inj hf
    exact vi_ret (v := some (.int (-1001 : Int32))) rfl ⟨dX5_noPass_38, .int, rfl, rfl⟩ ⟨rfl, rfl, rfl⟩
set_option maxRecDepth 20000 in
theorem t_X5_doPass_8 {S : List vv_Sh} (n : Nat)  (u : Int32 × vv_M)  : ∀ (k : Nat) (p0 : Nat) (x1 : Int32) (x2 : Int32) (x3 : Int32) (M : vv_M) (h0 : vv_model S p0) (hf : f_X5_doPass_8 n  k p0 x1 x2 x3 M = some u), vv_V [] yX5_doPass.cls yX5_doPass.name cX5_doPass 4 (some .int) (vv_R 5 0 0) S.length (vv_sz S) (vv_fi S u) 8 [(0, .ref p0), (1, .int x1), (2, .int x2), (3, .int x3)] [] S M := by
  intro k
  induction k with
  | zero =>
    intro p0 x1 x2 x3 M h0 hf
    exact absurd (show (none : Option (Int32 × vv_M)) = some u from hf) (by simp)
  | succ k ih =>
    intro p0 x1 x2 x3 M h0 hf
    rw [f_X5_doPass_8.eq_2] at hf
    refine vi_iload_n 3 dX5_doPass_8 rfl rfl ?_
    refine vi_iload_n 1 dX5_doPass_9 rfl rfl ?_
    refine vi_icmp_ge 23 dX5_doPass_10 (by decide) (fun c3 => ?_) (fun c3 => ?_)
    · rw [if_pos c3] at hf
      refine vi_aload_n 0 dX5_doPass_23 rfl rfl ?_
      refine vi_iconst (v := (1 : Int32)) dX5_doPass_24 (by decide) ?_
      obtain ⟨u4, hu4, hf⟩ := vv_bd hf
      refine vi_callV (As := [.int (1 : Int32)]) (st := []) (t_X5_many n p0 (1 : Int32) M u4 h0 hu4) rfl yo_X5_many wm_X5_45 wi_X5_many ws_X5_many wI_X5 wc_X5_many (vv_model_o h0) rfl ⟨Nat.le_of_ble_eq_true rfl, Nat.le_of_ble_eq_true rfl⟩ (vv_rm0 rfl rfl) (Nat.le_of_ble_eq_true rfl) rfl rfl dX5_doPass_25 ?_
      refine vi_iload_n 2 dX5_doPass_28 rfl rfl ?_
      refine vi_isub dX5_doPass_29 ?_
      obtain rfl := Option.some.inj hf
      exact vi_ret (v := some (.int (u4.1 - x2))) rfl ⟨dX5_doPass_30, .int, rfl, rfl⟩ ⟨rfl, rfl, rfl⟩
    · rw [if_neg c3] at hf
      refine vi_aload_n 0 dX5_doPass_13 rfl rfl ?_
      obtain ⟨u5, hu5, hf⟩ := vv_bd hf
      refine vi_callV (As := []) (st := []) (t_X5_tick n p0 M u5 h0 hu5) rfl yo_X5_tick wm_X5_115 wi_X5_tick ws_X5_tick wI_X5 wc_X5_tick (vv_model_o h0) rfl ⟨Nat.le_of_ble_eq_true rfl, Nat.le_of_ble_eq_true rfl⟩ (vv_rm0 rfl rfl) (Nat.le_of_ble_eq_true rfl) rfl rfl dX5_doPass_14 ?_
      obtain ⟨y6, ey6, hf⟩ := vv_lt hf
      refine vi_iinc (v := y6) (L' := [(3, .int y6), (0, .ref p0), (1, .int x1), (2, .int x2)]) 3 dX5_doPass_17 rfl (by rw [ey6]; rfl) (by decide) rfl ?_
      refine vi_goto 8 dX5_doPass_20 (by decide) ?_
      refine vi_sub (L' := [(0, .ref p0), (1, .int x1), (2, .int x2), (3, .int y6)]) [1, 2, 3, 0] rfl ?_
      exact ih p0 x1 x2 y6 u5.2 h0 hf
set_option maxRecDepth 20000 in
theorem t_X5_doPass {S : List vv_Sh} (n : Nat) (p0 : Nat) (x1 : Int32) (M : vv_M) (u : Int32 × vv_M) (h0 : vv_model S p0) (hf : f_X5_doPass n p0 x1 M = some u) : vv_C yX5_doPass (vv_w yX5_doPass cX5_doPass 4 (some .int)) (vv_R 5 0 0) [.ref p0, .int x1] S M (some (.int u.1)) S u.2 := by
  refine vv_ofV (by decide +kernel) (Nat.le_of_ble_eq_true rfl) (L := [(0, .ref p0), (1, .int x1)]) rfl rfl rfl ?_
  show vv_V [] yX5_doPass.cls yX5_doPass.name cX5_doPass 4 (some .int) (vv_R 5 0 0) S.length (vv_sz S) (vv_fi S u) 0 [(0, .ref p0), (1, .int x1)] [] S M
  unfold f_X5_doPass at hf
  refine vi_aload_n 0 dX5_doPass_0 rfl rfl ?_
  refine vi_iconst (v := (1 : Int32)) dX5_doPass_1 (by decide) ?_
  obtain ⟨u1, hu1, hf⟩ := vv_bd hf
  refine vi_callV (As := [.int (1 : Int32)]) (st := []) (t_X5_many n p0 (1 : Int32) M u1 h0 hu1) rfl yo_X5_many wm_X5_45 wi_X5_many ws_X5_many wI_X5 wc_X5_many (vv_model_o h0) rfl ⟨Nat.le_of_ble_eq_true rfl, Nat.le_of_ble_eq_true rfl⟩ (vv_rm0 rfl rfl) (Nat.le_of_ble_eq_true rfl) rfl rfl dX5_doPass_2 ?_
  obtain ⟨y2, ey2, hf⟩ := vv_lt hf
  refine vi_istore_n (L' := [(2, .int y2), (0, .ref p0), (1, .int x1)]) dX5_doPass_5 rfl (by decide) (by rw [ey2]; rfl) ?_
  refine vi_iconst (v := (0 : Int32)) dX5_doPass_6 (by decide) ?_
  refine vi_istore_n (L' := [(3, .int (0 : Int32)), (2, .int y2), (0, .ref p0), (1, .int x1)]) dX5_doPass_7 rfl (by decide) rfl ?_
  refine vi_sub (L' := [(0, .ref p0), (1, .int x1), (2, .int y2), (3, .int (0 : Int32))]) [2, 3, 1, 0] rfl ?_
  exact t_X5_doPass_8 n  u  n p0 x1 y2 (0 : Int32) u1.2 h0 hf
set_option maxRecDepth 20000 in
theorem t_X5_pass {S : List vv_Sh} (n : Nat) (p0 : Nat) (x1 : Int32) (M : vv_M) (u : Int32 × vv_M) (h0 : vv_model S p0) (hf : f_X5_pass n p0 x1 M = some u) : vv_C yX5_pass (vv_w yX5_pass cX5_pass 3 (some .int)) (vv_R 6 0 0) [.ref p0, .int x1] S M (some (.int u.1)) S u.2 := by
  refine vv_ofV (by decide +kernel) (Nat.le_of_ble_eq_true rfl) (L := [(0, .ref p0), (1, .int x1)]) rfl rfl rfl ?_
  show vv_V [] yX5_pass.cls yX5_pass.name cX5_pass 3 (some .int) (vv_R 6 0 0) S.length (vv_sz S) (vv_fi S u) 0 [(0, .ref p0), (1, .int x1)] [] S M
  unfold f_X5_pass at hf
  refine vi_aload_n 0 dX5_pass_0 rfl rfl ?_
  refine vi_iload_n 1 dX5_pass_1 rfl rfl ?_
  obtain ⟨u1, hu1, hf⟩ := vv_bd hf
  refine vi_callV (As := [.int x1]) (st := []) (t_X5_noPass n p0 x1 M u1 h0 hu1) rfl yo_X5_noPass wm_X5_118 wi_X5_noPass ws_X5_noPass wI_X5 wc_X5_noPass (vv_model_o h0) rfl ⟨Nat.le_of_ble_eq_true rfl, Nat.le_of_ble_eq_true rfl⟩ (vv_rm0 rfl rfl) (Nat.le_of_ble_eq_true rfl) rfl rfl dX5_pass_2 ?_
  obtain ⟨y2, ey2, hf⟩ := vv_lt hf
  refine vi_istore_n (L' := [(2, .int y2), (0, .ref p0), (1, .int x1)]) dX5_pass_5 rfl (by decide) (by rw [ey2]; rfl) ?_
  refine vi_iload_n 0 dX5_pass_6 rfl rfl ?_
  refine vi_if_eq 12 dX5_pass_7 (by decide) (fun c3 => ?_) (fun c3 => ?_)
  · rw [if_pos c3] at hf
    refine vi_aload_n 1 dX5_pass_12 rfl rfl ?_
    obtain ⟨u4, hu4, hf⟩ := vv_bd hf
    refine vi_callV (As := []) (st := []) (t_X5_record n p0 u1.2 u4 h0 hu4) rfl yo_X5_record wm_X5_38 wi_X5_record ws_X5_record wI_X5 wc_X5_record (vv_model_o h0) rfl ⟨Nat.le_of_ble_eq_true rfl, Nat.le_of_ble_eq_true rfl⟩ (vv_rm0 rfl rfl) (Nat.le_of_ble_eq_true rfl) rfl rfl dX5_pass_13 ?_
    refine vi_aload_n 1 dX5_pass_16 rfl rfl ?_
    refine vi_iload_n 2 dX5_pass_17 rfl rfl ?_
    obtain ⟨u5, hu5, hf⟩ := vv_bd hf
    refine vi_callV (As := [.int x1]) (st := []) (t_X5_doPass n p0 x1 u4.2 u5 h0 hu5) rfl yo_X5_doPass wm_X5_121 wi_X5_doPass ws_X5_doPass wI_X5 wc_X5_doPass (vv_model_o h0) rfl ⟨Nat.le_of_ble_eq_true rfl, Nat.le_of_ble_eq_true rfl⟩ (vv_rm0 rfl rfl) (Nat.le_of_ble_eq_true rfl) rfl rfl dX5_pass_18 ?_
    obtain rfl := Option.some.inj hf
    exact vi_ret (v := some (.int u5.1)) rfl ⟨dX5_pass_21, .int, rfl, rfl⟩ ⟨rfl, rfl, rfl⟩
  · rw [if_neg c3] at hf
    refine vi_iload_n 0 dX5_pass_10 rfl rfl ?_
    obtain rfl := Option.some.inj hf
    exact vi_ret (v := some (.int y2)) rfl ⟨dX5_pass_11, .int, rfl, rfl⟩ ⟨rfl, rfl, rfl⟩
set_option maxRecDepth 20000 in
theorem t_X5_append {S : List vv_Sh} (n : Nat) (p0 : Nat) (x1 : Int32) (M : vv_M) (u : Int32 × vv_M) (h0 : vv_model S p0) (hf : f_X5_append n p0 x1 M = some u) : vv_C yX5_append (vv_w yX5_append cX5_append 2 (some .int)) (vv_R 1 0 0) [.ref p0, .int x1] S M (some (.int u.1)) S u.2 := by
  refine vv_ofV (by decide +kernel) (Nat.le_of_ble_eq_true rfl) (L := [(0, .ref p0), (1, .int x1)]) rfl rfl rfl ?_
  show vv_V [] yX5_append.cls yX5_append.name cX5_append 2 (some .int) (vv_R 1 0 0) S.length (vv_sz S) (vv_fi S u) 0 [(0, .ref p0), (1, .int x1)] [] S M
  unfold f_X5_append at hf
  refine vi_iload_n 1 dX5_append_0 rfl rfl ?_
  refine vi_iconst (v := (1 : Int32)) dX5_append_1 (by decide) ?_
  refine vi_sipush (v := (255 : Int32)) dX5_append_2 (by decide) ?_
  obtain ⟨u1, hu1, hf⟩ := vv_bd hf
  refine vi_callS (As := [.int x1, .int (1 : Int32), .int (255 : Int32)]) (st := []) (t_X5_in n x1 (1 : Int32) (255 : Int32) M u1  hu1) rfl yo_X5_in wm_X5_23 wi_X5_in wI_X5 wc_X5_in ⟨Nat.le_of_ble_eq_true rfl, Nat.le_of_ble_eq_true rfl⟩ (vv_rm0 rfl rfl) (Nat.le_of_ble_eq_true rfl) rfl rfl dX5_append_5 ?_
  refine vi_if_ne 15 dX5_append_8 (by decide) (fun c2 => ?_) (fun c2 => ?_)
  · rw [if_neg c2] at hf
    refine vi_aload_n 0 dX5_append_15 rfl rfl ?_
    refine vi_geti 3 rfl (vv_model_o h0) rfl wu_X5 (by decide) wf_X5_124 dX5_append_16 ?_
    refine vi_bipush (v := (100 : Int32)) dX5_append_19 (by decide) ?_
    refine vi_icmp_ne 28 dX5_append_21 (by decide) (fun c3 => ?_) (fun c3 => ?_)
    · rw [if_neg c3] at hf
      refine vi_aload_n 0 dX5_append_28 rfl rfl ?_
      refine vi_getr (t := p0 + 2) 2 rfl (vv_model_o h0) rfl wu_X5 (by decide) wf_X5_13 dX5_append_29 ?_
      refine vi_aload_n 0 dX5_append_32 rfl rfl ?_
      refine vi_geti 3 rfl (vv_model_o h0) rfl wu_X5 (by decide) wf_X5_124 dX5_append_33 ?_
      refine vi_iload_n 1 dX5_append_36 rfl rfl ?_
      obtain ⟨g4, hf⟩ := vv_gd hf
      obtain ⟨M5, eM5, hf⟩ := vv_lt hf
      refine vi_iast (vv_model_text h0) g4 eM5.symm dX5_append_37 ?_
      refine vi_aload_n 0 dX5_append_38 rfl rfl ?_
      refine vi_dup dX5_append_39 rfl ?_
      refine vi_geti 3 rfl (vv_model_o h0) rfl wu_X5 (by decide) wf_X5_124 dX5_append_40 ?_
      refine vi_iconst (v := (1 : Int32)) dX5_append_43 (by decide) ?_
      refine vi_iadd dX5_append_44 ?_
      obtain ⟨M6, eM6, hf⟩ := vv_lt hf
      refine vi_puti 3 rfl eM6.symm (vv_model_o h0) rfl wu_X5 tyX5 tyX5_ok nmX5 (by decide) rfl (by decide +kernel) wf_X5_124 dX5_append_45 ?_
      refine vi_aload_n 0 dX5_append_48 rfl rfl ?_
      refine vi_geti 3 rfl (vv_model_o h0) rfl wu_X5 (by decide) wf_X5_124 dX5_append_49 ?_
      obtain rfl := Option.some.inj hf
      exact vi_ret (v := some (.int (M6 p0 3))) rfl ⟨dX5_append_52, .int, rfl, rfl⟩ ⟨rfl, rfl, rfl⟩
    · rw [if_pos c3] at hf
      refine vi_sipush (v := (-1003 : Int32)) dX5_append_24 (by decide) ?_
      obtain rfl := Option.some.inj hf
      exact vi_ret (v := some (.int (-1003 : Int32))) rfl ⟨dX5_append_27, .int, rfl, rfl⟩ ⟨rfl, rfl, rfl⟩
  · rw [if_pos c2] at hf
    refine vi_sipush (v := (-1001 : Int32)) dX5_append_11 (by decide) ?_
    obtain rfl := Option.some.inj hf
    exact vi_ret (v := some (.int (-1001 : Int32))) rfl ⟨dX5_append_14, .int, rfl, rfl⟩ ⟨rfl, rfl, rfl⟩
set_option maxRecDepth 20000 in
theorem t_X5_clearText {S : List vv_Sh} (n : Nat) (p0 : Nat) (M : vv_M) (u : Int32 × vv_M) (h0 : vv_model S p0) (hf : f_X5_clearText n p0 M = some u) : vv_C yX5_clearText (vv_w yX5_clearText cX5_clearText 2 (some .int)) (vv_R 0 0 0) [.ref p0] S M (some (.int u.1)) S u.2 := by
  refine vv_ofV (by decide +kernel) (Nat.le_of_ble_eq_true rfl) (L := [(0, .ref p0)]) rfl rfl rfl ?_
  show vv_V [] yX5_clearText.cls yX5_clearText.name cX5_clearText 2 (some .int) (vv_R 0 0 0) S.length (vv_sz S) (vv_fi S u) 0 [(0, .ref p0)] [] S M
  unfold f_X5_clearText at hf
  refine vi_aload_n 0 dX5_clearText_0 rfl rfl ?_
  refine vi_geti 3 rfl (vv_model_o h0) rfl wu_X5 (by decide) wf_X5_124 dX5_clearText_1 ?_
  obtain ⟨y1, ey1, hf⟩ := vv_lt hf
  refine vi_istore_n (L' := [(1, .int y1), (0, .ref p0)]) dX5_clearText_4 rfl (by decide) (by rw [ey1]; rfl) ?_
  refine vi_aload_n 1 dX5_clearText_5 rfl rfl ?_
  refine vi_iconst (v := (0 : Int32)) dX5_clearText_6 (by decide) ?_
  obtain ⟨M2, eM2, hf⟩ := vv_lt hf
  refine vi_puti 3 rfl eM2.symm (vv_model_o h0) rfl wu_X5 tyX5 tyX5_ok nmX5 (by decide) rfl (by decide +kernel) wf_X5_124 dX5_clearText_7 ?_
  refine vi_iload_n 0 dX5_clearText_10 rfl rfl ?_
  obtain rfl := Option.some.inj hf
  exact vi_ret (v := some (.int y1)) rfl ⟨dX5_clearText_11, .int, rfl, rfl⟩ ⟨rfl, rfl, rfl⟩
set_option maxRecDepth 20000 in
theorem t_X5_code {S : List vv_Sh} (n : Nat) (p0 : Nat) (M : vv_M) (u : Int32 × vv_M) (h0 : vv_model S p0) (hf : f_X5_code n p0 M = some u) : vv_C yX5_code (vv_w yX5_code cX5_code 1 (some .int)) (vv_R 0 0 0) [.ref p0] S M (some (.int u.1)) S u.2 := by
  refine vv_ofV (by decide +kernel) (Nat.le_of_ble_eq_true rfl) (L := [(0, .ref p0)]) rfl rfl rfl ?_
  show vv_V [] yX5_code.cls yX5_code.name cX5_code 1 (some .int) (vv_R 0 0 0) S.length (vv_sz S) (vv_fi S u) 0 [(0, .ref p0)] [] S M
  unfold f_X5_code at hf
  refine vi_aload_n 0 dX5_code_0 rfl rfl ?_
  refine vi_geti 4 rfl (vv_model_o h0) rfl wu_X5 (by decide) wf_X5_127 dX5_code_1 ?_
  refine vi_aload_n 0 dX5_code_4 rfl rfl ?_
  refine vi_geti 3 rfl (vv_model_o h0) rfl wu_X5 (by decide) wf_X5_124 dX5_code_5 ?_
  refine vi_icmp_ge 23 dX5_code_8 (by decide) (fun c1 => ?_) (fun c1 => ?_)
  · rw [if_pos c1] at hf
    refine vi_iconst (v := (0 : Int32)) dX5_code_23 (by decide) ?_
    obtain rfl := Option.some.inj hf
    exact vi_ret (v := some (.int (0 : Int32))) rfl ⟨dX5_code_24, .int, rfl, rfl⟩ ⟨rfl, rfl, rfl⟩
  · rw [if_neg c1] at hf
    refine vi_aload_n 0 dX5_code_11 rfl rfl ?_
    refine vi_getr (t := p0 + 2) 2 rfl (vv_model_o h0) rfl wu_X5 (by decide) wf_X5_13 dX5_code_12 ?_
    refine vi_aload_n 0 dX5_code_15 rfl rfl ?_
    refine vi_geti 4 rfl (vv_model_o h0) rfl wu_X5 (by decide) wf_X5_127 dX5_code_16 ?_
    obtain ⟨g2, hf⟩ := vv_gd hf
    refine vi_iald (vv_model_text h0) g2 dX5_code_19 ?_
    refine vi_goto 24 dX5_code_20 (by decide) ?_
    obtain rfl := Option.some.inj hf
    exact vi_ret (v := some (.int (M (p0 + 2) (M p0 4).toNatClampNeg))) rfl ⟨dX5_code_24, .int, rfl, rfl⟩ ⟨rfl, rfl, rfl⟩
set_option maxRecDepth 20000 in
theorem t_X5_isDigit {S : List vv_Sh} (n : Nat) (p0 : Nat) (M : vv_M) (u : Int32 × vv_M) (h0 : vv_model S p0) (hf : f_X5_isDigit n p0 M = some u) : vv_C yX5_isDigit (vv_w yX5_isDigit cX5_isDigit 1 (some .boolean)) (vv_R 1 0 0) [.ref p0] S M (some (.int u.1)) S u.2 := by
  refine vv_ofV (by decide +kernel) (Nat.le_of_ble_eq_true rfl) (L := [(0, .ref p0)]) rfl rfl rfl ?_
  show vv_V [] yX5_isDigit.cls yX5_isDigit.name cX5_isDigit 1 (some .boolean) (vv_R 1 0 0) S.length (vv_sz S) (vv_fi S u) 0 [(0, .ref p0)] [] S M
  unfold f_X5_isDigit at hf
  refine vi_aload_n 0 dX5_isDigit_0 rfl rfl ?_
  obtain ⟨u1, hu1, hf⟩ := vv_bd hf
  refine vi_callV (As := []) (st := []) (t_X5_code n p0 M u1 h0 hu1) rfl yo_X5_code wm_X5_130 wi_X5_code ws_X5_code wI_X5 wc_X5_code (vv_model_o h0) rfl ⟨Nat.le_of_ble_eq_true rfl, Nat.le_of_ble_eq_true rfl⟩ (vv_rm0 rfl rfl) (Nat.le_of_ble_eq_true rfl) rfl rfl dX5_isDigit_1 ?_
  refine vi_bipush (v := (48 : Int32)) dX5_isDigit_4 (by decide) ?_
  refine vi_bipush (v := (57 : Int32)) dX5_isDigit_6 (by decide) ?_
  obtain ⟨u2, hu2, hf⟩ := vv_bd hf
  refine vi_callS (As := [.int u1.1, .int (48 : Int32), .int (57 : Int32)]) (st := []) (t_X5_in n u1.1 (48 : Int32) (57 : Int32) u1.2 u2  hu2) rfl yo_X5_in wm_X5_23 wi_X5_in wI_X5 wc_X5_in ⟨Nat.le_of_ble_eq_true rfl, Nat.le_of_ble_eq_true rfl⟩ (vv_rm0 rfl rfl) (Nat.le_of_ble_eq_true rfl) rfl rfl dX5_isDigit_8 ?_
  obtain ⟨g3, hf⟩ := vv_gt hf
  obtain rfl := Option.some.inj hf
  exact vi_ret (v := some (.int u2.1)) rfl ⟨dX5_isDigit_11, .boolean, rfl, vv_nb g3⟩ ⟨rfl, rfl, rfl⟩
set_option maxRecDepth 20000 in
theorem t_X5_number_38 {S : List vv_Sh} (n : Nat)  (u : Int32 × vv_M)  (p0 : Nat) (x1 : Int32) (M : vv_M) (h0 : vv_model S p0) (hf : f_X5_number_38 n  p0 x1 M = some u) : vv_V [] yX5_number.cls yX5_number.name cX5_number 2 (some .int) (vv_R 2 0 0) S.length (vv_sz S) (vv_fi S u) 38 [(0, .ref p0), (1, .int x1)] [] S M := by
  unfold f_X5_number_38 at hf
  refine vi_bipush (v := (10 : Int32)) dX5_number_38 (by decide) ?_
  refine vi_iload_n 1 dX5_number_40 rfl rfl ?_
  refine vi_imul dX5_number_41 ?_
  refine vi_aload_n 0 dX5_number_42 rfl rfl ?_
  obtain ⟨u9, hu9, hf⟩ := vv_bd hf
  refine vi_callV (As := []) (st := [.int ((10 : Int32) * x1)]) (t_X5_code n p0 M u9 h0 hu9) rfl yo_X5_code wm_X5_130 wi_X5_code ws_X5_code wI_X5 wc_X5_code (vv_model_o h0) rfl ⟨Nat.le_of_ble_eq_true rfl, Nat.le_of_ble_eq_true rfl⟩ (vv_rm0 rfl rfl) (Nat.le_of_ble_eq_true rfl) rfl rfl dX5_number_43 ?_
  refine vi_iadd dX5_number_46 ?_
  refine vi_bipush (v := (48 : Int32)) dX5_number_47 (by decide) ?_
  refine vi_isub dX5_number_49 ?_
  obtain ⟨y10, ey10, hf⟩ := vv_lt hf
  refine vi_istore_n (L' := [(1, .int y10), (0, .ref p0)]) dX5_number_50 rfl (by decide) (by rw [ey10]; rfl) ?_
  refine vi_aload_n 1 dX5_number_51 rfl rfl ?_
  refine vi_dup dX5_number_52 rfl ?_
  refine vi_geti 4 rfl (vv_model_o h0) rfl wu_X5 (by decide) wf_X5_127 dX5_number_53 ?_
  refine vi_iconst (v := (1 : Int32)) dX5_number_56 (by decide) ?_
  refine vi_iadd dX5_number_57 ?_
  obtain ⟨M11, eM11, hf⟩ := vv_lt hf
  refine vi_puti 4 rfl eM11.symm (vv_model_o h0) rfl wu_X5 tyX5 tyX5_ok nmX5 (by decide) rfl (by decide +kernel) wf_X5_127 dX5_number_58 ?_
  refine vi_iload_n 0 dX5_number_61 rfl rfl ?_
  obtain rfl := Option.some.inj hf
  exact vi_ret (v := some (.int y10)) rfl ⟨dX5_number_62, .int, rfl, rfl⟩ ⟨rfl, rfl, rfl⟩
set_option maxRecDepth 20000 in
theorem t_X5_number {S : List vv_Sh} (n : Nat) (p0 : Nat) (M : vv_M) (u : Int32 × vv_M) (h0 : vv_model S p0) (hf : f_X5_number n p0 M = some u) : vv_C yX5_number (vv_w yX5_number cX5_number 2 (some .int)) (vv_R 2 0 0) [.ref p0] S M (some (.int u.1)) S u.2 := by
  refine vv_ofV (by decide +kernel) (Nat.le_of_ble_eq_true rfl) (L := [(0, .ref p0)]) rfl rfl rfl ?_
  show vv_V [] yX5_number.cls yX5_number.name cX5_number 2 (some .int) (vv_R 2 0 0) S.length (vv_sz S) (vv_fi S u) 0 [(0, .ref p0)] [] S M
  unfold f_X5_number at hf
  refine vi_aload_n 0 dX5_number_0 rfl rfl ?_
  obtain ⟨u1, hu1, hf⟩ := vv_bd hf
  refine vi_callV (As := []) (st := []) (t_X5_isDigit n p0 M u1 h0 hu1) rfl yo_X5_isDigit wm_X5_133 wi_X5_isDigit ws_X5_isDigit wI_X5 wc_X5_isDigit (vv_model_o h0) rfl ⟨Nat.le_of_ble_eq_true rfl, Nat.le_of_ble_eq_true rfl⟩ (vv_rm0 rfl rfl) (Nat.le_of_ble_eq_true rfl) rfl rfl dX5_number_1 ?_
  refine vi_if_ne 9 dX5_number_4 (by decide) (fun c2 => ?_) (fun c2 => ?_)
  · rw [if_neg c2] at hf
    refine vi_aload_n 0 dX5_number_9 rfl rfl ?_
    obtain ⟨u3, hu3, hf⟩ := vv_bd hf
    refine vi_callV (As := []) (st := []) (t_X5_code n p0 u1.2 u3 h0 hu3) rfl yo_X5_code wm_X5_130 wi_X5_code ws_X5_code wI_X5 wc_X5_code (vv_model_o h0) rfl ⟨Nat.le_of_ble_eq_true rfl, Nat.le_of_ble_eq_true rfl⟩ (vv_rm0 rfl rfl) (Nat.le_of_ble_eq_true rfl) rfl rfl dX5_number_10 ?_
    refine vi_bipush (v := (48 : Int32)) dX5_number_13 (by decide) ?_
    refine vi_isub dX5_number_15 ?_
    obtain ⟨y4, ey4, hf⟩ := vv_lt hf
    refine vi_istore_n (L' := [(1, .int y4), (0, .ref p0)]) dX5_number_16 rfl (by decide) (by rw [ey4]; rfl) ?_
    refine vi_aload_n 1 dX5_number_17 rfl rfl ?_
    refine vi_dup dX5_number_18 rfl ?_
    refine vi_geti 4 rfl (vv_model_o h0) rfl wu_X5 (by decide) wf_X5_127 dX5_number_19 ?_
    refine vi_iconst (v := (1 : Int32)) dX5_number_22 (by decide) ?_
    refine vi_iadd dX5_number_23 ?_
    obtain ⟨M5, eM5, hf⟩ := vv_lt hf
    refine vi_puti 4 rfl eM5.symm (vv_model_o h0) rfl wu_X5 tyX5 tyX5_ok nmX5 (by decide) rfl (by decide +kernel) wf_X5_127 dX5_number_24 ?_
    refine vi_iload_n 0 dX5_number_27 rfl rfl ?_
    refine vi_if_le 61 dX5_number_28 (by decide) (fun c6 => ?_) (fun c6 => ?_)
    · rw [if_pos c6] at hf
      refine vi_iload_n 0 dX5_number_61 rfl rfl ?_
      obtain rfl := Option.some.inj hf
      exact vi_ret (v := some (.int y4)) rfl ⟨dX5_number_62, .int, rfl, rfl⟩ ⟨rfl, rfl, rfl⟩
    · rw [if_neg c6] at hf
      refine vi_aload_n 1 dX5_number_31 rfl rfl ?_
      obtain ⟨u7, hu7, hf⟩ := vv_bd hf
      refine vi_callV (As := []) (st := []) (t_X5_isDigit n p0 M5 u7 h0 hu7) rfl yo_X5_isDigit wm_X5_133 wi_X5_isDigit ws_X5_isDigit wI_X5 wc_X5_isDigit (vv_model_o h0) rfl ⟨Nat.le_of_ble_eq_true rfl, Nat.le_of_ble_eq_true rfl⟩ (vv_rm0 rfl rfl) (Nat.le_of_ble_eq_true rfl) rfl rfl dX5_number_32 ?_
      refine vi_if_eq 61 dX5_number_35 (by decide) (fun c8 => ?_) (fun c8 => ?_)
      · rw [if_pos c8] at hf
        refine vi_iload_n 0 dX5_number_61 rfl rfl ?_
        obtain rfl := Option.some.inj hf
        exact vi_ret (v := some (.int y4)) rfl ⟨dX5_number_62, .int, rfl, rfl⟩ ⟨rfl, rfl, rfl⟩
      · rw [if_neg c8] at hf
        refine vi_sub (L' := [(0, .ref p0), (1, .int y4)]) [1, 0] rfl ?_
        exact t_X5_number_38 n  u  p0 y4 u7.2 h0 hf
  · rw [if_pos c2] at hf
    refine vi_iconst (v := (-1 : Int32)) dX5_number_7 (by decide) ?_
    obtain rfl := Option.some.inj hf
    exact vi_ret (v := some (.int (-1 : Int32))) rfl ⟨dX5_number_8, .int, rfl, rfl⟩ ⟨rfl, rfl, rfl⟩
set_option maxRecDepth 20000 in
theorem t_X5_readsOrder_80 {S : List vv_Sh} (n : Nat)  (u : Int32 × vv_M)  (p0 : Nat) (M : vv_M) (h0 : vv_model S p0) (hf : f_X5_readsOrder_80 n  p0 M = some u) : vv_V [] yX5_readsOrder.cls yX5_readsOrder.name cX5_readsOrder 1 (some .boolean) (vv_R 3 0 0) S.length (vv_sz S) (vv_fi S u) 80 [(0, .ref p0)] [] S M := by
  unfold f_X5_readsOrder_80 at hf
  refine vi_aload_n 0 dX5_readsOrder_80 rfl rfl ?_
  refine vi_geti 6 rfl (vv_model_o h0) rfl wu_X5 (by decide) wf_X5_142 dX5_readsOrder_81 ?_
  refine vi_if_lt 91 dX5_readsOrder_84 (by decide) (fun c8 => ?_) (fun c8 => ?_)
  · rw [if_pos c8] at hf
    refine vi_iconst (v := (0 : Int32)) dX5_readsOrder_91 (by decide) ?_
    obtain rfl := Option.some.inj hf
    exact vi_ret (v := some (.int (0 : Int32))) rfl ⟨dX5_readsOrder_92, .boolean, rfl, rfl⟩ ⟨rfl, rfl, rfl⟩
  · rw [if_neg c8] at hf
    refine vi_iconst (v := (1 : Int32)) dX5_readsOrder_87 (by decide) ?_
    refine vi_goto 92 dX5_readsOrder_88 (by decide) ?_
    obtain rfl := Option.some.inj hf
    exact vi_ret (v := some (.int (1 : Int32))) rfl ⟨dX5_readsOrder_92, .boolean, rfl, rfl⟩ ⟨rfl, rfl, rfl⟩
set_option maxRecDepth 20000 in
theorem t_X5_readsOrder_114 {S : List vv_Sh} (n : Nat)  (u : Int32 × vv_M)  (p0 : Nat) (M : vv_M) (h0 : vv_model S p0) (hf : f_X5_readsOrder_114 n  p0 M = some u) : vv_V [] yX5_readsOrder.cls yX5_readsOrder.name cX5_readsOrder 1 (some .boolean) (vv_R 3 0 0) S.length (vv_sz S) (vv_fi S u) 114 [(0, .ref p0)] [] S M := by
  unfold f_X5_readsOrder_114 at hf
  refine vi_aload_n 0 dX5_readsOrder_114 rfl rfl ?_
  refine vi_aload_n 0 dX5_readsOrder_115 rfl rfl ?_
  obtain ⟨u13, hu13, hf⟩ := vv_bd hf
  refine vi_callV (As := []) (st := [.ref p0]) (t_X5_number n p0 M u13 h0 hu13) rfl yo_X5_number wm_X5_139 wi_X5_number ws_X5_number wI_X5 wc_X5_number (vv_model_o h0) rfl ⟨Nat.le_of_ble_eq_true rfl, Nat.le_of_ble_eq_true rfl⟩ (vv_rm0 rfl rfl) (Nat.le_of_ble_eq_true rfl) rfl rfl dX5_readsOrder_116 ?_
  obtain ⟨M14, eM14, hf⟩ := vv_lt hf
  refine vi_puti 7 rfl eM14.symm (vv_model_o h0) rfl wu_X5 tyX5 tyX5_ok nmX5 (by decide) rfl (by decide +kernel) wf_X5_145 dX5_readsOrder_119 ?_
  refine vi_aload_n 0 dX5_readsOrder_122 rfl rfl ?_
  refine vi_geti 7 rfl (vv_model_o h0) rfl wu_X5 (by decide) wf_X5_145 dX5_readsOrder_123 ?_
  refine vi_if_lt 133 dX5_readsOrder_126 (by decide) (fun c15 => ?_) (fun c15 => ?_)
  · rw [if_pos c15] at hf
    refine vi_iconst (v := (0 : Int32)) dX5_readsOrder_133 (by decide) ?_
    obtain rfl := Option.some.inj hf
    exact vi_ret (v := some (.int (0 : Int32))) rfl ⟨dX5_readsOrder_134, .boolean, rfl, rfl⟩ ⟨rfl, rfl, rfl⟩
  · rw [if_neg c15] at hf
    refine vi_iconst (v := (1 : Int32)) dX5_readsOrder_129 (by decide) ?_
    refine vi_goto 134 dX5_readsOrder_130 (by decide) ?_
    obtain rfl := Option.some.inj hf
    exact vi_ret (v := some (.int (1 : Int32))) rfl ⟨dX5_readsOrder_134, .boolean, rfl, rfl⟩ ⟨rfl, rfl, rfl⟩
set_option maxRecDepth 20000 in
theorem t_X5_readsOrder_46 {S : List vv_Sh} (n : Nat)  (u : Int32 × vv_M)  (p0 : Nat) (M : vv_M) (h0 : vv_model S p0) (hf : f_X5_readsOrder_46 n  p0 M = some u) : vv_V [] yX5_readsOrder.cls yX5_readsOrder.name cX5_readsOrder 1 (some .boolean) (vv_R 3 0 0) S.length (vv_sz S) (vv_fi S u) 46 [(0, .ref p0)] [] S M := by
  unfold f_X5_readsOrder_46 at hf
  refine vi_aload_n 0 dX5_readsOrder_46 rfl rfl ?_
  refine vi_dup dX5_readsOrder_47 rfl ?_
  refine vi_geti 4 rfl (vv_model_o h0) rfl wu_X5 (by decide) wf_X5_127 dX5_readsOrder_48 ?_
  refine vi_iconst (v := (1 : Int32)) dX5_readsOrder_51 (by decide) ?_
  refine vi_iadd dX5_readsOrder_52 ?_
  obtain ⟨M4, eM4, hf⟩ := vv_lt hf
  refine vi_puti 4 rfl eM4.symm (vv_model_o h0) rfl wu_X5 tyX5 tyX5_ok nmX5 (by decide) rfl (by decide +kernel) wf_X5_127 dX5_readsOrder_53 ?_
  refine vi_aload_n 0 dX5_readsOrder_56 rfl rfl ?_
  refine vi_aload_n 0 dX5_readsOrder_57 rfl rfl ?_
  obtain ⟨u5, hu5, hf⟩ := vv_bd hf
  refine vi_callV (As := []) (st := [.ref p0]) (t_X5_number n p0 M4 u5 h0 hu5) rfl yo_X5_number wm_X5_139 wi_X5_number ws_X5_number wI_X5 wc_X5_number (vv_model_o h0) rfl ⟨Nat.le_of_ble_eq_true rfl, Nat.le_of_ble_eq_true rfl⟩ (vv_rm0 rfl rfl) (Nat.le_of_ble_eq_true rfl) rfl rfl dX5_readsOrder_58 ?_
  obtain ⟨M6, eM6, hf⟩ := vv_lt hf
  refine vi_puti 6 rfl eM6.symm (vv_model_o h0) rfl wu_X5 tyX5 tyX5_ok nmX5 (by decide) rfl (by decide +kernel) wf_X5_142 dX5_readsOrder_61 ?_
  refine vi_aload_n 0 dX5_readsOrder_64 rfl rfl ?_
  refine vi_geti 6 rfl (vv_model_o h0) rfl wu_X5 (by decide) wf_X5_142 dX5_readsOrder_65 ?_
  refine vi_if_lt 80 dX5_readsOrder_68 (by decide) (fun c7 => ?_) (fun c7 => ?_)
  · rw [if_pos c7] at hf
    exact t_X5_readsOrder_80 n  u  p0 M6 h0 hf
  · rw [if_neg c7] at hf
    refine vi_aload_n 0 dX5_readsOrder_71 rfl rfl ?_
    refine vi_geti 5 rfl (vv_model_o h0) rfl wu_X5 (by decide) wf_X5_136 dX5_readsOrder_72 ?_
    refine vi_bipush (v := (108 : Int32)) dX5_readsOrder_75 (by decide) ?_
    refine vi_icmp_eq 93 dX5_readsOrder_77 (by decide) (fun c9 => ?_) (fun c9 => ?_)
    · rw [if_pos c9] at hf
      refine vi_aload_n 0 dX5_readsOrder_93 rfl rfl ?_
      obtain ⟨u10, hu10, hf⟩ := vv_bd hf
      refine vi_callV (As := []) (st := []) (t_X5_code n p0 M6 u10 h0 hu10) rfl yo_X5_code wm_X5_130 wi_X5_code ws_X5_code wI_X5 wc_X5_code (vv_model_o h0) rfl ⟨Nat.le_of_ble_eq_true rfl, Nat.le_of_ble_eq_true rfl⟩ (vv_rm0 rfl rfl) (Nat.le_of_ble_eq_true rfl) rfl rfl dX5_readsOrder_94 ?_
      refine vi_bipush (v := (44 : Int32)) dX5_readsOrder_97 (by decide) ?_
      refine vi_icmp_eq 104 dX5_readsOrder_99 (by decide) (fun c11 => ?_) (fun c11 => ?_)
      · rw [if_pos c11] at hf
        refine vi_aload_n 0 dX5_readsOrder_104 rfl rfl ?_
        refine vi_dup dX5_readsOrder_105 rfl ?_
        refine vi_geti 4 rfl (vv_model_o h0) rfl wu_X5 (by decide) wf_X5_127 dX5_readsOrder_106 ?_
        refine vi_iconst (v := (1 : Int32)) dX5_readsOrder_109 (by decide) ?_
        refine vi_iadd dX5_readsOrder_110 ?_
        obtain ⟨M12, eM12, hf⟩ := vv_lt hf
        refine vi_puti 4 rfl eM12.symm (vv_model_o h0) rfl wu_X5 tyX5 tyX5_ok nmX5 (by decide) rfl (by decide +kernel) wf_X5_127 dX5_readsOrder_111 ?_
        exact t_X5_readsOrder_114 n  u  p0 M12 h0 hf
      · rw [if_neg c11] at hf
        refine vi_iconst (v := (0 : Int32)) dX5_readsOrder_102 (by decide) ?_
        obtain rfl := Option.some.inj hf
        exact vi_ret (v := some (.int (0 : Int32))) rfl ⟨dX5_readsOrder_103, .boolean, rfl, rfl⟩ ⟨rfl, rfl, rfl⟩
    · rw [if_neg c9] at hf
      exact t_X5_readsOrder_80 n  u  p0 M6 h0 hf
set_option maxRecDepth 20000 in
theorem t_X5_readsOrder {S : List vv_Sh} (n : Nat) (p0 : Nat) (M : vv_M) (u : Int32 × vv_M) (h0 : vv_model S p0) (hf : f_X5_readsOrder n p0 M = some u) : vv_C yX5_readsOrder (vv_w yX5_readsOrder cX5_readsOrder 1 (some .boolean)) (vv_R 3 0 0) [.ref p0] S M (some (.int u.1)) S u.2 := by
  refine vv_ofV (by decide +kernel) (Nat.le_of_ble_eq_true rfl) (L := [(0, .ref p0)]) rfl rfl rfl ?_
  show vv_V [] yX5_readsOrder.cls yX5_readsOrder.name cX5_readsOrder 1 (some .boolean) (vv_R 3 0 0) S.length (vv_sz S) (vv_fi S u) 0 [(0, .ref p0)] [] S M
  unfold f_X5_readsOrder at hf
  refine vi_aload_n 0 dX5_readsOrder_0 rfl rfl ?_
  refine vi_aload_n 0 dX5_readsOrder_1 rfl rfl ?_
  obtain ⟨u1, hu1, hf⟩ := vv_bd hf
  refine vi_callV (As := []) (st := [.ref p0]) (t_X5_code n p0 M u1 h0 hu1) rfl yo_X5_code wm_X5_130 wi_X5_code ws_X5_code wI_X5 wc_X5_code (vv_model_o h0) rfl ⟨Nat.le_of_ble_eq_true rfl, Nat.le_of_ble_eq_true rfl⟩ (vv_rm0 rfl rfl) (Nat.le_of_ble_eq_true rfl) rfl rfl dX5_readsOrder_2 ?_
  obtain ⟨M2, eM2, hf⟩ := vv_lt hf
  refine vi_puti 5 rfl eM2.symm (vv_model_o h0) rfl wu_X5 tyX5 tyX5_ok nmX5 (by decide) rfl (by decide +kernel) wf_X5_136 dX5_readsOrder_5 ?_
  refine vi_aload_n 0 dX5_readsOrder_8 rfl rfl ?_
  refine vi_geti 5 rfl (vv_model_o h0) rfl wu_X5 (by decide) wf_X5_136 dX5_readsOrder_9 ?_
  refine vi_bipush (v := (108 : Int32)) dX5_readsOrder_12 (by decide) ?_
  refine vi_icmp_eq 46 dX5_readsOrder_14 (by decide) (fun c3 => ?_) (fun c3 => ?_)
  · rw [if_pos c3] at hf
    exact t_X5_readsOrder_46 n  u  p0 M2 h0 hf
  · rw [if_neg c3] at hf
    refine vi_aload_n 0 dX5_readsOrder_17 rfl rfl ?_
    refine vi_geti 5 rfl (vv_model_o h0) rfl wu_X5 (by decide) wf_X5_136 dX5_readsOrder_18 ?_
    refine vi_bipush (v := (112 : Int32)) dX5_readsOrder_21 (by decide) ?_
    refine vi_icmp_eq 46 dX5_readsOrder_23 (by decide) (fun c16 => ?_) (fun c16 => ?_)
    · rw [if_pos c16] at hf
      exact t_X5_readsOrder_46 n  u  p0 M2 h0 hf
    · rw [if_neg c16] at hf
      refine vi_aload_n 0 dX5_readsOrder_26 rfl rfl ?_
      refine vi_geti 5 rfl (vv_model_o h0) rfl wu_X5 (by decide) wf_X5_136 dX5_readsOrder_27 ?_
      refine vi_bipush (v := (116 : Int32)) dX5_readsOrder_30 (by decide) ?_
      refine vi_icmp_eq 46 dX5_readsOrder_32 (by decide) (fun c17 => ?_) (fun c17 => ?_)
      · rw [if_pos c17] at hf
        exact t_X5_readsOrder_46 n  u  p0 M2 h0 hf
      · rw [if_neg c17] at hf
        refine vi_aload_n 0 dX5_readsOrder_35 rfl rfl ?_
        refine vi_geti 5 rfl (vv_model_o h0) rfl wu_X5 (by decide) wf_X5_136 dX5_readsOrder_36 ?_
        refine vi_bipush (v := (115 : Int32)) dX5_readsOrder_39 (by decide) ?_
        refine vi_icmp_eq 46 dX5_readsOrder_41 (by decide) (fun c18 => ?_) (fun c18 => ?_)
        · rw [if_pos c18] at hf
          exact t_X5_readsOrder_46 n  u  p0 M2 h0 hf
        · rw [if_neg c18] at hf
          refine vi_iconst (v := (0 : Int32)) dX5_readsOrder_44 (by decide) ?_
          obtain rfl := Option.some.inj hf
          exact vi_ret (v := some (.int (0 : Int32))) rfl ⟨dX5_readsOrder_45, .boolean, rfl, rfl⟩ ⟨rfl, rfl, rfl⟩
set_option maxRecDepth 20000 in
theorem t_X5_faultOf_78 {S : List vv_Sh} (n : Nat)  (u : Int32 × vv_M)  (p0 : Nat) (x1 : Int32) (M : vv_M) (h0 : vv_model S p0) (hf : f_X5_faultOf_78 n  p0 x1 M = some u) : vv_V [] yX5_faultOf.cls yX5_faultOf.name cX5_faultOf 2 (some .int) (vv_R 4 0 0) S.length (vv_sz S) (vv_fi S u) 78 [(0, .ref p0), (1, .int x1)] [] S M := by
  unfold f_X5_faultOf_78 at hf
  refine vi_iload_n 1 dX5_faultOf_78 rfl rfl ?_
  refine vi_if_eq 86 dX5_faultOf_79 (by decide) (fun c5 => ?_) (fun c5 => ?_)
  · rw [if_pos c5] at hf
    refine vi_aload_n 0 dX5_faultOf_86 rfl rfl ?_
    refine vi_geti 4 rfl (vv_model_o h0) rfl wu_X5 (by decide) wf_X5_127 dX5_faultOf_87 ?_
    obtain rfl := Option.some.inj hf
    exact vi_ret (v := some (.int (M p0 4))) rfl ⟨dX5_faultOf_90, .int, rfl, rfl⟩ ⟨rfl, rfl, rfl⟩
  · rw [if_neg c5] at hf
    refine vi_iconst (v := (-1 : Int32)) dX5_faultOf_82 (by decide) ?_
    refine vi_goto 90 dX5_faultOf_83 (by decide) ?_
    obtain rfl := Option.some.inj hf
    exact vi_ret (v := some (.int (-1 : Int32))) rfl ⟨dX5_faultOf_90, .int, rfl, rfl⟩ ⟨rfl, rfl, rfl⟩
set_option maxRecDepth 20000 in
theorem t_X5_faultOf_74 {S : List vv_Sh} (n : Nat) (k10 : Nat → Int32 → vv_M → Option (Int32 × vv_M)) (u : Int32 × vv_M) (hk10 : ∀ (p0 : Nat) (x1 : Int32) (M : vv_M) (h0 : vv_model S p0) (hf : k10 p0 x1 M = some u), vv_V [] yX5_faultOf.cls yX5_faultOf.name cX5_faultOf 2 (some .int) (vv_R 4 0 0) S.length (vv_sz S) (vv_fi S u) 10 [(0, .ref p0), (1, .int x1)] [] S M) (p0 : Nat) (s0 : Int32) (M : vv_M) (h0 : vv_model S p0) (hf : f_X5_faultOf_74 n k10 p0 s0 M = some u) : vv_V [] yX5_faultOf.cls yX5_faultOf.name cX5_faultOf 2 (some .int) (vv_R 4 0 0) S.length (vv_sz S) (vv_fi S u) 74 [(0, .ref p0)] [.int s0] S M := by
  unfold f_X5_faultOf_74 at hf
  refine vi_istore_n (L' := [(1, .int s0), (0, .ref p0)]) dX5_faultOf_74 rfl (by decide) rfl ?_
  refine vi_goto 10 dX5_faultOf_75 (by decide) ?_
  refine vi_sub (L' := [(0, .ref p0), (1, .int s0)]) [1, 0] rfl ?_
  exact hk10 p0 s0 M h0 hf
set_option maxRecDepth 20000 in
theorem t_X5_faultOf_73 {S : List vv_Sh} (n : Nat) (k10 : Nat → Int32 → vv_M → Option (Int32 × vv_M)) (u : Int32 × vv_M) (hk10 : ∀ (p0 : Nat) (x1 : Int32) (M : vv_M) (h0 : vv_model S p0) (hf : k10 p0 x1 M = some u), vv_V [] yX5_faultOf.cls yX5_faultOf.name cX5_faultOf 2 (some .int) (vv_R 4 0 0) S.length (vv_sz S) (vv_fi S u) 10 [(0, .ref p0), (1, .int x1)] [] S M) (p0 : Nat) (M : vv_M) (h0 : vv_model S p0) (hf : f_X5_faultOf_73 n k10 p0 M = some u) : vv_V [] yX5_faultOf.cls yX5_faultOf.name cX5_faultOf 2 (some .int) (vv_R 4 0 0) S.length (vv_sz S) (vv_fi S u) 73 [(0, .ref p0)] [] S M := by
  unfold f_X5_faultOf_73 at hf
  refine vi_iconst (v := (0 : Int32)) dX5_faultOf_73 (by decide) ?_
  exact t_X5_faultOf_74 n k10 u hk10 p0 (0 : Int32) M h0 hf
set_option maxRecDepth 20000 in
theorem t_X5_faultOf_54 {S : List vv_Sh} (n : Nat) (k10 : Nat → Int32 → vv_M → Option (Int32 × vv_M)) (u : Int32 × vv_M) (hk10 : ∀ (p0 : Nat) (x1 : Int32) (M : vv_M) (h0 : vv_model S p0) (hf : k10 p0 x1 M = some u), vv_V [] yX5_faultOf.cls yX5_faultOf.name cX5_faultOf 2 (some .int) (vv_R 4 0 0) S.length (vv_sz S) (vv_fi S u) 10 [(0, .ref p0), (1, .int x1)] [] S M) (p0 : Nat) (x1 : Int32) (s0 : Nat) (s1 : Int32) (s2 : Int32) (M : vv_M) (h0 : vv_model S p0) (g0 : vv_model S s0) (hf : f_X5_faultOf_54 n k10 p0 x1 s0 s1 s2 M = some u) : vv_V [] yX5_faultOf.cls yX5_faultOf.name cX5_faultOf 2 (some .int) (vv_R 4 0 0) S.length (vv_sz S) (vv_fi S u) 54 [(0, .ref p0), (1, .int x1)] [.int s2, .int s1, .ref s0] S M := by
  unfold f_X5_faultOf_54 at hf
  refine vi_iadd dX5_faultOf_54 ?_
  obtain ⟨M10, eM10, hf⟩ := vv_lt hf
  refine vi_puti 4 rfl eM10.symm (vv_model_o g0) rfl wu_X5 tyX5 tyX5_ok nmX5 (by decide) rfl (by decide +kernel) wf_X5_127 dX5_faultOf_55 ?_
  refine vi_iload_n 1 dX5_faultOf_58 rfl rfl ?_
  refine vi_if_eq 73 dX5_faultOf_59 (by decide) (fun c11 => ?_) (fun c11 => ?_)
  · rw [if_pos c11] at hf
    refine vi_sub (L' := [(0, .ref p0)]) [0] rfl ?_
    exact t_X5_faultOf_73 n k10 u hk10 p0 M10 h0 hf
  · rw [if_neg c11] at hf
    refine vi_aload_n 0 dX5_faultOf_62 rfl rfl ?_
    obtain ⟨u12, hu12, hf⟩ := vv_bd hf
    refine vi_callV (As := []) (st := []) (t_X5_readsOrder n p0 M10 u12 h0 hu12) rfl yo_X5_readsOrder wm_X5_148 wi_X5_readsOrder ws_X5_readsOrder wI_X5 wc_X5_readsOrder (vv_model_o h0) rfl ⟨Nat.le_of_ble_eq_true rfl, Nat.le_of_ble_eq_true rfl⟩ (vv_rm0 rfl rfl) (Nat.le_of_ble_eq_true rfl) rfl rfl dX5_faultOf_63 ?_
    refine vi_if_eq 73 dX5_faultOf_66 (by decide) (fun c13 => ?_) (fun c13 => ?_)
    · rw [if_pos c13] at hf
      refine vi_sub (L' := [(0, .ref p0)]) [0] rfl ?_
      exact t_X5_faultOf_73 n k10 u hk10 p0 u12.2 h0 hf
    · rw [if_neg c13] at hf
      refine vi_iconst (v := (1 : Int32)) dX5_faultOf_69 (by decide) ?_
      refine vi_goto 74 dX5_faultOf_70 (by decide) ?_
      refine vi_sub (L' := [(0, .ref p0)]) [0] rfl ?_
      exact t_X5_faultOf_74 n k10 u hk10 p0 (1 : Int32) u12.2 h0 hf
set_option maxRecDepth 20000 in
theorem t_X5_faultOf_39 {S : List vv_Sh} (n : Nat) (k10 : Nat → Int32 → vv_M → Option (Int32 × vv_M)) (u : Int32 × vv_M) (hk10 : ∀ (p0 : Nat) (x1 : Int32) (M : vv_M) (h0 : vv_model S p0) (hf : k10 p0 x1 M = some u), vv_V [] yX5_faultOf.cls yX5_faultOf.name cX5_faultOf 2 (some .int) (vv_R 4 0 0) S.length (vv_sz S) (vv_fi S u) 10 [(0, .ref p0), (1, .int x1)] [] S M) (p0 : Nat) (s0 : Int32) (M : vv_M) (h0 : vv_model S p0) (hf : f_X5_faultOf_39 n k10 p0 s0 M = some u) : vv_V [] yX5_faultOf.cls yX5_faultOf.name cX5_faultOf 2 (some .int) (vv_R 4 0 0) S.length (vv_sz S) (vv_fi S u) 39 [(0, .ref p0)] [.int s0] S M := by
  unfold f_X5_faultOf_39 at hf
  refine vi_istore_n (L' := [(1, .int s0), (0, .ref p0)]) dX5_faultOf_39 rfl (by decide) rfl ?_
  refine vi_aload_n 1 dX5_faultOf_40 rfl rfl ?_
  refine vi_dup dX5_faultOf_41 rfl ?_
  refine vi_geti 4 rfl (vv_model_o h0) rfl wu_X5 (by decide) wf_X5_127 dX5_faultOf_42 ?_
  refine vi_iload_n 0 dX5_faultOf_45 rfl rfl ?_
  refine vi_if_eq 53 dX5_faultOf_46 (by decide) (fun c9 => ?_) (fun c9 => ?_)
  · rw [if_pos c9] at hf
    refine vi_iconst (v := (0 : Int32)) dX5_faultOf_53 (by decide) ?_
    refine vi_sub (L' := [(0, .ref p0), (1, .int s0)]) [1, 0] rfl ?_
    exact t_X5_faultOf_54 n k10 u hk10 p0 s0 p0 (M p0 4) (0 : Int32) M h0 h0 hf
  · rw [if_neg c9] at hf
    refine vi_iconst (v := (1 : Int32)) dX5_faultOf_49 (by decide) ?_
    refine vi_goto 54 dX5_faultOf_50 (by decide) ?_
    refine vi_sub (L' := [(0, .ref p0), (1, .int s0)]) [1, 0] rfl ?_
    exact t_X5_faultOf_54 n k10 u hk10 p0 s0 p0 (M p0 4) (1 : Int32) M h0 h0 hf
set_option maxRecDepth 20000 in
theorem t_X5_faultOf_10 {S : List vv_Sh} (n : Nat)  (u : Int32 × vv_M)  : ∀ (k : Nat) (p0 : Nat) (x1 : Int32) (M : vv_M) (h0 : vv_model S p0) (hf : f_X5_faultOf_10 n  k p0 x1 M = some u), vv_V [] yX5_faultOf.cls yX5_faultOf.name cX5_faultOf 2 (some .int) (vv_R 4 0 0) S.length (vv_sz S) (vv_fi S u) 10 [(0, .ref p0), (1, .int x1)] [] S M := by
  intro k
  induction k with
  | zero =>
    intro p0 x1 M h0 hf
    exact absurd (show (none : Option (Int32 × vv_M)) = some u from hf) (by simp)
  | succ k ih =>
    intro p0 x1 M h0 hf
    rw [f_X5_faultOf_10.eq_2] at hf
    refine vi_iload_n 1 dX5_faultOf_10 rfl rfl ?_
    refine vi_if_eq 78 dX5_faultOf_11 (by decide) (fun c4 => ?_) (fun c4 => ?_)
    · rw [if_pos c4] at hf
      exact t_X5_faultOf_78 n  u  p0 x1 M h0 hf
    · rw [if_neg c4] at hf
      refine vi_aload_n 0 dX5_faultOf_14 rfl rfl ?_
      refine vi_geti 4 rfl (vv_model_o h0) rfl wu_X5 (by decide) wf_X5_127 dX5_faultOf_15 ?_
      refine vi_aload_n 0 dX5_faultOf_18 rfl rfl ?_
      refine vi_geti 3 rfl (vv_model_o h0) rfl wu_X5 (by decide) wf_X5_124 dX5_faultOf_19 ?_
      refine vi_icmp_ge 78 dX5_faultOf_22 (by decide) (fun c6 => ?_) (fun c6 => ?_)
      · rw [if_pos c6] at hf
        exact t_X5_faultOf_78 n  u  p0 x1 M h0 hf
      · rw [if_neg c6] at hf
        refine vi_aload_n 0 dX5_faultOf_25 rfl rfl ?_
        obtain ⟨u7, hu7, hf⟩ := vv_bd hf
        refine vi_callV (As := []) (st := []) (t_X5_code n p0 M u7 h0 hu7) rfl yo_X5_code wm_X5_130 wi_X5_code ws_X5_code wI_X5 wc_X5_code (vv_model_o h0) rfl ⟨Nat.le_of_ble_eq_true rfl, Nat.le_of_ble_eq_true rfl⟩ (vv_rm0 rfl rfl) (Nat.le_of_ble_eq_true rfl) rfl rfl dX5_faultOf_26 ?_
        refine vi_bipush (v := (59 : Int32)) dX5_faultOf_29 (by decide) ?_
        refine vi_icmp_ne 38 dX5_faultOf_31 (by decide) (fun c8 => ?_) (fun c8 => ?_)
        · rw [if_neg c8] at hf
          refine vi_iconst (v := (0 : Int32)) dX5_faultOf_38 (by decide) ?_
          refine vi_sub (L' := [(0, .ref p0)]) [0] rfl ?_
          exact t_X5_faultOf_39 n (f_X5_faultOf_10 n k) u ih p0 (0 : Int32) u7.2 h0 hf
        · rw [if_pos c8] at hf
          refine vi_iconst (v := (1 : Int32)) dX5_faultOf_34 (by decide) ?_
          refine vi_goto 39 dX5_faultOf_35 (by decide) ?_
          refine vi_sub (L' := [(0, .ref p0)]) [0] rfl ?_
          exact t_X5_faultOf_39 n (f_X5_faultOf_10 n k) u ih p0 (1 : Int32) u7.2 h0 hf
set_option maxRecDepth 20000 in
theorem t_X5_faultOf {S : List vv_Sh} (n : Nat) (p0 : Nat) (M : vv_M) (u : Int32 × vv_M) (h0 : vv_model S p0) (hf : f_X5_faultOf n p0 M = some u) : vv_C yX5_faultOf (vv_w yX5_faultOf cX5_faultOf 2 (some .int)) (vv_R 4 0 0) [.ref p0] S M (some (.int u.1)) S u.2 := by
  refine vv_ofV (by decide +kernel) (Nat.le_of_ble_eq_true rfl) (L := [(0, .ref p0)]) rfl rfl rfl ?_
  show vv_V [] yX5_faultOf.cls yX5_faultOf.name cX5_faultOf 2 (some .int) (vv_R 4 0 0) S.length (vv_sz S) (vv_fi S u) 0 [(0, .ref p0)] [] S M
  unfold f_X5_faultOf at hf
  refine vi_aload_n 0 dX5_faultOf_0 rfl rfl ?_
  refine vi_iconst (v := (0 : Int32)) dX5_faultOf_1 (by decide) ?_
  obtain ⟨M1, eM1, hf⟩ := vv_lt hf
  refine vi_puti 4 rfl eM1.symm (vv_model_o h0) rfl wu_X5 tyX5 tyX5_ok nmX5 (by decide) rfl (by decide +kernel) wf_X5_127 dX5_faultOf_2 ?_
  refine vi_aload_n 0 dX5_faultOf_5 rfl rfl ?_
  obtain ⟨u2, hu2, hf⟩ := vv_bd hf
  refine vi_callV (As := []) (st := []) (t_X5_readsOrder n p0 M1 u2 h0 hu2) rfl yo_X5_readsOrder wm_X5_148 wi_X5_readsOrder ws_X5_readsOrder wI_X5 wc_X5_readsOrder (vv_model_o h0) rfl ⟨Nat.le_of_ble_eq_true rfl, Nat.le_of_ble_eq_true rfl⟩ (vv_rm0 rfl rfl) (Nat.le_of_ble_eq_true rfl) rfl rfl dX5_faultOf_6 ?_
  obtain ⟨y3, ey3, hf⟩ := vv_lt hf
  refine vi_istore_n (L' := [(1, .int y3), (0, .ref p0)]) dX5_faultOf_9 rfl (by decide) (by rw [ey3]; rfl) ?_
  refine vi_sub (L' := [(0, .ref p0), (1, .int y3)]) [1, 0] rfl ?_
  exact t_X5_faultOf_10 n  u  n p0 y3 u2.2 h0 hf
set_option maxRecDepth 20000 in
theorem t_X5_does_172 {S : List vv_Sh} (n : Nat)  (u : Int32 × vv_M)  (x1 : Int32) (M : vv_M)  (hf : f_X5_does_172 n  x1 M = some u) : vv_V [] yX5_does.cls yX5_does.name cX5_does 2 (some .boolean) (vv_R 6 0 0) S.length (vv_sz S) (vv_fi S u) 172 [(1, .int x1)] [] S M := by
  unfold f_X5_does_172 at hf
  refine vi_iload_n 0 dX5_does_172 rfl rfl ?_
  refine vi_if_ne 180 dX5_does_173 (by decide) (fun c5 => ?_) (fun c5 => ?_)
  · rw [if_neg c5] at hf
    refine vi_iconst (v := (0 : Int32)) dX5_does_180 (by decide) ?_
    obtain rfl := Option.some.inj hf
    exact vi_ret (v := some (.int (0 : Int32))) rfl ⟨dX5_does_181, .boolean, rfl, rfl⟩ ⟨rfl, rfl, rfl⟩
  · rw [if_pos c5] at hf
    refine vi_iconst (v := (1 : Int32)) dX5_does_176 (by decide) ?_
    refine vi_goto 181 dX5_does_177 (by decide) ?_
    obtain rfl := Option.some.inj hf
    exact vi_ret (v := some (.int (1 : Int32))) rfl ⟨dX5_does_181, .boolean, rfl, rfl⟩ ⟨rfl, rfl, rfl⟩
set_option maxRecDepth 20000 in
theorem t_X5_does_125 {S : List vv_Sh} (n : Nat)  (u : Int32 × vv_M)  (x1 : Int32) (M : vv_M)  (hf : f_X5_does_125 n  x1 M = some u) : vv_V [] yX5_does.cls yX5_does.name cX5_does 2 (some .boolean) (vv_R 6 0 0) S.length (vv_sz S) (vv_fi S u) 125 [(1, .int x1)] [] S M := by
  unfold f_X5_does_125 at hf
  refine vi_goto 172 dX5_does_125 (by decide) ?_
  exact t_X5_does_172 n  u  x1 M  hf
set_option maxRecDepth 20000 in
theorem t_X5_does_171 {S : List vv_Sh} (n : Nat)  (u : Int32 × vv_M)  (x1 : Int32) (s0 : Nat) (s1 : Int32) (s2 : Int32) (M : vv_M) (g0 : S[s0]? = some (.inl (0, 13445))) (hf : f_X5_does_171 n  x1 s0 s1 s2 M = some u) : vv_V [] yX5_does.cls yX5_does.name cX5_does 2 (some .boolean) (vv_R 6 0 0) S.length (vv_sz S) (vv_fi S u) 171 [(1, .int x1)] [.int s2, .int s1, .ref s0] S M := by
  unfold f_X5_does_171 at hf
  obtain ⟨g22, hf⟩ := vv_gd hf
  obtain ⟨M23, eM23, hf⟩ := vv_lt hf
  refine vi_iast g0 g22 eM23.symm dX5_does_171 ?_
  exact t_X5_does_172 n  u  x1 M23  hf
set_option maxRecDepth 20000 in
theorem t_X5_does_146 {S : List vv_Sh} (n : Nat)  (u : Int32 × vv_M)  (p0 : Nat) (s0 : Int32) (M : vv_M) (h0 : vv_model S p0) (hf : f_X5_does_146 n  p0 s0 M = some u) : vv_V [] yX5_does.cls yX5_does.name cX5_does 2 (some .boolean) (vv_R 6 0 0) S.length (vv_sz S) (vv_fi S u) 146 [(0, .ref p0)] [.int s0] S M := by
  unfold f_X5_does_146 at hf
  refine vi_istore_n (L' := [(1, .int s0), (0, .ref p0)]) dX5_does_146 rfl (by decide) rfl ?_
  refine vi_aload_n 1 dX5_does_147 rfl rfl ?_
  refine vi_getr (t := p0 + 1) 0 rfl (vv_model_o h0) rfl wu_X5 (by decide) wf_X5_7 dX5_does_148 ?_
  refine vi_bipush (v := (48 : Int32)) dX5_does_151 (by decide) ?_
  refine vi_iload_n 0 dX5_does_153 rfl rfl ?_
  refine vi_if_ne 164 dX5_does_154 (by decide) (fun c21 => ?_) (fun c21 => ?_)
  · rw [if_neg c21] at hf
    refine vi_aload_n 1 dX5_does_164 rfl rfl ?_
    refine vi_getr (t := p0 + 1) 0 rfl (vv_model_o h0) rfl wu_X5 (by decide) wf_X5_7 dX5_does_165 ?_
    refine vi_bipush (v := (48 : Int32)) dX5_does_168 (by decide) ?_
    obtain ⟨g24, hf⟩ := vv_gd hf
    refine vi_iald (vv_model_row h0) g24 dX5_does_170 ?_
    refine vi_sub (L' := [(1, .int s0)]) [0] rfl ?_
    exact t_X5_does_171 n  u  s0 (p0 + 1) (48 : Int32) (M (p0 + 1) (48 : Int32).toNatClampNeg) M (vv_model_row h0) hf
  · rw [if_pos c21] at hf
    refine vi_aload_n 1 dX5_does_157 rfl rfl ?_
    refine vi_geti 6 rfl (vv_model_o h0) rfl wu_X5 (by decide) wf_X5_142 dX5_does_158 ?_
    refine vi_goto 171 dX5_does_161 (by decide) ?_
    refine vi_sub (L' := [(1, .int s0)]) [0] rfl ?_
    exact t_X5_does_171 n  u  s0 (p0 + 1) (48 : Int32) (M p0 6) M (vv_model_row h0) hf
set_option maxRecDepth 20000 in
theorem t_X5_does {S : List vv_Sh} (n : Nat) (p0 : Nat) (M : vv_M) (u : Int32 × vv_M) (h0 : vv_model S p0) (hf : f_X5_does n p0 M = some u) : vv_C yX5_does (vv_w yX5_does cX5_does 2 (some .boolean)) (vv_R 6 0 0) [.ref p0] S M (some (.int u.1)) S u.2 := by
  refine vv_ofV (by decide +kernel) (Nat.le_of_ble_eq_true rfl) (L := [(0, .ref p0)]) rfl rfl rfl ?_
  show vv_V [] yX5_does.cls yX5_does.name cX5_does 2 (some .boolean) (vv_R 6 0 0) S.length (vv_sz S) (vv_fi S u) 0 [(0, .ref p0)] [] S M
  unfold f_X5_does at hf
  refine vi_iconst (v := (0 : Int32)) dX5_does_0 (by decide) ?_
  refine vi_istore_n (L' := [(1, .int (0 : Int32)), (0, .ref p0)]) dX5_does_1 rfl (by decide) rfl ?_
  refine vi_aload_n 1 dX5_does_2 rfl rfl ?_
  refine vi_geti 5 rfl (vv_model_o h0) rfl wu_X5 (by decide) wf_X5_136 dX5_does_3 ?_
  by_cases c1 : (M p0 5) = (108 : Int32)
  · rw [if_pos c1] at hf
    refine vi_lookup 40 dX5_does_6 (by decide) (by first | (rw [c1]; done) | (rw [c1]; rfl)) (by decide) ?_
    refine vi_aload_n 1 dX5_does_40 rfl rfl ?_
    refine vi_aload_n 1 dX5_does_41 rfl rfl ?_
    refine vi_geti 6 rfl (vv_model_o h0) rfl wu_X5 (by decide) wf_X5_142 dX5_does_42 ?_
    refine vi_aload_n 1 dX5_does_45 rfl rfl ?_
    refine vi_geti 7 rfl (vv_model_o h0) rfl wu_X5 (by decide) wf_X5_145 dX5_does_46 ?_
    obtain ⟨u2, hu2, hf⟩ := vv_bd hf
    refine vi_callV (As := [.int (M p0 6), .int (M p0 7)]) (st := []) (t_X5_noLoad n p0 (M p0 6) (M p0 7) M u2 h0 hu2) rfl yo_X5_noLoad wm_X5_77 wi_X5_noLoad ws_X5_noLoad wI_X5 wc_X5_noLoad (vv_model_o h0) rfl ⟨Nat.le_of_ble_eq_true rfl, Nat.le_of_ble_eq_true rfl⟩ (vv_rm0 rfl rfl) (Nat.le_of_ble_eq_true rfl) rfl rfl dX5_does_49 ?_
    obtain ⟨y3, ey3, hf⟩ := vv_lt hf
    refine vi_istore_n (L' := [(1, .int y3), (0, .ref p0)]) dX5_does_52 rfl (by decide) (by rw [ey3]; rfl) ?_
    refine vi_iload_n 0 dX5_does_53 rfl rfl ?_
    refine vi_if_ne 172 dX5_does_54 (by decide) (fun c4 => ?_) (fun c4 => ?_)
    · rw [if_neg c4] at hf
      refine vi_sub (L' := [(1, .int y3)]) [0] rfl ?_
      exact t_X5_does_172 n  u  y3 u2.2  hf
    · rw [if_pos c4] at hf
      refine vi_aload_n 1 dX5_does_57 rfl rfl ?_
      refine vi_aload_n 1 dX5_does_58 rfl rfl ?_
      refine vi_geti 6 rfl (vv_model_o h0) rfl wu_X5 (by decide) wf_X5_142 dX5_does_59 ?_
      refine vi_aload_n 1 dX5_does_62 rfl rfl ?_
      refine vi_geti 7 rfl (vv_model_o h0) rfl wu_X5 (by decide) wf_X5_145 dX5_does_63 ?_
      obtain ⟨u6, hu6, hf⟩ := vv_bd hf
      refine vi_callV (As := [.int (u2.2 p0 6), .int (u2.2 p0 7)]) (st := []) (t_X5_doLoad n p0 (u2.2 p0 6) (u2.2 p0 7) u2.2 u6 h0 hu6) rfl yo_X5_doLoad wm_X5_80 wi_X5_doLoad ws_X5_doLoad wI_X5 wc_X5_doLoad (vv_model_o h0) rfl ⟨Nat.le_of_ble_eq_true rfl, Nat.le_of_ble_eq_true rfl⟩ (vv_rm0 rfl rfl) (Nat.le_of_ble_eq_true rfl) rfl rfl dX5_does_66 ?_
      refine vi_pop dX5_does_69 rfl ?_
      refine vi_goto 172 dX5_does_70 (by decide) ?_
      refine vi_sub (L' := [(1, .int y3)]) [0] rfl ?_
      exact t_X5_does_172 n  u  y3 u6.2  hf
  rw [if_neg c1] at hf
  by_cases c7 : (M p0 5) = (112 : Int32)
  · rw [if_pos c7] at hf
    refine vi_lookup 73 dX5_does_6 (by decide) (by first | (rw [c7]; done) | (rw [c7]; rfl)) (by decide) ?_
    refine vi_aload_n 1 dX5_does_73 rfl rfl ?_
    refine vi_aload_n 1 dX5_does_74 rfl rfl ?_
    refine vi_geti 6 rfl (vv_model_o h0) rfl wu_X5 (by decide) wf_X5_142 dX5_does_75 ?_
    obtain ⟨u8, hu8, hf⟩ := vv_bd hf
    refine vi_callV (As := [.int (M p0 6)]) (st := []) (t_X5_noPass n p0 (M p0 6) M u8 h0 hu8) rfl yo_X5_noPass wm_X5_118 wi_X5_noPass ws_X5_noPass wI_X5 wc_X5_noPass (vv_model_o h0) rfl ⟨Nat.le_of_ble_eq_true rfl, Nat.le_of_ble_eq_true rfl⟩ (vv_rm0 rfl rfl) (Nat.le_of_ble_eq_true rfl) rfl rfl dX5_does_78 ?_
    obtain ⟨y9, ey9, hf⟩ := vv_lt hf
    refine vi_istore_n (L' := [(1, .int y9), (0, .ref p0)]) dX5_does_81 rfl (by decide) (by rw [ey9]; rfl) ?_
    refine vi_iload_n 0 dX5_does_82 rfl rfl ?_
    refine vi_if_ne 172 dX5_does_83 (by decide) (fun c10 => ?_) (fun c10 => ?_)
    · rw [if_neg c10] at hf
      refine vi_sub (L' := [(1, .int y9)]) [0] rfl ?_
      exact t_X5_does_172 n  u  y9 u8.2  hf
    · rw [if_pos c10] at hf
      refine vi_aload_n 1 dX5_does_86 rfl rfl ?_
      refine vi_aload_n 1 dX5_does_87 rfl rfl ?_
      refine vi_geti 6 rfl (vv_model_o h0) rfl wu_X5 (by decide) wf_X5_142 dX5_does_88 ?_
      obtain ⟨u11, hu11, hf⟩ := vv_bd hf
      refine vi_callV (As := [.int (u8.2 p0 6)]) (st := []) (t_X5_doPass n p0 (u8.2 p0 6) u8.2 u11 h0 hu11) rfl yo_X5_doPass wm_X5_121 wi_X5_doPass ws_X5_doPass wI_X5 wc_X5_doPass (vv_model_o h0) rfl ⟨Nat.le_of_ble_eq_true rfl, Nat.le_of_ble_eq_true rfl⟩ (vv_rm0 rfl rfl) (Nat.le_of_ble_eq_true rfl) rfl rfl dX5_does_91 ?_
      refine vi_pop dX5_does_94 rfl ?_
      refine vi_goto 172 dX5_does_95 (by decide) ?_
      refine vi_sub (L' := [(1, .int y9)]) [0] rfl ?_
      exact t_X5_does_172 n  u  y9 u11.2  hf
  rw [if_neg c7] at hf
  by_cases c12 : (M p0 5) = (116 : Int32)
  · rw [if_pos c12] at hf
    refine vi_lookup 98 dX5_does_6 (by decide) (by first | (rw [c12]; done) | (rw [c12]; rfl)) (by decide) ?_
    refine vi_aload_n 1 dX5_does_98 rfl rfl ?_
    refine vi_aload_n 1 dX5_does_99 rfl rfl ?_
    refine vi_geti 6 rfl (vv_model_o h0) rfl wu_X5 (by decide) wf_X5_142 dX5_does_100 ?_
    obtain ⟨u13, hu13, hf⟩ := vv_bd hf
    refine vi_callV (As := [.int (M p0 6)]) (st := []) (t_X5_noTakeOff n p0 (M p0 6) M u13 h0 hu13) rfl yo_X5_noTakeOff wm_X5_86 wi_X5_noTakeOff ws_X5_noTakeOff wI_X5 wc_X5_noTakeOff (vv_model_o h0) rfl ⟨Nat.le_of_ble_eq_true rfl, Nat.le_of_ble_eq_true rfl⟩ (vv_rm0 rfl rfl) (Nat.le_of_ble_eq_true rfl) rfl rfl dX5_does_103 ?_
    obtain ⟨y14, ey14, hf⟩ := vv_lt hf
    refine vi_istore_n (L' := [(1, .int y14), (0, .ref p0)]) dX5_does_106 rfl (by decide) (by rw [ey14]; rfl) ?_
    refine vi_iload_n 0 dX5_does_107 rfl rfl ?_
    refine vi_if_ne 172 dX5_does_108 (by decide) (fun c15 => ?_) (fun c15 => ?_)
    · rw [if_neg c15] at hf
      refine vi_sub (L' := [(1, .int y14)]) [0] rfl ?_
      exact t_X5_does_172 n  u  y14 u13.2  hf
    · rw [if_pos c15] at hf
      refine vi_aload_n 1 dX5_does_111 rfl rfl ?_
      refine vi_getr (t := p0 + 1) 0 rfl (vv_model_o h0) rfl wu_X5 (by decide) wf_X5_7 dX5_does_112 ?_
      refine vi_aload_n 1 dX5_does_115 rfl rfl ?_
      refine vi_geti 6 rfl (vv_model_o h0) rfl wu_X5 (by decide) wf_X5_142 dX5_does_116 ?_
      refine vi_iconst (v := (2 : Int32)) dX5_does_119 (by decide) ?_
      obtain ⟨u16, hu16, hf⟩ := vv_bd hf
      refine vi_callS (As := [.int (u13.2 p0 6), .int (2 : Int32)]) (st := [.ref (p0 + 1)]) (t_X5_of n (u13.2 p0 6) (2 : Int32) u13.2 u16  hu16) rfl yo_X5_of wm_X5_27 wi_X5_of wI_X5 wc_X5_of ⟨Nat.le_of_ble_eq_true rfl, Nat.le_of_ble_eq_true rfl⟩ (vv_rm0 rfl rfl) (Nat.le_of_ble_eq_true rfl) rfl rfl dX5_does_120 ?_
      refine vi_iconst (v := (2 : Int32)) dX5_does_123 (by decide) ?_
      obtain ⟨g17, hf⟩ := vv_gd hf
      obtain ⟨M18, eM18, hf⟩ := vv_lt hf
      refine vi_iast (vv_model_row h0) g17 eM18.symm dX5_does_124 ?_
      refine vi_sub (L' := [(1, .int y14)]) [0] rfl ?_
      exact t_X5_does_125 n  u  y14 M18  hf
  rw [if_neg c12] at hf
  refine vi_lookup 128 dX5_does_6 (by decide) (by have nc1 := vv_nk c1 (show (108 : Int32).toInt = 108 from rfl); have nc7 := vv_nk c7 (show (112 : Int32).toInt = 112 from rfl); have nc12 := vv_nk c12 (show (116 : Int32).toInt = 116 from rfl); simp [Op.lookupswitch.offset, nc1, Ne.symm nc1, nc7, Ne.symm nc7, nc12, Ne.symm nc12]; rfl) (by decide) ?_
  refine vi_iconst (v := (0 : Int32)) dX5_does_128 (by decide) ?_
  refine vi_aload_n 1 dX5_does_129 rfl rfl ?_
  refine vi_geti 6 rfl (vv_model_o h0) rfl wu_X5 (by decide) wf_X5_142 dX5_does_130 ?_
  obtain ⟨u19, hu19, hf⟩ := vv_bd hf
  refine vi_callS (As := [.int (0 : Int32), .int (M p0 6)]) (st := []) (t_X5_isBeltNumber n (0 : Int32) (M p0 6) M u19  hu19) rfl yo_X5_isBeltNumber wm_X5_64 wi_X5_isBeltNumber wI_X5 wc_X5_isBeltNumber ⟨Nat.le_of_ble_eq_true rfl, Nat.le_of_ble_eq_true rfl⟩ (vv_rm0 rfl rfl) (Nat.le_of_ble_eq_true rfl) rfl rfl dX5_does_133 ?_
  refine vi_if_eq 143 dX5_does_136 (by decide) (fun c20 => ?_) (fun c20 => ?_)
  · rw [if_pos c20] at hf
    refine vi_sipush (v := (-1001 : Int32)) dX5_does_143 (by decide) ?_
    refine vi_sub (L' := [(0, .ref p0)]) [1] rfl ?_
    exact t_X5_does_146 n  u  p0 (-1001 : Int32) u19.2 h0 hf
  · rw [if_neg c20] at hf
    refine vi_iconst (v := (0 : Int32)) dX5_does_139 (by decide) ?_
    refine vi_goto 146 dX5_does_140 (by decide) ?_
    refine vi_sub (L' := [(0, .ref p0)]) [1] rfl ?_
    exact t_X5_does_146 n  u  p0 (0 : Int32) u19.2 h0 hf
set_option maxRecDepth 20000 in
theorem t_X5_carryOut_26 {S : List vv_Sh} (n : Nat)  (u : Int32 × vv_M)  : ∀ (k : Nat) (p0 : Nat) (x2 : Int32) (M : vv_M) (h0 : vv_model S p0) (hf : f_X5_carryOut_26 n  k p0 x2 M = some u), vv_V [] yX5_carryOut.cls yX5_carryOut.name cX5_carryOut 3 (some .int) (vv_R 7 0 0) S.length (vv_sz S) (vv_fi S u) 26 [(0, .ref p0), (2, .int x2)] [] S M := by
  intro k
  induction k with
  | zero =>
    intro p0 x2 M h0 hf
    exact absurd (show (none : Option (Int32 × vv_M)) = some u from hf) (by simp)
  | succ k ih =>
    intro p0 x2 M h0 hf
    rw [f_X5_carryOut_26.eq_2] at hf
    refine vi_aload_n 0 dX5_carryOut_26 rfl rfl ?_
    refine vi_geti 4 rfl (vv_model_o h0) rfl wu_X5 (by decide) wf_X5_127 dX5_carryOut_27 ?_
    refine vi_aload_n 0 dX5_carryOut_30 rfl rfl ?_
    refine vi_geti 3 rfl (vv_model_o h0) rfl wu_X5 (by decide) wf_X5_124 dX5_carryOut_31 ?_
    refine vi_icmp_ge 67 dX5_carryOut_34 (by decide) (fun c6 => ?_) (fun c6 => ?_)
    · rw [if_pos c6] at hf
      refine vi_aload_n 0 dX5_carryOut_67 rfl rfl ?_
      refine vi_iconst (v := (0 : Int32)) dX5_carryOut_68 (by decide) ?_
      obtain ⟨M7, eM7, hf⟩ := vv_lt hf
      refine vi_puti 3 rfl eM7.symm (vv_model_o h0) rfl wu_X5 tyX5 tyX5_ok nmX5 (by decide) rfl (by decide +kernel) wf_X5_124 dX5_carryOut_69 ?_
      refine vi_iload_n 1 dX5_carryOut_72 rfl rfl ?_
      obtain rfl := Option.some.inj hf
      exact vi_ret (v := some (.int x2)) rfl ⟨dX5_carryOut_73, .int, rfl, rfl⟩ ⟨rfl, rfl, rfl⟩
    · rw [if_neg c6] at hf
      refine vi_aload_n 0 dX5_carryOut_37 rfl rfl ?_
      obtain ⟨u8, hu8, hf⟩ := vv_bd hf
      refine vi_callV (As := []) (st := []) (t_X5_readsOrder n p0 M u8 h0 hu8) rfl yo_X5_readsOrder wm_X5_148 wi_X5_readsOrder ws_X5_readsOrder wI_X5 wc_X5_readsOrder (vv_model_o h0) rfl ⟨Nat.le_of_ble_eq_true rfl, Nat.le_of_ble_eq_true rfl⟩ (vv_rm0 rfl rfl) (Nat.le_of_ble_eq_true rfl) rfl rfl dX5_carryOut_38 ?_
      refine vi_if_eq 67 dX5_carryOut_41 (by decide) (fun c9 => ?_) (fun c9 => ?_)
      · rw [if_pos c9] at hf
        refine vi_aload_n 0 dX5_carryOut_67 rfl rfl ?_
        refine vi_iconst (v := (0 : Int32)) dX5_carryOut_68 (by decide) ?_
        obtain ⟨M10, eM10, hf⟩ := vv_lt hf
        refine vi_puti 3 rfl eM10.symm (vv_model_o h0) rfl wu_X5 tyX5 tyX5_ok nmX5 (by decide) rfl (by decide +kernel) wf_X5_124 dX5_carryOut_69 ?_
        refine vi_iload_n 1 dX5_carryOut_72 rfl rfl ?_
        obtain rfl := Option.some.inj hf
        exact vi_ret (v := some (.int x2)) rfl ⟨dX5_carryOut_73, .int, rfl, rfl⟩ ⟨rfl, rfl, rfl⟩
      · rw [if_neg c9] at hf
        refine vi_aload_n 0 dX5_carryOut_44 rfl rfl ?_
        obtain ⟨u11, hu11, hf⟩ := vv_bd hf
        refine vi_callV (As := []) (st := []) (t_X5_does n p0 u8.2 u11 h0 hu11) rfl yo_X5_does wm_X5_154 wi_X5_does ws_X5_does wI_X5 wc_X5_does (vv_model_o h0) rfl ⟨Nat.le_of_ble_eq_true rfl, Nat.le_of_ble_eq_true rfl⟩ (vv_rm0 rfl rfl) (Nat.le_of_ble_eq_true rfl) rfl rfl dX5_carryOut_45 ?_
        refine vi_if_eq 67 dX5_carryOut_48 (by decide) (fun c12 => ?_) (fun c12 => ?_)
        · rw [if_pos c12] at hf
          refine vi_aload_n 0 dX5_carryOut_67 rfl rfl ?_
          refine vi_iconst (v := (0 : Int32)) dX5_carryOut_68 (by decide) ?_
          obtain ⟨M13, eM13, hf⟩ := vv_lt hf
          refine vi_puti 3 rfl eM13.symm (vv_model_o h0) rfl wu_X5 tyX5 tyX5_ok nmX5 (by decide) rfl (by decide +kernel) wf_X5_124 dX5_carryOut_69 ?_
          refine vi_iload_n 1 dX5_carryOut_72 rfl rfl ?_
          obtain rfl := Option.some.inj hf
          exact vi_ret (v := some (.int x2)) rfl ⟨dX5_carryOut_73, .int, rfl, rfl⟩ ⟨rfl, rfl, rfl⟩
        · rw [if_neg c12] at hf
          obtain ⟨y14, ey14, hf⟩ := vv_lt hf
          refine vi_iinc (v := y14) (L' := [(2, .int y14), (0, .ref p0)]) 1 dX5_carryOut_51 rfl (by rw [ey14]; rfl) (by decide) rfl ?_
          refine vi_aload_n 1 dX5_carryOut_54 rfl rfl ?_
          refine vi_dup dX5_carryOut_55 rfl ?_
          refine vi_geti 4 rfl (vv_model_o h0) rfl wu_X5 (by decide) wf_X5_127 dX5_carryOut_56 ?_
          refine vi_iconst (v := (1 : Int32)) dX5_carryOut_59 (by decide) ?_
          refine vi_iadd dX5_carryOut_60 ?_
          obtain ⟨M15, eM15, hf⟩ := vv_lt hf
          refine vi_puti 4 rfl eM15.symm (vv_model_o h0) rfl wu_X5 tyX5 tyX5_ok nmX5 (by decide) rfl (by decide +kernel) wf_X5_127 dX5_carryOut_61 ?_
          refine vi_goto 26 dX5_carryOut_64 (by decide) ?_
          refine vi_sub (L' := [(0, .ref p0), (2, .int y14)]) [1, 0] rfl ?_
          exact ih p0 y14 M15 h0 hf
set_option maxRecDepth 20000 in
theorem t_X5_carryOut {S : List vv_Sh} (n : Nat) (p0 : Nat) (M : vv_M) (u : Int32 × vv_M) (h0 : vv_model S p0) (hf : f_X5_carryOut n p0 M = some u) : vv_C yX5_carryOut (vv_w yX5_carryOut cX5_carryOut 3 (some .int)) (vv_R 7 0 0) [.ref p0] S M (some (.int u.1)) S u.2 := by
  refine vv_ofV (by decide +kernel) (Nat.le_of_ble_eq_true rfl) (L := [(0, .ref p0)]) rfl rfl rfl ?_
  show vv_V [] yX5_carryOut.cls yX5_carryOut.name cX5_carryOut 3 (some .int) (vv_R 7 0 0) S.length (vv_sz S) (vv_fi S u) 0 [(0, .ref p0)] [] S M
  unfold f_X5_carryOut at hf
  refine vi_aload_n 0 dX5_carryOut_0 rfl rfl ?_
  obtain ⟨u1, hu1, hf⟩ := vv_bd hf
  refine vi_callV (As := []) (st := []) (t_X5_faultOf n p0 M u1 h0 hu1) rfl yo_X5_faultOf wm_X5_151 wi_X5_faultOf ws_X5_faultOf wI_X5 wc_X5_faultOf (vv_model_o h0) rfl ⟨Nat.le_of_ble_eq_true rfl, Nat.le_of_ble_eq_true rfl⟩ (vv_rm0 rfl rfl) (Nat.le_of_ble_eq_true rfl) rfl rfl dX5_carryOut_1 ?_
  obtain ⟨y2, ey2, hf⟩ := vv_lt hf
  refine vi_istore_n (L' := [(1, .int y2), (0, .ref p0)]) dX5_carryOut_4 rfl (by decide) (by rw [ey2]; rfl) ?_
  refine vi_iload_n 0 dX5_carryOut_5 rfl rfl ?_
  refine vi_if_lt 15 dX5_carryOut_6 (by decide) (fun c3 => ?_) (fun c3 => ?_)
  · rw [if_pos c3] at hf
    refine vi_aload_n 1 dX5_carryOut_15 rfl rfl ?_
    obtain ⟨u4, hu4, hf⟩ := vv_bd hf
    refine vi_callV (As := []) (st := []) (t_X5_record n p0 u1.2 u4 h0 hu4) rfl yo_X5_record wm_X5_38 wi_X5_record ws_X5_record wI_X5 wc_X5_record (vv_model_o h0) rfl ⟨Nat.le_of_ble_eq_true rfl, Nat.le_of_ble_eq_true rfl⟩ (vv_rm0 rfl rfl) (Nat.le_of_ble_eq_true rfl) rfl rfl dX5_carryOut_16 ?_
    refine vi_aload_n 1 dX5_carryOut_19 rfl rfl ?_
    refine vi_iconst (v := (0 : Int32)) dX5_carryOut_20 (by decide) ?_
    obtain ⟨M5, eM5, hf⟩ := vv_lt hf
    refine vi_puti 4 rfl eM5.symm (vv_model_o h0) rfl wu_X5 tyX5 tyX5_ok nmX5 (by decide) rfl (by decide +kernel) wf_X5_127 dX5_carryOut_21 ?_
    refine vi_iconst (v := (0 : Int32)) dX5_carryOut_24 (by decide) ?_
    refine vi_istore_n (L' := [(2, .int (0 : Int32)), (1, .int y2), (0, .ref p0)]) dX5_carryOut_25 rfl (by decide) rfl ?_
    refine vi_sub (L' := [(0, .ref p0), (2, .int (0 : Int32))]) [2, 0] rfl ?_
    exact t_X5_carryOut_26 n  u  n p0 (0 : Int32) M5 h0 hf
  · rw [if_neg c3] at hf
    refine vi_sipush (v := (-2000 : Int32)) dX5_carryOut_9 (by decide) ?_
    refine vi_iload_n 0 dX5_carryOut_12 rfl rfl ?_
    refine vi_isub dX5_carryOut_13 ?_
    obtain rfl := Option.some.inj hf
    exact vi_ret (v := some (.int ((-2000 : Int32) - y2))) rfl ⟨dX5_carryOut_14, .int, rfl, rfl⟩ ⟨rfl, rfl, rfl⟩
set_option maxRecDepth 20000 in
theorem t_X5_faultless_49 {S : List vv_Sh} (n : Nat) (k4 : Nat → Int32 → Int32 → vv_M → Option (Int32 × vv_M)) (u : Int32 × vv_M) (hk4 : ∀ (p0 : Nat) (x1 : Int32) (x2 : Int32) (M : vv_M) (h0 : vv_model S p0) (hf : k4 p0 x1 x2 M = some u), vv_V [] yX5_faultless.cls yX5_faultless.name cX5_faultless 3 (some .int) (vv_R 1 0 0) S.length (vv_sz S) (vv_fi S u) 4 [(0, .ref p0), (1, .int x1), (2, .int x2)] [] S M) (p0 : Nat) (x2 : Int32) (s0 : Int32) (s1 : Int32) (M : vv_M) (h0 : vv_model S p0) (hf : f_X5_faultless_49 n k4 p0 x2 s0 s1 M = some u) : vv_V [] yX5_faultless.cls yX5_faultless.name cX5_faultless 3 (some .int) (vv_R 1 0 0) S.length (vv_sz S) (vv_fi S u) 49 [(0, .ref p0), (2, .int x2)] [.int s1, .int s0] S M := by
  unfold f_X5_faultless_49 at hf
  refine vi_iadd dX5_faultless_49 ?_
  obtain ⟨y4, ey4, hf⟩ := vv_lt hf
  refine vi_istore_n (L' := [(1, .int y4), (0, .ref p0), (2, .int x2)]) dX5_faultless_50 rfl (by decide) (by rw [ey4]; rfl) ?_
  obtain ⟨y5, ey5, hf⟩ := vv_lt hf
  refine vi_iinc (v := y5) (L' := [(2, .int y5), (1, .int y4), (0, .ref p0)]) 2 dX5_faultless_51 rfl (by rw [ey5]; rfl) (by decide) rfl ?_
  refine vi_goto 4 dX5_faultless_54 (by decide) ?_
  refine vi_sub (L' := [(0, .ref p0), (1, .int y4), (2, .int y5)]) [2, 1, 0] rfl ?_
  exact hk4 p0 y4 y5 M h0 hf
set_option maxRecDepth 20000 in
theorem t_X5_faultless_48 {S : List vv_Sh} (n : Nat) (k4 : Nat → Int32 → Int32 → vv_M → Option (Int32 × vv_M)) (u : Int32 × vv_M) (hk4 : ∀ (p0 : Nat) (x1 : Int32) (x2 : Int32) (M : vv_M) (h0 : vv_model S p0) (hf : k4 p0 x1 x2 M = some u), vv_V [] yX5_faultless.cls yX5_faultless.name cX5_faultless 3 (some .int) (vv_R 1 0 0) S.length (vv_sz S) (vv_fi S u) 4 [(0, .ref p0), (1, .int x1), (2, .int x2)] [] S M) (p0 : Nat) (x2 : Int32) (s0 : Int32) (M : vv_M) (h0 : vv_model S p0) (hf : f_X5_faultless_48 n k4 p0 x2 s0 M = some u) : vv_V [] yX5_faultless.cls yX5_faultless.name cX5_faultless 3 (some .int) (vv_R 1 0 0) S.length (vv_sz S) (vv_fi S u) 48 [(0, .ref p0), (2, .int x2)] [.int s0] S M := by
  unfold f_X5_faultless_48 at hf
  refine vi_iconst (v := (0 : Int32)) dX5_faultless_48 (by decide) ?_
  exact t_X5_faultless_49 n k4 u hk4 p0 x2 s0 (0 : Int32) M h0 hf
set_option maxRecDepth 20000 in
theorem t_X5_faultless_4 {S : List vv_Sh} (n : Nat)  (u : Int32 × vv_M)  : ∀ (k : Nat) (p0 : Nat) (x1 : Int32) (x2 : Int32) (M : vv_M) (h0 : vv_model S p0) (hf : f_X5_faultless_4 n  k p0 x1 x2 M = some u), vv_V [] yX5_faultless.cls yX5_faultless.name cX5_faultless 3 (some .int) (vv_R 1 0 0) S.length (vv_sz S) (vv_fi S u) 4 [(0, .ref p0), (1, .int x1), (2, .int x2)] [] S M := by
  intro k
  induction k with
  | zero =>
    intro p0 x1 x2 M h0 hf
    exact absurd (show (none : Option (Int32 × vv_M)) = some u from hf) (by simp)
  | succ k ih =>
    intro p0 x1 x2 M h0 hf
    rw [f_X5_faultless_4.eq_2] at hf
    refine vi_iload_n 2 dX5_faultless_4 rfl rfl ?_
    refine vi_aload_n 0 dX5_faultless_5 rfl rfl ?_
    refine vi_getr (t := p0 + 1) 0 rfl (vv_model_o h0) rfl wu_X5 (by decide) wf_X5_7 dX5_faultless_6 ?_
    refine vi_bipush (v := (53 : Int32)) dX5_faultless_9 (by decide) ?_
    obtain ⟨g10, hf⟩ := vv_gd hf
    refine vi_iald (vv_model_row h0) g10 dX5_faultless_11 ?_
    refine vi_icmp_ge 57 dX5_faultless_12 (by decide) (fun c1 => ?_) (fun c1 => ?_)
    · rw [if_pos c1] at hf
      refine vi_iload_n 1 dX5_faultless_57 rfl rfl ?_
      obtain rfl := Option.some.inj hf
      exact vi_ret (v := some (.int x1)) rfl ⟨dX5_faultless_58, .int, rfl, rfl⟩ ⟨rfl, rfl, rfl⟩
    · rw [if_neg c1] at hf
      refine vi_iload_n 1 dX5_faultless_15 rfl rfl ?_
      refine vi_aload_n 0 dX5_faultless_16 rfl rfl ?_
      refine vi_getr (t := p0 + 1) 0 rfl (vv_model_o h0) rfl wu_X5 (by decide) wf_X5_7 dX5_faultless_17 ?_
      refine vi_iload_n 2 dX5_faultless_20 rfl rfl ?_
      refine vi_iconst (v := (2 : Int32)) dX5_faultless_21 (by decide) ?_
      obtain ⟨u2, hu2, hf⟩ := vv_bd hf
      refine vi_callS (As := [.int x2, .int (2 : Int32)]) (st := [.ref (p0 + 1), .int x1]) (t_X5_of n x2 (2 : Int32) M u2  hu2) rfl yo_X5_of wm_X5_27 wi_X5_of wI_X5 wc_X5_of ⟨Nat.le_of_ble_eq_true rfl, Nat.le_of_ble_eq_true rfl⟩ (vv_rm0 rfl rfl) (Nat.le_of_ble_eq_true rfl) rfl rfl dX5_faultless_22 ?_
      obtain ⟨g9, hf⟩ := vv_gd hf
      refine vi_iald (vv_model_row h0) g9 dX5_faultless_25 ?_
      refine vi_iconst (v := (1 : Int32)) dX5_faultless_26 (by decide) ?_
      refine vi_icmp_ne 48 dX5_faultless_27 (by decide) (fun c3 => ?_) (fun c3 => ?_)
      · rw [if_neg c3] at hf
        refine vi_sub (L' := [(0, .ref p0), (2, .int x2)]) [0, 2] rfl ?_
        exact t_X5_faultless_48 n (f_X5_faultless_4 n k) u ih p0 x2 x1 u2.2 h0 hf
      · rw [if_pos c3] at hf
        refine vi_aload_n 0 dX5_faultless_30 rfl rfl ?_
        refine vi_getr (t := p0 + 1) 0 rfl (vv_model_o h0) rfl wu_X5 (by decide) wf_X5_7 dX5_faultless_31 ?_
        refine vi_iload_n 2 dX5_faultless_34 rfl rfl ?_
        refine vi_bipush (v := (8 : Int32)) dX5_faultless_35 (by decide) ?_
        obtain ⟨u6, hu6, hf⟩ := vv_bd hf
        refine vi_callS (As := [.int x2, .int (8 : Int32)]) (st := [.ref (p0 + 1), .int x1]) (t_X5_of n x2 (8 : Int32) u2.2 u6  hu6) rfl yo_X5_of wm_X5_27 wi_X5_of wI_X5 wc_X5_of ⟨Nat.le_of_ble_eq_true rfl, Nat.le_of_ble_eq_true rfl⟩ (vv_rm0 rfl rfl) (Nat.le_of_ble_eq_true rfl) rfl rfl dX5_faultless_37 ?_
        obtain ⟨g8, hf⟩ := vv_gd hf
        refine vi_iald (vv_model_row h0) g8 dX5_faultless_40 ?_
        refine vi_if_ne 48 dX5_faultless_41 (by decide) (fun c7 => ?_) (fun c7 => ?_)
        · rw [if_neg c7] at hf
          refine vi_sub (L' := [(0, .ref p0), (2, .int x2)]) [0, 2] rfl ?_
          exact t_X5_faultless_48 n (f_X5_faultless_4 n k) u ih p0 x2 x1 u6.2 h0 hf
        · rw [if_pos c7] at hf
          refine vi_iconst (v := (1 : Int32)) dX5_faultless_44 (by decide) ?_
          refine vi_goto 49 dX5_faultless_45 (by decide) ?_
          refine vi_sub (L' := [(0, .ref p0), (2, .int x2)]) [0, 2] rfl ?_
          exact t_X5_faultless_49 n (f_X5_faultless_4 n k) u ih p0 x2 x1 (1 : Int32) u6.2 h0 hf
set_option maxRecDepth 20000 in
theorem t_X5_faultless {S : List vv_Sh} (n : Nat) (p0 : Nat) (M : vv_M) (u : Int32 × vv_M) (h0 : vv_model S p0) (hf : f_X5_faultless n p0 M = some u) : vv_C yX5_faultless (vv_w yX5_faultless cX5_faultless 3 (some .int)) (vv_R 1 0 0) [.ref p0] S M (some (.int u.1)) S u.2 := by
  refine vv_ofV (by decide +kernel) (Nat.le_of_ble_eq_true rfl) (L := [(0, .ref p0)]) rfl rfl rfl ?_
  show vv_V [] yX5_faultless.cls yX5_faultless.name cX5_faultless 3 (some .int) (vv_R 1 0 0) S.length (vv_sz S) (vv_fi S u) 0 [(0, .ref p0)] [] S M
  unfold f_X5_faultless at hf
  refine vi_iconst (v := (0 : Int32)) dX5_faultless_0 (by decide) ?_
  refine vi_istore_n (L' := [(1, .int (0 : Int32)), (0, .ref p0)]) dX5_faultless_1 rfl (by decide) rfl ?_
  refine vi_iconst (v := (0 : Int32)) dX5_faultless_2 (by decide) ?_
  refine vi_istore_n (L' := [(2, .int (0 : Int32)), (1, .int (0 : Int32)), (0, .ref p0)]) dX5_faultless_3 rfl (by decide) rfl ?_
  refine vi_sub (L' := [(0, .ref p0), (1, .int (0 : Int32)), (2, .int (0 : Int32))]) [2, 1, 0] rfl ?_
  exact t_X5_faultless_4 n  u  n p0 (0 : Int32) (0 : Int32) M h0 hf
set_option maxRecDepth 20000 in
theorem t_X5_count {S : List vv_Sh} (n : Nat) (p0 : Nat) (x1 : Int32) (M : vv_M) (u : Int32 × vv_M) (h0 : vv_model S p0) (hf : f_X5_count n p0 x1 M = some u) : vv_C yX5_count (vv_w yX5_count cX5_count 2 (some .int)) (vv_R 2 0 0) [.ref p0, .int x1] S M (some (.int u.1)) S u.2 := by
  refine vv_ofV (by decide +kernel) (Nat.le_of_ble_eq_true rfl) (L := [(0, .ref p0), (1, .int x1)]) rfl rfl rfl ?_
  show vv_V [] yX5_count.cls yX5_count.name cX5_count 2 (some .int) (vv_R 2 0 0) S.length (vv_sz S) (vv_fi S u) 0 [(0, .ref p0), (1, .int x1)] [] S M
  unfold f_X5_count at hf
  refine vi_iload_n 1 dX5_count_0 rfl rfl ?_
  by_cases c1 : x1 = (0 : Int32)
  · rw [if_pos c1] at hf
    refine vi_tableAt 80 c1 dX5_count_1 (by decide) (by decide) rfl (by decide) ?_
    refine vi_aload_n 0 dX5_count_80 rfl rfl ?_
    refine vi_getr (t := p0 + 1) 0 rfl (vv_model_o h0) rfl wu_X5 (by decide) wf_X5_7 dX5_count_81 ?_
    refine vi_bipush (v := (52 : Int32)) dX5_count_84 (by decide) ?_
    obtain ⟨g2, hf⟩ := vv_gd hf
    refine vi_iald (vv_model_row h0) g2 dX5_count_86 ?_
    obtain rfl := Option.some.inj hf
    exact vi_ret (v := some (.int (M (p0 + 1) (52 : Int32).toNatClampNeg))) rfl ⟨dX5_count_87, .int, rfl, rfl⟩ ⟨rfl, rfl, rfl⟩
  rw [if_neg c1] at hf
  by_cases c3 : x1 = (1 : Int32)
  · rw [if_pos c3] at hf
    refine vi_tableAt 88 c3 dX5_count_1 (by decide) (by decide) rfl (by decide) ?_
    refine vi_aload_n 0 dX5_count_88 rfl rfl ?_
    refine vi_getr (t := p0 + 1) 0 rfl (vv_model_o h0) rfl wu_X5 (by decide) wf_X5_7 dX5_count_89 ?_
    refine vi_bipush (v := (53 : Int32)) dX5_count_92 (by decide) ?_
    obtain ⟨g4, hf⟩ := vv_gd hf
    refine vi_iald (vv_model_row h0) g4 dX5_count_94 ?_
    obtain rfl := Option.some.inj hf
    exact vi_ret (v := some (.int (M (p0 + 1) (53 : Int32).toNatClampNeg))) rfl ⟨dX5_count_95, .int, rfl, rfl⟩ ⟨rfl, rfl, rfl⟩
  rw [if_neg c3] at hf
  by_cases c5 : x1 = (2 : Int32)
  · rw [if_pos c5] at hf
    refine vi_tableAt 96 c5 dX5_count_1 (by decide) (by decide) rfl (by decide) ?_
    refine vi_aload_n 0 dX5_count_96 rfl rfl ?_
    refine vi_iconst (v := (0 : Int32)) dX5_count_97 (by decide) ?_
    obtain ⟨u6, hu6, hf⟩ := vv_bd hf
    refine vi_callV (As := [.int (0 : Int32)]) (st := []) (t_X5_many n p0 (0 : Int32) M u6 h0 hu6) rfl yo_X5_many wm_X5_45 wi_X5_many ws_X5_many wI_X5 wc_X5_many (vv_model_o h0) rfl ⟨Nat.le_of_ble_eq_true rfl, Nat.le_of_ble_eq_true rfl⟩ (vv_rm0 rfl rfl) (Nat.le_of_ble_eq_true rfl) rfl rfl dX5_count_98 ?_
    obtain rfl := Option.some.inj hf
    exact vi_ret (v := some (.int u6.1)) rfl ⟨dX5_count_101, .int, rfl, rfl⟩ ⟨rfl, rfl, rfl⟩
  rw [if_neg c5] at hf
  by_cases c7 : x1 = (3 : Int32)
  · rw [if_pos c7] at hf
    refine vi_tableAt 102 c7 dX5_count_1 (by decide) (by decide) rfl (by decide) ?_
    refine vi_aload_n 0 dX5_count_102 rfl rfl ?_
    refine vi_iconst (v := (1 : Int32)) dX5_count_103 (by decide) ?_
    obtain ⟨u8, hu8, hf⟩ := vv_bd hf
    refine vi_callV (As := [.int (1 : Int32)]) (st := []) (t_X5_many n p0 (1 : Int32) M u8 h0 hu8) rfl yo_X5_many wm_X5_45 wi_X5_many ws_X5_many wI_X5 wc_X5_many (vv_model_o h0) rfl ⟨Nat.le_of_ble_eq_true rfl, Nat.le_of_ble_eq_true rfl⟩ (vv_rm0 rfl rfl) (Nat.le_of_ble_eq_true rfl) rfl rfl dX5_count_104 ?_
    obtain rfl := Option.some.inj hf
    exact vi_ret (v := some (.int u8.1)) rfl ⟨dX5_count_107, .int, rfl, rfl⟩ ⟨rfl, rfl, rfl⟩
  rw [if_neg c7] at hf
  by_cases c9 : x1 = (4 : Int32)
  · rw [if_pos c9] at hf
    refine vi_tableAt 108 c9 dX5_count_1 (by decide) (by decide) rfl (by decide) ?_
    refine vi_aload_n 0 dX5_count_108 rfl rfl ?_
    obtain ⟨u10, hu10, hf⟩ := vv_bd hf
    refine vi_callV (As := []) (st := []) (t_X5_faultless n p0 M u10 h0 hu10) rfl yo_X5_faultless wm_X5_157 wi_X5_faultless ws_X5_faultless wI_X5 wc_X5_faultless (vv_model_o h0) rfl ⟨Nat.le_of_ble_eq_true rfl, Nat.le_of_ble_eq_true rfl⟩ (vv_rm0 rfl rfl) (Nat.le_of_ble_eq_true rfl) rfl rfl dX5_count_109 ?_
    obtain rfl := Option.some.inj hf
    exact vi_ret (v := some (.int u10.1)) rfl ⟨dX5_count_112, .int, rfl, rfl⟩ ⟨rfl, rfl, rfl⟩
  rw [if_neg c9] at hf
  by_cases c11 : x1 = (5 : Int32)
  · rw [if_pos c11] at hf
    refine vi_tableAt 113 c11 dX5_count_1 (by decide) (by decide) rfl (by decide) ?_
    refine vi_aload_n 0 dX5_count_113 rfl rfl ?_
    refine vi_iconst (v := (2 : Int32)) dX5_count_114 (by decide) ?_
    obtain ⟨u12, hu12, hf⟩ := vv_bd hf
    refine vi_callV (As := [.int (2 : Int32)]) (st := []) (t_X5_many n p0 (2 : Int32) M u12 h0 hu12) rfl yo_X5_many wm_X5_45 wi_X5_many ws_X5_many wI_X5 wc_X5_many (vv_model_o h0) rfl ⟨Nat.le_of_ble_eq_true rfl, Nat.le_of_ble_eq_true rfl⟩ (vv_rm0 rfl rfl) (Nat.le_of_ble_eq_true rfl) rfl rfl dX5_count_115 ?_
    obtain rfl := Option.some.inj hf
    exact vi_ret (v := some (.int u12.1)) rfl ⟨dX5_count_118, .int, rfl, rfl⟩ ⟨rfl, rfl, rfl⟩
  rw [if_neg c11] at hf
  by_cases c13 : x1 = (6 : Int32)
  · rw [if_pos c13] at hf
    refine vi_tableAt 119 c13 dX5_count_1 (by decide) (by decide) rfl (by decide) ?_
    refine vi_aload_n 0 dX5_count_119 rfl rfl ?_
    obtain ⟨u14, hu14, hf⟩ := vv_bd hf
    refine vi_callV (As := []) (st := []) (t_X5_belt n p0 M u14 h0 hu14) rfl yo_X5_belt wm_X5_49 wi_X5_belt ws_X5_belt wI_X5 wc_X5_belt (vv_model_o h0) rfl ⟨Nat.le_of_ble_eq_true rfl, Nat.le_of_ble_eq_true rfl⟩ (vv_rm0 rfl rfl) (Nat.le_of_ble_eq_true rfl) rfl rfl dX5_count_120 ?_
    obtain rfl := Option.some.inj hf
    exact vi_ret (v := some (.int u14.1)) rfl ⟨dX5_count_123, .int, rfl, rfl⟩ ⟨rfl, rfl, rfl⟩
  rw [if_neg c13] at hf
  by_cases c15 : x1 = (7 : Int32)
  · rw [if_pos c15] at hf
    refine vi_tableAt 124 c15 dX5_count_1 (by decide) (by decide) rfl (by decide) ?_
    refine vi_aload_n 0 dX5_count_124 rfl rfl ?_
    refine vi_getr (t := p0 + 1) 0 rfl (vv_model_o h0) rfl wu_X5 (by decide) wf_X5_7 dX5_count_125 ?_
    refine vi_bipush (v := (48 : Int32)) dX5_count_128 (by decide) ?_
    refine vi_iload_n 1 dX5_count_130 rfl rfl ?_
    refine vi_iadd dX5_count_131 ?_
    refine vi_bipush (v := (7 : Int32)) dX5_count_132 (by decide) ?_
    refine vi_isub dX5_count_134 ?_
    obtain ⟨g16, hf⟩ := vv_gd hf
    refine vi_iald (vv_model_row h0) g16 dX5_count_135 ?_
    obtain rfl := Option.some.inj hf
    exact vi_ret (v := some (.int (M (p0 + 1) (((48 : Int32) + x1) - (7 : Int32)).toNatClampNeg))) rfl ⟨dX5_count_136, .int, rfl, rfl⟩ ⟨rfl, rfl, rfl⟩
  rw [if_neg c15] at hf
  by_cases c17 : x1 = (8 : Int32)
  · rw [if_pos c17] at hf
    refine vi_tableAt 124 c17 dX5_count_1 (by decide) (by decide) rfl (by decide) ?_
    refine vi_aload_n 0 dX5_count_124 rfl rfl ?_
    refine vi_getr (t := p0 + 1) 0 rfl (vv_model_o h0) rfl wu_X5 (by decide) wf_X5_7 dX5_count_125 ?_
    refine vi_bipush (v := (48 : Int32)) dX5_count_128 (by decide) ?_
    refine vi_iload_n 1 dX5_count_130 rfl rfl ?_
    refine vi_iadd dX5_count_131 ?_
    refine vi_bipush (v := (7 : Int32)) dX5_count_132 (by decide) ?_
    refine vi_isub dX5_count_134 ?_
    obtain ⟨g18, hf⟩ := vv_gd hf
    refine vi_iald (vv_model_row h0) g18 dX5_count_135 ?_
    obtain rfl := Option.some.inj hf
    exact vi_ret (v := some (.int (M (p0 + 1) (((48 : Int32) + x1) - (7 : Int32)).toNatClampNeg))) rfl ⟨dX5_count_136, .int, rfl, rfl⟩ ⟨rfl, rfl, rfl⟩
  rw [if_neg c17] at hf
  by_cases c19 : x1 = (9 : Int32)
  · rw [if_pos c19] at hf
    refine vi_tableAt 124 c19 dX5_count_1 (by decide) (by decide) rfl (by decide) ?_
    refine vi_aload_n 0 dX5_count_124 rfl rfl ?_
    refine vi_getr (t := p0 + 1) 0 rfl (vv_model_o h0) rfl wu_X5 (by decide) wf_X5_7 dX5_count_125 ?_
    refine vi_bipush (v := (48 : Int32)) dX5_count_128 (by decide) ?_
    refine vi_iload_n 1 dX5_count_130 rfl rfl ?_
    refine vi_iadd dX5_count_131 ?_
    refine vi_bipush (v := (7 : Int32)) dX5_count_132 (by decide) ?_
    refine vi_isub dX5_count_134 ?_
    obtain ⟨g20, hf⟩ := vv_gd hf
    refine vi_iald (vv_model_row h0) g20 dX5_count_135 ?_
    obtain rfl := Option.some.inj hf
    exact vi_ret (v := some (.int (M (p0 + 1) (((48 : Int32) + x1) - (7 : Int32)).toNatClampNeg))) rfl ⟨dX5_count_136, .int, rfl, rfl⟩ ⟨rfl, rfl, rfl⟩
  rw [if_neg c19] at hf
  by_cases c21 : x1 = (10 : Int32)
  · rw [if_pos c21] at hf
    refine vi_tableAt 124 c21 dX5_count_1 (by decide) (by decide) rfl (by decide) ?_
    refine vi_aload_n 0 dX5_count_124 rfl rfl ?_
    refine vi_getr (t := p0 + 1) 0 rfl (vv_model_o h0) rfl wu_X5 (by decide) wf_X5_7 dX5_count_125 ?_
    refine vi_bipush (v := (48 : Int32)) dX5_count_128 (by decide) ?_
    refine vi_iload_n 1 dX5_count_130 rfl rfl ?_
    refine vi_iadd dX5_count_131 ?_
    refine vi_bipush (v := (7 : Int32)) dX5_count_132 (by decide) ?_
    refine vi_isub dX5_count_134 ?_
    obtain ⟨g22, hf⟩ := vv_gd hf
    refine vi_iald (vv_model_row h0) g22 dX5_count_135 ?_
    obtain rfl := Option.some.inj hf
    exact vi_ret (v := some (.int (M (p0 + 1) (((48 : Int32) + x1) - (7 : Int32)).toNatClampNeg))) rfl ⟨dX5_count_136, .int, rfl, rfl⟩ ⟨rfl, rfl, rfl⟩
  rw [if_neg c21] at hf
  by_cases c23 : x1 = (11 : Int32)
  · rw [if_pos c23] at hf
    refine vi_tableAt 137 c23 dX5_count_1 (by decide) (by decide) rfl (by decide) ?_
    refine vi_aload_n 0 dX5_count_137 rfl rfl ?_
    refine vi_getr (t := p0 + 1) 0 rfl (vv_model_o h0) rfl wu_X5 (by decide) wf_X5_7 dX5_count_138 ?_
    refine vi_bipush (v := (54 : Int32)) dX5_count_141 (by decide) ?_
    obtain ⟨g24, hf⟩ := vv_gd hf
    refine vi_iald (vv_model_row h0) g24 dX5_count_143 ?_
    obtain rfl := Option.some.inj hf
    exact vi_ret (v := some (.int (M (p0 + 1) (54 : Int32).toNatClampNeg))) rfl ⟨dX5_count_144, .int, rfl, rfl⟩ ⟨rfl, rfl, rfl⟩
  rw [if_neg c23] at hf
  by_cases c25 : x1 = (12 : Int32)
  · rw [if_pos c25] at hf
    refine vi_tableAt 145 c25 dX5_count_1 (by decide) (by decide) rfl (by decide) ?_
    refine vi_aload_n 0 dX5_count_145 rfl rfl ?_
    refine vi_getr (t := p0 + 1) 0 rfl (vv_model_o h0) rfl wu_X5 (by decide) wf_X5_7 dX5_count_146 ?_
    refine vi_bipush (v := (55 : Int32)) dX5_count_149 (by decide) ?_
    obtain ⟨g26, hf⟩ := vv_gd hf
    refine vi_iald (vv_model_row h0) g26 dX5_count_151 ?_
    obtain rfl := Option.some.inj hf
    exact vi_ret (v := some (.int (M (p0 + 1) (55 : Int32).toNatClampNeg))) rfl ⟨dX5_count_152, .int, rfl, rfl⟩ ⟨rfl, rfl, rfl⟩
  rw [if_neg c25] at hf
  by_cases c27 : x1 = (13 : Int32)
  · rw [if_pos c27] at hf
    refine vi_tableAt 153 c27 dX5_count_1 (by decide) (by decide) rfl (by decide) ?_
    refine vi_aload_n 0 dX5_count_153 rfl rfl ?_
    refine vi_getr (t := p0 + 1) 0 rfl (vv_model_o h0) rfl wu_X5 (by decide) wf_X5_7 dX5_count_154 ?_
    refine vi_sipush (v := (2121 : Int32)) dX5_count_157 (by decide) ?_
    obtain ⟨g29, hf⟩ := vv_gd hf
    refine vi_iald (vv_model_row h0) g29 dX5_count_160 ?_
    refine vi_aload_n 0 dX5_count_161 rfl rfl ?_
    refine vi_getr (t := p0 + 1) 0 rfl (vv_model_o h0) rfl wu_X5 (by decide) wf_X5_7 dX5_count_162 ?_
    refine vi_sipush (v := (2122 : Int32)) dX5_count_165 (by decide) ?_
    obtain ⟨g28, hf⟩ := vv_gd hf
    refine vi_iald (vv_model_row h0) g28 dX5_count_168 ?_
    refine vi_iadd dX5_count_169 ?_
    obtain rfl := Option.some.inj hf
    exact vi_ret (v := some (.int ((M (p0 + 1) (2121 : Int32).toNatClampNeg) + (M (p0 + 1) (2122 : Int32).toNatClampNeg)))) rfl ⟨dX5_count_170, .int, rfl, rfl⟩ ⟨rfl, rfl, rfl⟩
  rw [if_neg c27] at hf
  by_cases c30 : x1 = (14 : Int32)
  · rw [if_pos c30] at hf
    refine vi_tableAt 171 c30 dX5_count_1 (by decide) (by decide) rfl (by decide) ?_
    refine vi_aload_n 0 dX5_count_171 rfl rfl ?_
    refine vi_geti 1 rfl (vv_model_o h0) rfl wu_X5 (by decide) wf_X5_30 dX5_count_172 ?_
    obtain rfl := Option.some.inj hf
    exact vi_ret (v := some (.int (M p0 1))) rfl ⟨dX5_count_175, .int, rfl, rfl⟩ ⟨rfl, rfl, rfl⟩
  rw [if_neg c30] at hf
  by_cases c31 : x1 = (15 : Int32)
  · rw [if_pos c31] at hf
    refine vi_tableAt 176 c31 dX5_count_1 (by decide) (by decide) rfl (by decide) ?_
    refine vi_aload_n 0 dX5_count_176 rfl rfl ?_
    refine vi_geti 3 rfl (vv_model_o h0) rfl wu_X5 (by decide) wf_X5_124 dX5_count_177 ?_
    obtain rfl := Option.some.inj hf
    exact vi_ret (v := some (.int (M p0 3))) rfl ⟨dX5_count_180, .int, rfl, rfl⟩ ⟨rfl, rfl, rfl⟩
  rw [if_neg c31] at hf
  refine vi_tableOut 181 dX5_count_1 (by have nc1 := vv_nk c1 (show (0 : Int32).toInt = 0 from rfl); have nc3 := vv_nk c3 (show (1 : Int32).toInt = 1 from rfl); have nc5 := vv_nk c5 (show (2 : Int32).toInt = 2 from rfl); have nc7 := vv_nk c7 (show (3 : Int32).toInt = 3 from rfl); have nc9 := vv_nk c9 (show (4 : Int32).toInt = 4 from rfl); have nc11 := vv_nk c11 (show (5 : Int32).toInt = 5 from rfl); have nc13 := vv_nk c13 (show (6 : Int32).toInt = 6 from rfl); have nc15 := vv_nk c15 (show (7 : Int32).toInt = 7 from rfl); have nc17 := vv_nk c17 (show (8 : Int32).toInt = 8 from rfl); have nc19 := vv_nk c19 (show (9 : Int32).toInt = 9 from rfl); have nc21 := vv_nk c21 (show (10 : Int32).toInt = 10 from rfl); have nc23 := vv_nk c23 (show (11 : Int32).toInt = 11 from rfl); have nc25 := vv_nk c25 (show (12 : Int32).toInt = 12 from rfl); have nc27 := vv_nk c27 (show (13 : Int32).toInt = 13 from rfl); have nc30 := vv_nk c30 (show (14 : Int32).toInt = 14 from rfl); have nc31 := vv_nk c31 (show (15 : Int32).toInt = 15 from rfl); omega) (by decide) ?_
  refine vi_sipush (v := (-1001 : Int32)) dX5_count_181 (by decide) ?_
  obtain rfl := Option.some.inj hf
  exact vi_ret (v := some (.int (-1001 : Int32))) rfl ⟨dX5_count_184, .int, rfl, rfl⟩ ⟨rfl, rfl, rfl⟩
