set_option maxRecDepth 100000 in
/-- the law from its entry: both constructors, then the loop -/
theorem t_L_law_0 (n : Nat) (sc : List Int32) (hn : 100 ≤ n) (u : Int32 × vv_M) (k : Nat) (hf : f_L_law_18 n sc k 0 158 0 (vv_dI 158 (vv_bI 0 (fun _ => fun _ => 0))) = some u) : vv_V (0 :: sc) yL_law.cls yL_law.name cL_law 4 (some .boolean) room_1 0 0 (vv_fi (vv_bS 0 ++ vv_dS 158) u) 0 [(0, .float 7)] [] [] (fun _ => fun _ => 0) := by
  refine vj_new (q := 0) (z := 0) (ci := 4) (fs := vv_bn) (S' := [.inr (.inr (4, vv_bn))]) rfl rfl rfl rfl wu_X4 tyX4 tyX4_ok wC_L_7 wn_X4 wI_X4 vj_fsX4 rfl rfl (Nat.le_of_ble_eq_true rfl) (Nat.le_of_ble_eq_true rfl) dL_law_0 ?_
  refine vi_dup dL_law_3 rfl ?_
  have hc0 : vv_C yX4_init (vv_w yX4_init cX4_init 1 none) (vv_R 4 157 16642) [.ref 0] [.inr (.inr (4, vv_bn))] (fun _ => fun _ => 0) none (vv_bS 0) (vv_bI 0 (fun _ => fun _ => 0)) := t_X4_init (S0 := []) (p := 0) rfl n (fun _ => fun _ => 0) hn (fun x _ => rfl)
  refine vi_callI (ci := 0) (fs := []) (T := TX2) (N := 0) (As := []) (st := [.ref 0]) hc0 rfl yo_X4_init rfl wm_L_9 wi_X4_init wI_X4 wc_X4_init ⟨Nat.le_of_ble_eq_true rfl, Nat.le_of_ble_eq_true rfl⟩ ⟨Nat.le_of_ble_eq_true rfl, Nat.le_of_ble_eq_true rfl⟩ (Nat.le_of_ble_eq_true rfl) (vv_bS_len 0) (vv_bS_sz 0) dL_law_4 ?_
  refine vi_astore_n (L' := [(1, .ref 0), (0, .float 7)]) dL_law_7 rfl (by decide) rfl ?_
  refine vj_new (q := 158) (z := 16646) (ci := 5) (fs := vv_dn) (S' := vv_bS 0 ++ [.inr (.inr (5, vv_dn))]) (vv_bS_len 0) (vv_bS_sz 0) rfl rfl wu_X5 tyX5 tyX5_ok wC_L_10 wn_X5 wI_X5 vj_fsX5 (vv_bI_z (by omega) rfl) rfl (Nat.le_of_ble_eq_true rfl) (Nat.le_of_ble_eq_true rfl) dL_law_8 ?_
  refine vi_dup dL_law_11 rfl ?_
  have hl1 : (vv_bS 0 ++ [(.inr (.inr (5, vv_dn)) : vv_Sh)]).length = 159 := by rw [List.length_append, vv_bS_len]; rfl
  have hz1 : vv_sz (vv_bS 0 ++ [(.inr (.inr (5, vv_dn)) : vv_Sh)]) = 16654 := by rw [vv_sz_app, vv_bS_sz]; rfl
  have hl2 : (vv_bS 0 ++ vv_dS 158).length = 161 := by rw [List.length_append, vv_bS_len]; rfl
  have hz2 : vv_sz (vv_bS 0 ++ vv_dS 158) = 30199 := by rw [vv_sz_app, vv_bS_sz, vv_dS_sz]
  have hc1 : vv_C yX5_init (vv_w yX5_init cX5_init 3 none) (vv_R 1 2 13545) [.ref 158] (vv_bS 0 ++ [.inr (.inr (5, vv_dn))]) (vv_bI 0 (fun _ => fun _ => 0)) none (vv_bS 0 ++ vv_dS 158) (vv_dI 158 (vv_bI 0 (fun _ => fun _ => 0))) := t_X5_init (S0 := vv_bS 0) (p := 158) (vv_bS_len 0) n (vv_bI 0 (fun _ => fun _ => 0)) hn (fun x hx => vv_bI_z (by omega) rfl)
  refine vi_callI (ci := 0) (fs := []) (T := TX2) (N := 0) (As := []) (st := [.ref 158]) hc1 rfl yo_X5_init rfl wm_L_12 wi_X5_init wI_X5 wc_X5_init ⟨Nat.le_of_ble_eq_true rfl, Nat.le_of_ble_eq_true rfl⟩ (by unfold vv_rm; rw [hl1, hz1]; exact ⟨Nat.le_of_ble_eq_true rfl, Nat.le_of_ble_eq_true rfl⟩) (Nat.le_of_ble_eq_true rfl) (by rw [hl1, hl2]; rfl) (by rw [hz1, hz2]; rfl) dL_law_12 ?_
  refine vi_astore_n (L' := [(2, .ref 158), (1, .ref 0), (0, .float 7)]) dL_law_15 rfl (by decide) rfl ?_
  refine vi_iconst (v := (0 : Int32)) dL_law_16 (by decide) ?_
  refine vi_istore_n (L' := [(3, .int (0 : Int32)), (2, .ref 158), (1, .ref 0), (0, .float 7)]) dL_law_17 rfl (by decide) rfl ?_
  refine vi_sub (L' := [(0, .float 7), (1, .ref 0), (2, .ref 158), (3, .int (0 : Int32))]) [3, 2, 1, 0] rfl ?_
  have h1 : vv_bb (vv_bS 0 ++ vv_dS 158) 0 := vv_is_bb (S0 := []) (l := vv_dS 158) (p := 0) rfl
  have h2 : vv_model (vv_bS 0 ++ vv_dS 158) 158 := by
    have h := vv_is_model (S0 := vv_bS 0) (l := []) (p := 158) (vv_bS_len 0)
    rwa [List.append_nil] at h
  exact t_L_law_18 n sc (by rw [hl2, hz2]; omega) u k 0 158 0 _ h1 h2 hf
