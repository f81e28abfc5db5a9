set_option maxRecDepth 100000 in
/-- the law from its entry: the constructor, then the rest -/
theorem t_L_law_0 (n : Nat) (sc : List Int32) (hn : 100 ≤ n) (u : Int32 × vv_M) (hf : f_L_law_8 n sc 0 (vv_bI 0 (fun _ => fun _ => 0)) = some u) : vv_V (0 :: sc) yL_law.cls yL_law.name cL_law 8 (some .boolean) room_1 0 0 (vv_fi (vv_bS 0) u) 0 [(0, .float 7)] [] [] (fun _ => fun _ => 0) := by
  refine vj_new (q := 0) (z := 0) (ci := 4) (fs := vv_bn) (S' := [.inr (.inr (4, vv_bn))]) rfl rfl rfl rfl wu_X4 tyX4 tyX4_ok wC_L_13 wn_X4 wI_X4 vj_fsX4 rfl rfl (Nat.le_of_ble_eq_true rfl) (Nat.le_of_ble_eq_true rfl) dL_law_0 ?_
  refine vi_dup dL_law_3 rfl ?_
  have hc0 : vv_C yX4_init (vv_w yX4_init cX4_init 1 none) (vv_R 4 157 16642) [.ref 0] [.inr (.inr (4, vv_bn))] (fun _ => fun _ => 0) none (vv_bS 0) (vv_bI 0 (fun _ => fun _ => 0)) := t_X4_init (S0 := []) (p := 0) rfl n (fun _ => fun _ => 0) hn (fun x _ => rfl)
  refine vi_callI (ci := 0) (fs := []) (T := TX2) (N := 0) (As := []) (st := [.ref 0]) hc0 rfl yo_X4_init rfl wm_L_92 wi_X4_init wI_X4 wc_X4_init ⟨Nat.le_of_ble_eq_true rfl, Nat.le_of_ble_eq_true rfl⟩ ⟨Nat.le_of_ble_eq_true rfl, Nat.le_of_ble_eq_true rfl⟩ (Nat.le_of_ble_eq_true rfl) (vv_bS_len 0) (vv_bS_sz 0) dL_law_4 ?_
  refine vi_astore_n (L' := [(1, .ref 0), (0, .float 7)]) dL_law_7 rfl (by decide) rfl ?_
  refine vi_sub (L' := [(0, .float 7), (1, .ref 0)]) [1, 0] rfl ?_
  have h1 : vv_bb (vv_bS 0) 0 := by
    have h := vv_is_bb (S0 := []) (l := []) (p := 0) rfl
    rwa [List.append_nil] at h
  exact t_L_law_8 n sc (by rw [vv_bS_len, vv_bS_sz]; omega) u 0 _ h1 hf
