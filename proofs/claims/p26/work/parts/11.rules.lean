theorem vv_sz_set {S : List vv_Sh} {q : Nat} {sh sh' : vv_Sh} (h : S[q]? = some sh) (he : vv_ssz sh' = vv_ssz sh) : vv_sz (S.set q sh') = vv_sz S := by
  unfold vv_sz
  rw [List.map_set]
  have : (S.map vv_ssz).set q (vv_ssz sh') = S.map vv_ssz := by
    apply List.ext_getElem?
    intro i
    rw [List.getElem?_set, List.getElem?_map]
    by_cases hi : q = i
    · subst hi
      have hl := (List.getElem?_eq_some_iff.mp h).1
      rw [if_pos rfl, if_pos (by rw [List.length_map]; exact hl), h]
      exact congrArg some he
    · rw [if_neg hi]
  rw [this]
section VI
variable {sc : List Int32} {own mname : String} {cc : ByteArray} {nL : Nat} {ret : Option FieldType} {R : Room} {n0 z0 : Nat} {Fi : Option Value → List vv_Sh → vv_M → Prop} {pc : Nat} {L : List (Nat × Value)} {st : List Value} {S : List vv_Sh} {M : vv_M}
theorem vi_iconst {n : Int} {v : Int32} (hdg : decode cc pc = .ok (.iconst n, 1)) (hv : Int32.ofInt n = v) (k : vv_V sc own mname cc nL ret R n0 z0 Fi (pc + 1) L (.int v :: st) S M) : vv_V sc own mname cc nL ret R n0 z0 Fi pc L st S M := by
  intro p l e s m args below meth c D cA b0 tb Q H locs ls E Hh h1 h2 hP hS hls
  exact lv_iconst E.1 E.2.1 hdg hv (k p l e s m args below meth c D cA b0 tb Q H locs ls E Hh h1 h2 hP hS hls)
theorem vi_bipush {n : Int} {v : Int32} (hdg : decode cc pc = .ok (.bipush n, 2)) (hv : (Int8.ofInt n).toInt32 = v) (k : vv_V sc own mname cc nL ret R n0 z0 Fi (pc + 2) L (.int v :: st) S M) : vv_V sc own mname cc nL ret R n0 z0 Fi pc L st S M := by
  intro p l e s m args below meth c D cA b0 tb Q H locs ls E Hh h1 h2 hP hS hls
  exact lv_bipush E.1 E.2.1 hdg hv (k p l e s m args below meth c D cA b0 tb Q H locs ls E Hh h1 h2 hP hS hls)
theorem vi_sipush {n : Int} {v : Int32} (hdg : decode cc pc = .ok (.sipush n, 3)) (hv : (Int16.ofInt n).toInt32 = v) (k : vv_V sc own mname cc nL ret R n0 z0 Fi (pc + 3) L (.int v :: st) S M) : vv_V sc own mname cc nL ret R n0 z0 Fi pc L st S M := by
  intro p l e s m args below meth c D cA b0 tb Q H locs ls E Hh h1 h2 hP hS hls
  exact lv_sipush E.1 E.2.1 hdg hv (k p l e s m args below meth c D cA b0 tb Q H locs ls E Hh h1 h2 hP hS hls)
theorem vi_lconst {n : Fin 2} {v : Int64} (hdg : decode cc pc = .ok (.lconst n, 1)) (hv : Int64.ofNat (n : Nat) = v) (k : vv_V sc own mname cc nL ret R n0 z0 Fi (pc + 1) L (.long v :: st) S M) : vv_V sc own mname cc nL ret R n0 z0 Fi pc L st S M := by
  intro p l e s m args below meth c D cA b0 tb Q H locs ls E Hh h1 h2 hP hS hls
  exact lv_lconst E.1 E.2.1 hdg hv (k p l e s m args below meth c D cA b0 tb Q H locs ls E Hh h1 h2 hP hS hls)
theorem vi_ldc2 {index : Nat} {v : Int64} (hw : Cond.constantLong own index v ∈ vv_T) (hdg : decode cc pc = .ok (.ldc2_w index, 3)) (k : vv_V sc own mname cc nL ret R n0 z0 Fi (pc + 3) L (.long v :: st) S M) : vv_V sc own mname cc nL ret R n0 z0 Fi pc L st S M := by
  intro p l e s m args below meth c D cA b0 tb Q H locs ls E Hh h1 h2 hP hS hls
  exact lv_ldc2 E.1 E.2.1 E.2.2.2.2.1 (E.2.2.2.2.2.1 _ hw) hdg (k p l e s m args below meth c D cA b0 tb Q H locs ls E Hh h1 h2 hP hS hls)
theorem vi_iload_n {q : Fin 4} {i : Nat} {x : Int32} (j : Nat) (hdg : decode cc pc = .ok (.iload_n q, 1)) (hi : (q : Nat) = i) (hl : L[j]? = some (i, .int x)) (k : vv_V sc own mname cc nL ret R n0 z0 Fi (pc + 1) L (.int x :: st) S M) : vv_V sc own mname cc nL ret R n0 z0 Fi pc L st S M := by
  intro p l e s m args below meth c D cA b0 tb Q H locs ls E Hh h1 h2 hP hS hls
  exact lv_iload_n E.1 E.2.1 hdg hi (lv_at hls j (vv_L_at hl)) (k p l e s m args below meth c D cA b0 tb Q H locs ls E Hh h1 h2 hP hS hls)
theorem vi_iload {i : Nat} {x : Int32} (j : Nat) (hdg : decode cc pc = .ok (.iload i, 2)) (hl : L[j]? = some (i, .int x)) (k : vv_V sc own mname cc nL ret R n0 z0 Fi (pc + 2) L (.int x :: st) S M) : vv_V sc own mname cc nL ret R n0 z0 Fi pc L st S M := by
  intro p l e s m args below meth c D cA b0 tb Q H locs ls E Hh h1 h2 hP hS hls
  exact lv_iload E.1 E.2.1 hdg (lv_at hls j (vv_L_at hl)) (k p l e s m args below meth c D cA b0 tb Q H locs ls E Hh h1 h2 hP hS hls)
theorem vi_lload_n {q : Fin 4} {i : Nat} {x : Int64} (j : Nat) (hdg : decode cc pc = .ok (.lload_n q, 1)) (hi : (q : Nat) = i) (hl : L[j]? = some (i, .long x)) (k : vv_V sc own mname cc nL ret R n0 z0 Fi (pc + 1) L (.long x :: st) S M) : vv_V sc own mname cc nL ret R n0 z0 Fi pc L st S M := by
  intro p l e s m args below meth c D cA b0 tb Q H locs ls E Hh h1 h2 hP hS hls
  exact lv_lload_n E.1 E.2.1 hdg hi (lv_at hls j (vv_L_at hl)) (k p l e s m args below meth c D cA b0 tb Q H locs ls E Hh h1 h2 hP hS hls)
theorem vi_lload {i : Nat} {x : Int64} (j : Nat) (hdg : decode cc pc = .ok (.lload i, 2)) (hl : L[j]? = some (i, .long x)) (k : vv_V sc own mname cc nL ret R n0 z0 Fi (pc + 2) L (.long x :: st) S M) : vv_V sc own mname cc nL ret R n0 z0 Fi pc L st S M := by
  intro p l e s m args below meth c D cA b0 tb Q H locs ls E Hh h1 h2 hP hS hls
  exact lv_lload E.1 E.2.1 hdg (lv_at hls j (vv_L_at hl)) (k p l e s m args below meth c D cA b0 tb Q H locs ls E Hh h1 h2 hP hS hls)
theorem vi_aload_n {q : Fin 4} {i : Nat} {x : Nat} (j : Nat) (hdg : decode cc pc = .ok (.aload_n q, 1)) (hi : (q : Nat) = i) (hl : L[j]? = some (i, .ref x)) (k : vv_V sc own mname cc nL ret R n0 z0 Fi (pc + 1) L (.ref x :: st) S M) : vv_V sc own mname cc nL ret R n0 z0 Fi pc L st S M := by
  intro p l e s m args below meth c D cA b0 tb Q H locs ls E Hh h1 h2 hP hS hls
  exact lv_aload_n E.1 E.2.1 hdg hi (lv_at hls j (vv_L_at hl)) (k p l e s m args below meth c D cA b0 tb Q H locs ls E Hh h1 h2 hP hS hls)
theorem vi_aload {i : Nat} {x : Nat} (j : Nat) (hdg : decode cc pc = .ok (.aload i, 2)) (hl : L[j]? = some (i, .ref x)) (k : vv_V sc own mname cc nL ret R n0 z0 Fi (pc + 2) L (.ref x :: st) S M) : vv_V sc own mname cc nL ret R n0 z0 Fi pc L st S M := by
  intro p l e s m args below meth c D cA b0 tb Q H locs ls E Hh h1 h2 hP hS hls
  exact lv_aload E.1 E.2.1 hdg (lv_at hls j (vv_L_at hl)) (k p l e s m args below meth c D cA b0 tb Q H locs ls E Hh h1 h2 hP hS hls)
theorem vi_aloadf_n {q : Fin 4} {i : Nat} {x : UInt32} (j : Nat) (hdg : decode cc pc = .ok (.aload_n q, 1)) (hi : (q : Nat) = i) (hl : L[j]? = some (i, .float x)) (k : vv_V sc own mname cc nL ret R n0 z0 Fi (pc + 1) L (.float x :: st) S M) : vv_V sc own mname cc nL ret R n0 z0 Fi pc L st S M := by
  intro p l e s m args below meth c D cA b0 tb Q H locs ls E Hh h1 h2 hP hS hls
  exact lv_aload_n E.1 E.2.1 hdg hi (lv_at hls j (vv_L_at hl)) (k p l e s m args below meth c D cA b0 tb Q H locs ls E Hh h1 h2 hP hS hls)
theorem vi_istore_n {q : Fin 4} {i : Nat} {x : Int32} {L' : List (Nat × Value)} (hdg : decode cc pc = .ok (.istore_n q, 1)) (hi : (q : Nat) = i) (hn : i < nL) (hl : vv_put i (.int x) L = L') (k : vv_V sc own mname cc nL ret R n0 z0 Fi (pc + 1) L' st S M) : vv_V sc own mname cc nL ret R n0 z0 Fi pc L (.int x :: st) S M := by
  intro p l e s m args below meth c D cA b0 tb Q H locs ls E Hh h1 h2 hP hS hls
  subst hl
  exact lv_istore_n E.1 E.2.1 hdg hi hls hn (vv_L_put b0 tb i (.int x) L) (fun ls' hl' => k p l e s m args below meth c D cA b0 tb Q H locs ls' E Hh h1 h2 hP hS hl')
theorem vi_istore {i : Nat} {x : Int32} {L' : List (Nat × Value)} (hdg : decode cc pc = .ok (.istore i, 2)) (hn : i < nL) (hl : vv_put i (.int x) L = L') (k : vv_V sc own mname cc nL ret R n0 z0 Fi (pc + 2) L' st S M) : vv_V sc own mname cc nL ret R n0 z0 Fi pc L (.int x :: st) S M := by
  intro p l e s m args below meth c D cA b0 tb Q H locs ls E Hh h1 h2 hP hS hls
  subst hl
  exact lv_istore E.1 E.2.1 hdg hls hn (vv_L_put b0 tb i (.int x) L) (fun ls' hl' => k p l e s m args below meth c D cA b0 tb Q H locs ls' E Hh h1 h2 hP hS hl')
theorem vi_astore_n {q : Fin 4} {i : Nat} {x : Nat} {L' : List (Nat × Value)} (hdg : decode cc pc = .ok (.astore_n q, 1)) (hi : (q : Nat) = i) (hn : i < nL) (hl : vv_put i (.ref x) L = L') (k : vv_V sc own mname cc nL ret R n0 z0 Fi (pc + 1) L' st S M) : vv_V sc own mname cc nL ret R n0 z0 Fi pc L (.ref x :: st) S M := by
  intro p l e s m args below meth c D cA b0 tb Q H locs ls E Hh h1 h2 hP hS hls
  subst hl
  exact lv_astore_n E.1 E.2.1 hdg hi hls hn (vv_L_put b0 tb i (.ref x) L) (fun ls' hl' => k p l e s m args below meth c D cA b0 tb Q H locs ls' E Hh h1 h2 hP hS hl')
theorem vi_astore {i : Nat} {x : Nat} {L' : List (Nat × Value)} (hdg : decode cc pc = .ok (.astore i, 2)) (hn : i < nL) (hl : vv_put i (.ref x) L = L') (k : vv_V sc own mname cc nL ret R n0 z0 Fi (pc + 2) L' st S M) : vv_V sc own mname cc nL ret R n0 z0 Fi pc L (.ref x :: st) S M := by
  intro p l e s m args below meth c D cA b0 tb Q H locs ls E Hh h1 h2 hP hS hls
  subst hl
  exact lv_astore E.1 E.2.1 hdg hls hn (vv_L_put b0 tb i (.ref x) L) (fun ls' hl' => k p l e s m args below meth c D cA b0 tb Q H locs ls' E Hh h1 h2 hP hS hl')
theorem vi_lstore_n {q : Fin 4} {i : Nat} {x : Int64} {L' : List (Nat × Value)} (hdg : decode cc pc = .ok (.lstore_n q, 1)) (hi : (q : Nat) = i) (hn : i + 1 < nL) (hl : vv_putl i (.long x) L = L') (k : vv_V sc own mname cc nL ret R n0 z0 Fi (pc + 1) L' st S M) : vv_V sc own mname cc nL ret R n0 z0 Fi pc L (.long x :: st) S M := by
  intro p l e s m args below meth c D cA b0 tb Q H locs ls E Hh h1 h2 hP hS hls
  subst hl
  exact lv_lstore_n E.1 E.2.1 hdg hi hls hn (vv_L_putl b0 tb i (.long x) L) (fun ls' hl' => k p l e s m args below meth c D cA b0 tb Q H locs ls' E Hh h1 h2 hP hS hl')
theorem vi_iinc {i : Nat} {n : Int} {x v : Int32} {L' : List (Nat × Value)} (j : Nat) (hdg : decode cc pc = .ok (.iinc i n, 3)) (hj : L[j]? = some (i, .int x)) (hv : x + Int32.ofInt n = v) (hn : i < nL) (hl : vv_put i (.int v) L = L') (k : vv_V sc own mname cc nL ret R n0 z0 Fi (pc + 3) L' st S M) : vv_V sc own mname cc nL ret R n0 z0 Fi pc L st S M := by
  intro p l e s m args below meth c D cA b0 tb Q H locs ls E Hh h1 h2 hP hS hls
  subst hl
  exact lv_iinc E.1 E.2.1 hdg hls (vv_L_at hj) hv hn (vv_L_put b0 tb i (.int v) L) (fun ls' hl' => k p l e s m args below meth c D cA b0 tb Q H locs ls' E Hh h1 h2 hP hS hl')
theorem vi_iadd {x y : Int32} (hdg : decode cc pc = .ok (.iadd, 1)) (k : vv_V sc own mname cc nL ret R n0 z0 Fi (pc + 1) L (.int (x + y) :: st) S M) : vv_V sc own mname cc nL ret R n0 z0 Fi pc L (.int y :: .int x :: st) S M := by
  intro p l e s m args below meth c D cA b0 tb Q H locs ls E Hh h1 h2 hP hS hls
  exact lv_iadd E.1 E.2.1 hdg (k p l e s m args below meth c D cA b0 tb Q H locs ls E Hh h1 h2 hP hS hls)
theorem vi_isub {x y : Int32} (hdg : decode cc pc = .ok (.isub, 1)) (k : vv_V sc own mname cc nL ret R n0 z0 Fi (pc + 1) L (.int (x - y) :: st) S M) : vv_V sc own mname cc nL ret R n0 z0 Fi pc L (.int y :: .int x :: st) S M := by
  intro p l e s m args below meth c D cA b0 tb Q H locs ls E Hh h1 h2 hP hS hls
  exact lv_isub E.1 E.2.1 hdg (k p l e s m args below meth c D cA b0 tb Q H locs ls E Hh h1 h2 hP hS hls)
theorem vi_imul {x y : Int32} (hdg : decode cc pc = .ok (.imul, 1)) (k : vv_V sc own mname cc nL ret R n0 z0 Fi (pc + 1) L (.int (x * y) :: st) S M) : vv_V sc own mname cc nL ret R n0 z0 Fi pc L (.int y :: .int x :: st) S M := by
  intro p l e s m args below meth c D cA b0 tb Q H locs ls E Hh h1 h2 hP hS hls
  exact lv_imul E.1 E.2.1 hdg (k p l e s m args below meth c D cA b0 tb Q H locs ls E Hh h1 h2 hP hS hls)
theorem vi_iand {x y : Int32} (hdg : decode cc pc = .ok (.iand, 1)) (k : vv_V sc own mname cc nL ret R n0 z0 Fi (pc + 1) L (.int (x &&& y) :: st) S M) : vv_V sc own mname cc nL ret R n0 z0 Fi pc L (.int y :: .int x :: st) S M := by
  intro p l e s m args below meth c D cA b0 tb Q H locs ls E Hh h1 h2 hP hS hls
  exact lv_iand E.1 E.2.1 hdg (k p l e s m args below meth c D cA b0 tb Q H locs ls E Hh h1 h2 hP hS hls)
theorem vi_ior {x y : Int32} (hdg : decode cc pc = .ok (.ior, 1)) (k : vv_V sc own mname cc nL ret R n0 z0 Fi (pc + 1) L (.int (x ||| y) :: st) S M) : vv_V sc own mname cc nL ret R n0 z0 Fi pc L (.int y :: .int x :: st) S M := by
  intro p l e s m args below meth c D cA b0 tb Q H locs ls E Hh h1 h2 hP hS hls
  exact lv_ior E.1 E.2.1 hdg (k p l e s m args below meth c D cA b0 tb Q H locs ls E Hh h1 h2 hP hS hls)
theorem vi_ishl {x y : Int32} (hdg : decode cc pc = .ok (.ishl, 1)) (k : vv_V sc own mname cc nL ret R n0 z0 Fi (pc + 1) L (.int (x <<< (y &&& 31)) :: st) S M) : vv_V sc own mname cc nL ret R n0 z0 Fi pc L (.int y :: .int x :: st) S M := by
  intro p l e s m args below meth c D cA b0 tb Q H locs ls E Hh h1 h2 hP hS hls
  exact lv_ishl E.1 E.2.1 hdg (k p l e s m args below meth c D cA b0 tb Q H locs ls E Hh h1 h2 hP hS hls)
theorem vi_ishr {x y : Int32} (hdg : decode cc pc = .ok (.ishr, 1)) (k : vv_V sc own mname cc nL ret R n0 z0 Fi (pc + 1) L (.int (x >>> (y &&& 31)) :: st) S M) : vv_V sc own mname cc nL ret R n0 z0 Fi pc L (.int y :: .int x :: st) S M := by
  intro p l e s m args below meth c D cA b0 tb Q H locs ls E Hh h1 h2 hP hS hls
  exact lv_ishr E.1 E.2.1 hdg (k p l e s m args below meth c D cA b0 tb Q H locs ls E Hh h1 h2 hP hS hls)
theorem vi_idiv {x y : Int32} (hdg : decode cc pc = .ok (.idiv, 1)) (hne : ¬ y = 0) (k : vv_V sc own mname cc nL ret R n0 z0 Fi (pc + 1) L (.int (x / y) :: st) S M) : vv_V sc own mname cc nL ret R n0 z0 Fi pc L (.int y :: .int x :: st) S M := by
  intro p l e s m args below meth c D cA b0 tb Q H locs ls E Hh h1 h2 hP hS hls
  exact lv_idiv E.1 E.2.1 hdg hne (k p l e s m args below meth c D cA b0 tb Q H locs ls E Hh h1 h2 hP hS hls)
theorem vi_irem {x y : Int32} (hdg : decode cc pc = .ok (.irem, 1)) (hne : ¬ y = 0) (k : vv_V sc own mname cc nL ret R n0 z0 Fi (pc + 1) L (.int (x - x / y * y) :: st) S M) : vv_V sc own mname cc nL ret R n0 z0 Fi pc L (.int y :: .int x :: st) S M := by
  intro p l e s m args below meth c D cA b0 tb Q H locs ls E Hh h1 h2 hP hS hls
  exact lv_irem E.1 E.2.1 hdg hne (k p l e s m args below meth c D cA b0 tb Q H locs ls E Hh h1 h2 hP hS hls)
theorem vi_ineg {x : Int32} (hdg : decode cc pc = .ok (.ineg, 1)) (k : vv_V sc own mname cc nL ret R n0 z0 Fi (pc + 1) L (.int (-x) :: st) S M) : vv_V sc own mname cc nL ret R n0 z0 Fi pc L (.int x :: st) S M := by
  intro p l e s m args below meth c D cA b0 tb Q H locs ls E Hh h1 h2 hP hS hls
  exact lv_ineg E.1 E.2.1 hdg (k p l e s m args below meth c D cA b0 tb Q H locs ls E Hh h1 h2 hP hS hls)
theorem vi_ladd {x y : Int64} (hdg : decode cc pc = .ok (.ladd, 1)) (k : vv_V sc own mname cc nL ret R n0 z0 Fi (pc + 1) L (.long (x + y) :: st) S M) : vv_V sc own mname cc nL ret R n0 z0 Fi pc L (.long y :: .long x :: st) S M := by
  intro p l e s m args below meth c D cA b0 tb Q H locs ls E Hh h1 h2 hP hS hls
  exact lv_ladd E.1 E.2.1 hdg (k p l e s m args below meth c D cA b0 tb Q H locs ls E Hh h1 h2 hP hS hls)
theorem vi_lsub {x y : Int64} (hdg : decode cc pc = .ok (.lsub, 1)) (k : vv_V sc own mname cc nL ret R n0 z0 Fi (pc + 1) L (.long (x - y) :: st) S M) : vv_V sc own mname cc nL ret R n0 z0 Fi pc L (.long y :: .long x :: st) S M := by
  intro p l e s m args below meth c D cA b0 tb Q H locs ls E Hh h1 h2 hP hS hls
  exact lv_lsub E.1 E.2.1 hdg (k p l e s m args below meth c D cA b0 tb Q H locs ls E Hh h1 h2 hP hS hls)
theorem vi_land {x y : Int64} (hdg : decode cc pc = .ok (.land, 1)) (k : vv_V sc own mname cc nL ret R n0 z0 Fi (pc + 1) L (.long (x &&& y) :: st) S M) : vv_V sc own mname cc nL ret R n0 z0 Fi pc L (.long y :: .long x :: st) S M := by
  intro p l e s m args below meth c D cA b0 tb Q H locs ls E Hh h1 h2 hP hS hls
  exact lv_land E.1 E.2.1 hdg (k p l e s m args below meth c D cA b0 tb Q H locs ls E Hh h1 h2 hP hS hls)
theorem vi_lor {x y : Int64} (hdg : decode cc pc = .ok (.lor, 1)) (k : vv_V sc own mname cc nL ret R n0 z0 Fi (pc + 1) L (.long (x ||| y) :: st) S M) : vv_V sc own mname cc nL ret R n0 z0 Fi pc L (.long y :: .long x :: st) S M := by
  intro p l e s m args below meth c D cA b0 tb Q H locs ls E Hh h1 h2 hP hS hls
  exact lv_lor E.1 E.2.1 hdg (k p l e s m args below meth c D cA b0 tb Q H locs ls E Hh h1 h2 hP hS hls)
theorem vi_lushr {x : Int64} {y : Int32} (hdg : decode cc pc = .ok (.lushr, 1)) (k : vv_V sc own mname cc nL ret R n0 z0 Fi (pc + 1) L (.long ((x.toUInt64 >>> (y.toInt64.toUInt64 &&& Int64.toUInt64 63)).toInt64) :: st) S M) : vv_V sc own mname cc nL ret R n0 z0 Fi pc L (.int y :: .long x :: st) S M := by
  intro p l e s m args below meth c D cA b0 tb Q H locs ls E Hh h1 h2 hP hS hls
  exact lv_lushr E.1 E.2.1 hdg rfl (k p l e s m args below meth c D cA b0 tb Q H locs ls E Hh h1 h2 hP hS hls)
theorem vi_lshl {x : Int64} {y : Int32} (hdg : decode cc pc = .ok (.lshl, 1)) (k : vv_V sc own mname cc nL ret R n0 z0 Fi (pc + 1) L (.long (x <<< (y.toInt64 &&& 63)) :: st) S M) : vv_V sc own mname cc nL ret R n0 z0 Fi pc L (.int y :: .long x :: st) S M := by
  intro p l e s m args below meth c D cA b0 tb Q H locs ls E Hh h1 h2 hP hS hls
  exact lv_lshl E.1 E.2.1 hdg rfl (k p l e s m args below meth c D cA b0 tb Q H locs ls E Hh h1 h2 hP hS hls)
theorem vi_l2i {x : Int64} (hdg : decode cc pc = .ok (.l2i, 1)) (k : vv_V sc own mname cc nL ret R n0 z0 Fi (pc + 1) L (.int x.toInt32 :: st) S M) : vv_V sc own mname cc nL ret R n0 z0 Fi pc L (.long x :: st) S M := by
  intro p l e s m args below meth c D cA b0 tb Q H locs ls E Hh h1 h2 hP hS hls
  exact lv_l2i E.1 E.2.1 hdg rfl (k p l e s m args below meth c D cA b0 tb Q H locs ls E Hh h1 h2 hP hS hls)
theorem vi_dup {v : Value} (hdg : decode cc pc = .ok (.dup, 1)) (hv : v.category = 1) (k : vv_V sc own mname cc nL ret R n0 z0 Fi (pc + 1) L (v :: v :: st) S M) : vv_V sc own mname cc nL ret R n0 z0 Fi pc L (v :: st) S M := by
  intro p l e s m args below meth c D cA b0 tb Q H locs ls E Hh h1 h2 hP hS hls
  exact lv_dup E.1 E.2.1 hdg ((vv_cat b0 tb v).trans hv) (k p l e s m args below meth c D cA b0 tb Q H locs ls E Hh h1 h2 hP hS hls)
theorem vi_pop {v : Value} (hdg : decode cc pc = .ok (.pop, 1)) (hv : v.category = 1) (k : vv_V sc own mname cc nL ret R n0 z0 Fi (pc + 1) L st S M) : vv_V sc own mname cc nL ret R n0 z0 Fi pc L (v :: st) S M := by
  intro p l e s m args below meth c D cA b0 tb Q H locs ls E Hh h1 h2 hP hS hls
  exact lv_pop E.1 E.2.1 hdg ((vv_cat b0 tb v).trans hv) (k p l e s m args below meth c D cA b0 tb Q H locs ls E Hh h1 h2 hP hS hls)
theorem vi_dup2 {v w : Value} (hdg : decode cc pc = .ok (.dup2, 1)) (hv : v.category = 1) (hw : w.category = 1) (k : vv_V sc own mname cc nL ret R n0 z0 Fi (pc + 1) L (v :: w :: v :: w :: st) S M) : vv_V sc own mname cc nL ret R n0 z0 Fi pc L (v :: w :: st) S M := by
  intro p l e s m args below meth c D cA b0 tb Q H locs ls E Hh h1 h2 hP hS hls
  exact lv_dup2_11 E.1 E.2.1 hdg ((vv_cat b0 tb v).trans hv) ((vv_cat b0 tb w).trans hw) (k p l e s m args below meth c D cA b0 tb Q H locs ls E Hh h1 h2 hP hS hls)
theorem vi_if_eq {x : Int32} {off : Int} (tgt : Nat) (hdg : decode cc pc = .ok (.ifCond .eq off, 3)) (ht : (pc : Int) + off = (tgt : Int)) (kt : x = 0 → vv_V sc own mname cc nL ret R n0 z0 Fi tgt L st S M) (kf : ¬ x = 0 → vv_V sc own mname cc nL ret R n0 z0 Fi (pc + 3) L st S M) : vv_V sc own mname cc nL ret R n0 z0 Fi pc L (.int x :: st) S M := by
  intro p l e s m args below meth c D cA b0 tb Q H locs ls E Hh h1 h2 hP hS hls
  exact lv_if_eq E.1 E.2.1 hdg ht (fun h => kt h p l e s m args below meth c D cA b0 tb Q H locs ls E Hh h1 h2 hP hS hls) (fun h => kf h p l e s m args below meth c D cA b0 tb Q H locs ls E Hh h1 h2 hP hS hls)
theorem vi_if_ne {x : Int32} {off : Int} (tgt : Nat) (hdg : decode cc pc = .ok (.ifCond .ne off, 3)) (ht : (pc : Int) + off = (tgt : Int)) (kt : ¬ x = 0 → vv_V sc own mname cc nL ret R n0 z0 Fi tgt L st S M) (kf : x = 0 → vv_V sc own mname cc nL ret R n0 z0 Fi (pc + 3) L st S M) : vv_V sc own mname cc nL ret R n0 z0 Fi pc L (.int x :: st) S M := by
  intro p l e s m args below meth c D cA b0 tb Q H locs ls E Hh h1 h2 hP hS hls
  exact lv_if_ne E.1 E.2.1 hdg ht (fun h => kt h p l e s m args below meth c D cA b0 tb Q H locs ls E Hh h1 h2 hP hS hls) (fun h => kf h p l e s m args below meth c D cA b0 tb Q H locs ls E Hh h1 h2 hP hS hls)
theorem vi_if_lt {x : Int32} {off : Int} (tgt : Nat) (hdg : decode cc pc = .ok (.ifCond .lt off, 3)) (ht : (pc : Int) + off = (tgt : Int)) (kt : x < 0 → vv_V sc own mname cc nL ret R n0 z0 Fi tgt L st S M) (kf : ¬ x < 0 → vv_V sc own mname cc nL ret R n0 z0 Fi (pc + 3) L st S M) : vv_V sc own mname cc nL ret R n0 z0 Fi pc L (.int x :: st) S M := by
  intro p l e s m args below meth c D cA b0 tb Q H locs ls E Hh h1 h2 hP hS hls
  exact lv_if_lt E.1 E.2.1 hdg ht (fun h => kt h p l e s m args below meth c D cA b0 tb Q H locs ls E Hh h1 h2 hP hS hls) (fun h => kf h p l e s m args below meth c D cA b0 tb Q H locs ls E Hh h1 h2 hP hS hls)
theorem vi_if_ge {x : Int32} {off : Int} (tgt : Nat) (hdg : decode cc pc = .ok (.ifCond .ge off, 3)) (ht : (pc : Int) + off = (tgt : Int)) (kt : 0 ≤ x → vv_V sc own mname cc nL ret R n0 z0 Fi tgt L st S M) (kf : ¬ 0 ≤ x → vv_V sc own mname cc nL ret R n0 z0 Fi (pc + 3) L st S M) : vv_V sc own mname cc nL ret R n0 z0 Fi pc L (.int x :: st) S M := by
  intro p l e s m args below meth c D cA b0 tb Q H locs ls E Hh h1 h2 hP hS hls
  exact lv_if_ge E.1 E.2.1 hdg ht (fun h => kt h p l e s m args below meth c D cA b0 tb Q H locs ls E Hh h1 h2 hP hS hls) (fun h => kf h p l e s m args below meth c D cA b0 tb Q H locs ls E Hh h1 h2 hP hS hls)
theorem vi_if_gt {x : Int32} {off : Int} (tgt : Nat) (hdg : decode cc pc = .ok (.ifCond .gt off, 3)) (ht : (pc : Int) + off = (tgt : Int)) (kt : 0 < x → vv_V sc own mname cc nL ret R n0 z0 Fi tgt L st S M) (kf : ¬ 0 < x → vv_V sc own mname cc nL ret R n0 z0 Fi (pc + 3) L st S M) : vv_V sc own mname cc nL ret R n0 z0 Fi pc L (.int x :: st) S M := by
  intro p l e s m args below meth c D cA b0 tb Q H locs ls E Hh h1 h2 hP hS hls
  exact lv_if_gt E.1 E.2.1 hdg ht (fun h => kt h p l e s m args below meth c D cA b0 tb Q H locs ls E Hh h1 h2 hP hS hls) (fun h => kf h p l e s m args below meth c D cA b0 tb Q H locs ls E Hh h1 h2 hP hS hls)
theorem vi_if_le {x : Int32} {off : Int} (tgt : Nat) (hdg : decode cc pc = .ok (.ifCond .le off, 3)) (ht : (pc : Int) + off = (tgt : Int)) (kt : x ≤ 0 → vv_V sc own mname cc nL ret R n0 z0 Fi tgt L st S M) (kf : ¬ x ≤ 0 → vv_V sc own mname cc nL ret R n0 z0 Fi (pc + 3) L st S M) : vv_V sc own mname cc nL ret R n0 z0 Fi pc L (.int x :: st) S M := by
  intro p l e s m args below meth c D cA b0 tb Q H locs ls E Hh h1 h2 hP hS hls
  exact lv_if_le E.1 E.2.1 hdg ht (fun h => kt h p l e s m args below meth c D cA b0 tb Q H locs ls E Hh h1 h2 hP hS hls) (fun h => kf h p l e s m args below meth c D cA b0 tb Q H locs ls E Hh h1 h2 hP hS hls)
theorem vi_icmp_eq {x y : Int32} {off : Int} (tgt : Nat) (hdg : decode cc pc = .ok (.if_icmp .eq off, 3)) (ht : (pc : Int) + off = (tgt : Int)) (kt : x = y → vv_V sc own mname cc nL ret R n0 z0 Fi tgt L st S M) (kf : ¬ x = y → vv_V sc own mname cc nL ret R n0 z0 Fi (pc + 3) L st S M) : vv_V sc own mname cc nL ret R n0 z0 Fi pc L (.int y :: .int x :: st) S M := by
  intro p l e s m args below meth c D cA b0 tb Q H locs ls E Hh h1 h2 hP hS hls
  exact lv_icmp_eq E.1 E.2.1 hdg ht (fun h => kt h p l e s m args below meth c D cA b0 tb Q H locs ls E Hh h1 h2 hP hS hls) (fun h => kf h p l e s m args below meth c D cA b0 tb Q H locs ls E Hh h1 h2 hP hS hls)
theorem vi_icmp_ne {x y : Int32} {off : Int} (tgt : Nat) (hdg : decode cc pc = .ok (.if_icmp .ne off, 3)) (ht : (pc : Int) + off = (tgt : Int)) (kt : ¬ x = y → vv_V sc own mname cc nL ret R n0 z0 Fi tgt L st S M) (kf : x = y → vv_V sc own mname cc nL ret R n0 z0 Fi (pc + 3) L st S M) : vv_V sc own mname cc nL ret R n0 z0 Fi pc L (.int y :: .int x :: st) S M := by
  intro p l e s m args below meth c D cA b0 tb Q H locs ls E Hh h1 h2 hP hS hls
  exact lv_icmp_ne E.1 E.2.1 hdg ht (fun h => kt h p l e s m args below meth c D cA b0 tb Q H locs ls E Hh h1 h2 hP hS hls) (fun h => kf h p l e s m args below meth c D cA b0 tb Q H locs ls E Hh h1 h2 hP hS hls)
theorem vi_icmp_lt {x y : Int32} {off : Int} (tgt : Nat) (hdg : decode cc pc = .ok (.if_icmp .lt off, 3)) (ht : (pc : Int) + off = (tgt : Int)) (kt : x < y → vv_V sc own mname cc nL ret R n0 z0 Fi tgt L st S M) (kf : ¬ x < y → vv_V sc own mname cc nL ret R n0 z0 Fi (pc + 3) L st S M) : vv_V sc own mname cc nL ret R n0 z0 Fi pc L (.int y :: .int x :: st) S M := by
  intro p l e s m args below meth c D cA b0 tb Q H locs ls E Hh h1 h2 hP hS hls
  exact lv_icmp_lt E.1 E.2.1 hdg ht (fun h => kt h p l e s m args below meth c D cA b0 tb Q H locs ls E Hh h1 h2 hP hS hls) (fun h => kf h p l e s m args below meth c D cA b0 tb Q H locs ls E Hh h1 h2 hP hS hls)
theorem vi_icmp_ge {x y : Int32} {off : Int} (tgt : Nat) (hdg : decode cc pc = .ok (.if_icmp .ge off, 3)) (ht : (pc : Int) + off = (tgt : Int)) (kt : y ≤ x → vv_V sc own mname cc nL ret R n0 z0 Fi tgt L st S M) (kf : ¬ y ≤ x → vv_V sc own mname cc nL ret R n0 z0 Fi (pc + 3) L st S M) : vv_V sc own mname cc nL ret R n0 z0 Fi pc L (.int y :: .int x :: st) S M := by
  intro p l e s m args below meth c D cA b0 tb Q H locs ls E Hh h1 h2 hP hS hls
  exact lv_icmp_ge E.1 E.2.1 hdg ht (fun h => kt h p l e s m args below meth c D cA b0 tb Q H locs ls E Hh h1 h2 hP hS hls) (fun h => kf h p l e s m args below meth c D cA b0 tb Q H locs ls E Hh h1 h2 hP hS hls)
theorem vi_icmp_gt {x y : Int32} {off : Int} (tgt : Nat) (hdg : decode cc pc = .ok (.if_icmp .gt off, 3)) (ht : (pc : Int) + off = (tgt : Int)) (kt : y < x → vv_V sc own mname cc nL ret R n0 z0 Fi tgt L st S M) (kf : ¬ y < x → vv_V sc own mname cc nL ret R n0 z0 Fi (pc + 3) L st S M) : vv_V sc own mname cc nL ret R n0 z0 Fi pc L (.int y :: .int x :: st) S M := by
  intro p l e s m args below meth c D cA b0 tb Q H locs ls E Hh h1 h2 hP hS hls
  exact lv_icmp_gt E.1 E.2.1 hdg ht (fun h => kt h p l e s m args below meth c D cA b0 tb Q H locs ls E Hh h1 h2 hP hS hls) (fun h => kf h p l e s m args below meth c D cA b0 tb Q H locs ls E Hh h1 h2 hP hS hls)
theorem vi_icmp_le {x y : Int32} {off : Int} (tgt : Nat) (hdg : decode cc pc = .ok (.if_icmp .le off, 3)) (ht : (pc : Int) + off = (tgt : Int)) (kt : x ≤ y → vv_V sc own mname cc nL ret R n0 z0 Fi tgt L st S M) (kf : ¬ x ≤ y → vv_V sc own mname cc nL ret R n0 z0 Fi (pc + 3) L st S M) : vv_V sc own mname cc nL ret R n0 z0 Fi pc L (.int y :: .int x :: st) S M := by
  intro p l e s m args below meth c D cA b0 tb Q H locs ls E Hh h1 h2 hP hS hls
  exact lv_icmp_le E.1 E.2.1 hdg ht (fun h => kt h p l e s m args below meth c D cA b0 tb Q H locs ls E Hh h1 h2 hP hS hls) (fun h => kf h p l e s m args below meth c D cA b0 tb Q H locs ls E Hh h1 h2 hP hS hls)
theorem vi_goto {off : Int} (tgt : Nat) (hdg : decode cc pc = .ok (.goto off, 3)) (ht : (pc : Int) + off = (tgt : Int)) (k : vv_V sc own mname cc nL ret R n0 z0 Fi tgt L st S M) : vv_V sc own mname cc nL ret R n0 z0 Fi pc L st S M := by
  intro p l e s m args below meth c D cA b0 tb Q H locs ls E Hh h1 h2 hP hS hls
  exact lv_goto E.1 E.2.1 hdg ht (k p l e s m args below meth c D cA b0 tb Q H locs ls E Hh h1 h2 hP hS hls)
theorem vi_tableAt {dflt lo hi : Int} {offs : Array Int} {len : Nat} {x v : Int32} {off : Int} (tgt : Nat) (hx : x = v) (hdg : decode cc pc = .ok (.tableswitch dflt lo hi offs, len)) (h1' : ¬ v.toInt < lo) (h2' : ¬ hi < v.toInt) (ho : offs[(v.toInt - lo).toNat]? = some off) (ht : (pc : Int) + off = (tgt : Int)) (k : vv_V sc own mname cc nL ret R n0 z0 Fi tgt L st S M) : vv_V sc own mname cc nL ret R n0 z0 Fi pc L (.int x :: st) S M := by
  intro p l e s m args below meth c D cA b0 tb Q H locs ls E Hh h1 h2 hP hS hls
  subst hx
  exact lv_tableIn E.1 E.2.1 hdg h1' h2' ho ht (k p l e s m args below meth c D cA b0 tb Q H locs ls E Hh h1 h2 hP hS hls)
theorem vi_tableOut {dflt lo hi : Int} {offs : Array Int} {len : Nat} {x : Int32} (tgt : Nat) (hdg : decode cc pc = .ok (.tableswitch dflt lo hi offs, len)) (h : x.toInt < lo ∨ hi < x.toInt) (ht : (pc : Int) + dflt = (tgt : Int)) (k : vv_V sc own mname cc nL ret R n0 z0 Fi tgt L st S M) : vv_V sc own mname cc nL ret R n0 z0 Fi pc L (.int x :: st) S M := by
  intro p l e s m args below meth c D cA b0 tb Q H locs ls E Hh h1 h2 hP hS hls
  exact lv_tableOut E.1 E.2.1 hdg h ht (k p l e s m args below meth c D cA b0 tb Q H locs ls E Hh h1 h2 hP hS hls)
theorem vi_lookup {dflt : Int} {ps : Array (Int × Int)} {len : Nat} {x : Int32} {off : Int} (tgt : Nat) (hdg : decode cc pc = .ok (.lookupswitch dflt ps, len)) (hp : (ps.toList.zip (ps.toList.drop 1)).all (fun (a, next) => a.1 < next.1) = true) (ho : Op.lookupswitch.offset ps.toList dflt x.toInt = off) (ht : (pc : Int) + off = (tgt : Int)) (k : vv_V sc own mname cc nL ret R n0 z0 Fi tgt L st S M) : vv_V sc own mname cc nL ret R n0 z0 Fi pc L (.int x :: st) S M := by
  intro p l e s m args below meth c D cA b0 tb Q H locs ls E Hh h1 h2 hP hS hls
  exact lv_lookup E.1 E.2.1 hdg hp ho ht (k p l e s m args below meth c D cA b0 tb Q H locs ls E Hh h1 h2 hP hS hls)
theorem vi_sub {L' : List (Nat × Value)} (ks : List Nat) (hl : lv_pick L ks = L') (k : vv_V sc own mname cc nL ret R n0 z0 Fi pc L' st S M) : vv_V sc own mname cc nL ret R n0 z0 Fi pc L st S M := by
  intro p l e s m args below meth c D cA b0 tb Q H locs ls E Hh h1 h2 hP hS hls
  exact k p l e s m args below meth c D cA b0 tb Q H locs ls E Hh h1 h2 hP hS (lv_sub hls ks (by rw [vv_L_pick, hl]))
theorem vi_ret {v : Option Value} (hst : st = v.toList) (hrt : vv_rt cc ret pc v) (hf : Fi v S M) : vv_V sc own mname cc nL ret R n0 z0 Fi pc L st S M := by
  intro p l e s m args below meth c D cA b0 tb Q H locs ls E Hh h1 h2 hP hS hls
  subst hst
  have K := Hh v S M H locs pc ls hrt hf h1 h2 hP hS
  have e : vv_st b0 tb v.toList = (v.map (vv_rv b0 tb)).toList := by cases v <;> rfl
  rw [e]
  exact K
theorem vi_geti {index ci q : Nat} {C : String} {T : u_T} {N : Nat} {fs : List (Option (Option Nat))} (k : Nat) (hf : fs[k]? = some none) (hsh : S[q]? = some (.inr (.inr (ci, fs)))) (hcl : vv_cl[ci]? = some (C, T, N)) (hin : ∀ w ∈ u_ws C T N, w ∈ vv_T) (hk : k < N) (hw : Cond.fieldLink own index (T k).1 (T k).2.1 (T k).2.2.1 ∈ vv_T) (hdg : decode cc pc = .ok (.getfield index, 3)) (kk : vv_V sc own mname cc nL ret R n0 z0 Fi (pc + 3) L (.int (M q k) :: st) S M) : vv_V sc own mname cc nL ret R n0 z0 Fi pc L (.ref q :: st) S M := by
  intro p l e s m args below meth c D cA b0 tb Q H locs ls E Hh h1 h2 hP hS hls
  exact va_get E.1 E.2.1 E.2.2.2.2.2.1 hin E.2.2.2.2.1 E.2.2.2.2.2.2.2.2.1 hP q (vv_at b0 cA M hsh) hcl k hk (E.2.2.2.2.2.1 _ hw) (fun _ h9 => h9) (vv_fs_at hf) hdg (kk p l e s m args below meth c D cA b0 tb Q H locs ls E Hh h1 h2 hP hS hls)
theorem vi_getr {index ci q : Nat} {C : String} {T : u_T} {N : Nat} {fs : List (Option (Option Nat))} (k : Nat) {t : Nat} (hf : fs[k]? = some (some (some t))) (hsh : S[q]? = some (.inr (.inr (ci, fs)))) (hcl : vv_cl[ci]? = some (C, T, N)) (hin : ∀ w ∈ u_ws C T N, w ∈ vv_T) (hk : k < N) (hw : Cond.fieldLink own index (T k).1 (T k).2.1 (T k).2.2.1 ∈ vv_T) (hdg : decode cc pc = .ok (.getfield index, 3)) (kk : vv_V sc own mname cc nL ret R n0 z0 Fi (pc + 3) L (.ref t :: st) S M) : vv_V sc own mname cc nL ret R n0 z0 Fi pc L (.ref q :: st) S M := by
  intro p l e s m args below meth c D cA b0 tb Q H locs ls E Hh h1 h2 hP hS hls
  exact va_get E.1 E.2.1 E.2.2.2.2.2.1 hin E.2.2.2.2.1 E.2.2.2.2.2.2.2.2.1 hP q (vv_at b0 cA M hsh) hcl k hk (E.2.2.2.2.2.1 _ hw) (fun _ h9 => h9) (vv_fs_at hf) hdg (kk p l e s m args below meth c D cA b0 tb Q H locs ls E Hh h1 h2 hP hS hls)
theorem vi_puti {index ci q : Nat} {C : String} {T : u_T} {N : Nat} {fs : List (Option (Option Nat))} {x : Int32} {M' : vv_M} (k : Nat) (hf : fs[k]? = some none) (hM : va_up M q (upd (M q) k x) = M') (hsh : S[q]? = some (.inr (.inr (ci, fs)))) (hcl : vv_cl[ci]? = some (C, T, N)) (hin : ∀ w ∈ u_ws C T N, w ∈ vv_T) (ty0 : Nat → FieldType) (hty : ∀ k, k < N → parseFieldDescriptor (T k).2.2.1 = some (ty0 k)) (hnm : ∀ a, a < N → ∀ b, b < N → a ≠ b → (T a).2.1 ≠ (T b).2.1) (hk : k < N) (hfin : (T k).2.2.2 = false) (hd : parseFieldDescriptor (T k).2.2.1 = some .int) (hw : Cond.fieldLink own index (T k).1 (T k).2.1 (T k).2.2.1 ∈ vv_T) (hdg : decode cc pc = .ok (.putfield index, 3)) (kk : vv_V sc own mname cc nL ret R n0 z0 Fi (pc + 3) L st S M') : vv_V sc own mname cc nL ret R n0 z0 Fi pc L (.int x :: .ref q :: st) S M := by
  intro p l e s m args below meth c D cA b0 tb Q H locs ls E Hh h1 h2 hP hS hls
  subst hM
  have hl := (List.getElem?_eq_some_iff.mp hf).1
  refine va_put E.1 E.2.1 E.2.2.2.2.2.1 hin ty0 hty hnm E.2.2.2.2.1 E.2.2.2.2.2.2.2.2.1 hP (vv_Dd b0 cA S M) hS q (vv_at b0 cA M hsh) hcl k hk (E.2.2.2.2.2.1 _ hw) (fun _ h9 => h9) hfin (ty := .int) hd rfl rfl (by rw [vv_fs_len]; exact hl) hdg (fun H1 locs1 hP1 hD1 hS1 => ?_)
  have ee : (vv_ws b0 cA S M).set q (b0 + q, .inr (ci, (vv_fs b0 (M q) fs).set k (.int x))) = vv_ws b0 cA S (va_up M q (upd (M q) k x)) := by
    rw [vv_fs_int hf, ← vv_set (M' := va_up M q (upd (M q) k x)) hsh (fun j hj => if_neg hj)]
    rw [show va_up M q (upd (M q) k x) q = upd (M q) k x from if_pos rfl]
    rfl
  have hP1 : va_P D vv_cl ((vv_ws b0 cA S M).set q (b0 + q, .inr (ci, (vv_fs b0 (M q) fs).set k (.int x)))) H1 := hP1
  rw [ee] at hP1
  exact kk p l e s m args below meth c D cA b0 tb Q H1 locs1 ls E Hh h1 h2 hP1 hS1 hls
theorem vi_putr {index ci q t : Nat} {C : String} {T : u_T} {N : Nat} {fs : List (Option (Option Nat))} {ty : FieldType} {S' : List vv_Sh} (k : Nat) (hf : k < fs.length) (hS' : S.set q (.inr (.inr (ci, fs.set k (some (some t))))) = S') (hsh : S[q]? = some (.inr (.inr (ci, fs)))) (hcl : vv_cl[ci]? = some (C, T, N)) (hin : ∀ w ∈ u_ws C T N, w ∈ vv_T) (ty0 : Nat → FieldType) (hty : ∀ k, k < N → parseFieldDescriptor (T k).2.2.1 = some (ty0 k)) (hnm : ∀ a, a < N → ∀ b, b < N → a ≠ b → (T a).2.1 ≠ (T b).2.1) (hk : k < N) (hfin : (T k).2.2.2 = true) (hdecl : (T k).1 = own) (hini : mname = "<init>") (hd : parseFieldDescriptor (T k).2.2.1 = some ty) (hnw : ∀ t : Nat, narrow ty (.ref t) = .ref t) (hft : ∀ t : Nat, fits ty (.ref t) = true) (hw : Cond.fieldLink own index (T k).1 (T k).2.1 (T k).2.2.1 ∈ vv_T) (hdg : decode cc pc = .ok (.putfield index, 3)) (kk : vv_V sc own mname cc nL ret R n0 z0 Fi (pc + 3) L st S' M) : vv_V sc own mname cc nL ret R n0 z0 Fi pc L (.ref t :: .ref q :: st) S M := by
  intro p l e s m args below meth c D cA b0 tb Q H locs ls E Hh h1 h2 hP hS hls
  subst hS'
  refine va_putF E.1 E.2.1 E.2.2.2.2.2.1 hin ty0 hty hnm E.2.2.2.2.1 E.2.2.2.2.2.2.2.2.1 hP (vv_Dd b0 cA S M) hS q (vv_at b0 cA M hsh) hcl k hk (E.2.2.2.2.2.1 _ hw) (fun _ h9 => h9) hfin (E.2.2.2.2.2.2.2.2.2.2.1.trans hini) hdecl (ty := ty) hd (hnw _) (hft _) (by rw [vv_fs_len]; exact hf) hdg (fun H1 locs1 hP1 hD1 hS1 => ?_)
  have ee : (vv_ws b0 cA S M).set q (b0 + q, .inr (ci, (vv_fs b0 (M q) fs).set k (.ref (b0 + t)))) = vv_ws b0 cA (S.set q (.inr (.inr (ci, fs.set k (some (some t)))))) M := by
    rw [vv_fs_ref, ← vv_setS]
    rfl
  have hP1 : va_P D vv_cl ((vv_ws b0 cA S M).set q (b0 + q, .inr (ci, (vv_fs b0 (M q) fs).set k (.ref (b0 + t))))) H1 := hP1
  rw [ee] at hP1
  have hlen : (S.set q (.inr (.inr (ci, fs.set k (some (some t)))))).length = S.length := List.length_set
  have hsz : vv_sz (S.set q (.inr (.inr (ci, fs.set k (some (some t)))))) = vv_sz S := vv_sz_set hsh (by show (fs.set k _).length = fs.length; exact List.length_set)
  have K := kk p l e s m args below meth c D cA b0 tb Q H1 locs1 ls E Hh (by rw [hlen]; exact h1) (by rw [hsz]; exact h2) hP1 hS1 hls
  rw [hlen, hsz] at K
  exact K
theorem vi_iald {q n : Nat} {i : Int32} (hsh : S[q]? = some (.inl (0, n))) (hin : vp_in i n) (hdg : decode cc pc = .ok (.iaload, 1)) (kk : vv_V sc own mname cc nL ret R n0 z0 Fi (pc + 1) L (.int (M q i.toNatClampNeg) :: st) S M) : vv_V sc own mname cc nL ret R n0 z0 Fi pc L (.int i :: .ref q :: st) S M := by
  intro p l e s m args below meth c D cA b0 tb Q H locs ls E Hh h1 h2 hP hS hls
  exact va_iald E.1 E.2.1 E.2.2.2.2.2.2.2.2.1 hP q 0 (vv_at b0 cA M hsh) rfl hin hdg (kk p l e s m args below meth c D cA b0 tb Q H locs ls E Hh h1 h2 hP hS hls)
theorem vi_zald {q n : Nat} {i : Int32} (hsh : S[q]? = some (.inl (1, n))) (hin : vp_in i n) (hdg : decode cc pc = .ok (.baload, 1)) (kk : vv_V sc own mname cc nL ret R n0 z0 Fi (pc + 1) L (.int (M q i.toNatClampNeg) :: st) S M) : vv_V sc own mname cc nL ret R n0 z0 Fi pc L (.int i :: .ref q :: st) S M := by
  intro p l e s m args below meth c D cA b0 tb Q H locs ls E Hh h1 h2 hP hS hls
  exact va_zald E.1 E.2.1 E.2.2.2.2.2.2.2.2.1 hP q 1 (vv_at b0 cA M hsh) rfl hin hdg (kk p l e s m args below meth c D cA b0 tb Q H locs ls E Hh h1 h2 hP hS hls)
theorem vi_iast {q n : Nat} {i x : Int32} {M' : vv_M} (hsh : S[q]? = some (.inl (0, n))) (hin : vp_in i n) (hM : va_up M q (upd (M q) i.toNatClampNeg x) = M') (hdg : decode cc pc = .ok (.iastore, 1)) (kk : vv_V sc own mname cc nL ret R n0 z0 Fi (pc + 1) L st S M') : vv_V sc own mname cc nL ret R n0 z0 Fi pc L (.int x :: .int i :: .ref q :: st) S M := by
  intro p l e s m args below meth c D cA b0 tb Q H locs ls E Hh h1 h2 hP hS hls
  subst hM
  refine va_iast E.1 E.2.1 E.2.2.2.2.2.2.2.2.1 hP (vv_Dd b0 cA S M) hS q 0 (vv_at b0 cA M hsh) rfl hin hdg (fun H1 locs1 hP1 hD1 hS1 => ?_)
  have ee : (vv_ws b0 cA S M).set q (b0 + q, .inl (cA 0, n, .inl (upd (M q) i.toNatClampNeg x))) = vv_ws b0 cA S (va_up M q (upd (M q) i.toNatClampNeg x)) := by
    rw [← vv_set (M' := va_up M q (upd (M q) i.toNatClampNeg x)) hsh (fun j hj => if_neg hj)]
    rw [show va_up M q (upd (M q) i.toNatClampNeg x) q = upd (M q) i.toNatClampNeg x from if_pos rfl]
    rfl
  rw [ee] at hP1
  exact kk p l e s m args below meth c D cA b0 tb Q H1 locs1 ls E Hh h1 h2 hP1 hS1 hls
theorem vi_zast {q n : Nat} {i x : Int32} {M' : vv_M} (hsh : S[q]? = some (.inl (1, n))) (hin : vp_in i n) (hM : va_up M q (upd (M q) i.toNatClampNeg (vp_nar .boolean x)) = M') (hdg : decode cc pc = .ok (.bastore, 1)) (kk : vv_V sc own mname cc nL ret R n0 z0 Fi (pc + 1) L st S M') : vv_V sc own mname cc nL ret R n0 z0 Fi pc L (.int x :: .int i :: .ref q :: st) S M := by
  intro p l e s m args below meth c D cA b0 tb Q H locs ls E Hh h1 h2 hP hS hls
  subst hM
  refine va_zast E.1 E.2.1 E.2.2.2.2.2.2.2.2.1 hP (vv_Dd b0 cA S M) hS q 1 (vv_at b0 cA M hsh) rfl hin hdg (fun H1 locs1 hP1 hD1 hS1 => ?_)
  have ee : (vv_ws b0 cA S M).set q (b0 + q, .inl (cA 1, n, .inl (upd (M q) i.toNatClampNeg (vp_nar .boolean x)))) = vv_ws b0 cA S (va_up M q (upd (M q) i.toNatClampNeg (vp_nar .boolean x))) := by
    rw [← vv_set (M' := va_up M q (upd (M q) i.toNatClampNeg (vp_nar .boolean x))) hsh (fun j hj => if_neg hj)]
    rw [show va_up M q (upd (M q) i.toNatClampNeg (vp_nar .boolean x)) q = upd (M q) i.toNatClampNeg (vp_nar .boolean x) from if_pos rfl]
    rfl
  rw [ee] at hP1
  exact kk p l e s m args below meth c D cA b0 tb Q H1 locs1 ls E Hh h1 h2 hP1 hS1 hls
theorem vi_aald2 {q n fil base stride : Nat} {i : Int32} (hsh : S[q]? = some (.inr (.inl (2, n, fil, base, stride)))) (hin : vp_in i n) (hfil : i.toNatClampNeg < fil) (hdg : decode cc pc = .ok (.aaload, 1)) (kk : vv_V sc own mname cc nL ret R n0 z0 Fi (pc + 1) L (.ref (base + stride * i.toNatClampNeg) :: st) S M) : vv_V sc own mname cc nL ret R n0 z0 Fi pc L (.int i :: .ref q :: st) S M := by
  intro p l e s m args below meth c D cA b0 tb Q H locs ls E Hh h1 h2 hP hS hls
  refine va_aldq (C := RX2) E.1 E.2.1 E.2.2.2.2.2.2.2.2.1 hP q 2 (vv_at b0 cA M hsh) rfl hin hdg ?_
  unfold vv_rq
  rw [if_pos hfil]
  exact kk p l e s m args below meth c D cA b0 tb Q H locs ls E Hh h1 h2 hP hS hls
theorem vi_aald3 {q n fil base stride : Nat} {i : Int32} (hsh : S[q]? = some (.inr (.inl (3, n, fil, base, stride)))) (hin : vp_in i n) (hfil : i.toNatClampNeg < fil) (hdg : decode cc pc = .ok (.aaload, 1)) (kk : vv_V sc own mname cc nL ret R n0 z0 Fi (pc + 1) L (.ref (base + stride * i.toNatClampNeg) :: st) S M) : vv_V sc own mname cc nL ret R n0 z0 Fi pc L (.int i :: .ref q :: st) S M := by
  intro p l e s m args below meth c D cA b0 tb Q H locs ls E Hh h1 h2 hP hS hls
  refine va_aldq (C := RX1) E.1 E.2.1 E.2.2.2.2.2.2.2.2.1 hP q 3 (vv_at b0 cA M hsh) rfl hin hdg ?_
  unfold vv_rq
  rw [if_pos hfil]
  exact kk p l e s m args below meth c D cA b0 tb Q H locs ls E Hh h1 h2 hP hS hls
end VI
