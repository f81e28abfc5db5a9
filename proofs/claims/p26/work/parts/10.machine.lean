/-! THE WORLD: one list of shapes at consecutive addresses from b0 on, and one memory of ints -/
abbrev vv_M : Type := Nat → Nat → Int32
abbrev vv_Sh : Type := (Nat × Nat) ⊕ ((Nat × Nat × Nat × Nat × Nat) ⊕ (Nat × List (Option (Option Nat))))
abbrev vv_cl : List vw_C := [(RX0, TX0, 3), (RX1, TX1, 3), (RX2, TX2, 9), (RX3, TX3, 6), (RX4, TX4, 4)]
abbrev vv_tys (cA : Nat → ClassId) : List (ClassId × FieldType) := [(cA 0, .int), (cA 1, .boolean), (cA 2, .object RX2), (cA 3, .object RX1)]
def vv_fv (b0 : Nat) (r : Nat → Int32) (k : Nat) (o : Option (Option Nat)) : Value := match o with
  | none => .int (r k)
  | some none => .null
  | some (some q) => .ref (b0 + q)
def vv_fs (b0 : Nat) (r : Nat → Int32) (fs : List (Option (Option Nat))) : List Value := fs.mapIdx (fun k o => vv_fv b0 r k o)
def vv_rq (b0 fil base stride : Nat) (j : Nat) : Option Nat := if j < fil then some (b0 + (base + stride * j)) else none
def vv_cell (b0 : Nat) (cA : Nat → ClassId) (r : Nat → Int32) (sh : vv_Sh) : va_E := match sh with
  | .inl (tag, n) => .inl (cA tag, n, .inl r)
  | .inr (.inl (tag, n, fil, base, stride)) => .inl (cA tag, n, .inr (.inr (.inr (.inr (vv_rq b0 fil base stride)))))
  | .inr (.inr (ci, fs)) => .inr (ci, vv_fs b0 r fs)
def vv_ws (b0 : Nat) (cA : Nat → ClassId) (S : List vv_Sh) (M : vv_M) : va_W := S.mapIdx (fun k sh => (b0 + k, vv_cell b0 cA (M k) sh))
def vv_ssz (sh : vv_Sh) : Nat := match sh with
  | .inl (_, n) => n
  | .inr (.inl (_, n, _)) => n
  | .inr (.inr (_, fs)) => fs.length
def vv_sz (S : List vv_Sh) : Nat := (S.map vv_ssz).sum
def vv_A (b0 : Nat) : Nat → Prop := fun q => b0 ≤ q
theorem vv_at (b0 : Nat) (cA : Nat → ClassId) {S : List vv_Sh} (M : vv_M) {q : Nat} {sh : vv_Sh} (h : S[q]? = some sh) : (vv_ws b0 cA S M)[q]? = some (b0 + q, vv_cell b0 cA (M q) sh) := by
  unfold vv_ws
  rw [List.getElem?_mapIdx, h]
  rfl
theorem vv_Dd (b0 : Nat) (cA : Nat → ClassId) (S : List vv_Sh) (M : vv_M) : va_D (vv_A b0) (vv_ws b0 cA S M) := by
  have key : ∀ (k : Nat) (q : Nat × va_E), (vv_ws b0 cA S M)[k]? = some q → q.1 = b0 + k := by
    intro k q h
    unfold vv_ws at h
    rw [List.getElem?_mapIdx] at h
    cases hs : S[k]? with
    | none => rw [hs] at h; cases h
    | some sh => rw [hs] at h; cases h; rfl
  refine ⟨fun i j x y hi hj hxy => ?_, fun k q hk => ?_⟩
  · have h1 := key i x hi
    have h2 := key j y hj
    omega
  · have h1 := key k q hk
    show b0 ≤ q.1
    omega
theorem vv_set {b0 : Nat} {cA : Nat → ClassId} {S : List vv_Sh} {M M' : vv_M} {q : Nat} {sh : vv_Sh} (h : S[q]? = some sh) (hM : ∀ j, j ≠ q → M' j = M j) : (vv_ws b0 cA S M).set q (b0 + q, vv_cell b0 cA (M' q) sh) = vv_ws b0 cA S M' := by
  apply List.ext_getElem?
  intro i
  have hl := (List.getElem?_eq_some_iff.mp h).1
  unfold vv_ws
  rw [List.getElem?_set]
  by_cases hi : q = i
  · subst hi
    rw [if_pos rfl, if_pos (by rw [List.length_mapIdx]; exact hl), List.getElem?_mapIdx, h]
    rfl
  · rw [if_neg hi, List.getElem?_mapIdx, List.getElem?_mapIdx, hM i (Ne.symm hi)]
theorem vv_setS {b0 : Nat} {cA : Nat → ClassId} {S : List vv_Sh} {M : vv_M} {q : Nat} (sh' : vv_Sh) : (vv_ws b0 cA S M).set q (b0 + q, vv_cell b0 cA (M q) sh') = vv_ws b0 cA (S.set q sh') M := by
  apply List.ext_getElem?
  intro i
  unfold vv_ws
  rw [List.getElem?_set, List.getElem?_mapIdx, List.getElem?_mapIdx, List.getElem?_set, List.length_mapIdx]
  by_cases hi : q = i
  · subst hi
    by_cases hl : q < S.length
    · simp [hl]
    · simp [hl]
  · simp [hi]
theorem vv_push {b0 : Nat} {cA : Nat → ClassId} {S : List vv_Sh} {M : vv_M} (sh : vv_Sh) : vv_ws b0 cA S M ++ [(b0 + S.length, vv_cell b0 cA (M S.length) sh)] = vv_ws b0 cA (S ++ [sh]) M := by
  unfold vv_ws
  rw [List.mapIdx_append]
  simp
theorem vv_fs_at {b0 : Nat} {r : Nat → Int32} {fs : List (Option (Option Nat))} {k : Nat} {o : Option (Option Nat)} (h : fs[k]? = some o) : (vv_fs b0 r fs)[k]? = some (vv_fv b0 r k o) := by
  unfold vv_fs
  rw [List.getElem?_mapIdx, h]
  rfl
theorem vv_fs_len {b0 : Nat} {r : Nat → Int32} {fs : List (Option (Option Nat))} : (vv_fs b0 r fs).length = fs.length := by
  unfold vv_fs
  exact List.length_mapIdx
theorem vv_fs_int {b0 : Nat} {r : Nat → Int32} {fs : List (Option (Option Nat))} {k : Nat} {x : Int32} (h : fs[k]? = some none) : (vv_fs b0 r fs).set k (.int x) = vv_fs b0 (upd r k x) fs := by
  apply List.ext_getElem?
  intro i
  unfold vv_fs
  rw [List.getElem?_set, List.getElem?_mapIdx, List.getElem?_mapIdx, List.length_mapIdx]
  by_cases hi : k = i
  · subst hi
    have hl := (List.getElem?_eq_some_iff.mp h).1
    rw [if_pos rfl, if_pos hl, h]
    simp [vv_fv, upd]
  · rw [if_neg hi]
    cases fs[i]? with
    | none => rfl
    | some o =>
      cases o with
      | none => simp [vv_fv, upd, Ne.symm hi]
      | some o => cases o <;> rfl
theorem vv_fs_ref {b0 : Nat} {r : Nat → Int32} {fs : List (Option (Option Nat))} {k q : Nat} : (vv_fs b0 r fs).set k (.ref (b0 + q)) = vv_fs b0 r (fs.set k (some (some q))) := by
  apply List.ext_getElem?
  intro i
  unfold vv_fs
  rw [List.getElem?_set, List.getElem?_mapIdx, List.getElem?_mapIdx, List.length_mapIdx, List.getElem?_set]
  by_cases hi : k = i
  · subst hi
    by_cases hl : k < fs.length
    · simp [hl, vv_fv]
    · simp [hl]
  · simp [hi]
/-! values: positions for addresses; a float's bits for the static tables -/
def vv_rv (b0 : Nat) (tb : Nat → Nat) (v : Value) : Value := match v with
  | .ref k => .ref (b0 + k)
  | .float w => .ref (tb w.toNat)
  | v => v
def vv_st (b0 : Nat) (tb : Nat → Nat) (st : List Value) : List Value := st.map (vv_rv b0 tb)
def vv_L (b0 : Nat) (tb : Nat → Nat) (L : List (Nat × Value)) : List (Nat × Value) := L.map (fun q => (q.1, vv_rv b0 tb q.2))
theorem vv_cat (b0 : Nat) (tb : Nat → Nat) (v : Value) : (vv_rv b0 tb v).category = v.category := by cases v <;> rfl
theorem vv_L_at {b0 : Nat} {tb : Nat → Nat} {L : List (Nat × Value)} {j i : Nat} {v : Value} (h : L[j]? = some (i, v)) : (vv_L b0 tb L)[j]? = some (i, vv_rv b0 tb v) := by
  unfold vv_L
  rw [List.getElem?_map, h]
  rfl
def vv_put (i : Nat) (v : Value) (L : List (Nat × Value)) : List (Nat × Value) := (i, v) :: L.filter (fun q => !(q.1 == i) && !(q.1 + 1 == i && q.2.category == 2))
def vv_putl (i : Nat) (v : Value) (L : List (Nat × Value)) : List (Nat × Value) := (i, v) :: L.filter (fun q => !(q.1 == i) && (!(q.1 == i + 1) && !(q.1 + 1 == i && q.2.category == 2)))
theorem vv_L_put (b0 : Nat) (tb : Nat → Nat) (i : Nat) (v : Value) (L : List (Nat × Value)) : (i, vv_rv b0 tb v) :: (vv_L b0 tb L).filter (fun q => !(q.1 == i) && !(q.1 + 1 == i && q.2.category == 2)) = vv_L b0 tb (vv_put i v L) := by
  unfold vv_L vv_put
  rw [List.map_cons, List.filter_map]
  congr 2
  apply List.filter_congr
  intro q _
  simp [Function.comp, vv_cat]
theorem vv_L_putl (b0 : Nat) (tb : Nat → Nat) (i : Nat) (v : Value) (L : List (Nat × Value)) : (i, vv_rv b0 tb v) :: (vv_L b0 tb L).filter (fun q => !(q.1 == i) && (!(q.1 == i + 1) && !(q.1 + 1 == i && q.2.category == 2))) = vv_L b0 tb (vv_putl i v L) := by
  unfold vv_L vv_putl
  rw [List.map_cons, List.filter_map]
  congr 2
  apply List.filter_congr
  intro q _
  simp [Function.comp, vv_cat]
theorem vv_L_pick (b0 : Nat) (tb : Nat → Nat) (L : List (Nat × Value)) (ks : List Nat) : lv_pick (vv_L b0 tb L) ks = vv_L b0 tb (lv_pick L ks) := by
  unfold lv_pick vv_L
  rw [List.map_filterMap]
  congr 1
  funext k
  rw [List.getElem?_map]
/-! words -/
def vv_T : List Cond := lw_tbl.filter goodWord
def vv_isN (w : Cond) : Bool := match w with
  | .methodLinkNest .. => true
  | .fieldLinkNest .. => true
  | .arrayOver (.object _) => true
  | _ => false
def vv_N : List Cond := lw_tbl.filter vv_isN
theorem vv_mem {w : Cond} (i : Nat) (h : lw_tbl[i]? = some w) (hg : goodWord w = true) : w ∈ vv_T := List.mem_filter.mpr ⟨List.mem_of_getElem? h, hg⟩
theorem vv_memN {w : Cond} (i : Nat) (h : lw_tbl[i]? = some w) (hg : vv_isN w = true) : w ∈ vv_N := List.mem_filter.mpr ⟨List.mem_of_getElem? h, hg⟩
theorem vv_good {ws : List Cond} (h : ∀ w ∈ ws, w ∈ vv_T) : GoodIn vv_T ws := fun w hw => ⟨h w hw, good_of_word (List.mem_filter.mp (h w hw)).2⟩
def vv_Nw (U : State) : Prop := ∀ w ∈ vv_N, va_Nw w U
theorem vv_Nw.warm {s U : State} (hW : s.WarmedH U.vm) (h : vv_Nw s) : vv_Nw U := by
  intro w hw
  have h1 := (List.mem_filter.mp hw).2
  have h2 := h w hw
  cases w with
  | methodLinkNest a i x h => exact va_Nw.warmM hW h2
  | fieldLinkNest a i b n d h => exact va_Nw.warmF hW h2
  | arrayOver ty => cases ty with
    | object C => exact va_AO.moved hW.alike h2
    | _ => cases h1
  | _ => cases h1
theorem vv_Nw.of {s : State} {args : Array Value} (h : ∀ w ∈ lw_tbl, w.before args s = true) : vv_Nw s := by
  intro w hw
  have h1 := (List.mem_filter.mp hw).2
  have h2 := h w (List.mem_filter.mp hw).1
  cases w with
  | methodLinkNest a i x h => exact va_Nw.of rfl h2
  | fieldLinkNest a i b n d h => exact va_Nw.of rfl h2
  | arrayOver ty => cases ty with
    | object C => exact va_AO.of h2
    | _ => cases h1
  | _ => cases h1
/-! static tables -/
def vv_tbs : List (String × List Int32) := [("FIRST_TARGETS", [120, 160, 180, 240, 230, 60]), ("FIRST_NUMBERS", [2, 3, 6, 1]), ("LEAST_NUMBERS", [1, 1, 0, 0]), ("MOST_NUMBERS", [3, 20, 99, 9]), ("FIRST_CURVE", [40, 180, 2, 6, 190, 240]), ("LEAST_OF_CURVE", [1, 20, 0, 0, 20, 20]), ("MOST_OF_CURVE", [99, 300, 99, 99, 300, 300])]
def vv_Tb (b0 : Nat) (tb : Nat → Nat) (U : State) (H : Heap) : Prop := ∀ (i : Nat) (nm : String) (xs : List Int32), vv_tbs[i]? = some (nm, xs) → va_Z RX4 nm "[I" (.ref (tb i)) (vv_A b0) U H ∧ va_T .int (tb i) xs.length (fun j => .int (xs.getD j 0)) (vv_A b0) U H
theorem vv_Tb.next {b0 : Nat} {tb : Nat → Nat} {s U : State} {H : Heap} {locs : List Loc} (hvm : s.vm.Alike U.vm) (hS : va_S (vv_A b0) s.heap H locs) (h : vv_Tb b0 tb s s.heap) : vv_Tb b0 tb U H := by
  intro i nm xs hi
  obtain ⟨h1, h2⟩ := h i nm xs hi
  exact ⟨(va_Z.moved hvm h1).kept hS.2.1, (va_T.moved hvm h2).kept hS.2.1⟩
/-! the judgement -/
def vv_w (y : MethodName) (cc : ByteArray) (nL : Nat) (ret : Option FieldType) : List Cond := Cond.code y cc nL ret :: vv_T
def vv_R (d mc ms : Nat) : Room := { frames := d, cells := mc, slots := ms, locals := 36 * d }
def vv_Sc (sc : List Int32) (b0 : Nat) (tb : Nat → Nat) (s : State) : Prop := sc = [] ∨ (va_X (tb 7) sc.tail.length (fun j => sc.tail.getD j 0) s s.heap ∧ tb 7 < b0)
def vv_E (sc : List Int32) (own mname : String) (cc : ByteArray) (nL : Nat) (ret : Option FieldType) (p : Program) (s : State) (m : MethodId) (args : Array Value) (meth : Method) (c : Code) (D : va_G) (cA : Nat → ClassId) (b0 : Nat) (tb : Nat → Nat) (n0 : Nat) : Prop :=
  p.tables.exec = Jvm.exec ∧ c.code = cc ∧ meth.sig.returnType = ret ∧ c.maxLocals = nL ∧ s.vm.findClass own = some m.cls ∧ (∀ w ∈ vv_T, w.before args s = true) ∧ vv_Nw s ∧ vv_Tb b0 tb s s.heap ∧ va_K D vv_cl (vv_tys cA) s ∧ s.heap.size = b0 + n0 ∧ meth.name = mname ∧ vv_Sc sc b0 tb s
def vv_rt (cc : ByteArray) (ret : Option FieldType) (pc : Nat) (v : Option Value) : Prop := match v with
  | none => decode cc pc = .ok (.return_, 1) ∧ ret = none
  | some (.int x) => decode cc pc = .ok (.ireturn, 1) ∧ ∃ ty, ret = some ty ∧ narrow ty (.int x) = .int x
  | some (.long _) => decode cc pc = .ok (.lreturn, 1) ∧ ret = some .long
  | _ => False
def vv_H (cc : ByteArray) (ret : Option FieldType) (Fin : Option Value → List vv_Sh → vv_M → Prop) (p : Program) (l : Launch) (e : Env) (R : Room) (s : State) (m : MethodId) (args : Array Value) (below : List Frame) (meth : Method) (c : Code) (D : va_G) (cA : Nat → ClassId) (b0 : Nat) (tb : Nat → Nat) (n0 z0 : Nat) (Q : State → Prop) : Prop :=
  ∀ (v : Option Value) (S : List vv_Sh) (M : vv_M) (H : Heap) (locs : List Loc) (pc : Nat) (ls : Array Slot), vv_rt cc ret pc v → Fin v S M → n0 ≤ S.length → z0 ≤ vv_sz S → va_P D vv_cl (vv_ws b0 cA S M) H → va_S (vv_A b0) s.heap H locs →
    W p l e R s m args below meth c H locs (S.length - n0) (vv_sz S - z0) Q (F0 m pc ls (v.map (vv_rv b0 tb)).toList)
def vv_V (sc : List Int32) (own mname : String) (cc : ByteArray) (nL : Nat) (ret : Option FieldType) (R : Room) (n0 z0 : Nat) (Fin : Option Value → List vv_Sh → vv_M → Prop) (pc : Nat) (L : List (Nat × Value)) (st : List Value) (S : List vv_Sh) (M : vv_M) : Prop :=
  ∀ (p : Program) (l : Launch) (e : Env) (s : State) (m : MethodId) (args : Array Value) (below : List Frame) (meth : Method) (c : Code) (D : va_G) (cA : Nat → ClassId) (b0 : Nat) (tb : Nat → Nat) (Q : State → Prop) (H : Heap) (locs : List Loc) (ls : Array Slot),
  vv_E sc own mname cc nL ret p s m args meth c D cA b0 tb n0 → vv_H cc ret Fin p l e R s m args below meth c D cA b0 tb n0 z0 Q → n0 ≤ S.length → z0 ≤ vv_sz S → va_P D vv_cl (vv_ws b0 cA S M) H → va_S (vv_A b0) s.heap H locs → lv_has ls nL (vv_L b0 tb L) →
    W p l e R s m args below meth c H locs (S.length - n0) (vv_sz S - z0) Q (F0 m pc ls (vv_st b0 tb st))
/-- a method's contract: from the world (S, M) with the arguments As it comes to (S', M') with the answer r -/
def vv_Q (D : va_G) (cA : Nat → ClassId) (b0 : Nat) (tb : Nat → Nat) (S : List vv_Sh) (M : vv_M) (r : Option Value) : Array Value → State → Outcome → State → Prop := fun _ st oc t => oc = .returned (r.map (vv_rv b0 tb)) ∧ va_P D vv_cl (vv_ws b0 cA S M) t.heap ∧ va_F (vv_A b0) st t
def vv_B (D : va_G) (cA : Nat → ClassId) (b0 : Nat) (tb : Nat → Nat) (S : List vv_Sh) (M : vv_M) (U : State) : Prop := U.heap.size = b0 + S.length ∧ va_P D vv_cl (vv_ws b0 cA S M) U.heap ∧ va_K D vv_cl (vv_tys cA) U ∧ vv_Tb b0 tb U U.heap ∧ vv_Nw U
def vv_C (y : MethodName) (w : List Cond) (R : Room) (As : List Value) (S : List vv_Sh) (M : vv_M) (r : Option Value) (S' : List vv_Sh) (M' : vv_M) : Prop :=
  ∀ (l : Launch) (D : va_G) (cA : Nat → ClassId) (b0 : Nat) (tb : Nat → Nat), Met l y w R (va_Pc (vv_st b0 tb As) (vv_B D cA b0 tb S M)) (vv_Q D cA b0 tb S' M' r) R.cells R.slots (vv_A b0)
theorem vv_ofV {y : MethodName} {cc : ByteArray} {nL : Nat} {ret : Option FieldType} {R : Room} {As : List Value} {L : List (Nat × Value)} {S S' : List vv_Sh} {M M' : vv_M} {r : Option Value}
    (hy : plainFor y = true) (hsl : ((As.map Value.category).sum) ≤ nL) (hL : lv_args 0 As = L) (hc : S'.length = S.length + R.cells) (hz : vv_sz S' = vv_sz S + R.slots)
    (k : vv_V [] y.cls y.name cc nL ret R S.length (vv_sz S) (fun v S2 M2 => v = r ∧ S2 = S' ∧ M2 = M') 0 L [] S M) : vv_C y (vv_w y cc nL ret) R As S M r S' M' := by
  intro l D cA b0 tb
  refine va_MetF (cc := cc) (maxL := nL) (ret := ret) hy rfl ?_
  intro p e s m args below meth c s₁ B hml hv
  obtain ⟨rfl, hsz, hP, hK, hT, hN⟩ := hv
  have hx := B.exec
  have hb := B.bytes
  have hr := B.returns
  have hts := atoms_spec (ws := vv_w y cc nL ret) B.pre
  have hown : s.vm.findClass y.cls = some m.cls := findClass_of_methodNamed B.named
  have hlocks := B.notSynchronized
  have hin : meth.name = y.name := (name_of_methodNamed B.named B.method).1
  have hargs : ∀ (i : Nat) (As : List Value), lv_args i (vv_st b0 tb As) = vv_L b0 tb (lv_args i As) := by
    intro i As
    induction As generalizing i with
    | nil => rfl
    | cons v vs ih =>
      show (i, vv_rv b0 tb v) :: lv_args (if (vv_rv b0 tb v).category = 2 then i + 2 else i + 1) (vv_st b0 tb vs) = (i, vv_rv b0 tb v) :: vv_L b0 tb (lv_args (if v.category = 2 then i + 2 else i + 1) vs)
      rw [vv_cat, ih]
  have hlen : ∀ As : List Value, (lg_sl (vv_st b0 tb As)).length = (As.map Value.category).sum := by
    intro As
    induction As with
    | nil => rfl
    | cons v vs ih =>
      have e : lg_sl (vv_st b0 tb (v :: vs)) = (if (vv_rv b0 tb v).category = 2 then [Slot.val (vv_rv b0 tb v), Slot.second] else [Slot.val (vv_rv b0 tb v)]) ++ lg_sl (vv_st b0 tb vs) := rfl
      rw [e, List.length_append, ih, vv_cat, List.map_cons, List.sum_cons]
      rcases lv_cat v with h | h <;> simp [h]
  have hl := lv_entry (vv_st b0 tb As) (n := nL) (by rw [hlen]; exact hsl)
  rw [lg_entry_eq]
  generalize (lg_sl (vv_st b0 tb As) ++ List.replicate (nL - (lg_sl (vv_st b0 tb As)).length) Slot.unset).toArray = ls at hl ⊢
  rw [hargs, hL] at hl
  have K := k p l e s m (vv_st b0 tb As).toArray below meth c D cA b0 tb (MQ below (vv_Q D cA b0 tb S' M' r) (vv_st b0 tb As).toArray s R.cells R.slots (vv_A b0)) s.heap [] ls ⟨hx, hb, hr, hml, hown, fun w hw => hts w (List.mem_cons_of_mem _ hw), hN, hT, hK, hsz, hin, Or.inl rfl⟩ ?_ (Nat.le_refl _) (Nat.le_refl _) hP va_S.rf hl
  · rw [Nat.sub_self, Nat.sub_self] at K
    exact K
  · intro v S2 M2 H locs pc ls hrt hfin h1 h2 hP2 hS
    obtain ⟨rfl, rfl, rfl⟩ := hfin
    have e1 : S2.length - S.length = R.cells := by omega
    have e2 : vv_sz S2 - vv_sz S = R.slots := by omega
    rw [e1, e2]
    match v, hrt with
    | none, hrt => exact W.vret hx hb (hr.trans hrt.2) (fun t ht hW => ⟨rfl, by rw [ht]; exact hP2, hS.F ht⟩) hS.2.2 hrt.1 (hlocks := hlocks)
    | some (.int x), hrt =>
      obtain ⟨hd, ty, hty, hn⟩ := hrt
      exact W.zret hx hb (hr.trans hty) hn (fun t ht hW => ⟨rfl, by rw [ht]; exact hP2, hS.F ht⟩) hS.2.2 hd (hlocks := hlocks)
    | some (.long x), hrt => exact W.lret hx hb (hr.trans hrt.2) (fun t ht hW => ⟨rfl, by rw [ht]; exact hP2, hS.F ht⟩) hS.2.2 hrt.1 (hlocks := hlocks)
