section VCALL
variable {p : Program} {l : Launch} {e : Env} {R : Room} {s : State} {m : MethodId} {args : Array Value} {below : List Frame} {meth : Method} {c : Code} {H : Heap} {locs : List Loc} {cells slots : Nat} {Q : State → Prop}
variable {pc : Nat} {ls : Array Slot} {rest st0 : List Value} {a : Array Value} {mc ms : Nat}
/-- behind a call by contract -/
theorem vv_call {D : va_G} {cA : Nat → ClassId} {b0 : Nat} {tb : Nat → Nat} {S' : List vv_Sh} {M' : vv_M} {r : Option Value} (hr : va_Run p l e R s m args below meth c H locs cells slots mc ms (F0 m pc ls st0) rest (vv_Q D cA b0 tb S' M' r a) (vv_A b0)) (hS : va_S (vv_A b0) s.heap H locs)
    (kk : ∀ (H1 : Heap) (locs1 : List Loc), va_P D vv_cl (vv_ws b0 cA S' M') H1 → va_S (vv_A b0) s.heap H1 locs1 → W p l e R s m args below meth c H1 locs1 (cells + mc) (slots + ms) Q (F0 m (pc + 3) ls ((r.map (vv_rv b0 tb)).toList ++ rest))) : W p l e R s m args below meth c H locs cells slots Q (F0 m pc ls st0) := by
  intro T hT X
  obtain ⟨v, st₀, t, T', L, h0, X', hL, e1, e2, ⟨hv, hp, hz, hk⟩, st⟩ := hr T hT X
  obtain rfl : v = r.map (vv_rv b0 tb) := by injection hv
  rw [h0] at hz hk
  obtain ⟨t2, a1, b1⟩ := kk T'.heap (locs ++ L) (by rw [e1]; exact hp)
    ⟨Nat.le_trans hS.1 (by rw [e1]; exact hz), fun q h1 h2 => by rw [e1, hk q (Nat.lt_of_lt_of_le h1 hS.1) h2]; exact hS.2.1 q h1 h2, fun q hq => by
      rcases List.mem_append.mp hq with h | h
      · exact hS.2.2 q h
      · exact hL q h⟩ T' rfl X'
  exact ⟨t2, st t2 a1, b1⟩
/-- the heap ends where the world ends -/
theorem vv_size {D : va_G} {cA : Nat → ClassId} {b0 n0 : Nat} {S : List vv_Sh} {M : vv_M} {T : State} (hT : T.heap = H) (X : Stand p l e R s m args below meth c T locs (S.length - n0) slots) (hn : s.heap.size = b0 + n0) (h1 : n0 ≤ S.length) (hP : va_P D vv_cl (vv_ws b0 cA S M) H) (hS : va_S (vv_A b0) s.heap H locs) : H.size = b0 + S.length := by
  have hu := X.heapSize
  rw [hT, hn] at hu
  have hlo := hS.1
  rw [hn] at hlo
  rcases Nat.eq_zero_or_pos S.length with h0 | h0
  · omega
  · have hl : S.length - 1 < S.length := by omega
    have ha := (hP (S.length - 1) _ (vv_at b0 cA M (List.getElem?_eq_getElem hl))).lt
    have ha' : b0 + (S.length - 1) < H.size := ha
    omega
end VCALL
theorem vv_blind {D : va_G} {cA : Nat → ClassId} {b0 : Nat} {tb : Nat → Nat} {S : List vv_Sh} {M : vv_M} {av : List Value} : FrameBlind (va_Pc av (vv_B D cA b0 tb S M)) := by
  intro a U g mk q
  obtain ⟨h0, h1, h2, h3, h4, h5⟩ := q
  have hvm : U.vm.Alike (U.calling g mk a).vm := Vm.Alike.refl U.vm
  refine ⟨h0, h1, h2, va_K.moved (u := U) (U := U.calling g mk a) hvm h3, fun i nm xs hi => ?_, fun w hw => ?_⟩
  · obtain ⟨g1, g2⟩ := h4 i nm xs hi
    exact ⟨va_Z.moved (u := U) (U := U.calling g mk a) hvm g1, va_T.moved (u := U) (U := U.calling g mk a) hvm g2⟩
  · have hw2 := (List.mem_filter.mp hw).2
    have h6 := h5 w hw
    cases w with
    | methodLinkNest a i x h => exact va_Nw.same rfl (u := U) (U := U.calling g mk _) rfl h6
    | fieldLinkNest a i b n d h => exact va_Nw.same rfl (u := U) (U := U.calling g mk _) rfl h6
    | arrayOver ty => cases ty with
      | object C => exact va_AO.moved (u := U) (U := U.calling g mk _) (Vm.Alike.refl U.vm) h6
      | _ => cases hw2
    | _ => cases hw2
theorem vv_next {sc : List Int32} {own mname : String} {cc : ByteArray} {nL : Nat} {ret : Option FieldType} {p : Program} {s : State} {m : MethodId} {args : Array Value} {meth : Method} {c : Code} {D : va_G} {cA : Nat → ClassId} {b0 : Nat} {tb : Nat → Nat} {n0 : Nat} {S : List vv_Sh} {M : vv_M} {H : Heap} {locs : List Loc} {As : List Value}
    (E : vv_E sc own mname cc nL ret p s m args meth c D cA b0 tb n0) (hz : H.size = b0 + S.length) (hP : va_P D vv_cl (vv_ws b0 cA S M) H) (hS : va_S (vv_A b0) s.heap H locs) : ∀ U : State, U.heap = H → s.WarmedH U.vm → va_Pc (vv_st b0 tb As) (vv_B D cA b0 tb S M) (vv_st b0 tb As).toArray U := by
  intro U hU hW
  obtain ⟨-, -, -, -, -, -, hN, hT, hK, -, -⟩ := E
  refine ⟨rfl, by rw [hU]; exact hz, by rw [hU]; exact hP, va_K.moved hW.alike hK, ?_, hN.warm hW⟩
  rw [hU]
  exact vv_Tb.next hW.alike hS hT
theorem vv_catsum (b0 : Nat) (tb : Nat → Nat) (st : List Value) : ((vv_st b0 tb st).map fun v => v.category).sum = (st.map fun v => v.category).sum := by
  unfold vv_st
  rw [List.map_map]
  congr 1
  apply List.map_congr_left
  intro v _
  exact vv_cat b0 tb v
theorem vv_rev (b0 : Nat) (tb : Nat → Nat) (As st : List Value) : vv_st b0 tb (As.reverse ++ st) = (vv_st b0 tb As).reverse ++ vv_st b0 tb st := by
  unfold vv_st
  rw [List.map_append, List.map_reverse]
def vv_yok (y : MethodName) (n : Nat) : Prop := y.cls ≠ "java/lang/invoke/MethodHandle" ∧ y.cls ≠ "java/lang/invoke/VarHandle" ∧ (parseMethodDescriptor y.desc).map (fun d => d.parameters.length) = some n
def vv_rm (R : Room) (n0 z0 : Nat) (S : List vv_Sh) (R' : Room) : Prop := S.length - n0 + R'.cells ≤ R.cells ∧ vv_sz S - z0 + R'.slots ≤ R.slots
def vv_fr (R R' : Room) (nL' : Nat) : Prop := R'.frames + 1 ≤ R.frames ∧ 8 + (nL' + 11) + R'.locals ≤ R.locals
section VI2
variable {sc : List Int32} {own mname : String} {cc : ByteArray} {nL : Nat} {ret : Option FieldType} {R : Room} {n0 z0 : Nat} {Fi : Option Value → List vv_Sh → vv_M → Prop} {pc : Nat} {L : List (Nat × Value)} {st stk : List Value} {S S' : List vv_Sh} {M M' : vv_M}
variable {idx : Nat} {y : MethodName} {cc' : ByteArray} {nL' : Nat} {ret' : Option FieldType} {R' : Room} {As : List Value} {r : Option Value}
theorem vv_goes {H : Heap} {locs : List Loc} {p : Program} {l : Launch} {e : Env} {s : State} {m : MethodId} {args : Array Value} {below : List Frame} {meth : Method} {c : Code} {D : va_G} {cA : Nat → ClassId} {b0 : Nat} {tb : Nat → Nat} {Q : State → Prop} {ls : Array Slot} {a : Array Value} {st0 : List Value}
    (hr : va_Run p l e R s m args below meth c H locs (S.length - n0) (vv_sz S - z0) R'.cells R'.slots (F0 m pc ls st0) (vv_st b0 tb st) (vv_Q D cA b0 tb S' M' r a) (vv_A b0)) (hS : va_S (vv_A b0) s.heap H locs) (hlen : S'.length = S.length + R'.cells) (hsz : vv_sz S' = vv_sz S + R'.slots)
    (E : vv_E sc own mname cc nL ret p s m args meth c D cA b0 tb n0) (Hh : vv_H cc ret Fi p l e R s m args below meth c D cA b0 tb n0 z0 Q) (h1 : n0 ≤ S.length) (h2 : z0 ≤ vv_sz S) (hls : lv_has ls nL (vv_L b0 tb L))
    (k : vv_V sc own mname cc nL ret R n0 z0 Fi (pc + 3) L (r.toList ++ st) S' M') : W p l e R s m args below meth c H locs (S.length - n0) (vv_sz S - z0) Q (F0 m pc ls st0) := by
  refine vv_call hr hS (fun H1 locs1 hP1 hS1 => ?_)
  have K := k p l e s m args below meth c D cA b0 tb Q H1 locs1 ls E Hh (by omega) (by omega) hP1 hS1 hls
  have e1 : S.length - n0 + R'.cells = S'.length - n0 := by omega
  have e2 : vv_sz S - z0 + R'.slots = vv_sz S' - z0 := by omega
  have e3 : (r.map (vv_rv b0 tb)).toList ++ vv_st b0 tb st = vv_st b0 tb (r.toList ++ st) := by cases r <;> rfl
  rw [e1, e2, e3]
  exact K
theorem vi_callV {q ci : Nat} {fs : List (Option (Option Nat))} {T : u_T} {N : Nat} (hC : vv_C y (vv_w y cc' nL' ret') R' (.ref q :: As) S M r S' M') (hst : stk = As.reverse ++ .ref q :: st) (hy : vv_yok y As.length)
    (w1 : Cond.methodLink own idx y ∈ vv_T) (w2 : Cond.instanceMethod y ∈ vv_T) (w3 : Cond.selects y.cls y y ∈ vv_T) (w4 : Cond.initialized y.cls ∈ vv_T) (w5 : Cond.code y cc' nL' ret' ∈ vv_T) (hsh : S[q]? = some (.inr (.inr (ci, fs)))) (hcl : vv_cl[ci]? = some (y.cls, T, N))
    (hfr : vv_fr R R' nL') (hrm : vv_rm R n0 z0 S R') (hcs : (st.map fun v => v.category).sum ≤ 8) (hlen : S'.length = S.length + R'.cells) (hsz : vv_sz S' = vv_sz S + R'.slots) (hdg : decode cc pc = .ok (.invokevirtual idx, 3))
    (k : vv_V sc own mname cc nL ret R n0 z0 Fi (pc + 3) L (r.toList ++ st) S' M') : vv_V sc own mname cc nL ret R n0 z0 Fi pc L stk S M := by
  intro p l e s m args below meth c D cA b0 tb Q H locs ls E Hh h1 h2 hP hS hls T hT X
  subst hst
  have hz := vv_size hT X E.2.2.2.2.2.2.2.2.2.1 h1 hP hS
  have hG : GoodIn vv_T (wsV own idx y.cls y (vv_w y cc' nL' ret')) := vv_good (fun w hw => by
    simp only [wsV, vv_w, List.mem_append, List.mem_cons, List.not_mem_nil, or_false] at hw
    rcases hw with (rfl | rfl | rfl | rfl) | (rfl | h)
    · exact w1
    · exact w2
    · exact w3
    · exact w4
    · exact w5
    · exact h)
  refine vv_goes (va_runV (As := vv_st b0 tb As) (b := b0 + q) (rest := vv_st b0 tb st) ⟨E.1, E.2.1, E.2.2.2.1, E.2.2.2.2.1, E.2.2.2.2.2.1⟩ (hC l D cA b0 tb) (cwV As.length E.2.2.2.2.2.1 hG rfl rfl rfl ⟨rfl, hy⟩ hfr) ⟨vv_blind, va_recv E.2.2.2.2.2.2.2.2.1 hP hcl (vv_at b0 cA M hsh), vv_next (As := .ref q :: As) E hz hP hS⟩ rfl (by simp [vv_st]) hls.1 ?_ (lv_room (by rw [vv_catsum]; exact hcs)) hdg hrm) hS hlen hsz E Hh h1 h2 hls k T hT X
  show vv_st b0 tb (As.reverse ++ .ref q :: st) = _
  rw [vv_rev]
  rfl
theorem vi_callI {q ci : Nat} {fs : List (Option (Option Nat))} {T : u_T} {N : Nat} (hC : vv_C y (vv_w y cc' nL' none) R' (.ref q :: As) S M r S' M') (hst : stk = As.reverse ++ .ref q :: st) (hy : vv_yok y As.length) (hy1 : y.name = "<init>")
    (w1 : Cond.methodLink own idx y ∈ vv_T) (w2 : Cond.instanceMethod y ∈ vv_T) (w4 : Cond.initialized y.cls ∈ vv_T) (w5 : Cond.code y cc' nL' none ∈ vv_T)
    (hfr : vv_fr R R' nL') (hrm : vv_rm R n0 z0 S R') (hcs : (st.map fun v => v.category).sum ≤ 8) (hlen : S'.length = S.length + R'.cells) (hsz : vv_sz S' = vv_sz S + R'.slots) (hdg : decode cc pc = .ok (.invokespecial idx, 3))
    (k : vv_V sc own mname cc nL ret R n0 z0 Fi (pc + 3) L (r.toList ++ st) S' M') : vv_V sc own mname cc nL ret R n0 z0 Fi pc L stk S M := by
  intro p l e s m args below meth c D cA b0 tb Q H locs ls E Hh h1 h2 hP hS hls T hT X
  subst hst
  have hz := vv_size hT X E.2.2.2.2.2.2.2.2.2.1 h1 hP hS
  have hG : GoodIn vv_T (vv_w y cc' nL' none) := vv_good (fun w hw => by
    simp only [vv_w, List.mem_cons] at hw
    rcases hw with rfl | h
    · exact w5
    · exact h)
  refine vv_goes (va_runI (As := vv_st b0 tb As) (b := b0 + q) (rest := vv_st b0 tb st) ⟨E.1, E.2.1, E.2.2.2.1, E.2.2.2.2.1, E.2.2.2.2.2.1⟩ (hC l D cA b0 tb) (cwI As.length E.2.2.2.2.2.1 hG rfl rfl rfl (E.2.2.2.2.2.1 _ w4) (E.2.2.2.2.2.1 _ w1) (E.2.2.2.2.2.1 _ w2) hy1 hy hfr) ⟨vv_blind, vv_next (As := .ref q :: As) E hz hP hS⟩ rfl (by simp [vv_st]) hls.1 ?_ (lv_room (by rw [vv_catsum]; exact hcs)) hdg hrm) hS hlen hsz E Hh h1 h2 hls k T hT X
  show vv_st b0 tb (As.reverse ++ .ref q :: st) = _
  rw [vv_rev]
  rfl
theorem vi_callIN {q ci : Nat} {fs : List (Option (Option Nat))} {T : u_T} {N : Nat} {host : String} (hC : vv_C y (vv_w y cc' nL' none) R' (.ref q :: As) S M r S' M') (hst : stk = As.reverse ++ .ref q :: st) (hy : vv_yok y As.length) (hy1 : y.name = "<init>")
    (w1 : Cond.methodLinkNest own idx y host ∈ vv_N) (w2 : Cond.instanceMethod y ∈ vv_T) (w4 : Cond.initialized y.cls ∈ vv_T) (w5 : Cond.code y cc' nL' none ∈ vv_T)
    (hfr : vv_fr R R' nL') (hrm : vv_rm R n0 z0 S R') (hcs : (st.map fun v => v.category).sum ≤ 8) (hlen : S'.length = S.length + R'.cells) (hsz : vv_sz S' = vv_sz S + R'.slots) (hdg : decode cc pc = .ok (.invokespecial idx, 3))
    (k : vv_V sc own mname cc nL ret R n0 z0 Fi (pc + 3) L (r.toList ++ st) S' M') : vv_V sc own mname cc nL ret R n0 z0 Fi pc L stk S M := by
  intro p l e s m args below meth c D cA b0 tb Q H locs ls E Hh h1 h2 hP hS hls T hT X
  subst hst
  have hz := vv_size hT X E.2.2.2.2.2.2.2.2.2.1 h1 hP hS
  have hG : GoodIn vv_T (vv_w y cc' nL' none) := vv_good (fun w hw => by
    simp only [vv_w, List.mem_cons] at hw
    rcases hw with rfl | h
    · exact w5
    · exact h)
  refine vv_goes (va_runIN (As := vv_st b0 tb As) (b := b0 + q) (rest := vv_st b0 tb st) (host := host) ⟨E.1, E.2.1, E.2.2.2.1, E.2.2.2.2.1, E.2.2.2.2.2.1⟩ (hC l D cA b0 tb) ⟨va_cnB As.length E.2.2.2.2.2.1 hG rfl rfl rfl (E.2.2.2.2.2.2.1 _ w1) (E.2.2.2.2.2.1 _ w4) hy hfr, hy1, E.2.2.2.2.2.1 _ w2⟩ ⟨vv_blind, vv_next (As := .ref q :: As) E hz hP hS⟩ rfl (by simp [vv_st]) hls.1 ?_ (lv_room (by rw [vv_catsum]; exact hcs)) hdg hrm) hS hlen hsz E Hh h1 h2 hls k T hT X
  show vv_st b0 tb (As.reverse ++ .ref q :: st) = _
  rw [vv_rev]
  rfl
theorem vi_callS (hC : vv_C y (vv_w y cc' nL' ret') R' As S M r S' M') (hst : stk = As.reverse ++ st) (hy : vv_yok y As.length)
    (w1 : Cond.methodLink own idx y ∈ vv_T) (w2 : Cond.static y ∈ vv_T) (w4 : Cond.initialized y.cls ∈ vv_T) (w5 : Cond.code y cc' nL' ret' ∈ vv_T)
    (hfr : vv_fr R R' nL') (hrm : vv_rm R n0 z0 S R') (hcs : (st.map fun v => v.category).sum ≤ 8) (hlen : S'.length = S.length + R'.cells) (hsz : vv_sz S' = vv_sz S + R'.slots) (hdg : decode cc pc = .ok (.invokestatic idx, 3))
    (k : vv_V sc own mname cc nL ret R n0 z0 Fi (pc + 3) L (r.toList ++ st) S' M') : vv_V sc own mname cc nL ret R n0 z0 Fi pc L stk S M := by
  intro p l e s m args below meth c D cA b0 tb Q H locs ls E Hh h1 h2 hP hS hls T hT X
  subst hst
  have hz := vv_size hT X E.2.2.2.2.2.2.2.2.2.1 h1 hP hS
  have hG : GoodIn vv_T (va_wsS own idx y (vv_w y cc' nL' ret')) := vv_good (fun w hw => by
    simp only [va_wsS, vv_w, List.mem_append, List.mem_cons, List.not_mem_nil, or_false] at hw
    rcases hw with (rfl | rfl | rfl) | (rfl | h)
    · exact w1
    · exact w2
    · exact w4
    · exact w5
    · exact h)
  refine vv_goes (va_runS (As := vv_st b0 tb As) (rest := vv_st b0 tb st) ⟨E.1, E.2.1, E.2.2.2.1, E.2.2.2.2.1, E.2.2.2.2.2.1⟩ (hC l D cA b0 tb) (va_cwS As.length E.2.2.2.2.2.1 hG rfl rfl rfl hy hfr) ⟨vv_blind, vv_next (As := As) E hz hP hS⟩ rfl (by simp [vv_st]) hls.1 ?_ (lv_room (by rw [vv_catsum]; exact hcs)) hdg hrm) hS hlen hsz E Hh h1 h2 hls k T hT X
  show vv_st b0 tb (As.reverse ++ st) = _
  rw [vv_rev]
theorem vi_callSN {host : String} (hC : vv_C y (vv_w y cc' nL' ret') R' As S M r S' M') (hst : stk = As.reverse ++ st) (hy : vv_yok y As.length)
    (w1 : Cond.methodLinkNest own idx y host ∈ vv_N) (w2 : Cond.static y ∈ vv_T) (w4 : Cond.initialized y.cls ∈ vv_T) (w5 : Cond.code y cc' nL' ret' ∈ vv_T)
    (hfr : vv_fr R R' nL') (hrm : vv_rm R n0 z0 S R') (hcs : (st.map fun v => v.category).sum ≤ 8) (hlen : S'.length = S.length + R'.cells) (hsz : vv_sz S' = vv_sz S + R'.slots) (hdg : decode cc pc = .ok (.invokestatic idx, 3))
    (k : vv_V sc own mname cc nL ret R n0 z0 Fi (pc + 3) L (r.toList ++ st) S' M') : vv_V sc own mname cc nL ret R n0 z0 Fi pc L stk S M := by
  intro p l e s m args below meth c D cA b0 tb Q H locs ls E Hh h1 h2 hP hS hls T hT X
  subst hst
  have hz := vv_size hT X E.2.2.2.2.2.2.2.2.2.1 h1 hP hS
  have hG : GoodIn vv_T (vv_w y cc' nL' ret') := vv_good (fun w hw => by
    simp only [vv_w, List.mem_cons] at hw
    rcases hw with rfl | h
    · exact w5
    · exact h)
  refine vv_goes (va_runSN (As := vv_st b0 tb As) (rest := vv_st b0 tb st) (host := host) ⟨E.1, E.2.1, E.2.2.2.1, E.2.2.2.2.1, E.2.2.2.2.2.1⟩ (hC l D cA b0 tb) ⟨va_cnB As.length E.2.2.2.2.2.1 hG rfl rfl rfl (E.2.2.2.2.2.2.1 _ w1) (E.2.2.2.2.2.1 _ w4) hy hfr, E.2.2.2.2.2.1 _ w2, trivial⟩ ⟨vv_blind, vv_next (As := As) E hz hP hS⟩ rfl (by simp [vv_st]) hls.1 ?_ (lv_room (by rw [vv_catsum]; exact hcs)) hdg hrm) hS hlen hsz E Hh h1 h2 hls k T hT X
  show vv_st b0 tb (As.reverse ++ st) = _
  rw [vv_rev]
/-- System.arraycopy from one int row of the world to another -/
theorem vi_copy {q1 q2 n1 n2 : Nat} {sp dp n : Int32} (hs1 : S[q1]? = some (.inl (0, n1))) (hs2 : S[q2]? = some (.inl (0, n2))) (h1' : ¬ sp < 0) (h2' : ¬ dp < 0) (h3' : ¬ n < 0) (h4' : sp.toNatClampNeg + n.toNatClampNeg ≤ n1) (h5' : dp.toNatClampNeg + n.toNatClampNeg ≤ n2)
    (w1 : Cond.methodLink own idx arraycopyName ∈ vv_T) (w2 : Cond.native arraycopyName ∈ vv_T) (w3 : Cond.static arraycopyName ∈ vv_T) (w4 : Cond.initialized "java/lang/System" ∈ vv_T) (hR1 : 1 ≤ R.frames) (hR2 : (st.map fun v => v.category).sum + (nativeFrameWords "java/lang/System" "arraycopy" 5 + 11) ≤ R.locals)
    (hM : va_up M q2 (va_cpy (M q1) (M q2) sp.toNatClampNeg dp.toNatClampNeg n.toNatClampNeg) = M') (hdg : decode cc pc = .ok (.invokestatic idx, 3))
    (kk : vv_V sc own mname cc nL ret R n0 z0 Fi (pc + 3) L st S M') : vv_V sc own mname cc nL ret R n0 z0 Fi pc L (.int n :: .int dp :: .ref q2 :: .int sp :: .ref q1 :: st) S M := by
  intro p l e s m args below meth c D cA b0 tb Q H locs ls E Hh h1 h2 hP hS hls
  subst hM
  refine va_copyi E.1 E.2.1 (E.2.2.2.1.trans hls.1.symm) E.2.2.2.2.1 (E.2.2.2.2.2.1 _ w1) (E.2.2.2.2.2.1 _ w2) (E.2.2.2.2.2.1 _ w3) (E.2.2.2.2.2.1 _ w4) E.2.2.2.2.2.2.2.2.1 hP (vv_Dd b0 cA S M) hS q1 q2 0 0 (vv_at b0 cA M hs1) (vv_at b0 cA M hs2) rfl rfl rfl h1' h2' h3' h4' h5' (fun _ _ => rfl) hR1 (by rw [show List.map (vv_rv b0 tb) st = vv_st b0 tb st from rfl, vv_catsum]; exact hR2) hdg (fun H1 locs1 hP1 hD1 hS1 => ?_)
  have ee : (vv_ws b0 cA S M).set q2 (b0 + q2, .inl (cA 0, n2, .inl (va_cpy (M q1) (M q2) sp.toNatClampNeg dp.toNatClampNeg n.toNatClampNeg))) = vv_ws b0 cA S (va_up M q2 (va_cpy (M q1) (M q2) sp.toNatClampNeg dp.toNatClampNeg n.toNatClampNeg)) := by
    rw [← vv_set (M' := va_up M q2 (va_cpy (M q1) (M q2) sp.toNatClampNeg dp.toNatClampNeg n.toNatClampNeg)) hs2 (fun j hj => if_neg hj)]
    rw [show va_up M q2 (va_cpy (M q1) (M q2) sp.toNatClampNeg dp.toNatClampNeg n.toNatClampNeg) q2 = va_cpy (M q1) (M q2) sp.toNatClampNeg dp.toNatClampNeg n.toNatClampNeg from if_pos rfl]
    rfl
  rw [ee] at hP1
  exact kk p l e s m args below meth c D cA b0 tb Q H1 locs1 ls E Hh h1 h2 hP1 hS1 hls
/-- a static table, and one of its places -/
theorem vi_gets {i : Nat} {nm host : String} {xs : List Int32} (w : UInt32) (hi : w.toNat = i) (ht : vv_tbs[i]? = some (nm, xs)) (w1 : Cond.fieldLinkNest own idx RX4 nm "[I" host ∈ vv_N) (hdg : decode cc pc = .ok (.getstatic idx, 3))
    (kk : vv_V sc own mname cc nL ret R n0 z0 Fi (pc + 3) L (.float w :: st) S M) : vv_V sc own mname cc nL ret R n0 z0 Fi pc L st S M := by
  intro p l e s m args below meth c D cA b0 tb Q H locs ls E Hh h1 h2 hP hS hls
  subst hi
  exact va_getsN E.1 E.2.1 (E.2.2.2.2.2.2.2.1 _ nm xs ht).1 hS E.2.2.2.2.1 (va_Nw.use rfl (E.2.2.2.2.2.2.1 _ w1)) (fun _ h9 => h9) hdg (kk p l e s m args below meth c D cA b0 tb Q H locs ls E Hh h1 h2 hP hS hls)
theorem vi_tald {w : UInt32} {i : Nat} {nm : String} {xs : List Int32} {j : Int32} (hi : w.toNat = i) (ht : vv_tbs[i]? = some (nm, xs)) (hin : vp_in j xs.length) (hdg : decode cc pc = .ok (.iaload, 1))
    (kk : vv_V sc own mname cc nL ret R n0 z0 Fi (pc + 1) L (.int (xs.getD j.toNatClampNeg 0) :: st) S M) : vv_V sc own mname cc nL ret R n0 z0 Fi pc L (.int j :: .float w :: st) S M := by
  intro p l e s m args below meth c D cA b0 tb Q H locs ls E Hh h1 h2 hP hS hls
  subst hi
  exact va_ti E.1 E.2.1 (E.2.2.2.2.2.2.2.1 _ nm xs ht).2 hS hin rfl hdg (kk p l e s m args below meth c D cA b0 tb Q H locs ls E Hh h1 h2 hP hS hls)
end VI2
