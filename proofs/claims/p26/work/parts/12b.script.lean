/-! further rules: longs, a constant, and a call that takes the script -/
section VI4
variable {sc : List Int32} {own mname : String} {cc : ByteArray} {nL : Nat} {ret : Option FieldType} {R : Room} {n0 z0 : Nat} {Fi : Option Value → List vv_Sh → vv_M → Prop} {pc : Nat} {L : List (Nat × Value)} {st stk : List Value} {S S' : List vv_Sh} {M M' : vv_M}
variable {idx : Nat} {y : MethodName} {cc' : ByteArray} {nL' : Nat} {ret' : Option FieldType} {R' : Room} {As : List Value} {r : Option Value}
theorem vi_lmul {x y : Int64} (hdg : decode cc pc = .ok (.lmul, 1)) (k : vv_V sc own mname cc nL ret R n0 z0 Fi (pc + 1) L (.long (x * y) :: st) S M) : vv_V sc own mname cc nL ret R n0 z0 Fi pc L (.long y :: .long x :: st) S M := by
  intro p l e s m args below meth c D cA b0 tb Q H locs ls E Hh h1 h2 hP hS hls
  exact lv_lmul E.1 E.2.1 hdg (k p l e s m args below meth c D cA b0 tb Q H locs ls E Hh h1 h2 hP hS hls)
theorem vi_i2l {x : Int32} (hdg : decode cc pc = .ok (.i2l, 1)) (k : vv_V sc own mname cc nL ret R n0 z0 Fi (pc + 1) L (.long x.toInt64 :: st) S M) : vv_V sc own mname cc nL ret R n0 z0 Fi pc L (.int x :: st) S M := by
  intro p l e s m args below meth c D cA b0 tb Q H locs ls E Hh h1 h2 hP hS hls
  exact lv_i2l E.1 E.2.1 hdg rfl (k p l e s m args below meth c D cA b0 tb Q H locs ls E Hh h1 h2 hP hS hls)
theorem vi_lcmp {x y : Int64} (hdg : decode cc pc = .ok (.lcmp, 1)) (k : vv_V sc own mname cc nL ret R n0 z0 Fi (pc + 1) L (.int (lg_cmp x y) :: st) S M) : vv_V sc own mname cc nL ret R n0 z0 Fi pc L (.long y :: .long x :: st) S M := by
  intro p l e s m args below meth c D cA b0 tb Q H locs ls E Hh h1 h2 hP hS hls
  exact W.lcmp E.1 E.2.1 hdg (k p l e s m args below meth c D cA b0 tb Q H locs ls E Hh h1 h2 hP hS hls)
theorem vi_ldc {index : Nat} {v : Int32} (hw : Cond.constant own index v ∈ vv_T) (hdg : decode cc pc = .ok (.ldc index, 2)) (k : vv_V sc own mname cc nL ret R n0 z0 Fi (pc + 2) L (.int v :: st) S M) : vv_V sc own mname cc nL ret R n0 z0 Fi pc L st S M := by
  intro p l e s m args below meth c D cA b0 tb Q H locs ls E Hh h1 h2 hP hS hls
  exact lv_ldc E.1 E.2.1 E.2.2.2.2.1 (E.2.2.2.2.2.1 _ hw) hdg (k p l e s m args below meth c D cA b0 tb Q H locs ls E Hh h1 h2 hP hS hls)
theorem vi_lstore {i : Nat} {x : Int64} {L' : List (Nat × Value)} (hdg : decode cc pc = .ok (.lstore i, 2)) (hn : i + 1 < nL) (hl : vv_putl i (.long x) L = L') (k : vv_V sc own mname cc nL ret R n0 z0 Fi (pc + 2) L' st S M) : vv_V sc own mname cc nL ret R n0 z0 Fi pc L (.long x :: st) S M := by
  intro p l e s m args below meth c D cA b0 tb Q H locs ls E Hh h1 h2 hP hS hls
  subst hl
  exact lv_lstore E.1 E.2.1 hdg hls hn (vv_L_putl b0 tb i (.long x) L) (fun ls' hl' => k p l e s m args below meth c D cA b0 tb Q H locs ls' E Hh h1 h2 hP hS hl')
/-- a contract of a method that reads the script -/
def vv_CX (sc : List Int32) (y : MethodName) (w : List Cond) (R : Room) (As : List Value) (S : List vv_Sh) (M : vv_M) (r : Option Value) (S' : List vv_Sh) (M' : vv_M) : Prop :=
  ∀ (l : Launch) (D : va_G) (cA : Nat → ClassId) (b0 : Nat) (tb : Nat → Nat), Met l y w R (va_Pc (vv_st b0 tb As) (fun U => vv_B D cA b0 tb S M U ∧ vv_Sc sc b0 tb U)) (vv_Q D cA b0 tb S' M' r) R.cells R.slots (vv_A b0)
theorem vv_ofVX {L : List (Nat × Value)} 
    (hy : plainFor y = true) (hsl : ((As.map Value.category).sum) ≤ nL) (hL : lv_args 0 As = L) (hc : S'.length = S.length + R.cells) (hz : vv_sz S' = vv_sz S + R.slots)
    (k : vv_V sc y.cls y.name cc nL ret R S.length (vv_sz S) (fun v S2 M2 => v = r ∧ S2 = S' ∧ M2 = M') 0 L [] S M) : vv_CX sc y (vv_w y cc nL ret) R As S M r S' M' := by
  intro l D cA b0 tb
  refine va_MetF (cc := cc) (maxL := nL) (ret := ret) hy rfl ?_
  intro p e s m args below meth c s₁ B hml hv
  obtain ⟨rfl, ⟨hsz, hP, hK, hT, hN⟩, hSc⟩ := hv
  have hx := B.exec
  have hb := B.bytes
  have hr := B.returns
  have hts := atoms_spec (ws := vv_w y cc nL ret) B.pre
  have hown : s.vm.findClass y.cls = some m.cls := findClass_of_methodNamed B.named
  have hlocks := B.notSynchronized
  have hin : meth.name = y.name := (name_of_methodNamed B.named B.method).1
  have hargs : ∀ (i : Nat) (As : List Value), lv_args i (vv_st b0 tb As) = vv_L b0 tb (lv_args i As) := by
    intro i As
    induction As generalizing i with
    | nil => rfl
    | cons v vs ih =>
      show (i, vv_rv b0 tb v) :: lv_args (if (vv_rv b0 tb v).category = 2 then i + 2 else i + 1) (vv_st b0 tb vs) = (i, vv_rv b0 tb v) :: vv_L b0 tb (lv_args (if v.category = 2 then i + 2 else i + 1) vs)
      rw [vv_cat, ih]
  have hlen : ∀ As : List Value, (lg_sl (vv_st b0 tb As)).length = (As.map Value.category).sum := by
    intro As
    induction As with
    | nil => rfl
    | cons v vs ih =>
      have e : lg_sl (vv_st b0 tb (v :: vs)) = (if (vv_rv b0 tb v).category = 2 then [Slot.val (vv_rv b0 tb v), Slot.second] else [Slot.val (vv_rv b0 tb v)]) ++ lg_sl (vv_st b0 tb vs) := rfl
      rw [e, List.length_append, ih, vv_cat, List.map_cons, List.sum_cons]
      rcases lv_cat v with h | h <;> simp [h]
  have hl := lv_entry (vv_st b0 tb As) (n := nL) (by rw [hlen]; exact hsl)
  rw [lg_entry_eq]
  generalize (lg_sl (vv_st b0 tb As) ++ List.replicate (nL - (lg_sl (vv_st b0 tb As)).length) Slot.unset).toArray = ls at hl ⊢
  rw [hargs, hL] at hl
  have K := k p l e s m (vv_st b0 tb As).toArray below meth c D cA b0 tb (MQ below (vv_Q D cA b0 tb S' M' r) (vv_st b0 tb As).toArray s R.cells R.slots (vv_A b0)) s.heap [] ls ⟨hx, hb, hr, hml, hown, fun w hw => hts w (List.mem_cons_of_mem _ hw), hN, hT, hK, hsz, hin, hSc⟩ ?_ (Nat.le_refl _) (Nat.le_refl _) hP va_S.rf hl
  · rw [Nat.sub_self, Nat.sub_self] at K
    exact K
  · intro v S2 M2 H locs pc ls hrt hfin h1 h2 hP2 hS
    obtain ⟨rfl, rfl, rfl⟩ := hfin
    have e1 : S2.length - S.length = R.cells := by omega
    have e2 : vv_sz S2 - vv_sz S = R.slots := by omega
    rw [e1, e2]
    match v, hrt with
    | none, hrt => exact W.vret hx hb (hr.trans hrt.2) (fun t ht hW => ⟨rfl, by rw [ht]; exact hP2, hS.F ht⟩) hS.2.2 hrt.1 (hlocks := hlocks)
    | some (.int x), hrt =>
      obtain ⟨hd, ty, hty, hn⟩ := hrt
      exact W.zret hx hb (hr.trans hty) hn (fun t ht hW => ⟨rfl, by rw [ht]; exact hP2, hS.F ht⟩) hS.2.2 hd (hlocks := hlocks)
    | some (.long x), hrt => exact W.lret hx hb (hr.trans hrt.2) (fun t ht hW => ⟨rfl, by rw [ht]; exact hP2, hS.F ht⟩) hS.2.2 hrt.1 (hlocks := hlocks)
theorem vv_blindX {D : va_G} {cA : Nat → ClassId} {b0 : Nat} {tb : Nat → Nat} {av : List Value} : FrameBlind (va_Pc av (fun U => vv_B D cA b0 tb S M U ∧ vv_Sc sc b0 tb U)) := by
  intro a U g mk q
  obtain ⟨h0, h1, h2⟩ := q
  obtain ⟨g0, g1⟩ := vv_blind (D := D) (cA := cA) (b0 := b0) (tb := tb) (S := S) (M := M) (av := av) a U g mk ⟨h0, h1⟩
  refine ⟨g0, g1, ?_⟩
  rcases h2 with h | ⟨h, hb⟩
  · exact Or.inl h
  · exact Or.inr ⟨va_X.moved (u := U) (U := U.calling g mk a) (Vm.Alike.refl U.vm) h, hb⟩
theorem vv_nextX {p : Program} {s : State} {m : MethodId} {args : Array Value} {meth : Method} {c : Code} {D : va_G} {cA : Nat → ClassId} {b0 : Nat} {tb : Nat → Nat} {H : Heap} {locs : List Loc}
    (E : vv_E sc own mname cc nL ret p s m args meth c D cA b0 tb n0) (hz : H.size = b0 + S.length) (hP : va_P D vv_cl (vv_ws b0 cA S M) H) (hS : va_S (vv_A b0) s.heap H locs) : ∀ U : State, U.heap = H → s.WarmedH U.vm → va_Pc (vv_st b0 tb As) (fun U => vv_B D cA b0 tb S M U ∧ vv_Sc sc b0 tb U) (vv_st b0 tb As).toArray U := by
  intro U hU hW
  obtain ⟨g0, g1⟩ := vv_next (As := As) E hz hP hS U hU hW
  refine ⟨g0, g1, ?_⟩
  rcases E.2.2.2.2.2.2.2.2.2.2.2 with h | ⟨h, hb⟩
  · exact Or.inl h
  · refine Or.inr ⟨?_, hb⟩
    rw [hU]
    exact (va_X.moved hW.alike h).kept (hS.2.1 _ (by rw [E.2.2.2.2.2.2.2.2.2.1]; exact Nat.lt_of_lt_of_le hb (Nat.le_add_right _ _)) (fun h : b0 ≤ tb 7 => absurd h (Nat.not_le.mpr hb)))
theorem vi_callSX (hC : vv_CX sc y (vv_w y cc' nL' ret') R' As S M r S' M') (hst : stk = As.reverse ++ st) (hy : vv_yok y As.length)
    (w1 : Cond.methodLink own idx y ∈ vv_T) (w2 : Cond.static y ∈ vv_T) (w4 : Cond.initialized y.cls ∈ vv_T) (w5 : Cond.code y cc' nL' ret' ∈ vv_T)
    (hfr : vv_fr R R' nL') (hrm : vv_rm R n0 z0 S R') (hcs : (st.map fun v => v.category).sum ≤ 8) (hlen : S'.length = S.length + R'.cells) (hsz : vv_sz S' = vv_sz S + R'.slots) (hdg : decode cc pc = .ok (.invokestatic idx, 3))
    (k : vv_V sc own mname cc nL ret R n0 z0 Fi (pc + 3) L (r.toList ++ st) S' M') : vv_V sc own mname cc nL ret R n0 z0 Fi pc L stk S M := by
  intro p l e s m args below meth c D cA b0 tb Q H locs ls E Hh h1 h2 hP hS hls T hT X
  subst hst
  have hz := vv_size hT X E.2.2.2.2.2.2.2.2.2.1 h1 hP hS
  have hG : GoodIn vv_T (va_wsS own idx y (vv_w y cc' nL' ret')) := vv_good (fun w hw => by
    simp only [va_wsS, vv_w, List.mem_append, List.mem_cons, List.not_mem_nil, or_false] at hw
    rcases hw with (rfl | rfl | rfl) | (rfl | h)
    · exact w1
    · exact w2
    · exact w4
    · exact w5
    · exact h)
  refine vv_goes (va_runS (As := vv_st b0 tb As) (rest := vv_st b0 tb st) ⟨E.1, E.2.1, E.2.2.2.1, E.2.2.2.2.1, E.2.2.2.2.2.1⟩ (hC l D cA b0 tb) (va_cwS As.length E.2.2.2.2.2.1 hG rfl rfl rfl hy hfr) ⟨vv_blindX, vv_nextX (As := As) E hz hP hS⟩ rfl (by simp [vv_st]) hls.1 ?_ (lv_room (by rw [vv_catsum]; exact hcs)) hdg hrm) hS hlen hsz E Hh h1 h2 hls k T hT X
  show vv_st b0 tb (As.reverse ++ st) = _
  rw [vv_rev]
end VI4
