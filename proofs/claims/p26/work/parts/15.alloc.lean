section VI3
variable {sc : List Int32} {own mname : String} {cc : ByteArray} {nL : Nat} {ret : Option FieldType} {R : Room} {n0 z0 : Nat} {Fi : Option Value → List vv_Sh → vv_M → Prop} {pc : Nat} {L : List (Nat × Value)} {st : List Value} {S S' : List vv_Sh} {M M' : vv_M} {idx : Nat}
theorem vv_sz_push (S : List vv_Sh) (sh : vv_Sh) : vv_sz (S ++ [sh]) = vv_sz S + vv_ssz sh := by
  unfold vv_sz
  rw [List.map_append, List.sum_append]
  simp
/-- where a new cell lies -/
theorem vv_newq {D : va_G} {cl : List vw_C} {cA : Nat → ClassId} {b0 : Nat} {S : List vv_Sh} {M : vv_M} {q : Nat} {e : va_E} {H1 : Heap} (hP : va_P D cl (vv_ws b0 cA S M ++ [(q, e)]) H1) (hD : va_D (vv_A b0) (vv_ws b0 cA S M ++ [(q, e)])) (hu : H1.size ≤ b0 + S.length + 1) : q = b0 + S.length := by
  have hl : (vv_ws b0 cA S M).length = S.length := by
    unfold vv_ws
    exact List.length_mapIdx
  have hq : (vv_ws b0 cA S M ++ [(q, e)])[S.length]? = some (q, e) := by
    rw [List.getElem?_append_right (by omega), hl, Nat.sub_self]
    rfl
  have h1 : q < H1.size := (hP _ _ hq).lt
  have h2 : b0 ≤ q := hD.2 _ _ hq
  rcases Nat.lt_or_ge q (b0 + S.length) with h | h
  · exfalso
    obtain ⟨k, hk⟩ : ∃ k, q = b0 + k := ⟨q - b0, by omega⟩
    have hk2 : k < S.length := by omega
    have hk3 : (vv_ws b0 cA S M ++ [(q, e)])[k]? = some (b0 + k, vv_cell b0 cA (M k) S[k]) := by
      rw [List.getElem?_append_left (by omega)]
      exact vv_at b0 cA M (List.getElem?_eq_getElem hk2)
    have := hD.1 k S.length _ _ hk3 hq hk.symm
    omega
  · omega
theorem vi_objInit {q : Nat} (w1 : Cond.methodLink own idx objectInit ∈ vv_T) (w2 : Cond.instanceMethod objectInit ∈ vv_T) (w3 : Cond.code objectInit ⟨#[0xb1]⟩ 1 none ∈ vv_T) (hdg : decode cc pc = .ok (.invokespecial idx, 3)) (hR : 1 ≤ R.frames) (hR2 : (st.map fun v => v.category).sum + 12 ≤ R.locals)
    (k : vv_V sc own mname cc nL ret R n0 z0 Fi (pc + 3) L st S M) : vv_V sc own mname cc nL ret R n0 z0 Fi pc L (.ref q :: st) S M := by
  intro p l e s m args below meth c D cA b0 tb Q H locs ls E Hh h1 h2 hP hS hls
  refine W.objInit (rest := vv_st b0 tb st) E.1 E.2.1 E.2.2.2.2.1 (E.2.2.2.2.2.1 _ w1) (E.2.2.2.2.2.1 _ w2) (E.2.2.2.2.2.1 _ w3) rfl (hls.1.trans E.2.2.2.1.symm) rfl hdg hR ?_ (k p l e s m args below meth c D cA b0 tb Q H locs ls E Hh h1 h2 hP hS hls)
  rw [vv_catsum]
  show 2 * 0 + _ + 12 ≤ _
  omega
theorem vi_new {ci : Nat} {C : String} {T : u_T} {N : Nat} {fs : List (Option (Option Nat))} (hcl : vv_cl[ci]? = some (C, T, N)) (hin : ∀ w ∈ u_ws C T N, w ∈ vv_T) (ty : Nat → FieldType) (hty : ∀ k, k < N → parseFieldDescriptor (T k).2.2.1 = some (ty k)) (w1 : Cond.classLink own idx C ∈ vv_T) (w2 : Cond.instantiable C N ∈ vv_T) (w3 : Cond.initialized C ∈ vv_T)
    (hfs : ∀ j b0, j < N → defaultValue (ty j) = vp_V (vv_fs b0 (fun _ => 0) fs) j) (hM : M S.length = fun _ => 0) (hN : fs.length = N) (hr1 : S.length - n0 + 1 ≤ R.cells) (hr2 : vv_sz S - z0 + N ≤ R.slots) (hdg : decode cc pc = .ok (.new idx, 3))
    (k : vv_V sc own mname cc nL ret R n0 z0 Fi (pc + 3) L (.ref S.length :: st) (S ++ [.inr (.inr (ci, fs))]) M) : vv_V sc own mname cc nL ret R n0 z0 Fi pc L st S M := by
  intro p l e s m args below meth c D cA b0 tb Q H locs ls E Hh h1 h2 hP hS hls
  refine va_new (A := vv_A b0) E.1 E.2.1 E.2.2.2.2.2.1 hin ty hty E.2.2.2.2.1 (E.2.2.2.2.2.1 _ w1) (E.2.2.2.2.2.1 _ w2) (E.2.2.2.2.2.1 _ w3) E.2.2.2.2.2.2.2.2.1 hP (vv_Dd b0 cA S M) hS (fun q hq => Nat.le_trans (by rw [E.2.2.2.2.2.2.2.2.2.1]; exact Nat.le_add_right _ _) hq) hcl (fun j hj => hfs j b0 hj) hr1 hr2 hdg (fun q H1 hP1 hD1 hS1 => ?_)
  intro T' hT X
  have hu := X.heapSize
  rw [hT, E.2.2.2.2.2.2.2.2.2.1] at hu
  have hq := vv_newq hP1 hD1 (by omega)
  subst hq
  have ee : vv_ws b0 cA S M ++ [(b0 + S.length, .inr (ci, vv_fs b0 (fun _ => 0) fs))] = vv_ws b0 cA (S ++ [.inr (.inr (ci, fs))]) M := by
    rw [← vv_push, hM]
    rfl
  rw [ee] at hP1
  have hl2 : (S ++ [(.inr (.inr (ci, fs)) : vv_Sh)]).length = S.length + 1 := by simp
  have hz2 : vv_sz (S ++ [(.inr (.inr (ci, fs)) : vv_Sh)]) = vv_sz S + N := by rw [vv_sz_push]; show _ + fs.length = _; rw [hN]
  have K := k p l e s m args below meth c D cA b0 tb Q H1 locs ls E Hh (by omega) (by omega) hP1 hS1 hls
  rw [hl2, hz2] at K
  have e1 : S.length - n0 + 1 = S.length + 1 - n0 := by omega
  have e2 : vv_sz S - z0 + N = vv_sz S + N - z0 := by omega
  rw [e1, e2] at X
  exact K T' hT X
theorem vi_newa {atype : ArrayType} {ty : FieldType} {tag N : Nat} {n : Int32} (hty : newarray.typeOf atype = ty) (hdf : defaultValue ty = .int 0) (htag : ∀ cA : Nat → ClassId, (vv_tys cA)[tag]? = some (cA tag, ty)) (hnr : ∀ (U : State) (cA : ClassId), va_RA U cA ty → U.vm.findClass ("[" ++ ty.toString) = some cA) (w1 : Cond.arrayClass ty ∈ vv_T) (hn : ¬ n < 0) (hN : n.toNatClampNeg = N) (hbytes : N * componentBytes ty ≤ 536870912)
    (hM : M S.length = fun _ => 0) (hr1 : S.length - n0 + 1 ≤ R.cells) (hr2 : vv_sz S - z0 + N ≤ R.slots) (hdg : decode cc pc = .ok (.newarray atype, 2))
    (k : vv_V sc own mname cc nL ret R n0 z0 Fi (pc + 2) L (.ref S.length :: st) (S ++ [.inl (tag, N)]) M) : vv_V sc own mname cc nL ret R n0 z0 Fi pc L (.int n :: st) S M := by
  intro p l e s m args below meth c D cA b0 tb Q H locs ls E Hh h1 h2 hP hS hls
  have hA : ∀ q, s.heap.size ≤ q → vv_A b0 q := fun q hq => Nat.le_trans (by rw [E.2.2.2.2.2.2.2.2.2.1]; exact Nat.le_add_right _ _) hq
  have hKK := E.2.2.2.2.2.2.2.2.1
  refine va_newa (A := vv_A b0) (a0 := (N, .inl (fun _ => 0))) E.1 E.2.1 (E.2.2.2.2.2.1 _ (by rw [hty]; exact w1)) hty hKK hP (vv_Dd b0 cA S M) hS hA (fun cA => by rw [hdf]; rfl) hn hN hbytes hr1 hr2 hdg (fun q cA' H1 hK1 hP1 hD1 hS1 => ?_)
  have hc : cA' = cA tag := by
    have g1 := (hK1.2 4 _ rfl).2
    have g2 := (hKK.2 tag _ (htag cA)).2
    exact Option.some.inj ((hnr _ _ g1).symm.trans (hnr _ _ g2))
  subst hc
  intro T' hT X
  have hu := X.heapSize
  rw [hT, E.2.2.2.2.2.2.2.2.2.1] at hu
  have hq := vv_newq hP1 hD1 (by omega)
  subst hq
  have ee : vv_ws b0 cA S M ++ [(b0 + S.length, .inl (cA tag, N, .inl (fun _ => 0)))] = vv_ws b0 cA (S ++ [.inl (tag, N)]) M := by
    rw [← vv_push, hM]
    rfl
  rw [ee] at hP1
  have hl2 : (S ++ [(.inl (tag, N) : vv_Sh)]).length = S.length + 1 := by simp
  have hz2 : vv_sz (S ++ [(.inl (tag, N) : vv_Sh)]) = vv_sz S + N := vv_sz_push _ _
  have K := k p l e s m args below meth c D cA b0 tb Q H1 locs ls E Hh (by omega) (by omega) hP1 hS1 hls
  rw [hl2, hz2] at K
  have e1 : S.length - n0 + 1 = S.length + 1 - n0 := by omega
  have e2 : vv_sz S - z0 + N = vv_sz S + N - z0 := by omega
  rw [e1, e2] at X
  exact K T' hT X
theorem vi_newq {C : String} {tag N base stride : Nat} {n : Int32} (htag : ∀ cA : Nat → ClassId, (vv_tys cA)[tag]? = some (cA tag, .object C)) (w0 : Cond.arrayOver (.object C) ∈ vv_N) (w1 : Cond.classLink own idx C ∈ vv_T) (hn : ¬ n < 0) (hN : n.toNatClampNeg = N) (hbytes : N * 4 ≤ 536870912)
    (hr1 : S.length - n0 + 1 ≤ R.cells) (hr2 : vv_sz S - z0 + N ≤ R.slots) (hdg : decode cc pc = .ok (.anewarray idx, 3))
    (k : vv_V sc own mname cc nL ret R n0 z0 Fi (pc + 3) L (.ref S.length :: st) (S ++ [.inr (.inl (tag, N, 0, base, stride))]) M) : vv_V sc own mname cc nL ret R n0 z0 Fi pc L (.int n :: st) S M := by
  intro p l e s m args below meth c D cA b0 tb Q H locs ls E Hh h1 h2 hP hS hls
  have hA : ∀ q, s.heap.size ≤ q → vv_A b0 q := fun q hq => Nat.le_trans (by rw [E.2.2.2.2.2.2.2.2.2.1]; exact Nat.le_add_right _ _) hq
  have hKK := E.2.2.2.2.2.2.2.2.1
  refine va_newq (A := vv_A b0) E.1 E.2.1 E.2.2.2.2.1 (E.2.2.2.2.2.1 _ w1) (E.2.2.2.2.2.2.1 _ w0) hKK hP (vv_Dd b0 cA S M) hS hA hn hN hbytes hr1 hr2 hdg (fun q cA' H1 hK1 hP1 hD1 hS1 => ?_)
  have hc : cA' = cA tag := by
    obtain ⟨-, -, -, -, -, g1⟩ := (hK1.2 4 _ rfl).2
    obtain ⟨-, -, -, -, -, g2⟩ := (hKK.2 tag _ (htag cA)).2
    exact Option.some.inj (g1.symm.trans g2)
  subst hc
  intro T' hT X
  have hu := X.heapSize
  rw [hT, E.2.2.2.2.2.2.2.2.2.1] at hu
  have hq := vv_newq hP1 hD1 (by omega)
  subst hq
  have ee : vv_ws b0 cA S M ++ [(b0 + S.length, .inl (cA tag, N, .inr (.inr (.inr (.inr (fun _ => none))))))] = vv_ws b0 cA (S ++ [.inr (.inl (tag, N, 0, base, stride))]) M := by
    have e0 : vv_rq b0 0 base stride = fun _ => none := by
      funext j
      unfold vv_rq
      rw [if_neg (Nat.not_lt_zero j)]
    rw [← vv_push, ← e0]
    rfl
  rw [ee] at hP1
  have hl2 : (S ++ [(.inr (.inl (tag, N, 0, base, stride)) : vv_Sh)]).length = S.length + 1 := by simp
  have hz2 : vv_sz (S ++ [(.inr (.inl (tag, N, 0, base, stride)) : vv_Sh)]) = vv_sz S + N := vv_sz_push _ _
  have K := k p l e s m args below meth c D cA b0 tb Q H1 locs ls E Hh (by omega) (by omega) hP1 hS1 hls
  rw [hl2, hz2] at K
  have e1 : S.length - n0 + 1 = S.length + 1 - n0 := by omega
  have e2 : vv_sz S - z0 + N = vv_sz S + N - z0 := by omega
  rw [e1, e2] at X
  exact K T' hT X
theorem vi_aast {q n fil base stride tag t ci : Nat} {r : vw_C} {fs : List (Option (Option Nat))} {i : Int32} (hsh : S[q]? = some (.inr (.inl (tag, n, fil, base, stride)))) (htag : ∀ cA : Nat → ClassId, (vv_tys cA)[tag]? = some (cA tag, .object r.1)) (hv : S[t]? = some (.inr (.inr (ci, fs)))) (hc : vv_cl[ci]? = some r) (hin : vp_in i n) (hi : i.toNatClampNeg = fil) (ht : t = base + stride * fil) (hS' : S.set q (.inr (.inl (tag, n, fil + 1, base, stride))) = S') (hdg : decode cc pc = .ok (.aastore, 1))
    (k : vv_V sc own mname cc nL ret R n0 z0 Fi (pc + 1) L st S' M) : vv_V sc own mname cc nL ret R n0 z0 Fi pc L (.ref t :: .int i :: .ref q :: st) S M := by
  intro p l e s m args below meth c D cA b0 tb Q H locs ls E Hh h1 h2 hP hS hls
  subst hS'
  refine va_astq (A := vv_A b0) E.1 E.2.1 E.2.2.2.2.2.2.2.2.1 hP (vv_Dd b0 cA S M) hS q tag t ci (vv_at b0 cA M hsh) (htag cA) (vv_at b0 cA M hv) hc hin hdg (fun H1 locs1 hP1 hD1 hS1 => ?_)
  have e0 : va_up (vv_rq b0 fil base stride) i.toNatClampNeg (some (b0 + t)) = vv_rq b0 (fil + 1) base stride := by
    funext j
    unfold va_up vv_rq
    rw [hi, ht]
    by_cases hj : j = fil
    · subst hj
      rw [if_pos rfl, if_pos (Nat.lt_succ_self _)]
    · rw [if_neg hj]
      by_cases h9 : j < fil
      · rw [if_pos h9, if_pos (by omega)]
      · rw [if_neg h9, if_neg (by omega)]
  have ee : (vv_ws b0 cA S M).set q (b0 + q, .inl (cA tag, n, .inr (.inr (.inr (.inr (va_up (vv_rq b0 fil base stride) i.toNatClampNeg (some (b0 + t)))))))) = vv_ws b0 cA (S.set q (.inr (.inl (tag, n, fil + 1, base, stride)))) M := by
    rw [e0, ← vv_setS]
    rfl
  rw [ee] at hP1
  have hlen : (S.set q (.inr (.inl (tag, n, fil + 1, base, stride)))).length = S.length := List.length_set
  have hsz : vv_sz (S.set q (.inr (.inl (tag, n, fil + 1, base, stride)))) = vv_sz S := vv_sz_set hsh rfl
  have K := k p l e s m args below meth c D cA b0 tb Q H1 locs1 ls E Hh (by rw [hlen]; exact h1) (by rw [hsz]; exact h2) hP1 hS1 hls
  rw [hlen, hsz] at K
  exact K
/-- the script -/
theorem vi_slen {xs : List Int32} (hdg : decode cc pc = .ok (.arraylength, 1)) (k : vv_V (0 :: xs) own mname cc nL ret R n0 z0 Fi (pc + 1) L (.int (Int32.ofNat xs.length) :: st) S M) : vv_V (0 :: xs) own mname cc nL ret R n0 z0 Fi pc L (.float 7 :: st) S M := by
  intro p l e s m args below meth c D cA b0 tb Q H locs ls E Hh h1 h2 hP hS hls
  rcases E.2.2.2.2.2.2.2.2.2.2.2 with h | ⟨hX, hb⟩
  · cases h
  exact va_slen E.1 E.2.1 hX (by rw [E.2.2.2.2.2.2.2.2.2.1]; exact Nat.lt_of_lt_of_le hb (Nat.le_add_right _ _)) (fun h : b0 ≤ tb 7 => absurd h (Nat.not_le.mpr hb)) hS hdg (k p l e s m args below meth c D cA b0 tb Q H locs ls E Hh h1 h2 hP hS hls)
theorem vi_sld {xs : List Int32} {i : Int32} (hin : vp_in i xs.length) (hdg : decode cc pc = .ok (.iaload, 1)) (k : vv_V (0 :: xs) own mname cc nL ret R n0 z0 Fi (pc + 1) L (.int (xs.getD i.toNatClampNeg 0) :: st) S M) : vv_V (0 :: xs) own mname cc nL ret R n0 z0 Fi pc L (.int i :: .float 7 :: st) S M := by
  intro p l e s m args below meth c D cA b0 tb Q H locs ls E Hh h1 h2 hP hS hls
  rcases E.2.2.2.2.2.2.2.2.2.2.2 with h | ⟨hX, hb⟩
  · cases h
  exact va_sld E.1 E.2.1 hX (by rw [E.2.2.2.2.2.2.2.2.2.1]; exact Nat.lt_of_lt_of_le hb (Nat.le_add_right _ _)) (fun h : b0 ≤ tb 7 => absurd h (Nat.not_le.mpr hb)) hS hin hdg (k p l e s m args below meth c D cA b0 tb Q H locs ls E Hh h1 h2 hP hS hls)
/-- System.arraycopy out of a static table -/
theorem vi_copyT {w : UInt32} {i : Nat} {nm : String} {xs : List Int32} {q2 n2 : Nat} {sp dp n : Int32} (hi : w.toNat = i) (ht : vv_tbs[i]? = some (nm, xs)) (hs2 : S[q2]? = some (.inl (0, n2))) (h1' : ¬ sp < 0) (h2' : ¬ dp < 0) (h3' : ¬ n < 0) (h4' : sp.toNatClampNeg + n.toNatClampNeg ≤ xs.length) (h5' : dp.toNatClampNeg + n.toNatClampNeg ≤ n2)
    (w1 : Cond.methodLink own idx arraycopyName ∈ vv_T) (w2 : Cond.native arraycopyName ∈ vv_T) (w3 : Cond.static arraycopyName ∈ vv_T) (w4 : Cond.initialized "java/lang/System" ∈ vv_T) (hR1 : 1 ≤ R.frames) (hR2 : (st.map fun v => v.category).sum + (nativeFrameWords "java/lang/System" "arraycopy" 5 + 11) ≤ R.locals)
    (hM : va_up M q2 (va_cpy (fun j => xs.getD j 0) (M q2) sp.toNatClampNeg dp.toNatClampNeg n.toNatClampNeg) = M') (hdg : decode cc pc = .ok (.invokestatic idx, 3))
    (kk : vv_V sc own mname cc nL ret R n0 z0 Fi (pc + 3) L st S M') : vv_V sc own mname cc nL ret R n0 z0 Fi pc L (.int n :: .int dp :: .ref q2 :: .int sp :: .float w :: st) S M := by
  intro p l e s m args below meth c D cA b0 tb Q H locs ls E Hh h1 h2 hP hS hls
  subst hM
  subst hi
  have nn : ∀ z : Int32, ¬ z < 0 → z.toInt = (z.toNatClampNeg : Int) := by
    intro z hz
    have h9 := Int32.le_iff_toInt_le.mp (Int32.not_lt.mp hz)
    have h8 : (0 : Int32).toInt = 0 := rfl
    show z.toInt = ((z.toInt.toNat : Nat) : Int)
    omega
  obtain ⟨scr, t1, t2, t3, t4, -, t6, t7⟩ := (E.2.2.2.2.2.2.2.1 _ nm xs ht).2
  have hc0 : H[tb w.toNat]? = some scr := by rw [hS.2.1 _ (Array.getElem?_eq_some_iff.mp t1).1 t7]; exact t1
  have hc1 : H[b0 + q2]? = some (vp_cell (cA 0) (n2, .inl (M q2))) := hP q2 _ (vv_at b0 cA M hs2)
  obtain ⟨u1, k0, hk0, cm0, hkk0⟩ := t2
  obtain ⟨-, k1, hk1, cm1, hkk1⟩ := (E.2.2.2.2.2.2.2.2.1.2 0 _ rfl).1 n2 (fun j => .int (M q2 j))
  intro T hT X
  obtain ⟨vm', X', step⟩ := X.arraycopy E.1 E.2.2.2.2.1 (E.2.2.2.2.2.1 _ w1) (E.2.2.2.2.2.1 _ w2) (E.2.2.2.2.2.1 _ w3) (E.2.2.2.2.2.1 _ w4) (src := tb w.toNat) (dst := b0 + q2) (cs := scr) (cd := vp_cell (cA 0) (n2, .inl (M q2))) (srcPos := sp) (destPos := dp) (n := n) (by rw [hT]; exact hc0) (by rw [hT]; exact hc1)
    u1 (fun _ h => by cases h) t3 (fun h => by cases h) hk0 hk1 hkk0 hkk1 (by simp [refKind]) h1' h2' h3'
    (by rw [nn sp h1', nn n h3']; omega)
    (by rw [nn dp h2', nn n h3']; show ¬ _ > ((arrV (cA 0) n2 (fun j => .int (M q2 j))).slots.size : Int); rw [arrV_size]; omega)
    (fun vm₁ _ i hi => by
      have e : scr.slots.getD (sp.toNatClampNeg + i) .null = .int (xs.getD (sp.toNatClampNeg + i) 0) := by
        rw [Array.getD_eq_getD_getElem?, t6 _ (by omega)]
        rfl
      rw [e]
      exact ⟨rfl, trivial⟩)
    (g := F0 m pc ls (.int n :: .int dp :: .ref (b0 + q2) :: .int sp :: .ref (tb w.toNat) :: vv_st b0 tb st)) rfl (by rw [E.2.2.2.1]; exact hls.1) (rest := vv_st b0 tb st) rfl (by rw [E.2.1]; exact hdg) hR1 (by rw [vv_catsum]; show 2 * 0 + _ + _ ≤ _; omega)
  have e1 : copied scr (vp_cell (cA 0) (n2, .inl (M q2))) sp dp n = vp_cell (cA 0) (n2, .inl (va_cpy (fun j => xs.getD j 0) (M q2) sp.toNatClampNeg dp.toNatClampNeg n.toNatClampNeg)) := va_copiedX (fun z => .int z) scr (cA 0) (fun j => xs.getD j 0) (M q2) t6 h4'
  rw [e1] at X' step
  have hl : b0 + q2 < H.size := (Array.getElem?_eq_some_iff.mp hc1).1
  have hheap : ((T.setVm vm').setCell (b0 + q2) (vp_cell (cA 0) (n2, .inl (va_cpy (fun j => xs.getD j 0) (M q2) sp.toNatClampNeg dp.toNatClampNeg n.toNatClampNeg)))).heap = H.setIfInBounds (b0 + q2) (vp_cell (cA 0) (n2, .inl (va_cpy (fun j => xs.getD j 0) (M q2) sp.toNatClampNeg dp.toNatClampNeg n.toNatClampNeg))) := by rw [← hT]; rfl
  have oq : ∀ q : Nat, q ≠ b0 + q2 → (H.setIfInBounds (b0 + q2) (vp_cell (cA 0) (n2, .inl (va_cpy (fun j => xs.getD j 0) (M q2) sp.toNatClampNeg dp.toNatClampNeg n.toNatClampNeg))))[q]? = H[q]? := fun q hq => by simp [Array.getElem?_setIfInBounds, Ne.symm hq]
  have hP1 := hP.set (vv_Dd b0 cA S M) (vv_at b0 cA M hs2) (e := .inl (cA 0, n2, .inl (va_cpy (fun j => xs.getD j 0) (M q2) sp.toNatClampNeg dp.toNatClampNeg n.toNatClampNeg))) (show (H.setIfInBounds (b0 + q2) _)[b0 + q2]? = some _ by simp [Array.getElem?_setIfInBounds, hl]) oq
  have ee : (vv_ws b0 cA S M).set q2 (b0 + q2, .inl (cA 0, n2, .inl (va_cpy (fun j => xs.getD j 0) (M q2) sp.toNatClampNeg dp.toNatClampNeg n.toNatClampNeg))) = vv_ws b0 cA S (va_up M q2 (va_cpy (fun j => xs.getD j 0) (M q2) sp.toNatClampNeg dp.toNatClampNeg n.toNatClampNeg)) := by
    rw [← vv_set (M' := va_up M q2 (va_cpy (fun j => xs.getD j 0) (M q2) sp.toNatClampNeg dp.toNatClampNeg n.toNatClampNeg)) hs2 (fun j hj => if_neg hj)]
    rw [show va_up M q2 (va_cpy (fun j => xs.getD j 0) (M q2) sp.toNatClampNeg dp.toNatClampNeg n.toNatClampNeg) q2 = va_cpy (fun j => xs.getD j 0) (M q2) sp.toNatClampNeg dp.toNatClampNeg n.toNatClampNeg from if_pos rfl]
    rfl
  rw [ee] at hP1
  obtain ⟨t, a1, b1⟩ := kk p l e s m args below meth c D cA b0 tb Q _ _ ls E Hh h1 h2 hP1 ⟨by simp; exact hS.1, fun q g1 g2 => by
      rw [oq q (fun e => g2 (by rw [e]; exact Nat.le_add_right _ _))]
      exact hS.2.1 q g1 g2, fun q hq => by
      rcases List.mem_append.mp hq with h | h
      · exact hS.2.2 q h
      · obtain ⟨z, -, hz⟩ := List.mem_map.mp h
        rw [← hz]
        exact Nat.le_add_right _ _⟩ hls _ hheap X'
  exact ⟨t, step t a1, b1⟩
end VI3
