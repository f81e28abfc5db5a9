/-! the world at the law's entry -/
theorem vv_hts {s : State} {args : Array Value} (hts : ∀ w ∈ lw_tbl, w.before args s = true) : ∀ w ∈ vv_T, w.before args s = true := fun w hw => hts w (List.mem_filter.mp hw).1
theorem vv_htN {s : State} {args : Array Value} (hts : ∀ w ∈ lw_tbl, w.before args s = true) : ∀ w ∈ vv_N, w.before args s = true := fun w hw => hts w (List.mem_filter.mp hw).1
theorem vv_hasD {s : State} {args : Array Value} (hts : ∀ w ∈ lw_tbl, w.before args s = true) : ∃ D : va_G, ∀ (k : Nat) (q : vw_C), vv_cl[k]? = some q → u_Kn s q.1 q.2.1 q.2.2 (D.1 k) (D.2 k) := by
  have h := vv_hts hts
  obtain ⟨c0, i0, h0⟩ := u_known h wu_X0 (h _ wn_X0)
  obtain ⟨c1, i1, h1⟩ := u_known h wu_X1 (h _ wn_X1)
  obtain ⟨c2, i2, h2⟩ := u_known h wu_X2 (h _ wn_X2)
  obtain ⟨c3, i3, h3⟩ := u_known h wu_X3 (h _ wn_X3)
  obtain ⟨c4, i4, h4⟩ := u_known h wu_X4 (h _ wn_X4)
  refine ⟨(fun k => if k = 0 then c0 else if k = 1 then c1 else if k = 2 then c2 else if k = 3 then c3 else c4, fun k => if k = 0 then i0 else if k = 1 then i1 else if k = 2 then i2 else if k = 3 then i3 else i4), ?_⟩
  intro k q hq
  match k, hq with
  | 0, hq => cases hq; exact h0
  | 1, hq => cases hq; exact h1
  | 2, hq => cases hq; exact h2
  | 3, hq => cases hq; exact h3
  | 4, hq => cases hq; exact h4
  | k + 5, hq => simp at hq
theorem vv_hasA {s : State} {args : Array Value} (hts : ∀ w ∈ lw_tbl, w.before args s = true) : ∃ cA : Nat → ClassId, ∀ (k : Nat) (q : ClassId × FieldType), (vv_tys cA)[k]? = some q → ArrOfT s q.1 q.2 ∧ va_RA s q.1 q.2 := by
  have h := vv_hts hts
  have hN := vv_htN hts
  obtain ⟨a0, k0, m0, n0, r0, j0⟩ := Cond.arrayClass_spec (h _ wr_int)
  obtain ⟨a1, k1, m1, n1, r1, j1⟩ := Cond.arrayClass_spec (h _ wr_boolean)
  obtain ⟨m2, a2, k2, f2, -, r2, j2, n2⟩ := Cond.arrayOver_spec (hN _ wq_X2)
  obtain ⟨m3, a3, k3, f3, -, r3, j3, n3⟩ := Cond.arrayOver_spec (hN _ wq_X1)
  refine ⟨fun k => if k = 0 then a0 else if k = 1 then a1 else if k = 2 then a2 else a3, ?_⟩
  intro k q hq
  match k, hq with
  | 0, hq => cases hq; exact ⟨fun N z => ⟨fun k h => (by cases h), k0, r0, m0, j0⟩, n0⟩
  | 1, hq => cases hq; exact ⟨fun N z => ⟨fun k h => (by cases h), k1, r1, m1, j1⟩, n1⟩
  | 2, hq => cases hq; exact ⟨fun N z => ⟨fun k h => (by cases h), k2, r2, m2, j2⟩, k2, m2, r2, j2, f2, n2⟩
  | 3, hq => cases hq; exact ⟨fun N z => ⟨fun k h => (by cases h), k3, r3, m3, j3⟩, k3, m3, r3, j3, f3, n3⟩
  | k + 4, hq => simp at hq
theorem vv_tabW : ∀ q ∈ vv_tbs, Cond.laysStatic RX4 q.1 "[I" ∈ lw_tbl ∧ Cond.arrayOf (.static RX4 q.1 "[I") .int ∈ flatC (Cond.and given_1 narrow_1) ∧ Cond.eq (.length (.static RX4 q.1 "[I")) (.int (Int32.ofNat q.2.length)) ∈ flatC (Cond.and given_1 narrow_1) ∧ q.2.length < 2 ^ 31 ∧ ∀ j, j < q.2.length → Cond.eq (.elem (.static RX4 q.1 "[I") (.int (Int32.ofNat j))) (.int (q.2.getD j 0)) ∈ flatC (Cond.and given_1 narrow_1) := by decide +kernel
theorem vv_tab {s : State} {args : Array Value} (hts : ∀ w ∈ lw_tbl, w.before args s = true) (hgv : (Cond.and given_1 narrow_1).before args s = true) (i : Nat) {nm : String} {xs : List Int32} (hi : vv_tbs[i]? = some (nm, xs)) : ∃ t : Nat, va_Z RX4 nm "[I" (.ref t) (vv_A s.heap.size) s s.heap ∧ va_T .int t xs.length (fun j => .int (xs.getD j 0)) (vv_A s.heap.size) s s.heap := by
  obtain ⟨h1, h2, h3, h4, h5⟩ := vv_tabW _ (List.mem_of_getElem? hi)
  have hs := flat_of_before _ hgv
  have hA : ∀ a : Nat, a < s.heap.size → ¬ vv_A s.heap.size a := fun a ha h => absurd ha (Nat.not_lt.mpr h)
  obtain ⟨t, g1, g2⟩ := va_Tof (N := xs.length) (f := fun j => .int (xs.getD j 0)) h4 (hs _ h2) (va_eqt (hs _ h3)) (fun j hj => va_eqt (hs _ (h5 j hj))) hA
  exact ⟨t, va_Zref (hts _ h1) (vv_hts hts _ wI_X4) g1 hA, g2⟩
theorem vv_hasT {s : State} {args : Array Value} (hts : ∀ w ∈ lw_tbl, w.before args s = true) (hgv : (Cond.and given_1 narrow_1).before args s = true) (b : Nat) : ∃ tb : Nat → Nat, vv_Tb s.heap.size tb s s.heap ∧ tb 7 = b := by
  obtain ⟨t0, h0⟩ := vv_tab hts hgv 0 rfl
  obtain ⟨t1, h1⟩ := vv_tab hts hgv 1 rfl
  obtain ⟨t2, h2⟩ := vv_tab hts hgv 2 rfl
  obtain ⟨t3, h3⟩ := vv_tab hts hgv 3 rfl
  obtain ⟨t4, h4⟩ := vv_tab hts hgv 4 rfl
  obtain ⟨t5, h5⟩ := vv_tab hts hgv 5 rfl
  obtain ⟨t6, h6⟩ := vv_tab hts hgv 6 rfl
  refine ⟨fun k => if k = 0 then t0 else if k = 1 then t1 else if k = 2 then t2 else if k = 3 then t3 else if k = 4 then t4 else if k = 5 then t5 else if k = 6 then t6 else b, ?_, rfl⟩
  intro i nm xs hi
  match i, hi with
  | 0, hi => cases hi; exact h0
  | 1, hi => cases hi; exact h1
  | 2, hi => cases hi; exact h2
  | 3, hi => cases hi; exact h3
  | 4, hi => cases hi; exact h4
  | 5, hi => cases hi; exact h5
  | 6, hi => cases hi; exact h6
  | i + 7, hi => simp [vv_tbs] at hi
