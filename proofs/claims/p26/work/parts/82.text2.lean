/-! the class's reader: a place after each character -/
theorem c_dig {n : Nat} (x : Int32) (M : vv_M) : f_X3_isDigit n x M = some (zi (isd x), M) := by
  unfold f_X3_isDigit
  rw [c_in_b]
  simp only [zi_01, if_true]
theorem pa0 {n : Nat} (c : Int32) (M : vv_M) : f_X3_placeAfter n 0 c M = some (if c = 108 then 1 else if c = 112 then 4 else if c = 115 then 4 else if c = 116 then 4 else -1, M) := by
  unfold f_X3_placeAfter f_X3_placeAfterLetter
  rw [if_pos rfl]
  by_cases h1 : c = 108
  · rw [if_pos h1, if_pos h1]; rfl
  rw [if_neg h1, if_neg h1]
  by_cases h2 : c = 112
  · rw [if_pos h2, if_pos h2]; rfl
  rw [if_neg h2, if_neg h2]
  by_cases h3 : c = 115
  · rw [if_pos h3, if_pos h3]; rfl
  rw [if_neg h3, if_neg h3]
  by_cases h4 : c = 116
  · rw [if_pos h4, if_pos h4]; rfl
  rw [if_neg h4, if_neg h4]; rfl
theorem paf {n : Nat} (c a b : Int32) (M : vv_M) : f_X3_placeAfterFirstDigit n c a b M = some (if isd c then (if c = 48 then b else a) else -1, M) := by
  unfold f_X3_placeAfterFirstDigit
  rw [bnd (c_dig c M)]
  by_cases h : isd c
  · rw [zi_t h, if_pos h]
    show (if (1 : Int32) = 0 then _ else _) = _
    rw [if_neg (by decide)]
    by_cases h2 : c = 48
    · rw [if_pos h2, if_pos h2]
    · rw [if_neg h2, if_neg h2]
  · rw [zi_f h, if_neg h]
    rfl
theorem pa1 {n : Nat} (c : Int32) (M : vv_M) : f_X3_placeAfter n 1 c M = some (if isd c then (if c = 48 then 3 else 2) else -1, M) := by
  unfold f_X3_placeAfter
  rw [if_neg (by decide), if_pos rfl, bnd (paf c 2 3 M)]
theorem pa4 {n : Nat} (c : Int32) (M : vv_M) : f_X3_placeAfter n 4 c M = some (if isd c then (if c = 48 then 6 else 5) else -1, M) := by
  unfold f_X3_placeAfter
  rw [if_neg (by decide), if_neg (by decide), if_neg (by decide), if_neg (by decide), if_pos rfl, bnd (paf c 5 6 M)]
theorem pa2 {n : Nat} (c : Int32) (M : vv_M) : f_X3_placeAfter n 2 c M = some (if isd c then 3 else if c = 44 then 4 else -1, M) := by
  unfold f_X3_placeAfter
  rw [if_neg (by decide), if_neg (by decide), if_pos rfl, bnd (c_dig c M)]
  by_cases h : isd c
  · rw [zi_t h, if_pos h]; rfl
  · rw [zi_f h, if_neg h]
    show (if (0 : Int32) = 0 then (if c = 44 then _ else _) else _) = _
    rw [if_pos rfl]
    by_cases h2 : c = 44
    · rw [if_pos h2, if_pos h2]
    · rw [if_neg h2, if_neg h2]
theorem pa5 {n : Nat} (c : Int32) (M : vv_M) : f_X3_placeAfter n 5 c M = some (if isd c then 6 else if c = 59 then 0 else -1, M) := by
  unfold f_X3_placeAfter
  rw [if_neg (by decide), if_neg (by decide), if_neg (by decide), if_neg (by decide), if_neg (by decide), if_pos rfl, bnd (c_dig c M)]
  by_cases h : isd c
  · rw [zi_t h, if_pos h]; rfl
  · rw [zi_f h, if_neg h]
    show (if (0 : Int32) = 0 then (if c = 59 then _ else _) else _) = _
    rw [if_pos rfl]
    by_cases h2 : c = 59
    · rw [if_pos h2, if_pos h2]
    · rw [if_neg h2, if_neg h2]
theorem pa3 {n : Nat} (c : Int32) (M : vv_M) : f_X3_placeAfter n 3 c M = some (if c = 44 then 4 else -1, M) := by
  unfold f_X3_placeAfter
  rw [if_neg (by decide), if_neg (by decide), if_neg (by decide), if_pos rfl]
  by_cases h2 : c = 44
  · rw [if_pos h2, if_pos h2]
  · rw [if_neg h2, if_neg h2]
theorem pa6 {n : Nat} (c : Int32) (M : vv_M) : f_X3_placeAfter n 6 c M = some (if c = 59 then 0 else -1, M) := by
  unfold f_X3_placeAfter
  rw [if_neg (by decide), if_neg (by decide), if_neg (by decide), if_neg (by decide), if_neg (by decide), if_neg (by decide), if_pos rfl]
  by_cases h2 : c = 59
  · rw [if_pos h2, if_pos h2]
  · rw [if_neg h2, if_neg h2]
/-- from place x at index i the class's answer is v -/
def FF (n p : Nat) (M : vv_M) (len : Nat) (x : Int32) (i : Nat) (v : Int32) : Prop := ∀ k, len - i < k → f_X3_firstFault_4 n k p x (nI i) M = some (v, M)
def Cs (p : Nat) (T : Nat → Int32) (len : Nat) (M : vv_M) : Prop := M p 1 = nI len ∧ ∀ k, k < len → M (p + 1) k = T k
theorem FF_end {n p len i : Nat} {T : Nat → Int32} {M : vv_M} {x : Int32} (hT : Tk T len) (hC : Cs p T len M) (hi : i = len) : FF n p M len x i (if x = 5 ∨ x = 6 then -1009 else nI len) := by
  intro k hk
  have hl := hT.1
  obtain ⟨k, rfl⟩ : ∃ q, k = q + 1 := ⟨k - 1, by omega⟩
  rw [f_X3_firstFault_4.eq_2, hC.1, if_pos (nI_le (by omega) (by omega))]
  by_cases h5 : x = 5
  · rw [if_pos h5, if_pos (Or.inl h5)]
  · rw [if_neg h5]
    by_cases h6 : x = 6
    · rw [if_pos h6, if_pos (Or.inr h6)]
    · rw [if_neg h6, if_neg (fun q => q.elim h5 h6)]
theorem FF_at {n p len i k : Nat} {T : Nat → Int32} {M : vv_M} {x y : Int32} (hT : Tk T len) (hC : Cs p T len M) (hi : i < len) (hd : f_X3_placeAfter n x (ch T len i) M = some (y, M)) : f_X3_firstFault_4 n (k + 1) p x (nI i) M = if y = -1 then some (nI i, M) else f_X3_firstFault_4 n k p y (nI (i + 1)) M := by
  have hl := hT.1
  rw [ch_T hi, ← hC.2 i hi] at hd
  rw [f_X3_firstFault_4.eq_2, hC.1, if_neg (fun h => absurd ((nI_leI (by omega) (by omega)).mp h) (by omega)), if_neg (nI_in (by omega) (by omega)), ix_cl (by omega), bnd hd, ix_let, ix_let, ix_al]
theorem FF_bad {n p len i : Nat} {T : Nat → Int32} {M : vv_M} {x y : Int32} (hT : Tk T len) (hC : Cs p T len M) (hi : i < len) (hd : f_X3_placeAfter n x (ch T len i) M = some (y, M)) (hy : y = -1) : FF n p M len x i (nI i) := by
  intro k hk
  obtain ⟨k, rfl⟩ : ∃ q, k = q + 1 := ⟨k - 1, by omega⟩
  rw [FF_at hT hC hi hd, if_pos hy]
theorem FF_go {n p len i : Nat} {T : Nat → Int32} {M : vv_M} {x y v : Int32} (hT : Tk T len) (hC : Cs p T len M) (hi : i < len) (hd : f_X3_placeAfter n x (ch T len i) M = some (y, M)) (hy : y ≠ -1) (h : FF n p M len y (i + 1) v) : FF n p M len x i v := by
  intro k hk
  obtain ⟨k, rfl⟩ : ∃ q, k = q + 1 := ⟨k - 1, by omega⟩
  rw [FF_at hT hC hi hd, if_neg hy]
  exact h k (by omega)
/-- behind a last number -/
theorem FF_6 {n p len j : Nat} {T : Nat → Int32} {M : vv_M} (hT : Tk T len) (hC : Cs p T len M) (hj : j ≤ len) : (len ≤ j → FF n p M len 6 j (-1009)) ∧ (j < len → ch T len j ≠ 59 → FF n p M len 6 j (nI j)) ∧ (j < len → ch T len j = 59 → ∀ v, FF n p M len 0 (j + 1) v → FF n p M len 6 j v) := by
  refine ⟨fun h => ?_, fun h h2 => ?_, fun h h2 v hv => ?_⟩
  · have := FF_end (n := n) (x := 6) hT hC (show j = len by omega)
    rw [if_pos (Or.inr rfl)] at this
    exact this
  · exact FF_bad hT hC h (pa6 _ M) (if_neg h2)
  · refine FF_go hT hC h (pa6 _ M) ?_ (by rw [if_pos h2]; exact hv)
    rw [if_pos h2]; decide
/-- at a last number -/
theorem FF_4 {n p len j : Nat} {T : Nat → Int32} {M : vv_M} (hT : Tk T len) (hC : Cs p T len M) (hj : j ≤ len) : (¬ isd (ch T len j) → FF n p M len 4 j (nI j)) ∧ (isd (ch T len j) → (len ≤ numE T len j → FF n p M len 4 j (-1009)) ∧ (numE T len j < len → ch T len (numE T len j) ≠ 59 → FF n p M len 4 j (nI (numE T len j))) ∧ (numE T len j < len → ch T len (numE T len j) = 59 → ∀ v, FF n p M len 0 (numE T len j + 1) v → FF n p M len 4 j v)) := by
  refine ⟨fun hd => ?_, fun hd => ?_⟩
  · rcases Nat.lt_or_ge j len with h | h
    · exact FF_bad hT hC h (pa4 _ M) (if_neg hd)
    · have := FF_end (n := n) (x := 4) hT hC (show j = len by omega)
      rw [if_neg (by decide)] at this
      rw [show nI j = nI len by rw [show j = len by omega]]
      exact this
  have hlt := isd_lt hd
  have hE : numE T len j = if ch T len j ≠ 48 ∧ isd (ch T len (j + 1)) then j + 2 else j + 1 := if_pos hd
  by_cases h48 : ch T len j = 48
  · rw [hE.trans (if_neg (fun q => q.1 h48))]
    obtain ⟨q1, q2, q3⟩ := FF_6 (n := n) (j := j + 1) hT hC (by omega)
    have go : ∀ v, FF n p M len 6 (j + 1) v → FF n p M len 4 j v := fun v hv => FF_go hT hC hlt (pa4 _ M) (by rw [if_pos hd, if_pos h48]; decide) (by rw [if_pos hd, if_pos h48]; exact hv)
    exact ⟨fun h => go _ (q1 h), fun h h2 => go _ (q2 h h2), fun h h2 v hv => go _ (q3 h h2 v hv)⟩
  have go : ∀ v, FF n p M len 5 (j + 1) v → FF n p M len 4 j v := fun v hv => FF_go hT hC hlt (pa4 _ M) (by rw [if_pos hd, if_neg h48]; decide) (by rw [if_pos hd, if_neg h48]; exact hv)
  by_cases hd2 : isd (ch T len (j + 1))
  · have hlt2 := isd_lt hd2
    rw [hE.trans (if_pos ⟨h48, hd2⟩)]
    obtain ⟨q1, q2, q3⟩ := FF_6 (n := n) (j := j + 2) hT hC (by omega)
    have go2 : ∀ v, FF n p M len 6 (j + 2) v → FF n p M len 4 j v := fun v hv => go v (FF_go hT hC hlt2 (pa5 _ M) (by rw [if_pos hd2]; decide) (by rw [if_pos hd2]; exact hv))
    exact ⟨fun h => go2 _ (q1 h), fun h h2 => go2 _ (q2 h h2), fun h h2 v hv => go2 _ (q3 h h2 v hv)⟩
  · rw [hE.trans (if_neg (fun q => hd2 q.2))]
    refine ⟨fun h => go _ ?_, fun h h2 => go _ ?_, fun h h2 v hv => go _ ?_⟩
    · have := FF_end (n := n) (x := 5) hT hC (show j + 1 = len by omega)
      rw [if_pos (Or.inl rfl)] at this
      exact this
    · exact FF_bad hT hC h (pa5 _ M) (by rw [if_neg hd2, if_neg h2])
    · exact FF_go hT hC h (pa5 _ M) (by rw [if_neg hd2, if_pos h2]; decide) (by rw [if_neg hd2, if_pos h2]; exact hv)
/-- at a curve's number -/
theorem FF_1 {n p len j : Nat} {T : Nat → Int32} {M : vv_M} (hT : Tk T len) (hC : Cs p T len M) (hj : j ≤ len) : (¬ isd (ch T len j) → FF n p M len 1 j (nI j)) ∧ (isd (ch T len j) → (ch T len (numE T len j) ≠ 44 → FF n p M len 1 j (nI (numE T len j))) ∧ (ch T len (numE T len j) = 44 → ∀ v, FF n p M len 4 (numE T len j + 1) v → FF n p M len 1 j v)) := by
  have f3 : ∀ e, e ≤ len → (ch T len e ≠ 44 → FF n p M len 3 e (nI e)) ∧ (ch T len e = 44 → ∀ v, FF n p M len 4 (e + 1) v → FF n p M len 3 e v) := by
    intro e he
    refine ⟨fun h => ?_, fun h v hv => ?_⟩
    · rcases Nat.lt_or_ge e len with h1 | h1
      · exact FF_bad hT hC h1 (pa3 _ M) (if_neg h)
      · have := FF_end (n := n) (x := 3) hT hC (show e = len by omega)
        rw [if_neg (by decide)] at this
        rw [show nI e = nI len by rw [show e = len by omega]]
        exact this
    · have h1 : e < len := by
        rcases Nat.lt_or_ge e len with h1 | h1
        · exact h1
        · rw [ch_0 h1] at h
          exact absurd h (by decide)
      exact FF_go hT hC h1 (pa3 _ M) (by rw [if_pos h]; decide) (by rw [if_pos h]; exact hv)
  refine ⟨fun hd => ?_, fun hd => ?_⟩
  · rcases Nat.lt_or_ge j len with h | h
    · exact FF_bad hT hC h (pa1 _ M) (if_neg hd)
    · have := FF_end (n := n) (x := 1) hT hC (show j = len by omega)
      rw [if_neg (by decide)] at this
      rw [show nI j = nI len by rw [show j = len by omega]]
      exact this
  have hlt := isd_lt hd
  have hE : numE T len j = if ch T len j ≠ 48 ∧ isd (ch T len (j + 1)) then j + 2 else j + 1 := if_pos hd
  by_cases h48 : ch T len j = 48
  · rw [hE.trans (if_neg (fun q => q.1 h48))]
    obtain ⟨q1, q2⟩ := f3 (j + 1) (by omega)
    have go : ∀ v, FF n p M len 3 (j + 1) v → FF n p M len 1 j v := fun v hv => FF_go hT hC hlt (pa1 _ M) (by rw [if_pos hd, if_pos h48]; decide) (by rw [if_pos hd, if_pos h48]; exact hv)
    exact ⟨fun h => go _ (q1 h), fun h v hv => go _ (q2 h v hv)⟩
  have go : ∀ v, FF n p M len 2 (j + 1) v → FF n p M len 1 j v := fun v hv => FF_go hT hC hlt (pa1 _ M) (by rw [if_pos hd, if_neg h48]; decide) (by rw [if_pos hd, if_neg h48]; exact hv)
  by_cases hd2 : isd (ch T len (j + 1))
  · have hlt2 := isd_lt hd2
    rw [hE.trans (if_pos ⟨h48, hd2⟩)]
    obtain ⟨q1, q2⟩ := f3 (j + 2) (by omega)
    have go2 : ∀ v, FF n p M len 3 (j + 2) v → FF n p M len 1 j v := fun v hv => go v (FF_go hT hC hlt2 (pa2 _ M) (by rw [if_pos hd2]; decide) (by rw [if_pos hd2]; exact hv))
    exact ⟨fun h => go2 _ (q1 h), fun h v hv => go2 _ (q2 h v hv)⟩
  · rw [hE.trans (if_neg (fun q => hd2 q.2))]
    refine ⟨fun h => go _ ?_, fun h v hv => go _ ?_⟩
    · rcases Nat.lt_or_ge (j + 1) len with h1 | h1
      · exact FF_bad hT hC h1 (pa2 _ M) (by rw [if_neg hd2, if_neg h])
      · have := FF_end (n := n) (x := 2) hT hC (show j + 1 = len by omega)
        rw [if_neg (by decide)] at this
        rw [show nI (j + 1) = nI len by rw [show j + 1 = len by omega]]
        exact this
    · have h1 : j + 1 < len := by
        rcases Nat.lt_or_ge (j + 1) len with h1 | h1
        · exact h1
        · rw [ch_0 h1] at h
          exact absurd h (by decide)
      exact FF_go hT hC h1 (pa2 _ M) (by rw [if_neg hd2, if_pos h]; decide) (by rw [if_neg hd2, if_pos h]; exact hv)
/-- at an order -/
theorem FF_0 {n p len i : Nat} {T : Nat → Int32} {M : vv_M} (hT : Tk T len) (hC : Cs p T len M) (hi : i ≤ len) : (¬ ordOk T len i → FF n p M len 0 i (nI (ordE T len i))) ∧ (ordOk T len i → (len ≤ ordE T len i → FF n p M len 0 i (-1009)) ∧ (ordE T len i < len → ch T len (ordE T len i) ≠ 59 → FF n p M len 0 i (nI (ordE T len i))) ∧ (ordE T len i < len → ch T len (ordE T len i) = 59 → ∀ v, FF n p M len 0 (ordE T len i + 1) v → FF n p M len 0 i v)) := by
  by_cases hL : isL (ch T len i)
  rotate_left
  · have hE : ordE T len i = i := if_neg hL
    refine ⟨fun _ => ?_, fun ho => absurd ho.1 hL⟩
    rw [hE]
    rcases Nat.lt_or_ge i len with h | h
    · exact FF_bad hT hC h (pa0 _ M) (by rw [if_neg (fun q => hL (Or.inl q)), if_neg (fun q => hL (Or.inr (Or.inl q))), if_neg (fun q => hL (Or.inr (Or.inr (Or.inr q)))), if_neg (fun q => hL (Or.inr (Or.inr (Or.inl q))))])
    · have := FF_end (n := n) (x := 0) hT hC (show i = len by omega)
      rw [if_neg (by decide)] at this
      rw [show nI i = nI len by rw [show i = len by omega]]
      exact this
  have hlt := isL_lt hL
  by_cases h8 : ch T len i = 108
  · have go : ∀ v, FF n p M len 1 (i + 1) v → FF n p M len 0 i v := fun v hv => FF_go hT hC hlt (pa0 _ M) (by rw [if_pos h8]; decide) (by rw [if_pos h8]; exact hv)
    obtain ⟨q1, q2⟩ := FF_1 (n := n) (j := i + 1) hT hC (by omega)
    by_cases hd : isd (ch T len (i + 1))
    rotate_left
    · have hE : ordE T len i = i + 1 := by
        unfold ordE
        rw [if_pos hL, if_neg hd]
      refine ⟨fun _ => ?_, fun ho => absurd ho.2.1 hd⟩
      rw [hE]
      exact go _ (q1 hd)
    obtain ⟨q3, q4⟩ := q2 hd
    by_cases hcm : ch T len (numE T len (i + 1)) = 44
    rotate_left
    · have hE : ordE T len i = numE T len (i + 1) := by
        unfold ordE
        rw [if_pos hL, if_pos hd, if_pos h8, if_neg hcm]
      refine ⟨fun _ => ?_, fun ho => absurd (ho.2.2 h8).1 hcm⟩
      rw [hE]
      exact go _ (q3 hcm)
    have hE : ordE T len i = numE T len (numE T len (i + 1) + 1) := by
      unfold ordE
      rw [if_pos hL, if_pos hd, if_pos h8, if_pos hcm]
    have hlt2 : numE T len (i + 1) < len := by
      rcases Nat.lt_or_ge (numE T len (i + 1)) len with h1 | h1
      · exact h1
      · rw [ch_0 h1] at hcm
        exact absurd hcm (by decide)
    have go2 : ∀ v, FF n p M len 4 (numE T len (i + 1) + 1) v → FF n p M len 0 i v := fun v hv => go v (q4 hcm v hv)
    obtain ⟨w1, w2⟩ := FF_4 (n := n) (j := numE T len (i + 1) + 1) hT hC (by omega)
    rw [hE]
    refine ⟨fun ho => ?_, fun ho => ?_⟩
    · have hd2 : ¬ isd (ch T len (numE T len (i + 1) + 1)) := fun q => ho ⟨hL, hd, fun _ => ⟨hcm, q⟩⟩
      have e : numE T len (numE T len (i + 1) + 1) = numE T len (i + 1) + 1 := if_neg hd2
      rw [e]
      exact go2 _ (w1 hd2)
    · obtain ⟨z1, z2, z3⟩ := w2 (ho.2.2 h8).2
      exact ⟨fun h => go2 _ (z1 h), fun h h2 => go2 _ (z2 h h2), fun h h2 v hv => go2 _ (z3 h h2 v hv)⟩
  · have hp4 : (if ch T len i = 108 then (1 : Int32) else if ch T len i = 112 then 4 else if ch T len i = 115 then 4 else if ch T len i = 116 then 4 else -1) = 4 := by
      rw [if_neg h8]
      rcases hL with q | q | q | q
      · exact absurd q h8
      · rw [if_pos q]
      · rw [if_neg (by rw [q]; decide), if_neg (by rw [q]; decide), if_pos q]
      · rw [if_neg (by rw [q]; decide), if_pos q]
    have go : ∀ v, FF n p M len 4 (i + 1) v → FF n p M len 0 i v := fun v hv => FF_go hT hC hlt (pa0 _ M) (by rw [hp4]; decide) (by rw [hp4]; exact hv)
    obtain ⟨w1, w2⟩ := FF_4 (n := n) (j := i + 1) hT hC (by omega)
    by_cases hd : isd (ch T len (i + 1))
    · have hE : ordE T len i = numE T len (i + 1) := by
        unfold ordE
        rw [if_pos hL, if_pos hd, if_neg h8]
      rw [hE]
      refine ⟨fun ho => absurd ⟨hL, hd, fun q => absurd q h8⟩ ho, fun _ => ?_⟩
      obtain ⟨z1, z2, z3⟩ := w2 hd
      exact ⟨fun h => go _ (z1 h), fun h h2 => go _ (z2 h h2), fun h h2 v hv => go _ (z3 h h2 v hv)⟩
    · have hE : ordE T len i = i + 1 := by
        unfold ordE
        rw [if_pos hL, if_neg hd]
      rw [hE]
      exact ⟨fun _ => go _ (w1 hd), fun ho => absurd ho.2.1 hd⟩
