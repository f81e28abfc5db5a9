/-! the text: where it stands, and both readers of it -/
abbrev isd (x : Int32) : Prop := 48 ≤ x ∧ x ≤ 57
def ch (T : Nat → Int32) (len i : Nat) : Int32 := if i < len then T i else 0
def numE (T : Nat → Int32) (len i : Nat) : Nat := if isd (ch T len i) then (if ch T len i ≠ 48 ∧ isd (ch T len (i + 1)) then i + 2 else i + 1) else i
def numV (T : Nat → Int32) (len i : Nat) : Int32 := if isd (ch T len i) then (if ch T len i ≠ 48 ∧ isd (ch T len (i + 1)) then 10 * (ch T len i - 48) + ch T len (i + 1) - 48 else ch T len i - 48) else -1
abbrev isL (x : Int32) : Prop := x = 108 ∨ x = 112 ∨ x = 116 ∨ x = 115
abbrev ordOk (T : Nat → Int32) (len i : Nat) : Prop := isL (ch T len i) ∧ isd (ch T len (i + 1)) ∧ (ch T len i = 108 → ch T len (numE T len (i + 1)) = 44 ∧ isd (ch T len (numE T len (i + 1) + 1)))
def ordE (T : Nat → Int32) (len i : Nat) : Nat := if isL (ch T len i) then (if isd (ch T len (i + 1)) then (if ch T len i = 108 then (if ch T len (numE T len (i + 1)) = 44 then numE T len (numE T len (i + 1) + 1) else numE T len (i + 1)) else numE T len (i + 1)) else i + 1) else i
def Tk (T : Nat → Int32) (len : Nat) : Prop := len ≤ 100 ∧ ∀ k, k < len → ∃ c, 1 ≤ c ∧ c ≤ 255 ∧ T k = nI c
theorem ch_0 {T : Nat → Int32} {len i : Nat} (h : len ≤ i) : ch T len i = 0 := if_neg (by omega)
theorem ch_T {T : Nat → Int32} {len i : Nat} (h : i < len) : ch T len i = T i := if_pos h
theorem isd_lt {T : Nat → Int32} {len i : Nat} (h : isd (ch T len i)) : i < len := by
  rcases Nat.lt_or_ge i len with h1 | h1
  · exact h1
  · rw [ch_0 h1] at h
    exact absurd h (by decide)
theorem isL_lt {T : Nat → Int32} {len i : Nat} (h : isL (ch T len i)) : i < len := by
  rcases Nat.lt_or_ge i len with h1 | h1
  · exact h1
  · rw [ch_0 h1] at h
    exact absurd h (by decide)
theorem isd_n {x : Int32} (h : isd x) : ∃ c, 48 ≤ c ∧ c ≤ 57 ∧ x = nI c := by
  obtain ⟨c, h1, rfl⟩ := i_rng (m := 57) (by omega) (Int32.le_trans (by decide) h.1) h.2
  exact ⟨c, (nI_leI (a := 48) (by omega) (by omega)).mp h.1, h1, rfl⟩
theorem numE_ge (T : Nat → Int32) (len i : Nat) : i ≤ numE T len i := by
  unfold numE
  split
  · split <;> omega
  · omega
theorem numE_le {T : Nat → Int32} {len i : Nat} (h : i ≤ len) : numE T len i ≤ len := by
  unfold numE
  split
  · rename_i h1
    have := isd_lt h1
    split
    · rename_i h2
      have := isd_lt h2.2
      omega
    · omega
  · exact h
theorem numE_1 {T : Nat → Int32} {len i : Nat} (h : isd (ch T len i)) : i + 1 ≤ numE T len i := by
  unfold numE
  rw [if_pos h]
  split <;> omega
theorem numV_pos {T : Nat → Int32} {len i : Nat} (h : isd (ch T len i)) : ¬ numV T len i < 0 := by
  unfold numV
  rw [if_pos h]
  obtain ⟨c, c1, c2, hc⟩ := isd_n h
  rw [hc]
  have e : nI c - 48 = nI (c - 48) := pk_sub (b := 48) c1
  split
  · rename_i h2
    obtain ⟨d, d1, d2, hd⟩ := isd_n h2.2
    rw [hd, e]
    have e2 : 10 * nI (c - 48) + nI d - 48 = nI (10 * (c - 48) + d - 48) := by
      rw [ix_mr, nI_add]
      exact pk_sub (b := 48) (by show 48 ≤ 10 * (c - 48) + d; omega)
    rw [e2]
    exact nI_pos (by omega)
  · rw [e]
    exact nI_pos (by omega)
theorem numV_neg {T : Nat → Int32} {len i : Nat} (h : ¬ isd (ch T len i)) : numV T len i = -1 := if_neg h
theorem ordE_le {T : Nat → Int32} {len i : Nat} (h : i ≤ len) : i ≤ ordE T len i ∧ ordE T len i ≤ len := by
  unfold ordE
  by_cases h1 : isL (ch T len i)
  · rw [if_pos h1]
    have hi := isL_lt h1
    by_cases h2 : isd (ch T len (i + 1))
    · rw [if_pos h2]
      have g1 := numE_ge T len (i + 1)
      have g2 := numE_le (T := T) (show i + 1 ≤ len by omega)
      split
      · split
        · rename_i h4
          have : numE T len (i + 1) < len := by
            rcases Nat.lt_or_ge (numE T len (i + 1)) len with h5 | h5
            · exact h5
            · rw [ch_0 h5] at h4
              exact absurd h4 (by decide)
          have g3 := numE_ge T len (numE T len (i + 1) + 1)
          have g4 := numE_le (T := T) (show numE T len (i + 1) + 1 ≤ len by omega)
          omega
        · omega
      · omega
    · rw [if_neg h2]
      omega
  · rw [if_neg h1]
    omega
theorem ordE_ok {T : Nat → Int32} {len i : Nat} (h : ordOk T len i) : i + 2 ≤ ordE T len i := by
  obtain ⟨h1, h2, h3⟩ := h
  unfold ordE
  rw [if_pos h1, if_pos h2]
  have g1 := numE_1 h2
  split
  · rename_i h4
    rw [if_pos (h3 h4).1]
    have := numE_ge T len (numE T len (i + 1) + 1)
    omega
  · omega
/-! the reference's reader -/
def Rs (Q : Nat) (T : Nat → Int32) (len i : Nat) (M : vv_M) : Prop := M (Q + 2) = T ∧ M Q 3 = nI len ∧ M Q 4 = nI i
theorem r_code {n Q len i : Nat} {T : Nat → Int32} {M : vv_M} (hT : Tk T len) (h : Rs Q T len i M) (hi : i ≤ 1000) : f_X5_code n Q M = some (ch T len i, M) := by
  obtain ⟨h1, h2, h3⟩ := h
  have hl := hT.1
  unfold f_X5_code ch
  rw [h2, h3, h1]
  by_cases h : i < len
  · rw [if_neg (fun q => absurd ((nI_leI (by omega) (by omega)).mp q) (by omega)), if_neg (nI_in (by omega) (by omega)), if_pos h, ix_cl (by omega)]
  · rw [if_pos (nI_le (by omega) (by omega)), if_neg h]
theorem r_dig {n Q len i : Nat} {T : Nat → Int32} {M : vv_M} (hT : Tk T len) (h : Rs Q T len i M) (hi : i ≤ 1000) : f_X5_isDigit n Q M = some (zi (isd (ch T len i)), M) := by
  unfold f_X5_isDigit
  rw [bnd (r_code hT h hi)]
  simp only [r_in, ix_bs, zi_01, if_true]
theorem Rs_up {Q len i j : Nat} {T : Nat → Int32} {M : vv_M} {v : Int32} (h : Rs Q T len i M) (hv : v = nI j) : Rs Q T len j (va_up M Q (upd (M Q) 4 v)) := by
  obtain ⟨h1, h2, h3⟩ := h
  refine ⟨by rw [up_n (by omega)]; exact h1, by rw [up_s, ud_ne (by omega)]; exact h2, by rw [up_s, ud_s]; exact hv⟩
theorem r_number {n Q len i : Nat} {T : Nat → Int32} {M : vv_M} (hT : Tk T len) (h : Rs Q T len i M) (hi : i ≤ 900) : f_X5_number n Q M = some (numV T len i, va_up M Q (upd (M Q) 4 (nI (numE T len i)))) := by
  unfold f_X5_number
  rw [bnd (r_dig hT h (by omega))]
  have h4 : M Q 4 = nI i := h.2.2
  by_cases hd : isd (ch T len i)
  rotate_left
  · rw [zi_f hd]
    have e1 : numE T len i = i := if_neg hd
    rw [numV_neg hd, e1, ← h4, ud_id, up_id]
    rfl
  rw [zi_t hd]
  show (if (1 : Int32) = 0 then _ else _) = _
  rw [if_neg (by decide), bnd (r_code hT h (by omega)), ix_let, ix_let]
  dsimp only
  rw [h4]
  obtain ⟨c, c1, c2, hc⟩ := isd_n hd
  have e : ch T len i - 48 = nI (c - 48) := by rw [hc]; exact pk_sub (b := 48) c1
  have hup : nI i + 1 = nI (i + 1) := ix_al i 1
  have hS := Rs_up (v := nI i + 1) (j := i + 1) h hup
  have hV : numV T len i = if ch T len i ≠ 48 ∧ isd (ch T len (i + 1)) then 10 * (ch T len i - 48) + ch T len (i + 1) - 48 else ch T len i - 48 := if_pos hd
  have hE : numE T len i = if ch T len i ≠ 48 ∧ isd (ch T len (i + 1)) then i + 2 else i + 1 := if_pos hd
  by_cases h48 : ch T len i = 48
  · have hc48 : c = 48 := by
      rw [hc] at h48
      exact (nI_eq (b := 48) (by omega) (by omega)).mp h48
    have hV' := hV.trans (if_neg (fun q => q.1 h48))
    have hE' := hE.trans (if_neg (fun q => q.1 h48))
    rw [if_pos (show ch T len i - 48 ≤ 0 by rw [h48]; decide), hV', hE', ← hup]
  · have hc48 : c ≠ 48 := by
      intro q
      subst q
      exact h48 hc
    rw [if_neg (show ¬ ch T len i - 48 ≤ 0 by rw [e]; exact nI_nle (by omega) (by omega)), bnd (r_dig hT hS (by omega))]
    by_cases hd2 : isd (ch T len (i + 1))
    · have hV' := hV.trans (if_pos ⟨h48, hd2⟩)
      have hE' := hE.trans (if_pos ⟨h48, hd2⟩)
      rw [zi_t hd2, hV', hE']
      show (if (1 : Int32) = 0 then _ else _) = _
      rw [if_neg (by decide)]
      unfold f_X5_number_38
      rw [bnd (r_code hT hS (by omega)), ix_let, ix_let]
      dsimp only
      rw [up_s, ud_s, ud_ud, bx_uu]
      rw [hup, show nI (i + 1) + 1 = nI (i + 2) from ix_al (i + 1) 1]
    · have hV' := hV.trans (if_neg (fun q => hd2 q.2))
      have hE' := hE.trans (if_neg (fun q => hd2 q.2))
      rw [zi_f hd2, hV', hE', ← hup]
      rfl
def Rf (Q : Nat) (M M' : vv_M) : Prop := (∀ x, x ≠ Q → M' x = M x) ∧ M' Q 1 = M Q 1 ∧ M' Q 3 = M Q 3
theorem Rf.rf {Q : Nat} {M : vv_M} : Rf Q M M := ⟨fun _ _ => rfl, rfl, rfl⟩
theorem Rf.tr {Q : Nat} {M M' M'' : vv_M} (h1 : Rf Q M M') (h2 : Rf Q M' M'') : Rf Q M M'' := ⟨fun x hx => (h2.1 x hx).trans (h1.1 x hx), h2.2.1.trans h1.2.1, h2.2.2.trans h1.2.2⟩
theorem Rf.up {Q k : Nat} {M : vv_M} {v : Int32} (hk : 4 ≤ k) : Rf Q M (va_up M Q (upd (M Q) k v)) := ⟨fun x hx => up_n hx, by rw [up_s, ud_ne (by omega)], by rw [up_s, ud_ne (by omega)]⟩
theorem Rs.fr {Q len i j : Nat} {T : Nat → Int32} {M M' : vv_M} (h : Rs Q T len i M) (hf : Rf Q M M') (h4 : M' Q 4 = nI j) : Rs Q T len j M' := ⟨by rw [hf.1 _ (by omega)]; exact h.1, by rw [hf.2.2]; exact h.2.1, h4⟩
theorem r_readsOrder {n Q len i : Nat} {T : Nat → Int32} {M : vv_M} (hT : Tk T len) (h : Rs Q T len i M) (hi : i ≤ len) : ∃ M', f_X5_readsOrder n Q M = some (zi (ordOk T len i), M') ∧ Rf Q M M' ∧ M' Q 4 = nI (ordE T len i) ∧ (ordOk T len i → M' Q 5 = ch T len i ∧ M' Q 6 = numV T len (i + 1) ∧ (ch T len i = 108 → M' Q 7 = numV T len (numE T len (i + 1) + 1))) := by
  have hl := hT.1
  unfold f_X5_readsOrder
  rw [bnd (r_code hT h (by omega)), ix_let, up_s, ud_s]
  have hf1 : Rf Q M (va_up M Q (upd (M Q) 5 (ch T len i))) := Rf.up (by omega)
  have h1 : Rs Q T len i (va_up M Q (upd (M Q) 5 (ch T len i))) := h.fr hf1 (by rw [up_s, ud_ne (by omega)]; exact h.2.2)
  have e5 : va_up M Q (upd (M Q) 5 (ch T len i)) Q 5 = ch T len i := by rw [up_s, ud_s]
  generalize hM1 : va_up M Q (upd (M Q) 5 (ch T len i)) = M1 at hf1 h1 e5
  by_cases hL : isL (ch T len i)
  rotate_left
  · refine ⟨M1, ?_, hf1, ?_, fun ho => absurd ho.1 hL⟩
    · rw [zi_f (fun ho : ordOk T len i => hL ho.1), if_neg (fun q => hL (Or.inl q)), if_neg (fun q => hL (Or.inr (Or.inl q))), if_neg (fun q => hL (Or.inr (Or.inr (Or.inl q)))), if_neg (fun q => hL (Or.inr (Or.inr (Or.inr q))))]
    · rw [h1.2.2]
      unfold ordE
      rw [if_neg hL]
  have hilt := isL_lt hL
  have e46 : (if ch T len i = 108 then f_X5_readsOrder_46 n Q M1 else if ch T len i = 112 then f_X5_readsOrder_46 n Q M1 else if ch T len i = 116 then f_X5_readsOrder_46 n Q M1 else if ch T len i = 115 then f_X5_readsOrder_46 n Q M1 else some ((0 : Int32), M1)) = f_X5_readsOrder_46 n Q M1 := by
    rcases hL with q | q | q | q
    · rw [if_pos q]
    · rw [if_neg (by rw [q]; decide), if_pos q]
    · rw [if_neg (by rw [q]; decide), if_neg (by rw [q]; decide), if_pos q]
    · rw [if_neg (by rw [q]; decide), if_neg (by rw [q]; decide), if_neg (by rw [q]; decide), if_pos q]
  rw [e46]
  unfold f_X5_readsOrder_46
  rw [ix_let, h1.2.2, ix_al i 1]
  have h2 : Rs Q T len (i + 1) (va_up M1 Q (upd (M1 Q) 4 (nI (i + 1)))) := Rs_up h1 rfl
  have hf2 : Rf Q M1 (va_up M1 Q (upd (M1 Q) 4 (nI (i + 1)))) := Rf.up (by omega)
  have hnum := r_number (n := n) hT h2 (by omega)
  rw [up_s, ud_ud, bx_uu] at hnum
  show ∃ M', ((f_X5_number n Q (va_up M1 Q (upd (M1 Q) 4 (nI (i + 1))))).bind _ = _) ∧ _
  rw [bnd hnum, ix_let]
  simp (disch := omega) only [up_s, ud_s, ud_ne, e5]
  have hf3 : Rf Q M1 (va_up (va_up M1 Q (upd (M1 Q) 4 (nI (numE T len (i + 1))))) Q (upd (upd (M1 Q) 4 (nI (numE T len (i + 1)))) 6 (numV T len (i + 1)))) := by
    rw [bx_uu]
    exact ⟨fun x hx => up_n hx, by rw [up_s, ud_ne (by omega), ud_ne (by omega)], by rw [up_s, ud_ne (by omega), ud_ne (by omega)]⟩
  have g4 : (va_up (va_up M1 Q (upd (M1 Q) 4 (nI (numE T len (i + 1))))) Q (upd (upd (M1 Q) 4 (nI (numE T len (i + 1)))) 6 (numV T len (i + 1)))) Q 4 = nI (numE T len (i + 1)) := by rw [up_s, ud_ne (by omega), ud_s]
  have g5 : (va_up (va_up M1 Q (upd (M1 Q) 4 (nI (numE T len (i + 1))))) Q (upd (upd (M1 Q) 4 (nI (numE T len (i + 1)))) 6 (numV T len (i + 1)))) Q 5 = ch T len i := by rw [up_s, ud_ne (by omega), ud_ne (by omega)]; exact e5
  have g6 : (va_up (va_up M1 Q (upd (M1 Q) 4 (nI (numE T len (i + 1))))) Q (upd (upd (M1 Q) 4 (nI (numE T len (i + 1)))) 6 (numV T len (i + 1)))) Q 6 = numV T len (i + 1) := by rw [up_s, ud_s]
  generalize hM3 : va_up (va_up M1 Q (upd (M1 Q) 4 (nI (numE T len (i + 1))))) Q (upd (upd (M1 Q) 4 (nI (numE T len (i + 1)))) 6 (numV T len (i + 1))) = M3 at hf3 g4 g5 g6 ⊢
  have hf := hf1.tr hf3
  have h3 : Rs Q T len (numE T len (i + 1)) M3 := h1.fr hf3 g4
  have gE1 := numE_le (T := T) (show i + 1 ≤ len by omega)
  by_cases hd : isd (ch T len (i + 1))
  rotate_left
  · refine ⟨M3, ?_, hf, ?_, fun ho => absurd ho.2.1 hd⟩
    · rw [zi_f (fun ho : ordOk T len i => hd ho.2.1), numV_neg hd, if_pos (by decide)]
      unfold f_X5_readsOrder_80
      rw [g6, numV_neg hd, if_pos (by decide)]
    · rw [g4]
      unfold ordE
      rw [if_pos hL, if_neg hd]
      have : numE T len (i + 1) = i + 1 := if_neg hd
      rw [this]
  rw [if_neg (numV_pos hd)]
  by_cases hl8 : ch T len i = 108
  rotate_left
  · have hok : ordOk T len i := ⟨hL, hd, fun q => absurd q hl8⟩
    refine ⟨M3, ?_, hf, ?_, fun _ => ⟨g5, g6, fun q => absurd q hl8⟩⟩
    · rw [if_neg hl8, zi_t hok]
      unfold f_X5_readsOrder_80
      rw [g6, if_neg (numV_pos hd)]
    · rw [g4]
      unfold ordE
      rw [if_pos hL, if_pos hd, if_neg hl8]
  rw [if_pos hl8, bnd (r_code hT h3 (by omega))]
  by_cases hcm : ch T len (numE T len (i + 1)) = 44
  rotate_left
  · refine ⟨M3, ?_, hf, ?_, fun ho => absurd (ho.2.2 hl8).1 hcm⟩
    · rw [zi_f (fun ho : ordOk T len i => hcm (ho.2.2 hl8).1)]
      show (if ch T len (numE T len (i + 1)) = 44 then _ else some ((0 : Int32), M3)) = _
      rw [if_neg hcm]
    · rw [g4]
      unfold ordE
      rw [if_pos hL, if_pos hd, if_pos hl8, if_neg hcm]
  show ∃ M', ((if ch T len (numE T len (i + 1)) = 44 then _ else some ((0 : Int32), M3)) = _) ∧ _
  rw [if_pos hcm, ix_let]
  dsimp only
  rw [g4, ix_al (numE T len (i + 1)) 1]
  have h4 : Rs Q T len (numE T len (i + 1) + 1) (va_up M3 Q (upd (M3 Q) 4 (nI (numE T len (i + 1) + 1)))) := Rs_up h3 rfl
  have hnum2 := r_number (n := n) hT h4 (by omega)
  rw [up_s, ud_ud, bx_uu] at hnum2
  unfold f_X5_readsOrder_114
  show ∃ M', ((f_X5_number n Q (va_up M3 Q (upd (M3 Q) 4 (nI (numE T len (i + 1) + 1))))).bind _ = _) ∧ _
  rw [bnd hnum2, ix_let]
  simp (disch := omega) only [up_s, ud_s]
  have hok : ordOk T len i ↔ isd (ch T len (numE T len (i + 1) + 1)) := ⟨fun ho => (ho.2.2 hl8).2, fun q => ⟨hL, hd, fun _ => ⟨hcm, q⟩⟩⟩
  have hE : ordE T len i = numE T len (numE T len (i + 1) + 1) := by
    unfold ordE
    rw [if_pos hL, if_pos hd, if_pos hl8, if_pos hcm]
  refine ⟨va_up M3 Q (upd (upd (M3 Q) 4 (nI (numE T len (numE T len (i + 1) + 1)))) 7 (numV T len (numE T len (i + 1) + 1))), ?_, hf.tr ⟨fun x hx => up_n hx, by rw [up_s, ud_ne (by omega), ud_ne (by omega)], by rw [up_s, ud_ne (by omega), ud_ne (by omega)]⟩, ?_, fun _ => ⟨?_, ?_, fun _ => ?_⟩⟩
  · rw [zi_if hok, bx_uu]
    by_cases hd2 : isd (ch T len (numE T len (i + 1) + 1))
    · rw [zi_t hd2, if_neg (numV_pos hd2)]
    · rw [zi_f hd2, numV_neg hd2, if_pos (by decide)]
  · rw [up_s, ud_ne (by omega), ud_s, hE]
  · rw [up_s, ud_ne (by omega), ud_ne (by omega)]; exact g5
  · rw [up_s, ud_ne (by omega), ud_ne (by omega)]; exact g6
  · rw [up_s, ud_s]
