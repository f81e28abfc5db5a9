/-! the text: where it stands, and both readers of it -/
abbrev isd (x : Int32) : Prop := 48 ≤ x ∧ x ≤ 57
def ch (T : Nat → Int32) (len i : Nat) : Int32 := if i < len then T i else 0
def numE (T : Nat → Int32) (len i : Nat) : Nat := if isd (ch T len i) then (if ch T len i ≠ 48 ∧ isd (ch T len (i + 1)) then i + 2 else i + 1) else i
def numV (T : Nat → Int32) (len i : Nat) : Int32 := if isd (ch T len i) then (if ch T len i ≠ 48 ∧ isd (ch T len (i + 1)) then 10 * (ch T len i - 48) + ch T len (i + 1) - 48 else ch T len i - 48) else -1
abbrev isL (x : Int32) : Prop := x = 108 ∨ x = 112 ∨ x = 116 ∨ x = 115
abbrev ordOk (T : Nat → Int32) (len i : Nat) : Prop := isL (ch T len i) ∧ isd (ch T len (i + 1)) ∧ (ch T len i = 108 → ch T len (numE T len (i + 1)) = 44 ∧ isd (ch T len (numE T len (i + 1) + 1)))
def ordE (T : Nat → Int32) (len i : Nat) : Nat := if isL (ch T len i) then (if isd (ch T len (i + 1)) then (if ch T len i = 108 then (if ch T len (numE T len (i + 1)) = 44 then numE T len (numE T len (i + 1) + 1) else numE T len (i + 1)) else numE T len (i + 1)) else i + 1) else i
def Tk (T : Nat → Int32) (len : Nat) : Prop := len ≤ 100 ∧ ∀ k, k < len → ∃ c, 1 ≤ c ∧ c ≤ 255 ∧ T k = nI c
theorem ch_0 {T : Nat → Int32} {len i : Nat} (h : len ≤ i) : ch T len i = 0 := if_neg (by omega)
theorem ch_T {T : Nat → Int32} {len i : Nat} (h : i < len) : ch T len i = T i := if_pos h
theorem isd_lt {T : Nat → Int32} {len i : Nat} (h : isd (ch T len i)) : i < len := by
  rcases Nat.lt_or_ge i len with h1 | h1
  · exact h1
  · rw [ch_0 h1] at h
    exact absurd h (by decide)
theorem isL_lt {T : Nat → Int32} {len i : Nat} (h : isL (ch T len i)) : i < len := by
  rcases Nat.lt_or_ge i len with h1 | h1
  · exact h1
  · rw [ch_0 h1] at h
    exact absurd h (by decide)
theorem isd_n {x : Int32} (h : isd x) : ∃ c, 48 ≤ c ∧ c ≤ 57 ∧ x = nI c := by
  obtain ⟨c, h1, rfl⟩ := i_rng (m := 57) (by omega) (Int32.le_trans (by decide) h.1) h.2
  exact ⟨c, (nI_leI (a := 48) (by omega) (by omega)).mp h.1, h1, rfl⟩
theorem numE_ge (T : Nat → Int32) (len i : Nat) : i ≤ numE T len i := by
  unfold numE
  split
  · split <;> omega
  · omega
theorem numE_le {T : Nat → Int32} {len i : Nat} (h : i ≤ len) : numE T len i ≤ len := by
  unfold numE
  split
  · rename_i h1
    have := isd_lt h1
    split
    · rename_i h2
      have := isd_lt h2.2
      omega
    · omega
  · exact h
theorem numE_1 {T : Nat → Int32} {len i : Nat} (h : isd (ch T len i)) : i + 1 ≤ numE T len i := by
  unfold numE
  rw [if_pos h]
  split <;> omega
theorem numV_pos {T : Nat → Int32} {len i : Nat} (h : isd (ch T len i)) : ¬ numV T len i < 0 := by
  unfold numV
  rw [if_pos h]
  obtain ⟨c, c1, c2, hc⟩ := isd_n h
  rw [hc]
  have e : nI c - 48 = nI (c - 48) := pk_sub (b := 48) c1
  split
  · rename_i h2
    obtain ⟨d, d1, d2, hd⟩ := isd_n h2.2
    rw [hd, e]
    have e2 : 10 * nI (c - 48) + nI d - 48 = nI (10 * (c - 48) + d - 48) := by
      rw [ix_mr, nI_add]
      exact pk_sub (b := 48) (by show 48 ≤ 10 * (c - 48) + d; omega)
    rw [e2]
    exact nI_pos (by omega)
  · rw [e]
    exact nI_pos (by omega)
theorem numV_neg {T : Nat → Int32} {len i : Nat} (h : ¬ isd (ch T len i)) : numV T len i = -1 := if_neg h
theorem ordE_le {T : Nat → Int32} {len i : Nat} (h : i ≤ len) : i ≤ ordE T len i ∧ ordE T len i ≤ len := by
  unfold ordE
  by_cases h1 : isL (ch T len i)
  · rw [if_pos h1]
    have hi := isL_lt h1
    by_cases h2 : isd (ch T len (i + 1))
    · rw [if_pos h2]
      have g1 := numE_ge T len (i + 1)
      have g2 := numE_le (T := T) (show i + 1 ≤ len by omega)
      split
      · split
        · rename_i h4
          have : numE T len (i + 1) < len := by
            rcases Nat.lt_or_ge (numE T len (i + 1)) len with h5 | h5
            · exact h5
            · rw [ch_0 h5] at h4
              exact absurd h4 (by decide)
          have g3 := numE_ge T len (numE T len (i + 1) + 1)
          have g4 := numE_le (T := T) (show numE T len (i + 1) + 1 ≤ len by omega)
          omega
        · omega
      · omega
    · rw [if_neg h2]
      omega
  · rw [if_neg h1]
    omega
theorem ordE_ok {T : Nat → Int32} {len i : Nat} (h : ordOk T len i) : i + 2 ≤ ordE T len i := by
  obtain ⟨h1, h2, h3⟩ := h
  unfold ordE
  rw [if_pos h1, if_pos h2]
  have g1 := numE_1 h2
  split
  · rename_i h4
    rw [if_pos (h3 h4).1]
    have := numE_ge T len (numE T len (i + 1) + 1)
    omega
  · omega
/-! the reference's reader -/
def Rs (Q : Nat) (T : Nat → Int32) (len i : Nat) (M : vv_M) : Prop := M (Q + 2) = T ∧ M Q 3 = nI len ∧ M Q 4 = nI i
theorem Rs_up {Q len i j : Nat} {T : Nat → Int32} {M : vv_M} {v : Int32} (h : Rs Q T len i M) (hv : v = nI j) : Rs Q T len j (va_up M Q (upd (M Q) 4 v)) := by
  obtain ⟨h1, h2, h3⟩ := h
  refine ⟨by rw [up_n (by omega)]; exact h1, by rw [up_s, ud_ne (by omega)]; exact h2, by rw [up_s, ud_s]; exact hv⟩
def Rf (Q : Nat) (M M' : vv_M) : Prop := (∀ x, x ≠ Q → M' x = M x) ∧ M' Q 1 = M Q 1 ∧ M' Q 3 = M Q 3
theorem Rf.rf {Q : Nat} {M : vv_M} : Rf Q M M := ⟨fun _ _ => rfl, rfl, rfl⟩
theorem Rf.tr {Q : Nat} {M M' M'' : vv_M} (h1 : Rf Q M M') (h2 : Rf Q M' M'') : Rf Q M M'' := ⟨fun x hx => (h2.1 x hx).trans (h1.1 x hx), h2.2.1.trans h1.2.1, h2.2.2.trans h1.2.2⟩
theorem Rf.up {Q k : Nat} {M : vv_M} {v : Int32} (hk : 4 ≤ k) : Rf Q M (va_up M Q (upd (M Q) k v)) := ⟨fun x hx => up_n hx, by rw [up_s, ud_ne (by omega)], by rw [up_s, ud_ne (by omega)]⟩
theorem Rs.fr {Q len i j : Nat} {T : Nat → Int32} {M M' : vv_M} (h : Rs Q T len i M) (hf : Rf Q M M') (h4 : M' Q 4 = nI j) : Rs Q T len j M' := ⟨by rw [hf.1 _ (by omega)]; exact h.1, by rw [hf.2.2]; exact h.2.1, h4⟩
