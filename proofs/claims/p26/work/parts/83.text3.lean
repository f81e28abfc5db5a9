/-! faults of a text: both readers agree -/
def Good (T : Nat → Int32) (len : Nat) : Nat → Nat → Prop
  | 0, _ => False
  | d + 1, i => ordOk T len i ∧ (len ≤ ordE T len i ∨ (ordE T len i < len ∧ ch T len (ordE T len i) = 59 ∧ Good T len d (ordE T len i + 1)))
theorem nI_ne9 {e : Nat} (h : e ≤ 1000) : nI e ≠ -1009 := fun q => by
  have : nI e < 0 := by rw [q]; decide
  exact absurd this (nI_pos (by omega))
/-! the class reads an order -/
def RO (n p : Nat) (M : vv_M) (len : Nat) (r : Nat → Int32) (j : Nat) (M' : vv_M) : Prop := ∀ k, len - j < k → f_X3_readOrder_41 n k p (va_up M p r) = some (1, M')
theorem RO_at {n p len j k : Nat} {T r : Nat → Int32} {M : vv_M} (hT : Tk T len) (hC : ∀ q, q < len → M (p + 1) q = T q) (h1 : r 1 = nI len) (h2 : r 2 = nI j) (hj : j < len) : f_X3_readOrder_41 n (k + 1) p (va_up M p r) = if T j = 59 then some (1, va_up M p (upd r 2 (nI (j + 1)))) else if T j = 44 then f_X3_readOrder_41 n k p (va_up M p (upd (upd (upd r 4 (r 5)) 5 0) 2 (nI (j + 1)))) else f_X3_readOrder_41 n k p (va_up M p (upd (upd r 5 (r 5 * 10 + T j - 48)) 2 (nI (j + 1)))) := by
  have hl := hT.1
  have h' : (nI len ≤ nI j) = False := eq_false (fun h => absurd ((nI_leI (by omega) (by omega)).mp h) (by omega))
  have e := hC j hj
  rw [f_X3_readOrder_41.eq_2]
  simp (disch := omega) only [up_s, h1, h2, h', ↓reduceIte, ix_n0, ix_cl, ix_nge, or_self, ↓ix_let, bx_uu, up_n, e, f_X3_readOrder_120, ud_ne, ud_s, ix_al]
theorem RO_dig {n p len j : Nat} {T r : Nat → Int32} {M M' : vv_M} (hT : Tk T len) (hC : ∀ q, q < len → M (p + 1) q = T q) (h1 : r 1 = nI len) (h2 : r 2 = nI j) (hd : isd (ch T len j)) (h : RO n p M len (upd (upd r 5 (r 5 * 10 + ch T len j - 48)) 2 (nI (j + 1))) (j + 1) M') : RO n p M len r j M' := by
  intro k hk
  have hj := isd_lt hd
  obtain ⟨k, rfl⟩ : ∃ q, k = q + 1 := ⟨k - 1, by omega⟩
  rw [ch_T hj] at hd h
  obtain ⟨c, c1, c2, hc⟩ := isd_n hd
  rw [RO_at hT hC h1 h2 hj, if_neg (fun q => by rw [hc] at q; have := (nI_eq (b := 59) (by omega) (by omega)).mp q; omega), if_neg (fun q => by rw [hc] at q; have := (nI_eq (b := 44) (by omega) (by omega)).mp q; omega)]
  exact h k (by omega)
theorem RO_num {n p len j : Nat} {T r : Nat → Int32} {M M' : vv_M} (hT : Tk T len) (hC : ∀ q, q < len → M (p + 1) q = T q) (h1 : r 1 = nI len) (h2 : r 2 = nI j) (h5 : r 5 = 0) (hd : isd (ch T len j)) (h : RO n p M len (upd (upd r 5 (numV T len j)) 2 (nI (numE T len j))) (numE T len j) M') : RO n p M len r j M' := by
  have hV : numV T len j = if ch T len j ≠ 48 ∧ isd (ch T len (j + 1)) then 10 * (ch T len j - 48) + ch T len (j + 1) - 48 else ch T len j - 48 := if_pos hd
  have hE : numE T len j = if ch T len j ≠ 48 ∧ isd (ch T len (j + 1)) then j + 2 else j + 1 := if_pos hd
  refine RO_dig hT hC h1 h2 hd ?_
  rw [h5]
  have e0 : (0 : Int32) * 10 + ch T len j - 48 = ch T len j - 48 := by grind
  rw [e0]
  by_cases h48 : ch T len j ≠ 48 ∧ isd (ch T len (j + 1))
  · rw [hV.trans (if_pos h48), hE.trans (if_pos h48)] at h
    refine RO_dig hT hC (by rw [ud_ne (by omega), ud_ne (by omega)]; exact h1) (by rw [ud_s]) h48.2 ?_
    have e1 : upd (upd (upd (upd r 5 (ch T len j - 48)) 2 (nI (j + 1))) 5 (upd (upd r 5 (ch T len j - 48)) 2 (nI (j + 1)) 5 * 10 + ch T len (j + 1) - 48)) 2 (nI (j + 1 + 1)) = upd (upd r 5 (10 * (ch T len j - 48) + ch T len (j + 1) - 48)) 2 (nI (j + 2)) := by
      rw [ud_ne (by omega), ud_s, ud_comm (by omega : (2 : Nat) ≠ 5), ud_ud, ud_ud, Int32.mul_comm]
    rw [e1]
    exact h
  · rw [hV.trans (if_neg h48), hE.trans (if_neg h48)] at h
    exact h
theorem RO_stop {n p len j : Nat} {T r : Nat → Int32} {M : vv_M} (hT : Tk T len) (hC : ∀ q, q < len → M (p + 1) q = T q) (h1 : r 1 = nI len) (h2 : r 2 = nI j) (hj : len ≤ j ∧ j ≤ 1000 ∨ (j < len ∧ ch T len j = 59)) : RO n p M len r j (va_up M p (upd r 2 (nI (j + 1)))) := by
  intro k hk
  have hl := hT.1
  obtain ⟨k, rfl⟩ : ∃ q, k = q + 1 := ⟨k - 1, by omega⟩
  rcases hj with ⟨hj, hj2⟩ | ⟨hj, h59⟩
  · have h' : (nI len ≤ nI j) = True := eq_true (nI_le hj (by omega))
    rw [f_X3_readOrder_41.eq_2]
    simp (disch := omega) only [up_s, h1, h2, h', ↓reduceIte, ↓ix_let, bx_uu, ix_al]
  · rw [ch_T hj] at h59
    rw [RO_at hT hC h1 h2 hj, if_pos h59]
theorem RO_comma {n p len j : Nat} {T r : Nat → Int32} {M M' : vv_M} (hT : Tk T len) (hC : ∀ q, q < len → M (p + 1) q = T q) (h1 : r 1 = nI len) (h2 : r 2 = nI j) (hj : j < len) (h44 : ch T len j = 44) (h : RO n p M len (upd (upd (upd r 4 (r 5)) 5 0) 2 (nI (j + 1))) (j + 1) M') : RO n p M len r j M' := by
  intro k hk
  obtain ⟨k, rfl⟩ : ∃ q, k = q + 1 := ⟨k - 1, by omega⟩
  rw [ch_T hj] at h44
  rw [RO_at hT hC h1 h2 hj, if_neg (by rw [h44]; decide), if_pos h44]
  exact h k (by omega)
