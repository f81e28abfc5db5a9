
theorem ix_ll (a k : Nat) : (no_index (OfNat.ofNat a) : Int32) + nI k = nI (OfNat.ofNat a + k) := ix_ar k a
theorem ud_ne {f : Nat → Int32} {k j : Nat} {v : Int32} (h : j ≠ k) : upd f k v j = f j := if_neg h
theorem r_ofn (n b j : Nat) (M : vv_M) : f_X5_of n (nI b) (nI j) M = some (nI (56 + 21 * b + j), M) := by
  unfold f_X5_of
  rw [ix_mr, ix_ar, nI_add]
abbrev gbit (x : Int32) (k : Nat) : Prop := ¬ (((x >>> (nI k &&& 31)) &&& 1) = 0)
def pit {α : Type} (F : Nat → α → α) : Nat → α → α
  | 0, a => a
  | b + 1, a => F b (pit F b a)
/-! the pure picture: g is the reference's row, its first 707 places are the oven -/
def gBelt (g : Nat → Int32) : Int32 := (((((0 + g (0 + 4 * 0 + 0)) + g (0 + 4 * 1 + 0)) + g (0 + 4 * 2 + 0)) + g (0 + 4 * 3 + 0)) + g (0 + 4 * 4 + 0)) + g (0 + 4 * 5 + 0)
def gMany (g : Nat → Int32) (s : Int32) (l : Nat) : Int32 := pit (fun b a => a + if g (56 + 21 * b + 2) = s then 1 else 0) l 0
def gFault (g : Nat → Int32) (x : Int32) (b k : Nat) (c : Int32) : Nat → Int32 := if x = 0 then g else if gbit (g (56 + 21 * b + 8)) k then g else upd (upd (upd g (56 + 21 * b + 8) (g (56 + 21 * b + 8) ||| ((1 : Int32) <<< (nI k &&& 31)))) (56 + 21 * b + (11 + k)) c) (56 + 21 * b + (16 + k)) (g 52)
theorem r_belt {n p : Nat} (hn : 7 ≤ n) (M : vv_M) : f_X5_belt n p M = some (gBelt (M (p + 1)), M) := by
  have st : ∀ (k z : Nat) (x : Int32), z < 6 → f_X5_belt_4 n (k + 1) p x (nI z) M = f_X5_belt_4 n k p (x + M (p + 1) (0 + 4 * z + 0)) (nI (z + 1)) M := by
    intro k z x hz
    rw [f_X5_belt_4.eq_2]
    simp (disch := omega) only [ix_al, ix_ar, ix_ml, ix_mr, ix_cl, ix_cll, ix_n0, ix_l0, ix_nge, or_self, if_false, if_true, ix_let, ix_bs, up_s, bx_uu, r_ofZ, ix_lel]
  obtain ⟨m, rfl⟩ : ∃ m, n = m + 7 := ⟨n - 7, by omega⟩
  unfold f_X5_belt
  show f_X5_belt_4 (m + 7) (m + 6 + 1) p 0 (nI 0) M = _
  rw [st _ 0 _ (by omega), st _ 1 _ (by omega), st _ 2 _ (by omega), st _ 3 _ (by omega), st _ 4 _ (by omega), st _ 5 _ (by omega), f_X5_belt_4.eq_2]
  rfl
theorem r_many {n p l : Nat} (s : Int32) (M : vv_M) (hl : M (p + 1) 53 = nI l) (h31 : l ≤ 31) (hn : 40 ≤ n) : f_X5_many n p s M = some (gMany (M (p + 1)) s l, M) := by
  have st : ∀ (j b k : Nat) (x : Int32), b + j = l → j < k → x = gMany (M (p + 1)) s b → f_X5_many_4 n k p s x (nI b) M = some (gMany (M (p + 1)) s l, M) := by
    intro j
    induction j with
    | zero =>
      intro b k x hb hk hx
      obtain ⟨k, rfl⟩ : ∃ q, k = q + 1 := ⟨k - 1, by omega⟩
      obtain rfl : b = l := by omega
      rw [f_X5_many_4.eq_2]
      simp (disch := omega) only [ix_al, ix_ar, ix_ml, ix_mr, ix_cl, ix_cll, ix_n0, ix_l0, ix_nge, or_self, if_false, if_true, ix_let, ix_bs, up_s, bx_uu, hl, ix_le, Nat.le_refl, hx]
    | succ j ih =>
      intro b k x hb hk hx
      obtain ⟨k, rfl⟩ : ∃ q, k = q + 1 := ⟨k - 1, by omega⟩
      rw [f_X5_many_4.eq_2]
      simp (disch := omega) only [ix_al, ix_ar, ix_ml, ix_mr, ix_cl, ix_cll, ix_n0, ix_l0, ix_nge, or_self, if_false, if_true, ix_let, ix_bs, up_s, bx_uu, hl, ix_le, r_of, f_X5_many_35]
      by_cases h : M (p + 1) (56 + 21 * b + 2) = s
      · rw [if_pos h]
        exact ih (b + 1) k _ (by omega) (by omega) (by show _ = gMany _ _ b + if M (p + 1) (56 + 21 * b + 2) = s then 1 else 0; rw [if_pos h, hx])
      · rw [if_neg h]
        exact ih (b + 1) k _ (by omega) (by omega) (by show _ = gMany _ _ b + if M (p + 1) (56 + 21 * b + 2) = s then 1 else 0; rw [if_neg h, hx])
  exact st l 0 n 0 (by omega) (by omega) rfl
theorem r_faultn {n p b k : Nat} (x c : Int32) (M : vv_M) (hb : b ≤ 31) (hk : k < 5) : f_X5_faultIf n p x (nI b) (nI k) c M = some ((), va_up M (p + 1) (gFault (M (p + 1)) x b k c)) := by
  unfold f_X5_faultIf gFault
  by_cases hx : x = 0
  · rw [if_pos hx, if_pos hx, up_id]
  · rw [if_neg hx, if_neg hx]
    simp (disch := omega) only [ix_al, ix_ar, ix_ml, ix_mr, ix_cl, ix_cll, ix_n0, ix_l0, ix_nge, or_self, if_false, if_true, ix_let, ix_bs, up_s, bx_uu, r_of, r_ofn, ix_ll, ud_ne, f_X5_faultIf_54]
    by_cases h : ((M (p + 1) (56 + 21 * b + 8)) >>> (nI k &&& 31)) &&& 1 = 0
    · rw [if_pos h, if_neg (not_not_intro h)]
    · rw [if_neg h, if_pos h, up_id]
theorem r_fault {n p b k : Nat} (x c : Int32) (M : vv_M) (hb : b ≤ 31) (hk : OfNat.ofNat k < 5) : f_X5_faultIf n p x (nI b) (no_index (OfNat.ofNat k)) c M = some ((), va_up M (p + 1) (gFault (M (p + 1)) x b (OfNat.ofNat k) c)) := r_faultn x c M hb hk
theorem r_curveOf {n p b k c : Nat} (M : vv_M) (hb : b ≤ 31) (hk : OfNat.ofNat k < 6) (hc : M (p + 1) (56 + 21 * b + 0) = nI c) (h4 : c < 4) : f_X5_curveOf n p (nI b) (no_index (OfNat.ofNat k)) M = some (M (p + 1) (24 + 6 * c + OfNat.ofNat k), M) := by
  unfold f_X5_curveOf
  simp (disch := omega) only [ix_al, ix_ar, ix_ml, ix_mr, ix_cl, ix_cll, ix_n0, ix_l0, ix_nge, or_self, if_false, if_true, ix_let, ix_bs, up_s, bx_uu, r_of, r_ofC, hc]
