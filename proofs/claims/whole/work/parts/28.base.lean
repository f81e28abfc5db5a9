/-! numbers: indices as naturals -/
theorem ix_al (a k : Nat) : nI a + (no_index (OfNat.ofNat k) : Int32) = nI (a + OfNat.ofNat k) := nI_add a k
theorem ix_ar (a k : Nat) : (no_index (OfNat.ofNat k) : Int32) + nI a = nI (OfNat.ofNat k + a) := nI_add k a
theorem ix_ml (a k : Nat) : nI a * (no_index (OfNat.ofNat k) : Int32) = nI (a * OfNat.ofNat k) := pk_mul a k
theorem ix_mr (a k : Nat) : (no_index (OfNat.ofNat k) : Int32) * nI a = nI (OfNat.ofNat k * a) := pk_mul k a
theorem ix_sl {a k : Nat} (h : OfNat.ofNat k ≤ a) : nI a - (no_index (OfNat.ofNat k) : Int32) = nI (a - OfNat.ofNat k) := pk_sub h
theorem ix_gd {m N : Nat} (h : m < N) (hN : N < 2147483648) : (nI m < 0 ∨ N ≤ (nI m).toNatClampNeg) = False := eq_false (nI_in h (by omega))
theorem ix_cl {m : Nat} (h : m < 2147483648) : (nI m).toNatClampNeg = m := nI_clamp (by omega)
theorem ix_lk (k : Nat) : (no_index (OfNat.ofNat k) : Int32) = nI (OfNat.ofNat k) := rfl
theorem ix_n0 {m : Nat} (h : m < 2147483648) : (nI m < 0) = False := eq_false (nI_pos (by omega))
theorem ix_lt {a b : Nat} (ha : a < 2147483648) (hb : b < 2147483648) : (nI a < nI b) = (a < b) := propext (nI_ltI (by omega) (by omega))
theorem ix_le {a b : Nat} (ha : a < 2147483648) (hb : b < 2147483648) : (nI a ≤ nI b) = (a ≤ b) := propext (nI_leI (by omega) (by omega))
theorem ix_eq {a b : Nat} (ha : a < 2147483648) (hb : b < 2147483648) : (nI a = nI b) = (a = b) := propext (nI_eq (by omega) (by omega))
theorem ix_ltl {k b : Nat} (ha : OfNat.ofNat k < 2147483648) (hb : b < 2147483648) : ((no_index (OfNat.ofNat k) : Int32) < nI b) = (OfNat.ofNat k < b) := ix_lt ha hb
theorem ix_ltr {a k : Nat} (ha : a < 2147483648) (hb : OfNat.ofNat k < 2147483648) : (nI a < (no_index (OfNat.ofNat k) : Int32)) = (a < OfNat.ofNat k) := ix_lt ha hb
theorem ix_lel {k b : Nat} (ha : OfNat.ofNat k < 2147483648) (hb : b < 2147483648) : ((no_index (OfNat.ofNat k) : Int32) ≤ nI b) = (OfNat.ofNat k ≤ b) := ix_le ha hb
theorem ix_ler {a k : Nat} (ha : a < 2147483648) (hb : OfNat.ofNat k < 2147483648) : (nI a ≤ (no_index (OfNat.ofNat k) : Int32)) = (a ≤ OfNat.ofNat k) := ix_le ha hb
theorem ix_eql {k b : Nat} (ha : OfNat.ofNat k < 2147483648) (hb : b < 2147483648) : ((no_index (OfNat.ofNat k) : Int32) = nI b) = (OfNat.ofNat k = b) := ix_eq ha hb
theorem ix_eqr {a k : Nat} (ha : a < 2147483648) (hb : OfNat.ofNat k < 2147483648) : (nI a = (no_index (OfNat.ofNat k) : Int32)) = (a = OfNat.ofNat k) := ix_eq ha hb
theorem ix_gdl {k N : Nat} (h : OfNat.ofNat k < N) (hN : N < 2147483648) : ((no_index (OfNat.ofNat k) : Int32) < 0 ∨ N ≤ (no_index (OfNat.ofNat k) : Int32).toNatClampNeg) = False := ix_gd h hN
theorem ix_cll {k : Nat} (h : OfNat.ofNat k < 2147483648) : (no_index (OfNat.ofNat k) : Int32).toNatClampNeg = OfNat.ofNat k := ix_cl h
theorem ix_let {α β : Type} (a : α) (f : α → β) : vv_let a f = f a := rfl
theorem ix_bs {α β : Type} (a : α) (f : α → Option β) : (some a).bind f = f a := rfl
/-! rows -/
theorem up_s {α : Type} (f : Nat → α) (k : Nat) (v : α) : va_up f k v k = v := if_pos rfl
theorem up_n {α : Type} {f : Nat → α} {k j : Nat} {v : α} (h : j ≠ k) : va_up f k v j = f j := if_neg h
theorem ud_s (f : Nat → Int32) (k : Nat) (v : Int32) : upd f k v k = v := if_pos rfl
theorem ud_n {f : Nat → Int32} {k j : Nat} {v : Int32} (h : j ≠ k) : upd f k v j = f j := if_neg h
theorem up_id {α : Type} (f : Nat → α) (k : Nat) : va_up f k (f k) = f := by
  funext j
  unfold va_up
  by_cases h : j = k
  · rw [if_pos h, h]
  · rw [if_neg h]
theorem zz_test {n k p i : Nat} {M : vv_M} (hi : i < 6) : f_X2_init_46 n (k + 1) p (nI i) M = f_X2_init_46 n k p (nI (i + 1)) (va_up M (p + 1) (upd (upd (upd (upd (M (p + 1)) (i * 4) 4) (i * 4 + 1) (([120, 160, 180, 240, 230, 60] : List Int32).getD i 0)) (i * 4 + 2) 5) (i * 4 + 3) (([120, 160, 180, 240, 230, 60] : List Int32).getD i 0))) := by
  rw [f_X2_init_46.eq_2]
  simp (disch := omega) only [ix_al, ix_ml, ix_gd, ix_cl, ix_let, ix_lel, up_s, bx_uu, if_false, if_neg, Nat.add_zero]
