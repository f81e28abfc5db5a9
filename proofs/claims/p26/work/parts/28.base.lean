/-! numbers: indices as naturals -/
theorem ix_al (a k : Nat) : nI a + (no_index (OfNat.ofNat k) : Int32) = nI (a + OfNat.ofNat k) := nI_add a k
theorem ix_ar (a k : Nat) : (no_index (OfNat.ofNat k) : Int32) + nI a = nI (OfNat.ofNat k + a) := nI_add k a
theorem ix_ml (a k : Nat) : nI a * (no_index (OfNat.ofNat k) : Int32) = nI (a * OfNat.ofNat k) := pk_mul a k
theorem ix_mr (a k : Nat) : (no_index (OfNat.ofNat k) : Int32) * nI a = nI (OfNat.ofNat k * a) := pk_mul k a
theorem ix_sl {a k : Nat} (h : OfNat.ofNat k ≤ a) : nI a - (no_index (OfNat.ofNat k) : Int32) = nI (a - OfNat.ofNat k) := pk_sub h
theorem ix_gd {m N : Nat} (h : m < N) (hN : N < 2147483648) : (nI m < 0 ∨ N ≤ (nI m).toNatClampNeg) = False := eq_false (nI_in h (by omega))
theorem ix_cl {m : Nat} (h : m < 2147483648) : (nI m).toNatClampNeg = m := nI_clamp (by omega)
theorem ix_lk (k : Nat) : (no_index (OfNat.ofNat k) : Int32) = nI (OfNat.ofNat k) := (show (OfNat.ofNat k : Int32) = nI k ∧ True from ⟨rfl, trivial⟩).1
theorem ix_nge {m N : Nat} (h : m < N) : (N ≤ m) = False := eq_false (Nat.not_le.mpr h)
theorem ix_yle {m N : Nat} (h : N ≤ m) : (N ≤ m) = True := eq_true h
theorem ix_nlt {m N : Nat} (h : N ≤ m) : (m < N) = False := eq_false (Nat.not_lt.mpr h)
theorem ix_ylt {m N : Nat} (h : m < N) : (m < N) = True := eq_true h
theorem ix_l0 {k : Nat} (h : OfNat.ofNat k < 2147483648) : ((no_index (OfNat.ofNat k) : Int32) < 0) = False := eq_false (nI_pos (n := k) (by have : (OfNat.ofNat k : Nat) = k := rfl; omega))
theorem ix_n0 {m : Nat} (h : m < 2147483648) : (nI m < 0) = False := eq_false (nI_pos (by omega))
theorem ix_lt {a b : Nat} (ha : a < 2147483648) (hb : b < 2147483648) : (nI a < nI b) = (a < b) := propext (nI_ltI (by omega) (by omega))
theorem ix_le {a b : Nat} (ha : a < 2147483648) (hb : b < 2147483648) : (nI a ≤ nI b) = (a ≤ b) := propext (nI_leI (by omega) (by omega))
theorem ix_eq {a b : Nat} (ha : a < 2147483648) (hb : b < 2147483648) : (nI a = nI b) = (a = b) := propext (nI_eq (by omega) (by omega))
theorem ix_ltl {k b : Nat} (ha : OfNat.ofNat k < 2147483648) (hb : b < 2147483648) : ((no_index (OfNat.ofNat k) : Int32) < nI b) = (OfNat.ofNat k < b) := ix_lt ha hb
theorem ix_ltr {a k : Nat} (ha : a < 2147483648) (hb : OfNat.ofNat k < 2147483648) : (nI a < (no_index (OfNat.ofNat k) : Int32)) = (a < OfNat.ofNat k) := ix_lt ha hb
theorem ix_lel {k b : Nat} (ha : OfNat.ofNat k < 2147483648) (hb : b < 2147483648) : ((no_index (OfNat.ofNat k) : Int32) ≤ nI b) = (OfNat.ofNat k ≤ b) := ix_le ha hb
theorem ix_ler {a k : Nat} (ha : a < 2147483648) (hb : OfNat.ofNat k < 2147483648) : (nI a ≤ (no_index (OfNat.ofNat k) : Int32)) = (a ≤ OfNat.ofNat k) := ix_le ha hb
theorem ix_eql {k b : Nat} (ha : OfNat.ofNat k < 2147483648) (hb : b < 2147483648) : ((no_index (OfNat.ofNat k) : Int32) = nI b) = (OfNat.ofNat k = b) := ix_eq ha hb
theorem ix_eqr {a k : Nat} (ha : a < 2147483648) (hb : OfNat.ofNat k < 2147483648) : (nI a = (no_index (OfNat.ofNat k) : Int32)) = (a = OfNat.ofNat k) := ix_eq ha hb
theorem ix_gdl {k N : Nat} (h : OfNat.ofNat k < N) (hN : N < 2147483648) : ((no_index (OfNat.ofNat k) : Int32) < 0 ∨ N ≤ (no_index (OfNat.ofNat k) : Int32).toNatClampNeg) = False := ix_gd h hN
theorem ix_cll {k : Nat} (h : OfNat.ofNat k < 2147483648) : (no_index (OfNat.ofNat k) : Int32).toNatClampNeg = OfNat.ofNat k := ix_cl h
theorem ix_let {α β : Type} (a : α) (f : α → β) : vv_let a f = f a := (show vv_let a f = f a ∧ True from ⟨rfl, trivial⟩).1
theorem ix_bs {α β : Type} (a : α) (f : α → Option β) : (some a).bind f = f a := (show (some a).bind f = f a ∧ True from ⟨rfl, trivial⟩).1
/-! rows -/
theorem up_s {α : Type} (f : Nat → α) (k : Nat) (v : α) : va_up f k v k = v := if_pos rfl
theorem up_n {α : Type} {f : Nat → α} {k j : Nat} {v : α} (h : j ≠ k) : va_up f k v j = f j := if_neg h
theorem ud_s (f : Nat → Int32) (k : Nat) (v : Int32) : upd f k v k = v := if_pos rfl
theorem ud_n {f : Nat → Int32} {k j : Nat} {v : Int32} (h : j ≠ k) : upd f k v j = f j := if_neg h
theorem up_id {α : Type} (f : Nat → α) (k : Nat) : va_up f k (f k) = f := by
  funext j
  unfold va_up
  by_cases h : j = k
  · rw [if_pos h, h]
  · rw [if_neg h]

def zi (c : Prop) [Decidable c] : Int32 := if c then 1 else 0
theorem zi_0 {c : Prop} [Decidable c] : (zi c = 0) = ¬ c := by
  unfold zi
  by_cases h : c
  · rw [if_pos h]; simp [h]
  · rw [if_neg h]; simp [h]
theorem zi_1 {c : Prop} [Decidable c] : (zi c = 1) = c := by
  unfold zi
  by_cases h : c
  · rw [if_pos h]; simp [h]
  · rw [if_neg h]; simp [h]
theorem zi_01 {c : Prop} [Decidable c] : (zi c = 0 ∨ zi c = 1) = True := by
  unfold zi
  by_cases h : c
  · rw [if_pos h]; simp
  · rw [if_neg h]; simp
theorem zi_t {c : Prop} [Decidable c] (h : c) : zi c = 1 := if_pos h
theorem zi_f {c : Prop} [Decidable c] (h : ¬ c) : zi c = 0 := if_neg h
theorem bnd {α β : Type} {o : Option α} {a : α} (h : o = some a) {f : α → Option β} : o.bind f = f a := by rw [h]; rfl
theorem ife {c : Prop} [Decidable c] {α : Type} {a b d : α} (h1 : c → a = d) (h2 : ¬ c → b = d) : (if c then a else b) = d := by
  by_cases h : c
  · rw [if_pos h]; exact h1 h
  · rw [if_neg h]; exact h2 h
