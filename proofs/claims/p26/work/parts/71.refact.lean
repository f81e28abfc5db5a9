/-! the reference: copy, record -/
def gCpy (a b m : Nat) (R : Nat → Int32) : Nat → Int32 := fun k => if b ≤ k ∧ k < b + m then R (a + (k - b)) else R k
theorem ud_ud {f : Nat → Int32} {k : Nat} {v w : Int32} : upd (upd f k v) k w = upd f k w := by
  funext q
  unfold upd
  by_cases h : q = k
  · rw [if_pos h, if_pos h]
  · rw [if_neg h, if_neg h, if_neg h]
theorem up_comm {f : vv_M} {i j : Nat} {v w : Nat → Int32} (h : i ≠ j) : va_up (va_up f i v) j w = va_up (va_up f j w) i v := by
  funext q
  unfold va_up
  by_cases h1 : q = i
  · subst h1
    rw [if_neg h, if_pos rfl, if_pos rfl]
  · rw [if_neg h1, if_neg h1]
def gSh (k : Nat) (R : Nat → Int32) : Nat → Int32 := fun i => if 2123 ≤ i ∧ i < 2123 * k then R (i + 2123) else R i
theorem gSh_step {k : Nat} {R : Nat → Int32} (hk : 1 ≤ k) : gCpy (2123 + 2123 * k) (2123 * k) 2123 (gSh k R) = gSh (k + 1) R := by
  funext i
  unfold gCpy gSh
  by_cases h1 : 2123 * k ≤ i ∧ i < 2123 * k + 2123
  · rw [if_pos h1, if_neg (by omega), if_pos (by omega), show 2123 + 2123 * k + (i - 2123 * k) = i + 2123 by omega]
  · rw [if_neg h1]
    by_cases h2 : 2123 ≤ i ∧ i < 2123 * k
    · rw [if_pos h2, if_pos (by omega)]
    · rw [if_neg h2, if_neg (by omega)]
/-- what an action does in the reference -/
def gOk (R : Nat → Int32) : Prop := ∃ l, l ≤ 30 ∧ gInv R l ∧ gE R
def Kx (Q : Nat) (a : (Nat → Int32) → Int32) (w : (Nat → Int32) → Nat → Int32) (f : vv_M → Option (Int32 × vv_M)) : Prop := ∀ (M : vv_M) (r : Nat), r ≤ 5 → M Q 1 = nI r → gOk (M (Q + 1)) → a (gRec (M (Q + 1)) r) = a (M (Q + 1)) → (∀ j, j < 2 → (M (Q + 1) (2121 + j) = 0 ∨ M (Q + 1) (2121 + j) = 1) ∧ (M (Q + 1) (2121 + j) = 1 → ¬ M (Q + 1) (707 + 707 * j + 52) < 0)) → ∃ M2, f M = some (a (M (Q + 1)), M2) ∧ (∀ x, x ≠ Q → x ≠ Q + 1 → M2 x = M x) ∧ M2 Q 3 = M Q 3 ∧ (a (M (Q + 1)) < 0 → M2 Q 1 = nI r ∧ ∀ k, k < 12738 → M2 (Q + 1) k = M (Q + 1) k) ∧ (¬ a (M (Q + 1)) < 0 → M2 Q 1 = nI (rNext r) ∧ ∀ k, k < 12738 → M2 (Q + 1) k = w (gRec (M (Q + 1)) r) k)
theorem Kx.no {Q r : Nat} {M : vv_M} {a : (Nat → Int32) → Int32} {w : (Nat → Int32) → Nat → Int32} {o : Option (Int32 × vv_M)} {e : Int32} (h1 : M Q 1 = nI r) (ha : a (M (Q + 1)) = e) (he : e < 0) (ho : o = some (e, M)) : ∃ M2, o = some (a (M (Q + 1)), M2) ∧ (∀ x, x ≠ Q → x ≠ Q + 1 → M2 x = M x) ∧ M2 Q 3 = M Q 3 ∧ (a (M (Q + 1)) < 0 → M2 Q 1 = nI r ∧ ∀ k, k < 12738 → M2 (Q + 1) k = M (Q + 1) k) ∧ (¬ a (M (Q + 1)) < 0 → M2 Q 1 = nI (rNext r) ∧ ∀ k, k < 12738 → M2 (Q + 1) k = w (gRec (M (Q + 1)) r) k) := ⟨M, by rw [ho, ha], fun _ _ _ => rfl, rfl, fun _ => ⟨h1, fun _ _ => rfl⟩, fun h => absurd (ha ▸ he) h⟩
/-- the action goes through: the row after record becomes W -/
theorem Kx.yes {Q r : Nat} {M : vv_M} {a : (Nat → Int32) → Int32} {w : (Nat → Int32) → Nat → Int32} {o : Option (Int32 × vv_M)} {e : Int32} (ha : a (M (Q + 1)) = e) (he : ¬ e < 0) (ho : o = some (e, va_up (va_up (va_up M (Q + 1) (gRec (M (Q + 1)) r)) Q (upd (M Q) 1 (nI (rNext r)))) (Q + 1) (w (gRec (M (Q + 1)) r)))) : ∃ M2, o = some (a (M (Q + 1)), M2) ∧ (∀ x, x ≠ Q → x ≠ Q + 1 → M2 x = M x) ∧ M2 Q 3 = M Q 3 ∧ (a (M (Q + 1)) < 0 → M2 Q 1 = nI r ∧ ∀ k, k < 12738 → M2 (Q + 1) k = M (Q + 1) k) ∧ (¬ a (M (Q + 1)) < 0 → M2 Q 1 = nI (rNext r) ∧ ∀ k, k < 12738 → M2 (Q + 1) k = w (gRec (M (Q + 1)) r) k) := by
  refine ⟨_, by rw [ha]; exact ho, fun x hx1 hx2 => by rw [up_n hx2, up_n hx1, up_n hx2], by rw [up_n (by omega), up_s, ud_ne (by omega)], fun h => absurd (ha ▸ h) he, fun _ => ⟨by rw [up_n (by omega), up_s, ud_s], fun k hk => by rw [up_s]⟩⟩
theorem gRec_inv {R : Nat → Int32} {l r : Nat} (hl : l ≤ 30) (h : gInv R l) : gInv (gRec R r) l := gInv_ext (by omega) (fun k hk => gRec_lo (by omega)) h
theorem gl_rec {R : Nat → Int32} {r : Nat} : gl (gRec R r) = gl R := by
  unfold gl
  rw [gRec_lo (by omega)]
