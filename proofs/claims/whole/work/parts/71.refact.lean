/-! the reference: copy, record -/
def gCpy (a b m : Nat) (R : Nat → Int32) : Nat → Int32 := fun k => if b ≤ k ∧ k < b + m then R (a + (k - b)) else R k
theorem r_copy {n p a b m : Nat} {x1 x2 x3 : Int32} (M : vv_M) (h1 : x1 = nI a) (h2 : x2 = nI b) (h3 : x3 = nI m) (ha : a + m ≤ 13445) (hb : b + m ≤ 13445) (hd : a + m ≤ b ∨ b + m ≤ a) (hn : 5000 ≤ n) (hm : m ≤ 2123) : f_X5_copy n p x1 x2 x3 M = some ((), va_up M (p + 1) (gCpy a b m (M (p + 1)))) := by
  subst h1 h2 h3
  have st : ∀ (j i q : Nat) (G : Nat → Int32), i + j = m → j < q → G = gCpy a b i (M (p + 1)) → f_X5_copy_3 n q p (nI a) (nI b) (nI m) (nI i) (va_up M (p + 1) G) = some ((), va_up M (p + 1) (gCpy a b m (M (p + 1)))) := by
    intro j
    induction j with
    | zero =>
      intro i q G hi hq hG
      obtain ⟨q, rfl⟩ : ∃ m, q = m + 1 := ⟨q - 1, by omega⟩
      obtain rfl : i = m := by omega
      rw [f_X5_copy_3.eq_2, if_pos (nI_le (Nat.le_refl _) (by omega)), hG]
    | succ j ih =>
      intro i q G hi hq hG
      obtain ⟨q, rfl⟩ : ∃ m, q = m + 1 := ⟨q - 1, by omega⟩
      have e : G (a + i) = M (p + 1) (a + i) := by
        rw [hG]
        unfold gCpy
        rw [if_neg (by omega)]
      rw [f_X5_copy_3.eq_2, ← ih (i + 1) q (upd G (b + i) (M (p + 1) (a + i))) (by omega) (by omega) (by
        rw [hG]
        funext k
        unfold upd gCpy
        by_cases hk : k = b + i
        · rw [if_pos hk, if_pos (by omega), show a + (k - b) = a + i by omega]
        · rw [if_neg hk]
          by_cases hk2 : b ≤ k ∧ k < b + i
          · rw [if_pos hk2, if_pos (by omega)]
          · rw [if_neg hk2, if_neg (by omega)])]
      have h' : (nI m ≤ nI i) = False := eq_false (fun h => absurd ((nI_leI (by omega) (by omega)).mp h) (by omega))
      simp (disch := omega) only [h', nI_add, ix_al, ix_cl, ix_n0, ix_nge, or_self, ↓reduceIte, ↓ix_let, up_s, bx_uu, e]
  have h := st m 0 n (M (p + 1)) (by omega) (by omega) (by
    funext k
    unfold gCpy
    rw [if_neg (by omega)])
  rw [up_id] at h
  exact h
theorem ud_ud {f : Nat → Int32} {k : Nat} {v w : Int32} : upd (upd f k v) k w = upd f k w := by
  funext q
  unfold upd
  by_cases h : q = k
  · rw [if_pos h, if_pos h]
  · rw [if_neg h, if_neg h, if_neg h]
theorem up_comm {f : vv_M} {i j : Nat} {v w : Nat → Int32} (h : i ≠ j) : va_up (va_up f i v) j w = va_up (va_up f j w) i v := by
  funext q
  unfold va_up
  by_cases h1 : q = i
  · subst h1
    rw [if_neg h, if_pos rfl, if_pos rfl]
  · rw [if_neg h1, if_neg h1]
theorem r_rec52 {n p r : Nat} (M : vv_M) (hn : 5000 ≤ n) (hr : r < 5) (h1 : M p 1 = nI r) : f_X5_record_52 n p M = some ((), va_up (va_up M (p + 1) (gCpy 0 (2123 + 2123 * r) 2123 (M (p + 1)))) p (upd (M p) 1 (nI (r + 1)))) := by
  unfold f_X5_record_52
  have h := r_copy (n := n) (p := p) (a := 0) (b := 2123 + 2123 * r) (m := 2123) (x1 := 0) (x2 := 2123 + 2123 * (M p 1)) (x3 := 2123) M rfl (by rw [h1, ix_mr, ix_ar]) rfl (by omega) (by omega) (by omega) hn (by omega)
  rw [bnd h]
  simp (disch := omega) only [↓ix_let, up_n, h1, ix_al]
def gSh (k : Nat) (R : Nat → Int32) : Nat → Int32 := fun i => if 2123 ≤ i ∧ i < 2123 * k then R (i + 2123) else R i
theorem gSh_step {k : Nat} {R : Nat → Int32} (hk : 1 ≤ k) : gCpy (2123 + 2123 * k) (2123 * k) 2123 (gSh k R) = gSh (k + 1) R := by
  funext i
  unfold gCpy gSh
  by_cases h1 : 2123 * k ≤ i ∧ i < 2123 * k + 2123
  · rw [if_pos h1, if_neg (by omega), if_pos (by omega), show 2123 + 2123 * k + (i - 2123 * k) = i + 2123 by omega]
  · rw [if_neg h1]
    by_cases h2 : 2123 ≤ i ∧ i < 2123 * k
    · rw [if_pos h2, if_pos (by omega)]
    · rw [if_neg h2, if_neg (by omega)]
theorem r_record {n p r : Nat} (M : vv_M) (hn : 5000 ≤ n) (hr : r ≤ 5) (h1 : M p 1 = nI r) : f_X5_record n p M = some ((), va_up (va_up M (p + 1) (gRec (M (p + 1)) r)) p (upd (M p) 1 (nI (rNext r)))) := by
  unfold f_X5_record
  rw [h1]
  by_cases h5 : r = 5
  · subst h5
    rw [if_pos (show nI 5 = 5 from rfl)]
    have st : ∀ (j k q : Nat), k + j = 5 → 1 ≤ k → j < q → f_X5_record_10 n q p (nI k) (va_up M (p + 1) (gSh k (M (p + 1)))) = some ((), va_up (va_up M (p + 1) (gCpy 0 (2123 + 2123 * 4) 2123 (gSh 5 (M (p + 1))))) p (upd (M p) 1 (nI 5))) := by
      intro j
      induction j with
      | zero =>
        intro k q hk hk1 hq
        obtain ⟨q, rfl⟩ : ∃ m, q = m + 1 := ⟨q - 1, by omega⟩
        obtain rfl : k = 5 := by omega
        rw [f_X5_record_10.eq_2, if_pos (show (5 : Int32) ≤ nI 5 from nI_le (a := 5) (b := 5) (Nat.le_refl _) (by omega)), ix_let, up_n (by omega), h1]
        rw [r_rec52 (r := 4) _ hn (by omega) (by rw [up_s, ud_s]; rfl), up_s, ud_ud, up_n (by omega : p + 1 ≠ p), up_s, up_comm (by omega : p ≠ p + 1), bx_uu, bx_uu]
      | succ j ih =>
        intro k q hk hk1 hq
        obtain ⟨q, rfl⟩ : ∃ m, q = m + 1 := ⟨q - 1, by omega⟩
        have h' : ((5 : Int32) ≤ nI k) = False := eq_false (fun h => absurd ((nI_leI (a := 5) (by omega) (by omega)).mp h) (by omega))
        have hc := r_copy (n := n) (p := p) (a := 2123 + 2123 * k) (b := 2123 * k) (m := 2123) (x1 := 2123 + 2123 * nI k) (x2 := 2123 * nI k) (x3 := 2123) (va_up M (p + 1) (gSh k (M (p + 1)))) (by rw [ix_mr, ix_ar]) (by rw [ix_mr]) rfl (by omega) (by omega) (by omega) hn (by omega)
        rw [f_X5_record_10.eq_2, if_neg (fun h => h' ▸ h), bnd hc, ix_let, ix_al, up_s, bx_uu, gSh_step hk1]
        exact ih (k + 1) q (by omega) (by omega) (by omega)
    have h := st 4 1 n (by omega) (by omega) (by omega)
    have e0 : gSh 1 (M (p + 1)) = M (p + 1) := by
      funext i
      unfold gSh
      rw [if_neg (by omega)]
    rw [e0, up_id] at h
    have e1 : gCpy 0 (2123 + 2123 * 4) 2123 (gSh 5 (M (p + 1))) = gRec (M (p + 1)) 5 := by
      funext i
      unfold gCpy gSh gRec
      by_cases c1 : i < 2123
      · rw [if_neg (by omega), if_neg (by omega), if_pos c1]
      by_cases c2 : i < 10615
      · rw [if_neg (by omega), if_pos (by omega), if_neg c1, if_pos rfl, if_pos c2]
      by_cases c3 : i < 12738
      · rw [if_pos (by omega), if_neg (by omega), if_neg c1, if_pos rfl, if_neg c2, if_pos c3, show 0 + (i - (2123 + 2123 * 4)) = i - 10615 by omega]
      · rw [if_neg (by omega), if_neg (by omega), if_neg c1, if_pos rfl, if_neg c2, if_neg c3]
    rw [e1] at h
    exact h
  · rw [if_neg (show ¬ nI r = 5 from fun h => h5 ((nI_eq (b := 5) (by omega) (by omega)).mp h)), r_rec52 M hn (by omega) h1]
    have hn : rNext r = r + 1 := if_neg h5
    have e1 : gCpy 0 (2123 + 2123 * r) 2123 (M (p + 1)) = gRec (M (p + 1)) r := by
      funext i
      unfold gCpy gRec
      by_cases c1 : i < 2123
      · rw [if_neg (by omega), if_pos c1]
      · rw [if_neg c1, if_neg h5]
        by_cases c2 : 2123 + 2123 * r ≤ i ∧ i < 4246 + 2123 * r
        · rw [if_pos (by omega), if_pos c2, Nat.zero_add]
        · rw [if_neg (by omega), if_neg c2]
    rw [e1, hn]
/-- what an action does in the reference -/
def gOk (R : Nat → Int32) : Prop := ∃ l, l ≤ 30 ∧ gInv R l ∧ gE R
def Kx (Q : Nat) (a : (Nat → Int32) → Int32) (w : (Nat → Int32) → Nat → Int32) (f : vv_M → Option (Int32 × vv_M)) : Prop := ∀ (M : vv_M) (r : Nat), r ≤ 5 → M Q 1 = nI r → gOk (M (Q + 1)) → a (gRec (M (Q + 1)) r) = a (M (Q + 1)) → (∀ j, j < 2 → (M (Q + 1) (2121 + j) = 0 ∨ M (Q + 1) (2121 + j) = 1) ∧ (M (Q + 1) (2121 + j) = 1 → ¬ M (Q + 1) (707 + 707 * j + 52) < 0)) → ∃ M2, f M = some (a (M (Q + 1)), M2) ∧ (∀ x, x ≠ Q → x ≠ Q + 1 → M2 x = M x) ∧ M2 Q 3 = M Q 3 ∧ (a (M (Q + 1)) < 0 → M2 Q 1 = nI r ∧ ∀ k, k < 12738 → M2 (Q + 1) k = M (Q + 1) k) ∧ (¬ a (M (Q + 1)) < 0 → M2 Q 1 = nI (rNext r) ∧ ∀ k, k < 12738 → M2 (Q + 1) k = w (gRec (M (Q + 1)) r) k)
theorem Kx.no {Q r : Nat} {M : vv_M} {a : (Nat → Int32) → Int32} {w : (Nat → Int32) → Nat → Int32} {o : Option (Int32 × vv_M)} {e : Int32} (h1 : M Q 1 = nI r) (ha : a (M (Q + 1)) = e) (he : e < 0) (ho : o = some (e, M)) : ∃ M2, o = some (a (M (Q + 1)), M2) ∧ (∀ x, x ≠ Q → x ≠ Q + 1 → M2 x = M x) ∧ M2 Q 3 = M Q 3 ∧ (a (M (Q + 1)) < 0 → M2 Q 1 = nI r ∧ ∀ k, k < 12738 → M2 (Q + 1) k = M (Q + 1) k) ∧ (¬ a (M (Q + 1)) < 0 → M2 Q 1 = nI (rNext r) ∧ ∀ k, k < 12738 → M2 (Q + 1) k = w (gRec (M (Q + 1)) r) k) := ⟨M, by rw [ho, ha], fun _ _ _ => rfl, rfl, fun _ => ⟨h1, fun _ _ => rfl⟩, fun h => absurd (ha ▸ he) h⟩
/-- the action goes through: the row after record becomes W -/
theorem Kx.yes {Q r : Nat} {M : vv_M} {a : (Nat → Int32) → Int32} {w : (Nat → Int32) → Nat → Int32} {o : Option (Int32 × vv_M)} {e : Int32} (ha : a (M (Q + 1)) = e) (he : ¬ e < 0) (ho : o = some (e, va_up (va_up (va_up M (Q + 1) (gRec (M (Q + 1)) r)) Q (upd (M Q) 1 (nI (rNext r)))) (Q + 1) (w (gRec (M (Q + 1)) r)))) : ∃ M2, o = some (a (M (Q + 1)), M2) ∧ (∀ x, x ≠ Q → x ≠ Q + 1 → M2 x = M x) ∧ M2 Q 3 = M Q 3 ∧ (a (M (Q + 1)) < 0 → M2 Q 1 = nI r ∧ ∀ k, k < 12738 → M2 (Q + 1) k = M (Q + 1) k) ∧ (¬ a (M (Q + 1)) < 0 → M2 Q 1 = nI (rNext r) ∧ ∀ k, k < 12738 → M2 (Q + 1) k = w (gRec (M (Q + 1)) r) k) := by
  refine ⟨_, by rw [ha]; exact ho, fun x hx1 hx2 => by rw [up_n hx2, up_n hx1, up_n hx2], by rw [up_n (by omega), up_s, ud_ne (by omega)], fun h => absurd (ha ▸ h) he, fun _ => ⟨by rw [up_n (by omega), up_s, ud_s], fun k hk => by rw [up_s]⟩⟩
theorem gRec_inv {R : Nat → Int32} {l r : Nat} (hl : l ≤ 30) (h : gInv R l) : gInv (gRec R r) l := gInv_ext (by omega) (fun k hk => gRec_lo (by omega)) h
theorem gl_rec {R : Nat → Int32} {r : Nat} : gl (gRec R r) = gl R := by
  unfold gl
  rw [gRec_lo (by omega)]
