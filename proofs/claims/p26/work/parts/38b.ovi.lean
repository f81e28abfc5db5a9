/-! the memory that the loops of the constructors leave -/
def vv_fold {α : Type} (F : Nat → α → α) : Nat → Nat → α → α
  | _, 0, a => a
  | b, j + 1, a => vv_fold F (b + 1) j (F b a)
def vv_tg (z : Nat) : Int32 := ([120, 160, 180, 240, 230, 60] : List Int32).getD z 0
def vv_oz (z : Nat) (r : Nat → Int32) : Nat → Int32 := upd (upd (upd (upd r (z * 4 + 0) 4) (z * 4 + 1) (vv_tg z)) (z * 4 + 2) 5) (z * 4 + 3) (vv_tg z)
def vv_oc (c : Nat) (r : Nat → Int32) : Nat → Int32 := va_cpy (fun j => ([40, 180, 2, 6, 190, 240] : List Int32).getD j 0) r 0 (c * 6) 6
def vv_on4 (r : Nat → Int32) : Nat → Int32 := va_cpy (fun j => ([2, 3, 6, 1] : List Int32).getD j 0) r 0 0 4
def vv_ovI (p : Nat) (M : vv_M) : vv_M := va_up (va_up (va_up M (p + 1) (vv_fold vv_oz 0 6 (M (p + 1)))) (p + 2) (vv_fold vv_oc 0 4 (M (p + 2)))) (p + 3) (vv_on4 (M (p + 3)))
theorem vv_ovI_o {p x : Nat} {M : vv_M} (h : x < p + 1 ∨ p + 3 < x) : vv_ovI p M x = M x := by
  unfold vv_ovI
  rw [up_n (by omega), up_n (by omega), up_n (by omega)]
theorem vv_ovI_z {p x : Nat} {M : vv_M} (h : p + 5 < x) (hz : M x = fun _ => 0) : vv_ovI p M x = fun _ => 0 := (vv_ovI_o (by omega)).trans hz
theorem vv_i108 {n p : Nat} : ∀ (j c k : Nat) (M : vv_M), c + j = 4 → j < k → f_X2_init_108 n k p (nI c) M = some ((), va_up (va_up M (p + 2) (vv_fold vv_oc c j (M (p + 2)))) (p + 3) (vv_on4 (M (p + 3)))) := by
  have z0 : ((0 : Int32) < 0) = False := by decide
  have z4 : ((4 : Int32) < 0) = False := by decide
  have z6 : ((6 : Int32) < 0) = False := by decide
  have c0 : (0 : Int32).toNatClampNeg = 0 := by decide
  have c4 : (4 : Int32).toNatClampNeg = 4 := by decide
  have c6 : (6 : Int32).toNatClampNeg = 6 := by decide
  have g4 : (4 < 0 + 4) = False := by decide
  have g6 : (6 < 0 + 6) = False := by decide
  intro j
  induction j with
  | zero =>
    intro c k M hc hk
    obtain ⟨k, rfl⟩ : ∃ q, k = q + 1 := ⟨k - 1, by omega⟩
    obtain rfl : c = 4 := by omega
    rw [f_X2_init_108.eq_2, if_pos (show (4 : Int32) ≤ nI 4 by decide)]
    simp only [z0, z4, c0, c4, g4, ↓reduceIte, ↓ix_let]
    show _ = some ((), va_up (va_up M (p + 2) (M (p + 2))) (p + 3) (vv_on4 (M (p + 3))))
    rw [up_id]
    rfl
  | succ j ih =>
    intro c k M hc hk
    obtain ⟨k, rfl⟩ : ∃ q, k = q + 1 := ⟨k - 1, by omega⟩
    have h := ih (c + 1) k (va_up M (p + 2) (vv_oc c (M (p + 2)))) (by omega) (by omega)
    rw [up_s, bx_uu, up_n (by omega : p + 3 ≠ p + 2)] at h
    have gc : (24 < c * 6 + 6) = False := eq_false (by omega)
    rw [f_X2_init_108.eq_2, if_neg (show ¬ (4 : Int32) ≤ nI c from fun h => absurd ((nI_leI (a := 4) (by omega) (by omega)).mp h) (by omega))]
    simp (disch := omega) only [z0, z6, c0, c6, g6, ↓reduceIte, ↓ix_let, ix_ml, ix_n0, ix_cl, gc, ix_al]
    exact h
theorem vv_i46 {n p : Nat} (hn : 5 ≤ n) : ∀ (j z k : Nat) (M : vv_M), z + j = 6 → j < k → f_X2_init_46 n k p (nI z) M = some ((), va_up (va_up (va_up M (p + 1) (vv_fold vv_oz z j (M (p + 1)))) (p + 2) (vv_fold vv_oc 0 4 (M (p + 2)))) (p + 3) (vv_on4 (M (p + 3)))) := by
  intro j
  induction j with
  | zero =>
    intro z k M hz hk
    obtain ⟨k, rfl⟩ : ∃ q, k = q + 1 := ⟨k - 1, by omega⟩
    obtain rfl : z = 6 := by omega
    have h := vv_i108 (n := n) (p := p) 4 0 n M (by omega) (by omega)
    rw [f_X2_init_46.eq_2, if_pos (show (6 : Int32) ≤ nI 6 by decide)]
    show f_X2_init_108 n n p (nI 0) M = some ((), va_up (va_up (va_up M (p + 1) (M (p + 1))) (p + 2) _) (p + 3) _)
    rw [h, up_id]
  | succ j ih =>
    intro z k M hz hk
    obtain ⟨k, rfl⟩ : ∃ q, k = q + 1 := ⟨k - 1, by omega⟩
    have h := ih (z + 1) k (va_up M (p + 1) (vv_oz z (M (p + 1)))) (by omega) (by omega)
    rw [up_s, bx_uu, up_n (by omega : p + 2 ≠ p + 1), up_n (by omega : p + 3 ≠ p + 1)] at h
    rw [f_X2_init_46.eq_2, if_neg (show ¬ (6 : Int32) ≤ nI z from fun h => absurd ((nI_leI (a := 6) (by omega) (by omega)).mp h) (by omega))]
    simp (disch := omega) only [↓reduceIte, ↓ix_let, ix_ml, ix_n0, ix_cl, ix_al, ix_nge, or_self, up_s, bx_uu, f_X2_init_100]
    exact h
theorem vv_ovI_ok {p n : Nat} {M : vv_M} (hn : 7 ≤ n) : f_X2_init_46 n n p 0 M = some ((), vv_ovI p M) := vv_i46 (by omega) 6 0 n M (by omega) (by omega)
/-! the picture of a fresh oven -/
def vv_dz (z : Nat) (r : Nat → Int32) : Nat → Int32 := upd (upd (upd (upd r (0 + 4 * z + 0) 4) (0 + 4 * z + 1) (vv_tg z)) (0 + 4 * z + 2) 5) (0 + 4 * z + 3) (vv_tg z)
def vv_dc (c : Nat) (r : Nat → Int32) : Nat → Int32 := upd (upd (upd (upd (upd (upd r (24 + 6 * c + 0) 40) (24 + 6 * c + 1) 180) (24 + 6 * c + 2) 2) (24 + 6 * c + 3) 6) (24 + 6 * c + 4) 190) (24 + 6 * c + 5) 240
def vv_d4 (r : Nat → Int32) : Nat → Int32 := upd (upd (upd (upd r 48 2) 49 3) 50 6) 51 1
def g0 : Nat → Int32 := vv_d4 (vv_fold vv_dc 0 4 (vv_fold vv_dz 0 6 (fun _ => 0)))
