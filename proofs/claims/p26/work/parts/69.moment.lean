/-! become, moments, history -/
def FrS (a b : Nat) (M M' : vv_M) : Prop := ∀ q, q < a ∨ b ≤ q → M' q = M q
theorem FrS.rf {a b : Nat} {M : vv_M} : FrS a b M M := fun _ _ => rfl
theorem FrS.tr {a b : Nat} {M M' M'' : vv_M} (h1 : FrS a b M M') (h2 : FrS a b M' M'') : FrS a b M M'' := fun q hq => (h2 q hq).trans (h1 q hq)
theorem FrS.of {a b : Nat} {p : Nat} {M M' : vv_M} (h : Fr p M M') (h1 : a ≤ p) (h2 : p + 6 ≤ b) : FrS a b M M' := fun q hq => h q (by omega)
theorem FrS.wd {a b a' b' : Nat} {M M' : vv_M} (h : FrS a b M M') (h1 : a' ≤ a) (h2 : b ≤ b') : FrS a' b' M M' := fun q hq => h q (by omega)
theorem FrS.up {a b q : Nat} {M : vv_M} {r : Nat → Int32} (h1 : a ≤ q) (h2 : q < b) : FrS a b M (va_up M q r) := fun x hx => up_n (by omega)
theorem cpy_0 {f g : Nat → Int32} {n k : Nat} (h : k < n) : va_cpy f g 0 0 n k = f k := by
  rw [pk_cpy_in (Nat.zero_le _) (by omega), Nat.zero_add, Nat.sub_zero]
theorem c_become {n p q : Nat} {M : vv_M} {g : Nat → Int32} (hO : Ov q M g) (hd : p + 6 ≤ q ∨ q + 6 ≤ p) : ∃ M', f_X2_become n p q M = some ((), M') ∧ Ov p M' g ∧ Fr p M M' := by
  obtain ⟨l, hl, hI, hE, h1, h2, h3, ⟨h4, h5, h6, h7⟩, h8⟩ := hO
  have hl53 : M q 6 = nI l := h5.trans hI.2.1
  have g24 : (24 < 0 + 24) = False := by decide
  have g4 : (4 < 0 + 4) = False := by decide
  have hle : (682 < 0 + l * 22) = False := eq_false (by omega)
  have z0 : ((0 : Int32) < 0) = False := by decide
  have z24 : ((24 : Int32) < 0) = False := by decide
  have z4 : ((4 : Int32) < 0) = False := by decide
  have c0 : (0 : Int32).toNatClampNeg = 0 := by decide
  have c24 : (24 : Int32).toNatClampNeg = 24 := by decide
  have c4 : (4 : Int32).toNatClampNeg = 4 := by decide
  refine ⟨va_up (va_up (va_up (va_up (va_up M (p + 1) (va_cpy (M (q + 1)) (M (p + 1)) 0 0 24)) (p + 2) (va_cpy (M (q + 2)) (M (p + 2)) 0 0 24)) (p + 3) (va_cpy (M (q + 3)) (M (p + 3)) 0 0 4)) (p + 4) (va_cpy (M (q + 4)) (M (p + 4)) 0 0 (l * 22))) p (upd (upd (upd (upd (M p) 5 (M q 5)) 6 (M q 6)) 7 (M q 7)) 8 (M q 8)), ?_, ⟨l, hl, hI, hE, fun k hk => ?_, fun k hk => ?_, fun k hk => ?_, ?_, fun b hb => ?_⟩, ?_⟩
  · unfold f_X2_become f_X2_become_72
    simp (disch := omega) only [z0, z24, z4, c0, c24, c4, g24, g4, ↓reduceIte, ↓ix_let, up_n, up_s, bx_uu, hl53, ix_ml, ix_n0, ix_cl, hle, ud_ne]
  · rw [up_n (by omega), up_n (by omega), up_n (by omega), up_n (by omega), up_s, cpy_0 hk]
    exact h1 k hk
  · rw [up_n (by omega), up_n (by omega), up_n (by omega), up_s, cpy_0 hk]
    exact h2 k hk
  · rw [up_n (by omega), up_n (by omega), up_s, cpy_0 hk]
    exact h3 k hk
  · rw [up_s]
    refine ⟨?_, ?_, ?_, ?_⟩
    · rw [ud_ne (by omega), ud_ne (by omega), ud_ne (by omega), ud_s]; exact h4
    · rw [ud_ne (by omega), ud_ne (by omega), ud_s]; exact h5
    · rw [ud_ne (by omega), ud_s]; exact h6
    · rw [ud_s]; exact h7
  · rw [up_n (by omega), up_s]
    exact Rb_congr (h8 b hb) (fun j hj => cpy_0 (by omega)) (fun j hj => rfl) (fun x => rfl)
  · intro x hx
    rw [up_n (by omega), up_n (by omega), up_n (by omega), up_n (by omega), up_n (by omega)]
/-- a moment at p, against a block of the reference's row -/
def Mo (p : Nat) (M : vv_M) (f : Nat → Int32) : Prop := Ov (p + 1) M f ∧ ∀ j, j < 2 → M (p + 8) j = f (2121 + j) ∧ (f (2121 + j) = 0 ∨ f (2121 + j) = 1) ∧ (f (2121 + j) = 1 → Ov (p + 9 + 6 * j) M (fun k => f (707 + 707 * j + k)))
theorem Mo_ext {p : Nat} {M M' : vv_M} {f f' : Nat → Int32} (hM : ∀ q, p ≤ q → q < p + 21 → M' q = M q) (h : ∀ k, k < 2123 → f' k = f k) (hO : Mo p M f) : Mo p M' f' := by
  obtain ⟨h1, h2⟩ := hO
  refine ⟨Ov_ext (fun q hq1 hq2 => hM q (by omega) (by omega)) (fun k hk => h k (by omega)) h1, fun j hj => ?_⟩
  obtain ⟨a1, a2, a3⟩ := h2 j hj
  rw [hM _ (by omega) (by omega), h _ (by omega)]
  exact ⟨a1, a2, fun hf => Ov_ext (fun q hq1 hq2 => hM q (by omega) (by omega)) (fun k hk => h _ (by omega)) (a3 hf)⟩
theorem nar_01 {x : Int32} (h : x = 0 ∨ x = 1) : vp_nar .boolean x = x := by
  rcases h with rfl | rfl
  · rfl
  · rfl
theorem c_becStep {n p q j : Nat} {M : vv_M} {f : Nat → Int32} (hj : j < 2) (hd : p + 21 ≤ q ∨ q + 21 ≤ p) (h1 : M (q + 8) j = f (2121 + j)) (h2 : f (2121 + j) = 0 ∨ f (2121 + j) = 1) (h3 : f (2121 + j) = 1 → Ov (q + 9 + 6 * j) M (fun k => f (707 + 707 * j + k))) (k : Nat) : ∃ M', f_X1_become_13 n (k + 1) p q (nI j) M = f_X1_become_13 n k p q (nI (j + 1)) M' ∧ M' (p + 8) = upd (M (p + 8)) j (f (2121 + j)) ∧ (∀ x, x ≠ p + 8 → x < p + 9 + 6 * j ∨ p + 9 + 6 * j + 6 ≤ x → M' x = M x) ∧ (f (2121 + j) = 1 → Ov (p + 9 + 6 * j) M' (fun k => f (707 + 707 * j + k))) := by
  have hgd : (nI j < 0 ∨ 2 ≤ (nI j).toNatClampNeg) = False := ix_gd hj (by omega)
  have h2' : ((2 : Int32) ≤ nI j) = False := eq_false (fun h => absurd ((nI_leI (a := 2) (by omega) (by omega)).mp h) (by omega))
  rw [f_X1_become_13.eq_2]
  by_cases h0 : f (2121 + j) = 0
  · refine ⟨va_up M (p + 8) (upd (M (p + 8)) j (f (2121 + j))), ?_, up_s _ _ _, fun x hx _ => up_n hx, fun h => absurd (h0.symm.trans h) (by decide)⟩
    have e : (vp_nar .boolean (f (2121 + j))) = f (2121 + j) := nar_01 h2
    have e0 : (f (2121 + j) = 0) = True := eq_true h0
    simp (disch := omega) only [h2', ix_n0, ix_nge, or_self, ↓reduceIte, ↓ix_let, ix_cl, h1, e, up_s, ud_s, e0, f_X1_become_54, ix_al]
  · have h9 : f (2121 + j) = 1 := h2.resolve_left h0
    have hO : Ov (q + 9 + 6 * j) (va_up M (p + 8) (upd (M (p + 8)) j (f (2121 + j)))) (fun k => f (707 + 707 * j + k)) := Ov_ext (fun x hx1 hx2 => up_n (by omega)) (fun k hk => rfl) (h3 h9)
    obtain ⟨M', b1, b2, b3⟩ := c_become (n := n) (p := p + 9 + 6 * j) hO (by omega)
    refine ⟨M', ?_, ?_, fun x hx hx2 => ?_, fun _ => b2⟩
    · have e : (vp_nar .boolean (f (2121 + j))) = f (2121 + j) := nar_01 h2
      have e0 : (f (2121 + j) = 0) = False := eq_false h0
      simp (disch := omega) only [h2', ix_n0, ix_nge, or_self, ↓reduceIte, ↓ix_let, ix_cl, h1, e, up_s, ud_s, e0, f_X1_become_54, ix_al, ↓bnd b1]
    · rw [b3 _ (by omega), up_s]
    · rw [b3 _ (by omega), up_n hx]
theorem c_become1 {n p q : Nat} {M : vv_M} {f : Nat → Int32} (hn : 40 ≤ n) (hO : Mo q M f) (hd : p + 21 ≤ q ∨ q + 21 ≤ p) : ∃ M', f_X1_become n p q M = some ((), M') ∧ Mo p M' f ∧ FrS p (p + 21) M M' := by
  obtain ⟨h1, h2⟩ := hO
  obtain ⟨M1, a1, a2, a3⟩ := c_become (n := n) (p := p + 1) h1 (by omega)
  obtain ⟨n, rfl⟩ : ∃ m, n = m + 3 := ⟨n - 3, by omega⟩
  have k1 : ∀ j, j < 2 → ∀ M2 : vv_M, (∀ x, q ≤ x → x < q + 21 → M2 x = M x) → M2 (q + 8) j = f (2121 + j) ∧ (f (2121 + j) = 1 → Ov (q + 9 + 6 * j) M2 (fun k => f (707 + 707 * j + k))) := by
    intro j hj M2 hM
    obtain ⟨b1, b2, b3⟩ := h2 j hj
    exact ⟨by rw [hM _ (by omega) (by omega)]; exact b1, fun h => Ov_ext (fun x hx1 hx2 => hM x (by omega) (by omega)) (fun k hk => rfl) (b3 h)⟩
  obtain ⟨c1, c2⟩ := k1 0 (by omega) M1 (fun x hx1 hx2 => a3 x (by omega))
  obtain ⟨M2, d1, d2, d3, d4⟩ := c_becStep (n := n + 3) (p := p) (j := 0) (by omega) hd c1 (h2 0 (by omega)).2.1 c2 (n + 2)
  obtain ⟨e1, e2⟩ := k1 1 (by omega) M2 (fun x hx1 hx2 => by rw [d3 x (by omega) (by omega), a3 x (by omega)])
  obtain ⟨M3, g1, g2, g3, g4⟩ := c_becStep (n := n + 3) (p := p) (j := 1) (by omega) hd e1 (h2 1 (by omega)).2.1 e2 (n + 1)
  refine ⟨M3, ?_, ⟨Ov_ext (fun x hx1 hx2 => by rw [g3 x (by omega) (by omega), d3 x (by omega) (by omega)]) (fun k hk => rfl) a2, fun j hj => ?_⟩, fun x hx => by rw [g3 x (by omega) (by omega), d3 x (by omega) (by omega), a3 x (by omega)]⟩
  · unfold f_X1_become
    rw [bnd a1]
    show f_X1_become_13 (n + 3) (n + 2 + 1) p q (nI 0) M1 = _
    rw [d1]
    show f_X1_become_13 (n + 3) (n + 1 + 1) p q (nI 1) M2 = _
    rw [g1, f_X1_become_13.eq_2]
    rfl
  · rcases (show j = 0 ∨ j = 1 by omega) with rfl | rfl
    · refine ⟨?_, (h2 0 hj).2.1, fun h => Ov_ext (fun x hx1 hx2 => g3 x (by omega) (by omega)) (fun k hk => rfl) (d4 h)⟩
      rw [g2, ud_ne (by omega), d2, ud_s]
    · refine ⟨?_, (h2 1 hj).2.1, fun h => g4 h⟩
      rw [g2, ud_s]
/-- the states that undo can bring back -/
def Hi (P : Nat) (M : vv_M) (R : Nat → Int32) (r : Nat) : Prop := r ≤ 5 ∧ ∃ o, o < 6 ∧ M (P + 22) 1 = nI o ∧ M (P + 22) 2 = nI r ∧ ∀ i, i < r → Mo (P + 22 + 2 + 21 * ((o + i) % 6)) M (fun k => R (2123 + 2123 * i + k))
def Tx (P : Nat) (M : vv_M) (len : Nat) (T : Nat → Int32) : Prop := M (P + 150) 1 = nI len ∧ M (P + 150) 2 = 0 ∧ len ≤ 100 ∧ ∀ k, k < len → M (P + 150 + 1) k = T k ∧ ∃ c, 1 ≤ c ∧ c ≤ 255 ∧ T k = nI c
def Gc (P : Nat) (M : vv_M) (R : Nat → Int32) (r len : Nat) (T : Nat → Int32) : Prop := Mo (P + 1) M R ∧ Hi P M R r ∧ Tx P M len T
theorem Tx_ext {P len : Nat} {M M' : vv_M} {T : Nat → Int32} (h : Tx P M len T) (h0 : M' (P + 150) = M (P + 150)) (h1 : M' (P + 150 + 1) = M (P + 150 + 1)) : Tx P M' len T := by
  unfold Tx at h ⊢
  rw [h0, h1]
  exact h
theorem Gc_ext {P r len : Nat} {M : vv_M} {R R' T : Nat → Int32} (h : ∀ k, k < 12738 → R' k = R k) (hG : Gc P M R r len T) : Gc P M R' r len T := by
  obtain ⟨h1, ⟨h2, o, h3, h4, h5, h6⟩, h7⟩ := hG
  exact ⟨Mo_ext (fun _ _ _ => rfl) (fun k hk => h k (by omega)) h1, ⟨h2, o, h3, h4, h5, fun i hi => Mo_ext (fun _ _ _ => rfl) (fun k hk => h _ (by omega)) (h6 i hi)⟩, h7⟩
theorem ix_rem6 (a : Nat) (h : a < 1000) : nI a - nI a / 6 * 6 = nI (a % 6) := pk_rem (a := a) (d := 6) (by omega) (by omega) (by omega)
theorem c_keep {n P : Nat} {M : vv_M} {R : Nat → Int32} {o r : Nat} (hn : 40 ≤ n) (ho : o < 6) (hr : r ≤ 5) (h1 : M (P + 22) 1 = nI o) (h2 : M (P + 22) 2 = nI r) (hM : Mo (P + 1) M R) : ∃ M', f_X0_keep n (P + 22) (P + 1) M = some ((), M') ∧ Mo (P + 22 + 2 + 21 * ((o + r) % 6)) M' R ∧ FrS (P + 22 + 2 + 21 * ((o + r) % 6)) (P + 22 + 2 + 21 * ((o + r) % 6) + 21) M M' := by
  have h6 : (o + r) % 6 < 6 := Nat.mod_lt _ (by omega)
  obtain ⟨M', a1, a2, a3⟩ := c_become1 (n := n) (p := P + 22 + 2 + 21 * ((o + r) % 6)) hn hM (by omega)
  refine ⟨M', ?_, a2, a3⟩
  have z6 : ((6 : Int32) = 0) = False := by decide
  unfold f_X0_keep
  simp (disch := omega) only [z6, ↓reduceIte, h1, h2, nI_add, ix_rem6, ix_n0, ix_nge, or_self, ix_cl, ↓bnd a1]
def gRec (R : Nat → Int32) (r : Nat) : Nat → Int32 := fun k => if k < 2123 then R k else if r = 5 then (if k < 10615 then R (k + 2123) else if k < 12738 then R (k - 10615) else R k) else if 2123 + 2123 * r ≤ k ∧ k < 4246 + 2123 * r then R (k - (2123 + 2123 * r)) else R k
def rNext (r : Nat) : Nat := if r = 5 then 5 else r + 1
theorem gRec_lo {R : Nat → Int32} {r k : Nat} (h : k < 2123) : gRec R r k = R k := if_pos h
