/-! carryOut, in the class -/
theorem faultsC {n p len : Nat} {T : Nat → Int32} {Mc : vv_M} (hT : Tk T len) (hC : Cs p T len Mc) : ∀ (d i : Nat), len - i < d → i ≤ len → ∃ v, FF n p Mc len 0 i v ∧ (v = -1009 → Good T len d i) ∧ (v = -1009 ∨ ∃ e, e ≤ len ∧ v = nI e) := by
  have hl := hT.1
  intro d
  induction d with
  | zero => intro i h; omega
  | succ d ih =>
    intro i hd hi
    obtain ⟨f1, f2⟩ := FF_0 (n := n) hT hC hi
    obtain ⟨e1, e2⟩ := ordE_le (T := T) hi
    by_cases ho : ordOk T len i
    rotate_left
    · exact ⟨_, f1 ho, fun h => absurd h (nI_ne9 (by omega)), Or.inr ⟨_, e2, rfl⟩⟩
    obtain ⟨f3, f4, f5⟩ := f2 ho
    have e3 := ordE_ok ho
    by_cases hle : len ≤ ordE T len i
    · exact ⟨_, f3 hle, fun _ => ⟨ho, Or.inl hle⟩, Or.inl rfl⟩
    have hlt : ordE T len i < len := by omega
    by_cases h59 : ch T len (ordE T len i) = 59
    rotate_left
    · exact ⟨_, f4 hlt h59, fun h => absurd h (nI_ne9 (by omega)), Or.inr ⟨_, e2, rfl⟩⟩
    · obtain ⟨v, b1, b2, b3⟩ := ih (ordE T len i + 1) (by omega) (by omega)
      exact ⟨v, f5 hlt h59 v b1, fun h => ⟨ho, Or.inr ⟨hlt, h59, b2 h⟩⟩, b3⟩
theorem runC {n P len : Nat} {T : Nat → Int32} {Z : (Nat → Int32) → Prop} (hZ : ∀ L v1 v2 g, gOk g → Z g → ¬ aO L v1 v2 g < 0 → Z (wO L v1 v2 g)) (hn : 5000 ≤ n) (hT : Tk T len) : ∀ (d i c : Nat) (g : Nat → Int32) (M : vv_M), Good T len d i → 3 * c ≤ i → Ov (P + 1 + 1) M g → Z g → Cs (P + 150) T len M → M (P + 150) 2 = nI i → ∃ c' g' M', c' ≤ 100 ∧ (∀ k, 707 ≤ k → g' k = g k) ∧ (∀ k, d + 1 < k → f_X4_carryOut_34 n k P (nI c) M = f_X4_carryOut_90 n P (nI c') M') ∧ Ov (P + 1 + 1) M' g' ∧ Z g' ∧ (∀ x, (x < P + 2 ∨ P + 8 ≤ x) → x ≠ P + 150 → M' x = M x) ∧ M' (P + 150) 1 = nI len := by
  have hl := hT.1
  intro d
  induction d with
  | zero => intro i c g M h; exact absurd h (fun q => q)
  | succ d ih =>
    intro i c g M hGd hc hO hZg hC h2
    obtain ⟨ho, hnext⟩ := hGd
    have hi := isL_lt ho.1
    obtain ⟨e1, e2⟩ := ordE_le (T := T) (show i ≤ len by omega)
    have e3 := ordE_ok ho
    have he : len ≤ ordE T len i ∨ (ordE T len i < len ∧ ch T len (ordE T len i) = 59) := hnext.elim Or.inl (fun q => Or.inr ⟨q.1, q.2.1⟩)
    obtain ⟨M1, a1, a2, a3, a4, a5, a6, a7⟩ := c_readOrder (n := n) hn hT hC h2 ho he
    have hO1 : Ov (P + 1 + 1) M1 g := Ov_ext (fun q h1 h2 => a2 q (by omega)) (fun _ _ => rfl) hO
    have hOk : gOk g := by
      obtain ⟨l, q1, q2, q3, -⟩ := hO
      exact ⟨l, q1, q2, q3⟩
    have hob := o_obey (n := n) (p := P + 1 + 1) hn (ch T len i) (numV T len (i + 1)) (numV T len (numE T len (i + 1) + 1)) (M1 (P + 150) 4) (M1 (P + 150) 5) a6 a7
    obtain ⟨M2, b1, b2, b3, b4⟩ := hob M1 g hO1
    have hCl : ∀ k, f_X4_carryOut_34 n (k + 1) P (nI c) M = if aO (ch T len i) (numV T len (i + 1)) (numV T len (numE T len (i + 1) + 1)) g < 0 then f_X4_carryOut_90 n P (nI c) M2 else f_X4_carryOut_34 n k P (nI (c + 1)) M2 := by
      intro k
      rw [f_X4_carryOut_34.eq_2, if_neg (show ¬ (100 : Int32) ≤ nI c from fun h => absurd ((nI_leI (a := 100) (by omega) (by omega)).mp h) (by omega)), bnd a1]
      show (if (1 : Int32) = 0 then _ else (f_X2_obey n (P + 1 + 1) (M1 (P + 150) 3) (M1 (P + 150) 4) (M1 (P + 150) 5) M1).bind _) = _
      rw [if_neg (by decide), a5, bnd b1]
      dsimp only
      rw [ix_let, ix_al]
    have hfr : ∀ x, (x < P + 2 ∨ P + 8 ≤ x) → x ≠ P + 150 → M2 x = M x := fun x hx hx2 => by rw [b2 x (by omega), a2 x hx2]
    have h150 : M2 (P + 150) = M1 (P + 150) := b2 _ (by omega)
    by_cases hneg : aO (ch T len i) (numV T len (i + 1)) (numV T len (numE T len (i + 1) + 1)) g < 0
    · refine ⟨c, g, M2, by omega, fun _ _ => rfl, fun k hk => ?_, b3 hneg, hZg, hfr, by rw [h150]; exact a3⟩
      obtain ⟨k, rfl⟩ : ∃ q, k = q + 1 := ⟨k - 1, by omega⟩
      rw [hCl, if_pos hneg]
    · have hO2 := b4 hneg
      have hZ2 := hZ _ _ _ _ hOk hZg hneg
      have hhi : ∀ k, 707 ≤ k → wO (ch T len i) (numV T len (i + 1)) (numV T len (numE T len (i + 1) + 1)) g k = g k := by
        obtain ⟨l, q1, q2, -⟩ := hO
        exact fun k hk => wO_hi q1 q2 hneg hk
      rcases hnext with hend | ⟨hlt, h59, hGd⟩
      · refine ⟨c + 1, _, M2, by omega, hhi, fun k hk => ?_, hO2, hZ2, hfr, by rw [h150]; exact a3⟩
        obtain ⟨k, rfl⟩ : ∃ q, k = q + 2 := ⟨k - 2, by omega⟩
        rw [hCl, if_neg hneg, f_X4_carryOut_34.eq_2, if_neg (show ¬ (100 : Int32) ≤ nI (c + 1) from fun h => absurd ((nI_leI (a := 100) (by omega) (by omega)).mp h) (by omega))]
        have e0 : f_X3_readOrder n (P + 150) M2 = some (0, M2) := by
          unfold f_X3_readOrder
          rw [h150, a3, a4, if_neg (fun h => absurd ((nI_ltI (by omega) (by omega)).mp h) (by omega))]
        rw [bnd e0]
        rfl
      · obtain ⟨c', g', M', k1, k2, k3, k4, k4z, k5, k6⟩ := ih (ordE T len i + 1) (c + 1) _ M2 hGd (by omega) hO2 hZ2 ⟨by rw [h150]; exact a3, fun k hk => by rw [hfr _ (by omega) (by omega)]; exact hC.2 k hk⟩ (by rw [h150]; exact a4)
        refine ⟨c', g', M', k1, fun k hk => (k2 k hk).trans (hhi k hk), fun k hk => ?_, k4, k4z, fun x hx hx2 => (k5 x hx hx2).trans (hfr x hx hx2), k6⟩
        obtain ⟨k, rfl⟩ : ∃ q, k = q + 1 := ⟨k - 1, by omega⟩
        rw [hCl, if_neg hneg]
        exact k3 k (by omega)
