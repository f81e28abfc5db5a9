/-! forecasts -/
theorem Gc_mem2 {P r len : Nat} {M M' : vv_M} {R T : Nat → Int32} (h : ∀ x, P ≤ x → x < P + 152 → M' x = M x) (hG : Gc P M R r len T) : Gc P M' R r len T := by
  obtain ⟨h1, ⟨h2, o, h3, h4, h5, h6⟩, h7⟩ := hG
  refine ⟨Mo_ext (fun q a b => h q (by omega) (by omega)) (fun k hk => rfl) h1, ⟨h2, o, h3, by rw [h _ (by omega) (by omega)]; exact h4, by rw [h _ (by omega) (by omega)]; exact h5, fun i hi => ?_⟩, Tx_ext h7 (h _ (by omega) (by omega)) (h _ (by omega) (by omega))⟩
  have : (o + i) % 6 < 6 := Nat.mod_lt _ (by omega)
  exact Mo_ext (fun q a b => h q (by omega) (by omega)) (fun k hk => rfl) (h6 i hi)
/-- agreement outside the place of a trial -/
def Ag (R R' : Nat → Int32) : Prop := ∀ k, k < 12738 ∨ 13445 ≤ k → R' k = R k
theorem Ag.rf {R : Nat → Int32} : Ag R R := fun _ _ => rfl
theorem Ag_copy {R R' : Nat → Int32} (h : Ag R R') : gCpy 0 12738 707 R' = gCpy 0 12738 707 R := by
  funext k
  unfold gCpy
  by_cases hk : 12738 ≤ k ∧ k < 12738 + 707
  · rw [if_pos hk, if_pos hk]
    exact h _ (Or.inl (by omega))
  · rw [if_neg hk, if_neg hk]
    exact h _ (by omega)
/-- what is copied back is what was there -/
theorem Ag_back {R W : Nat → Int32} (h : ∀ k, 707 ≤ k → W k = gCpy 0 12738 707 R k) : Ag R (gCpy 12738 0 707 W) := by
  intro k hk
  unfold gCpy
  by_cases h7 : k < 707
  · rw [if_pos (by omega), h _ (by omega)]
    unfold gCpy
    rw [if_pos (by omega), show 0 + (12738 + (k - 0) - 12738) = k by omega]
  · rw [if_neg (by omega), h _ (by omega)]
    unfold gCpy
    rw [if_neg (by omega)]
theorem Top.back {P Q : Nat} {M M1 M2 : vv_M} (hPQ : P + 158 ≤ Q) (hT : Top P Q M) (h1 : FrS (P + 152) (P + 158) M M1) (h2 : ∀ x, x ≠ Q + 1 → M2 x = M1 x) (h3 : Ag (M (Q + 1)) (M2 (Q + 1))) : Top P Q M2 := by
  obtain ⟨r, len, q1, q2, hG⟩ := hT
  have e : ∀ x, x ≠ Q + 1 → (x < P + 152 ∨ P + 158 ≤ x) → M2 x = M x := fun x hx hx2 => (h2 x hx).trans (h1 x hx2)
  refine ⟨r, len, by rw [e Q (by omega) (by omega)]; exact q1, by rw [e Q (by omega) (by omega)]; exact q2, ?_⟩
  rw [e (Q + 2) (by omega) (by omega)]
  exact Gc_ext (fun k hk => h3 k (Or.inl hk)) (Gc_mem2 (fun x _ hx => e x (by omega) (by omega)) hG)
