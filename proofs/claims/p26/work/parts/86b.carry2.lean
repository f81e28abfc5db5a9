theorem q_carryOut {n P r len : Nat} {M : vv_M} {f T : Nat → Int32} {h : Nat → Nat → Int32} {Z : (Nat → Int32) → Prop} (hZ : ∀ L v1 v2 g, gOk g → Z g → ¬ aO L v1 v2 g < 0 → Z (wO L v1 v2 g)) (hn : 5000 ≤ n) (hG : Gq P M f h r len T) (hZf : Z f) : ∃ x M1 len' T', f_X4_carryOut n P M = some (x, M1) ∧ (x ≤ -1100 ∧ Gq P M1 f h r len' T' ∨ (∃ c, c ≤ 100 ∧ x = nI c) ∧ ∃ f', (∀ k, 707 ≤ k → f' k = f k) ∧ Z f' ∧ Gq P M1 f' (hPush h r f) (rNext r) len' T') := by
  have hG0 := hG
  obtain ⟨hMo, ⟨hr, o, ho6, ho, hrr, hBk⟩, t1, t2, t3, t4⟩ := hG
  have hTk : Tk T len := ⟨t3, fun k hk => (t4 k hk).2⟩
  have hCs : Cs (P + 150) T len M := ⟨t1, fun k hk => (t4 k hk).1⟩
  obtain ⟨v, f1, f2, f3⟩ := faultsC (n := n) (p := P + 150) hTk hCs (len + 1) 0 (by omega) (by omega)
  have hff : f_X3_firstFault n (P + 150) M = some (v, M) := f1 n (by omega)
  unfold f_X4_carryOut
  rw [bnd hff, ix_let]
  by_cases hv : v = -1009
  rotate_left
  · obtain ⟨e, e1, rfl⟩ := f3.resolve_left hv
    refine ⟨-2000 - nI e, M, len, T, by rw [if_neg hv], Or.inl ⟨?_, hG0⟩⟩
    have e2 : (-2000 - nI e).toInt = -2000 - (e : Int) := by
      have h1 : (nI e).toInt = (e : Int) := nI_toInt (by omega)
      rw [Int32.toInt_sub, h1, show (-2000 : Int32).toInt = -2000 from rfl]
      exact Int.bmod_eq_of_le (by omega) (by omega)
    rw [Int32.le_iff_toInt_le, e2, show (-1100 : Int32).toInt = -1100 from rfl]
    omega
  have hGd := f2 hv
  obtain ⟨M1, a1, a2, a3⟩ := c_keep (n := n) (by omega) ho6 hr ho hrr hMo
  have hor : (o + r) % 6 < 6 := Nat.mod_lt _ (by omega)
  have hM1 : Mo (P + 1) M1 f := Mo_ext (fun x hx1 hx2 => a3 x (by omega)) (fun k hk => rfl) hMo
  obtain ⟨c', g', M2, k1, k2, k3, k4, kz, k5, k6⟩ := runC (n := n) (P := P) hZ hn hTk (len + 1) 0 0 f M1 hGd (by omega) hM1.1 hZf ⟨by rw [a3 _ (by omega)]; exact t1, fun k hk => by rw [a3 _ (by omega)]; exact (t4 k hk).1⟩ (by rw [a3 _ (by omega)]; exact t2)
  have hw : f_X3_wipe n (P + 150) M2 = some (nI len, va_up M2 (P + 150) (upd (upd (M2 (P + 150)) 1 0) 2 0)) := by
    unfold f_X3_wipe
    simp (disch := omega) only [↓ix_let, up_s, bx_uu, k6]
  have q1 : ∀ x, (x < P + 2 ∨ P + 8 ≤ x) → x ≠ P + 150 → va_up M2 (P + 150) (upd (upd (M2 (P + 150)) 1 0) 2 0) x = M1 x := fun x hx hx2 => by rw [up_n hx2]; exact k5 x hx hx2
  generalize hM3 : va_up M2 (P + 150) (upd (upd (M2 (P + 150)) 1 0) 2 0) = M3 at hw q1
  have q2 : ∀ x, x ≠ P + 150 → M3 x = M2 x := fun x hx => by rw [← hM3, up_n hx]
  have q3 : M3 (P + 150) 1 = 0 ∧ M3 (P + 150) 2 = 0 := by
    rw [← hM3, up_s]
    exact ⟨by rw [ud_ne (by omega), ud_s], by rw [ud_s]⟩
  have hMo3 : Mo (P + 1) M3 g' := by
    refine ⟨Ov_ext (fun x hx1 hx2 => q2 x (by omega)) (fun _ _ => rfl) k4, fun j hj => ?_⟩
    obtain ⟨d1, d2, d3⟩ := hM1.2 j hj
    rw [q1 _ (by omega) (by omega), k2 _ (by omega)]
    exact ⟨d1, d2, fun h => Ov_ext (fun x hx1 hx2 => q1 x (by omega) (by omega)) (fun k hk => k2 _ (by omega)) (d3 h)⟩
  have hB : ∀ i, i < r → Mo (P + 22 + 2 + 21 * ((o + i) % 6)) M3 (h i) := by
    intro i hi
    have : (o + i) % 6 < 6 := Nat.mod_lt _ (by omega)
    refine Mo_ext (fun x hx1 hx2 => ?_) (fun _ _ => rfl) (hBk i hi)
    rw [q1 x (by omega) (by omega), a3 x (by omega)]
  have hB2 : Mo (P + 22 + 2 + 21 * ((o + r) % 6)) M3 f := Mo_ext (fun x hx1 hx2 => q1 x (by omega) (by omega)) (fun _ _ => rfl) a2
  have hTx : Tx P M3 0 T := ⟨q3.1, q3.2, by omega, fun k hk => absurd hk (Nat.not_lt_zero k)⟩
  obtain ⟨M4, w1, w2, -⟩ := q_rec (n := n) (P := P) (M := M3) (x := nI c') hr ho6 (by rw [q1 _ (by omega) (by omega), a3 _ (by omega)]; exact ho) (by rw [q1 _ (by omega) (by omega), a3 _ (by omega)]; exact hrr) (nI_pos (by omega)) hMo3 hB hB2 hTx
  refine ⟨nI c', M4, 0, T, ?_, Or.inr ⟨⟨c', k1, rfl⟩, g', k2, kz, w2⟩⟩
  rw [if_pos hv, bnd a1]
  show f_X4_carryOut_34 n n P (nI 0) M1 = _
  rw [k3 n (by omega)]
  unfold f_X4_carryOut_90
  rw [bnd hw, bnd w1]
