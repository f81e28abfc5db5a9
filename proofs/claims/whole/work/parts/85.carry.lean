/-! carryOut -/
theorem run {n P Q len : Nat} {T : Nat → Int32} (hPQ : P + 158 ≤ Q) (hn : 5000 ≤ n) (hT : Tk T len) : ∀ (d i c : Nat) (g : Nat → Int32) (M : vv_M), Good T len d i → 3 * c ≤ i → Ov (P + 1 + 1) M g → Cs (P + 150) T len M → M (P + 150) 2 = nI i → ∃ c' g' M', c' ≤ 100 ∧ (∀ k, 707 ≤ k → g' k = g k) ∧ (∀ k, d + 1 < k → f_X4_carryOut_34 n k P (nI c) M = f_X4_carryOut_90 n P (nI c') M') ∧ Ov (P + 1 + 1) M' g' ∧ (∀ x, (x < P + 2 ∨ P + 8 ≤ x) → x ≠ P + 150 → M' x = M x) ∧ M' (P + 150) 1 = nI len ∧ (∀ Mr k, d + 1 < k → Mr (Q + 1) = g → Rs Q T len i Mr → ∃ M2, f_X5_carryOut_26 n k Q (nI c) Mr = some (nI c', M2) ∧ M2 (Q + 1) = g' ∧ M2 Q 3 = 0 ∧ M2 Q 1 = Mr Q 1 ∧ ∀ x, x ≠ Q → x ≠ Q + 1 → M2 x = Mr x) := by
  have hl := hT.1
  intro d
  induction d with
  | zero => intro i c g M h; exact absurd h (fun q => q)
  | succ d ih =>
    intro i c g M hGd hc hO hC h2
    obtain ⟨ho, hnext⟩ := hGd
    have hi := isL_lt ho.1
    obtain ⟨e1, e2⟩ := ordE_le (T := T) (show i ≤ len by omega)
    have e3 := ordE_ok ho
    have he : len ≤ ordE T len i ∨ (ordE T len i < len ∧ ch T len (ordE T len i) = 59) := hnext.elim Or.inl (fun q => Or.inr ⟨q.1, q.2.1⟩)
    obtain ⟨M1, a1, a2, a3, a4, a5, a6, a7⟩ := c_readOrder (n := n) hn hT hC h2 ho he
    have hO1 : Ov (P + 1 + 1) M1 g := Ov_ext (fun q h1 h2 => a2 q (by omega)) (fun _ _ => rfl) hO
    have hOk : gOk g := by
      obtain ⟨l, q1, q2, q3, -⟩ := hO
      exact ⟨l, q1, q2, q3⟩
    have hob := o_obey (n := n) (p := P + 1 + 1) hn (ch T len i) (numV T len (i + 1)) (numV T len (numE T len (i + 1) + 1)) (M1 (P + 150) 4) (M1 (P + 150) 5) a6 a7
    obtain ⟨M2, b1, b2, b3, b4⟩ := hob M1 g hO1
    have hCl : ∀ k, f_X4_carryOut_34 n (k + 1) P (nI c) M = if aO (ch T len i) (numV T len (i + 1)) (numV T len (numE T len (i + 1) + 1)) g < 0 then f_X4_carryOut_90 n P (nI c) M2 else f_X4_carryOut_34 n k P (nI (c + 1)) M2 := by
      intro k
      rw [f_X4_carryOut_34.eq_2, if_neg (show ¬ (100 : Int32) ≤ nI c from fun h => absurd ((nI_leI (a := 100) (by omega) (by omega)).mp h) (by omega)), bnd a1]
      show (if (1 : Int32) = 0 then _ else (f_X2_obey n (P + 1 + 1) (M1 (P + 150) 3) (M1 (P + 150) 4) (M1 (P + 150) 5) M1).bind _) = _
      rw [if_neg (by decide), a5, bnd b1]
      dsimp only
      rw [ix_let, ix_al]
    have hfr : ∀ x, (x < P + 2 ∨ P + 8 ≤ x) → x ≠ P + 150 → M2 x = M x := fun x hx hx2 => by rw [b2 x (by omega), a2 x hx2]
    have h150 : M2 (P + 150) = M1 (P + 150) := b2 _ (by omega)
    -- the reference's step
    have hRf : ∀ Mr k, Mr (Q + 1) = g → Rs Q T len i Mr → ∃ M3, (∀ x, x ≠ Q → M3 x = Mr x) ∧ M3 Q 1 = Mr Q 1 ∧ Rs Q T len (ordE T len i) M3 ∧ f_X5_carryOut_26 n (k + 1) Q (nI c) Mr = if aO (ch T len i) (numV T len (i + 1)) (numV T len (numE T len (i + 1) + 1)) g < 0 then some (nI c, va_up M3 Q (upd (M3 Q) 3 0)) else f_X5_carryOut_26 n k Q (nI (c + 1)) (va_up (va_up M3 (Q + 1) (wO (ch T len i) (numV T len (i + 1)) (numV T len (numE T len (i + 1) + 1)) g)) Q (upd (M3 Q) 4 (nI (ordE T len i + 1)))) := by
      intro Mr k hg hS
      obtain ⟨M3, r1, r2, r3, r4⟩ := r_readsOrder (n := n) hT hS (show i ≤ len by omega)
      obtain ⟨r5, r6, r7⟩ := r4 ho
      have hS3 := hS.fr r2 r3
      have hM3 : M3 (Q + 1) = g := by rw [r2.1 _ (by omega)]; exact hg
      have hdo := r_does (n := n) (Q := Q) (M := M3) (L := ch T len i) (v1 := numV T len (i + 1)) (v2 := numV T len (numE T len (i + 1) + 1)) hn r5 r6 r7 (by rw [hM3]; exact hOk)
      rw [hM3] at hdo
      refine ⟨M3, r2.1, r2.2.1, hS3, ?_⟩
      rw [f_X5_carryOut_26.eq_2, hS.2.1, hS.2.2, if_neg (fun h => absurd ((nI_leI (by omega) (by omega)).mp h) (by omega)), bnd r1, zi_t ho]
      show (if (1 : Int32) = 0 then _ else (f_X5_does n Q M3).bind _) = _
      rw [if_neg (by decide), bnd hdo]
      by_cases hneg : aO (ch T len i) (numV T len (i + 1)) (numV T len (numE T len (i + 1) + 1)) g < 0
      · rw [zi_f (fun q => q hneg), if_pos hneg, if_pos hneg]
        rfl
      · rw [zi_t hneg, if_neg hneg, if_neg hneg]
        show (if (1 : Int32) = 0 then _ else _) = _
        rw [if_neg (by decide), ix_let, ix_let]
        dsimp only
        rw [up_n (by omega), hS3.2.2, ix_al, ix_al]
    by_cases hneg : aO (ch T len i) (numV T len (i + 1)) (numV T len (numE T len (i + 1) + 1)) g < 0
    · refine ⟨c, g, M2, by omega, fun _ _ => rfl, fun k hk => ?_, b3 hneg, hfr, by rw [h150]; exact a3, fun Mr k hk hg hS => ?_⟩
      · obtain ⟨k, rfl⟩ : ∃ q, k = q + 1 := ⟨k - 1, by omega⟩
        rw [hCl, if_pos hneg]
      · obtain ⟨k, rfl⟩ : ∃ q, k = q + 1 := ⟨k - 1, by omega⟩
        obtain ⟨M3, r1, r2, r3, r4⟩ := hRf Mr k hg hS
        refine ⟨_, by rw [r4, if_pos hneg], ?_, by rw [up_s, ud_s], by rw [up_s, ud_ne (by omega)]; exact r2, fun x hx hx2 => by rw [up_n hx]; exact r1 x hx⟩
        rw [up_n (by omega), r1 _ (by omega)]
        exact hg
    · have hO2 := b4 hneg
      have hhi : ∀ k, 707 ≤ k → wO (ch T len i) (numV T len (i + 1)) (numV T len (numE T len (i + 1) + 1)) g k = g k := by
        obtain ⟨l, q1, q2, -⟩ := hO
        exact fun k hk => wO_hi q1 q2 hneg hk
      rcases hnext with hend | ⟨hlt, h59, hGd⟩
      · refine ⟨c + 1, _, M2, by omega, hhi, fun k hk => ?_, hO2, hfr, by rw [h150]; exact a3, fun Mr k hk hg hS => ?_⟩
        · obtain ⟨k, rfl⟩ : ∃ q, k = q + 2 := ⟨k - 2, by omega⟩
          rw [hCl, if_neg hneg, f_X4_carryOut_34.eq_2, if_neg (show ¬ (100 : Int32) ≤ nI (c + 1) from fun h => absurd ((nI_leI (a := 100) (by omega) (by omega)).mp h) (by omega))]
          have e0 : f_X3_readOrder n (P + 150) M2 = some (0, M2) := by
            unfold f_X3_readOrder
            rw [h150, a3, a4, if_neg (fun h => absurd ((nI_ltI (by omega) (by omega)).mp h) (by omega))]
          rw [bnd e0]
          rfl
        · obtain ⟨k, rfl⟩ : ∃ q, k = q + 2 := ⟨k - 2, by omega⟩
          obtain ⟨M3, r1, r2, r3, r4⟩ := hRf Mr (k + 1) hg hS
          generalize hM5 : va_up (va_up M3 (Q + 1) (wO (ch T len i) (numV T len (i + 1)) (numV T len (numE T len (i + 1) + 1)) g)) Q (upd (M3 Q) 4 (nI (ordE T len i + 1))) = M5 at r4
          have s1 : M5 Q = upd (M3 Q) 4 (nI (ordE T len i + 1)) := by rw [← hM5, up_s]
          have s2 : M5 (Q + 1) = wO (ch T len i) (numV T len (i + 1)) (numV T len (numE T len (i + 1) + 1)) g := by rw [← hM5, up_n (by omega), up_s]
          have s3 : ∀ x, x ≠ Q → x ≠ Q + 1 → M5 x = Mr x := fun x hx hx2 => by rw [← hM5, up_n hx, up_n hx2]; exact r1 x hx
          have s4 : M5 Q 3 = nI len := by rw [s1, ud_ne (by omega)]; exact r3.2.1
          have s5 : M5 Q 4 = nI (ordE T len i + 1) := by rw [s1, ud_s]
          refine ⟨va_up M5 Q (upd (M5 Q) 3 0), ?_, by rw [up_n (by omega)]; exact s2, by rw [up_s, ud_s], by rw [up_s, ud_ne (by omega), s1, ud_ne (by omega)]; exact r2, fun x hx hx2 => by rw [up_n hx]; exact s3 x hx hx2⟩
          rw [r4, if_neg hneg, f_X5_carryOut_26.eq_2, s4, s5, if_pos (nI_le (by omega) (by omega)), ix_let]
      · obtain ⟨c', g', M', k1, k2, k3, k4, k5, k6, k7⟩ := ih (ordE T len i + 1) (c + 1) _ M2 hGd (by omega) hO2 ⟨by rw [h150]; exact a3, fun k hk => by rw [hfr _ (by omega) (by omega)]; exact hC.2 k hk⟩ (by rw [h150]; exact a4)
        refine ⟨c', g', M', k1, fun k hk => (k2 k hk).trans (hhi k hk), fun k hk => ?_, k4, fun x hx hx2 => (k5 x hx hx2).trans (hfr x hx hx2), k6, fun Mr k hk hg hS => ?_⟩
        · obtain ⟨k, rfl⟩ : ∃ q, k = q + 1 := ⟨k - 1, by omega⟩
          rw [hCl, if_neg hneg]
          exact k3 k (by omega)
        · obtain ⟨k, rfl⟩ : ∃ q, k = q + 1 := ⟨k - 1, by omega⟩
          obtain ⟨M3, r1, r2, r3, r4⟩ := hRf Mr k hg hS
          obtain ⟨M4, s1, s2, s3, s4, s5⟩ := k7 _ k (by omega) (show (va_up (va_up M3 (Q + 1) (wO (ch T len i) (numV T len (i + 1)) (numV T len (numE T len (i + 1) + 1)) g)) Q (upd (M3 Q) 4 (nI (ordE T len i + 1)))) (Q + 1) = _ by rw [up_n (by omega), up_s]) ⟨by rw [up_n (by omega), up_n (by omega)]; exact r3.1, by rw [up_s, ud_ne (by omega)]; exact r3.2.1, by rw [up_s, ud_s]⟩
          refine ⟨M4, by rw [r4, if_neg hneg]; exact s1, s2, s3, ?_, fun x hx hx2 => ?_⟩
          · rw [s4, up_s, ud_ne (by omega)]
            exact r2
          · rw [s5 x hx hx2, up_n hx, up_n hx2]
            exact r1 x hx
theorem p_carryOut {n P Q : Nat} (hPQ : P + 158 ≤ Q) (hn : 5000 ≤ n) : Pr P Q (f_X4_carryOut n P) (f_X5_carryOut n Q) := by
  intro M hTop
  have hTop0 := hTop
  obtain ⟨r, len, h1, h2, hG⟩ := hTop
  have hG0 := hG
  obtain ⟨hMo, ⟨hr, o, ho6, ho, hrr, hBk⟩, t1, t2, t3, t4⟩ := hG
  have hTk : Tk (M (Q + 2)) len := ⟨t3, fun k hk => (t4 k hk).2⟩
  have hCs : Cs (P + 150) (M (Q + 2)) len M := ⟨t1, fun k hk => (t4 k hk).1⟩
  obtain ⟨v, f1, f2, f3, f4⟩ := faults (n := n) (p := P + 150) (Q := Q) hTk hCs (len + 1) 0 (by omega) (by omega)
  have hff : f_X3_firstFault n (P + 150) M = some (v, M) := f1 n (by omega)
  -- the reference's faultOf, from any memory that agrees
  have hfo : ∀ Mr, Mr (Q + 2) = M (Q + 2) → Mr Q 3 = nI len → ∃ M2, f_X5_faultOf n Q Mr = some (if v = -1009 then -1 else v, M2) ∧ Rf Q Mr M2 := by
    intro Mr e1 e2
    have hS : Rs Q (M (Q + 2)) len 0 (va_up Mr Q (upd (Mr Q) 4 0)) := ⟨by rw [up_n (by omega)]; exact e1, by rw [up_s, ud_ne (by omega)]; exact e2, by rw [up_s, ud_s]; rfl⟩
    obtain ⟨M1, b1, b2, b3⟩ := f4 _ hS
    obtain ⟨M2, c1, c2⟩ := b3 n (by omega)
    refine ⟨M2, ?_, ((Rf.up (by omega)).tr b2).tr c2⟩
    unfold f_X5_faultOf
    rw [ix_let, bnd b1, ix_let]
    exact c1
  have hv1 : ((-1 : Int32) < 0) = True := by decide
  unfold f_X4_carryOut f_X5_carryOut
  rw [bnd hff, ix_let]
  by_cases hv : v = -1009
  rotate_left
  · obtain ⟨e, e1, e2⟩ := f3.resolve_left hv
    obtain ⟨M2, c1, c2⟩ := hfo M rfl h2
    rw [if_neg hv] at c1
    refine ⟨-2000 - v, M, M2, by rw [if_neg hv], ?_, ?_⟩
    · rw [bnd c1, ix_let, if_neg (by rw [e2]; exact nI_pos (by omega))]
    · refine ⟨r, len, by rw [c2.2.1]; exact h1, by rw [c2.2.2]; exact h2, ?_⟩
      rw [c2.1 _ (by omega), c2.1 _ (by omega)]
      exact Gc_mem (fun x _ hx => c2.1 x (by omega)) hG0
  have hGd := f2 hv
  obtain ⟨M1, a1, a2, a3⟩ := c_keep (n := n) (by omega) ho6 hr ho hrr hMo
  have hor : (o + r) % 6 < 6 := Nat.mod_lt _ (by omega)
  have hM1 : Mo (P + 1) M1 (gRec (M (Q + 1)) r) := Mo_ext (fun x hx1 hx2 => a3 x (by omega)) (fun k hk => gRec_lo hk) hMo
  obtain ⟨c', g', M2, k1, k2, k3, k4, k5, k6, k7⟩ := run (n := n) hPQ hn hTk (len + 1) 0 0 (gRec (M (Q + 1)) r) M1 hGd (by omega) hM1.1 ⟨by rw [a3 _ (by omega)]; exact t1, fun k hk => by rw [a3 _ (by omega)]; exact (t4 k hk).1⟩ (by rw [a3 _ (by omega)]; exact t2)
  -- wipe, and the record
  have hw : f_X3_wipe n (P + 150) M2 = some (nI len, va_up M2 (P + 150) (upd (upd (M2 (P + 150)) 1 0) 2 0)) := by
    unfold f_X3_wipe
    simp (disch := omega) only [↓ix_let, up_s, bx_uu, k6]
  have q1 : ∀ x, (x < P + 2 ∨ P + 8 ≤ x) → x ≠ P + 150 → va_up M2 (P + 150) (upd (upd (M2 (P + 150)) 1 0) 2 0) x = M1 x := fun x hx hx2 => by rw [up_n hx2]; exact k5 x hx hx2
  generalize hM3 : va_up M2 (P + 150) (upd (upd (M2 (P + 150)) 1 0) 2 0) = M3 at hw q1
  have q2 : ∀ x, x ≠ P + 150 → M3 x = M2 x := fun x hx => by rw [← hM3, up_n hx]
  have q3 : M3 (P + 150) 1 = 0 ∧ M3 (P + 150) 2 = 0 := by
    rw [← hM3, up_s]
    exact ⟨by rw [ud_ne (by omega), ud_s], by rw [ud_s]⟩
  have hMo3 : Mo (P + 1) M3 g' := by
    refine ⟨Ov_ext (fun x hx1 hx2 => q2 x (by omega)) (fun _ _ => rfl) k4, fun j hj => ?_⟩
    obtain ⟨d1, d2, d3⟩ := hM1.2 j hj
    rw [q1 _ (by omega) (by omega), k2 _ (by omega)]
    exact ⟨d1, d2, fun h => Ov_ext (fun x hx1 hx2 => q1 x (by omega) (by omega)) (fun k hk => k2 _ (by omega)) (d3 h)⟩
  have hB : ∀ i, i < r → Mo (P + 22 + 2 + 21 * ((o + i) % 6)) M3 (fun k => M (Q + 1) (2123 + 2123 * i + k)) := by
    intro i hi
    have : (o + i) % 6 < 6 := Nat.mod_lt _ (by omega)
    refine Mo_ext (fun x hx1 hx2 => ?_) (fun _ _ => rfl) (hBk i hi)
    rw [q1 x (by omega) (by omega), a3 x (by omega)]
  have hB2 : Mo (P + 22 + 2 + 21 * ((o + r) % 6)) M3 (M (Q + 1)) := Mo_ext (fun x hx1 hx2 => q1 x (by omega) (by omega)) (fun _ _ => rfl) a2
  have hTx : Tx P M3 0 (M (Q + 2)) := ⟨q3.1, q3.2, by omega, fun k hk => absurd hk (Nat.not_lt_zero k)⟩
  obtain ⟨M4, w1, w2, w3⟩ := c_rec (n := n) (P := P) (M := M3) (R1 := g') (x := nI c') hr ho6 (by rw [q1 _ (by omega) (by omega), a3 _ (by omega)]; exact ho) (by rw [q1 _ (by omega) (by omega), a3 _ (by omega)]; exact hrr) (nI_pos (by omega)) hMo3 hB hB2 hTx (fun k hk => k2 k (by omega))
  have hM4 : ∀ x, P + 158 ≤ x → M4 x = M x := fun x hx => by rw [w3 x (by omega), q1 x (by omega) (by omega), a3 x (by omega)]
  obtain ⟨M5, z1, z2⟩ := hfo M4 (hM4 _ (by omega)) (by rw [hM4 _ hPQ]; exact h2)
  rw [if_pos hv] at z1
  have hM5 : M5 (Q + 1) = M (Q + 1) := by rw [z2.1 _ (by omega), hM4 _ (by omega)]
  have h51 : M5 Q 1 = nI r := by rw [z2.2.1, hM4 _ hPQ]; exact h1
  have h53 : M5 Q 3 = nI len := by rw [z2.2.2, hM4 _ hPQ]; exact h2
  obtain ⟨M6, y1, y2, y3, y4, y5⟩ := k7 (va_up (mRec Q r M5) Q (upd (mRec Q r M5 Q) 4 0)) n (by omega) (by rw [up_n (by omega), mRec_1, hM5]) ⟨by
    rw [up_n (by omega)]
    unfold mRec
    rw [up_n (by omega), up_n (by omega), z2.1 _ (by omega), hM4 _ (by omega)], by
    rw [up_s, ud_ne (by omega)]
    unfold mRec
    rw [up_s, ud_ne (by omega)]
    exact h53, by rw [up_s, ud_s]; rfl⟩
  refine ⟨nI c', M4, M6, ?_, ?_, rNext r, 0, ?_, ?_, ?_⟩
  · rw [if_pos hv, bnd a1]
    show f_X4_carryOut_34 n n P (nI 0) M1 = _
    rw [k3 n (by omega)]
    unfold f_X4_carryOut_90
    rw [bnd hw, bnd w1]
  · rw [bnd z1, ix_let, if_pos (show (-1 : Int32) < 0 by decide), bnd (r_rec M5 hn hr h51), ix_let]
    exact y1
  · rw [y4, up_s, ud_ne (by omega)]
    unfold mRec
    rw [up_s, ud_s]
  · rw [y3]; rfl
  · rw [y2]
    refine Gc_T (T := M (Q + 2)) (fun k hk => absurd hk (Nat.not_lt_zero k)) (Gc_mem (M := M4) (fun x _ hx => ?_) w2)
    rw [y5 x (by omega) (by omega), up_n (by omega)]
    unfold mRec
    rw [up_n (by omega), up_n (by omega), z2.1 _ (by omega)]
