theorem c_readOrder {n p len i : Nat} {T : Nat → Int32} {M : vv_M} (hn : 5000 ≤ n) (hT : Tk T len) (hC : Cs p T len M) (h2 : M p 2 = nI i) (ho : ordOk T len i) (he : len ≤ ordE T len i ∨ (ordE T len i < len ∧ ch T len (ordE T len i) = 59)) : ∃ M', f_X3_readOrder n p M = some (1, M') ∧ (∀ x, x ≠ p → M' x = M x) ∧ M' p 1 = nI len ∧ M' p 2 = nI (ordE T len i + 1) ∧ M' p 3 = ch T len i ∧ (ch T len i = 108 → M' p 4 = numV T len (i + 1) ∧ M' p 5 = numV T len (numE T len (i + 1) + 1)) ∧ (ch T len i ≠ 108 → M' p 5 = numV T len (i + 1)) := by
  have hl := hT.1
  have hi := isL_lt ho.1
  obtain ⟨g1, g2⟩ := ordE_le (T := T) (show i ≤ len by omega)
  have hCq : ∀ q, q < len → M (p + 1) q = T q := hC.2
  have hs : len ≤ ordE T len i ∧ ordE T len i ≤ 1000 ∨ (ordE T len i < len ∧ ch T len (ordE T len i) = 59) := by
    rcases he with h | h
    · exact Or.inl ⟨h, by omega⟩
    · exact Or.inr h
  have hstart : ∀ M', RO n p M len (upd (upd (upd (M p) 3 (T i)) 5 0) 2 (nI (i + 1))) (i + 1) M' → f_X3_readOrder n p M = some (1, M') := by
    intro M' h
    unfold f_X3_readOrder
    rw [hC.1, h2, if_pos (nI_lt hi (by omega)), if_neg (nI_in (by omega) (by omega)), ix_cl (by omega), hCq i hi]
    simp (disch := omega) only [↓ix_let, up_s, bx_uu, ud_ne, h2, ix_al]
    exact h n (by omega)
  generalize hr0 : upd (upd (upd (M p) 3 (T i)) 5 0) 2 (nI (i + 1)) = r0 at hstart
  have a1 : r0 1 = nI len := by rw [← hr0, ud_ne (by omega), ud_ne (by omega), ud_ne (by omega)]; exact hC.1
  have a2 : r0 2 = nI (i + 1) := by rw [← hr0, ud_s]
  have a3 : r0 3 = ch T len i := by rw [← hr0, ud_ne (by omega), ud_ne (by omega), ud_s, ch_T hi]
  have a5 : r0 5 = 0 := by rw [← hr0, ud_ne (by omega), ud_s]
  by_cases h8 : ch T len i = 108
  · have hE : ordE T len i = numE T len (numE T len (i + 1) + 1) := by
      unfold ordE
      rw [if_pos ho.1, if_pos ho.2.1, if_pos h8, if_pos (ho.2.2 h8).1]
    have hlt2 : numE T len (i + 1) < len := by
      rcases Nat.lt_or_ge (numE T len (i + 1)) len with h1 | h1
      · exact h1
      · have := (ho.2.2 h8).1
        rw [ch_0 h1] at this
        exact absurd this (by decide)
    rw [hE] at hs ⊢
    refine ⟨va_up M p (upd (upd (upd (upd (upd (upd (upd r0 5 (numV T len (i + 1))) 2 (nI (numE T len (i + 1)))) 4 (numV T len (i + 1))) 5 0) 2 (nI (numE T len (i + 1) + 1))) 5 (numV T len (numE T len (i + 1) + 1))) 2 (nI (numE T len (numE T len (i + 1) + 1) + 1))), hstart _ ?_, fun x hx => up_n hx, ?_, ?_, ?_, fun _ => ⟨?_, ?_⟩, fun q => absurd h8 q⟩
    · refine RO_num hT hCq a1 a2 a5 ho.2.1 ?_
      refine RO_comma hT hCq (by rw [ud_ne (by omega), ud_ne (by omega)]; exact a1) (by rw [ud_s]) hlt2 (ho.2.2 h8).1 ?_
      have e4 : upd (upd r0 5 (numV T len (i + 1))) 2 (nI (numE T len (i + 1))) 5 = numV T len (i + 1) := by rw [ud_ne (by omega), ud_s]
      rw [e4]
      refine RO_num hT hCq (by rw [ud_ne (by omega), ud_ne (by omega), ud_ne (by omega), ud_ne (by omega), ud_ne (by omega)]; exact a1) (by rw [ud_s]) (by rw [ud_ne (by omega), ud_s]) (ho.2.2 h8).2 ?_
      have hst := RO_stop (n := n) (M := M) (r := upd (upd (upd (upd (upd (upd (upd r0 5 (numV T len (i + 1))) 2 (nI (numE T len (i + 1)))) 4 (numV T len (i + 1))) 5 0) 2 (nI (numE T len (i + 1) + 1))) 5 (numV T len (numE T len (i + 1) + 1))) 2 (nI (numE T len (numE T len (i + 1) + 1)))) (j := numE T len (numE T len (i + 1) + 1)) hT hCq (by simp (disch := omega) only [ud_ne, a1]) (by rw [ud_s]) hs
      rw [ud_ud] at hst
      exact hst
    · rw [up_s]
      simp (disch := omega) only [ud_ne, a1]
    · rw [up_s, ud_s]
    · rw [up_s]
      simp (disch := omega) only [ud_ne, a3]
    · rw [up_s]
      simp (disch := omega) only [ud_ne, ud_s]
    · rw [up_s]
      simp (disch := omega) only [ud_ne, ud_s]
  · have hE : ordE T len i = numE T len (i + 1) := by
      unfold ordE
      rw [if_pos ho.1, if_pos ho.2.1, if_neg h8]
    rw [hE] at hs ⊢
    refine ⟨va_up M p (upd (upd r0 5 (numV T len (i + 1))) 2 (nI (numE T len (i + 1) + 1))), hstart _ ?_, fun x hx => up_n hx, ?_, ?_, ?_, fun q => absurd q h8, fun _ => ?_⟩
    · refine RO_num hT hCq a1 a2 a5 ho.2.1 ?_
      have hst := RO_stop (n := n) (M := M) (r := upd (upd r0 5 (numV T len (i + 1))) 2 (nI (numE T len (i + 1)))) (j := numE T len (i + 1)) hT hCq (by simp (disch := omega) only [ud_ne, a1]) (by rw [ud_s]) hs
      rw [ud_ud] at hst
      exact hst
    · rw [up_s]
      simp (disch := omega) only [ud_ne, a1]
    · rw [up_s, ud_s]
    · rw [up_s]
      simp (disch := omega) only [ud_ne, a3]
    · rw [up_s]
      simp (disch := omega) only [ud_ne, ud_s]
/-! an order, carried out -/
def aO (L v1 v2 : Int32) (g : Nat → Int32) : Int32 := if L = 108 then aLoad v1 v2 g else if L = 112 then aPass v1 g else if L = 116 then aOff v1 g else aNum 0 v1 g
def wO (L v1 v2 : Int32) (g : Nat → Int32) : Nat → Int32 := if L = 108 then nLoad v1 v2 g else if L = 112 then nPass v1 g else if L = 116 then nOff v1 g else nNum 0 v1 g
theorem o_obey {n p : Nat} (hn : 5000 ≤ n) (L v1 v2 c v : Int32) (h8 : L = 108 → c = v1 ∧ v = v2) (h9 : L ≠ 108 → v = v1) : OpC p (aO L v1 v2) (wO L v1 v2) (f_X2_obey n p L c v) := by
  have hb : ∀ {a : (Nat → Int32) → Int32} {w : (Nat → Int32) → Nat → Int32} {f f' : vv_M → Option (Int32 × vv_M)}, OpC p a w f → (∀ M, f' M = (f M).bind (fun (u : Int32 × vv_M) => some (u.1, u.2))) → OpC p a w f' := by
    intro a w f f' h hf M g hg
    obtain ⟨M', a1, a2⟩ := h M g hg
    exact ⟨M', by rw [hf, bnd a1], a2⟩
  by_cases q8 : L = 108
  · obtain ⟨rfl, rfl⟩ := h8 q8
    have e1 : aO L c v = aLoad c v := by funext g; exact if_pos q8
    have e2 : wO L c v = nLoad c v := by funext g; exact if_pos q8
    rw [e1, e2]
    refine hb (o_load (n := n) (by omega) c v) fun M => ?_
    unfold f_X2_obey
    rw [if_pos q8]
  obtain rfl := h9 q8
  by_cases q12 : L = 112
  · have e1 : aO L v v2 = aPass v := by funext g; unfold aO; rw [if_neg q8, if_pos q12]
    have e2 : wO L v v2 = nPass v := by funext g; unfold wO; rw [if_neg q8, if_pos q12]
    rw [e1, e2]
    refine hb (o_pass (n := n) (by omega) v) fun M => ?_
    unfold f_X2_obey
    rw [if_neg q8, if_pos q12]
  by_cases q16 : L = 116
  · have e1 : aO L v v2 = aOff v := by funext g; unfold aO; rw [if_neg q8, if_neg q12, if_pos q16]
    have e2 : wO L v v2 = nOff v := by funext g; unfold wO; rw [if_neg q8, if_neg q12, if_pos q16]
    rw [e1, e2]
    refine hb (o_off (n := n) (by omega) v) fun M => ?_
    unfold f_X2_obey
    rw [if_neg q8, if_neg q12, if_pos q16]
  · have e1 : aO L v v2 = aNum 0 v := by funext g; unfold aO; rw [if_neg q8, if_neg q12, if_neg q16]
    have e2 : wO L v v2 = nNum 0 v := by funext g; unfold wO; rw [if_neg q8, if_neg q12, if_neg q16]
    rw [e1, e2]
    refine hb (o_num (n := n) (by omega) 0 v) fun M => ?_
    unfold f_X2_obey
    rw [if_neg q8, if_neg q12, if_neg q16]
theorem wO_hi {L v1 v2 : Int32} {g : Nat → Int32} {l k : Nat} (hl : l ≤ 30) (hI : gInv g l) (h : ¬ aO L v1 v2 g < 0) (hk : 707 ≤ k) : wO L v1 v2 g k = g k := by
  unfold aO at h
  unfold wO
  by_cases q8 : L = 108
  · rw [if_pos q8] at h ⊢
    exact w_load hl hI h hk
  rw [if_neg q8] at h ⊢
  by_cases q12 : L = 112
  · rw [if_pos q12] at h ⊢
    exact w_pass hl hI hk
  rw [if_neg q12] at h ⊢
  by_cases q16 : L = 116
  · rw [if_pos q16] at h ⊢
    exact w_off hl hI h hk
  rw [if_neg q16] at h ⊢
  exact w_num h hk
theorem t01 : ((0 : Int32) = 0) = True := by decide
