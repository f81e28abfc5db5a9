/-! the law's loop -/
theorem ifx {c : Prop} [Decidable c] {a b : Option (Int32 × vv_M)} (h1 : c → ∃ M', a = some (1, M')) (h2 : ¬ c → ∃ M', b = some (1, M')) : ∃ M', (if c then a else b) = some (1, M') := by
  by_cases h : c
  · rw [if_pos h]; exact h1 h
  · rw [if_neg h]; exact h2 h
theorem l_step {n P Q : Nat} {sc : List Int32} {k18 : Nat → Nat → Int32 → vv_M → Option (Int32 × vv_M)} {x : Int32} {fC fR : vv_M → Option (Int32 × vv_M)} {M : vv_M} (hP : Pr P Q fC fR) (hT : Top P Q M) (ih : ∀ M2, Top P Q M2 → ∃ M', f_L_law_779 n sc k18 P Q x M2 = some (1, M')) : ∃ M', (fC M).bind (fun (u : Int32 × vv_M) => (fR u.2).bind (fun (v : Int32 × vv_M) => if u.1 = v.1 then f_L_law_779 n sc k18 P Q x v.2 else some ((0 : Int32), v.2))) = some (1, M') := by
  obtain ⟨y, M1, M2, h1, h2, h3⟩ := hP M hT
  obtain ⟨M', h4⟩ := ih M2 h3
  refine ⟨M', ?_⟩
  rw [bnd h1, bnd h2, if_pos rfl]
  exact h4
theorem len_lt {len a : Nat} (hl : len < 1073741824) (ha : a < 1073741824) : (nI len - 5 < nI a) ↔ len < a + 5 := by
  have e : (nI len - nI 5).toInt = (len : Int) - 5 := pk_sub_toInt (by omega) (by omega)
  have e2 : (nI a).toInt = (a : Int) := nI_toInt (by omega)
  rw [Int32.lt_iff_toInt_lt, show nI len - 5 = nI len - nI 5 from rfl, e, e2]
  omega
theorem law_ok {n P Q : Nat} {sc : List Int32} (hPQ : P + 158 ≤ Q) (hn : 5000 ≤ n) (hs : sc.length ≤ 1000000) : ∀ (k a : Nat) (M : vv_M), sc.length < a + k → a ≤ sc.length → Top P Q M → ∃ M', f_L_law_18 n sc k P Q (nI a) M = some (1, M') := by
  intro k
  induction k with
  | zero =>
    intro a M hk ha hT
    omega
  | succ k ih =>
    intro a M hk ha hT
    rw [f_L_law_18.eq_2]
    refine ifx (fun _ => ⟨M, rfl⟩) (fun h => ?_)
    have h5 : a + 5 ≤ sc.length := by
      have := (len_lt (len := sc.length) (a := a) (by omega) (by omega)).mpr
      exact Nat.not_lt.mp (fun q => h (this q))
    have ih' : ∀ M2, Top P Q M2 → ∃ M', f_L_law_779 n sc (f_L_law_18 n sc k) P Q (nI a) M2 = some (1, M') := by
      intro M2 hM2
      unfold f_L_law_779
      rw [ix_let, ix_al]
      exact ih (a + 5) M2 (by omega) (by omega) hM2
    rw [if_neg (nI_in (by omega) (by omega))]
    refine ifx (fun _ => ?_) (fun _ => ?_)
    · try simp (disch := omega) only [ix_al, ix_n0, ix_cl, ix_nge, or_self, ↓reduceIte]
      exact l_step (p_setZone hPQ hn _ _ _ _) hT ih'
    refine ifx (fun _ => ?_) (fun _ => ?_)
    · try simp (disch := omega) only [ix_al, ix_n0, ix_cl, ix_nge, or_self, ↓reduceIte]
      exact l_step (p_setCurve hPQ hn _ _ _) hT ih'
    refine ifx (fun _ => ?_) (fun _ => ?_)
    · try simp (disch := omega) only [ix_al, ix_n0, ix_cl, ix_nge, or_self, ↓reduceIte]
      exact l_step (p_set hPQ hn _ _) hT ih'
    refine ifx (fun _ => ?_) (fun _ => ?_)
    · try simp (disch := omega) only [ix_al, ix_n0, ix_cl, ix_nge, or_self, ↓reduceIte]
      exact l_step (p_load hPQ hn _ _) hT ih'
    refine ifx (fun _ => ?_) (fun _ => ?_)
    · try simp (disch := omega) only [ix_al, ix_n0, ix_cl, ix_nge, or_self, ↓reduceIte]
      exact l_step (p_takeOff hPQ hn _) hT ih'
    refine ifx (fun _ => ?_) (fun _ => ?_)
    · try simp (disch := omega) only [ix_al, ix_n0, ix_cl, ix_nge, or_self, ↓reduceIte]
      exact l_step (p_pass hPQ hn _) hT ih'
    refine ifx (fun _ => ?_) (fun _ => ?_)
    · try simp (disch := omega) only [ix_al, ix_n0, ix_cl, ix_nge, or_self, ↓reduceIte]
      exact l_step (p_take hPQ hn _) hT ih'
    refine ifx (fun _ => ?_) (fun _ => ?_)
    · try simp (disch := omega) only [ix_al, ix_n0, ix_cl, ix_nge, or_self, ↓reduceIte]
      exact l_step (p_restore hPQ hn _) hT ih'
    refine ifx (fun _ => ?_) (fun _ => ?_)
    · try simp (disch := omega) only [ix_al, ix_n0, ix_cl, ix_nge, or_self, ↓reduceIte]
      exact l_step (p_undo hPQ hn) hT ih'
    refine ifx (fun _ => ?_) (fun _ => ?_)
    · try simp (disch := omega) only [ix_al, ix_n0, ix_cl, ix_nge, or_self, ↓reduceIte]
      exact l_step (p_append hPQ hn _) hT ih'
    refine ifx (fun _ => ?_) (fun _ => ?_)
    · try simp (disch := omega) only [ix_al, ix_n0, ix_cl, ix_nge, or_self, ↓reduceIte]
      exact l_step (p_clearText hPQ) hT ih'
    refine ifx (fun _ => ?_) (fun _ => ?_)
    · try simp (disch := omega) only [ix_al, ix_n0, ix_cl, ix_nge, or_self, ↓reduceIte]
      exact l_step (p_carryOut hPQ hn) hT ih'
    refine ifx (fun _ => ?_) (fun _ => ?_)
    · try simp (disch := omega) only [ix_al, ix_n0, ix_cl, ix_nge, or_self, ↓reduceIte]
      exact l_step (p_count hn _) hT ih'
    refine ifx (fun _ => ?_) (fun _ => ?_)
    · try simp (disch := omega) only [ix_al, ix_n0, ix_cl, ix_nge, or_self, ↓reduceIte]
      exact l_step (p_zone hn _ _) hT ih'
    refine ifx (fun _ => ?_) (fun _ => ?_)
    · try simp (disch := omega) only [ix_al, ix_n0, ix_cl, ix_nge, or_self, ↓reduceIte]
      exact l_step (p_curve hn _ _) hT ih'
    refine ifx (fun _ => ?_) (fun _ => ?_)
    · try simp (disch := omega) only [ix_al, ix_n0, ix_cl, ix_nge, or_self, ↓reduceIte]
      exact l_step (p_board hn _ _) hT ih'
    refine ifx (fun _ => ?_) (fun _ => ?_)
    · try simp (disch := omega) only [ix_al, ix_n0, ix_cl, ix_nge, or_self, ↓reduceIte]
      exact l_step (p_fault hn _ _ _) hT ih'
    refine ifx (fun _ => ?_) (fun _ => ?_)
    · try simp (disch := omega) only [ix_al, ix_n0, ix_cl, ix_nge, or_self, ↓reduceIte]
      exact l_step (p_worstCell hn _ _) hT ih'
    refine ifx (fun _ => ?_) (fun _ => ?_)
    · try simp (disch := omega) only [ix_al, ix_n0, ix_cl, ix_nge, or_self, ↓reduceIte]
      exact l_step (p_faultCells hn) hT ih'
    refine ifx (fun _ => ?_) (fun _ => ?_)
    · try simp (disch := omega) only [ix_al, ix_n0, ix_cl, ix_nge, or_self, ↓reduceIte]
      exact l_step (p_foretell hPQ hn _ _) hT ih'
    refine ifx (fun _ => ?_) (fun _ => ?_)
    · try simp (disch := omega) only [ix_al, ix_n0, ix_cl, ix_nge, or_self, ↓reduceIte]
      exact l_step (p_wouldFail hPQ hn _ _ _) hT ih'
    refine ifx (fun _ => ?_) (fun _ => ?_)
    · try simp (disch := omega) only [ix_al, ix_n0, ix_cl, ix_nge, or_self, ↓reduceIte]
      exact l_step (p_heaviest hPQ hn _) hT ih'
    refine ifx (fun _ => ?_) (fun _ => ?_)
    · try simp (disch := omega) only [ix_al, ix_n0, ix_cl, ix_nge, or_self, ↓reduceIte]
      exact l_step (p_room hPQ hn) hT ih'
    exact ih' M hT
