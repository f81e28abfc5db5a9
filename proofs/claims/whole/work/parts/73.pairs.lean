/-! both sides, call by call -/
theorem Gc_mem {P r len : Nat} {M M' : vv_M} {R T : Nat → Int32} (h : ∀ x, P ≤ x → x < P + 158 → M' x = M x) (hG : Gc P M R r len T) : Gc P M' R r len T := by
  obtain ⟨h1, ⟨h2, o, h3, h4, h5, h6⟩, h7⟩ := hG
  refine ⟨Mo_ext (fun q a b => h q (by omega) (by omega)) (fun k hk => rfl) h1, ⟨h2, o, h3, by rw [h _ (by omega) (by omega)]; exact h4, by rw [h _ (by omega) (by omega)]; exact h5, fun i hi => ?_⟩, Tx_ext h7 (h _ (by omega) (by omega)) (h _ (by omega) (by omega))⟩
  have : (o + i) % 6 < 6 := Nat.mod_lt _ (by omega)
  exact Mo_ext (fun q a b => h q (by omega) (by omega)) (fun k hk => rfl) (h6 i hi)
theorem Gc_T {P r len : Nat} {M : vv_M} {R T T' : Nat → Int32} (h : ∀ k, k < len → T' k = T k) (hG : Gc P M R r len T) : Gc P M R r len T' := by
  obtain ⟨h1, h2, h3, h4, h5, h6⟩ := hG
  exact ⟨h1, h2, h3, h4, h5, fun k hk => by rw [h k hk]; exact h6 k hk⟩
def Top (P Q : Nat) (M : vv_M) : Prop := ∃ r len, M Q 1 = nI r ∧ M Q 3 = nI len ∧ Gc P M (M (Q + 1)) r len (M (Q + 2))
def Pr (P Q : Nat) (fC fR : vv_M → Option (Int32 × vv_M)) : Prop := ∀ M, Top P Q M → ∃ x M1 M2, fC M = some (x, M1) ∧ fR M1 = some (x, M2) ∧ Top P Q M2
theorem pair_act {n P Q : Nat} {a : (Nat → Int32) → Int32} {w : (Nat → Int32) → Nat → Int32} {f fR : vv_M → Option (Int32 × vv_M)} (hPQ : P + 158 ≤ Q) (hn : 40 ≤ n) (hop : OpM (P + 1) a w f) (hw : ∀ g k, (∃ l, l ≤ 30 ∧ gInv g l) → ¬ a g < 0 → 2123 ≤ k → w g k = g k) (hK : Kx Q a w fR) : Pr P Q (fun M => (f_X0_keep n (P + 22) (P + 1) M).bind (fun u1 => (f u1.2).bind (fun u2 => (f_X0_recordUnlessError n (P + 22) u2.1 u2.2).bind (fun u3 => some (u3.1, u3.2))))) fR := by
  rintro M ⟨r, len, h1, h2, hG⟩
  obtain ⟨M1, a1, a2, a3, a4, a5⟩ := act_c hn hop hw hG
  have hq : ∀ x, P + 158 ≤ x → M1 x = M x := fun x hx => a2 x (Or.inr hx)
  have hOk : gOk (M (Q + 1)) := by
    obtain ⟨⟨⟨l, q1, q2, q3, -⟩, -⟩, -⟩ := hG
    exact ⟨l, q1, q2, q3⟩
  have hsl : ∀ j, j < 2 → (M (Q + 1) (2121 + j) = 0 ∨ M (Q + 1) (2121 + j) = 1) ∧ (M (Q + 1) (2121 + j) = 1 → ¬ M (Q + 1) (707 + 707 * j + 52) < 0) := by
    intro j hj
    obtain ⟨⟨-, g1⟩, -⟩ := hG
    obtain ⟨-, g2, g3⟩ := g1 j hj
    exact ⟨g2, fun h => (Ov_52 (g3 h)).2⟩
  obtain ⟨M2, b1, b2, b3, b4, b5⟩ := hK M1 r hG.2.1.1 (by rw [hq _ hPQ]; exact h1) (by rw [hq _ (by omega)]; exact hOk) (by rw [hq _ (by omega)]; exact a3) (by rw [hq _ (by omega)]; exact hsl)
  rw [hq (Q + 1) (by omega)] at b1 b4 b5
  refine ⟨a (M (Q + 1)), M1, M2, a1, b1, ?_⟩
  have hT : M2 (Q + 2) = M (Q + 2) := by rw [b2 _ (by omega) (by omega), hq _ (by omega)]
  have h3 : M2 Q 3 = nI len := by rw [b3, hq _ hPQ]; exact h2
  have hm : ∀ x, P ≤ x → x < P + 158 → M2 x = M1 x := fun x _ hx => b2 x (by omega) (by omega)
  by_cases hneg : a (M (Q + 1)) < 0
  · obtain ⟨c1, c2⟩ := b4 hneg
    refine ⟨r, len, c1, h3, ?_⟩
    rw [hT]
    exact Gc_ext c2 (Gc_mem hm (a4 hneg))
  · obtain ⟨c1, c2⟩ := b5 hneg
    refine ⟨rNext r, len, c1, h3, ?_⟩
    rw [hT]
    exact Gc_ext c2 (Gc_mem hm (a5 hneg))
theorem w_num {x v : Int32} {g : Nat → Int32} {k : Nat} (h : ¬ aNum x v g < 0) (hk : 707 ≤ k) : nNum x v g k = g k := by
  unfold aNum at h
  by_cases ho : okN x v
  · obtain ⟨a, ha, rfl⟩ := i_03 ho.1
    unfold nNum
    rw [ix_cl (by omega), ud_ne (by omega)]
  · rw [if_neg ho] at h
    exact absurd (by decide) h
theorem w_zone {z v t w : Int32} {g : Nat → Int32} {k : Nat} (h : ¬ aZone z v t w g < 0) (hk : 707 ≤ k) : nZone z v t w g k = g k := by
  unfold aZone at h
  by_cases ho : 0 ≤ z ∧ z ≤ 5
  · obtain ⟨a, ha, rfl⟩ := i_05 ho
    unfold nZone
    rw [ix_cl (by omega), ud_ne (by omega), ud_ne (by omega), ud_ne (by omega), ud_ne (by omega)]
  · rw [if_neg ho] at h
    exact absurd (by decide) h
theorem w_curve {c x v : Int32} {g : Nat → Int32} {k : Nat} (h : ¬ aCurve c x v g < 0) (hk : 707 ≤ k) : nCurve c x v g k = g k := by
  unfold aCurve at h
  by_cases ho : (0 ≤ c ∧ c ≤ 3) ∧ okC x v
  · obtain ⟨h1, h2, -⟩ := ho
    obtain ⟨a, ha, rfl⟩ := i_03 h1
    obtain ⟨b, hb, rfl⟩ := i_05 h2
    unfold nCurve
    rw [ix_cl (by omega), ix_cl (by omega), ud_ne (by omega)]
  · rw [if_neg ho] at h
    exact absurd (by decide) h
theorem w_load {c w : Int32} {g : Nat → Int32} {k l : Nat} (hl : l ≤ 30) (hI : gInv g l) (h : ¬ aLoad c w g < 0) (hk : 707 ≤ k) : nLoad c w g k = g k := by
  unfold nLoad
  rw [gl_eq hI]
  exact gLoad_out (by unfold gOut; omega) (by omega)
theorem w_off {x : Int32} {g : Nat → Int32} {k l : Nat} (hl : l ≤ 30) (hI : gInv g l) (h : ¬ aOff x g < 0) (hk : 707 ≤ k) : nOff x g k = g k := by
  unfold aOff at h
  by_cases ho : 0 ≤ x ∧ x ≤ g 53 - 1
  · rw [hI.2.1] at ho
    obtain ⟨b, hb, rfl⟩ := (brd_iff (by omega)).mp ho
    unfold nOff
    rw [ix_cl (by omega), ud_ne (by omega)]
  · rw [if_neg ho] at h
    exact absurd (by decide) h
theorem w_pass {x : Int32} {g : Nat → Int32} {k l : Nat} (hl : l ≤ 30) (hI : gInv g l) (hk : 707 ≤ k) : nPass x g k = g k := by
  unfold nPass
  rw [gl_eq hI]
  exact gTicks_hi (by omega) (by omega) _ _
theorem w_take {x : Int32} {g : Nat → Int32} {k : Nat} (h : ¬ aTake x g < 0) (hk : 2123 ≤ k) : nTake x g k = g k := by
  unfold aTake at h
  by_cases ho : 0 ≤ x ∧ x ≤ 1
  · obtain ⟨a, ha, rfl⟩ := i_01 ho
    unfold nTake
    rw [ix_cl (by omega), if_neg (by omega), if_neg (by omega)]
  · rw [if_neg ho] at h
    exact absurd (by decide) h
theorem p_setZone {n P Q : Nat} (hPQ : P + 158 ≤ Q) (hn : 5000 ≤ n) (z v t w : Int32) : Pr P Q (f_X4_setZone n P z v t w) (f_X5_setZone n Q z v t w) :=
  pair_act hPQ (by omega) (OpC.m (o_zone (by omega) z v t w) (fun g k _ h hk => w_zone h hk)) (fun g k _ h hk => w_zone h (by omega)) (k_zone hn z v t w)
theorem p_setCurve {n P Q : Nat} (hPQ : P + 158 ≤ Q) (hn : 5000 ≤ n) (c x v : Int32) : Pr P Q (f_X4_setCurve n P c x v) (f_X5_setCurve n Q c x v) :=
  pair_act hPQ (by omega) (OpC.m (o_curve (by omega) c x v) (fun g k _ h hk => w_curve h hk)) (fun g k _ h hk => w_curve h (by omega)) (k_curve hn c x v)
theorem p_set {n P Q : Nat} (hPQ : P + 158 ≤ Q) (hn : 5000 ≤ n) (x v : Int32) : Pr P Q (f_X4_set n P x v) (f_X5_set n Q x v) :=
  pair_act hPQ (by omega) (OpC.m (o_num (by omega) x v) (fun g k _ h hk => w_num h hk)) (fun g k _ h hk => w_num h (by omega)) (k_num hn x v)
theorem p_load {n P Q : Nat} (hPQ : P + 158 ≤ Q) (hn : 5000 ≤ n) (c w : Int32) : Pr P Q (f_X4_load n P c w) (f_X5_load n Q c w) :=
  pair_act hPQ (by omega) (OpC.m (o_load (by omega) c w) (fun g k hl h hk => hl.elim fun l q => w_load q.1 q.2 h hk)) (fun g k hl h hk => hl.elim fun l q => w_load q.1 q.2 h (by omega)) (k_load hn c w)
theorem p_takeOff {n P Q : Nat} (hPQ : P + 158 ≤ Q) (hn : 5000 ≤ n) (x : Int32) : Pr P Q (f_X4_takeOff n P x) (f_X5_takeOff n Q x) :=
  pair_act hPQ (by omega) (OpC.m (o_off (by omega) x) (fun g k hl h hk => hl.elim fun l q => w_off q.1 q.2 h hk)) (fun g k hl h hk => hl.elim fun l q => w_off q.1 q.2 h (by omega)) (k_off hn x)
theorem p_pass {n P Q : Nat} (hPQ : P + 158 ≤ Q) (hn : 5000 ≤ n) (x : Int32) : Pr P Q (f_X4_pass n P x) (f_X5_pass n Q x) :=
  pair_act hPQ (by omega) (OpC.m (o_pass (by omega) x) (fun g k hl h hk => hl.elim fun l q => w_pass q.1 q.2 hk)) (fun g k hl h hk => hl.elim fun l q => w_pass q.1 q.2 (by omega)) (k_pass hn x)
theorem p_take {n P Q : Nat} (hPQ : P + 158 ≤ Q) (hn : 5000 ≤ n) (x : Int32) : Pr P Q (f_X4_take n P x) (f_X5_take n Q x) :=
  pair_act hPQ (by omega) (o_take (by omega) x) (fun g k _ h hk => w_take h hk) (k_take hn x)
theorem p_restore {n P Q : Nat} (hPQ : P + 158 ≤ Q) (hn : 5000 ≤ n) (x : Int32) : Pr P Q (f_X4_restore n P x) (f_X5_restore n Q x) :=
  pair_act hPQ (by omega) (o_rest (by omega) x) (fun g k _ h hk => by unfold nRest; rw [if_neg (by omega)]) (k_rest hn x)
theorem p_undo {n P Q : Nat} (hPQ : P + 158 ≤ Q) (hn : 5000 ≤ n) : Pr P Q (f_X4_undo n P) (f_X5_undo n Q) := by
  rintro M ⟨r, len, h1, h2, hG⟩
  have hG0 := hG
  obtain ⟨g1, ⟨g2, o, g3, g4, g5, g6⟩, g7⟩ := hG
  unfold f_X4_undo f_X0_goBack f_X5_undo
  rw [g5]
  by_cases h0 : r = 0
  · subst h0
    refine ⟨-1002, M, M, rfl, ?_, ⟨0, len, h1, h2, hG0⟩⟩
    rw [h1]
    rfl
  obtain ⟨r, rfl⟩ : ∃ q, r = q + 1 := ⟨r - 1, by omega⟩
  have hp : nI (r + 1) - 1 = nI r := nI_pred r
  have hz : ¬ nI (r + 1) = 0 := nI_ne0 (by omega) (by omega)
  have h6 : (o + r) % 6 < 6 := Nat.mod_lt _ (by omega)
  have hMo : Mo (P + 22 + 2 + 21 * ((o + r) % 6)) (va_up M (P + 22) (upd (M (P + 22)) 2 (nI r))) (fun k => M (Q + 1) (2123 + 2123 * r + k)) := Mo_ext (fun q a b => up_n (by omega)) (fun k hk => rfl) (g6 r (by omega))
  obtain ⟨M1, a1, a2, a3⟩ := c_become1 (n := n) (p := P + 1) (by omega) hMo (by omega)
  have e22 : M1 (P + 22) = upd (M (P + 22)) 2 (nI r) := by rw [a3 _ (by omega), up_s]
  have hq : ∀ x, x < P + 1 ∨ P + 22 < x → M1 x = M x := fun x hx => by rw [a3 x (by omega), up_n (by omega)]
  have hc := r_copy (n := n) (p := Q) (a := 2123 + 2123 * r) (b := 0) (m := 2123) (x1 := 2123 + 2123 * nI r) (x2 := 0) (x3 := 2123) (va_up M1 Q (upd (M1 Q) 1 (nI r))) (by rw [ix_mr, ix_ar]) rfl rfl (by omega) (by omega) (by omega) hn (by omega)
  rw [up_n (by omega), hq (Q + 1) (by omega)] at hc
  refine ⟨nI r, M1, va_up (va_up M1 Q (upd (M1 Q) 1 (nI r))) (Q + 1) (gCpy (2123 + 2123 * r) 0 2123 (M (Q + 1))), ?_, ?_, r, len, ?_, ?_, ?_⟩
  · rw [if_neg hz, ix_let, hp]
    have z6 : ((6 : Int32) = 0) = False := by decide
    simp (disch := omega) only [z6, ↓reduceIte, up_s, ud_s, ud_ne, g4, nI_add, ix_rem6, ix_n0, ix_cl, ix_nge, or_self, ↓bnd a1, e22]
    rfl
  · rw [hq Q (by omega), h1, if_neg hz, ix_let, hp]
    have hM1Q : M1 Q = M Q := hq Q (by omega)
    rw [← hM1Q, up_s, ud_s, bnd hc]
    simp (disch := omega) only [up_n, up_s, ud_s]
  · rw [up_n (by omega), up_s, ud_s]
  · rw [up_n (by omega), up_s, ud_ne (by omega), hq _ (by omega)]; exact h2
  · rw [up_s, up_n (by omega), up_n (by omega), hq (Q + 2) (by omega)]
    refine Gc_mem (M := M1) (fun x _ hx => by rw [up_n (by omega), up_n (by omega)]) ⟨Mo_ext (fun _ _ _ => rfl) (fun k hk => ?_) a2, ⟨by omega, o, g3, ?_, ?_, fun i hi => ?_⟩, Tx_ext g7 (hq _ (by omega)) (hq _ (by omega))⟩
    · unfold gCpy
      rw [if_pos (by omega), Nat.sub_zero]
    · rw [e22, ud_ne (by omega)]; exact g4
    · rw [e22, ud_s]
    · have : (o + i) % 6 < 6 := Nat.mod_lt _ (by omega)
      refine Mo_ext (fun q a b => hq q (by omega)) (fun k hk => ?_) (g6 i (by omega))
      unfold gCpy
      rw [if_neg (by omega)]
theorem p_append {n P Q : Nat} (hPQ : P + 158 ≤ Q) (hn : 5000 ≤ n) (x : Int32) : Pr P Q (f_X4_append n P x) (f_X5_append n Q x) := by
  rintro M ⟨r, len, h1, h2, hG⟩
  have hG0 := hG
  obtain ⟨g1, g2, g3, g4, g5, g6⟩ := hG
  unfold f_X4_append f_X3_add f_X5_append
  rw [c_in_b]
  by_cases hx : 1 ≤ x ∧ x ≤ 255
  rotate_left
  · refine ⟨-1001, M, M, ?_, ?_, r, len, h1, h2, hG0⟩
    · rw [zi_f hx]; rfl
    · rw [r_in_b, zi_f hx]; rfl
  rw [zi_t hx]
  by_cases h100 : len = 100
  · subst h100
    refine ⟨-1003, M, M, ?_, ?_, r, 100, h1, h2, hG0⟩
    · have e1 : (nI 100 < 100) = False := by decide
      have e9 : M (P + 150) 1 = nI 100 := g3
      simp only [t10, ↓reduceIte, e9, e1, ix_bs]
    · rw [r_in_b, zi_t hx]
      show (if (1 : Int32) = 0 then _ else if M Q 3 = 100 then _ else _) = _
      rw [if_neg (by decide), h2, if_pos (show nI 100 = 100 from rfl)]
  · have hlt : nI len < 100 := nI_lt (b := 100) (by omega) (by omega)
    have hne : ¬ nI len = 100 := fun h => h100 ((nI_eq (b := 100) (by omega) (by omega)).mp h)
    refine ⟨nI (len + 1), va_up (va_up M (P + 150 + 1) (upd (M (P + 150 + 1)) len x)) (P + 150) (upd (M (P + 150)) 1 (nI (len + 1))), va_up (va_up (va_up (va_up M (P + 150 + 1) (upd (M (P + 150 + 1)) len x)) (P + 150) (upd (M (P + 150)) 1 (nI (len + 1)))) (Q + 2) (upd (M (Q + 2)) len x)) Q (upd (M Q) 3 (nI (len + 1))), ?_, ?_, r, len + 1, ?_, ?_, ?_⟩
    · have e1 : (nI len < 100) = True := eq_true hlt
      simp (disch := omega) only [t10, ↓reduceIte, g3, e1, ix_n0, ix_cl, ix_nge, or_self, ↓ix_let, up_n, up_s, ud_s, ix_al, ix_bs]
    · have e1 : (nI len = 100) = False := eq_false hne
      have e9 : M (P + 150) 1 = nI len := g3
      rw [r_in_b, zi_t hx]
      simp (disch := omega) only [t10, ↓reduceIte, up_n, h2, e1, ix_n0, ix_cl, ix_nge, or_self, ↓ix_let, up_s, ud_s, ix_al]
    · rw [up_s, ud_ne (by omega)]; exact h1
    · rw [up_s, ud_s]
    · rw [up_n (by omega), up_n (by omega), up_n (by omega), up_n (by omega), up_n (by omega), up_s]
      obtain ⟨xn, hxn, rfl⟩ := i_rng (m := 255) (by omega) (Int32.le_trans (by decide) hx.1) hx.2
      have hx1 : 1 ≤ xn := (nI_leI (a := 1) (by omega) (by omega)).mp hx.1
      have hG1 : Gc P (va_up (va_up M (P + 150 + 1) (upd (M (P + 150 + 1)) len (nI xn))) (P + 150) (upd (M (P + 150)) 1 (nI (len + 1)))) (M (Q + 1)) r (len + 1) (upd (M (Q + 2)) len (nI xn)) := by
        obtain ⟨k2, o, k3, k4, k5, k6⟩ := g2
        refine ⟨Mo_ext (fun q a b => by rw [up_n (by omega), up_n (by omega)]) (fun k hk => rfl) g1, ⟨k2, o, k3, by rw [up_n (by omega), up_n (by omega)]; exact k4, by rw [up_n (by omega), up_n (by omega)]; exact k5, fun i hi => ?_⟩, by rw [up_s, ud_s], by rw [up_s, ud_ne (by omega)]; exact g4, by omega, fun k hk => ?_⟩
        · have : (o + i) % 6 < 6 := Nat.mod_lt _ (by omega)
          exact Mo_ext (fun q a b => by rw [up_n (by omega), up_n (by omega)]) (fun k hk => rfl) (k6 i hi)
        · rw [up_n (by omega), up_s]
          by_cases hkl : k = len
          · subst hkl
            rw [ud_s, ud_s]
            exact ⟨rfl, xn, hx1, hxn, rfl⟩
          · rw [ud_ne hkl, ud_ne hkl]
            exact g6 k (by omega)
      exact Gc_mem (fun q _ hq => by rw [up_n (by omega), up_n (by omega)]) hG1
theorem c_wipe {n P r len : Nat} {M : vv_M} {R T T' : Nat → Int32} (hG : Gc P M R r len T) : f_X3_wipe n (P + 150) M = some (nI len, va_up M (P + 150) (upd (upd (M (P + 150)) 1 0) 2 0)) ∧ Gc P (va_up M (P + 150) (upd (upd (M (P + 150)) 1 0) 2 0)) R r 0 T' := by
  obtain ⟨g1, g2, g3, g4, g5, g6⟩ := hG
  refine ⟨?_, ?_⟩
  · unfold f_X3_wipe
    simp (disch := omega) only [↓ix_let, up_s, bx_uu, g3]
  · obtain ⟨k2, o, k3, k4, k5, k6⟩ := g2
    refine ⟨Mo_ext (fun q a b => up_n (by omega)) (fun k hk => rfl) g1, ⟨k2, o, k3, by rw [up_n (by omega)]; exact k4, by rw [up_n (by omega)]; exact k5, fun i hi => ?_⟩, by rw [up_s, ud_ne (by omega), ud_s]; rfl, by rw [up_s, ud_s], by omega, fun k hk => absurd hk (Nat.not_lt_zero k)⟩
    have : (o + i) % 6 < 6 := Nat.mod_lt _ (by omega)
    exact Mo_ext (fun q a b => up_n (by omega)) (fun k hk => rfl) (k6 i hi)
theorem p_clearText {n P Q : Nat} (hPQ : P + 158 ≤ Q) : Pr P Q (f_X4_clearText n P) (f_X5_clearText n Q) := by
  rintro M ⟨r, len, h1, h2, hG⟩
  obtain ⟨c1, c2⟩ := c_wipe (n := n) (T' := M (Q + 2)) hG
  unfold f_X4_clearText f_X5_clearText
  rw [bnd c1]
  refine ⟨nI len, _, va_up (va_up M (P + 150) (upd (upd (M (P + 150)) 1 0) 2 0)) Q (upd (M Q) 3 0), rfl, ?_, r, 0, ?_, ?_, ?_⟩
  · simp (disch := omega) only [↓ix_let, up_n, h2]
  · rw [up_s, ud_ne (by omega)]; exact h1
  · rw [up_s, ud_s]; rfl
  · rw [up_n (by omega), up_n (by omega), up_n (by omega), up_n (by omega)]
    exact Gc_mem (fun q _ hq => up_n (by omega)) c2
