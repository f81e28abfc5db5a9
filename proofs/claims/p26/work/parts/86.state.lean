/-! the whole object: a moment f, r earlier moments h, a text -/
def Hq (P : Nat) (M : vv_M) (h : Nat → Nat → Int32) (r : Nat) : Prop := r ≤ 5 ∧ ∃ o, o < 6 ∧ M (P + 22) 1 = nI o ∧ M (P + 22) 2 = nI r ∧ ∀ i, i < r → Mo (P + 22 + 2 + 21 * ((o + i) % 6)) M (h i)
def Gq (P : Nat) (M : vv_M) (f : Nat → Int32) (h : Nat → Nat → Int32) (r len : Nat) (T : Nat → Int32) : Prop := Mo (P + 1) M f ∧ Hq P M h r ∧ Tx P M len T
def hPush (h : Nat → Nat → Int32) (r : Nat) (f : Nat → Int32) : Nat → Nat → Int32 := fun i => if r = 5 then (if i = 4 then f else h (i + 1)) else if i = r then f else h i
theorem hPush_top {h : Nat → Nat → Int32} {r : Nat} {f : Nat → Int32} (hr : r ≤ 5) : hPush h r f (rNext r - 1) = f := by
  unfold hPush rNext
  by_cases h5 : r = 5
  · rw [if_pos h5, if_pos h5, if_pos rfl]
  · rw [if_neg h5, if_neg h5, if_pos (by omega)]
theorem hPush_2 {h : Nat → Nat → Int32} {r : Nat} {f f1 : Nat → Int32} (hr : r ≤ 5) : hPush (hPush h r f) (rNext r) f1 (rNext (rNext r) - 1 - 1) = f := by
  have e := hPush_top (h := h) (f := f) hr
  unfold hPush rNext at *
  by_cases h5 : r = 5
  · subst h5
    simp only [↓reduceIte] at e ⊢
    simp
  · rw [if_neg h5] at e ⊢
    by_cases h4 : r + 1 = 5
    · obtain rfl : r = 4 := by omega
      simp
    · rw [if_neg h4, if_neg h4, if_neg (by omega), if_neg h5, if_pos (by omega)]
theorem rNext_pos {r : Nat} : 1 ≤ rNext r := by
  unfold rNext
  split <;> omega
theorem rNext_le {r : Nat} (hr : r ≤ 5) : rNext r ≤ 5 := by
  unfold rNext
  split <;> omega
theorem rNext_2 {r : Nat} : 2 ≤ rNext (rNext r) := by
  unfold rNext
  split <;> split <;> omega
theorem Gq_mem {P r len : Nat} {M M' : vv_M} {f T : Nat → Int32} {h : Nat → Nat → Int32} (hm : ∀ x, P ≤ x → x < P + 152 → M' x = M x) (hG : Gq P M f h r len T) : Gq P M' f h r len T := by
  obtain ⟨h1, ⟨h2, o, h3, h4, h5, h6⟩, h7⟩ := hG
  refine ⟨Mo_ext (fun q a b => hm q (by omega) (by omega)) (fun k hk => rfl) h1, ⟨h2, o, h3, by rw [hm _ (by omega) (by omega)]; exact h4, by rw [hm _ (by omega) (by omega)]; exact h5, fun i hi => ?_⟩, Tx_ext h7 (hm _ (by omega) (by omega)) (hm _ (by omega) (by omega))⟩
  have : (o + i) % 6 < 6 := Nat.mod_lt _ (by omega)
  exact Mo_ext (fun q a b => hm q (by omega) (by omega)) (fun k hk => rfl) (h6 i hi)
theorem q_rec {n P r len : Nat} {M : vv_M} {f f1 T : Nat → Int32} {h : Nat → Nat → Int32} {x : Int32} {o : Nat} (hr : r ≤ 5) (ho : o < 6) (h1 : M (P + 22) 1 = nI o) (h2 : M (P + 22) 2 = nI r) (hx : ¬ x < 0) (hMo : Mo (P + 1) M f1) (hB : ∀ i, i < r → Mo (P + 22 + 2 + 21 * ((o + i) % 6)) M (h i)) (hB2 : Mo (P + 22 + 2 + 21 * ((o + r) % 6)) M f) (hT : Tx P M len T) : ∃ M', f_X0_recordUnlessError n (P + 22) x M = some (x, M') ∧ Gq P M' f1 (hPush h r f) (rNext r) len T ∧ FrS (P + 22) (P + 23) M M' := by
  unfold f_X0_recordUnlessError
  rw [if_neg hx, h2]
  have hm : ∀ (v : Nat → Int32) (p : Nat) (f f' : Nat → Int32), (p + 21 ≤ P + 22 ∨ P + 22 < p) → f' = f → Mo p M f → Mo p (va_up M (P + 22) v) f' := fun v p f f' hp hf h => Mo_ext (fun x hx1 hx2 => up_n (by omega)) (fun k _ => by rw [hf]) h
  have h6 : ∀ i, (o + i) % 6 < 6 := fun i => Nat.mod_lt _ (by omega)
  by_cases h5 : r = 5
  · subst h5
    rw [if_pos (show (5 : Int32) ≤ nI 5 from nI_le (a := 5) (b := 5) (Nat.le_refl _) (by omega)), if_neg (by decide), ix_let, h1, ix_al o 1, ix_rem6 (o + OfNat.ofNat 1) (by have : (OfNat.ofNat 1 : Nat) = 1 := rfl; omega)]
    refine ⟨_, rfl, ⟨hm _ _ _ _ (by omega) rfl hMo, ⟨by decide, (o + 1) % 6, by omega, ?_, ?_, fun i hi => ?_⟩, Tx_ext hT (up_n (by omega)) (up_n (by omega))⟩, FrS.up (by omega) (by omega)⟩
    · rw [up_s, ud_s]
    · rw [up_s, ud_ne (by omega)]
      exact h2
    · have hi5 : i < 5 := hi
      unfold hPush
      rw [if_pos rfl]
      by_cases h4 : i = 4
      · subst h4
        have e : ((o + 1) % 6 + 4) % 6 = (o + 5) % 6 := by omega
        rw [e, if_pos rfl]
        exact hm _ _ _ _ (by omega) rfl hB2
      · have e : ((o + 1) % 6 + i) % 6 = (o + (i + 1)) % 6 := by omega
        rw [e, if_neg h4]
        exact hm _ _ _ _ (by omega) rfl (hB (i + 1) (by omega))
  · rw [if_neg (show ¬ (5 : Int32) ≤ nI r from fun h => absurd ((nI_leI (a := 5) (by omega) (by omega)).mp h) (by omega)), ix_let, ix_al r 1]
    have hn : rNext r = r + 1 := if_neg h5
    rw [hn]
    refine ⟨_, rfl, ⟨hm _ _ _ _ (by omega) rfl hMo, ⟨by omega, o, ho, ?_, ?_, fun i hi => ?_⟩, Tx_ext hT (up_n (by omega)) (up_n (by omega))⟩, FrS.up (by omega) (by omega)⟩
    · rw [up_s, ud_ne (by omega)]
      exact h1
    · rw [up_s, ud_s]
    · unfold hPush
      rw [if_neg h5]
      have := h6 i
      by_cases hir : i = r
      · subst hir
        rw [if_pos rfl]
        exact hm _ _ _ _ (by omega) rfl hB2
      · rw [if_neg hir]
        exact hm _ _ _ _ (by omega) rfl (hB i (by omega))
theorem act_q {n P r len : Nat} {M : vv_M} {f T : Nat → Int32} {h : Nat → Nat → Int32} {a : (Nat → Int32) → Int32} {w : (Nat → Int32) → Nat → Int32} {F : vv_M → Option (Int32 × vv_M)} (hn : 40 ≤ n) (hop : OpM (P + 1) a w F) (hG : Gq P M f h r len T) : ∃ M1, (f_X0_keep n (P + 22) (P + 1) M).bind (fun u1 => (F u1.2).bind (fun u2 => (f_X0_recordUnlessError n (P + 22) u2.1 u2.2).bind (fun u3 => some (u3.1, u3.2)))) = some (a f, M1) ∧ (a f < 0 → Gq P M1 f h r len T) ∧ (¬ a f < 0 → Gq P M1 (w f) (hPush h r f) (rNext r) len T) := by
  obtain ⟨h1, ⟨h2, o, h3, h4, h5, h6⟩, h7⟩ := hG
  have hm6 : ∀ i, (o + i) % 6 < 6 := fun i => Nat.mod_lt _ (by omega)
  obtain ⟨M1, a1, a2, a3⟩ := c_keep (n := n) hn h3 h2 h4 h5 h1
  have hor := hm6 r
  have hM1 : Mo (P + 1) M1 f := Mo_ext (fun x hx1 hx2 => a3 x (by omega)) (fun k hk => rfl) h1
  obtain ⟨M2, b1, b2, b3, b4⟩ := hop M1 f hM1
  have hB : ∀ i, i < r → Mo (P + 22 + 2 + 21 * ((o + i) % 6)) M2 (h i) := by
    intro i hi
    have hoi := hm6 i
    refine Mo_ext (fun x hx1 hx2 => ?_) (fun k hk => rfl) (h6 i hi)
    rw [b2 x (by omega), a3 x (by omega)]
  have hB2 : Mo (P + 22 + 2 + 21 * ((o + r) % 6)) M2 f := Mo_ext (fun x hx1 hx2 => b2 x (by omega)) (fun k hk => rfl) a2
  have hT : Tx P M2 len T := Tx_ext h7 (by rw [b2 _ (by omega), a3 _ (by omega)]) (by rw [b2 _ (by omega), a3 _ (by omega)])
  have g1 : M2 (P + 22) 1 = nI o := by rw [b2 _ (by omega), a3 _ (by omega)]; exact h4
  have g2 : M2 (P + 22) 2 = nI r := by rw [b2 _ (by omega), a3 _ (by omega)]; exact h5
  by_cases hneg : a f < 0
  · refine ⟨M2, ?_, fun _ => ⟨b3 hneg, ⟨h2, o, h3, g1, g2, hB⟩, hT⟩, fun h => absurd hneg h⟩
    rw [bnd a1, bnd b1]
    have e : f_X0_recordUnlessError n (P + 22) (a f) M2 = some (a f, M2) := by
      unfold f_X0_recordUnlessError
      rw [if_pos hneg]
    rw [bnd e]
  · obtain ⟨M3, d1, d2, -⟩ := q_rec (n := n) h2 h3 g1 g2 hneg (b4 hneg) hB hB2 hT
    exact ⟨M3, by rw [bnd a1, bnd b1, bnd d1], fun h => absurd h hneg, fun _ => d2⟩
/-- an action of the object: its answer, and the moment that it makes -/
def Aq (P : Nat) (F : vv_M → Option (Int32 × vv_M)) (a : (Nat → Int32) → Int32) (w : (Nat → Int32) → Nat → Int32) : Prop := ∀ (M : vv_M) (f T : Nat → Int32) (h : Nat → Nat → Int32) (r len : Nat), Gq P M f h r len T → ∃ M1, F M = some (a f, M1) ∧ (a f < 0 → Gq P M1 f h r len T) ∧ (¬ a f < 0 → Gq P M1 (w f) (hPush h r f) (rNext r) len T)
theorem q_setZone {n P : Nat} (hn : 5000 ≤ n) (z v t w : Int32) : Aq P (f_X4_setZone n P z v t w) (aZone z v t w) (nZone z v t w) := fun _ _ _ _ _ _ hG => act_q (by omega) (OpC.m (o_zone (by omega) z v t w) (fun g k _ h hk => w_zone h hk)) hG
theorem q_setCurve {n P : Nat} (hn : 5000 ≤ n) (c x v : Int32) : Aq P (f_X4_setCurve n P c x v) (aCurve c x v) (nCurve c x v) := fun _ _ _ _ _ _ hG => act_q (by omega) (OpC.m (o_curve (by omega) c x v) (fun g k _ h hk => w_curve h hk)) hG
theorem q_set {n P : Nat} (hn : 5000 ≤ n) (x v : Int32) : Aq P (f_X4_set n P x v) (aNum x v) (nNum x v) := fun _ _ _ _ _ _ hG => act_q (by omega) (OpC.m (o_num (by omega) x v) (fun g k _ h hk => w_num h hk)) hG
theorem q_load {n P : Nat} (hn : 5000 ≤ n) (c w : Int32) : Aq P (f_X4_load n P c w) (aLoad c w) (nLoad c w) := fun _ _ _ _ _ _ hG => act_q (by omega) (OpC.m (o_load (by omega) c w) (fun g k hl h hk => hl.elim fun l q => w_load q.1 q.2 h hk)) hG
theorem q_takeOff {n P : Nat} (hn : 5000 ≤ n) (x : Int32) : Aq P (f_X4_takeOff n P x) (aOff x) (nOff x) := fun _ _ _ _ _ _ hG => act_q (by omega) (OpC.m (o_off (by omega) x) (fun g k hl h hk => hl.elim fun l q => w_off q.1 q.2 h hk)) hG
theorem q_pass {n P : Nat} (hn : 5000 ≤ n) (x : Int32) : Aq P (f_X4_pass n P x) (aPass x) (nPass x) := fun _ _ _ _ _ _ hG => act_q (by omega) (OpC.m (o_pass (by omega) x) (fun g k hl h hk => hl.elim fun l q => w_pass q.1 q.2 hk)) hG
theorem q_take {n P : Nat} (hn : 5000 ≤ n) (x : Int32) : Aq P (f_X4_take n P x) (aTake x) (nTake x) := fun _ _ _ _ _ _ hG => act_q (by omega) (o_take (by omega) x) hG
theorem q_restore {n P : Nat} (hn : 5000 ≤ n) (x : Int32) : Aq P (f_X4_restore n P x) (aRest x) (nRest x) := fun _ _ _ _ _ _ hG => act_q (by omega) (o_rest (by omega) x) hG
theorem q_undo {n P r len : Nat} {M : vv_M} {f T : Nat → Int32} {h : Nat → Nat → Int32} (hn : 5000 ≤ n) (h0 : 1 ≤ r) (hG : Gq P M f h r len T) : ∃ M1, f_X4_undo n P M = some (nI (r - 1), M1) ∧ Gq P M1 (h (r - 1)) h (r - 1) len T := by
  obtain ⟨g1, ⟨g2, o, g3, g4, g5, g6⟩, g7⟩ := hG
  unfold f_X4_undo f_X0_goBack
  rw [g5]
  obtain ⟨r, rfl⟩ : ∃ q, r = q + 1 := ⟨r - 1, by omega⟩
  have hp : nI (r + 1) - 1 = nI r := nI_pred r
  have hz : ¬ nI (r + 1) = 0 := nI_ne0 (by omega) (by omega)
  have h6 : (o + r) % 6 < 6 := Nat.mod_lt _ (by omega)
  have hMo : Mo (P + 22 + 2 + 21 * ((o + r) % 6)) (va_up M (P + 22) (upd (M (P + 22)) 2 (nI r))) (h r) := Mo_ext (fun q a b => up_n (by omega)) (fun k hk => rfl) (g6 r (by omega))
  obtain ⟨M1, a1, a2, a3⟩ := c_become1 (n := n) (p := P + 1) (by omega) hMo (by omega)
  have e22 : M1 (P + 22) = upd (M (P + 22)) 2 (nI r) := by rw [a3 _ (by omega), up_s]
  have hq : ∀ x, x < P + 1 ∨ P + 22 < x → M1 x = M x := fun x hx => by rw [a3 x (by omega), up_n (by omega)]
  rw [Nat.add_sub_cancel]
  refine ⟨M1, ?_, a2, ⟨by omega, o, g3, ?_, ?_, fun i hi => ?_⟩, Tx_ext g7 (hq _ (by omega)) (hq _ (by omega))⟩
  · rw [if_neg hz, ix_let, hp]
    have z6 : ((6 : Int32) = 0) = False := by decide
    simp (disch := omega) only [z6, ↓reduceIte, up_s, ud_s, ud_ne, g4, nI_add, ix_rem6, ix_n0, ix_cl, ix_nge, or_self, ↓bnd a1, e22]
    rfl
  · rw [e22, ud_ne (by omega)]; exact g4
  · rw [e22, ud_s]
  · have : (o + i) % 6 < 6 := Nat.mod_lt _ (by omega)
    exact Mo_ext (fun q a b => hq q (by omega)) (fun k hk => rfl) (g6 i (by omega))
theorem q_append {n P r len : Nat} {M : vv_M} {f T : Nat → Int32} {h : Nat → Nat → Int32} (x : Int32) (hG : Gq P M f h r len T) : ∃ y M1 len' T', f_X4_append n P x M = some (y, M1) ∧ Gq P M1 f h r len' T' := by
  have hG0 := hG
  obtain ⟨g1, g2, g3, g4, g5, g6⟩ := hG
  unfold f_X4_append f_X3_add
  rw [c_in_b]
  by_cases hx : 1 ≤ x ∧ x ≤ 255
  rotate_left
  · exact ⟨-1001, M, len, T, by rw [zi_f hx]; rfl, hG0⟩
  rw [zi_t hx]
  by_cases h100 : len = 100
  · subst h100
    refine ⟨-1003, M, 100, T, ?_, hG0⟩
    have e1 : (nI 100 < 100) = False := by decide
    have e9 : M (P + 150) 1 = nI 100 := g3
    simp only [t10, ↓reduceIte, e9, e1, ix_bs]
  · have hlt : nI len < 100 := nI_lt (b := 100) (by omega) (by omega)
    refine ⟨nI (len + 1), va_up (va_up M (P + 150 + 1) (upd (M (P + 150 + 1)) len x)) (P + 150) (upd (M (P + 150)) 1 (nI (len + 1))), len + 1, upd T len x, ?_, ?_⟩
    · have e1 : (nI len < 100) = True := eq_true hlt
      simp (disch := omega) only [t10, ↓reduceIte, g3, e1, ix_n0, ix_cl, ix_nge, or_self, ↓ix_let, up_n, up_s, ud_s, ix_al, ix_bs]
    · obtain ⟨xn, hxn, rfl⟩ := i_rng (m := 255) (by omega) (Int32.le_trans (by decide) hx.1) hx.2
      have hx1 : 1 ≤ xn := (nI_leI (a := 1) (by omega) (by omega)).mp hx.1
      obtain ⟨k2, o, k3, k4, k5, k6⟩ := g2
      refine ⟨Mo_ext (fun q a b => by rw [up_n (by omega), up_n (by omega)]) (fun k hk => rfl) g1, ⟨k2, o, k3, by rw [up_n (by omega), up_n (by omega)]; exact k4, by rw [up_n (by omega), up_n (by omega)]; exact k5, fun i hi => ?_⟩, by rw [up_s, ud_s], by rw [up_s, ud_ne (by omega)]; exact g4, by omega, fun k hk => ?_⟩
      · have : (o + i) % 6 < 6 := Nat.mod_lt _ (by omega)
        exact Mo_ext (fun q a b => by rw [up_n (by omega), up_n (by omega)]) (fun k hk => rfl) (k6 i hi)
      · rw [up_n (by omega), up_s]
        by_cases hkl : k = len
        · subst hkl
          rw [ud_s, ud_s]
          exact ⟨rfl, xn, hx1, hxn, rfl⟩
        · rw [ud_ne hkl, ud_ne hkl]
          exact g6 k (by omega)
