/-! both sides, call by call -/
theorem Gc_mem {P r len : Nat} {M M' : vv_M} {R T : Nat → Int32} (h : ∀ x, P ≤ x → x < P + 158 → M' x = M x) (hG : Gc P M R r len T) : Gc P M' R r len T := by
  obtain ⟨h1, ⟨h2, o, h3, h4, h5, h6⟩, h7⟩ := hG
  refine ⟨Mo_ext (fun q a b => h q (by omega) (by omega)) (fun k hk => rfl) h1, ⟨h2, o, h3, by rw [h _ (by omega) (by omega)]; exact h4, by rw [h _ (by omega) (by omega)]; exact h5, fun i hi => ?_⟩, Tx_ext h7 (h _ (by omega) (by omega)) (h _ (by omega) (by omega))⟩
  have : (o + i) % 6 < 6 := Nat.mod_lt _ (by omega)
  exact Mo_ext (fun q a b => h q (by omega) (by omega)) (fun k hk => rfl) (h6 i hi)
theorem Gc_T {P r len : Nat} {M : vv_M} {R T T' : Nat → Int32} (h : ∀ k, k < len → T' k = T k) (hG : Gc P M R r len T) : Gc P M R r len T' := by
  obtain ⟨h1, h2, h3, h4, h5, h6⟩ := hG
  exact ⟨h1, h2, h3, h4, h5, fun k hk => by rw [h k hk]; exact h6 k hk⟩
def Top (P Q : Nat) (M : vv_M) : Prop := ∃ r len, M Q 1 = nI r ∧ M Q 3 = nI len ∧ Gc P M (M (Q + 1)) r len (M (Q + 2))
def Pr (P Q : Nat) (fC fR : vv_M → Option (Int32 × vv_M)) : Prop := ∀ M, Top P Q M → ∃ x M1 M2, fC M = some (x, M1) ∧ fR M1 = some (x, M2) ∧ Top P Q M2
theorem pair_act {n P Q : Nat} {a : (Nat → Int32) → Int32} {w : (Nat → Int32) → Nat → Int32} {f fR : vv_M → Option (Int32 × vv_M)} (hPQ : P + 158 ≤ Q) (hn : 40 ≤ n) (hop : OpM (P + 1) a w f) (hw : ∀ g k, (∃ l, l ≤ 30 ∧ gInv g l) → ¬ a g < 0 → 2123 ≤ k → w g k = g k) (hK : Kx Q a w fR) : Pr P Q (fun M => (f_X0_keep n (P + 22) (P + 1) M).bind (fun u1 => (f u1.2).bind (fun u2 => (f_X0_recordUnlessError n (P + 22) u2.1 u2.2).bind (fun u3 => some (u3.1, u3.2))))) fR := by
  rintro M ⟨r, len, h1, h2, hG⟩
  obtain ⟨M1, a1, a2, a3, a4, a5⟩ := act_c hn hop hw hG
  have hq : ∀ x, P + 158 ≤ x → M1 x = M x := fun x hx => a2 x (Or.inr hx)
  have hOk : gOk (M (Q + 1)) := by
    obtain ⟨⟨⟨l, q1, q2, q3, -⟩, -⟩, -⟩ := hG
    exact ⟨l, q1, q2, q3⟩
  have hsl : ∀ j, j < 2 → (M (Q + 1) (2121 + j) = 0 ∨ M (Q + 1) (2121 + j) = 1) ∧ (M (Q + 1) (2121 + j) = 1 → ¬ M (Q + 1) (707 + 707 * j + 52) < 0) := by
    intro j hj
    obtain ⟨⟨-, g1⟩, -⟩ := hG
    obtain ⟨-, g2, g3⟩ := g1 j hj
    exact ⟨g2, fun h => (Ov_52 (g3 h)).2⟩
  obtain ⟨M2, b1, b2, b3, b4, b5⟩ := hK M1 r hG.2.1.1 (by rw [hq _ hPQ]; exact h1) (by rw [hq _ (by omega)]; exact hOk) (by rw [hq _ (by omega)]; exact a3) (by rw [hq _ (by omega)]; exact hsl)
  rw [hq (Q + 1) (by omega)] at b1 b4 b5
  refine ⟨a (M (Q + 1)), M1, M2, a1, b1, ?_⟩
  have hT : M2 (Q + 2) = M (Q + 2) := by rw [b2 _ (by omega) (by omega), hq _ (by omega)]
  have h3 : M2 Q 3 = nI len := by rw [b3, hq _ hPQ]; exact h2
  have hm : ∀ x, P ≤ x → x < P + 158 → M2 x = M1 x := fun x _ hx => b2 x (by omega) (by omega)
  by_cases hneg : a (M (Q + 1)) < 0
  · obtain ⟨c1, c2⟩ := b4 hneg
    refine ⟨r, len, c1, h3, ?_⟩
    rw [hT]
    exact Gc_ext c2 (Gc_mem hm (a4 hneg))
  · obtain ⟨c1, c2⟩ := b5 hneg
    refine ⟨rNext r, len, c1, h3, ?_⟩
    rw [hT]
    exact Gc_ext c2 (Gc_mem hm (a5 hneg))
theorem w_num {x v : Int32} {g : Nat → Int32} {k : Nat} (h : ¬ aNum x v g < 0) (hk : 707 ≤ k) : nNum x v g k = g k := by
  unfold aNum at h
  by_cases ho : okN x v
  · obtain ⟨a, ha, rfl⟩ := i_03 ho.1
    unfold nNum
    rw [ix_cl (by omega), ud_ne (by omega)]
  · rw [if_neg ho] at h
    exact absurd (by decide) h
theorem w_zone {z v t w : Int32} {g : Nat → Int32} {k : Nat} (h : ¬ aZone z v t w g < 0) (hk : 707 ≤ k) : nZone z v t w g k = g k := by
  unfold aZone at h
  by_cases ho : 0 ≤ z ∧ z ≤ 5
  · obtain ⟨a, ha, rfl⟩ := i_05 ho
    unfold nZone
    rw [ix_cl (by omega), ud_ne (by omega), ud_ne (by omega), ud_ne (by omega), ud_ne (by omega)]
  · rw [if_neg ho] at h
    exact absurd (by decide) h
theorem w_curve {c x v : Int32} {g : Nat → Int32} {k : Nat} (h : ¬ aCurve c x v g < 0) (hk : 707 ≤ k) : nCurve c x v g k = g k := by
  unfold aCurve at h
  by_cases ho : (0 ≤ c ∧ c ≤ 3) ∧ okC x v
  · obtain ⟨h1, h2, -⟩ := ho
    obtain ⟨a, ha, rfl⟩ := i_03 h1
    obtain ⟨b, hb, rfl⟩ := i_05 h2
    unfold nCurve
    rw [ix_cl (by omega), ix_cl (by omega), ud_ne (by omega)]
  · rw [if_neg ho] at h
    exact absurd (by decide) h
theorem w_load {c w : Int32} {g : Nat → Int32} {k l : Nat} (hl : l ≤ 30) (hI : gInv g l) (h : ¬ aLoad c w g < 0) (hk : 707 ≤ k) : nLoad c w g k = g k := by
  unfold nLoad
  rw [gl_eq hI]
  exact gLoad_out (by unfold gOut; omega) (by omega)
theorem w_off {x : Int32} {g : Nat → Int32} {k l : Nat} (hl : l ≤ 30) (hI : gInv g l) (h : ¬ aOff x g < 0) (hk : 707 ≤ k) : nOff x g k = g k := by
  unfold aOff at h
  by_cases ho : 0 ≤ x ∧ x ≤ g 53 - 1
  · rw [hI.2.1] at ho
    obtain ⟨b, hb, rfl⟩ := (brd_iff (by omega)).mp ho
    unfold nOff
    rw [ix_cl (by omega), ud_ne (by omega)]
  · rw [if_neg ho] at h
    exact absurd (by decide) h
theorem w_pass {x : Int32} {g : Nat → Int32} {k l : Nat} (hl : l ≤ 30) (hI : gInv g l) (hk : 707 ≤ k) : nPass x g k = g k := by
  unfold nPass
  rw [gl_eq hI]
  exact gTicks_hi (by omega) (by omega) _ _
theorem w_take {x : Int32} {g : Nat → Int32} {k : Nat} (h : ¬ aTake x g < 0) (hk : 2123 ≤ k) : nTake x g k = g k := by
  unfold aTake at h
  by_cases ho : 0 ≤ x ∧ x ≤ 1
  · obtain ⟨a, ha, rfl⟩ := i_01 ho
    unfold nTake
    rw [ix_cl (by omega), if_neg (by omega), if_neg (by omega)]
  · rw [if_neg ho] at h
    exact absurd (by decide) h
theorem c_wipe {n P r len : Nat} {M : vv_M} {R T T' : Nat → Int32} (hG : Gc P M R r len T) : f_X3_wipe n (P + 150) M = some (nI len, va_up M (P + 150) (upd (upd (M (P + 150)) 1 0) 2 0)) ∧ Gc P (va_up M (P + 150) (upd (upd (M (P + 150)) 1 0) 2 0)) R r 0 T' := by
  obtain ⟨g1, g2, g3, g4, g5, g6⟩ := hG
  refine ⟨?_, ?_⟩
  · unfold f_X3_wipe
    simp (disch := omega) only [↓ix_let, up_s, bx_uu, g3]
  · obtain ⟨k2, o, k3, k4, k5, k6⟩ := g2
    refine ⟨Mo_ext (fun q a b => up_n (by omega)) (fun k hk => rfl) g1, ⟨k2, o, k3, by rw [up_n (by omega)]; exact k4, by rw [up_n (by omega)]; exact k5, fun i hi => ?_⟩, by rw [up_s, ud_ne (by omega), ud_s]; rfl, by rw [up_s, ud_s], by omega, fun k hk => absurd hk (Nat.not_lt_zero k)⟩
    have : (o + i) % 6 < 6 := Nat.mod_lt _ (by omega)
    exact Mo_ext (fun q a b => up_n (by omega)) (fun k hk => rfl) (k6 i hi)
