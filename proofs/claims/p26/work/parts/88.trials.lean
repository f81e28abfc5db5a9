/-! trials on the whole object -/
theorem gTicks_add {l : Nat} : ∀ (a b : Nat) (g : Nat → Int32), gTicks l (a + b) g = gTicks l b (gTicks l a g) := by
  intro a
  induction a with
  | zero => intro b g; rw [Nat.zero_add]; rfl
  | succ a ih =>
    intro b g
    rw [show a + 1 + b = (a + b) + 1 by omega]
    exact ih b (gTick l g)
theorem q_back {P r len : Nat} {M M1 : vv_M} {f T : Nat → Int32} {h : Nat → Nat → Int32} (hG : Gq P M f h r len T) (h1 : FrS (P + 152) (P + 158) M M1) : Gq P M1 f h r len T := Gq_mem (fun x _ hx => h1 x (Or.inl hx)) hG
theorem q_become {n P r len : Nat} {M : vv_M} {f T : Nat → Int32} {h : Nat → Nat → Int32} (hG : Gq P M f h r len T) : ∃ M1, f_X2_become n (P + 152) (P + 1 + 1) M = some ((), M1) ∧ Ro (P + 152) M1 f (gl f) ∧ FrS (P + 152) (P + 158) M M1 := by
  obtain ⟨M1, a1, ⟨l', hl', hI', -, hR'⟩, a3⟩ := c_become (n := n) (p := P + 152) hG.1.1 (by omega)
  rw [← gl_eq hI'] at hR'
  exact ⟨M1, a1, hR', FrS.of a3 (by omega) (by omega)⟩
/-- how long a board rides -/
def rideN (l b : Nat) : Nat → (Nat → Int32) → Nat
  | 0, _ => 0
  | j + 1, g => if g (56 + 21 * b + 2) = 0 then rideN l b j (gTick l g) + 1 else 0
theorem rideN_eq {l b : Nat} : ∀ (j i : Nat) (g : Nat → Int32), i ≤ j → gTicks l i g (56 + 21 * b + 2) ≠ 0 → (∀ i', i' < i → gTicks l i' g (56 + 21 * b + 2) = 0) → rideN l b j g = i := by
  intro j
  induction j with
  | zero => intro i g hi _ _; exact (Nat.le_zero.mp hi).symm
  | succ j ih =>
    intro i g hi h1 h2
    unfold rideN
    rcases Nat.eq_zero_or_pos i with rfl | h0
    · exact if_neg h1
    · obtain ⟨i, rfl⟩ : ∃ q, i = q + 1 := ⟨i - 1, by omega⟩
      rw [if_pos (show g (56 + 21 * b + 2) = 0 from h2 0 (by omega)), ih i (gTick l g) (by omega) h1 (fun i' hi' => h2 (i' + 1) (by omega))]
theorem rideN_ok {l b : Nat} {g : Nat → Int32} (hb : b < l) (hI : gInv g l) : rideN l b 48 g ≤ 48 ∧ gTicks l (rideN l b 48 g) g (56 + 21 * b + 2) ≠ 0 ∧ ∀ i', i' < rideN l b 48 g → gTicks l i' g (56 + 21 * b + 2) = 0 := by
  obtain ⟨i, i1, i2, i3⟩ := ride_ex hb 48 g hI (fun _ => by omega)
  rw [rideN_eq 48 i g i1 i2 i3]
  exact ⟨i1, i2, i3⟩
theorem q_foretell {n P r len b w : Nat} {M : vv_M} {f T : Nat → Int32} {h : Nat → Nat → Int32} (hn : 5000 ≤ n) (hG : Gq P M f h r len T) (hb : b < gl f) (hon : f (56 + 21 * b + 2) = 0) (hw : w < 4) : ∃ M1, f_X4_foretell n P (nI b) (nI w) M = some (if w = 2 then nI (rideN (gl f) b 48 f) else gTicks (gl f) (rideN (gl f) b 48 f) f (56 + 21 * b + if w = 0 then 8 else if w = 1 then 6 else 4), M1) ∧ Gq P M1 f h r len T := by
  obtain ⟨hl, hI, hE, hR⟩ := hG.oven
  obtain ⟨i1, i2, i3⟩ := rideN_ok hb hI
  obtain ⟨M1, a1, hR', a3⟩ := q_become (n := n) hG
  obtain ⟨M2, b1, b2, b3⟩ := c_ride (n := n) (p := P + 152) (by omega) hb (rideN (gl f) b 48 f) 0 n M1 f (by omega) (by omega) hI hR' i3 i2
  rw [Nat.zero_add] at b1
  have b1' : f_X2_passUntilLeft n (P + 152) (nI b) M1 = some (nI (rideN (gl f) b 48 f), M2) := b1
  refine ⟨M2, ?_, q_back hG (FrS.tr a3 (FrS.of b3 (by omega) (by omega)))⟩
  have e2 : M (P + 1 + 1 + 4) (b * 22 + 2) = f (56 + 21 * b + 2) := (hR.2.2.2.2 b hb).1 2 (by omega) (by omega)
  have hon2 := c_isOnBelt (n := n) (p := P + 1 + 1) (b := b) M (by omega)
  rw [e2, zi_t hon] at hon2
  unfold f_X4_foretell
  rw [bnd (c_hasBoard (nI b) hR), zi_t (by rw [hI.2.1]; exact (brd_iff (by omega)).mpr ⟨b, hb, rfl⟩)]
  simp only [t10, ↓reduceIte]
  rw [c_in_b, zi_t ⟨nI_pos' (by omega), nI_le (b := 3) (by omega) (by omega)⟩]
  simp only [t10, ↓reduceIte]
  rw [bnd hon2]
  simp only [t10, ↓reduceIte]
  rw [bnd a1, bnd b1', ix_let]
  have hRb := b2.2.2.2.2 b hb
  have hcc : ∀ k : Nat, k < 11 → k ≠ 3 → (if nI (b * 22) + nI k < 0 ∨ 682 ≤ (nI (b * 22) + nI k).toNatClampNeg then none else some (M2 (P + 152 + 4) (nI (b * 22) + nI k).toNatClampNeg, M2)) = some (gTicks (gl f) (rideN (gl f) b 48 f) f (56 + 21 * b + k), M2) := by
    intro k h1 h2
    rw [nI_add, if_neg (nI_in (c := b * 22 + k) (N := 682) (by omega) (by omega)), ix_cl (by omega), hRb.1 k h1 h2]
  unfold f_X4_foretell_68
  rw [ix_ml, ix_let]
  rcases (show w = 0 ∨ w = 1 ∨ w = 2 ∨ w = 3 by omega) with rfl | rfl | rfl | rfl
  · exact hcc 8 (by omega) (by omega)
  · exact hcc 6 (by omega) (by omega)
  · rfl
  · exact hcc 4 (by omega) (by omega)
theorem q_room {n P r len i : Nat} {M : vv_M} {f T : Nat → Int32} {h : Nat → Nat → Int32} (hn : 5000 ≤ n) (hG : Gq P M f h r len T) (i1 : i ≤ 48) (i2 : gFree (gTicks (gl f) i f) (gl f) = true) (i3 : ∀ i', i' < i → gFree (gTicks (gl f) i' f) (gl f) = false) : ∃ M1, f_X4_room n P M = some (nI i, M1) ∧ Gq P M1 f h r len T := by
  obtain ⟨hl, hI, hE, hR⟩ := hG.oven
  obtain ⟨M1, a1, hR', a3⟩ := q_become (n := n) hG
  obtain ⟨M2, b1, b3⟩ := c_frees (n := n) (p := P + 152) (by omega) i 0 n M1 f (by omega) (by omega) hI hR' i3 i2
  rw [Nat.zero_add] at b1
  have b1' : f_X2_passUntilFree n (P + 152) M1 = some (nI i, M2) := b1
  refine ⟨M2, ?_, q_back hG (FrS.tr a3 (FrS.of b3 (by omega) (by omega)))⟩
  unfold f_X4_room
  rw [bnd a1, bnd b1']
/-- what a board of a curve and a weight would have at the end -/
def tH (f : Nat → Int32) (c w : Nat) (s : Int32) : Nat → Int32 := gLoad (gl f) (nI c) (nI w) (gSp s f)
def tv (f : Nat → Int32) (c w : Nat) (s : Int32) : Int32 := gTicks (gl f + 1) (rideN (gl f + 1) (gl f) 48 (tH f c w s)) (tH f c w s) (56 + 21 * gl f + 8)
theorem q_trial {n P r len c w : Nat} {M : vv_M} {f T : Nat → Int32} {h : Nat → Nat → Int32} {s : Int32} (hn : 5000 ≤ n) (hG : Gq P M f h r len T) (hc : c < 4) (hw1 : 1 ≤ w) (hw9 : w ≤ 9) (hs : 0 ≤ s ∧ s ≤ 3) : ∃ M1, f_X4_faultsInTrial n P (nI c) (nI w) s M = some (tv f c w s, M1) ∧ Gq P M1 f h r len T := by
  obtain ⟨hl, hI, hE, hR⟩ := hG.oven
  have hIs := gSp_inv hs hI
  have hH : gInv (gLoad (gl f) (nI c) (nI w) (gSp s f)) (gl f + 1) := gLoad_inv hl hIs hc hw1 hw9
  unfold tv
  rw [show gLoad (gl f) (nI c) (nI w) (gSp s f) = tH f c w s from rfl] at hH
  obtain ⟨i1, i2, i3⟩ := rideN_ok (show gl f < gl f + 1 by omega) hH
  obtain ⟨M1, a1, hR', a3⟩ := q_become (n := n) hG
  have h38 : ∀ Mt, Ro (P + 152) Mt (gSp s f) (gl f) → ∃ M4, f_X4_faultsInTrial_38 n P (nI c) (nI w) Mt = some (gTicks (gl f + 1) (rideN (gl f + 1) (gl f) 48 (tH f c w s)) (tH f c w s) (56 + 21 * gl f + 8), M4) ∧ FrS (P + 152) (P + 158) Mt M4 := by
    intro Mt hMt
    have h6 : Mt (P + 152) 6 = nI (gl f) := hMt.2.2.2.1.2.1.trans hIs.2.1
    have hp := c_place (n := n) (p := P + 152) (nI c) (nI w) Mt hl h6 (by omega)
    have hRl := (Ro_load hl hIs hMt hc hw1 hw9).2
    rw [show gLoad (gl f) (nI c) (nI w) (gSp s f) = tH f c w s from rfl] at hRl
    obtain ⟨M4, b1, b2, b3⟩ := c_ride (n := n) (p := P + 152) (b := gl f) (by omega) (by omega) (rideN (gl f + 1) (gl f) 48 (tH f c w s)) 0 n _ (tH f c w s) (by omega) (by omega) hH hRl i3 i2
    rw [Nat.zero_add] at b1
    refine ⟨M4, ?_, FrS.tr (FrS.tr (FrS.up (by omega) (by omega)) (FrS.up (by omega) (by omega))) (FrS.of b3 (by omega) (by omega))⟩
    have b1' : f_X2_passUntilLeft n (P + 152) (nI (gl f)) (va_up (va_up Mt (P + 152 + 4) (cLay (gl f) (nI c) (nI w) (Mt (P + 152 + 4)))) (P + 152) (upd (Mt (P + 152)) 6 (nI (gl f + 1)))) = some (nI (rideN (gl f + 1) (gl f) 48 (tH f c w s)), M4) := b1
    have e8 : M4 (P + 152 + 4) (gl f * 22 + 8) = gTicks (gl f + 1) (rideN (gl f + 1) (gl f) 48 (tH f c w s)) (tH f c w s) (56 + 21 * gl f + 8) := (b2.2.2.2.2 (gl f) (by omega)).1 8 (by omega) (by omega)
    unfold f_X4_faultsInTrial_38
    simp (disch := omega) only [↓bnd hp, ↓ix_let, ↓bnd b1', ix_ml, ix_al, ix_cl, ix_n0, ix_nge, or_self, ↓reduceIte, e8]
  unfold f_X4_faultsInTrial
  rw [bnd a1]
  by_cases h0 : s = 0
  · have hsp : gSp s f = f := if_pos h0
    rw [hsp] at h38
    obtain ⟨M4, d1, d2⟩ := h38 M1 hR'
    refine ⟨M4, ?_, q_back hG (FrS.tr a3 d2)⟩
    rw [if_pos h0]
    exact d1
  · obtain ⟨M4, d1, d2⟩ := h38 _ (Ro_sp hR' h0)
    refine ⟨M4, ?_, q_back hG (FrS.tr (FrS.tr a3 (FrS.up (by omega) (by omega))) d2)⟩
    rw [if_neg h0]
    simp (disch := omega) only [ix_cll, ix_l0, ix_nge, or_self, ↓reduceIte, ↓ix_let, up_s, bx_uu]
    exact d1
theorem q_wouldFail {n P r len c w : Nat} {M : vv_M} {f T : Nat → Int32} {h : Nat → Nat → Int32} {s : Int32} (hn : 5000 ≤ n) (hG : Gq P M f h r len T) (hc : c < 4) (hw1 : 1 ≤ w) (hw9 : w ≤ 9) (hs : 0 ≤ s ∧ s ≤ 3) : ∃ M1, f_X4_wouldFail n P (nI c) (nI w) s M = some (tv f c w s, M1) ∧ Gq P M1 f h r len T := by
  obtain ⟨M1, a1, a2⟩ := q_trial hn hG hc hw1 hw9 hs
  refine ⟨M1, ?_, a2⟩
  unfold f_X4_wouldFail
  rw [c_in_b, zi_t ⟨nI_pos' (by omega), nI_le (b := 3) (by omega) (by omega)⟩]
  simp only [t10, ↓reduceIte]
  rw [c_in_b, zi_t ⟨nI_le (a := 1) hw1 (by omega), nI_le (b := 9) hw9 (by omega)⟩]
  simp only [t10, ↓reduceIte]
  rw [c_in_b, zi_t hs]
  simp only [t10, ↓reduceIte]
  exact bnd a1
def hv (f : Nat → Int32) (c : Nat) : Nat → Int32
  | 0 => -1009
  | w + 1 => if tv f c (w + 1) 0 = 0 then nI (w + 1) else hv f c w
theorem q_heaviest {n P r len c : Nat} {M : vv_M} {f T : Nat → Int32} {h : Nat → Nat → Int32} (hn : 5000 ≤ n) (hG : Gq P M f h r len T) (hc : c < 4) : ∃ M1, f_X4_heaviest n P (nI c) M = some (hv f c 9, M1) ∧ Gq P M1 f h r len T := by
  unfold f_X4_heaviest
  rw [c_in_b, zi_t ⟨nI_pos' (by omega), nI_le (b := 3) (by omega) (by omega)⟩]
  simp only [t10, ↓reduceIte]
  have st : ∀ w, w ≤ 9 → ∀ Mc k, w < k → Gq P Mc f h r len T → ∃ M1, f_X4_heaviest_16 n k P (nI c) (nI w) Mc = some (hv f c w, M1) ∧ Gq P M1 f h r len T := by
    intro w
    induction w with
    | zero =>
      intro _ Mc k hk hO
      obtain ⟨k, rfl⟩ : ∃ q, k = q + 1 := ⟨k - 1, by omega⟩
      refine ⟨Mc, ?_, hO⟩
      rw [f_X4_heaviest_16.eq_2]
      rfl
    | succ w ih =>
      intro hw Mc k hk hO
      obtain ⟨k, rfl⟩ : ∃ q, k = q + 1 := ⟨k - 1, by omega⟩
      obtain ⟨M1, a1, a2⟩ := q_trial (n := n) (s := 0) (w := w + 1) hn hO hc (by omega) hw (by decide)
      have hlt : ¬ nI (w + 1) < 1 := nI_nlt (b := 1) (by omega) (by omega)
      have hm1 : nI (w + 1) + (-1) = nI w := pk_m1 w
      unfold hv
      rw [f_X4_heaviest_16.eq_2, if_neg hlt, bnd a1]
      by_cases hy : tv f c (w + 1) 0 = 0
      · rw [if_pos hy]
        exact ⟨M1, by rw [if_pos hy], a2⟩
      · obtain ⟨M3, c1, c2⟩ := ih (by omega) M1 k (by omega) a2
        rw [if_neg hy]
        exact ⟨M3, by rw [if_neg hy, ix_let, hm1]; exact c1, c2⟩
  exact st 9 (by omega) M n (by omega) hG
theorem hv_spec (f : Nat → Int32) (c : Nat) : ∀ j, hv f c j = -1009 ∧ (∀ w, 1 ≤ w → w ≤ j → tv f c w 0 ≠ 0) ∨ ∃ w, 1 ≤ w ∧ w ≤ j ∧ hv f c j = nI w ∧ tv f c w 0 = 0 ∧ ∀ w', w < w' → w' ≤ j → tv f c w' 0 ≠ 0 := by
  intro j
  induction j with
  | zero => exact Or.inl ⟨rfl, fun w h1 h2 => absurd h2 (by omega)⟩
  | succ j ih =>
    unfold hv
    by_cases hy : tv f c (j + 1) 0 = 0
    · rw [if_pos hy]
      exact Or.inr ⟨j + 1, by omega, by omega, rfl, hy, fun w' h1 h2 => absurd h2 (by omega)⟩
    · rw [if_neg hy]
      have hx : ∀ w, w ≤ j + 1 → ¬ w ≤ j → tv f c w 0 ≠ 0 := fun w h1 h2 => by
        obtain rfl : w = j + 1 := by omega
        exact hy
      rcases ih with ⟨i1, i2⟩ | ⟨w, i1, i2, i3, i4, i5⟩
      · exact Or.inl ⟨i1, fun w h1 h2 => if hq : w ≤ j then i2 w h1 hq else hx w h2 hq⟩
      · exact Or.inr ⟨w, i1, by omega, i3, i4, fun w' h1 h2 => if hq : w' ≤ j then i5 w' h1 hq else hx w' h2 hq⟩
theorem q_nos {n P : Nat} {M : vv_M} : f_X4_heaviest n P 4 M = some (-1001, M) ∧ f_X4_wouldFail n P 0 1 4 M = some (-1001, M) := by
  constructor
  · unfold f_X4_heaviest
    rw [c_in_b, zi_f (by decide)]
    rfl
  · unfold f_X4_wouldFail
    rw [c_in_b, zi_t (by decide)]
    simp only [t10, ↓reduceIte]
    rw [c_in_b, zi_t (by decide)]
    simp only [t10, ↓reduceIte]
    rw [c_in_b, zi_f (by decide)]
    rfl
