/-! the reference's actions -/
theorem t10 : ((1 : Int32) = 0) = False := by decide
theorem tm1 : ((-1001 : Int32) = 0) = False := by decide
theorem tm2 : ((-1002 : Int32) = 0) = False := by decide
theorem tm3 : ((-1003 : Int32) = 0) = False := by decide
def eLoad (c w : Int32) (g : Nat → Int32) : Int32 := if 0 ≤ c ∧ c ≤ 3 then (if 1 ≤ w ∧ w ≤ 9 then (if gFree g (gl g) = true then (if gl g < 30 then 0 else -1003) else -1002) else -1001) else -1001
theorem e_load {c w : Int32} {g : Nat → Int32} (h : eLoad c w g = 0) : aLoad c w g = nI (gl g) ∧ gl g < 30 ∧ (0 ≤ c ∧ c ≤ 3) ∧ (1 ≤ w ∧ w ≤ 9) := by
  unfold eLoad at h
  unfold aLoad
  by_cases hc : 0 ≤ c ∧ c ≤ 3
  · rw [if_pos hc] at h ⊢
    by_cases hw : 1 ≤ w ∧ w ≤ 9
    · rw [if_pos hw] at h ⊢
      by_cases hf : gFree g (gl g) = true
      · rw [if_pos hf] at h ⊢
        by_cases h30 : gl g < 30
        · rw [if_pos h30]; exact ⟨rfl, h30, hc, hw⟩
        · rw [if_neg h30] at h; exact absurd h (by decide)
      · rw [if_neg hf] at h; exact absurd h (by decide)
    · rw [if_neg hw] at h; exact absurd h (by decide)
  · rw [if_neg hc] at h; exact absurd h (by decide)
theorem e_load2 {c w : Int32} {g : Nat → Int32} (h : eLoad c w g ≠ 0) : aLoad c w g = eLoad c w g ∧ eLoad c w g < 0 := by
  unfold eLoad at h ⊢
  unfold aLoad
  by_cases hc : 0 ≤ c ∧ c ≤ 3
  · rw [if_pos hc] at h
    rw [if_pos hc, if_pos hc]
    by_cases hw : 1 ≤ w ∧ w ≤ 9
    · rw [if_pos hw] at h
      rw [if_pos hw, if_pos hw]
      by_cases hf : gFree g (gl g) = true
      · rw [if_pos hf] at h
        rw [if_pos hf, if_pos hf]
        by_cases h30 : gl g < 30
        · rw [if_pos h30] at h
          exact absurd rfl h
        · rw [if_neg h30, if_neg h30]; exact ⟨rfl, by decide⟩
      · rw [if_neg hf, if_neg hf]; exact ⟨rfl, by decide⟩
    · rw [if_neg hw, if_neg hw]; exact ⟨rfl, by decide⟩
  · rw [if_neg hc, if_neg hc]; exact ⟨rfl, by decide⟩
/-- the memory after record -/
def mRec (Q r : Nat) (M : vv_M) : vv_M := va_up (va_up M (Q + 1) (gRec (M (Q + 1)) r)) Q (upd (M Q) 1 (nI (rNext r)))
theorem mRec_1 {Q r : Nat} {M : vv_M} : mRec Q r M (Q + 1) = gRec (M (Q + 1)) r := by
  unfold mRec
  rw [up_n (by omega), up_s]
def eOff (x : Int32) (g : Nat → Int32) : Int32 := if 0 ≤ x ∧ x ≤ g 53 - 1 then (if g (56 + 21 * x.toNatClampNeg + 2) = 0 then 0 else -1002) else -1001
def ePass (x : Int32) (g : Nat → Int32) : Int32 := if 1 ≤ x ∧ x ≤ 99 then (if g 52 + x ≤ 5000 then 0 else -1003) else -1001
theorem gMany_rec {R : Nat → Int32} {l r : Nat} {s : Int32} (hl : l ≤ 31) : gMany (gRec R r) s l = gMany R s l := gMany_congr (fun b hb => gRec_lo (by omega))
theorem cv_0 {v : Int32} : okC 0 v ↔ (1 ≤ v ∧ v ≤ 99) := ⟨fun h => h.2, fun h => ⟨by decide, h⟩⟩
theorem cv_2 {v : Int32} : okC 2 v ↔ (0 ≤ v ∧ v ≤ 99) := ⟨fun h => h.2, fun h => ⟨by decide, h⟩⟩
theorem cv_3 {v : Int32} : okC 3 v ↔ (0 ≤ v ∧ v ≤ 99) := ⟨fun h => h.2, fun h => ⟨by decide, h⟩⟩
theorem cv_e {x v : Int32} (h0 : x ≠ 0) (h2 : x ≠ 2) (h3 : x ≠ 3) : okC x v ↔ (1 ≤ x ∧ x ≤ 5) ∧ (20 ≤ v ∧ v ≤ 300) := by
  constructor
  · rintro ⟨k1, k2⟩
    obtain ⟨a, ha, rfl⟩ := i_05 k1
    rcases (show a = 0 ∨ a = 1 ∨ a = 2 ∨ a = 3 ∨ a = 4 ∨ a = 5 by omega) with rfl | rfl | rfl | rfl | rfl | rfl
    · exact absurd rfl h0
    · exact ⟨by decide, k2⟩
    · exact absurd rfl h2
    · exact absurd rfl h3
    · exact ⟨by decide, k2⟩
    · exact ⟨by decide, k2⟩
  · rintro ⟨k1, k2⟩
    have k3 : 0 ≤ x ∧ x ≤ 5 := ⟨Int32.le_trans (by decide) k1.1, k1.2⟩
    obtain ⟨a, ha, rfl⟩ := i_05 k3
    rcases (show a = 0 ∨ a = 1 ∨ a = 2 ∨ a = 3 ∨ a = 4 ∨ a = 5 by omega) with rfl | rfl | rfl | rfl | rfl | rfl
    · exact absurd rfl h0
    · exact ⟨by decide, k2⟩
    · exact absurd rfl h2
    · exact absurd rfl h3
    · exact ⟨by decide, k2⟩
    · exact ⟨by decide, k2⟩
theorem zi_if {P Q : Prop} [Decidable P] [Decidable Q] (h : P ↔ Q) : zi P = zi Q := by
  unfold zi
  by_cases hp : P
  · rw [if_pos hp, if_pos (h.mp hp)]
  · rw [if_neg hp, if_neg (fun q => hp (h.mpr q))]
theorem nv_0 {v : Int32} : okN 0 v ↔ (1 ≤ v ∧ v ≤ 3) := ⟨fun h => h.2, fun h => ⟨by decide, h⟩⟩
theorem nv_1 {v : Int32} : okN 1 v ↔ (1 ≤ v ∧ v ≤ 20) := ⟨fun h => h.2, fun h => ⟨by decide, h⟩⟩
theorem nv_2 {v : Int32} : okN 2 v ↔ (0 ≤ v ∧ v ≤ 99) := ⟨fun h => h.2, fun h => ⟨by decide, h⟩⟩
theorem nv_3 {v : Int32} : okN 3 v ↔ (0 ≤ v ∧ v ≤ 9) := ⟨fun h => h.2, fun h => ⟨by decide, h⟩⟩
