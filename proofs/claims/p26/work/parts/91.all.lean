/-! the law's sum of all that is told: it is a number of the moment alone -/
def Ans {α : Type} (P : Nat) (f : Nat → Int32) (F : vv_M → Option (α × vv_M)) : Prop := ∃ v, ∀ (M : vv_M) (T : Nat → Int32) (h : Nat → Nat → Int32) (r len : Nat), Gq P M f h r len T → F M = some (v, M)
theorem Ans.st {α : Type} {P : Nat} {f : Nat → Int32} {F F' : vv_M → Option (α × vv_M)} (h : Ans P f F) (e : ∀ (M : vv_M) (T : Nat → Int32) (h : Nat → Nat → Int32) (r len : Nat), Gq P M f h r len T → F' M = F M) : Ans P f F' := by
  obtain ⟨v, hv⟩ := h
  exact ⟨v, fun M T h r len hG => (e M T h r len hG).trans (hv M T h r len hG)⟩
theorem i_n0 {k : Nat} (h : 0 < k) (h2 : k < 2147483648) : ((nI k) = 0) = False := eq_false (nI_ne0 h (by omega))
theorem all_155 {n P b : Nat} {f : Nat → Int32} {K : Nat → Int64 → Int32 → vv_M → Option (Int64 × vv_M)} (hb : b < gl f) (hK : ∀ v, Ans P f (fun M => K P v (nI (b + 1)) M)) : ∀ (j i k : Nat) (v : Int64), i + j = 10 → j < k → Ans P f (fun M => f_L_all_155 n K k P v (nI b) (nI i) M) := by
  intro j
  induction j with
  | zero =>
    intro i k v hi hk
    obtain ⟨k, rfl⟩ : ∃ q, k = q + 1 := ⟨k - 1, by omega⟩
    obtain rfl : i = 10 := by omega
    refine (hK v).st (fun M T h r len hG => ?_)
    rw [f_L_all_155.eq_2, if_pos (show (10 : Int32) ≤ nI 10 by decide), ix_let, ix_al]
  | succ j ih =>
    intro i k v hi hk
    obtain ⟨k, rfl⟩ : ∃ q, k = q + 1 := ⟨k - 1, by omega⟩
    refine (ih (i + 1) k (31 * v + (vF f b (i / 2) (i % 2)).toInt64) (by omega) (by omega)).st (fun M T h r len hG => ?_)
    have z2 : ((2 : Int32) = 0) = False := by decide
    have e1 : nI i / 2 = nI (i / 2) := pk_div (d := 2) (by omega) (by omega) (by omega)
    have e2 : nI i - nI (i / 2) * 2 = nI (i % 2) := by
      rw [← e1]
      exact pk_rem (d := 2) (by omega) (by omega) (by omega)
    rw [f_L_all_155.eq_2, if_neg (show ¬ (10 : Int32) ≤ nI i from nI_ge (a := i) (b := 10) (by omega) (by omega)), if_neg (by rw [z2]; exact id), if_neg (by rw [z2]; exact id), e1, e2, bnd (q_fault (n := n) hG hb (show i / 2 < 5 by omega) (show i % 2 < 2 by omega))]
    simp only [ix_let, ix_al]
theorem all_124 {n P b : Nat} {f : Nat → Int32} {K : Nat → Int64 → Int32 → vv_M → Option (Int64 × vv_M)} (hn : 5000 ≤ n) (hb : b < gl f) (hK : ∀ v, Ans P f (fun M => K P v (nI (b + 1)) M)) : ∀ (j i k : Nat) (v : Int64), i + j = 11 → j < k → Ans P f (fun M => f_L_all_124 n K k P v (nI b) (nI i) M) := by
  intro j
  induction j with
  | zero =>
    intro i k v hi hk
    obtain ⟨k, rfl⟩ : ∃ q, k = q + 1 := ⟨k - 1, by omega⟩
    obtain rfl : i = 11 := by omega
    refine (all_155 (n := n) hb hK 10 0 n v (by omega) (by omega)).st (fun M T h r len hG => ?_)
    rw [f_L_all_124.eq_2, if_pos (show (11 : Int32) ≤ nI 11 by decide)]
    rfl
  | succ j ih =>
    intro i k v hi hk
    obtain ⟨k, rfl⟩ : ∃ q, k = q + 1 := ⟨k - 1, by omega⟩
    refine (ih (i + 1) k (31 * v + (vB f b i).toInt64) (by omega) (by omega)).st (fun M T h r len hG => ?_)
    rw [f_L_all_124.eq_2, if_neg (show ¬ (11 : Int32) ≤ nI i from nI_ge (a := i) (b := 11) (by omega) (by omega)), bnd (q_board (n := n) hG hb (show i < 11 by omega))]
    simp only [ix_let, ix_al]
theorem vC_1 {P r len : Nat} {M : vv_M} {f T : Nat → Int32} {h : Nat → Nat → Int32} {n : Nat} (hn : 5000 ≤ n) (hG : Gq P M f h r len T) : f_X4_count n P 1 M = some (nI (gl f), M) := by
  rw [q_count hn hG 1 (by decide) (by decide)]
  show some (f 53, M) = _
  rw [hG.oven.2.1.2.1]
theorem all_112 {n P : Nat} {f : Nat → Int32} (hl : gl f ≤ 30) (hn : 5000 ≤ n) : ∀ (j b k : Nat) (v : Int64), b + j = gl f → j < k → Ans P f (fun M => f_L_all_112 n k P v (nI b) M) := by
  intro j
  induction j with
  | zero =>
    intro b k v hb hk
    obtain ⟨k, rfl⟩ : ∃ q, k = q + 1 := ⟨k - 1, by omega⟩
    refine ⟨v, fun M T h r len hG => ?_⟩
    show f_L_all_112 n (k + 1) P v (nI b) M = _
    rw [f_L_all_112.eq_2, bnd (vC_1 hn hG), if_pos (show nI (gl f) ≤ nI b from nI_le (by omega) (by omega))]
  | succ j ih =>
    intro b k v hb hk
    obtain ⟨k, rfl⟩ : ∃ q, k = q + 1 := ⟨k - 1, by omega⟩
    refine (all_124 (n := n) (P := P) (K := f_L_all_112 n k) hn (show b < gl f by omega) (fun v => ih (b + 1) k v (by omega) (by omega)) 11 0 n v (by omega) (by omega)).st (fun M T h r len hG => ?_)
    rw [f_L_all_112.eq_2, bnd (vC_1 hn hG), if_neg (show ¬ nI (gl f) ≤ nI b from nI_ge (by omega) (by omega))]
    rfl
theorem all_78 {n P : Nat} {f : Nat → Int32} (hl : gl f ≤ 30) (hn : 5000 ≤ n) : ∀ (j i k : Nat) (v : Int64), i + j = 24 → j < k → Ans P f (fun M => f_L_all_78 n k P v (nI i) M) := by
  intro j
  induction j with
  | zero =>
    intro i k v hi hk
    obtain ⟨k, rfl⟩ : ∃ q, k = q + 1 := ⟨k - 1, by omega⟩
    obtain rfl : i = 24 := by omega
    refine (all_112 (n := n) (P := P) hl hn (gl f) 0 n v (by omega) (by omega)).st (fun M T h r len hG => ?_)
    rw [f_L_all_78.eq_2, if_pos (show (24 : Int32) ≤ nI 24 by decide)]
    rfl
  | succ j ih =>
    intro i k v hi hk
    obtain ⟨k, rfl⟩ : ∃ q, k = q + 1 := ⟨k - 1, by omega⟩
    refine (ih (i + 1) k (31 * v + (f (24 + 6 * (i / 6) + i % 6)).toInt64) (by omega) (by omega)).st (fun M T h r len hG => ?_)
    have z2 : ((6 : Int32) = 0) = False := by decide
    have e1 : nI i / 6 = nI (i / 6) := pk_div (d := 6) (by omega) (by omega) (by omega)
    have e2 : nI i - nI (i / 6) * 6 = nI (i % 6) := by
      rw [← e1]
      exact pk_rem (d := 6) (by omega) (by omega) (by omega)
    rw [f_L_all_78.eq_2, if_neg (show ¬ (24 : Int32) ≤ nI i from nI_ge (a := i) (b := 24) (by omega) (by omega)), if_neg (by rw [z2]; exact id), if_neg (by rw [z2]; exact id), e1, e2, bnd (q_curve (n := n) hG (show i / 6 < 4 by omega) (show i % 6 < 6 by omega))]
    simp only [ix_let, ix_al]
theorem all_42 {n P z : Nat} {f : Nat → Int32} {K : Nat → Int64 → Int32 → vv_M → Option (Int64 × vv_M)} (hn : 5000 ≤ n) (hz : z < 6) (hK : ∀ v, Ans P f (fun M => K P v (nI (z + 1)) M)) : ∀ (j i k : Nat) (v : Int64), i + j = 7 → j < k → Ans P f (fun M => f_L_all_42 n K k P v (nI z) (nI i) M) := by
  intro j
  induction j with
  | zero =>
    intro i k v hi hk
    obtain ⟨k, rfl⟩ : ∃ q, k = q + 1 := ⟨k - 1, by omega⟩
    obtain rfl : i = 7 := by omega
    refine (hK v).st (fun M T h r len hG => ?_)
    rw [f_L_all_42.eq_2, if_pos (show (7 : Int32) ≤ nI 7 by decide), ix_let, ix_al]
  | succ j ih =>
    intro i k v hi hk
    obtain ⟨k, rfl⟩ : ∃ q, k = q + 1 := ⟨k - 1, by omega⟩
    refine (ih (i + 1) k (31 * v + (vZ f z i).toInt64) (by omega) (by omega)).st (fun M T h r len hG => ?_)
    rw [f_L_all_42.eq_2, if_neg (show ¬ (7 : Int32) ≤ nI i from nI_ge (a := i) (b := 7) (by omega) (by omega)), bnd (q_zone hn hG hz (show i < 7 by omega))]
    simp only [ix_let, ix_al]
theorem all_33 {n P : Nat} {f : Nat → Int32} (hl : gl f ≤ 30) (hn : 5000 ≤ n) : ∀ (j z k : Nat) (v : Int64), z + j = 6 → j < k → Ans P f (fun M => f_L_all_33 n k P v (nI z) M) := by
  intro j
  induction j with
  | zero =>
    intro z k v hz hk
    obtain ⟨k, rfl⟩ : ∃ q, k = q + 1 := ⟨k - 1, by omega⟩
    obtain rfl : z = 6 := by omega
    refine (all_78 (n := n) (P := P) hl hn 24 0 n v (by omega) (by omega)).st (fun M T h r len hG => ?_)
    rw [f_L_all_33.eq_2, if_pos (show (6 : Int32) ≤ nI 6 by decide)]
    rfl
  | succ j ih =>
    intro z k v hz hk
    obtain ⟨k, rfl⟩ : ∃ q, k = q + 1 := ⟨k - 1, by omega⟩
    refine (all_42 (n := n) (P := P) (K := f_L_all_33 n k) hn (show z < 6 by omega) (fun v => ih (z + 1) k v (by omega) (by omega)) 7 0 n v (by omega) (by omega)).st (fun M T h r len hG => ?_)
    rw [f_L_all_33.eq_2, if_neg (show ¬ (6 : Int32) ≤ nI z from nI_ge (a := z) (b := 6) (by omega) (by omega))]
    rfl
theorem all_6 {n P : Nat} {f : Nat → Int32} (hl : gl f ≤ 30) (hn : 5000 ≤ n) : ∀ (j i k : Nat) (v : Int64), i + j = 14 → j < k → Ans P f (fun M => f_L_all_6 n k P v (nI i) M) := by
  intro j
  induction j with
  | zero =>
    intro i k v hi hk
    obtain ⟨k, rfl⟩ : ∃ q, k = q + 1 := ⟨k - 1, by omega⟩
    obtain rfl : i = 14 := by omega
    refine (all_33 (n := n) (P := P) hl hn 6 0 n v (by omega) (by omega)).st (fun M T h r len hG => ?_)
    rw [f_L_all_6.eq_2, if_pos (show (14 : Int32) ≤ nI 14 by decide)]
    rfl
  | succ j ih =>
    intro i k v hi hk
    obtain ⟨k, rfl⟩ : ∃ q, k = q + 1 := ⟨k - 1, by omega⟩
    refine (ih (i + 1) k (31 * v + (vC f (nI i)).toInt64) (by omega) (by omega)).st (fun M T h r len hG => ?_)
    have ne : ∀ q : Nat, q < 100 → i ≠ q → nI i ≠ nI q := fun q hq h e => h ((nI_eq (by omega) (by omega)).mp e)
    rw [f_L_all_6.eq_2, if_neg (show ¬ (14 : Int32) ≤ nI i from nI_ge (a := i) (b := 14) (by omega) (by omega)), bnd (q_count hn hG (nI i) (ne 14 (by omega) (by omega)) (ne 15 (by omega) (by omega)))]
    simp only [ix_let, ix_al]
theorem all_ok {n P : Nat} {f : Nat → Int32} (hl : gl f ≤ 30) (hn : 5000 ≤ n) : Ans P f (fun M => f_L_all n P M) := all_6 (n := n) (P := P) hl hn 14 0 n 43 (by omega) (by omega)
