/-! bits: rows of the kit's family of bits, and what is wanted of them here -/
def bt (x : Int32) (i : Nat) : Bool := x.toBitVec.getLsbD i
theorem b_ext {x y : Int32} (h : ∀ i, i < 32 → bt x i = bt y i) : x = y := Int32.toBitVec_inj.mp (BitVec.eq_of_getLsbD_eq (fun i hi => h i hi))
theorem b_or (x y : Int32) (i : Nat) : bt (x ||| y) i = (bt x i || bt y i) := by unfold bt; rw [Int32.toBitVec_or, BitVec.getLsbD_or]
theorem b_and (x y : Int32) (i : Nat) : bt (x &&& y) i = (bt x i && bt y i) := by unfold bt; rw [Int32.toBitVec_and, BitVec.getLsbD_and]
theorem b_big {x : Int32} {i : Nat} (h : 32 ≤ i) : bt x i = false := BitVec.getLsbD_of_ge _ _ h
theorem b_0 (i : Nat) : bt 0 i = false := BitVec.getLsbD_zero
theorem s_l : ∀ n, n < 32 → ((nI n &&& 31).toBitVec.smod 32).toNat = n := by decide +kernel
theorem b_shl (n : Nat) (hn : n < 32) (x : Int32) {i : Nat} (hi : i < 32) : bt (x <<< (nI n &&& 31)) i = (decide (n ≤ i) && bt x (i - n)) := by
  unfold bt
  rw [Int32.toBitVec_shiftLeft]
  show (x.toBitVec <<< ((nI n &&& 31).toBitVec.smod 32).toNat).getLsbD i = _
  rw [s_l n hn, BitVec.getLsbD_shiftLeft]
  rcases Nat.lt_or_ge i n with h | h
  · simp [h, Nat.not_le.mpr h]
  · simp [hi, h, Nat.not_lt.mpr h]
theorem b_sshr (n : Nat) (hn : n < 32) (x : Int32) {i : Nat} (hi : i < 32) : bt (x >>> (nI n &&& 31)) i = if n + i < 32 then bt x (n + i) else bt x 31 := by
  unfold bt
  rw [Int32.toBitVec_shiftRight]
  show (x.toBitVec.sshiftRight ((nI n &&& 31).toBitVec.smod 32).toNat).getLsbD i = _
  rw [s_l n hn, BitVec.getLsbD_sshiftRight, BitVec.msb_eq_getLsbD_last]
  simp [hi]
theorem b_1 {i : Nat} (hi : i < 32) : bt 1 i = decide (i = 0) := (by decide +kernel : ∀ i, i < 32 → bt 1 i = decide (i = 0)) i hi
theorem gbit_iff {x : Int32} {k : Nat} (hk : k < 32) : gbit x k ↔ bt x k = true := by
  have h0 : bt ((x >>> (nI k &&& 31)) &&& 1) 0 = bt x k := by
    rw [b_and, b_sshr k hk x (by omega), b_1 (by omega), if_pos (by omega)]
    simp
  constructor
  · intro h
    cases hb : bt x k with
    | true => rfl
    | false =>
      refine absurd (b_ext fun i hi => ?_) h
      rw [b_0]
      rcases Nat.eq_zero_or_pos i with rfl | h1
      · rw [h0, hb]
      · rw [b_and, b_1 hi, decide_eq_false (by omega), Bool.and_false]
  · intro h h2
    rw [h2, b_0, h] at h0
    cases h0
theorem b_one {k i : Nat} (hk : k < 32) (hi : i < 32) : bt ((1 : Int32) <<< (nI k &&& 31)) i = decide (i = k) := by
  rw [b_shl k hk 1 hi]
  rcases Nat.lt_or_ge i k with h | h
  · rw [decide_eq_false (by omega), decide_eq_false (by omega), Bool.false_and]
  · rw [decide_eq_true h, b_1 (by omega), Bool.true_and]
    by_cases h2 : i = k
    · rw [decide_eq_true (by omega), decide_eq_true h2]
    · rw [decide_eq_false (by omega), decide_eq_false h2]
theorem gbit_or {x : Int32} {k j : Nat} (hk : k < 32) (hj : j < 32) : gbit (x ||| ((1 : Int32) <<< (nI k &&& 31))) j ↔ gbit x j ∨ j = k := by
  rw [gbit_iff hj, gbit_iff hj, b_or, b_one hk hj]
  simp
theorem cbit_iff {x : Int32} {k : Nat} (hk : k < 32) : (x &&& ((1 : Int32) <<< (nI k &&& 31))) = 0 ↔ ¬ gbit x k := by
  rw [gbit_iff hk]
  constructor
  · intro h h2
    have h3 : bt (x &&& ((1 : Int32) <<< (nI k &&& 31))) k = true := by rw [b_and, b_one hk hk, h2]; simp
    rw [h, b_0] at h3
    cases h3
  · intro h
    refine b_ext fun i hi => ?_
    rw [b_and, b_one hk hi, b_0]
    by_cases h2 : i = k
    · subst h2
      rw [Bool.eq_false_iff.mpr h, Bool.false_and]
    · rw [decide_eq_false h2, Bool.and_false]
theorem b_or_id {x : Int32} {k : Nat} (hk : k < 32) (h : gbit x k) : x ||| ((1 : Int32) <<< (nI k &&& 31)) = x := by
  refine b_ext fun i hi => ?_
  rw [b_or, b_one hk hi]
  by_cases h2 : i = k
  · subst h2
    rw [(gbit_iff hk).mp h, Bool.true_or]
  · rw [decide_eq_false h2, Bool.or_false]
theorem gbit_0 {k : Nat} (hk : k < 32) : ¬ gbit 0 k := by
  rw [gbit_iff hk, b_0]
  simp
theorem or_comm3 (x a b : Int32) : (x ||| a) ||| b = (x ||| b) ||| a := by
  refine b_ext fun i hi => ?_
  simp only [b_or]
  cases bt x i <;> cases bt a i <;> cases bt b i <;> rfl
