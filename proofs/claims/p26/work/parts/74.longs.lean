/-! longs: rows of the kit's family of bits (wb_), and how many bits a long has -/
theorem wb_tb (n : Nat) : (lN n).toBitVec = BitVec.ofNat 64 n := rfl
theorem wb_inj {a b : Int64} (h : a.toBitVec = b.toBitVec) : a = b := Int64.toBitVec_inj.mp h
theorem wb_tn {n : Nat} (h : n < 2 ^ 64) : (lN n).toBitVec.toNat = n := by rw [wb_tb, BitVec.toNat_ofNat, Nat.mod_eq_of_lt h]
theorem wb_c : ∀ k, k < 64 → ((nI k).toInt64 &&& 63) = lN k := by decide +kernel
theorem wb_cu : ∀ k, k < 64 → ((nI k).toInt64.toUInt64 &&& Int64.toUInt64 63) = UInt64.ofNat k := by decide +kernel
theorem wb_sm : ∀ k, k < 64 → (BitVec.ofNat 64 k).smod 64 = BitVec.ofNat 64 k := by decide +kernel
theorem wb_mod (n : Nat) : lN n = lN (n % 2 ^ 64) := wb_inj (by rw [wb_tb, wb_tb]; apply BitVec.eq_of_toNat_eq; rw [BitVec.toNat_ofNat, BitVec.toNat_ofNat, Nat.mod_mod])
theorem wb_shr {n k : Nat} (hn : n < 2 ^ 64) (hk : k < 64) : ((lN n).toUInt64 >>> ((nI k).toInt64.toUInt64 &&& Int64.toUInt64 63)).toInt64 = lN (n / 2 ^ k) := by
  rw [wb_cu k hk]
  apply wb_inj
  apply BitVec.eq_of_toNat_eq
  show ((lN n).toUInt64 >>> UInt64.ofNat k).toNat = (BitVec.ofNat 64 _).toNat
  have h1 : (UInt64.ofNat k).toNat = k := by
    show (BitVec.ofNat 64 k).toNat = k
    rw [BitVec.toNat_ofNat, Nat.mod_eq_of_lt (by omega)]
  have h2 : (lN n).toUInt64.toNat = n := wb_tn hn
  rw [UInt64.toNat_shiftRight, h1, h2, Nat.mod_eq_of_lt hk, Nat.shiftRight_eq_div_pow, BitVec.toNat_ofNat, Nat.mod_eq_of_lt (Nat.lt_of_le_of_lt (Nat.div_le_self _ _) hn)]
theorem wb_shl (n : Nat) {k : Nat} (hk : k < 64) : lN n <<< ((nI k).toInt64 &&& 63) = lN (n * 2 ^ k) := by
  rw [wb_c k hk]
  apply wb_inj
  rw [Int64.toBitVec_shiftLeft, wb_tb, wb_tb, wb_tb, wb_sm k hk]
  apply BitVec.eq_of_toNat_eq
  rw [BitVec.shiftLeft_eq', BitVec.toNat_shiftLeft, BitVec.toNat_ofNat, BitVec.toNat_ofNat, BitVec.toNat_ofNat, Nat.mod_eq_of_lt (show k < 2 ^ 64 by omega), Nat.shiftLeft_eq, Nat.mul_mod, Nat.mod_mod, ← Nat.mul_mod]
theorem wb_and {a b : Nat} (ha : a < 2 ^ 64) (hb : b < 2 ^ 64) : lN a &&& lN b = lN (a &&& b) := by
  apply wb_inj
  rw [Int64.toBitVec_and, wb_tb, wb_tb, wb_tb]
  apply BitVec.eq_of_toNat_eq
  rw [BitVec.toNat_and, BitVec.toNat_ofNat, BitVec.toNat_ofNat, BitVec.toNat_ofNat, Nat.mod_eq_of_lt ha, Nat.mod_eq_of_lt hb, Nat.mod_eq_of_lt (Nat.and_lt_two_pow _ hb)]
theorem wb_or {a b : Nat} (ha : a < 2 ^ 64) (hb : b < 2 ^ 64) : lN a ||| lN b = lN (a ||| b) := by
  apply wb_inj
  rw [Int64.toBitVec_or, wb_tb, wb_tb, wb_tb]
  apply BitVec.eq_of_toNat_eq
  rw [BitVec.toNat_or, BitVec.toNat_ofNat, BitVec.toNat_ofNat, BitVec.toNat_ofNat, Nat.mod_eq_of_lt ha, Nat.mod_eq_of_lt hb, Nat.mod_eq_of_lt (Nat.or_lt_two_pow ha hb)]
def cnt (f : Nat → Bool) : Nat → Nat
  | 0 => 0
  | c + 1 => cnt f c + (f c).toNat
def cnt8 (d : Nat) : Nat := cnt d.testBit 8
theorem cnt_congr {f g : Nat → Bool} : ∀ m, (∀ i, i < m → f i = g i) → cnt f m = cnt g m := by
  intro m
  induction m with
  | zero => intro _; rfl
  | succ m ih =>
    intro h
    show cnt f m + (f m).toNat = cnt g m + (g m).toNat
    rw [ih (fun i hi => h i (by omega)), h m (by omega)]
theorem cnt_add (f : Nat → Bool) (a : Nat) : ∀ m, cnt f (a + m) = cnt f a + cnt (fun i => f (i + a)) m := by
  intro m
  induction m with
  | zero => rfl
  | succ m ih =>
    show cnt f (a + m) + (f (a + m)).toNat = cnt f a + (cnt (fun i => f (i + a)) m + (f (m + a)).toNat)
    rw [ih, Nat.add_comm m a, Nat.add_assoc]
theorem and_dig {a b A B : Nat} (ha : a < 256) (hb : b < 256) : (a + 256 * A) &&& (b + 256 * B) = (a &&& b) + 256 * (A &&& B) := by
  have e1 : ((a + 256 * A) &&& (b + 256 * B)) % 2 ^ 8 = a &&& b := by
    rw [Nat.and_mod_two_pow, show (a + 256 * A) % 2 ^ 8 = a by omega, show (b + 256 * B) % 2 ^ 8 = b by omega]
  have e2 : ((a + 256 * A) &&& (b + 256 * B)) / 2 ^ 8 = A &&& B := by
    rw [Nat.and_div_two_pow, show (a + 256 * A) / 2 ^ 8 = A by omega, show (b + 256 * B) / 2 ^ 8 = B by omega]
  have := Nat.mod_add_div ((a + 256 * A) &&& (b + 256 * B)) (2 ^ 8)
  rw [e1, e2] at this
  omega
def mk8 (m : Nat) : Nat → Nat
  | 0 => 0
  | k + 1 => m + 256 * mk8 m k
def F1 (k X : Nat) : Nat := X - ((X / 2) &&& mk8 85 k)
def F2 (k Y : Nat) : Nat := (Y &&& mk8 51 k) + ((Y / 4) &&& mk8 51 k)
def F3 (k Z : Nat) : Nat := (Z + Z / 16) &&& mk8 15 k
def G1 (d : Nat) : Nat := d - ((d / 2) &&& 85)
def G2 (y : Nat) : Nat := (y &&& 51) + ((y / 4) &&& 51)
theorem F1_s {k d X : Nat} (hd : d < 256) : F1 (k + 1) (d + 256 * X) = G1 d + 256 * F1 k X := by
  unfold F1 G1
  have h1 : (d + 256 * X) / 2 = (d / 2 + 128 * (X % 2)) + 256 * (X / 2) := by omega
  have h2 : (d / 2 + 128 * (X % 2)) &&& 85 = (d / 2) &&& 85 := by
    have hk : ∀ e, e < 128 → ∀ x, x < 2 → (e + 128 * x) &&& 85 = e &&& 85 := by decide +kernel
    exact hk _ (by omega) _ (Nat.mod_lt _ (by omega))
  rw [h1]
  show d + 256 * X - ((d / 2 + 128 * (X % 2) + 256 * (X / 2)) &&& (85 + 256 * mk8 85 k)) = _
  rw [and_dig (by omega) (by omega), h2]
  have h3 : (d / 2) &&& 85 ≤ d := Nat.le_trans Nat.and_le_left (Nat.div_le_self _ _)
  have h4 : (X / 2) &&& mk8 85 k ≤ X := Nat.le_trans Nat.and_le_left (Nat.div_le_self _ _)
  omega
theorem F2_s {k y Y : Nat} (hy : y < 256) : F2 (k + 1) (y + 256 * Y) = G2 y + 256 * F2 k Y := by
  unfold F2 G2
  have h1 : (y + 256 * Y) / 4 = (y / 4 + 64 * (Y % 4)) + 256 * (Y / 4) := by omega
  have h2 : (y / 4 + 64 * (Y % 4)) &&& 51 = (y / 4) &&& 51 := by
    have hk : ∀ e, e < 64 → ∀ x, x < 4 → (e + 64 * x) &&& 51 = e &&& 51 := by decide +kernel
    exact hk _ (by omega) _ (Nat.mod_lt _ (by omega))
  rw [h1]
  show ((y + 256 * Y) &&& (51 + 256 * mk8 51 k)) + ((y / 4 + 64 * (Y % 4) + 256 * (Y / 4)) &&& (51 + 256 * mk8 51 k)) = _
  rw [and_dig hy (by omega), and_dig (by omega) (by omega), h2]
  omega
theorem F3_s {k z Z : Nat} (h1 : z % 16 ≤ 4) (h2 : z / 16 ≤ 4) (h3 : Z % 16 ≤ 4) : F3 (k + 1) (z + 256 * Z) = (z % 16 + z / 16) + 256 * F3 k Z := by
  unfold F3
  have e1 : z + 256 * Z + (z + 256 * Z) / 16 = (z + z / 16 + 16 * (Z % 16)) + 256 * (Z + Z / 16) := by omega
  rw [e1]
  show (z + z / 16 + 16 * (Z % 16) + 256 * (Z + Z / 16)) &&& (15 + 256 * mk8 15 k) = _
  rw [and_dig (by omega) (by omega)]
  have e2 : (z + z / 16 + 16 * (Z % 16)) &&& 15 = z % 16 + z / 16 := by
    have : (15 : Nat) = 2 ^ 4 - 1 := rfl
    rw [this, Nat.and_two_pow_sub_one_eq_mod]
    omega
  rw [e2]
theorem G12 : ∀ d, d < 256 → G1 d < 256 ∧ G2 (G1 d) % 16 ≤ 4 ∧ G2 (G1 d) / 16 ≤ 4 ∧ G2 (G1 d) % 16 + G2 (G1 d) / 16 = cnt8 d := by decide +kernel
theorem nib : ∀ k X, F2 k (F1 k X) % 16 ≤ 4 := by
  intro k X
  cases k with
  | zero =>
    unfold F2 mk8
    rw [Nat.and_zero, Nat.and_zero]
    decide
  | succ k =>
    have hX : X = X % 256 + 256 * (X / 256) := (Nat.mod_add_div X 256).symm
    have hd : X % 256 < 256 := Nat.mod_lt _ (by omega)
    obtain ⟨g1, g2, -, -⟩ := G12 _ hd
    rw [hX, F1_s hd, F2_s g1]
    omega
def wd : Nat → Nat → Nat
  | 0, _ => 0
  | k + 1, X => cnt8 (X % 256) + 256 * wd k (X / 256)
theorem F_wd : ∀ k X, F3 k (F2 k (F1 k X)) = wd k X := by
  intro k
  induction k with
  | zero => intro X; exact Nat.and_zero _
  | succ k ih =>
    intro X
    have hX : X = X % 256 + 256 * (X / 256) := (Nat.mod_add_div X 256).symm
    have hd : X % 256 < 256 := Nat.mod_lt _ (by omega)
    obtain ⟨g1, g2, g3, g4⟩ := G12 _ hd
    show _ = cnt8 (X % 256) + 256 * wd k (X / 256)
    rw [← ih (X / 256), ← g4]
    conv => lhs; rw [hX]
    rw [F1_s hd, F2_s g1, F3_s g2 g3 (nib _ _)]
theorem cnt8_le (d : Nat) : cnt8 d ≤ 8 := by
  have : ∀ m, cnt d.testBit m ≤ m := by
    intro m
    induction m with
    | zero => exact Nat.le_refl _
    | succ m ih =>
      show cnt d.testBit m + (d.testBit m).toNat ≤ m + 1
      have := Bool.toNat_le (d.testBit m)
      omega
  exact this 8
theorem cnt_wd (X k : Nat) : cnt X.testBit (8 * (k + 1)) = cnt8 (X % 256) + cnt (X / 256).testBit (8 * k) := by
  rw [show 8 * (k + 1) = 8 + 8 * k by omega, cnt_add]
  have e1 : cnt X.testBit 8 = cnt8 (X % 256) := cnt_congr 8 (fun i hi => by
    rw [show (256 : Nat) = 2 ^ 8 from rfl, Nat.testBit_mod_two_pow, decide_eq_true hi, Bool.true_and])
  have e2 : cnt (fun i => X.testBit (i + 8)) (8 * k) = cnt (X / 256).testBit (8 * k) := cnt_congr _ (fun i hi => by
    rw [show (256 : Nat) = 2 ^ 8 from rfl, Nat.testBit_div_two_pow])
  rw [e1, e2]
theorem wd_8 (X : Nat) : ∃ c0 c1 c2 c3 c4 c5 c6 c7, c0 ≤ 8 ∧ c1 ≤ 8 ∧ c2 ≤ 8 ∧ c3 ≤ 8 ∧ c4 ≤ 8 ∧ c5 ≤ 8 ∧ c6 ≤ 8 ∧ c7 ≤ 8 ∧ wd 8 X = c0 + 256 * (c1 + 256 * (c2 + 256 * (c3 + 256 * (c4 + 256 * (c5 + 256 * (c6 + 256 * (c7 + 256 * 0))))))) ∧ cnt X.testBit 64 = c0 + (c1 + (c2 + (c3 + (c4 + (c5 + (c6 + (c7 + 0))))))) := by
  refine ⟨_, _, _, _, _, _, _, _, cnt8_le _, cnt8_le _, cnt8_le _, cnt8_le _, cnt8_le _, cnt8_le _, cnt8_le _, cnt8_le _, rfl, ?_⟩
  rw [show 64 = 8 * (7 + 1) from rfl, cnt_wd, show 8 * 7 = 8 * (6 + 1) from rfl, cnt_wd, show 8 * 6 = 8 * (5 + 1) from rfl, cnt_wd, show 8 * 5 = 8 * (4 + 1) from rfl, cnt_wd, show 8 * 4 = 8 * (3 + 1) from rfl, cnt_wd, show 8 * 3 = 8 * (2 + 1) from rfl, cnt_wd, show 8 * 2 = 8 * (1 + 1) from rfl, cnt_wd, show 8 * 1 = 8 * (0 + 1) from rfl, cnt_wd]
  rfl
theorem fd1 (a K : Nat) (h : a < 256) : (a + 256 * K) / 2 ^ 8 = K := by omega
theorem fd2 (a K : Nat) (h : a < 65536) : (a + 65536 * K) / 2 ^ 16 = K := by omega
theorem fd3 (a K : Nat) (h : a < 4294967296) : (a + 4294967296 * K) / 2 ^ 32 = K := by omega
theorem fdm1 (a K : Nat) (h : a < 128) : (a + 256 * K) % 128 = a := by omega
theorem fq2 (c0 c1 c2 c3 c4 c5 c6 c7 : Nat) : c0 + 256 * (c1 + 256 * (c2 + 256 * (c3 + 256 * (c4 + 256 * (c5 + 256 * (c6 + 256 * (c7 + 256 * 0))))))) + (c1 + 256 * (c2 + 256 * (c3 + 256 * (c4 + 256 * (c5 + 256 * (c6 + 256 * (c7 + 256 * 0))))))) = ((c0 + c1) + 256 * (c1 + c2)) + 65536 * (((c2 + c3) + 256 * (c3 + c4)) + 65536 * (((c4 + c5) + 256 * (c5 + c6)) + 65536 * ((c6 + c7) + 256 * c7))) := by omega
theorem fq4 (c0 c1 c2 c3 c4 c5 c6 c7 : Nat) : ((c0 + c1) + 256 * (c1 + c2)) + 65536 * (((c2 + c3) + 256 * (c3 + c4)) + 65536 * (((c4 + c5) + 256 * (c5 + c6)) + 65536 * ((c6 + c7) + 256 * c7))) + (((c2 + c3) + 256 * (c3 + c4)) + 65536 * (((c4 + c5) + 256 * (c5 + c6)) + 65536 * ((c6 + c7) + 256 * c7))) = ((c0 + c1 + c2 + c3) + 256 * (c1 + c2 + c3 + c4) + 65536 * (c2 + c3 + c4 + c5) + 16777216 * (c3 + c4 + c5 + c6)) + 4294967296 * ((c4 + c5 + c6 + c7) + 256 * ((c5 + c6 + c7) + 256 * ((c6 + c7) + 256 * c7))) := by omega
theorem fq6 (c0 c1 c2 c3 c4 c5 c6 c7 : Nat) : ((c0 + c1 + c2 + c3) + 256 * (c1 + c2 + c3 + c4) + 65536 * (c2 + c3 + c4 + c5) + 16777216 * (c3 + c4 + c5 + c6)) + 4294967296 * ((c4 + c5 + c6 + c7) + 256 * ((c5 + c6 + c7) + 256 * ((c6 + c7) + 256 * c7))) + ((c4 + c5 + c6 + c7) + 256 * ((c5 + c6 + c7) + 256 * ((c6 + c7) + 256 * c7))) = (c0 + (c1 + (c2 + (c3 + (c4 + (c5 + (c6 + (c7 + 0)))))))) + 256 * ((c1 + c2 + c3 + c4) + 256 * (c2 + c3 + c4 + c5) + 65536 * (c3 + c4 + c5 + c6) + 16777216 * ((c4 + c5 + c6 + c7) + 256 * ((c5 + c6 + c7) + 256 * ((c6 + c7) + 256 * c7))) + ((c5 + c6 + c7) + 256 * ((c6 + c7) + 256 * c7))) := by omega
theorem fold8 {c0 c1 c2 c3 c4 c5 c6 c7 : Nat} (h0 : c0 ≤ 8) (h1 : c1 ≤ 8) (h2 : c2 ≤ 8) (h3 : c3 ≤ 8) (h4 : c4 ≤ 8) (h5 : c5 ≤ 8) (h6 : c6 ≤ 8) (h7 : c7 ≤ 8) : (c0 + 256 * (c1 + 256 * (c2 + 256 * (c3 + 256 * (c4 + 256 * (c5 + 256 * (c6 + 256 * (c7 + 256 * 0))))))) + (c0 + 256 * (c1 + 256 * (c2 + 256 * (c3 + 256 * (c4 + 256 * (c5 + 256 * (c6 + 256 * (c7 + 256 * 0)))))))) / 2 ^ 8 + (c0 + 256 * (c1 + 256 * (c2 + 256 * (c3 + 256 * (c4 + 256 * (c5 + 256 * (c6 + 256 * (c7 + 256 * 0))))))) + (c0 + 256 * (c1 + 256 * (c2 + 256 * (c3 + 256 * (c4 + 256 * (c5 + 256 * (c6 + 256 * (c7 + 256 * 0)))))))) / 2 ^ 8) / 2 ^ 16 + (c0 + 256 * (c1 + 256 * (c2 + 256 * (c3 + 256 * (c4 + 256 * (c5 + 256 * (c6 + 256 * (c7 + 256 * 0))))))) + (c0 + 256 * (c1 + 256 * (c2 + 256 * (c3 + 256 * (c4 + 256 * (c5 + 256 * (c6 + 256 * (c7 + 256 * 0)))))))) / 2 ^ 8 + (c0 + 256 * (c1 + 256 * (c2 + 256 * (c3 + 256 * (c4 + 256 * (c5 + 256 * (c6 + 256 * (c7 + 256 * 0))))))) + (c0 + 256 * (c1 + 256 * (c2 + 256 * (c3 + 256 * (c4 + 256 * (c5 + 256 * (c6 + 256 * (c7 + 256 * 0)))))))) / 2 ^ 8) / 2 ^ 16) / 2 ^ 32) % 128 = c0 + (c1 + (c2 + (c3 + (c4 + (c5 + (c6 + (c7 + 0))))))) := by
  have l1 : c0 < 256 := by omega
  have l2 : c0 + c1 + 256 * (c1 + c2) < 65536 := by omega
  have l3 : c0 + c1 + c2 + c3 + 256 * (c1 + c2 + c3 + c4) + 65536 * (c2 + c3 + c4 + c5) + 16777216 * (c3 + c4 + c5 + c6) < 4294967296 := by omega
  have l4 : c0 + (c1 + (c2 + (c3 + (c4 + (c5 + (c6 + (c7 + 0))))))) < 128 := by omega
  rw [fd1 _ _ l1, fq2, fd2 _ _ l2, fq4, fd3 _ _ l3, fq6, fdm1 _ _ l4]
theorem c_bitCount {n X : Nat} (M : vv_M) (hX : X < 2 ^ 64) : f_J13_bitCount_95d88 n (lN X) M = some (nI (cnt X.testBit 64), M) := by
  have s1 : ∀ m, m < 2 ^ 64 → ((lN m).toUInt64 >>> ((1 : Int32).toInt64.toUInt64 &&& Int64.toUInt64 63)).toInt64 = lN (m / 2 ^ 1) := fun m hm => wb_shr (k := 1) hm (by omega)
  have s2 : ∀ m, m < 2 ^ 64 → ((lN m).toUInt64 >>> ((2 : Int32).toInt64.toUInt64 &&& Int64.toUInt64 63)).toInt64 = lN (m / 2 ^ 2) := fun m hm => wb_shr (k := 2) hm (by omega)
  have s4 : ∀ m, m < 2 ^ 64 → ((lN m).toUInt64 >>> ((4 : Int32).toInt64.toUInt64 &&& Int64.toUInt64 63)).toInt64 = lN (m / 2 ^ 4) := fun m hm => wb_shr (k := 4) hm (by omega)
  have s8 : ∀ m, m < 2 ^ 64 → ((lN m).toUInt64 >>> ((8 : Int32).toInt64.toUInt64 &&& Int64.toUInt64 63)).toInt64 = lN (m / 2 ^ 8) := fun m hm => wb_shr (k := 8) hm (by omega)
  have s16 : ∀ m, m < 2 ^ 64 → ((lN m).toUInt64 >>> ((16 : Int32).toInt64.toUInt64 &&& Int64.toUInt64 63)).toInt64 = lN (m / 2 ^ 16) := fun m hm => wb_shr (k := 16) hm (by omega)
  have s32 : ∀ m, m < 2 ^ 64 → ((lN m).toUInt64 >>> ((32 : Int32).toInt64.toUInt64 &&& Int64.toUInt64 63)).toInt64 = lN (m / 2 ^ 32) := fun m hm => wb_shr (k := 32) hm (by omega)
  have k5 : (6148914691236517205 : Int64) = lN (mk8 85 8) := by decide
  have k3 : (3689348814741910323 : Int64) = lN (mk8 51 8) := by decide
  have kf : (1085102592571150095 : Int64) = lN (mk8 15 8) := by decide
  have b5 : mk8 85 8 = 6148914691236517205 := by decide
  have b3 : mk8 51 8 = 3689348814741910323 := by decide
  have bf : mk8 15 8 = 1085102592571150095 := by decide
  have eY : lN X - (lN (X / 2 ^ 1) &&& lN (mk8 85 8)) = lN (F1 8 X) := by
    rw [wb_and (by omega) (by omega), lN_sub (Nat.le_trans Nat.and_le_left (Nat.div_le_self _ _))]
    rfl
  have hY : F1 8 X < 2 ^ 64 := Nat.lt_of_le_of_lt (Nat.sub_le _ _) hX
  have eZ : (lN (F1 8 X) &&& lN (mk8 51 8)) + (lN (F1 8 X / 2 ^ 2) &&& lN (mk8 51 8)) = lN (F2 8 (F1 8 X)) := by
    rw [wb_and hY (by omega), wb_and (by omega) (by omega), lN_add]
    rfl
  have hZ : F2 8 (F1 8 X) ≤ 2 * 3689348814741910323 := by
    have h1 : F1 8 X &&& mk8 51 8 ≤ mk8 51 8 := Nat.and_le_right
    have h2 : (F1 8 X / 4) &&& mk8 51 8 ≤ mk8 51 8 := Nat.and_le_right
    unfold F2
    omega
  have eW : (lN (F2 8 (F1 8 X)) + lN (F2 8 (F1 8 X) / 2 ^ 4)) &&& lN (mk8 15 8) = lN (wd 8 X) := by
    rw [lN_add, wb_and (by omega) (by omega), ← F_wd]
    rfl
  obtain ⟨c0, c1, c2, c3, c4, c5, c6, c7, h0, h1, h2, h3, h4, h5, h6, h7, hw, hc⟩ := wd_8 X
  unfold f_J13_bitCount_95d88 f_J13_bitCount_95d88_48
  simp only [↓ix_let]
  rw [s1 X hX, k5, eY, s2 _ hY, k3, eZ, s4 _ (by omega), kf, eW, s8 _ (by omega), lN_add, s16 _ (by omega), lN_add, s32 _ (by omega), lN_add, lN_i]
  rw [pk_and _ (k := 7) (by decide)]
  have e9 : ∀ m : Nat, (nI m).toBitVec.toNat % 2 ^ 7 = m % 128 := by
    intro m
    show (BitVec.ofNat 32 m).toNat % 2 ^ 7 = m % 128
    rw [BitVec.toNat_ofNat]
    omega
  rw [e9, hw, hc]
  rw [fold8 h0 h1 h2 h3 h4 h5 h6 h7]
