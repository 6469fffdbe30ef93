def pcN (X : Nat) : Nat → Nat
  | 0 => 0
  | k + 1 => pcN X k + (if X.testBit k = true then 1 else 0)
theorem pcN_uN (x : Int64) : ∀ k, pc_n x k = pcN (uN x) k
  | 0 => rfl
  | k + 1 => by
    show pc_n x k + (if lb x k = true then 1 else 0) = pcN (uN x) k + (if (uN x).testBit k = true then 1 else 0)
    rw [pcN_uN x k]
    rfl
theorem pcN_c {A b : Nat} (hb : b < 256) : ∀ n, pcN (256 * A + b) (8 + n) = pcN b 8 + pcN A n
  | 0 => by
    have h : ∀ k, k ≤ 8 → pcN (256 * A + b) k = pcN b k := by
      intro k
      induction k with
      | zero => exact fun _ => rfl
      | succ k ih =>
        intro hk
        have e : (256 * A + b).testBit k = b.testBit k := by
          rw [show 256 * A + b = 2 ^ 8 * A + b from rfl, Nat.testBit_two_pow_mul_add A hb, if_pos (show k < 8 by omega)]
        show pcN (256 * A + b) k + (if (256 * A + b).testBit k = true then 1 else 0) = pcN b k + (if b.testBit k = true then 1 else 0)
        rw [ih (by omega), e]
    rw [h 8 (Nat.le_refl _)]
    rfl
  | n + 1 => by
    show pcN (256 * A + b) (8 + n) + (if (256 * A + b).testBit (8 + n) = true then 1 else 0) = pcN b 8 + (pcN A n + (if A.testBit n = true then 1 else 0))
    have e : (256 * A + b).testBit (8 + n) = A.testBit n := by
      rw [show 256 * A + b = 2 ^ 8 * A + b from rfl, Nat.testBit_two_pow_mul_add A hb, if_neg (show ¬ 8 + n < 8 by omega), show 8 + n - 8 = n by omega]
    rw [pcN_c hb n, e]
    exact Nat.add_assoc _ _ _
theorem bc_and {A M a m : Nat} (ha : a < 256) (hm : m < 256) : (256 * A + a) &&& (256 * M + m) = 256 * (A &&& M) + (a &&& m) := by
  apply Nat.eq_of_testBit_eq
  intro i
  have h3 : a &&& m < 2 ^ 8 := Nat.and_lt_two_pow _ hm
  rw [Nat.testBit_and, show 256 * A + a = 2 ^ 8 * A + a from rfl, show 256 * M + m = 2 ^ 8 * M + m from rfl, show 256 * (A &&& M) + (a &&& m) = 2 ^ 8 * (A &&& M) + (a &&& m) from rfl, Nat.testBit_two_pow_mul_add A ha, Nat.testBit_two_pow_mul_add M hm, Nat.testBit_two_pow_mul_add _ h3]
  split
  · rw [Nat.testBit_and]
  · rw [Nat.testBit_and]
def bc_y (b : Nat) : Nat := b - ((b / 2) &&& 85)
def bc_z (b : Nat) : Nat := (bc_y b &&& 51) + ((bc_y b / 4) &&& 51)
theorem bc_t1 : ∀ b, b < 256 → ∀ c, c < 2 → (b / 2 + 128 * c) &&& 85 = (b / 2) &&& 85 := by decide +kernel
theorem bc_t2 : ∀ b, b < 256 → (b / 2) &&& 85 ≤ b := by decide +kernel
theorem bc_t3 : ∀ b, b < 256 → ∀ c, c < 4 → (b / 4 + 64 * c) &&& 51 = (b / 4) &&& 51 := by decide +kernel
theorem bc_t4 : ∀ b, b < 256 → bc_z b ≤ 68 ∧ bc_z b / 16 ≤ 4 ∧ bc_z b % 16 ≤ 4 := by decide +kernel
theorem bc_t5 : ∀ b, b < 256 → ∀ c, c < 5 → (bc_z b + (bc_z b / 16 + 16 * c)) &&& 15 = pcN b 8 := by decide +kernel
theorem bc_t6 : ∀ b, b < 256 → pcN b 8 ≤ 8 := by decide +kernel
theorem uN_and (x y : Int64) : uN (x &&& y) = uN x &&& uN y := by
  show (x.toUInt64 &&& y.toUInt64).toNat = _
  exact UInt64.toNat_and _ _
theorem uN_sub {x y : Int64} (h : uN y ≤ uN x) : uN (x - y) = uN x - uN y := by
  show (x.toUInt64 - y.toUInt64).toNat = _
  rw [UInt64.toNat_sub_of_le _ _ (UInt64.le_iff_toNat_le.mpr h)]
  rfl
theorem uN_127 (x : Int64) : x.toInt32 &&& 127 = nI (uN x % 128) := by
  apply b_ext
  intro i hi
  rw [b_and]
  have h1 : bt x.toInt32 i = (uN x).testBit i := by
    unfold bt
    rw [Int64.toBitVec_toInt32, BitVec.getLsbD_signExtend]
    rw [decide_eq_true hi, if_pos (by omega), Bool.true_and]
    rfl
  have h2 : bt (nI (uN x % 128)) i = (uN x % 128).testBit i := by
    show (BitVec.ofNat 32 _).getLsbD i = _
    rw [BitVec.getLsbD_ofNat, decide_eq_true hi, Bool.true_and]
  have h3 : bt 127 i = decide (i < 7) := by
    show (BitVec.ofNat 32 127).getLsbD i = _
    rw [BitVec.getLsbD_ofNat, decide_eq_true hi, Bool.true_and, show (127 : Nat) = 2 ^ 7 - 1 from rfl, Nat.testBit_two_pow_sub_one]
  rw [h1, h2, h3, show (128 : Nat) = 2 ^ 7 from rfl, Nat.testBit_mod_two_pow, Bool.and_comm]
def bc1 (x : Int64) : Int64 := x - ((x.toUInt64 >>> (((1 : Int32)).toInt64.toUInt64 &&& Int64.toUInt64 63)).toInt64 &&& (6148914691236517205 : Int64))
def bc2 (x : Int64) : Int64 := (x &&& (3689348814741910323 : Int64)) + ((x.toUInt64 >>> (((2 : Int32)).toInt64.toUInt64 &&& Int64.toUInt64 63)).toInt64 &&& (3689348814741910323 : Int64))
def bc3 (x : Int64) : Int64 := (x + (x.toUInt64 >>> (((4 : Int32)).toInt64.toUInt64 &&& Int64.toUInt64 63)).toInt64) &&& (1085102592571150095 : Int64)
def bc4 (x : Int64) : Int64 := x + (x.toUInt64 >>> (((8 : Int32)).toInt64.toUInt64 &&& Int64.toUInt64 63)).toInt64
def bc5 (x : Int64) : Int64 := x + (x.toUInt64 >>> (((16 : Int32)).toInt64.toUInt64 &&& Int64.toUInt64 63)).toInt64
def bc6 (x : Int64) : Int64 := x + (x.toUInt64 >>> (((32 : Int32)).toInt64.toUInt64 &&& Int64.toUInt64 63)).toInt64
