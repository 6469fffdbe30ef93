def lb (x : Int64) (b : Nat) : Bool := x.toBitVec.getLsbD b
theorem lb_ext {x y : Int64} (h : ∀ i, i < 64 → lb x i = lb y i) : x = y := Int64.toBitVec_inj.mp (BitVec.eq_of_getLsbD_eq (fun i hi => h i hi))
theorem lb_or (x y : Int64) (i : Nat) : lb (x ||| y) i = (lb x i || lb y i) := by unfold lb; rw [Int64.toBitVec_or, BitVec.getLsbD_or]
theorem lb_and (x y : Int64) (i : Nat) : lb (x &&& y) i = (lb x i && lb y i) := by unfold lb; rw [Int64.toBitVec_and, BitVec.getLsbD_and]
theorem lb_xor (x y : Int64) (i : Nat) : lb (x ^^^ y) i = (lb x i ^^ lb y i) := by unfold lb; rw [Int64.toBitVec_xor, BitVec.getLsbD_xor]
theorem lb_big {x : Int64} {i : Nat} (h : 64 ≤ i) : lb x i = false := BitVec.getLsbD_of_ge _ _ h
theorem lb_0 (i : Nat) : lb 0 i = false := BitVec.getLsbD_zero
theorem lb_m1 : ∀ i, i < 64 → lb (-1) i = true := by decide +kernel
theorem lb_N (n i : Nat) : lb (lN n) i = (decide (i < 64) && n.testBit i) := BitVec.getLsbD_ofNat _ _ _
theorem lb_sh {k : Nat} (hk : k < 64) {i : Nat} (hi : i < 64) : lb ((1 : Int64) <<< ((nI k).toInt64 &&& 63)) i = decide (k = i) := by
  rw [show (1 : Int64) = lN 1 from rfl, wb_shl 1 hk, lb_N, Nat.one_mul, Nat.testBit_two_pow, decide_eq_true hi, Bool.true_and]
theorem lb_shr (x : Int64) {k : Nat} (hk : k < 64) (i : Nat) : lb ((x.toUInt64 >>> ((nI k).toInt64.toUInt64 &&& Int64.toUInt64 63)).toInt64) i = lb x (k + i) := by
  show (x.toUInt64 >>> ((nI k).toInt64.toUInt64 &&& Int64.toUInt64 63)).toBitVec.getLsbD i = x.toUInt64.toBitVec.getLsbD (k + i)
  have h : (((nI k).toInt64.toUInt64 &&& Int64.toUInt64 63).toBitVec % 64).toNat = k := by
    rw [wb_cu k hk]
    show ((BitVec.ofNat 64 k) % 64).toNat = k
    rw [BitVec.toNat_umod, BitVec.toNat_ofNat]
    show k % 2 ^ 64 % 64 = k
    omega
  rw [UInt64.toBitVec_shiftRight]
  show (x.toUInt64.toBitVec >>> (((nI k).toInt64.toUInt64 &&& Int64.toUInt64 63).toBitVec % 64).toNat).getLsbD i = _
  rw [h, BitVec.getLsbD_ushiftRight]
theorem lb_a1 (x : Int64) : (x &&& 1) = 0 ↔ lb x 0 = false := by
  constructor
  · intro h
    have t := congrArg (fun x => lb x 0) h
    simp only [lb_and, lb_0] at t
    rw [show lb 1 0 = true by decide, Bool.and_true] at t
    exact t
  · intro h
    apply lb_ext
    intro i hi
    rw [lb_and, lb_0]
    cases i with
    | zero => rw [h]; rfl
    | succ i =>
      rw [show lb (1 : Int64) (i + 1) = false by
        rw [show (1 : Int64) = lN 1 from rfl, lb_N]
        simp [Nat.testBit_succ], Bool.and_false]
def pc_n (x : Int64) : Nat → Nat
  | 0 => 0
  | k + 1 => pc_n x k + (if lb x k = true then 1 else 0)
def pc (x : Int64) : Nat := pc_n x 64
theorem pc_0 : ∀ k, pc_n 0 k = 0
  | 0 => rfl
  | k + 1 => by
    show pc_n 0 k + (if lb 0 k = true then 1 else 0) = 0
    rw [pc_0 k, lb_0]
    rfl
theorem pc_up {x y : Int64} {b : Nat} (h : ∀ i, i < 64 → lb y i = (lb x i || decide (b = i))) : ∀ k, k ≤ 64 → pc_n y k = pc_n x k + (if b < k ∧ lb x b = false then 1 else 0)
  | 0, _ => by
    rw [if_neg (by omega)]
    rfl
  | k + 1, hk => by
    show pc_n y k + (if lb y k = true then 1 else 0) = pc_n x k + (if lb x k = true then 1 else 0) + _
    rw [pc_up h k (by omega), h k (by omega)]
    by_cases e : b = k
    · subst e
      cases hx : lb x b <;> simp
    · rw [decide_eq_false e, Bool.or_false]
      by_cases h1 : b < k
      · by_cases hb : lb x b = false
        · rw [if_pos ⟨h1, hb⟩, if_pos (show b < k + 1 ∧ lb x b = false from ⟨by omega, hb⟩)]
          omega
        · rw [if_neg (fun h => hb h.2), if_neg (show ¬ (b < k + 1 ∧ lb x b = false) from fun h => hb h.2)]
          omega
      · rw [if_neg (show ¬ (b < k ∧ lb x b = false) from fun h => h1 h.1), if_neg (show ¬ (b < k + 1 ∧ lb x b = false) from fun h => by omega)]
        omega
theorem pc_dn {x y : Int64} {b : Nat} (h : ∀ i, i < 64 → lb y i = (lb x i && !decide (b = i))) : ∀ k, k ≤ 64 → pc_n y k + (if b < k ∧ lb x b = true then 1 else 0) = pc_n x k
  | 0, _ => by
    rw [if_neg (by omega)]
    rfl
  | k + 1, hk => by
    show pc_n y k + (if lb y k = true then 1 else 0) + _ = pc_n x k + (if lb x k = true then 1 else 0)
    rw [← pc_dn h k (by omega), h k (by omega)]
    by_cases e : b = k
    · subst e
      cases hx : lb x b <;> simp
    · rw [decide_eq_false e, Bool.not_false, Bool.and_true]
      by_cases h1 : b < k
      · by_cases hb : lb x b = true
        · rw [if_pos (show b < k ∧ lb x b = true from ⟨h1, hb⟩), if_pos (show b < k + 1 ∧ lb x b = true from ⟨by omega, hb⟩)]
          omega
        · rw [if_neg (show ¬ (b < k ∧ lb x b = true) from fun h => hb h.2), if_neg (show ¬ (b < k + 1 ∧ lb x b = true) from fun h => hb h.2)]
          omega
      · rw [if_neg (show ¬ (b < k + 1 ∧ lb x b = true) from fun h => by omega), if_neg (show ¬ (b < k ∧ lb x b = true) from fun h => h1 h.1)]
        omega
