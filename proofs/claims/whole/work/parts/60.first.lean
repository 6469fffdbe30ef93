theorem g_k8 (x : Int32) : ∃ K, (1 ≤ K ∧ K ≤ 8) ∧ 1 + (x &&& 7) = nI K := by
  have h0 : x = nI x.toBitVec.toNat := Int32.toBitVec_inj.mp (by
    show _ = BitVec.ofNat 32 _
    simp)
  have h : nI x.toBitVec.toNat &&& nI 7 = nI (x.toBitVec.toNat &&& 7) := Int32.toBitVec_inj.mp (by
    rw [Int32.toBitVec_and]
    show BitVec.ofNat 32 x.toBitVec.toNat &&& BitVec.ofNat 32 7 = BitVec.ofNat 32 (x.toBitVec.toNat &&& 7)
    rw [BitVec.ofNat_and])
  refine ⟨1 + x.toBitVec.toNat % 8, by omega, ?_⟩
  rw [h0, show (7 : Int32) = nI 7 from rfl, h, show (1 : Int32) = nI 1 from rfl, nI_add, show x.toBitVec.toNat &&& 7 = x.toBitVec.toNat % 8 from Nat.and_two_pow_sub_one_eq_mod _ 3, ← h0]
def g_0 (K : Nat) : gSt := (K, [], false, [], [])
section
variable {x : Int32} {K : Nat} {rl : List (Nat × Nat × Nat × Option Nat)}
theorem I_cf : RC_cf (g_0 K) (mx_as (mx_il_Z x) rl 107) := ⟨⟨Nat.zero_le _, fun r h => by cases h⟩, rfl, rfl, (fun i r h => by cases h), fun i _ _ => mx_kk_o (z := (0 : Int32)) (l := mx_il_Z x) (f := 5) (i := i) rfl 5⟩
theorem I_bt : RC_bt (g_0 K) (mx_as (mx_il_Z x) rl 107) := ⟨⟨Nat.zero_le _, fun r h => by cases h⟩, rfl, fun i r h => by cases h⟩
theorem I_lg : RC_lg (g_0 K) (mx_as (mx_il_Z x) rl 107) := ⟨⟨Nat.zero_le _, fun r h => by cases h⟩, rfl, rfl, fun i r h => by cases h⟩
theorem J_cf : RM_cf (g_0 K) (mx_as (mx_il_Z x) rl 107) := ⟨⟨Nat.zero_le _, fun r h => by cases h⟩, rfl, rfl, fun i r h => by cases h⟩
theorem J_bt : RM_bt (g_0 K) (mx_as (mx_il_Z x) rl 107) := ⟨⟨Nat.zero_le _, fun r h => by cases h⟩, rfl, fun i r h => by cases h⟩
theorem J_lg : RM_lg (g_0 K) (mx_as (mx_il_Z x) rl 107) := ⟨Nat.zero_le _, rfl, rfl, rfl, fun i r h => by cases h⟩
theorem I_k (h : 1 + (x &&& 7) = nI K) : (mx_as (mx_il_Z x) rl 107).1 0 0 0 = nI (g_0 K).1 ∧ (mx_as (mx_il_Z x) rl 107).1 18 0 0 = nI (g_0 K).1 := ⟨h, h⟩
theorem I_vs {v : Nat} (hv : v < 8) : (mx_as (mx_il_Z x) rl 107).1 14 v 0 = -1 := by
  rcases (show v = 0 ∨ v = 1 ∨ v = 2 ∨ v = 3 ∨ v = 4 ∨ v = 5 ∨ v = 6 ∨ v = 7 by omega) with rfl | rfl | rfl | rfl | rfl | rfl | rfl | rfl <;> rfl
end
