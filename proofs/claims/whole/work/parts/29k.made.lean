def mx_lu {α : Type} (z : α) : List (Nat × Nat × Nat × α) → Nat → Nat → Nat → α
  | [], _, _, _ => z
  | (f, i, j, v) :: l, x, y, w => if x = f ∧ y = i ∧ w = j then v else mx_lu z l x y w
def mx_kk {α : Type} : List (Nat × Nat × Nat × α) → Nat → Nat → Bool
  | [], _, _ => true
  | (f, i, _, _) :: l, x, y => match Nat.beq x f && Nat.beq y i with
    | true => false
    | false => mx_kk l x y
theorem mx_lu3 {α : Type} {z : α} {l : List (Nat × Nat × Nat × α)} {f i j : Nat} {v : α} : mx_u3 (mx_lu z l) f i j v = mx_lu z ((f, i, j, v) :: l) := rfl
theorem mx_kk_o {α : Type} {z : α} : ∀ {l : List (Nat × Nat × Nat × α)} {f i : Nat}, mx_kk l f i = true → ∀ j, mx_lu z l f i j = z
  | [], _, _, _, _ => rfl
  | (f', i', j', v) :: l, f, i, h, j => by
    unfold mx_kk at h
    unfold mx_lu
    split at h
    · cases h
    · rename_i hb
      rw [if_neg]
      · exact mx_kk_o h j
      · rintro ⟨h1, h2, -⟩
        rw [h1, h2, Nat.beq_refl, Nat.beq_refl] at hb
        cases hb
theorem mx_lu2 {α : Type} {z : α} {l : List (Nat × Nat × Nat × α)} {f i : Nat} (h : mx_kk l f i = true) : mx_u2 (mx_lu z l) f i z = mx_lu z l := by
  funext x y w
  unfold mx_u2
  split
  · rename_i h9
    obtain ⟨rfl, rfl⟩ := h9
    exact (mx_kk_o h w).symm
  · rfl
def mx_as (il : List (Nat × Nat × Nat × Int32)) (rl : List (Nat × Nat × Nat × Option Nat)) (N : Nat) : mSt := (mx_lu 0 il, fun _ _ _ => 0, mx_lu none rl, N)
section
variable {il : List (Nat × Nat × Nat × Int32)} {rl : List (Nat × Nat × Nat × Option Nat)} {N : Nat} {s : mSt} {f i j y : Nat} {v : Int32}
theorem mx_En (h : s = mx_as il rl N) (h1 : mx_kk il f i = true) (h2 : mx_kk rl f i = true) : mx_sn s f i = mx_as il rl (N + 1) := by
  subst h
  unfold mx_sn mx_as
  dsimp only
  rw [mx_lu2 h1, mx_lu2 h2]
  congr 2
  funext x y w
  unfold mx_u2
  split <;> rfl
theorem mx_Ep (h : s = mx_as il rl N) : mx_sp s f i j y = mx_as il ((f, i, j, some y) :: rl) N := by
  subst h
  rfl
theorem mx_Ei (h : s = mx_as il rl N) : mx_si s f i j v = mx_as ((f, i, j, v) :: il) rl N := by
  subst h
  rfl
end
section
variable {scr : mSc} {d : Nat} {post : mPo} {ex : Nat → mSt → Prop} {il : List (Nat × Nat × Nat × Int32)} {rl : List (Nat × Nat × Nat × Option Nat)} {s : mSt}
theorem mx_vi {j : Int32} {n : Nat} (h : ¬ (j < 0 ∨ n ≤ j.toNatClampNeg)) : vp_in j n := h
theorem mx_P_Rd (h : post.1 s) : mx_XW false scr (d + 1) 2 [.inr (.inr (.inl (3, 0)))] s post ex := ⟨0, h⟩
theorem mx_P_Rl_0 (hs : s = mx_as il rl 6) (k0 : mx_kk il 6 0 = true) (g0 : mx_kk rl 6 0 = true) (k1 : mx_kk il 7 0 = true) (g1 : mx_kk rl 7 0 = true) (k2 : mx_kk il 8 0 = true) (g2 : mx_kk rl 8 0 = true) (k3 : mx_kk il 9 0 = true) (g3 : mx_kk rl 9 0 = true) (h : post.1 (mx_as (il) ((5, 0, 8, some 0) :: (5, 0, 7, some 0) :: (5, 0, 6, some 0) :: (5, 0, 4, some 0) :: rl) 10)) : mx_XW false scr (d + 1) 3 [.inr (.inr (.inl (5, 0)))] s post ex := by
  subst hs
  have e9 : mx_sp (mx_sn (mx_sp (mx_sn (mx_sp (mx_sn (mx_sp (mx_sn (mx_as il rl 6) 6 0) 5 0 4 0) 7 0) 5 0 6 0) 8 0) 5 0 7 0) 9 0) 5 0 8 0 = mx_as (il) ((5, 0, 8, some 0) :: (5, 0, 7, some 0) :: (5, 0, 6, some 0) :: (5, 0, 4, some 0) :: rl) 10 := mx_Ep (mx_En (mx_Ep (mx_En (mx_Ep (mx_En (mx_Ep (mx_En (rfl) k0 g0)) k1 g1)) k2 g2)) k3 g3)
  rw [← e9] at h
  exact ⟨0, rfl, rfl, rfl, rfl, h⟩
theorem mx_P_Rl_1 (hs : s = mx_as il rl 11) (k0 : mx_kk il 6 1 = true) (g0 : mx_kk rl 6 1 = true) (k1 : mx_kk il 7 1 = true) (g1 : mx_kk rl 7 1 = true) (k2 : mx_kk il 8 1 = true) (g2 : mx_kk rl 8 1 = true) (k3 : mx_kk il 9 1 = true) (g3 : mx_kk rl 9 1 = true) (h : post.1 (mx_as (il) ((5, 1, 8, some 1) :: (5, 1, 7, some 1) :: (5, 1, 6, some 1) :: (5, 1, 4, some 1) :: rl) 15)) : mx_XW false scr (d + 1) 3 [.inr (.inr (.inl (5, 1)))] s post ex := by
  subst hs
  have e9 : mx_sp (mx_sn (mx_sp (mx_sn (mx_sp (mx_sn (mx_sp (mx_sn (mx_as il rl 11) 6 1) 5 1 4 1) 7 1) 5 1 6 1) 8 1) 5 1 7 1) 9 1) 5 1 8 1 = mx_as (il) ((5, 1, 8, some 1) :: (5, 1, 7, some 1) :: (5, 1, 6, some 1) :: (5, 1, 4, some 1) :: rl) 15 := mx_Ep (mx_En (mx_Ep (mx_En (mx_Ep (mx_En (mx_Ep (mx_En (rfl) k0 g0)) k1 g1)) k2 g2)) k3 g3)
  rw [← e9] at h
  exact ⟨0, rfl, rfl, rfl, rfl, h⟩
theorem mx_P_Rl_2 (hs : s = mx_as il rl 16) (k0 : mx_kk il 6 2 = true) (g0 : mx_kk rl 6 2 = true) (k1 : mx_kk il 7 2 = true) (g1 : mx_kk rl 7 2 = true) (k2 : mx_kk il 8 2 = true) (g2 : mx_kk rl 8 2 = true) (k3 : mx_kk il 9 2 = true) (g3 : mx_kk rl 9 2 = true) (h : post.1 (mx_as (il) ((5, 2, 8, some 2) :: (5, 2, 7, some 2) :: (5, 2, 6, some 2) :: (5, 2, 4, some 2) :: rl) 20)) : mx_XW false scr (d + 1) 3 [.inr (.inr (.inl (5, 2)))] s post ex := by
  subst hs
  have e9 : mx_sp (mx_sn (mx_sp (mx_sn (mx_sp (mx_sn (mx_sp (mx_sn (mx_as il rl 16) 6 2) 5 2 4 2) 7 2) 5 2 6 2) 8 2) 5 2 7 2) 9 2) 5 2 8 2 = mx_as (il) ((5, 2, 8, some 2) :: (5, 2, 7, some 2) :: (5, 2, 6, some 2) :: (5, 2, 4, some 2) :: rl) 20 := mx_Ep (mx_En (mx_Ep (mx_En (mx_Ep (mx_En (mx_Ep (mx_En (rfl) k0 g0)) k1 g1)) k2 g2)) k3 g3)
  rw [← e9] at h
  exact ⟨0, rfl, rfl, rfl, rfl, h⟩
theorem mx_P_Rl_3 (hs : s = mx_as il rl 21) (k0 : mx_kk il 6 3 = true) (g0 : mx_kk rl 6 3 = true) (k1 : mx_kk il 7 3 = true) (g1 : mx_kk rl 7 3 = true) (k2 : mx_kk il 8 3 = true) (g2 : mx_kk rl 8 3 = true) (k3 : mx_kk il 9 3 = true) (g3 : mx_kk rl 9 3 = true) (h : post.1 (mx_as (il) ((5, 3, 8, some 3) :: (5, 3, 7, some 3) :: (5, 3, 6, some 3) :: (5, 3, 4, some 3) :: rl) 25)) : mx_XW false scr (d + 1) 3 [.inr (.inr (.inl (5, 3)))] s post ex := by
  subst hs
  have e9 : mx_sp (mx_sn (mx_sp (mx_sn (mx_sp (mx_sn (mx_sp (mx_sn (mx_as il rl 21) 6 3) 5 3 4 3) 7 3) 5 3 6 3) 8 3) 5 3 7 3) 9 3) 5 3 8 3 = mx_as (il) ((5, 3, 8, some 3) :: (5, 3, 7, some 3) :: (5, 3, 6, some 3) :: (5, 3, 4, some 3) :: rl) 25 := mx_Ep (mx_En (mx_Ep (mx_En (mx_Ep (mx_En (mx_Ep (mx_En (rfl) k0 g0)) k1 g1)) k2 g2)) k3 g3)
  rw [← e9] at h
  exact ⟨0, rfl, rfl, rfl, rfl, h⟩
theorem mx_P_Rl_4 (hs : s = mx_as il rl 26) (k0 : mx_kk il 6 4 = true) (g0 : mx_kk rl 6 4 = true) (k1 : mx_kk il 7 4 = true) (g1 : mx_kk rl 7 4 = true) (k2 : mx_kk il 8 4 = true) (g2 : mx_kk rl 8 4 = true) (k3 : mx_kk il 9 4 = true) (g3 : mx_kk rl 9 4 = true) (h : post.1 (mx_as (il) ((5, 4, 8, some 4) :: (5, 4, 7, some 4) :: (5, 4, 6, some 4) :: (5, 4, 4, some 4) :: rl) 30)) : mx_XW false scr (d + 1) 3 [.inr (.inr (.inl (5, 4)))] s post ex := by
  subst hs
  have e9 : mx_sp (mx_sn (mx_sp (mx_sn (mx_sp (mx_sn (mx_sp (mx_sn (mx_as il rl 26) 6 4) 5 4 4 4) 7 4) 5 4 6 4) 8 4) 5 4 7 4) 9 4) 5 4 8 4 = mx_as (il) ((5, 4, 8, some 4) :: (5, 4, 7, some 4) :: (5, 4, 6, some 4) :: (5, 4, 4, some 4) :: rl) 30 := mx_Ep (mx_En (mx_Ep (mx_En (mx_Ep (mx_En (mx_Ep (mx_En (rfl) k0 g0)) k1 g1)) k2 g2)) k3 g3)
  rw [← e9] at h
  exact ⟨0, rfl, rfl, rfl, rfl, h⟩
theorem mx_P_Rl_5 (hs : s = mx_as il rl 31) (k0 : mx_kk il 6 5 = true) (g0 : mx_kk rl 6 5 = true) (k1 : mx_kk il 7 5 = true) (g1 : mx_kk rl 7 5 = true) (k2 : mx_kk il 8 5 = true) (g2 : mx_kk rl 8 5 = true) (k3 : mx_kk il 9 5 = true) (g3 : mx_kk rl 9 5 = true) (h : post.1 (mx_as (il) ((5, 5, 8, some 5) :: (5, 5, 7, some 5) :: (5, 5, 6, some 5) :: (5, 5, 4, some 5) :: rl) 35)) : mx_XW false scr (d + 1) 3 [.inr (.inr (.inl (5, 5)))] s post ex := by
  subst hs
  have e9 : mx_sp (mx_sn (mx_sp (mx_sn (mx_sp (mx_sn (mx_sp (mx_sn (mx_as il rl 31) 6 5) 5 5 4 5) 7 5) 5 5 6 5) 8 5) 5 5 7 5) 9 5) 5 5 8 5 = mx_as (il) ((5, 5, 8, some 5) :: (5, 5, 7, some 5) :: (5, 5, 6, some 5) :: (5, 5, 4, some 5) :: rl) 35 := mx_Ep (mx_En (mx_Ep (mx_En (mx_Ep (mx_En (mx_Ep (mx_En (rfl) k0 g0)) k1 g1)) k2 g2)) k3 g3)
  rw [← e9] at h
  exact ⟨0, rfl, rfl, rfl, rfl, h⟩
theorem mx_P_Rl_6 (hs : s = mx_as il rl 36) (k0 : mx_kk il 6 6 = true) (g0 : mx_kk rl 6 6 = true) (k1 : mx_kk il 7 6 = true) (g1 : mx_kk rl 7 6 = true) (k2 : mx_kk il 8 6 = true) (g2 : mx_kk rl 8 6 = true) (k3 : mx_kk il 9 6 = true) (g3 : mx_kk rl 9 6 = true) (h : post.1 (mx_as (il) ((5, 6, 8, some 6) :: (5, 6, 7, some 6) :: (5, 6, 6, some 6) :: (5, 6, 4, some 6) :: rl) 40)) : mx_XW false scr (d + 1) 3 [.inr (.inr (.inl (5, 6)))] s post ex := by
  subst hs
  have e9 : mx_sp (mx_sn (mx_sp (mx_sn (mx_sp (mx_sn (mx_sp (mx_sn (mx_as il rl 36) 6 6) 5 6 4 6) 7 6) 5 6 6 6) 8 6) 5 6 7 6) 9 6) 5 6 8 6 = mx_as (il) ((5, 6, 8, some 6) :: (5, 6, 7, some 6) :: (5, 6, 6, some 6) :: (5, 6, 4, some 6) :: rl) 40 := mx_Ep (mx_En (mx_Ep (mx_En (mx_Ep (mx_En (mx_Ep (mx_En (rfl) k0 g0)) k1 g1)) k2 g2)) k3 g3)
  rw [← e9] at h
  exact ⟨0, rfl, rfl, rfl, rfl, h⟩
theorem mx_P_Rl_7 (hs : s = mx_as il rl 41) (k0 : mx_kk il 6 7 = true) (g0 : mx_kk rl 6 7 = true) (k1 : mx_kk il 7 7 = true) (g1 : mx_kk rl 7 7 = true) (k2 : mx_kk il 8 7 = true) (g2 : mx_kk rl 8 7 = true) (k3 : mx_kk il 9 7 = true) (g3 : mx_kk rl 9 7 = true) (h : post.1 (mx_as (il) ((5, 7, 8, some 7) :: (5, 7, 7, some 7) :: (5, 7, 6, some 7) :: (5, 7, 4, some 7) :: rl) 45)) : mx_XW false scr (d + 1) 3 [.inr (.inr (.inl (5, 7)))] s post ex := by
  subst hs
  have e9 : mx_sp (mx_sn (mx_sp (mx_sn (mx_sp (mx_sn (mx_sp (mx_sn (mx_as il rl 41) 6 7) 5 7 4 7) 7 7) 5 7 6 7) 8 7) 5 7 7 7) 9 7) 5 7 8 7 = mx_as (il) ((5, 7, 8, some 7) :: (5, 7, 7, some 7) :: (5, 7, 6, some 7) :: (5, 7, 4, some 7) :: rl) 45 := mx_Ep (mx_En (mx_Ep (mx_En (mx_Ep (mx_En (mx_Ep (mx_En (rfl) k0 g0)) k1 g1)) k2 g2)) k3 g3)
  rw [← e9] at h
  exact ⟨0, rfl, rfl, rfl, rfl, h⟩
theorem mx_P_Rl_8 (hs : s = mx_as il rl 46) (k0 : mx_kk il 6 8 = true) (g0 : mx_kk rl 6 8 = true) (k1 : mx_kk il 7 8 = true) (g1 : mx_kk rl 7 8 = true) (k2 : mx_kk il 8 8 = true) (g2 : mx_kk rl 8 8 = true) (k3 : mx_kk il 9 8 = true) (g3 : mx_kk rl 9 8 = true) (h : post.1 (mx_as (il) ((5, 8, 8, some 8) :: (5, 8, 7, some 8) :: (5, 8, 6, some 8) :: (5, 8, 4, some 8) :: rl) 50)) : mx_XW false scr (d + 1) 3 [.inr (.inr (.inl (5, 8)))] s post ex := by
  subst hs
  have e9 : mx_sp (mx_sn (mx_sp (mx_sn (mx_sp (mx_sn (mx_sp (mx_sn (mx_as il rl 46) 6 8) 5 8 4 8) 7 8) 5 8 6 8) 8 8) 5 8 7 8) 9 8) 5 8 8 8 = mx_as (il) ((5, 8, 8, some 8) :: (5, 8, 7, some 8) :: (5, 8, 6, some 8) :: (5, 8, 4, some 8) :: rl) 50 := mx_Ep (mx_En (mx_Ep (mx_En (mx_Ep (mx_En (mx_Ep (mx_En (rfl) k0 g0)) k1 g1)) k2 g2)) k3 g3)
  rw [← e9] at h
  exact ⟨0, rfl, rfl, rfl, rfl, h⟩
theorem mx_P_Lg (hs : s = mx_as il rl 52) (k0 : mx_kk il 12 0 = true) (g0 : mx_kk rl 12 0 = true) (h : post.1 (mx_as (il) ((11, 0, 0, some 0) :: rl) 53)) : mx_XW false scr (d + 1) 4 [.inr (.inr (.inl (11, 0)))] s post ex := by
  subst hs
  have e9 : mx_sp (mx_sn (mx_as il rl 52) 12 0) 11 0 0 0 = mx_as (il) ((11, 0, 0, some 0) :: rl) 53 := mx_Ep (mx_En (rfl) k0 g0)
  rw [← e9] at h
  exact ⟨0, rfl, h⟩
theorem mx_P_Vs_0 (hs : s = mx_as il rl 55) (k0 : mx_kk il 15 0 = true) (g0 : mx_kk rl 15 0 = true) (k1 : mx_kk il 16 0 = true) (g1 : mx_kk rl 16 0 = true) (k2 : mx_kk il 17 0 = true) (g2 : mx_kk rl 17 0 = true) (h : post.1 (mx_as ((14, 0, 0, (-1)) :: il) ((14, 0, 4, some 0) :: (14, 0, 2, some 0) :: (14, 0, 1, some 0) :: rl) 58)) : mx_XW false scr (d + 1) 5 [.inr (.inr (.inl (14, 0)))] s post ex := by
  subst hs
  have e9 : mx_sp (mx_sn (mx_sp (mx_sn (mx_sp (mx_sn (mx_si (mx_as il rl 55) 14 0 0 (-1)) 15 0) 14 0 1 0) 16 0) 14 0 2 0) 17 0) 14 0 4 0 = mx_as ((14, 0, 0, (-1)) :: il) ((14, 0, 4, some 0) :: (14, 0, 2, some 0) :: (14, 0, 1, some 0) :: rl) 58 := mx_Ep (mx_En (mx_Ep (mx_En (mx_Ep (mx_En (mx_Ei (rfl)) k0 g0)) k1 g1)) k2 g2)
  rw [← e9] at h
  exact ⟨0, rfl, rfl, rfl, h⟩
theorem mx_P_Vs_1 (hs : s = mx_as il rl 59) (k0 : mx_kk il 15 1 = true) (g0 : mx_kk rl 15 1 = true) (k1 : mx_kk il 16 1 = true) (g1 : mx_kk rl 16 1 = true) (k2 : mx_kk il 17 1 = true) (g2 : mx_kk rl 17 1 = true) (h : post.1 (mx_as ((14, 1, 0, (-1)) :: il) ((14, 1, 4, some 1) :: (14, 1, 2, some 1) :: (14, 1, 1, some 1) :: rl) 62)) : mx_XW false scr (d + 1) 5 [.inr (.inr (.inl (14, 1)))] s post ex := by
  subst hs
  have e9 : mx_sp (mx_sn (mx_sp (mx_sn (mx_sp (mx_sn (mx_si (mx_as il rl 59) 14 1 0 (-1)) 15 1) 14 1 1 1) 16 1) 14 1 2 1) 17 1) 14 1 4 1 = mx_as ((14, 1, 0, (-1)) :: il) ((14, 1, 4, some 1) :: (14, 1, 2, some 1) :: (14, 1, 1, some 1) :: rl) 62 := mx_Ep (mx_En (mx_Ep (mx_En (mx_Ep (mx_En (mx_Ei (rfl)) k0 g0)) k1 g1)) k2 g2)
  rw [← e9] at h
  exact ⟨0, rfl, rfl, rfl, h⟩
theorem mx_P_Vs_2 (hs : s = mx_as il rl 63) (k0 : mx_kk il 15 2 = true) (g0 : mx_kk rl 15 2 = true) (k1 : mx_kk il 16 2 = true) (g1 : mx_kk rl 16 2 = true) (k2 : mx_kk il 17 2 = true) (g2 : mx_kk rl 17 2 = true) (h : post.1 (mx_as ((14, 2, 0, (-1)) :: il) ((14, 2, 4, some 2) :: (14, 2, 2, some 2) :: (14, 2, 1, some 2) :: rl) 66)) : mx_XW false scr (d + 1) 5 [.inr (.inr (.inl (14, 2)))] s post ex := by
  subst hs
  have e9 : mx_sp (mx_sn (mx_sp (mx_sn (mx_sp (mx_sn (mx_si (mx_as il rl 63) 14 2 0 (-1)) 15 2) 14 2 1 2) 16 2) 14 2 2 2) 17 2) 14 2 4 2 = mx_as ((14, 2, 0, (-1)) :: il) ((14, 2, 4, some 2) :: (14, 2, 2, some 2) :: (14, 2, 1, some 2) :: rl) 66 := mx_Ep (mx_En (mx_Ep (mx_En (mx_Ep (mx_En (mx_Ei (rfl)) k0 g0)) k1 g1)) k2 g2)
  rw [← e9] at h
  exact ⟨0, rfl, rfl, rfl, h⟩
theorem mx_P_Vs_3 (hs : s = mx_as il rl 67) (k0 : mx_kk il 15 3 = true) (g0 : mx_kk rl 15 3 = true) (k1 : mx_kk il 16 3 = true) (g1 : mx_kk rl 16 3 = true) (k2 : mx_kk il 17 3 = true) (g2 : mx_kk rl 17 3 = true) (h : post.1 (mx_as ((14, 3, 0, (-1)) :: il) ((14, 3, 4, some 3) :: (14, 3, 2, some 3) :: (14, 3, 1, some 3) :: rl) 70)) : mx_XW false scr (d + 1) 5 [.inr (.inr (.inl (14, 3)))] s post ex := by
  subst hs
  have e9 : mx_sp (mx_sn (mx_sp (mx_sn (mx_sp (mx_sn (mx_si (mx_as il rl 67) 14 3 0 (-1)) 15 3) 14 3 1 3) 16 3) 14 3 2 3) 17 3) 14 3 4 3 = mx_as ((14, 3, 0, (-1)) :: il) ((14, 3, 4, some 3) :: (14, 3, 2, some 3) :: (14, 3, 1, some 3) :: rl) 70 := mx_Ep (mx_En (mx_Ep (mx_En (mx_Ep (mx_En (mx_Ei (rfl)) k0 g0)) k1 g1)) k2 g2)
  rw [← e9] at h
  exact ⟨0, rfl, rfl, rfl, h⟩
theorem mx_P_Vs_4 (hs : s = mx_as il rl 71) (k0 : mx_kk il 15 4 = true) (g0 : mx_kk rl 15 4 = true) (k1 : mx_kk il 16 4 = true) (g1 : mx_kk rl 16 4 = true) (k2 : mx_kk il 17 4 = true) (g2 : mx_kk rl 17 4 = true) (h : post.1 (mx_as ((14, 4, 0, (-1)) :: il) ((14, 4, 4, some 4) :: (14, 4, 2, some 4) :: (14, 4, 1, some 4) :: rl) 74)) : mx_XW false scr (d + 1) 5 [.inr (.inr (.inl (14, 4)))] s post ex := by
  subst hs
  have e9 : mx_sp (mx_sn (mx_sp (mx_sn (mx_sp (mx_sn (mx_si (mx_as il rl 71) 14 4 0 (-1)) 15 4) 14 4 1 4) 16 4) 14 4 2 4) 17 4) 14 4 4 4 = mx_as ((14, 4, 0, (-1)) :: il) ((14, 4, 4, some 4) :: (14, 4, 2, some 4) :: (14, 4, 1, some 4) :: rl) 74 := mx_Ep (mx_En (mx_Ep (mx_En (mx_Ep (mx_En (mx_Ei (rfl)) k0 g0)) k1 g1)) k2 g2)
  rw [← e9] at h
  exact ⟨0, rfl, rfl, rfl, h⟩
theorem mx_P_Vs_5 (hs : s = mx_as il rl 75) (k0 : mx_kk il 15 5 = true) (g0 : mx_kk rl 15 5 = true) (k1 : mx_kk il 16 5 = true) (g1 : mx_kk rl 16 5 = true) (k2 : mx_kk il 17 5 = true) (g2 : mx_kk rl 17 5 = true) (h : post.1 (mx_as ((14, 5, 0, (-1)) :: il) ((14, 5, 4, some 5) :: (14, 5, 2, some 5) :: (14, 5, 1, some 5) :: rl) 78)) : mx_XW false scr (d + 1) 5 [.inr (.inr (.inl (14, 5)))] s post ex := by
  subst hs
  have e9 : mx_sp (mx_sn (mx_sp (mx_sn (mx_sp (mx_sn (mx_si (mx_as il rl 75) 14 5 0 (-1)) 15 5) 14 5 1 5) 16 5) 14 5 2 5) 17 5) 14 5 4 5 = mx_as ((14, 5, 0, (-1)) :: il) ((14, 5, 4, some 5) :: (14, 5, 2, some 5) :: (14, 5, 1, some 5) :: rl) 78 := mx_Ep (mx_En (mx_Ep (mx_En (mx_Ep (mx_En (mx_Ei (rfl)) k0 g0)) k1 g1)) k2 g2)
  rw [← e9] at h
  exact ⟨0, rfl, rfl, rfl, h⟩
theorem mx_P_Vs_6 (hs : s = mx_as il rl 79) (k0 : mx_kk il 15 6 = true) (g0 : mx_kk rl 15 6 = true) (k1 : mx_kk il 16 6 = true) (g1 : mx_kk rl 16 6 = true) (k2 : mx_kk il 17 6 = true) (g2 : mx_kk rl 17 6 = true) (h : post.1 (mx_as ((14, 6, 0, (-1)) :: il) ((14, 6, 4, some 6) :: (14, 6, 2, some 6) :: (14, 6, 1, some 6) :: rl) 82)) : mx_XW false scr (d + 1) 5 [.inr (.inr (.inl (14, 6)))] s post ex := by
  subst hs
  have e9 : mx_sp (mx_sn (mx_sp (mx_sn (mx_sp (mx_sn (mx_si (mx_as il rl 79) 14 6 0 (-1)) 15 6) 14 6 1 6) 16 6) 14 6 2 6) 17 6) 14 6 4 6 = mx_as ((14, 6, 0, (-1)) :: il) ((14, 6, 4, some 6) :: (14, 6, 2, some 6) :: (14, 6, 1, some 6) :: rl) 82 := mx_Ep (mx_En (mx_Ep (mx_En (mx_Ep (mx_En (mx_Ei (rfl)) k0 g0)) k1 g1)) k2 g2)
  rw [← e9] at h
  exact ⟨0, rfl, rfl, rfl, h⟩
theorem mx_P_Vs_7 (hs : s = mx_as il rl 83) (k0 : mx_kk il 15 7 = true) (g0 : mx_kk rl 15 7 = true) (k1 : mx_kk il 16 7 = true) (g1 : mx_kk rl 16 7 = true) (k2 : mx_kk il 17 7 = true) (g2 : mx_kk rl 17 7 = true) (h : post.1 (mx_as ((14, 7, 0, (-1)) :: il) ((14, 7, 4, some 7) :: (14, 7, 2, some 7) :: (14, 7, 1, some 7) :: rl) 86)) : mx_XW false scr (d + 1) 5 [.inr (.inr (.inl (14, 7)))] s post ex := by
  subst hs
  have e9 : mx_sp (mx_sn (mx_sp (mx_sn (mx_sp (mx_sn (mx_si (mx_as il rl 83) 14 7 0 (-1)) 15 7) 14 7 1 7) 16 7) 14 7 2 7) 17 7) 14 7 4 7 = mx_as ((14, 7, 0, (-1)) :: il) ((14, 7, 4, some 7) :: (14, 7, 2, some 7) :: (14, 7, 1, some 7) :: rl) 86 := mx_Ep (mx_En (mx_Ep (mx_En (mx_Ep (mx_En (mx_Ei (rfl)) k0 g0)) k1 g1)) k2 g2)
  rw [← e9] at h
  exact ⟨0, rfl, rfl, rfl, h⟩
def mx_rlC_0 : List (Nat × Nat × Nat × Option Nat) := [(1, 0, 4, some 0), (1, 0, 3, some 0), (1, 0, 0, some 0)]
def mx_rlC_1 : List (Nat × Nat × Nat × Option Nat) := (2, 0, 0, some 0) :: (5, 0, 8, some 0) :: (5, 0, 7, some 0) :: (5, 0, 6, some 0) :: (5, 0, 4, some 0) :: mx_rlC_0
set_option maxRecDepth 100000 in
theorem mx_C_0 {n : Nat} (h : mx_xq false scr (mx_XW false scr (d + 1)) mt_Cf_init post ex n 34 [(0, .inr (.inr (.inl (1, 0)))), (1, .inl 1)] (mx_as [] mx_rlC_1 10) (8, 131)) : mx_xq false scr (mx_XW false scr (d + 1)) mt_Cf_init post ex (n + 1) 34 [(0, .inr (.inr (.inl (1, 0)))), (1, .inl 0)] (mx_as [] mx_rlC_0 5) (3, 22) := by
  have e9 : mx_sp (mx_as [] ((5, 0, 8, some 0) :: (5, 0, 7, some 0) :: (5, 0, 6, some 0) :: (5, 0, 4, some 0) :: mx_rlC_0) 10) 2 0 0 0 = mx_as [] mx_rlC_1 10 := mx_Ep rfl
  rw [← e9] at h
  exact mx_P_Rl_0 (mx_En (f := 5) (i := 0) rfl rfl (by decide +kernel)) rfl (by decide +kernel) rfl (by decide +kernel) rfl (by decide +kernel) rfl (by decide +kernel) ⟨mx_vi (by decide +kernel), h⟩
def mx_rlC_2 : List (Nat × Nat × Nat × Option Nat) := (2, 0, 1, some 1) :: (5, 1, 8, some 1) :: (5, 1, 7, some 1) :: (5, 1, 6, some 1) :: (5, 1, 4, some 1) :: mx_rlC_1
set_option maxRecDepth 100000 in
theorem mx_C_1 {n : Nat} (h : mx_xq false scr (mx_XW false scr (d + 1)) mt_Cf_init post ex n 34 [(0, .inr (.inr (.inl (1, 0)))), (1, .inl 2)] (mx_as [] mx_rlC_2 15) (13, 240)) : mx_xq false scr (mx_XW false scr (d + 1)) mt_Cf_init post ex (n + 1) 34 [(0, .inr (.inr (.inl (1, 0)))), (1, .inl 1)] (mx_as [] mx_rlC_1 10) (8, 131) := by
  have e9 : mx_sp (mx_as [] ((5, 1, 8, some 1) :: (5, 1, 7, some 1) :: (5, 1, 6, some 1) :: (5, 1, 4, some 1) :: mx_rlC_1) 15) 2 0 1 1 = mx_as [] mx_rlC_2 15 := mx_Ep rfl
  rw [← e9] at h
  exact mx_P_Rl_1 (mx_En (f := 5) (i := 1) rfl rfl (by decide +kernel)) rfl (by decide +kernel) rfl (by decide +kernel) rfl (by decide +kernel) rfl (by decide +kernel) ⟨mx_vi (by decide +kernel), h⟩
def mx_rlC_3 : List (Nat × Nat × Nat × Option Nat) := (2, 0, 2, some 2) :: (5, 2, 8, some 2) :: (5, 2, 7, some 2) :: (5, 2, 6, some 2) :: (5, 2, 4, some 2) :: mx_rlC_2
set_option maxRecDepth 100000 in
theorem mx_C_2 {n : Nat} (h : mx_xq false scr (mx_XW false scr (d + 1)) mt_Cf_init post ex n 34 [(0, .inr (.inr (.inl (1, 0)))), (1, .inl 3)] (mx_as [] mx_rlC_3 20) (18, 349)) : mx_xq false scr (mx_XW false scr (d + 1)) mt_Cf_init post ex (n + 1) 34 [(0, .inr (.inr (.inl (1, 0)))), (1, .inl 2)] (mx_as [] mx_rlC_2 15) (13, 240) := by
  have e9 : mx_sp (mx_as [] ((5, 2, 8, some 2) :: (5, 2, 7, some 2) :: (5, 2, 6, some 2) :: (5, 2, 4, some 2) :: mx_rlC_2) 20) 2 0 2 2 = mx_as [] mx_rlC_3 20 := mx_Ep rfl
  rw [← e9] at h
  exact mx_P_Rl_2 (mx_En (f := 5) (i := 2) rfl rfl (by decide +kernel)) rfl (by decide +kernel) rfl (by decide +kernel) rfl (by decide +kernel) rfl (by decide +kernel) ⟨mx_vi (by decide +kernel), h⟩
def mx_rlC_4 : List (Nat × Nat × Nat × Option Nat) := (2, 0, 3, some 3) :: (5, 3, 8, some 3) :: (5, 3, 7, some 3) :: (5, 3, 6, some 3) :: (5, 3, 4, some 3) :: mx_rlC_3
set_option maxRecDepth 100000 in
theorem mx_C_3 {n : Nat} (h : mx_xq false scr (mx_XW false scr (d + 1)) mt_Cf_init post ex n 34 [(0, .inr (.inr (.inl (1, 0)))), (1, .inl 4)] (mx_as [] mx_rlC_4 25) (23, 458)) : mx_xq false scr (mx_XW false scr (d + 1)) mt_Cf_init post ex (n + 1) 34 [(0, .inr (.inr (.inl (1, 0)))), (1, .inl 3)] (mx_as [] mx_rlC_3 20) (18, 349) := by
  have e9 : mx_sp (mx_as [] ((5, 3, 8, some 3) :: (5, 3, 7, some 3) :: (5, 3, 6, some 3) :: (5, 3, 4, some 3) :: mx_rlC_3) 25) 2 0 3 3 = mx_as [] mx_rlC_4 25 := mx_Ep rfl
  rw [← e9] at h
  exact mx_P_Rl_3 (mx_En (f := 5) (i := 3) rfl rfl (by decide +kernel)) rfl (by decide +kernel) rfl (by decide +kernel) rfl (by decide +kernel) rfl (by decide +kernel) ⟨mx_vi (by decide +kernel), h⟩
def mx_rlC_5 : List (Nat × Nat × Nat × Option Nat) := (2, 0, 4, some 4) :: (5, 4, 8, some 4) :: (5, 4, 7, some 4) :: (5, 4, 6, some 4) :: (5, 4, 4, some 4) :: mx_rlC_4
set_option maxRecDepth 100000 in
theorem mx_C_4 {n : Nat} (h : mx_xq false scr (mx_XW false scr (d + 1)) mt_Cf_init post ex n 34 [(0, .inr (.inr (.inl (1, 0)))), (1, .inl 5)] (mx_as [] mx_rlC_5 30) (28, 567)) : mx_xq false scr (mx_XW false scr (d + 1)) mt_Cf_init post ex (n + 1) 34 [(0, .inr (.inr (.inl (1, 0)))), (1, .inl 4)] (mx_as [] mx_rlC_4 25) (23, 458) := by
  have e9 : mx_sp (mx_as [] ((5, 4, 8, some 4) :: (5, 4, 7, some 4) :: (5, 4, 6, some 4) :: (5, 4, 4, some 4) :: mx_rlC_4) 30) 2 0 4 4 = mx_as [] mx_rlC_5 30 := mx_Ep rfl
  rw [← e9] at h
  exact mx_P_Rl_4 (mx_En (f := 5) (i := 4) rfl rfl (by decide +kernel)) rfl (by decide +kernel) rfl (by decide +kernel) rfl (by decide +kernel) rfl (by decide +kernel) ⟨mx_vi (by decide +kernel), h⟩
def mx_rlC_6 : List (Nat × Nat × Nat × Option Nat) := (2, 0, 5, some 5) :: (5, 5, 8, some 5) :: (5, 5, 7, some 5) :: (5, 5, 6, some 5) :: (5, 5, 4, some 5) :: mx_rlC_5
set_option maxRecDepth 100000 in
theorem mx_C_5 {n : Nat} (h : mx_xq false scr (mx_XW false scr (d + 1)) mt_Cf_init post ex n 34 [(0, .inr (.inr (.inl (1, 0)))), (1, .inl 6)] (mx_as [] mx_rlC_6 35) (33, 676)) : mx_xq false scr (mx_XW false scr (d + 1)) mt_Cf_init post ex (n + 1) 34 [(0, .inr (.inr (.inl (1, 0)))), (1, .inl 5)] (mx_as [] mx_rlC_5 30) (28, 567) := by
  have e9 : mx_sp (mx_as [] ((5, 5, 8, some 5) :: (5, 5, 7, some 5) :: (5, 5, 6, some 5) :: (5, 5, 4, some 5) :: mx_rlC_5) 35) 2 0 5 5 = mx_as [] mx_rlC_6 35 := mx_Ep rfl
  rw [← e9] at h
  exact mx_P_Rl_5 (mx_En (f := 5) (i := 5) rfl rfl (by decide +kernel)) rfl (by decide +kernel) rfl (by decide +kernel) rfl (by decide +kernel) rfl (by decide +kernel) ⟨mx_vi (by decide +kernel), h⟩
def mx_rlC_7 : List (Nat × Nat × Nat × Option Nat) := (2, 0, 6, some 6) :: (5, 6, 8, some 6) :: (5, 6, 7, some 6) :: (5, 6, 6, some 6) :: (5, 6, 4, some 6) :: mx_rlC_6
set_option maxRecDepth 100000 in
theorem mx_C_6 {n : Nat} (h : mx_xq false scr (mx_XW false scr (d + 1)) mt_Cf_init post ex n 34 [(0, .inr (.inr (.inl (1, 0)))), (1, .inl 7)] (mx_as [] mx_rlC_7 40) (38, 785)) : mx_xq false scr (mx_XW false scr (d + 1)) mt_Cf_init post ex (n + 1) 34 [(0, .inr (.inr (.inl (1, 0)))), (1, .inl 6)] (mx_as [] mx_rlC_6 35) (33, 676) := by
  have e9 : mx_sp (mx_as [] ((5, 6, 8, some 6) :: (5, 6, 7, some 6) :: (5, 6, 6, some 6) :: (5, 6, 4, some 6) :: mx_rlC_6) 40) 2 0 6 6 = mx_as [] mx_rlC_7 40 := mx_Ep rfl
  rw [← e9] at h
  exact mx_P_Rl_6 (mx_En (f := 5) (i := 6) rfl rfl (by decide +kernel)) rfl (by decide +kernel) rfl (by decide +kernel) rfl (by decide +kernel) rfl (by decide +kernel) ⟨mx_vi (by decide +kernel), h⟩
def mx_rlC_8 : List (Nat × Nat × Nat × Option Nat) := (2, 0, 7, some 7) :: (5, 7, 8, some 7) :: (5, 7, 7, some 7) :: (5, 7, 6, some 7) :: (5, 7, 4, some 7) :: mx_rlC_7
set_option maxRecDepth 100000 in
theorem mx_C_7 {n : Nat} (h : mx_xq false scr (mx_XW false scr (d + 1)) mt_Cf_init post ex n 34 [(0, .inr (.inr (.inl (1, 0)))), (1, .inl 8)] (mx_as [] mx_rlC_8 45) (43, 894)) : mx_xq false scr (mx_XW false scr (d + 1)) mt_Cf_init post ex (n + 1) 34 [(0, .inr (.inr (.inl (1, 0)))), (1, .inl 7)] (mx_as [] mx_rlC_7 40) (38, 785) := by
  have e9 : mx_sp (mx_as [] ((5, 7, 8, some 7) :: (5, 7, 7, some 7) :: (5, 7, 6, some 7) :: (5, 7, 4, some 7) :: mx_rlC_7) 45) 2 0 7 7 = mx_as [] mx_rlC_8 45 := mx_Ep rfl
  rw [← e9] at h
  exact mx_P_Rl_7 (mx_En (f := 5) (i := 7) rfl rfl (by decide +kernel)) rfl (by decide +kernel) rfl (by decide +kernel) rfl (by decide +kernel) rfl (by decide +kernel) ⟨mx_vi (by decide +kernel), h⟩
def mx_rlC_9 : List (Nat × Nat × Nat × Option Nat) := (2, 0, 8, some 8) :: (5, 8, 8, some 8) :: (5, 8, 7, some 8) :: (5, 8, 6, some 8) :: (5, 8, 4, some 8) :: mx_rlC_8
set_option maxRecDepth 100000 in
theorem mx_C_8 {n : Nat} (h : mx_xq false scr (mx_XW false scr (d + 1)) mt_Cf_init post ex n 34 [(0, .inr (.inr (.inl (1, 0)))), (1, .inl 9)] (mx_as [] mx_rlC_9 50) (48, 1003)) : mx_xq false scr (mx_XW false scr (d + 1)) mt_Cf_init post ex (n + 1) 34 [(0, .inr (.inr (.inl (1, 0)))), (1, .inl 8)] (mx_as [] mx_rlC_8 45) (43, 894) := by
  have e9 : mx_sp (mx_as [] ((5, 8, 8, some 8) :: (5, 8, 7, some 8) :: (5, 8, 6, some 8) :: (5, 8, 4, some 8) :: mx_rlC_8) 50) 2 0 8 8 = mx_as [] mx_rlC_9 50 := mx_Ep rfl
  rw [← e9] at h
  exact mx_P_Rl_8 (mx_En (f := 5) (i := 8) rfl rfl (by decide +kernel)) rfl (by decide +kernel) rfl (by decide +kernel) rfl (by decide +kernel) rfl (by decide +kernel) ⟨mx_vi (by decide +kernel), h⟩
set_option maxRecDepth 100000 in
theorem mx_C_z {n : Nat} (h : post.1 (mx_as [] mx_rlC_9 50)) : mx_xq false scr (mx_XW false scr (d + 1)) mt_Cf_init post ex (n + 1) 34 [(0, .inr (.inr (.inl (1, 0)))), (1, .inl 9)] (mx_as [] mx_rlC_9 50) (48, 1003) := h
set_option maxRecDepth 100000 in
theorem mx_C_s {q : Nat → mLV → mSt → Nat × Nat → Prop} (h : q 34 [(0, .inr (.inr (.inl (1, 0)))), (1, .inl 0)] (mx_as [] mx_rlC_0 5) (3, 22)) : mx_blk false scr (mx_XW false scr (d + 1)) mt_Cf_init post ex q 700 true cd_Cf_init (mx_args 0 [.inr (.inr (.inl (1, 0)))]) [] (mx_as [] [] 2) (0, 0) := by
  have e9 : mx_sp (mx_sn (mx_sp (mx_sn (mx_sp (mx_sn (mx_as [] [] 2) 2 0) 1 0 0 0) 3 0) 1 0 3 0) 4 0) 1 0 4 0 = mx_as [] mx_rlC_0 5 := mx_Ep (mx_En (mx_Ep (mx_En (mx_Ep (mx_En rfl rfl rfl)) rfl rfl)) rfl rfl)
  rw [← e9] at h
  exact ⟨rfl, mx_P_Rd ⟨rfl, h⟩⟩
theorem mx_P_Cf (hs : s = mx_as [] [] 2) (h : post.1 (mx_as [] mx_rlC_9 50)) : mx_XW false scr (d + 2) 1 [.inr (.inr (.inl (1, 0)))] s post ex := by
  subst hs
  exact ⟨10, mx_C_s (mx_C_0 (mx_C_1 (mx_C_2 (mx_C_3 (mx_C_4 (mx_C_5 (mx_C_6 (mx_C_7 (mx_C_8 ((mx_C_z h)))))))))))⟩
def mx_rlR_0 : List (Nat × Nat × Nat × Option Nat) := (0, 0, 5, some 0) :: (0, 0, 4, some 0) :: (11, 0, 0, some 0) :: (0, 0, 2, some 0) :: (0, 0, 1, some 0) :: mx_rlC_9
def mx_ilR_0 (x : Int32) : List (Nat × Nat × Nat × Int32) := [(0, 0, 0, 1 + (x &&& 7))]
def mx_rlR_1 : List (Nat × Nat × Nat × Option Nat) := (13, 0, 0, some 0) :: (14, 0, 4, some 0) :: (14, 0, 2, some 0) :: (14, 0, 1, some 0) :: mx_rlR_0
def mx_ilR_1 (x : Int32) : List (Nat × Nat × Nat × Int32) := (14, 0, 0, (-1)) :: mx_ilR_0 x
set_option maxRecDepth 100000 in
theorem mx_R_0 {n : Nat} {x : Int32} (h : mx_xq false scr (mx_XW false scr (d + 2)) mt_Rs_init post ex n 54 [(0, .inr (.inr (.inl (0, 0)))), (1, .inl x), (2, .inl 1)] (mx_as (mx_ilR_1 x) mx_rlR_1 58) (57, 1245)) : mx_xq false scr (mx_XW false scr (d + 2)) mt_Rs_init post ex (n + 1) 54 [(0, .inr (.inr (.inl (0, 0)))), (1, .inl x), (2, .inl 0)] (mx_as (mx_ilR_0 x) mx_rlR_0 54) (53, 1144) := by
  have e9 : mx_sp (mx_as (mx_ilR_1 x) ((14, 0, 4, some 0) :: (14, 0, 2, some 0) :: (14, 0, 1, some 0) :: mx_rlR_0) 58) 13 0 0 0 = mx_as (mx_ilR_1 x) mx_rlR_1 58 := mx_Ep rfl
  rw [← e9] at h
  exact mx_P_Vs_0 (mx_En (f := 14) (i := 0) rfl rfl (by decide +kernel)) rfl (by decide +kernel) rfl (by decide +kernel) rfl (by decide +kernel) ⟨mx_vi (by decide +kernel), h⟩
def mx_rlR_2 : List (Nat × Nat × Nat × Option Nat) := (13, 0, 1, some 1) :: (14, 1, 4, some 1) :: (14, 1, 2, some 1) :: (14, 1, 1, some 1) :: mx_rlR_1
def mx_ilR_2 (x : Int32) : List (Nat × Nat × Nat × Int32) := (14, 1, 0, (-1)) :: mx_ilR_1 x
set_option maxRecDepth 100000 in
theorem mx_R_1 {n : Nat} {x : Int32} (h : mx_xq false scr (mx_XW false scr (d + 2)) mt_Rs_init post ex n 54 [(0, .inr (.inr (.inl (0, 0)))), (1, .inl x), (2, .inl 2)] (mx_as (mx_ilR_2 x) mx_rlR_2 62) (61, 1346)) : mx_xq false scr (mx_XW false scr (d + 2)) mt_Rs_init post ex (n + 1) 54 [(0, .inr (.inr (.inl (0, 0)))), (1, .inl x), (2, .inl 1)] (mx_as (mx_ilR_1 x) mx_rlR_1 58) (57, 1245) := by
  have e9 : mx_sp (mx_as (mx_ilR_2 x) ((14, 1, 4, some 1) :: (14, 1, 2, some 1) :: (14, 1, 1, some 1) :: mx_rlR_1) 62) 13 0 1 1 = mx_as (mx_ilR_2 x) mx_rlR_2 62 := mx_Ep rfl
  rw [← e9] at h
  exact mx_P_Vs_1 (mx_En (f := 14) (i := 1) rfl rfl (by decide +kernel)) rfl (by decide +kernel) rfl (by decide +kernel) rfl (by decide +kernel) ⟨mx_vi (by decide +kernel), h⟩
def mx_rlR_3 : List (Nat × Nat × Nat × Option Nat) := (13, 0, 2, some 2) :: (14, 2, 4, some 2) :: (14, 2, 2, some 2) :: (14, 2, 1, some 2) :: mx_rlR_2
def mx_ilR_3 (x : Int32) : List (Nat × Nat × Nat × Int32) := (14, 2, 0, (-1)) :: mx_ilR_2 x
set_option maxRecDepth 100000 in
theorem mx_R_2 {n : Nat} {x : Int32} (h : mx_xq false scr (mx_XW false scr (d + 2)) mt_Rs_init post ex n 54 [(0, .inr (.inr (.inl (0, 0)))), (1, .inl x), (2, .inl 3)] (mx_as (mx_ilR_3 x) mx_rlR_3 66) (65, 1447)) : mx_xq false scr (mx_XW false scr (d + 2)) mt_Rs_init post ex (n + 1) 54 [(0, .inr (.inr (.inl (0, 0)))), (1, .inl x), (2, .inl 2)] (mx_as (mx_ilR_2 x) mx_rlR_2 62) (61, 1346) := by
  have e9 : mx_sp (mx_as (mx_ilR_3 x) ((14, 2, 4, some 2) :: (14, 2, 2, some 2) :: (14, 2, 1, some 2) :: mx_rlR_2) 66) 13 0 2 2 = mx_as (mx_ilR_3 x) mx_rlR_3 66 := mx_Ep rfl
  rw [← e9] at h
  exact mx_P_Vs_2 (mx_En (f := 14) (i := 2) rfl rfl (by decide +kernel)) rfl (by decide +kernel) rfl (by decide +kernel) rfl (by decide +kernel) ⟨mx_vi (by decide +kernel), h⟩
def mx_rlR_4 : List (Nat × Nat × Nat × Option Nat) := (13, 0, 3, some 3) :: (14, 3, 4, some 3) :: (14, 3, 2, some 3) :: (14, 3, 1, some 3) :: mx_rlR_3
def mx_ilR_4 (x : Int32) : List (Nat × Nat × Nat × Int32) := (14, 3, 0, (-1)) :: mx_ilR_3 x
set_option maxRecDepth 100000 in
theorem mx_R_3 {n : Nat} {x : Int32} (h : mx_xq false scr (mx_XW false scr (d + 2)) mt_Rs_init post ex n 54 [(0, .inr (.inr (.inl (0, 0)))), (1, .inl x), (2, .inl 4)] (mx_as (mx_ilR_4 x) mx_rlR_4 70) (69, 1548)) : mx_xq false scr (mx_XW false scr (d + 2)) mt_Rs_init post ex (n + 1) 54 [(0, .inr (.inr (.inl (0, 0)))), (1, .inl x), (2, .inl 3)] (mx_as (mx_ilR_3 x) mx_rlR_3 66) (65, 1447) := by
  have e9 : mx_sp (mx_as (mx_ilR_4 x) ((14, 3, 4, some 3) :: (14, 3, 2, some 3) :: (14, 3, 1, some 3) :: mx_rlR_3) 70) 13 0 3 3 = mx_as (mx_ilR_4 x) mx_rlR_4 70 := mx_Ep rfl
  rw [← e9] at h
  exact mx_P_Vs_3 (mx_En (f := 14) (i := 3) rfl rfl (by decide +kernel)) rfl (by decide +kernel) rfl (by decide +kernel) rfl (by decide +kernel) ⟨mx_vi (by decide +kernel), h⟩
def mx_rlR_5 : List (Nat × Nat × Nat × Option Nat) := (13, 0, 4, some 4) :: (14, 4, 4, some 4) :: (14, 4, 2, some 4) :: (14, 4, 1, some 4) :: mx_rlR_4
def mx_ilR_5 (x : Int32) : List (Nat × Nat × Nat × Int32) := (14, 4, 0, (-1)) :: mx_ilR_4 x
set_option maxRecDepth 100000 in
theorem mx_R_4 {n : Nat} {x : Int32} (h : mx_xq false scr (mx_XW false scr (d + 2)) mt_Rs_init post ex n 54 [(0, .inr (.inr (.inl (0, 0)))), (1, .inl x), (2, .inl 5)] (mx_as (mx_ilR_5 x) mx_rlR_5 74) (73, 1649)) : mx_xq false scr (mx_XW false scr (d + 2)) mt_Rs_init post ex (n + 1) 54 [(0, .inr (.inr (.inl (0, 0)))), (1, .inl x), (2, .inl 4)] (mx_as (mx_ilR_4 x) mx_rlR_4 70) (69, 1548) := by
  have e9 : mx_sp (mx_as (mx_ilR_5 x) ((14, 4, 4, some 4) :: (14, 4, 2, some 4) :: (14, 4, 1, some 4) :: mx_rlR_4) 74) 13 0 4 4 = mx_as (mx_ilR_5 x) mx_rlR_5 74 := mx_Ep rfl
  rw [← e9] at h
  exact mx_P_Vs_4 (mx_En (f := 14) (i := 4) rfl rfl (by decide +kernel)) rfl (by decide +kernel) rfl (by decide +kernel) rfl (by decide +kernel) ⟨mx_vi (by decide +kernel), h⟩
def mx_rlR_6 : List (Nat × Nat × Nat × Option Nat) := (13, 0, 5, some 5) :: (14, 5, 4, some 5) :: (14, 5, 2, some 5) :: (14, 5, 1, some 5) :: mx_rlR_5
def mx_ilR_6 (x : Int32) : List (Nat × Nat × Nat × Int32) := (14, 5, 0, (-1)) :: mx_ilR_5 x
set_option maxRecDepth 100000 in
theorem mx_R_5 {n : Nat} {x : Int32} (h : mx_xq false scr (mx_XW false scr (d + 2)) mt_Rs_init post ex n 54 [(0, .inr (.inr (.inl (0, 0)))), (1, .inl x), (2, .inl 6)] (mx_as (mx_ilR_6 x) mx_rlR_6 78) (77, 1750)) : mx_xq false scr (mx_XW false scr (d + 2)) mt_Rs_init post ex (n + 1) 54 [(0, .inr (.inr (.inl (0, 0)))), (1, .inl x), (2, .inl 5)] (mx_as (mx_ilR_5 x) mx_rlR_5 74) (73, 1649) := by
  have e9 : mx_sp (mx_as (mx_ilR_6 x) ((14, 5, 4, some 5) :: (14, 5, 2, some 5) :: (14, 5, 1, some 5) :: mx_rlR_5) 78) 13 0 5 5 = mx_as (mx_ilR_6 x) mx_rlR_6 78 := mx_Ep rfl
  rw [← e9] at h
  exact mx_P_Vs_5 (mx_En (f := 14) (i := 5) rfl rfl (by decide +kernel)) rfl (by decide +kernel) rfl (by decide +kernel) rfl (by decide +kernel) ⟨mx_vi (by decide +kernel), h⟩
def mx_rlR_7 : List (Nat × Nat × Nat × Option Nat) := (13, 0, 6, some 6) :: (14, 6, 4, some 6) :: (14, 6, 2, some 6) :: (14, 6, 1, some 6) :: mx_rlR_6
def mx_ilR_7 (x : Int32) : List (Nat × Nat × Nat × Int32) := (14, 6, 0, (-1)) :: mx_ilR_6 x
set_option maxRecDepth 100000 in
theorem mx_R_6 {n : Nat} {x : Int32} (h : mx_xq false scr (mx_XW false scr (d + 2)) mt_Rs_init post ex n 54 [(0, .inr (.inr (.inl (0, 0)))), (1, .inl x), (2, .inl 7)] (mx_as (mx_ilR_7 x) mx_rlR_7 82) (81, 1851)) : mx_xq false scr (mx_XW false scr (d + 2)) mt_Rs_init post ex (n + 1) 54 [(0, .inr (.inr (.inl (0, 0)))), (1, .inl x), (2, .inl 6)] (mx_as (mx_ilR_6 x) mx_rlR_6 78) (77, 1750) := by
  have e9 : mx_sp (mx_as (mx_ilR_7 x) ((14, 6, 4, some 6) :: (14, 6, 2, some 6) :: (14, 6, 1, some 6) :: mx_rlR_6) 82) 13 0 6 6 = mx_as (mx_ilR_7 x) mx_rlR_7 82 := mx_Ep rfl
  rw [← e9] at h
  exact mx_P_Vs_6 (mx_En (f := 14) (i := 6) rfl rfl (by decide +kernel)) rfl (by decide +kernel) rfl (by decide +kernel) rfl (by decide +kernel) ⟨mx_vi (by decide +kernel), h⟩
def mx_rlR_8 : List (Nat × Nat × Nat × Option Nat) := (13, 0, 7, some 7) :: (14, 7, 4, some 7) :: (14, 7, 2, some 7) :: (14, 7, 1, some 7) :: mx_rlR_7
def mx_ilR_8 (x : Int32) : List (Nat × Nat × Nat × Int32) := (14, 7, 0, (-1)) :: mx_ilR_7 x
set_option maxRecDepth 100000 in
theorem mx_R_7 {n : Nat} {x : Int32} (h : mx_xq false scr (mx_XW false scr (d + 2)) mt_Rs_init post ex n 54 [(0, .inr (.inr (.inl (0, 0)))), (1, .inl x), (2, .inl 8)] (mx_as (mx_ilR_8 x) mx_rlR_8 86) (85, 1952)) : mx_xq false scr (mx_XW false scr (d + 2)) mt_Rs_init post ex (n + 1) 54 [(0, .inr (.inr (.inl (0, 0)))), (1, .inl x), (2, .inl 7)] (mx_as (mx_ilR_7 x) mx_rlR_7 82) (81, 1851) := by
  have e9 : mx_sp (mx_as (mx_ilR_8 x) ((14, 7, 4, some 7) :: (14, 7, 2, some 7) :: (14, 7, 1, some 7) :: mx_rlR_7) 86) 13 0 7 7 = mx_as (mx_ilR_8 x) mx_rlR_8 86 := mx_Ep rfl
  rw [← e9] at h
  exact mx_P_Vs_7 (mx_En (f := 14) (i := 7) rfl rfl (by decide +kernel)) rfl (by decide +kernel) rfl (by decide +kernel) rfl (by decide +kernel) ⟨mx_vi (by decide +kernel), h⟩
set_option maxRecDepth 100000 in
theorem mx_R_z {n : Nat} {x : Int32} (h : post.1 (mx_as (mx_ilR_8 x) mx_rlR_8 86)) : mx_xq false scr (mx_XW false scr (d + 2)) mt_Rs_init post ex (n + 1) 54 [(0, .inr (.inr (.inl (0, 0)))), (1, .inl x), (2, .inl 8)] (mx_as (mx_ilR_8 x) mx_rlR_8 86) (85, 1952) := h
set_option maxRecDepth 100000 in
theorem mx_R_s {x : Int32} {q : Nat → mLV → mSt → Nat × Nat → Prop} (h : q 54 [(0, .inr (.inr (.inl (0, 0)))), (1, .inl x), (2, .inl 0)] (mx_as (mx_ilR_0 x) mx_rlR_0 54) (53, 1144)) : mx_blk false scr (mx_XW false scr (d + 2)) mt_Rs_init post ex q 700 true cd_Rs_init (mx_args 0 [.inr (.inr (.inl (0, 0))), .inl x]) [] (mx_as [] [] 1) (0, 0) := by
  have e9 : mx_si (mx_sp (mx_sn (mx_sp (mx_as [] ((11, 0, 0, some 0) :: (0, 0, 2, some 0) :: (0, 0, 1, some 0) :: mx_rlC_9) 53) 0 0 4 0) 13 0) 0 0 5 0) 0 0 0 (1 + (x &&& 7)) = mx_as (mx_ilR_0 x) mx_rlR_0 54 := mx_Ei (mx_Ep (mx_En (mx_Ep rfl) rfl (by decide +kernel)))
  rw [← e9] at h
  exact mx_P_Cf (mx_En rfl rfl rfl) ⟨rfl, mx_P_Lg (mx_En (f := 11) (i := 0) (mx_Ep (mx_En (f := 10) (i := 0) (mx_Ep rfl) rfl (by decide +kernel))) rfl (by decide +kernel)) rfl (by decide +kernel) ⟨rfl, h⟩⟩
theorem mx_P_Rs {x : Int32} (hs : s = mx_as [] [] 1) (h : post.1 (mx_as (mx_ilR_8 x) mx_rlR_8 86)) : mx_XW false scr (d + 3) 0 [.inr (.inr (.inl (0, 0))), .inl x] s post ex := by
  subst hs
  exact ⟨9, mx_R_s (mx_R_0 (mx_R_1 (mx_R_2 (mx_R_3 (mx_R_4 (mx_R_5 (mx_R_6 (mx_R_7 ((mx_R_z h))))))))))⟩
end
