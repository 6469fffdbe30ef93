section
variable {scr : mSc} {d : Nat} {post : mPo} {ex : Nat → mSt → Prop} {il : List (Nat × Nat × Nat × Int32)} {rl : List (Nat × Nat × Nat × Option Nat)} {s : mSt} {q : Nat → mLV → mSt → Nat × Nat → Prop} {cal : Nat → List mAV → mSt → mPo → (Nat → mSt → Prop) → Prop} {n : Nat} {x : Int32}
set_option maxRecDepth 100000 in
theorem mx_M_0 (k1 : mx_kk il 19 0 = true) (k2 : mx_kk rl 19 0 = true) (h : mx_blk false scr cal mt_Md_init post ex q n false (cd_Md_init.drop 6) [(0, .inr (.inr (.inl (18, 0)))), (1, .inl x)] [] (mx_as il ((18, 0, 4, some 0) :: rl) 88) (1, 9)) : mx_blk false scr cal mt_Md_init post ex q (n + 4) false (cd_Md_init.drop 2) [(0, .inr (.inr (.inl (18, 0)))), (1, .inl x)] [] (mx_as il rl 87) (0, 0) := by
  have e9 : mx_sp (mx_sn (mx_as il rl 87) 19 0) 18 0 4 0 = mx_as il ((18, 0, 4, some 0) :: rl) 88 := mx_Ep (mx_En rfl k1 k2)
  rw [← e9] at h
  exact ⟨rfl, h⟩
set_option maxRecDepth 100000 in
theorem mx_M_1 (k1 : mx_kk il 20 0 = true) (k2 : mx_kk rl 20 0 = true) (h : mx_blk false scr cal mt_Md_init post ex q n false (cd_Md_init.drop 10) [(0, .inr (.inr (.inl (18, 0)))), (1, .inl x)] [] (mx_as il ((18, 0, 5, some 0) :: rl) 89) (2, 18)) : mx_blk false scr cal mt_Md_init post ex q (n + 4) false (cd_Md_init.drop 6) [(0, .inr (.inr (.inl (18, 0)))), (1, .inl x)] [] (mx_as il rl 88) (1, 9) := by
  have e9 : mx_sp (mx_sn (mx_as il rl 88) 20 0) 18 0 5 0 = mx_as il ((18, 0, 5, some 0) :: rl) 89 := mx_Ep (mx_En rfl k1 k2)
  rw [← e9] at h
  exact ⟨rfl, h⟩
set_option maxRecDepth 100000 in
theorem mx_M_2 (k1 : mx_kk il 21 0 = true) (k2 : mx_kk rl 21 0 = true) (h : mx_blk false scr cal mt_Md_init post ex q n false (cd_Md_init.drop 14) [(0, .inr (.inr (.inl (18, 0)))), (1, .inl x)] [] (mx_as il ((18, 0, 6, some 0) :: rl) 90) (3, 27)) : mx_blk false scr cal mt_Md_init post ex q (n + 4) false (cd_Md_init.drop 10) [(0, .inr (.inr (.inl (18, 0)))), (1, .inl x)] [] (mx_as il rl 89) (2, 18) := by
  have e9 : mx_sp (mx_sn (mx_as il rl 89) 21 0) 18 0 6 0 = mx_as il ((18, 0, 6, some 0) :: rl) 90 := mx_Ep (mx_En rfl k1 k2)
  rw [← e9] at h
  exact ⟨rfl, h⟩
set_option maxRecDepth 100000 in
theorem mx_M_3 (k1 : mx_kk il 22 0 = true) (k2 : mx_kk rl 22 0 = true) (h : mx_blk false scr cal mt_Md_init post ex q n false (cd_Md_init.drop 18) [(0, .inr (.inr (.inl (18, 0)))), (1, .inl x)] [] (mx_as il ((18, 0, 7, some 0) :: rl) 91) (4, 36)) : mx_blk false scr cal mt_Md_init post ex q (n + 4) false (cd_Md_init.drop 14) [(0, .inr (.inr (.inl (18, 0)))), (1, .inl x)] [] (mx_as il rl 90) (3, 27) := by
  have e9 : mx_sp (mx_sn (mx_as il rl 90) 22 0) 18 0 7 0 = mx_as il ((18, 0, 7, some 0) :: rl) 91 := mx_Ep (mx_En rfl k1 k2)
  rw [← e9] at h
  exact ⟨rfl, h⟩
set_option maxRecDepth 100000 in
theorem mx_M_4 (k1 : mx_kk il 23 0 = true) (k2 : mx_kk rl 23 0 = true) (h : mx_blk false scr cal mt_Md_init post ex q n false (cd_Md_init.drop 22) [(0, .inr (.inr (.inl (18, 0)))), (1, .inl x)] [] (mx_as il ((18, 0, 8, some 0) :: rl) 92) (5, 252)) : mx_blk false scr cal mt_Md_init post ex q (n + 4) false (cd_Md_init.drop 18) [(0, .inr (.inr (.inl (18, 0)))), (1, .inl x)] [] (mx_as il rl 91) (4, 36) := by
  have e9 : mx_sp (mx_sn (mx_as il rl 91) 23 0) 18 0 8 0 = mx_as il ((18, 0, 8, some 0) :: rl) 92 := mx_Ep (mx_En rfl k1 k2)
  rw [← e9] at h
  exact ⟨rfl, h⟩
set_option maxRecDepth 100000 in
theorem mx_M_5 (k1 : mx_kk il 24 0 = true) (k2 : mx_kk rl 24 0 = true) (h : mx_blk false scr cal mt_Md_init post ex q n false (cd_Md_init.drop 26) [(0, .inr (.inr (.inl (18, 0)))), (1, .inl x)] [] (mx_as il ((18, 0, 9, some 0) :: rl) 93) (6, 261)) : mx_blk false scr cal mt_Md_init post ex q (n + 4) false (cd_Md_init.drop 22) [(0, .inr (.inr (.inl (18, 0)))), (1, .inl x)] [] (mx_as il rl 92) (5, 252) := by
  have e9 : mx_sp (mx_sn (mx_as il rl 92) 24 0) 18 0 9 0 = mx_as il ((18, 0, 9, some 0) :: rl) 93 := mx_Ep (mx_En rfl k1 k2)
  rw [← e9] at h
  exact ⟨rfl, h⟩
set_option maxRecDepth 100000 in
theorem mx_M_6 (k1 : mx_kk il 25 0 = true) (k2 : mx_kk rl 25 0 = true) (h : mx_blk false scr cal mt_Md_init post ex q n false (cd_Md_init.drop 30) [(0, .inr (.inr (.inl (18, 0)))), (1, .inl x)] [] (mx_as il ((18, 0, 10, some 0) :: rl) 94) (7, 342)) : mx_blk false scr cal mt_Md_init post ex q (n + 4) false (cd_Md_init.drop 26) [(0, .inr (.inr (.inl (18, 0)))), (1, .inl x)] [] (mx_as il rl 93) (6, 261) := by
  have e9 : mx_sp (mx_sn (mx_as il rl 93) 25 0) 18 0 10 0 = mx_as il ((18, 0, 10, some 0) :: rl) 94 := mx_Ep (mx_En rfl k1 k2)
  rw [← e9] at h
  exact ⟨rfl, h⟩
set_option maxRecDepth 100000 in
theorem mx_M_7 (k1 : mx_kk il 26 0 = true) (k2 : mx_kk rl 26 0 = true) (h : mx_blk false scr cal mt_Md_init post ex q n false (cd_Md_init.drop 34) [(0, .inr (.inr (.inl (18, 0)))), (1, .inl x)] [] (mx_as il ((18, 0, 11, some 0) :: rl) 95) (8, 423)) : mx_blk false scr cal mt_Md_init post ex q (n + 4) false (cd_Md_init.drop 30) [(0, .inr (.inr (.inl (18, 0)))), (1, .inl x)] [] (mx_as il rl 94) (7, 342) := by
  have e9 : mx_sp (mx_sn (mx_as il rl 94) 26 0) 18 0 11 0 = mx_as il ((18, 0, 11, some 0) :: rl) 95 := mx_Ep (mx_En rfl k1 k2)
  rw [← e9] at h
  exact ⟨rfl, h⟩
set_option maxRecDepth 100000 in
theorem mx_M_8 (k1 : mx_kk il 27 0 = true) (k2 : mx_kk rl 27 0 = true) (h : mx_blk false scr cal mt_Md_init post ex q n false (cd_Md_init.drop 38) [(0, .inr (.inr (.inl (18, 0)))), (1, .inl x)] [] (mx_as il ((18, 0, 12, some 0) :: rl) 96) (9, 504)) : mx_blk false scr cal mt_Md_init post ex q (n + 4) false (cd_Md_init.drop 34) [(0, .inr (.inr (.inl (18, 0)))), (1, .inl x)] [] (mx_as il rl 95) (8, 423) := by
  have e9 : mx_sp (mx_sn (mx_as il rl 95) 27 0) 18 0 12 0 = mx_as il ((18, 0, 12, some 0) :: rl) 96 := mx_Ep (mx_En rfl k1 k2)
  rw [← e9] at h
  exact ⟨rfl, h⟩
set_option maxRecDepth 100000 in
theorem mx_M_9 (k1 : mx_kk il 28 0 = true) (k2 : mx_kk rl 28 0 = true) (h : mx_blk false scr cal mt_Md_init post ex q n false (cd_Md_init.drop 42) [(0, .inr (.inr (.inl (18, 0)))), (1, .inl x)] [] (mx_as il ((18, 0, 13, some 0) :: rl) 97) (10, 513)) : mx_blk false scr cal mt_Md_init post ex q (n + 4) false (cd_Md_init.drop 38) [(0, .inr (.inr (.inl (18, 0)))), (1, .inl x)] [] (mx_as il rl 96) (9, 504) := by
  have e9 : mx_sp (mx_sn (mx_as il rl 96) 28 0) 18 0 13 0 = mx_as il ((18, 0, 13, some 0) :: rl) 97 := mx_Ep (mx_En rfl k1 k2)
  rw [← e9] at h
  exact ⟨rfl, h⟩
set_option maxRecDepth 100000 in
theorem mx_M_10 (k1 : mx_kk il 29 0 = true) (k2 : mx_kk rl 29 0 = true) (h : mx_blk false scr cal mt_Md_init post ex q n false (cd_Md_init.drop 46) [(0, .inr (.inr (.inl (18, 0)))), (1, .inl x)] [] (mx_as il ((18, 0, 15, some 0) :: rl) 98) (11, 1233)) : mx_blk false scr cal mt_Md_init post ex q (n + 4) false (cd_Md_init.drop 42) [(0, .inr (.inr (.inl (18, 0)))), (1, .inl x)] [] (mx_as il rl 97) (10, 513) := by
  have e9 : mx_sp (mx_sn (mx_as il rl 97) 29 0) 18 0 15 0 = mx_as il ((18, 0, 15, some 0) :: rl) 98 := mx_Ep (mx_En rfl k1 k2)
  rw [← e9] at h
  exact ⟨rfl, h⟩
set_option maxRecDepth 100000 in
theorem mx_M_11 (k1 : mx_kk il 30 0 = true) (k2 : mx_kk rl 30 0 = true) (h : mx_blk false scr cal mt_Md_init post ex q n false (cd_Md_init.drop 50) [(0, .inr (.inr (.inl (18, 0)))), (1, .inl x)] [] (mx_as il ((18, 0, 16, some 0) :: rl) 99) (12, 1353)) : mx_blk false scr cal mt_Md_init post ex q (n + 4) false (cd_Md_init.drop 46) [(0, .inr (.inr (.inl (18, 0)))), (1, .inl x)] [] (mx_as il rl 98) (11, 1233) := by
  have e9 : mx_sp (mx_sn (mx_as il rl 98) 30 0) 18 0 16 0 = mx_as il ((18, 0, 16, some 0) :: rl) 99 := mx_Ep (mx_En rfl k1 k2)
  rw [← e9] at h
  exact ⟨rfl, h⟩
set_option maxRecDepth 100000 in
theorem mx_M_12 (k1 : mx_kk il 31 0 = true) (k2 : mx_kk rl 31 0 = true) (h : mx_blk false scr cal mt_Md_init post ex q n false (cd_Md_init.drop 54) [(0, .inr (.inr (.inl (18, 0)))), (1, .inl x)] [] (mx_as il ((18, 0, 20, some 0) :: rl) 100) (13, 1383)) : mx_blk false scr cal mt_Md_init post ex q (n + 4) false (cd_Md_init.drop 50) [(0, .inr (.inr (.inl (18, 0)))), (1, .inl x)] [] (mx_as il rl 99) (12, 1353) := by
  have e9 : mx_sp (mx_sn (mx_as il rl 99) 31 0) 18 0 20 0 = mx_as il ((18, 0, 20, some 0) :: rl) 100 := mx_Ep (mx_En rfl k1 k2)
  rw [← e9] at h
  exact ⟨rfl, h⟩
set_option maxRecDepth 100000 in
theorem mx_M_13 (k1 : mx_kk il 32 0 = true) (k2 : mx_kk rl 32 0 = true) (h : mx_blk false scr cal mt_Md_init post ex q n false (cd_Md_init.drop 58) [(0, .inr (.inr (.inl (18, 0)))), (1, .inl x)] [] (mx_as il ((18, 0, 22, some 0) :: rl) 101) (14, 1503)) : mx_blk false scr cal mt_Md_init post ex q (n + 4) false (cd_Md_init.drop 54) [(0, .inr (.inr (.inl (18, 0)))), (1, .inl x)] [] (mx_as il rl 100) (13, 1383) := by
  have e9 : mx_sp (mx_sn (mx_as il rl 100) 32 0) 18 0 22 0 = mx_as il ((18, 0, 22, some 0) :: rl) 101 := mx_Ep (mx_En rfl k1 k2)
  rw [← e9] at h
  exact ⟨rfl, h⟩
set_option maxRecDepth 100000 in
theorem mx_M_14 (k1 : mx_kk il 33 0 = true) (k2 : mx_kk rl 33 0 = true) (h : mx_blk false scr cal mt_Md_init post ex q n false (cd_Md_init.drop 62) [(0, .inr (.inr (.inl (18, 0)))), (1, .inl x)] [] (mx_as il ((18, 0, 23, some 0) :: rl) 102) (15, 1611)) : mx_blk false scr cal mt_Md_init post ex q (n + 4) false (cd_Md_init.drop 58) [(0, .inr (.inr (.inl (18, 0)))), (1, .inl x)] [] (mx_as il rl 101) (14, 1503) := by
  have e9 : mx_sp (mx_sn (mx_as il rl 101) 33 0) 18 0 23 0 = mx_as il ((18, 0, 23, some 0) :: rl) 102 := mx_Ep (mx_En rfl k1 k2)
  rw [← e9] at h
  exact ⟨rfl, h⟩
set_option maxRecDepth 100000 in
theorem mx_M_15 (k1 : mx_kk il 34 0 = true) (k2 : mx_kk rl 34 0 = true) (h : mx_blk false scr cal mt_Md_init post ex q n false (cd_Md_init.drop 66) [(0, .inr (.inr (.inl (18, 0)))), (1, .inl x)] [] (mx_as il ((18, 0, 24, some 0) :: rl) 103) (16, 1618)) : mx_blk false scr cal mt_Md_init post ex q (n + 4) false (cd_Md_init.drop 62) [(0, .inr (.inr (.inl (18, 0)))), (1, .inl x)] [] (mx_as il rl 102) (15, 1611) := by
  have e9 : mx_sp (mx_sn (mx_as il rl 102) 34 0) 18 0 24 0 = mx_as il ((18, 0, 24, some 0) :: rl) 103 := mx_Ep (mx_En rfl k1 k2)
  rw [← e9] at h
  exact ⟨rfl, h⟩
set_option maxRecDepth 100000 in
theorem mx_M_16 (k1 : mx_kk il 35 0 = true) (k2 : mx_kk rl 35 0 = true) (h : mx_blk false scr cal mt_Md_init post ex q n false (cd_Md_init.drop 70) [(0, .inr (.inr (.inl (18, 0)))), (1, .inl x)] [] (mx_as il ((18, 0, 25, some 0) :: rl) 104) (17, 1625)) : mx_blk false scr cal mt_Md_init post ex q (n + 4) false (cd_Md_init.drop 66) [(0, .inr (.inr (.inl (18, 0)))), (1, .inl x)] [] (mx_as il rl 103) (16, 1618) := by
  have e9 : mx_sp (mx_sn (mx_as il rl 103) 35 0) 18 0 25 0 = mx_as il ((18, 0, 25, some 0) :: rl) 104 := mx_Ep (mx_En rfl k1 k2)
  rw [← e9] at h
  exact ⟨rfl, h⟩
set_option maxRecDepth 100000 in
theorem mx_M_17 (k1 : mx_kk il 36 0 = true) (k2 : mx_kk rl 36 0 = true) (h : mx_blk false scr cal mt_Md_init post ex q n false (cd_Md_init.drop 74) [(0, .inr (.inr (.inl (18, 0)))), (1, .inl x)] [] (mx_as il ((18, 0, 26, some 0) :: rl) 105) (18, 1632)) : mx_blk false scr cal mt_Md_init post ex q (n + 4) false (cd_Md_init.drop 70) [(0, .inr (.inr (.inl (18, 0)))), (1, .inl x)] [] (mx_as il rl 104) (17, 1625) := by
  have e9 : mx_sp (mx_sn (mx_as il rl 104) 36 0) 18 0 26 0 = mx_as il ((18, 0, 26, some 0) :: rl) 105 := mx_Ep (mx_En rfl k1 k2)
  rw [← e9] at h
  exact ⟨rfl, h⟩
set_option maxRecDepth 100000 in
theorem mx_M_18 (k1 : mx_kk il 37 0 = true) (k2 : mx_kk rl 37 0 = true) (h : mx_blk false scr cal mt_Md_init post ex q n false (cd_Md_init.drop 78) [(0, .inr (.inr (.inl (18, 0)))), (1, .inl x)] [] (mx_as il ((18, 0, 27, some 0) :: rl) 106) (19, 1740)) : mx_blk false scr cal mt_Md_init post ex q (n + 4) false (cd_Md_init.drop 74) [(0, .inr (.inr (.inl (18, 0)))), (1, .inl x)] [] (mx_as il rl 105) (18, 1632) := by
  have e9 : mx_sp (mx_sn (mx_as il rl 105) 37 0) 18 0 27 0 = mx_as il ((18, 0, 27, some 0) :: rl) 106 := mx_Ep (mx_En rfl k1 k2)
  rw [← e9] at h
  exact ⟨rfl, h⟩
set_option maxRecDepth 100000 in
theorem mx_M_z (h : post.1 (mx_as ((18, 0, 0, (1 + (x &&& 7))) :: il) rl 106)) : mx_blk false scr cal mt_Md_init post ex q (n + 10) false (cd_Md_init.drop 78) [(0, .inr (.inr (.inl (18, 0)))), (1, .inl x)] [] (mx_as il rl 106) (19, 1740) := h
set_option maxRecDepth 100000 in
theorem mx_M_s (h : mx_blk false scr cal mt_Md_init post ex q n false (cd_Md_init.drop 2) [(0, .inr (.inr (.inl (18, 0)))), (1, .inl x)] [] s (0, 0)) : mx_blk false scr cal mt_Md_init post ex q (n + 2) true cd_Md_init (mx_args 0 [.inr (.inr (.inl (18, 0))), .inl x]) [] s (0, 0) := h
def mx_rl_Z : List (Nat × Nat × Nat × Option Nat) := (18, 0, 27, some 0) :: (18, 0, 26, some 0) :: (18, 0, 25, some 0) :: (18, 0, 24, some 0) :: (18, 0, 23, some 0) :: (18, 0, 22, some 0) :: (18, 0, 20, some 0) :: (18, 0, 16, some 0) :: (18, 0, 15, some 0) :: (18, 0, 13, some 0) :: (18, 0, 12, some 0) :: (18, 0, 11, some 0) :: (18, 0, 10, some 0) :: (18, 0, 9, some 0) :: (18, 0, 8, some 0) :: (18, 0, 7, some 0) :: (18, 0, 6, some 0) :: (18, 0, 5, some 0) :: (18, 0, 4, some 0) :: mx_rlR_8
def mx_il_Z (x : Int32) : List (Nat × Nat × Nat × Int32) := (18, 0, 0, (1 + (x &&& 7))) :: mx_ilR_8 x
theorem mx_P_Md {y : Int32} (hs : s = mx_as (mx_ilR_8 y) mx_rlR_8 87) (h : post.1 (mx_as ((18, 0, 0, (1 + (x &&& 7))) :: mx_ilR_8 y) mx_rl_Z 106)) : mx_XW false scr (d + 1) 91 [.inr (.inr (.inl (18, 0))), .inl x] s post ex := by
  subst hs
  exact ⟨0, mx_M_s (mx_M_0 rfl (by decide +kernel) (mx_M_1 rfl (by decide +kernel) (mx_M_2 rfl (by decide +kernel) (mx_M_3 rfl (by decide +kernel) (mx_M_4 rfl (by decide +kernel) (mx_M_5 rfl (by decide +kernel) (mx_M_6 rfl (by decide +kernel) (mx_M_7 rfl (by decide +kernel) (mx_M_8 rfl (by decide +kernel) (mx_M_9 rfl (by decide +kernel) (mx_M_10 rfl (by decide +kernel) (mx_M_11 rfl (by decide +kernel) (mx_M_12 rfl (by decide +kernel) (mx_M_13 rfl (by decide +kernel) (mx_M_14 rfl (by decide +kernel) (mx_M_15 rfl (by decide +kernel) (mx_M_16 rfl (by decide +kernel) (mx_M_17 rfl (by decide +kernel) (mx_M_18 rfl (by decide +kernel) ((mx_M_z (n := 612) h)))))))))))))))))))))⟩
end
