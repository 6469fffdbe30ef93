def lw_ok0 (e : mEn) : Bool := mx_okE R_law "" code 7 e
theorem lw_ck0 : mx_cns cd_Lw_law = true := by decide +kernel
theorem lw_ck1 : mx_cns (cd_Lw_law.take 20) = true := by decide +kernel
theorem lw_ck2_0 : ((cd_Lw_law.drop 0).take 30).all lw_ok0 = true := by decide +kernel
theorem lw_ck2_1 : ((cd_Lw_law.drop 30).take 30).all lw_ok0 = true := by decide +kernel
theorem lw_ck2_2 : ((cd_Lw_law.drop 60).take 30).all lw_ok0 = true := by decide +kernel
theorem lw_ck2_3 : ((cd_Lw_law.drop 90).take 30).all lw_ok0 = true := by decide +kernel
theorem lw_ck2_4 : ((cd_Lw_law.drop 120).take 30).all lw_ok0 = true := by decide +kernel
theorem lw_ck2_5 : ((cd_Lw_law.drop 150).take 30).all lw_ok0 = true := by decide +kernel
theorem lw_ck2_6 : ((cd_Lw_law.drop 180).take 30).all lw_ok0 = true := by decide +kernel
theorem lw_ck2_7 : ((cd_Lw_law.drop 210).take 30).all lw_ok0 = true := by decide +kernel
theorem lw_ck2_8 : ((cd_Lw_law.drop 240).take 30).all lw_ok0 = true := by decide +kernel
theorem lw_ck2_9 : ((cd_Lw_law.drop 270).take 30).all lw_ok0 = true := by decide +kernel
theorem lw_ck2_10 : ((cd_Lw_law.drop 300).take 30).all lw_ok0 = true := by decide +kernel
theorem lw_ck2_11 : ((cd_Lw_law.drop 330).take 30).all lw_ok0 = true := by decide +kernel
theorem lw_ck2_12 : ((cd_Lw_law.drop 360).take 30).all lw_ok0 = true := by decide +kernel
theorem lw_ck2_13 : ((cd_Lw_law.drop 390).take 30).all lw_ok0 = true := by decide +kernel
theorem lw_ck2_14 : ((cd_Lw_law.drop 420).take 30).all lw_ok0 = true := by decide +kernel
theorem lw_ck2_15 : ((cd_Lw_law.drop 450).take 30).all lw_ok0 = true := by decide +kernel
theorem lw_ck2_16 : ((cd_Lw_law.drop 480).take 30).all lw_ok0 = true := by decide +kernel
theorem lw_ck2_17 : ((cd_Lw_law.drop 510).take 30).all lw_ok0 = true := by decide +kernel
theorem lw_ck2_18 : ((cd_Lw_law.drop 540).take 30).all lw_ok0 = true := by decide +kernel
theorem lw_ck2_19 : ((cd_Lw_law.drop 570).take 30).all lw_ok0 = true := by decide +kernel
theorem lw_ck2_20 : ((cd_Lw_law.drop 600).take 30).all lw_ok0 = true := by decide +kernel
theorem lw_ck2_21 : ((cd_Lw_law.drop 630).take 30).all lw_ok0 = true := by decide +kernel
theorem lw_ck2_22 : ((cd_Lw_law.drop 660).take 30).all lw_ok0 = true := by decide +kernel
theorem lw_cka {P : mEn → Bool} {l : List mEn} {a K : Nat} (h : ((l.drop a).take K).all P = true) (h2 : (l.drop (a + K)).all P = true) : (l.drop a).all P = true := by
  rw [← List.take_append_drop K (l.drop a), List.all_append, h, List.drop_drop, h2]
  rfl
theorem lw_ck2z : (cd_Lw_law.drop 690).all lw_ok0 = true := by decide +kernel
theorem lw_ck2b_22 : (cd_Lw_law.drop 660).all lw_ok0 = true := lw_cka (l := cd_Lw_law) (a := 660) (K := 30) lw_ck2_22 lw_ck2z
theorem lw_ck2b_21 : (cd_Lw_law.drop 630).all lw_ok0 = true := lw_cka (l := cd_Lw_law) (a := 630) (K := 30) lw_ck2_21 lw_ck2b_22
theorem lw_ck2b_20 : (cd_Lw_law.drop 600).all lw_ok0 = true := lw_cka (l := cd_Lw_law) (a := 600) (K := 30) lw_ck2_20 lw_ck2b_21
theorem lw_ck2b_19 : (cd_Lw_law.drop 570).all lw_ok0 = true := lw_cka (l := cd_Lw_law) (a := 570) (K := 30) lw_ck2_19 lw_ck2b_20
theorem lw_ck2b_18 : (cd_Lw_law.drop 540).all lw_ok0 = true := lw_cka (l := cd_Lw_law) (a := 540) (K := 30) lw_ck2_18 lw_ck2b_19
theorem lw_ck2b_17 : (cd_Lw_law.drop 510).all lw_ok0 = true := lw_cka (l := cd_Lw_law) (a := 510) (K := 30) lw_ck2_17 lw_ck2b_18
theorem lw_ck2b_16 : (cd_Lw_law.drop 480).all lw_ok0 = true := lw_cka (l := cd_Lw_law) (a := 480) (K := 30) lw_ck2_16 lw_ck2b_17
theorem lw_ck2b_15 : (cd_Lw_law.drop 450).all lw_ok0 = true := lw_cka (l := cd_Lw_law) (a := 450) (K := 30) lw_ck2_15 lw_ck2b_16
theorem lw_ck2b_14 : (cd_Lw_law.drop 420).all lw_ok0 = true := lw_cka (l := cd_Lw_law) (a := 420) (K := 30) lw_ck2_14 lw_ck2b_15
theorem lw_ck2b_13 : (cd_Lw_law.drop 390).all lw_ok0 = true := lw_cka (l := cd_Lw_law) (a := 390) (K := 30) lw_ck2_13 lw_ck2b_14
theorem lw_ck2b_12 : (cd_Lw_law.drop 360).all lw_ok0 = true := lw_cka (l := cd_Lw_law) (a := 360) (K := 30) lw_ck2_12 lw_ck2b_13
theorem lw_ck2b_11 : (cd_Lw_law.drop 330).all lw_ok0 = true := lw_cka (l := cd_Lw_law) (a := 330) (K := 30) lw_ck2_11 lw_ck2b_12
theorem lw_ck2b_10 : (cd_Lw_law.drop 300).all lw_ok0 = true := lw_cka (l := cd_Lw_law) (a := 300) (K := 30) lw_ck2_10 lw_ck2b_11
theorem lw_ck2b_9 : (cd_Lw_law.drop 270).all lw_ok0 = true := lw_cka (l := cd_Lw_law) (a := 270) (K := 30) lw_ck2_9 lw_ck2b_10
theorem lw_ck2b_8 : (cd_Lw_law.drop 240).all lw_ok0 = true := lw_cka (l := cd_Lw_law) (a := 240) (K := 30) lw_ck2_8 lw_ck2b_9
theorem lw_ck2b_7 : (cd_Lw_law.drop 210).all lw_ok0 = true := lw_cka (l := cd_Lw_law) (a := 210) (K := 30) lw_ck2_7 lw_ck2b_8
theorem lw_ck2b_6 : (cd_Lw_law.drop 180).all lw_ok0 = true := lw_cka (l := cd_Lw_law) (a := 180) (K := 30) lw_ck2_6 lw_ck2b_7
theorem lw_ck2b_5 : (cd_Lw_law.drop 150).all lw_ok0 = true := lw_cka (l := cd_Lw_law) (a := 150) (K := 30) lw_ck2_5 lw_ck2b_6
theorem lw_ck2b_4 : (cd_Lw_law.drop 120).all lw_ok0 = true := lw_cka (l := cd_Lw_law) (a := 120) (K := 30) lw_ck2_4 lw_ck2b_5
theorem lw_ck2b_3 : (cd_Lw_law.drop 90).all lw_ok0 = true := lw_cka (l := cd_Lw_law) (a := 90) (K := 30) lw_ck2_3 lw_ck2b_4
theorem lw_ck2b_2 : (cd_Lw_law.drop 60).all lw_ok0 = true := lw_cka (l := cd_Lw_law) (a := 60) (K := 30) lw_ck2_2 lw_ck2b_3
theorem lw_ck2b_1 : (cd_Lw_law.drop 30).all lw_ok0 = true := lw_cka (l := cd_Lw_law) (a := 30) (K := 30) lw_ck2_1 lw_ck2b_2
theorem lw_ck2b_0 : (cd_Lw_law.drop 0).all lw_ok0 = true := lw_cka (l := cd_Lw_law) (a := 0) (K := 30) lw_ck2_0 lw_ck2b_1
theorem lw_ck2 : cd_Lw_law.all lw_ok0 = true := by
  have h := lw_ck2b_0
  rw [List.drop_zero] at h
  exact h
theorem lw_ck3 : cd_Lw_law.all lw_i1 = true := by decide +kernel
theorem lw_ck4 : (cd_Lw_law.take 20).all lw_i2 = true := by decide +kernel
theorem lw_ck : lw_okL := ⟨lw_ck0, lw_ck1, List.all_eq_true.mp lw_ck2, List.all_eq_true.mp lw_ck3, List.all_eq_true.mp lw_ck4⟩
