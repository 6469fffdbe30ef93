theorem mx_ckM0 : (List.range mx_nM).all mx_okM = true := by decide +kernel
theorem mx_ckX0 : (((List.range mx_nM).drop 0).take 27).all mx_okX = true := by decide +kernel
theorem mx_ckX1 : (((List.range mx_nM).drop 27).take 27).all mx_okX = true := by decide +kernel
theorem mx_ckX2 : (((List.range mx_nM).drop 54).take 27).all mx_okX = true := by decide +kernel
theorem mx_ckX3 : (((List.range mx_nM).drop 81).take 27).all mx_okX = true := by decide +kernel
theorem mx_ckX4 : (((List.range mx_nM).drop 108).take 27).all mx_okX = true := by decide +kernel
theorem mx_ck : mx_allX := by
  refine ⟨fun mi h => List.all_eq_true.mp mx_ckM0 mi (List.mem_range.mpr h), fun mi h => ?_⟩
  have fin : ∀ a, (((List.range mx_nM).drop a).take 27).all mx_okX = true → a ≤ mi → mi < a + 27 → mx_okX mi = true := fun a h1 h2 h3 => by
    refine List.all_eq_true.mp h1 mi ?_
    have e1 : (((List.range mx_nM).drop a).take 27)[mi - a]? = some mi := by
      rw [List.getElem?_take_of_lt (by omega), List.getElem?_drop, show a + (mi - a) = mi by omega, List.getElem?_range h]
    exact List.mem_of_getElem? e1
  have hn : mi < 135 := h
  by_cases g1 : mi < 27
  · exact fin 0 mx_ckX0 (by omega) (by omega)
  · by_cases g2 : mi < 54
    · exact fin 27 mx_ckX1 (by omega) (by omega)
    · by_cases g3 : mi < 81
      · exact fin 54 mx_ckX2 (by omega) (by omega)
      · by_cases g4 : mi < 108
        · exact fin 81 mx_ckX3 (by omega) (by omega)
        · exact fin 108 mx_ckX4 (by omega) (by omega)
theorem mx_ckF0 : (List.range mx_nM).all (fun mi => !mx_pu mi || (mx_puC mi && mx_oiC mi)) = true := by decide +kernel
theorem mx_ckF : mx_allF := by
  refine ⟨mx_ck.1, fun mi h hp => ⟨(mx_okX_o (mx_ck.2 mi h)).1, ?_⟩⟩
  have h1 := List.all_eq_true.mp mx_ckF0 mi (List.mem_range.mpr h)
  rw [hp] at h1
  exact Bool.and_eq_true_iff.mp h1
