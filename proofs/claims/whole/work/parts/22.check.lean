theorem mx_ckM0 : (List.range mx_nM).all mx_okM = true := by decide +kernel
theorem mx_ckC0 : (((List.range mx_nM).drop 0).take 35).all (fun mi => !(mx_pu mi) || (mx_okC mi && mx_puC mi)) = true := by decide +kernel
theorem mx_ckC1 : (((List.range mx_nM).drop 35).take 35).all (fun mi => !(mx_pu mi) || (mx_okC mi && mx_puC mi)) = true := by decide +kernel
theorem mx_ckC2 : (((List.range mx_nM).drop 70).take 35).all (fun mi => !(mx_pu mi) || (mx_okC mi && mx_puC mi)) = true := by decide +kernel
theorem mx_ckC3 : (((List.range mx_nM).drop 105).take 35).all (fun mi => !(mx_pu mi) || (mx_okC mi && mx_puC mi)) = true := by decide +kernel
theorem mx_ck : mx_all := by
  refine ⟨fun mi h => List.all_eq_true.mp mx_ckM0 mi (List.mem_range.mpr h), fun mi h hp => ?_⟩
  have fin : ∀ a, (((List.range mx_nM).drop a).take 35).all (fun mi => !(mx_pu mi) || (mx_okC mi && mx_puC mi)) = true → a ≤ mi → mi < a + 35 → mx_okC mi = true ∧ mx_puC mi = true := fun a h1 h2 h3 => by
    have h4 := List.all_eq_true.mp h1 mi (by
      have e1 : (((List.range mx_nM).drop a).take 35)[mi - a]? = some mi := by
        rw [List.getElem?_take_of_lt (by omega), List.getElem?_drop, show a + (mi - a) = mi by omega, List.getElem?_range h]
      exact List.mem_of_getElem? e1)
    rw [hp] at h4
    exact Bool.and_eq_true_iff.mp h4
  have hn : mi < 135 := h
  by_cases g1 : mi < 35
  · exact fin 0 mx_ckC0 (by omega) (by omega)
  · by_cases g2 : mi < 70
    · exact fin 35 mx_ckC1 (by omega) (by omega)
    · by_cases g3 : mi < 105
      · exact fin 70 mx_ckC2 (by omega) (by omega)
      · exact fin 105 mx_ckC3 (by omega) (by omega)
