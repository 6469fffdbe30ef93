section
variable {scr : mSc} {d : Nat} {s t : mSt} {G : gSt}
theorem RM_bt_fr {P : Nat → Nat → Nat → Prop} (h : RM_bt G s) (hf : mx_fr P s t) (h1 : ¬ P 18 0 19) (h2 : ∀ j, ¬ P 31 0 j) : RM_bt G t := by
  obtain ⟨hk, ha, hr⟩ := h
  exact ⟨hk, (hf.1 _ _ _ h1).trans ha, fun i c hi q hq => (hf.1 _ _ _ (h2 _)).trans (hr i c hi q hq)⟩
theorem RM_lg_cm (hb : RM_bt G s) (hl : RM_lg G s) (hroom : (g_fl (g_lg G)).length + (g_bt G).length + 1 ≤ 120) (h14 : t.1 18 0 14 = nI ((g_ev 0 (g_lg G)).length + (g_bt G).length)) (h17 : t.1 18 0 17 = nI ((g_fl (g_lg G)).length + (g_bt G).length + 1)) (h18 : t.1 18 0 18 = nI ((g_lg G).length + 1)) (h29 : ∀ q, q < 6 * (g_ev 0 (g_lg G)).length → t.1 29 0 q = s.1 29 0 q) (h29b : ∀ q, q < 6 * (g_bt G).length → t.1 29 0 (6 * (g_ev 0 (g_lg G)).length + q) = s.1 31 0 q) (h30 : ∀ q, q < (g_ev 0 (g_lg G)).length → t.1 30 0 q = s.1 30 0 q) (h30b : ∀ q, q < (g_bt G).length → t.1 30 0 ((g_ev 0 (g_lg G)).length + q) = nI ((g_lg G).length + 1)) : RM_lg (g_cm G) t := by
  have e1 : g_fl (g_lg (g_cm G)) = g_fl (g_lg G) ++ g_fb (g_bt G) := g_fl_a
  have e2 : g_ev 0 (g_lg (g_cm G)) = g_ev 0 (g_lg G) ++ (g_bt G).map (fun c => (c, 0 + (g_lg G).length + 1)) := g_ev_a
  refine ⟨by rw [e1, List.length_append, g_fb_len]; omega, by rw [e2, List.length_append, List.length_map]; exact h14, by rw [e1, List.length_append, g_fb_len]; exact h17, ?_, fun k e he => ?_⟩
  · show _ = nI (g_lg G ++ [g_bt G]).length
    rw [g_len1]
    exact h18
  · rw [e2] at he
    by_cases hk : k < (g_ev 0 (g_lg G)).length
    · rw [List.getElem?_append_left hk] at he
      obtain ⟨q1, q2⟩ := hl.2.2.2.2 k e he
      exact ⟨by rw [h30 k hk]; exact q1, fun q hq => by rw [h29 _ (by omega)]; exact q2 q hq⟩
    · rw [List.getElem?_append_right (by omega)] at he
      obtain ⟨i, rfl⟩ : ∃ i, k = (g_ev 0 (g_lg G)).length + i := ⟨k - (g_ev 0 (g_lg G)).length, by omega⟩
      rw [show (g_ev 0 (g_lg G)).length + i - (g_ev 0 (g_lg G)).length = i by omega, List.getElem?_map] at he
      cases h7 : (g_bt G)[i]? with
      | none =>
        rw [h7] at he
        cases he
      | some c =>
        rw [h7] at he
        cases he
        have hi := g_len_get h7
        refine ⟨?_, fun q hq => ?_⟩
        · show _ = nI (0 + (g_lg G).length + 1)
          rw [h30b i hi, Nat.zero_add]
        · rw [show 6 * ((g_ev 0 (g_lg G)).length + i) + q = 6 * (g_ev 0 (g_lg G)).length + (6 * i + q) by omega, h29b _ (by omega)]
          exact hb.2.2 i c h7 q hq
set_option maxHeartbeats 4000000 in
theorem S_Md_commit {post : Int32 → mSt → Prop} {a1 : Int32} (hb : RM_bt G s) (hl : RM_lg G s)
    (hno : ∀ t, g_bt G = [] ∨ 120 < (g_fl (g_lg G)).length + (g_bt G).length + 1 → RM_bt G t → RM_lg G t → t.1 18 0 1 = 1 → mx_fr F_mm s t → post 0 t)
    (hcut : ∀ w t, w < (g_bt G).length + 1 → a1 = nI w → ¬ g_bt G = [] → (g_fl (g_lg G)).length + (g_bt G).length + 1 ≤ 120 → RM_bt (g_wB G []) t → RM_lg (g_wB G []) t → t.1 18 0 1 = 0 → mx_fr F_mm s t → post (-1) t)
    (hyes : ∀ t, (a1 < 0 ∨ nI ((g_bt G).length + 1) ≤ a1) → ¬ g_bt G = [] → (g_fl (g_lg G)).length + (g_bt G).length + 1 ≤ 120 → RM_bt (g_cm G) t → RM_lg (g_cm G) t → t.1 18 0 1 = 0 → mx_fr F_mm s t → post (nI ((g_lg G).length + 1)) t) : X_Md_commit scr (d + 1) s a1 post := by
  have hnil : (g_bt G).length = 0 → g_bt G = [] := List.eq_nil_of_length_eq_zero
  refine w_Md_commit ⟨(g_bt G).length + 1 + 6 * (g_bt G).length + 1, fun s1 e1 => ?_⟩
  have f1 : mx_fr (fun f _ j => f = 18 ∧ j = 1) s s1 := by
    rw [e1]
    exact mx_fr.si ⟨rfl, rfl⟩
  have f1m : mx_fr F_mm s s1 := f1.mono (fun f i j h => Or.inl ⟨h.1, Or.inl h.2⟩)
  have z1 : s1.1 18 0 1 = 0 := by
    rw [e1]
    exact mx_si_s
  have hb1 : RM_bt G s1 := RM_bt_fr hb f1 (by omega) (fun j => by omega)
  have hl1 : RM_lg G s1 := RM_lg_fr hl f1 (by omega) (by omega) (by omega) (fun j => by omega) (fun j => by omega)
  have no : ∀ s2, s2 = mx_si s1 18 0 1 1 → g_bt G = [] ∨ 120 < (g_fl (g_lg G)).length + (g_bt G).length + 1 → post 0 s2 := fun s2 e2 hc => by
    have f2 : mx_fr (fun f _ j => f = 18 ∧ j = 1) s1 s2 := by
      rw [e2]
      exact mx_fr.si ⟨rfl, rfl⟩
    exact hno s2 hc (RM_bt_fr hb1 f2 (by omega) (fun j => by omega)) (RM_lg_fr hl1 f2 (by omega) (by omega) (by omega) (fun j => by omega) (fun j => by omega)) (by rw [e2]; exact mx_si_s) (f1m.tr (f2.mono (fun f i j h => Or.inl ⟨h.1, Or.inl h.2⟩)))
  have hb1' := hb1
  have hl1' := hl1
  obtain ⟨⟨hb5, hbk⟩, hbc, hbr⟩ := hb1
  obtain ⟨hk, h14, h17, h18, hr⟩ := hl1
  have hel := g_ev_len (l := g_lg G) (n := 0)
  have hdue : s1.1 18 0 19 + (1 : Int32) = nI ((g_bt G).length + 1) := by
    rw [hbc]
    exact nI_1 _
  refine pk_eq (g_bt G).length 0 (fun h0 s2 e2 => no s2 e2 (Or.inl (hnil h0))) (fun h0 => ?_) hbc rfl
  have hbn : ¬ g_bt G = [] := fun h => h0 (by rw [h]; rfl)
  rw [hdue, h17, nI_add]
  refine pk_le ((g_fl (g_lg G)).length + ((g_bt G).length + 1)) 120 (fun hroom => ?_) (fun hroom s2 e2 => no s2 e2 (Or.inr (by omega)))
  have hroom : (g_fl (g_lg G)).length + (g_bt G).length + 1 ≤ 120 := by omega
  have main : (a1 < 0 ∨ nI ((g_bt G).length + 1) ≤ a1) → ∀ s3, s3 = mx_si s1 18 0 18 (s1.1 18 0 18 + 1) → r_Md_commit_65 scr d a1 post (fun _ _ => False) ((g_bt G).length + 1 + 6 * (g_bt G).length + 1) s3 (nI ((g_bt G).length + 1)) 0 := by
    intro hc s3 e3
    have v3 : ∀ f i j, s3.1 f i j = if f = 18 ∧ i = 0 ∧ j = 18 then s1.1 18 0 18 + 1 else s1.1 f i j := fun f i j => by
      rw [e3]
      rfl
    have c19 : s3.1 18 0 19 = nI (g_bt G).length := by
      rw [v3, if_neg (by omega)]
      exact hbc
    have c14 : s3.1 18 0 14 = nI (g_ev 0 (g_lg G)).length := by
      rw [v3, if_neg (by omega)]
      exact h14
    have c18 : s3.1 18 0 18 = nI ((g_lg G).length + 1) := by
      rw [v3, if_pos ⟨rfl, rfl, rfl⟩, h18]
      exact nI_1 _
    refine S_Mcommit_65 (ch := (g_ev 0 (g_lg G)).length) hb5 (by omega) (6 * (g_bt G).length) 0 s3 (by omega) c19 c14 (fun t4 g1 g2 g3 => ?_)
    have t19 : t4.1 18 0 19 = nI (g_bt G).length := (g1.1 _ _ _ (by omega)).trans c19
    have t14 : t4.1 18 0 14 = nI (g_ev 0 (g_lg G)).length := (g1.1 _ _ _ (by omega)).trans c14
    refine S_Mcommit_104 hb5 (by omega) (g_bt G).length 0 t4 (by omega) t19 t14 (fun t5 p1 p2 p3 => ?_)
    have u : ∀ j, t5.1 18 0 j = s3.1 18 0 j := fun j => (p1.1 _ _ _ (by omega)).trans (g1.1 _ _ _ (by omega))
    refine w_Md_commit_104 (pk_le (g_bt G).length (g_bt G).length (fun _ t6 e6 t7 e7 t8 e8 => ?_) (fun h => by omega) ((u 19).trans c19))
    have v8 : ∀ f i j, t8.1 f i j = if f = 18 ∧ i = 0 ∧ j = 19 then 0 else if f = 18 ∧ i = 0 ∧ j = 17 then t6.1 18 0 17 + nI ((g_bt G).length + 1) else if f = 18 ∧ i = 0 ∧ j = 14 then t5.1 18 0 14 + t5.1 18 0 19 else t5.1 f i j := fun f i j => by
      rw [e8, e7, e6]
      rfl
    have w17 : t6.1 18 0 17 = nI (g_fl (g_lg G)).length := by
      rw [e6, mx_si_n (by omega), u, v3, if_neg (by omega)]
      exact h17
    have w18 : t8.1 18 0 18 = nI ((g_lg G).length + 1) := by
      rw [v8, if_neg (by omega), if_neg (by omega), if_neg (by omega), u]
      exact c18
    rw [w18]
    refine hyes t8 hc hbn hroom (RM_bt_nil (by rw [v8, if_pos ⟨rfl, rfl, rfl⟩]) rfl) (RM_lg_cm (s := s1) hb1' hl1' hroom ?_ ?_ w18 (fun q hq => ?_) (fun q hq => ?_) (fun q hq => ?_) (fun q hq => ?_)) ?_ ?_
    · rw [v8, if_neg (by omega), if_neg (by omega), if_pos ⟨rfl, rfl, rfl⟩, u, u, c14, c19, nI_add]
    · rw [v8, if_neg (by omega), if_pos ⟨rfl, rfl, rfl⟩, w17, nI_add]
      rfl
    · rw [v8, if_neg (by omega), if_neg (by omega), if_neg (by omega), p1.1 29 0 q (by omega), g3 q (by omega), v3, if_neg (by omega)]
    · rw [v8, if_neg (by omega), if_neg (by omega), if_neg (by omega), p1.1 29 0 _ (by omega), g2 q (by omega) hq, v3, if_neg (by omega)]
    · rw [v8, if_neg (by omega), if_neg (by omega), if_neg (by omega), p3 q (by omega), g1.1 30 0 q (by omega), v3, if_neg (by omega)]
    · rw [v8, if_neg (by omega), if_neg (by omega), if_neg (by omega), p2 q (by omega) hq, g1.1 18 0 18 (by omega)]
      exact c18
    · rw [v8, if_neg (by omega), if_neg (by omega), if_neg (by omega), u, v3, if_neg (by omega)]
      exact z1
    · refine f1m.tr (mx_fr.tr (t := s3) ?_ (mx_fr.tr (g1.mono (fun f i j h => Or.inr (Or.inl h))) (mx_fr.tr (p1.mono (fun f i j h => Or.inr (Or.inr h))) ?_)))
      · rw [e3]
        exact mx_fr.si (Or.inl ⟨rfl, by omega⟩)
      · rw [e8, e7, e6]
        exact mx_fr.tr (mx_fr.tr (mx_fr.si (Or.inl ⟨rfl, by omega⟩)) (mx_fr.si (Or.inl ⟨rfl, by omega⟩))) (mx_fr.si (Or.inl ⟨rfl, by omega⟩))
  refine ⟨fun h => main (Or.inl h), fun hc0 => ⟨fun h => main (Or.inr h), fun hc1 s5 e5 => ?_⟩⟩
  obtain ⟨w, hw, rfl⟩ := nI_of hc0
  have hwd : w < (g_bt G).length + 1 := Nat.lt_of_not_le fun h => hc1 (nI_le h hw)
  have f5 : mx_fr (fun f _ j => f = 18 ∧ j = 19) s1 s5 := by
    rw [e5]
    exact mx_fr.si ⟨rfl, rfl⟩
  exact hcut w s5 hwd rfl hbn hroom (RM_bt_nil (by rw [e5]; exact mx_si_s) rfl) (RM_lg_fr (G := g_wB G []) hl1' f5 (by omega) (by omega) (by omega) (fun j => by omega) (fun j => by omega)) ((f5.1 _ _ _ (by omega)).trans z1) (f1m.tr (f5.mono (fun f i j h => Or.inl ⟨h.1, by omega⟩)))
end
