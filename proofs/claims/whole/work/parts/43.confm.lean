def RM_r (s : mSt) (i : Nat) (r : gRl) : Prop := s.1 19 0 i = nI r.1 ∧ s.1 20 0 i = r.2.1 ∧ s.1 21 0 i = r.2.2.1 ∧ s.1 22 0 i = r.2.2.2.1 ∧ s.1 24 0 i = nI r.2.2.2.2.length ∧ ∀ j c, r.2.2.2.2[j]? = some c → s.1 23 0 (24 * i + j) = c
def RM_cf (G : gSt) (s : mSt) : Prop := ((g_rs G).length ≤ 9 ∧ ∀ r ∈ g_rs G, g_okR r) ∧ s.1 18 0 2 = nI (g_rs G).length ∧ s.1 18 0 3 = (if g_ac G = true then 1 else 0) ∧ ∀ i r, (g_rs G)[i]? = some r → RM_r s i r
def F_mc (f _ j : Nat) : Prop := (f = 18 ∧ (j = 1 ∨ j = 2 ∨ j = 3)) ∨ (19 ≤ f ∧ f ≤ 24)
theorem g_lt3 {x : Int32} (h : ¬ x ≤ 2) : ¬ x < 3 := by
  intro h9
  apply h
  have h1 := Int32.lt_iff_toInt_lt.mp h9
  apply Int32.le_iff_toInt_le.mpr
  have e3 : (3 : Int32).toInt = 3 := by decide
  have e2 : (2 : Int32).toInt = 2 := by decide
  omega
theorem g_bnar {x : Int32} (h : x = 0 ∨ x = 1) : vp_nar .boolean x = x := by
  rcases h with rfl | rfl <;> rfl
section
variable {scr : mSc} {d : Nat} {s : mSt} {G : gSt}
theorem RM_code {v : Int32} (h : RM_cf G s) : RM_cf G (mx_si s 18 0 1 v) := by
  obtain ⟨hk, hc, ha, hr⟩ := h
  refine ⟨hk, (mx_si_n (by omega)).trans hc, (mx_si_n (by omega)).trans ha, fun i r hi => ?_⟩
  obtain ⟨q0, q1, q2, q3, q4, q5⟩ := hr i r hi
  exact ⟨(mx_si_n (by omega)).trans q0, (mx_si_n (by omega)).trans q1, (mx_si_n (by omega)).trans q2, (mx_si_n (by omega)).trans q3, (mx_si_n (by omega)).trans q4, fun j c h => (mx_si_n (by omega)).trans (q5 j c h)⟩
set_option maxHeartbeats 4000000 in
theorem S_Md_relation {post : Int32 → mSt → Prop} {a1 a2 a3 a4 : Int32} (h : RM_cf G s) (ha2 : a2 = 0 ∨ a2 = 1) (hn : ∀ t, g_ac G = true ∨ 9 ≤ (g_rs G).length ∨ a1 < 0 ∨ ¬ a1 < 3 → RM_cf G t → t.1 18 0 1 = 0 → mx_fr F_mc s t → post (-1) t)
    (hy : ∀ n t, g_ac G = false → (g_rs G).length < 9 → n < 3 → a1 = nI n → RM_cf (g_wR G (g_rs G ++ [(n, a2, a3, a4, [])])) t → t.1 18 0 1 = 0 → mx_fr F_mc s t → post (nI (g_rs G).length) t) : X_Md_relation scr (d + 1) s a1 a2 a3 a4 post := by
  refine w_Md_relation (fun s1 e1 => ?_)
  have h1 : RM_cf G s1 := by
    rw [e1]
    exact RM_code h
  have f1 : mx_fr F_mc s s1 := by
    rw [e1]
    exact mx_fr.si (Or.inl ⟨rfl, Or.inl rfl⟩)
  have z1 : s1.1 18 0 1 = 0 := by
    rw [e1]
    exact mx_si_s
  have hn := fun hc => hn s1 hc h1 z1 f1
  clear h
  obtain ⟨⟨hl, hk⟩, hc, ha, hr⟩ := h1
  refine g_ac0 ha (fun hac => pk_eq (g_rs G).length 9 (fun h9 => hn (Or.inr (Or.inl (by omega)))) (fun h9 => ⟨fun h0 => hn (Or.inr (Or.inr (Or.inl h0))), fun h0 => ⟨fun h3 => ?_, fun h3 => hn (Or.inr (Or.inr (Or.inr (g_lt3 h3))))⟩⟩) hc rfl) (fun hac => hn (Or.inl hac))
  have h9 : (g_rs G).length < 9 := by omega
  obtain ⟨n, hn2, rfl⟩ := nI_of h0
  have hn3 : n < 3 := by
    refine Nat.lt_of_not_le fun h8 => ?_
    exact nI_ge (a := 2) (b := n) (by omega) hn2 h3
  rw [hc]
  refine ⟨pk_in (g_rs G).length 9 h9, ?_⟩
  rw [pk_cl (g_rs G).length]
  intro s2 e2
  have c2 : s2.1 18 0 2 = nI (g_rs G).length := by rw [e2, mx_si_n (by omega)]; exact hc
  rw [c2]
  refine ⟨pk_in (g_rs G).length 9 h9, ?_⟩
  rw [pk_cl (g_rs G).length]
  intro s3 e3
  have c3 : s3.1 18 0 2 = nI (g_rs G).length := by rw [e3, mx_si_n (by omega)]; exact c2
  rw [c3]
  refine ⟨pk_in (g_rs G).length 9 h9, ?_⟩
  rw [pk_cl (g_rs G).length]
  intro s4 e4
  have c4 : s4.1 18 0 2 = nI (g_rs G).length := by rw [e4, mx_si_n (by omega)]; exact c3
  rw [c4]
  refine ⟨pk_in (g_rs G).length 9 h9, ?_⟩
  rw [pk_cl (g_rs G).length]
  intro s5 e5
  have c5 : s5.1 18 0 2 = nI (g_rs G).length := by rw [e5, mx_si_n (by omega)]; exact c4
  rw [c5]
  refine ⟨pk_in (g_rs G).length 9 h9, ?_⟩
  rw [pk_cl (g_rs G).length]
  intro s6 e6 s7 e7
  have c6 : s6.1 18 0 2 = nI (g_rs G).length := by rw [e6, mx_si_n (by omega)]; exact c5
  have c7 : s7.1 18 0 2 = nI ((g_rs G).length + 1) := by
    rw [e7, c6]
    exact mx_si_s.trans (nI_1 _)
  rw [c7, nI_pred]
  have hv : ∀ f i j, s7.1 f i j = if f = 18 ∧ i = 0 ∧ j = 2 then s6.1 18 0 2 + 1 else if f = 24 ∧ i = 0 ∧ j = (g_rs G).length then 0 else if f = 22 ∧ i = 0 ∧ j = (g_rs G).length then a4 else if f = 21 ∧ i = 0 ∧ j = (g_rs G).length then a3 else if f = 20 ∧ i = 0 ∧ j = (g_rs G).length then vp_nar .boolean a2 else if f = 19 ∧ i = 0 ∧ j = (g_rs G).length then nI n else s1.1 f i j := fun f i j => by
    rw [e7, e6, e5, e4, e3, e2]
    rfl
  have hv0 : ∀ f i j, ¬ (f = 18 ∧ j = 2) → (19 ≤ f → ¬ j = (g_rs G).length ∨ f = 23 ∨ 25 ≤ f) → s7.1 f i j = s1.1 f i j := fun f i j g1 g2 => by
    rw [hv, if_neg (by omega), if_neg (by omega), if_neg (by omega), if_neg (by omega), if_neg (by omega), if_neg (by omega)]
  refine hy n s7 hac h9 hn3 rfl ⟨⟨?_, ?_⟩, ?_, ?_, ?_⟩ ?_ ?_
  · show (g_rs G ++ [_]).length ≤ 9
    simp
    omega
  · intro r hr9
    rcases List.mem_append.mp (show r ∈ g_rs G ++ [_] from hr9) with h | h
    · exact hk r h
    · obtain rfl := List.mem_singleton.mp h
      exact ⟨hn3, ha2, Nat.zero_le _, fun c h => by cases h⟩
  · rw [c7]
    show _ = nI (g_rs G ++ [_]).length
    simp
  · rw [hv0 18 0 3 (by omega) (by omega)]
    exact ha
  · intro i r hir
    rcases g_app_get (show (g_rs G ++ [_])[i]? = some r from hir) with ⟨hi, hir⟩ | ⟨rfl, rfl⟩
    · obtain ⟨q0, q1, q2, q3, q4, q5⟩ := hr i r hir
      exact ⟨by rw [hv0 _ _ _ (by omega) (by omega)]; exact q0, by rw [hv0 _ _ _ (by omega) (by omega)]; exact q1, by rw [hv0 _ _ _ (by omega) (by omega)]; exact q2, by rw [hv0 _ _ _ (by omega) (by omega)]; exact q3, by rw [hv0 _ _ _ (by omega) (by omega)]; exact q4, fun j c h => by rw [hv0 _ _ _ (by omega) (by omega)]; exact q5 j c h⟩
    · refine ⟨?_, ?_, ?_, ?_, ?_, fun j c h => by cases h⟩
      · rw [hv]
        simp
      · rw [hv]
        simp [g_bnar ha2]
      · rw [hv]
        simp
      · rw [hv]
        simp
      · rw [hv]
        simp
        rfl
  · rw [hv0 18 0 1 (by omega) (by omega)]
    exact z1
  · refine mx_fr.tr f1 ?_
    rw [e7, e6, e5, e4, e3, e2]
    exact mx_fr.tr (mx_fr.tr (mx_fr.tr (mx_fr.tr (mx_fr.tr (mx_fr.si (Or.inr ⟨by omega, by omega⟩)) (mx_fr.si (Or.inr ⟨by omega, by omega⟩))) (mx_fr.si (Or.inr ⟨by omega, by omega⟩))) (mx_fr.si (Or.inr ⟨by omega, by omega⟩))) (mx_fr.si (Or.inr ⟨by omega, by omega⟩))) (mx_fr.si (Or.inl ⟨rfl, Or.inr (Or.inl rfl)⟩))
end
