def g_typ (r : gRl) (c : Int32) : gRl := (r.1, r.2.1, r.2.2.1, r.2.2.2.1, r.2.2.2.2 ++ [c])
theorem g_snoc {α : Type} : ∀ l : List α, l = [] ∨ ∃ L b, l = L ++ [b]
  | [] => Or.inl rfl
  | a :: l => by
    rcases g_snoc l with rfl | ⟨L, b, rfl⟩
    · exact Or.inr ⟨[], a, rfl⟩
    · exact Or.inr ⟨a :: L, b, rfl⟩
theorem g_typ_ok {r : gRl} {c : Int32} (h : g_okR r) (hl : r.2.2.2.2.length < 24) (hc : vp_nar .char c = c) : g_okR (g_typ r c) := by
  refine ⟨h.1, h.2.1, ?_, fun x hx => ?_⟩
  · show (r.2.2.2.2 ++ [c]).length ≤ 24
    simp
    omega
  · rcases List.mem_append.mp (show x ∈ r.2.2.2.2 ++ [c] from hx) with h9 | h9
    · exact h.2.2.2 x h9
    · obtain rfl := List.mem_singleton.mp h9
      exact hc
theorem g_len1 {α : Type} {l : List α} {b : α} : (l ++ [b]).length = l.length + 1 := by simp
theorem g_last {α : Type} {l : List α} {b : α} : (l ++ [b])[l.length]? = some b := by simp
section
variable {scr : mSc} {d : Nat} {s : mSt} {G : gSt}
set_option maxHeartbeats 4000000 in
theorem S_Cf_append {post : Int32 → mSt → Prop} {a1 : Int32} (h : RC_cf G s) (hch : vp_nar .char a1 = a1) (hn : g_ac G = true ∨ g_rs G = [] ∨ (∃ l r, g_rs G = l ++ [r] ∧ 24 ≤ r.2.2.2.2.length) → mx_nr .boolean 0 ∧ post 0 s)
    (hy : ∀ l r t, g_ac G = false → g_rs G = l ++ [r] → r.2.2.2.2.length < 24 → RC_cf (g_wR G (l ++ [g_typ r a1])) t → mx_fr F_cf s t → mx_nr .boolean 1 ∧ post 1 t) : X_Cf_append scr (d + 1) s a1 post := by
  obtain ⟨⟨hl, hk⟩, hc, ha, hr, hz⟩ := h
  refine w_Cf_append (g_ac0 ha (fun hac => ?_) (fun hac => hn (Or.inl hac)))
  rcases g_snoc (g_rs G) with he | ⟨l, r, he⟩
  · rw [he] at hc
    exact pk_eq 0 0 (fun _ => hn (Or.inr (Or.inl he))) (fun h => absurd rfl h) hc rfl
  rw [he] at hc hl hk hr hz
  rw [g_len1] at hc hl
  have hn1 : s.1 1 0 1 - (1 : Int32) = nI l.length := by
    rw [hc]
    exact nI_pred _
  refine pk_eq (l.length + 1) 0 (fun h => by omega) (fun _ => ?_) hc rfl
  rw [hn1]
  refine ⟨pk_in l.length 9 (by omega), ?_⟩
  rw [pk_cl l.length]
  obtain ⟨q0, q1, q2, q3, q5, q6⟩ := hr l.length r g_last
  have hok := hk r (List.mem_append_right _ List.mem_cons_self)
  have hlen := hok.2.2.1
  refine pk_lt r.2.2.2.2.length 24 (fun h24 => ?_) (fun h24 => hn (Or.inr (Or.inr ⟨l, r, he, h24⟩))) q5 rfl
  rw [q5]
  refine ⟨pk_in r.2.2.2.2.length 24 h24, ?_⟩
  rw [pk_cl r.2.2.2.2.length]
  intro s1 e1 s2 e2
  have c1 : s1.1 5 l.length 5 = nI r.2.2.2.2.length := by rw [e1, mx_si_n (by omega)]; exact q5
  rw [c1] at e2
  have hv : ∀ f i j, s2.1 f i j = if f = 5 ∧ i = l.length ∧ j = 5 then nI r.2.2.2.2.length + 1 else if f = 6 ∧ i = l.length ∧ j = r.2.2.2.2.length then vp_nar .char a1 else s.1 f i j := fun f i j => by
    rw [e2, e1]
    rfl
  refine hy l r s2 hac he h24 ⟨⟨?_, ?_⟩, ?_, ?_, ?_, ?_⟩ ?_
  · show (l ++ [_]).length ≤ 9
    rw [g_len1]
    omega
  · intro r' hr9
    rcases List.mem_append.mp (show r' ∈ l ++ [_] from hr9) with h | h
    · exact hk r' (List.mem_append_left _ h)
    · obtain rfl := List.mem_singleton.mp h
      exact g_typ_ok hok h24 hch
  · show _ = nI (l ++ [_]).length
    rw [hv, if_neg (by omega), if_neg (by omega), g_len1]
    exact hc
  · rw [hv, if_neg (by omega), if_neg (by omega)]
    exact ha
  · intro i r' hir
    rcases g_app_get (show (l ++ [_])[i]? = some r' from hir) with ⟨hi, hir⟩ | ⟨rfl, rfl⟩
    · obtain ⟨p0, p1, p2, p3, p5, p6⟩ := hr i r' (by rw [List.getElem?_append_left hi]; exact hir)
      have hv5 : ∀ f j, s2.1 f i j = s.1 f i j := fun f j => by rw [hv, if_neg (by omega), if_neg (by omega)]
      exact ⟨by rw [hv5]; exact p0, by rw [hv5]; exact p1, by rw [hv5]; exact p2, by rw [hv5]; exact p3, by rw [hv5]; exact p5, fun j c h => by rw [hv5]; exact p6 j c h⟩
    · refine ⟨?_, ?_, ?_, ?_, ?_, fun j c h => ?_⟩
      · rw [hv, if_neg (by omega), if_neg (by omega)]
        exact q0
      · rw [hv, if_neg (by omega), if_neg (by omega)]
        exact q1
      · rw [hv, if_neg (by omega), if_neg (by omega)]
        exact q2
      · rw [hv, if_neg (by omega), if_neg (by omega)]
        exact q3
      · show _ = nI (r.2.2.2.2 ++ [a1]).length
        rw [hv, if_pos ⟨rfl, rfl, rfl⟩, g_len1]
        exact nI_1 _
      · rcases g_app_get (show (r.2.2.2.2 ++ [a1])[j]? = some c from h) with ⟨hj, hjc⟩ | ⟨rfl, rfl⟩
        · rw [hv, if_neg (by omega), if_neg (by omega)]
          exact q6 j c hjc
        · rw [hv, if_neg (by omega), if_pos ⟨rfl, rfl, rfl⟩]
          exact hch
  · intro i hi h99
    have hi : l.length + 1 ≤ i := by
      have h8 : (l ++ [_]).length ≤ i := hi
      rw [g_len1] at h8
      exact h8
    rw [hv, if_neg (by omega), if_neg (by omega)]
    exact hz i (by rw [g_len1]; omega) h99
  · rw [e2, e1]
    exact mx_fr.tr (mx_fr.si (Or.inr (Or.inr rfl))) (mx_fr.si (Or.inr (Or.inl rfl)))
theorem S_Rs_type {post : Int32 → mSt → Prop} {a1 : Int32} (h : RC_cf G s) (hch : vp_nar .char a1 = a1) (hn : g_ac G = true ∨ g_rs G = [] ∨ (∃ l r, g_rs G = l ++ [r] ∧ 24 ≤ r.2.2.2.2.length) → post 0 s)
    (hy : ∀ l r t, g_ac G = false → g_rs G = l ++ [r] → r.2.2.2.2.length < 24 → RC_cf (g_wR G (l ++ [g_typ r a1])) t → mx_fr F_cf s t → post 1 t) : X_Rs_type scr (d + 2) s a1 post := w_Rs_type (S_Cf_append h hch (fun h => ⟨rfl, rfl, hn h⟩) (fun l r t h1 h2 h3 h4 h5 => ⟨rfl, rfl, hy l r t h1 h2 h3 h4 h5⟩))
set_option maxHeartbeats 4000000 in
theorem S_Md_type {post : Int32 → mSt → Prop} {a1 : Int32} (h : RM_cf G s) (hch : vp_nar .char a1 = a1) (hn : ∀ t, g_ac G = true ∨ g_rs G = [] ∨ (∃ l r, g_rs G = l ++ [r] ∧ 24 ≤ r.2.2.2.2.length) → RM_cf G t → t.1 18 0 1 = 0 → mx_fr F_mc s t → post 0 t)
    (hy : ∀ l r t, g_ac G = false → g_rs G = l ++ [r] → r.2.2.2.2.length < 24 → RM_cf (g_wR G (l ++ [g_typ r a1])) t → t.1 18 0 1 = 0 → mx_fr F_mc s t → post 1 t) : X_Md_type scr (d + 1) s a1 post := by
  refine w_Md_type (fun s1 e1 => ?_)
  have h1 : RM_cf G s1 := by
    rw [e1]
    exact RM_code h
  have f1 : mx_fr F_mc s s1 := by
    rw [e1]
    exact mx_fr.si (Or.inl ⟨rfl, Or.inl rfl⟩)
  have z1 : s1.1 18 0 1 = 0 := by
    rw [e1]
    exact mx_si_s
  have hn := fun hc => hn s1 hc h1 z1 f1
  clear h
  obtain ⟨⟨hl, hk⟩, hc, ha, hr⟩ := h1
  rcases g_snoc (g_rs G) with he | ⟨l, r, he⟩
  · rw [he] at hc
    rw [hc]
    exact ⟨fun _ => ⟨rfl, hn (Or.inr (Or.inl he))⟩, fun h => absurd (by decide) h⟩
  rw [he] at hc hl hk hr
  rw [g_len1] at hc hl
  have hn1 : s1.1 18 0 2 - (1 : Int32) = nI l.length := by
    rw [hc]
    exact nI_pred _
  rw [hn1]
  refine ⟨fun h => absurd h (nI_pos (by omega)), fun _ => g_ac0 ha (fun hac => ?_) (fun hac => ⟨rfl, hn (Or.inl hac)⟩)⟩
  refine ⟨pk_in l.length 9 (by omega), ?_⟩
  rw [pk_cl l.length]
  obtain ⟨q0, q1, q2, q3, q4, q5⟩ := hr l.length r g_last
  have hok := hk r (List.mem_append_right _ List.mem_cons_self)
  have hlen := hok.2.2.1
  refine pk_eq r.2.2.2.2.length 24 (fun h24 => ⟨rfl, hn (Or.inr (Or.inr ⟨l, r, he, by omega⟩))⟩) (fun h24 => ?_) q4 rfl
  rw [q4, show (24 : Int32) * nI l.length = nI (24 * l.length) from pk_mul 24 _, nI_add]
  refine ⟨pk_in l.length 9 (by omega), pk_in (24 * l.length + r.2.2.2.2.length) 216 (by omega), ?_⟩
  rw [pk_cl (24 * l.length + r.2.2.2.2.length)]
  intro s2 e2
  refine ⟨pk_in l.length 9 (by omega), pk_in l.length 9 (by omega), ?_⟩
  intro s3 e3
  have c2 : s2.1 24 0 l.length = nI r.2.2.2.2.length := by rw [e2, mx_si_n (by omega)]; exact q4
  rw [c2] at e3
  have hv : ∀ f i j, s3.1 f i j = if f = 24 ∧ i = 0 ∧ j = l.length then nI r.2.2.2.2.length + 1 else if f = 23 ∧ i = 0 ∧ j = 24 * l.length + r.2.2.2.2.length then a1 else s1.1 f i j := fun f i j => by
    rw [e3, e2]
    rfl
  have h24 : r.2.2.2.2.length < 24 := by omega
  refine ⟨rfl, hy l r s3 hac he h24 ⟨⟨?_, ?_⟩, ?_, ?_, ?_⟩ ?_ ?_⟩
  · show (l ++ [_]).length ≤ 9
    rw [g_len1]
    omega
  · intro r' hr9
    rcases List.mem_append.mp (show r' ∈ l ++ [_] from hr9) with h | h
    · exact hk r' (List.mem_append_left _ h)
    · obtain rfl := List.mem_singleton.mp h
      exact g_typ_ok hok h24 hch
  · show _ = nI (l ++ [_]).length
    rw [hv, if_neg (by omega), if_neg (by omega), g_len1]
    exact hc
  · rw [hv, if_neg (by omega), if_neg (by omega)]
    exact ha
  · intro i r' hir
    rcases g_app_get (show (l ++ [_])[i]? = some r' from hir) with ⟨hi, hir⟩ | ⟨rfl, rfl⟩
    · obtain ⟨p0, p1, p2, p3, p4, p5⟩ := hr i r' (by rw [List.getElem?_append_left hi]; exact hir)
      have hlr := (hk r' (List.mem_append_left _ (List.mem_of_getElem? hir))).2.2.1
      have hv5 : ∀ f, ¬ f = 23 → s3.1 f 0 i = s1.1 f 0 i := fun f hf => by rw [hv, if_neg (by omega), if_neg (by omega)]
      exact ⟨by rw [hv5 _ (by omega)]; exact p0, by rw [hv5 _ (by omega)]; exact p1, by rw [hv5 _ (by omega)]; exact p2, by rw [hv5 _ (by omega)]; exact p3, by rw [hv5 _ (by omega)]; exact p4, fun j c h => by
        have hj := g_len_get h
        rw [hv, if_neg (by omega), if_neg (by omega)]
        exact p5 j c h⟩
    · refine ⟨?_, ?_, ?_, ?_, ?_, fun j c h => ?_⟩
      · rw [hv, if_neg (by omega), if_neg (by omega)]
        exact q0
      · rw [hv, if_neg (by omega), if_neg (by omega)]
        exact q1
      · rw [hv, if_neg (by omega), if_neg (by omega)]
        exact q2
      · rw [hv, if_neg (by omega), if_neg (by omega)]
        exact q3
      · show _ = nI (r.2.2.2.2 ++ [a1]).length
        rw [hv, if_pos ⟨rfl, rfl, rfl⟩, g_len1]
        exact nI_1 _
      · rcases g_app_get (show (r.2.2.2.2 ++ [a1])[j]? = some c from h) with ⟨hj, hjc⟩ | ⟨rfl, rfl⟩
        · rw [hv, if_neg (by omega), if_neg (by omega)]
          exact q5 j c hjc
        · rw [hv, if_neg (by omega), if_pos ⟨rfl, rfl, rfl⟩]
  · rw [hv, if_neg (by omega), if_neg (by omega)]
    exact z1
  · refine mx_fr.tr f1 ?_
    rw [e3, e2]
    exact mx_fr.tr (mx_fr.si (Or.inr ⟨by omega, by omega⟩)) (mx_fr.si (Or.inr ⟨by omega, by omega⟩))
end
