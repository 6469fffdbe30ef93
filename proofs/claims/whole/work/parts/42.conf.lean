abbrev gCh : Type := Nat × Nat × Nat × Nat × Nat × Nat
abbrev gRl : Type := Nat × Int32 × Int32 × Int32 × List Int32
abbrev gSt : Type := Nat × List gRl × Bool × List gCh × List (List gCh)
def g_rs (G : gSt) : List gRl := G.2.1
def g_ac (G : gSt) : Bool := G.2.2.1
def g_wR (G : gSt) (l : List gRl) : gSt := (G.1, l, G.2.2)
def RC_r (s : mSt) (i : Nat) (r : gRl) : Prop := s.1 5 i 0 = nI r.1 ∧ s.1 5 i 1 = r.2.1 ∧ s.1 5 i 2 = r.2.2.1 ∧ s.1 5 i 3 = r.2.2.2.1 ∧ s.1 5 i 5 = nI r.2.2.2.2.length ∧ ∀ j c, r.2.2.2.2[j]? = some c → s.1 6 i j = c
def g_okR (r : gRl) : Prop := r.1 < 3 ∧ (r.2.1 = 0 ∨ r.2.1 = 1) ∧ r.2.2.2.2.length ≤ 24 ∧ ∀ c ∈ r.2.2.2.2, vp_nar .char c = c
def RC_cf (G : gSt) (s : mSt) : Prop := ((g_rs G).length ≤ 9 ∧ ∀ r ∈ g_rs G, g_okR r) ∧ s.1 1 0 1 = nI (g_rs G).length ∧ s.1 1 0 2 = (if g_ac G = true then 1 else 0) ∧ (∀ i r, (g_rs G)[i]? = some r → RC_r s i r) ∧ ∀ i, (g_rs G).length ≤ i → i < 9 → s.1 5 i 5 = 0
def F_cf (f _ _ : Nat) : Prop := f = 1 ∨ f = 5 ∨ f = 6
theorem g_ac0 {G : gSt} {x : Int32} {A B : Prop} (hx : x = (if g_ac G = true then 1 else 0)) (f : g_ac G = false → A) (g : g_ac G = true → B) : (x = 0 → A) ∧ (¬ x = 0 → B) := by
  cases h : g_ac G with
  | true =>
    rw [h, if_pos rfl] at hx
    subst hx
    exact ⟨fun h => absurd h (by decide), fun _ => g h⟩
  | false =>
    rw [h, if_neg (by decide)] at hx
    subst hx
    exact ⟨fun _ => f h, fun h => absurd rfl h⟩
theorem g_bn {x : Int32} (h : x = 0 ∨ x = 1) : narrow .boolean (.int x) = .int x := by
  rcases h with rfl | rfl <;> rfl
theorem g_len_get {α : Type} {l : List α} {i : Nat} {a : α} (h : l[i]? = some a) : i < l.length := (List.getElem?_eq_some_iff.mp h).1
theorem g_app_get {α : Type} {l : List α} {x a : α} {i : Nat} (h : (l ++ [x])[i]? = some a) : (i < l.length ∧ l[i]? = some a) ∨ (i = l.length ∧ a = x) := by
  have h1 := g_len_get h
  rw [List.length_append] at h1
  by_cases hi : i < l.length
  · rw [List.getElem?_append_left hi] at h
    exact Or.inl ⟨hi, h⟩
  · obtain rfl : i = l.length := by
      simp at h1
      omega
    rw [List.getElem?_append_right (Nat.le_refl _), Nat.sub_self] at h
    cases h
    exact Or.inr ⟨rfl, rfl⟩
section
variable {scr : mSc} {d : Nat} {s : mSt} {G : gSt}
set_option maxHeartbeats 4000000 in
theorem S_Cf_add {post : Int32 → mSt → Prop} {a1 a2 a3 a4 : Int32} (h : RC_cf G s) (ha2 : a2 = 0 ∨ a2 = 1) (hn : g_ac G = true ∨ 9 ≤ (g_rs G).length ∨ a1 < 0 ∨ ¬ a1 < 3 → post (-1) s)
    (hy : ∀ n t, g_ac G = false → (g_rs G).length < 9 → n < 3 → a1 = nI n → RC_cf (g_wR G (g_rs G ++ [(n, a2, a3, a4, [])])) t → mx_fr F_cf s t → post (nI (g_rs G).length) t) : X_Cf_add scr (d + 1) s a1 a2 a3 a4 post := by
  obtain ⟨⟨hl, hk⟩, hc, ha, hr, hz⟩ := h
  refine w_Cf_add (g_ac0 ha (fun hac => pk_le 9 (g_rs G).length (fun h9 => hn (Or.inr (Or.inl h9))) (fun h9 => ⟨fun h0 => hn (Or.inr (Or.inr (Or.inl h0))), fun h0 => ⟨fun h3 => ?_, fun h3 => hn (Or.inr (Or.inr (Or.inr h3)))⟩⟩) rfl hc) (fun hac => hn (Or.inl hac)))
  obtain ⟨n, hn2, rfl⟩ := nI_of h0
  have hn3 : n < 3 := by
    refine Nat.lt_of_not_le fun h8 => ?_
    exact nI_nlt h8 hn2 h3
  rw [hc]
  refine ⟨pk_in (g_rs G).length 9 h9, ?_⟩
  rw [pk_cl (g_rs G).length]
  intro s1 e1
  refine ⟨g_bn ha2, ?_⟩
  intro s2 e2 s3 e3 s4 e4 s5 e5
  have hc4 : s4.1 1 0 1 = nI (g_rs G).length := by
    rw [e4, e3, e2, e1]
    simp [mx_si, mx_u3, hc]
  have hc5 : s5.1 1 0 1 = nI ((g_rs G).length + 1) := by
    rw [e5, hc4]
    exact mx_si_s.trans (nI_1 _)
  rw [hc5, nI_pred]
  have hv : ∀ f i j, s5.1 f i j = if f = 1 ∧ i = 0 ∧ j = 1 then s4.1 1 0 1 + 1 else if f = 5 ∧ i = (g_rs G).length ∧ j = 3 then a4 else if f = 5 ∧ i = (g_rs G).length ∧ j = 2 then a3 else if f = 5 ∧ i = (g_rs G).length ∧ j = 1 then a2 else if f = 5 ∧ i = (g_rs G).length ∧ j = 0 then nI n else s.1 f i j := fun f i j => by
    rw [e5, e4, e3, e2, e1]
    rfl
  refine hy n s5 hac h9 hn3 rfl ⟨⟨?_, ?_⟩, ?_, ?_, ?_, ?_⟩ ?_
  · show (g_rs G ++ [_]).length ≤ 9
    simp
    omega
  · intro r hr9
    rcases List.mem_append.mp (show r ∈ g_rs G ++ [_] from hr9) with h | h
    · exact hk r h
    · obtain rfl := List.mem_singleton.mp h
      exact ⟨hn3, ha2, Nat.zero_le _, fun c h => by cases h⟩
  · rw [hc5]
    show _ = nI (g_rs G ++ [_]).length
    simp
  · rw [hv, if_neg (by omega), if_neg (by omega), if_neg (by omega), if_neg (by omega), if_neg (by omega)]
    exact ha
  · intro i r hir
    rcases g_app_get (show (g_rs G ++ [_])[i]? = some r from hir) with ⟨hi, hir⟩ | ⟨rfl, rfl⟩
    · obtain ⟨q0, q1, q2, q3, q5, q6⟩ := hr i r hir
      have hv5 : ∀ j, s5.1 5 i j = s.1 5 i j := fun j => by rw [hv, if_neg (by omega), if_neg (by omega), if_neg (by omega), if_neg (by omega), if_neg (by omega)]
      have hv6 : ∀ j, s5.1 6 i j = s.1 6 i j := fun j => by rw [hv, if_neg (by omega), if_neg (by omega), if_neg (by omega), if_neg (by omega), if_neg (by omega)]
      exact ⟨by rw [hv5]; exact q0, by rw [hv5]; exact q1, by rw [hv5]; exact q2, by rw [hv5]; exact q3, by rw [hv5]; exact q5, fun j c h => by rw [hv6]; exact q6 j c h⟩
    · refine ⟨?_, ?_, ?_, ?_, ?_, fun j c h => by cases h⟩
      · rw [hv]
        simp
      · rw [hv]
        simp
      · rw [hv]
        simp
      · rw [hv]
        simp
      · rw [hv, if_neg (by omega), if_neg (by omega), if_neg (by omega), if_neg (by omega), if_neg (by omega)]
        exact hz _ (Nat.le_refl _) h9
  · intro i hi h99
    have hi : (g_rs G).length + 1 ≤ i := by
      have h8 : (g_rs G ++ [_]).length ≤ i := hi
      simp at h8
      omega
    rw [hv, if_neg (by omega), if_neg (by omega), if_neg (by omega), if_neg (by omega), if_neg (by omega)]
    exact hz i (by omega) h99
  · rw [e5, e4, e3, e2, e1]
    exact mx_fr.tr (mx_fr.tr (mx_fr.tr (mx_fr.tr (mx_fr.si (Or.inr (Or.inl rfl))) (mx_fr.si (Or.inr (Or.inl rfl)))) (mx_fr.si (Or.inr (Or.inl rfl)))) (mx_fr.si (Or.inr (Or.inl rfl)))) (mx_fr.si (Or.inl rfl))
theorem S_Rs_relation {post : Int32 → mSt → Prop} {a1 a2 a3 a4 : Int32} (h : RC_cf G s) (ha2 : a2 = 0 ∨ a2 = 1) (hn : g_ac G = true ∨ 9 ≤ (g_rs G).length ∨ a1 < 0 ∨ ¬ a1 < 3 → post (-1) s)
    (hy : ∀ n t, g_ac G = false → (g_rs G).length < 9 → n < 3 → a1 = nI n → RC_cf (g_wR G (g_rs G ++ [(n, a2, a3, a4, [])])) t → mx_fr F_cf s t → post (nI (g_rs G).length) t) : X_Rs_relation scr (d + 2) s a1 a2 a3 a4 post := w_Rs_relation (S_Cf_add h ha2 hn hy)
end
