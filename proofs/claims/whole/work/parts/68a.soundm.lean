section
variable {rs : List gRl} {rl : gRl} {bar : Bool}
theorem g_loop_end {part : Nat → Bool → Option (gPr × Nat)} (hok : g_okE rs rl part) : ∀ (m : Nat) (P : gPr) (j : Nat) (P' : gPr) (j' : Nat), (g_tx rl).length ≤ j + m → g_loop (g_tx rl) part bar m P j = some (P', j') → ∀ c, (g_tx rl)[j']? = some c → g_op c = false := by
  intro m
  induction m with
  | zero =>
    intro P j P' j' hm h c hc
    cases h
    have := g_len_get hc
    omega
  | succ m ih =>
    intro P j P' j' hm h c hc
    rw [g_loop_1] at h
    cases hj : (g_tx rl)[j]? with
    | none =>
      rw [hj] at h
      cases h
      rw [hj] at hc
      cases hc
    | some c0 =>
      rw [hj] at h
      cases ho : g_op c0 with
      | false =>
        have h : (if g_op c0 = true then _ else some (P, j)) = some (P', j') := h
        rw [if_neg (by rw [ho]; decide)] at h
        cases h
        rw [hj] at hc
        cases hc
        exact ho
      | true =>
        have h : (if g_op c0 = true then (match part (j + 1) (bar || decide (c0 = 45)) with
          | none => none
          | some q => g_loop (g_tx rl) part bar m (g_cmb c0 P q.1) q.2) else some (P, j)) = some (P', j') := h
        rw [if_pos ho] at h
        cases hq : part (j + 1) (bar || decide (c0 = 45)) with
        | none =>
          rw [hq] at h
          cases h
        | some q =>
          rw [hq] at h
          have h1 := (hok _ _ q.1 q.2 hq).1
          exact ih (g_cmb c0 P q.1) q.2 P' j' (by omega) h c hc
theorem g_ex_1 {D i : Nat} : g_ex rs rl (D + 1) i bar = match g_part rs rl (g_ex rs rl D) i bar with
    | none => none
    | some q => g_loop (g_tx rl) (g_part rs rl (g_ex rs rl D)) bar 24 q.1 q.2 := rfl
theorem g_ex_end (h24 : (g_tx rl).length ≤ 24) : ∀ {D i : Nat} {bar : Bool} {P : gPr} {j : Nat}, g_ex rs rl D i bar = some (P, j) → ∀ c, (g_tx rl)[j]? = some c → g_op c = false := by
  intro D i bar P j h
  cases D with
  | zero => cases h
  | succ D =>
    rw [g_ex_1] at h
    cases hq : g_part rs rl (g_ex rs rl D) i bar with
    | none =>
      rw [hq] at h
      cases h
    | some q =>
      rw [hq] at h
      exact g_loop_end (g_part_ok (g_ex_ok D)) 24 q.1 q.2 P j (by omega) h
end
section
variable {scr : mSc} {d : Nat} {G : gSt} {s : mSt} {r i δ : Nat} {rl : gRl} {post : Int32 → mSt → Prop} {ex : Nat → mSt → Prop}
def ZM (scr : mSc) (d : Nat) (s : mSt) (r : Nat) (rl : gRl) (post : Int32 → mSt → Prop) (ex : Nat → mSt → Prop) (E : Nat → Bool → Option (gPr × Nat)) (δ : Nat) : Prop := ∀ (i : Nat) (bar : Bool), i ≤ (g_tx rl).length → (∀ P j, E i bar = some (P, j) → ∃ n, r_Md_isRule_18 scr (d + 3) (nI r) post ex n s (nI δ) 1 (nI j)) → (E i bar = none → post 0 s) → ∃ n, r_Md_isRule_18 scr (d + 3) (nI r) post ex n s (nI δ) 0 (nI i)
theorem M_zpart {E : Nat → Bool → Option (gPr × Nat)} (h : RM_cf G s) (hrl : (g_rs G)[r]? = some rl) (hδ : δ ≤ 5) (hok : g_okE (g_rs G) rl E) (hend : ∀ i bar P j, E i bar = some (P, j) → ∀ c, (g_tx rl)[j]? = some c → g_op c = false) (h5 : δ = 5 → ∀ i b, E i b = none) (hE : δ < 5 → ZM scr d s r rl post ex E (δ + 1)) : ZM scr d s r rl post ex (g_part (g_rs G) rl E) δ := by
  obtain ⟨h9, hokr, h24, hlen, hr⟩ := RM_tx h hrl
  intro i bar hil hy hn
  cases hc : (g_tx rl)[i]? with
  | none => exact ⟨1, M_end0 h hrl (List.getElem?_eq_none_iff.mp hc) (by omega) (hn (g_part_n (g_leaf_e hc) (by rw [hc]; intro h; cases h)))⟩
  | some c =>
    have hi := g_len_get hc
    cases hlf : g_leaf (g_rs G) rl i bar with
    | some q =>
      obtain ⟨n, hn2⟩ := hy _ q.2 (g_part_l (show g_leaf (g_rs G) rl i bar = some (q.1, q.2) from hlf))
      refine ⟨n + 1, M_part (bar := bar) h hrl hδ hc (fun sp j h' => ?_) (fun e40 _ => ?_) (fun h' => ?_)⟩
      · rw [hlf] at h'
        cases h'
        exact hn2
      · subst e40
        rw [g_leaf_0 hc (by decide) (by decide) (by decide)] at hlf
        cases hlf
      · rw [hlf] at h'
        cases h'
    | none =>
      by_cases hx : c = 40 ∧ δ < 5
      · obtain ⟨rfl, hx⟩ := hx
        obtain ⟨n, hn2⟩ := hE hx (i + 1) bar (by omega) (fun P j hP => by
          obtain ⟨k1, k2, k3, k4⟩ := hok _ _ _ _ hP
          cases hc2 : (g_tx rl)[j]? with
          | none =>
            refine ⟨1, M_end1 h hrl (by omega) (List.getElem?_eq_none_iff.mp hc2) (by omega) (fun _ => hn ?_) (fun h => by omega)⟩
            rw [g_part_p hc, hP]
            show (if _ then _ else none) = _
            rw [if_neg (by rw [hc2]; intro h; cases h)]
          | some c2 =>
            have he := hend _ _ _ _ hP c2 hc2
            by_cases h41 : c2 = 41
            · subst h41
              obtain ⟨n, hn2⟩ := hy P (j + 1) (by
                rw [g_part_p hc, hP]
                show (if _ then _ else none) = _
                rw [if_pos hc2])
              refine ⟨n + 1, M_sign h hrl (by omega) hc2 (fun e _ h => ?_) (fun ho => by rw [he] at ho; cases ho) (fun _ h => absurd ⟨rfl, by omega⟩ h)⟩
              obtain rfl : e = δ := by omega
              exact hn2
            · refine ⟨1, M_sign (n := 0) h hrl (by omega) hc2 (fun e h => absurd h h41) (fun ho => by rw [he] at ho; cases ho) (fun _ _ => hn ?_)⟩
              rw [g_part_p hc, hP]
              show (if _ then _ else none) = _
              rw [if_neg (by rw [hc2]; intro h; cases h; exact h41 rfl)]) (fun hP => hn (by rw [g_part_p hc, hP]))
        refine ⟨n + 1, M_part (bar := bar) h hrl hδ hc (fun sp j h' => ?_) (fun _ _ => hn2) (fun _ h => absurd ⟨rfl, hx⟩ h)⟩
        rw [hlf] at h'
        cases h'
      · refine ⟨1, M_part (n := 0) (bar := bar) h hrl hδ hc (fun sp j h' => ?_) (fun a b => absurd ⟨a, b⟩ hx) (fun _ _ => hn ?_)⟩
        · rw [hlf] at h'
          cases h'
        · by_cases h40 : c = 40
          · subst h40
            have h8 : ¬ δ < 5 := fun h => hx ⟨rfl, h⟩
            rw [g_part_p hc, h5 (by omega)]
          · exact g_part_n hlf (by rw [hc]; intro h; cases h; exact h40 rfl)
theorem M_zloop {part : Nat → Bool → Option (gPr × Nat)} {bar : Bool} (h : RM_cf G s) (hrl : (g_rs G)[r]? = some rl) (hδ : δ ≤ 5) (hok : g_okE (g_rs G) rl part) (hp : ZM scr d s r rl post ex part δ) : ∀ (m : Nat) (P : gPr) (j : Nat), (g_tx rl).length ≤ j + m → j ≤ (g_tx rl).length → (∀ P' j', g_loop (g_tx rl) part bar m P j = some (P', j') → ∃ n, r_Md_isRule_18 scr (d + 3) (nI r) post ex n s (nI δ) 1 (nI j')) → (g_loop (g_tx rl) part bar m P j = none → post 0 s) → ∃ n, r_Md_isRule_18 scr (d + 3) (nI r) post ex n s (nI δ) 1 (nI j) := by
  intro m
  induction m with
  | zero => exact fun P j _ _ hy _ => hy P j rfl
  | succ m ih =>
    intro P j hm hj hy hn
    rw [g_loop_1] at hy hn
    cases hc : (g_tx rl)[j]? with
    | none =>
      rw [hc] at hy
      exact hy P j rfl
    | some c =>
      have hjl := g_len_get hc
      rw [hc] at hy hn
      have hy : ∀ P' j', (if g_op c = true then (match part (j + 1) (bar || decide (c = 45)) with
          | none => none
          | some q => g_loop (g_tx rl) part bar m (g_cmb c P q.1) q.2) else some (P, j)) = some (P', j') → ∃ n, r_Md_isRule_18 scr (d + 3) (nI r) post ex n s (nI δ) 1 (nI j') := hy
      have hn : (if g_op c = true then (match part (j + 1) (bar || decide (c = 45)) with
          | none => none
          | some q => g_loop (g_tx rl) part bar m (g_cmb c P q.1) q.2) else some (P, j)) = none → post 0 s := hn
      cases ho : g_op c with
      | false =>
        rw [if_neg (by rw [ho]; decide)] at hy
        exact hy P j rfl
      | true =>
        rw [if_pos ho] at hy hn
        obtain ⟨n, hn2⟩ := hp (j + 1) (bar || decide (c = 45)) (by omega) (fun Q k hQ => by
          obtain ⟨k1, k2, k3, k4⟩ := hok _ _ _ _ hQ
          rw [hQ] at hy hn
          exact ih (g_cmb c P Q) k (by omega) k2 hy hn) (fun hQ => hn (by rw [hQ]))
        refine ⟨n + 1, M_sign h hrl hδ hc (fun e h41 => ?_) (fun _ => hn2) (fun h => by rw [ho] at h; cases h)⟩
        subst h41
        cases ho
theorem M_zex (h : RM_cf G s) (hrl : (g_rs G)[r]? = some rl) : ∀ D δ, δ + D = 5 → ZM scr d s r rl post ex (g_ex (g_rs G) rl (D + 1)) δ := by
  obtain ⟨h9, hokr, h24, hlen, hr⟩ := RM_tx h hrl
  have fin : ∀ D δ, δ ≤ 5 → ZM scr d s r rl post ex (g_part (g_rs G) rl (g_ex (g_rs G) rl D)) δ → ZM scr d s r rl post ex (g_ex (g_rs G) rl (D + 1)) δ := by
    intro D δ hδ hp i bar hil hy hn
    rw [g_ex_1] at hy hn
    have hok := g_part_ok (rs := g_rs G) (rl := rl) (g_ex_ok D)
    refine hp i bar hil (fun P j hP => ?_) (fun hP => hn (by rw [hP]))
    obtain ⟨k1, k2, k3, k4⟩ := hok _ _ _ _ hP
    rw [hP] at hy hn
    exact M_zloop h hrl hδ hok hp 24 P j (by omega) k2 hy hn
  intro D
  induction D with
  | zero => exact fun δ hδ => fin 0 δ (by omega) (M_zpart h hrl (by omega) (g_ex_ok 0) (fun i bar P j h => by cases h) (fun _ _ _ => rfl) (fun h => by omega))
  | succ D ih => exact fun δ hδ => fin (D + 1) δ (by omega) (M_zpart h hrl (by omega) (g_ex_ok _) (fun i bar P j h => g_ex_end h24 h) (fun h => by omega) (fun _ => ih (δ + 1) (by omega)))
theorem S_Md_isRule (h : RM_cf G s) (hrl : (g_rs G)[r]? = some rl) (hy : ∀ P, g_rule (g_rs G) rl = some P → post 1 s) (hn : g_rule (g_rs G) rl = none → post 0 s) : X_Md_isRule scr (d + 4) s (nI r) post := by
  obtain ⟨h9, hokr, h24, hlen, hr⟩ := RM_tx h hrl
  have hg0 : (g_tx rl).length = 0 → ∃ P, g_rule (g_rs G) rl = some P := fun e0 => by
    unfold g_rule
    rw [if_pos e0]
    exact ⟨_, rfl⟩
  have hg : ¬ (g_tx rl).length = 0 → g_rule (g_rs G) rl = match g_ex (g_rs G) rl 6 0 false with
    | none => none
    | some q => if q.2 = (g_tx rl).length then some q.1 else none := fun e0 => by
    unfold g_rule
    rw [if_neg e0]
    rfl
  by_cases e0 : (g_tx rl).length = 0
  · obtain ⟨P, hP⟩ := hg0 e0
    refine w_Md_isRule ⟨0, pk_in r 9 h9, ?_⟩
    rw [pk_cl (x := nI r) r]
    exact pk_eq (g_tx rl).length 0 (fun _ => ⟨rfl, hy P hP⟩) (fun h => absurd e0 h) hlen rfl
  · have hg := hg e0
    obtain ⟨n, hn2⟩ := M_zex (scr := scr) (d := d) (post := post) (ex := fun _ _ => False) h hrl 5 0 rfl 0 false (Nat.zero_le _) (fun P j hP => by
      have hend := g_ex_end h24 hP
      have hj := (g_ex_ok _ _ _ _ _ hP).2.1
      rw [hP] at hg
      have hg : g_rule (g_rs G) rl = if j = (g_tx rl).length then some P else none := hg
      cases hc : (g_tx rl)[j]? with
      | none =>
        have := List.getElem?_eq_none_iff.mp hc
        rw [if_pos (by omega)] at hg
        exact ⟨1, M_end1 h hrl (by omega) this (by omega) (fun h => by omega) (fun _ => hy P hg)⟩
      | some c =>
        have := g_len_get hc
        rw [if_neg (by omega)] at hg
        exact ⟨1, M_sign (n := 0) h hrl (by omega) hc (fun e _ h => by omega) (fun ho => by rw [hend c hc] at ho; cases ho) (fun _ _ => hn hg)⟩) (fun hP => hn (by rw [hg, hP]))
    refine w_Md_isRule ⟨n, pk_in r 9 h9, ?_⟩
    rw [pk_cl (x := nI r) r]
    exact pk_eq (g_tx rl).length 0 (fun h => absurd h e0) (fun _ => hn2) hlen rfl
theorem S_Md_sound {a1 : Int32} (h : RM_cf G s) (hno : ∀ t, (∀ j, j < (g_rs G).length → ¬ a1 = nI j) → t.1 18 0 1 = 0 → mx_fr F_mo s t → post 0 t) (hy : ∀ r rl P t, (g_rs G)[r]? = some rl → a1 = nI r → g_rule (g_rs G) rl = some P → t.1 18 0 1 = 0 → mx_fr F_mo s t → post 1 t) (hn : ∀ r rl t, (g_rs G)[r]? = some rl → a1 = nI r → g_rule (g_rs G) rl = none → t.1 18 0 1 = 0 → mx_fr F_mo s t → post 0 t) : X_Md_sound scr (d + 5) s a1 post := by
  refine w_Md_sound (fun t e => ?_)
  have ht : RM_cf G t := by
    rw [e]
    exact RM_code h
  have hf : mx_fr F_mo s t := by
    rw [e]
    exact mx_fr.si ⟨rfl, rfl⟩
  have hz : t.1 18 0 1 = 0 := by
    rw [e]
    exact mx_si_s
  refine S_MisRelation ht (fun h1 => ⟨fun _ => ⟨rfl, hno t h1 hz hf⟩, fun h => absurd rfl h⟩) (fun r hr e1 => ⟨fun h => absurd h (by decide), fun _ => ?_⟩)
  have hrl : (g_rs G)[r]? = some (g_rs G)[r] := List.getElem?_eq_getElem hr
  rw [e1]
  exact S_Md_isRule ht hrl (fun P hP => ⟨fun h => absurd h (by decide), fun _ => ⟨rfl, hy r _ P t hrl e1 hP hz hf⟩⟩) (fun hP => ⟨fun _ => ⟨rfl, hn r _ t hrl e1 hP hz hf⟩, fun h => absurd rfl h⟩)
end
