section
variable {rs : List gRl} {rl : gRl} {i j : Nat} {bar : Bool}
theorem g_leaf_bar : g_leaf rs rl i bar = (g_leaf rs rl i false).map (fun q => ((q.1.1, q.1.2.1, q.1.2.2.1, bar), q.2)) := by
  cases hc : (g_tx rl)[i]? with
  | none =>
    rw [g_leaf_e hc, g_leaf_e hc]
    rfl
  | some c =>
    by_cases e1 : c = 84
    · subst e1
      rw [g_leaf_T hc, g_leaf_T hc]
      rfl
    · by_cases e2 : c = 99
      · subst e2
        rw [g_leaf_c hc, g_leaf_c hc]
        cases g_nm rs.length (g_tx rl) (i + 1) with
        | none => rfl
        | some x =>
          show (if _ then _ else none) = Option.map _ (if _ then _ else none)
          cases g_sn rs rl x <;> rfl
      · by_cases e3 : c = 102
        · subst e3
          rw [g_leaf_f hc, g_leaf_f hc]
          cases g_nm rs.length (g_tx rl) (i + 1) with
          | none => rfl
          | some x =>
            show (if _ then _ else none) = Option.map _ (if _ then _ else none)
            cases g_sn rs rl x with
            | false => rfl
            | true =>
              cases g_nm rs.length (g_tx rl) (i + 2) <;> rfl
        · rw [g_leaf_0 hc e1 e2 e3, g_leaf_0 hc e1 e2 e3]
          rfl
def g_nx (rs : List gRl) (rl : gRl) (i : Nat) : Nat := match g_leaf rs rl i false with
  | some q => q.2
  | none => i + 1
theorem g_nx_l {sp : gSp} (h : g_leaf rs rl i bar = some (sp, j)) : g_nx rs rl i = j := by
  rw [g_leaf_bar] at h
  unfold g_nx
  cases h1 : g_leaf rs rl i false with
  | none =>
    rw [h1] at h
    cases h
  | some q =>
    rw [h1] at h
    cases h
    rfl
theorem g_nx_n (h : g_leaf rs rl i bar = none) : g_nx rs rl i = i + 1 := by
  rw [g_leaf_bar] at h
  unfold g_nx
  cases h1 : g_leaf rs rl i false with
  | none => rfl
  | some q =>
    rw [h1] at h
    cases h
theorem g_nx_gt : i < g_nx rs rl i := by
  cases h : g_leaf rs rl i false with
  | none =>
    rw [g_nx_n h]
    omega
  | some q =>
    rw [g_nx_l (show g_leaf rs rl i false = some (q.1, q.2) from h)]
    exact (g_leaf_ok (show g_leaf rs rl i false = some (q.1, q.2) from h)).1
def g_K0 (rs : List gRl) (rl : gRl) : Nat → Nat → Nat
  | 0, _ => 0
  | m + 1, i => if i < (g_tx rl).length then g_K0 rs rl m (g_nx rs rl i) + 1 else 0
theorem g_K0_eq : ∀ (m m' i : Nat), (g_tx rl).length ≤ i + m → (g_tx rl).length ≤ i + m' → g_K0 rs rl m i = g_K0 rs rl m' i := by
  intro m
  induction m with
  | zero =>
    intro m' i h h'
    cases m' with
    | zero => rfl
    | succ m' =>
      show 0 = if _ then _ else 0
      rw [if_neg (by omega)]
  | succ m ih =>
    intro m' i h h'
    show (if _ then _ else 0) = _
    cases m' with
    | zero =>
      rw [if_neg (by omega)]
      rfl
    | succ m' =>
      show _ = if _ then _ else 0
      have h1 := g_nx_gt (rs := rs) (rl := rl) (i := i)
      by_cases hi : i < (g_tx rl).length
      · rw [if_pos hi, if_pos hi, ih m' (g_nx rs rl i) (by omega) (by omega)]
      · rw [if_neg hi, if_neg hi]
def g_K (rs : List gRl) (rl : gRl) (i : Nat) : Nat := g_K0 rs rl (g_tx rl).length i
theorem g_K_1 (hi : i < (g_tx rl).length) : g_K rs rl i = g_K rs rl (g_nx rs rl i) + 1 := by
  have h1 := g_nx_gt (rs := rs) (rl := rl) (i := i)
  unfold g_K
  rw [g_K0_eq (g_tx rl).length ((g_tx rl).length + 1) i (by omega) (by omega)]
  show (if _ then _ else 0) = _
  rw [if_pos hi]
theorem g_K_l {sp : gSp} (h : g_leaf rs rl i bar = some (sp, j)) : g_K rs rl i = g_K rs rl j + 1 := by
  have h1 := g_leaf_ok h
  rw [g_K_1 (by omega), g_nx_l h]
theorem g_K_c {c : Int32} (hc : (g_tx rl)[i]? = some c) (h1 : ¬ c = 84) (h2 : ¬ c = 99) (h3 : ¬ c = 102) : g_K rs rl i = g_K rs rl (i + 1) + 1 := by
  rw [g_K_1 (g_len_get hc), g_nx_n (bar := false) (g_leaf_0 hc h1 h2 h3)]
theorem g_K_o {c : Int32} (hc : (g_tx rl)[i]? = some c) (ho : g_op c = true) : g_K rs rl i = g_K rs rl (i + 1) + 1 := by
  have := g_op_n ho
  exact g_K_c hc (fun h => this (Or.inl h)) (fun h => this (Or.inr (Or.inl h))) (fun h => this (Or.inr (Or.inr h)))
theorem g_K_0 (hi : (g_tx rl).length ≤ i) : g_K rs rl i = 0 := by
  unfold g_K
  rw [g_K0_eq (g_tx rl).length 0 i (by omega) (by omega)]
  rfl
theorem g_part_cs {E : Nat → Bool → Option (gPr × Nat)} {P : gPr} (h : g_part rs rl E i bar = some (P, j)) : (∃ sp, g_leaf rs rl i bar = some (sp, j) ∧ P = ([sp], fun env => env sp)) ∨ (∃ k, (g_tx rl)[i]? = some 40 ∧ E (i + 1) bar = some (P, k) ∧ (g_tx rl)[k]? = some 41 ∧ j = k + 1) := by
  cases hlf : g_leaf rs rl i bar with
  | some q =>
    rw [g_part_l (show g_leaf rs rl i bar = some (q.1, q.2) from hlf)] at h
    cases h
    exact Or.inl ⟨q.1, rfl, rfl⟩
  | none =>
    by_cases h40 : (g_tx rl)[i]? = some 40
    · rw [g_part_p h40] at h
      cases hE : E (i + 1) bar with
      | none =>
        rw [hE] at h
        cases h
      | some q =>
        rw [hE] at h
        have h : (if (g_tx rl)[q.2]? = some 41 then some (q.1, q.2 + 1) else none) = some (P, j) := h
        by_cases h41 : (g_tx rl)[q.2]? = some 41
        · rw [if_pos h41] at h
          cases h
          exact Or.inr ⟨q.2, h40, rfl, h41, rfl⟩
        · rw [if_neg h41] at h
          cases h
    · rw [g_part_n hlf h40] at h
      cases h
theorem g_loop_cs {part : Nat → Bool → Option (gPr × Nat)} {m : Nat} {P P' : gPr} (h : g_loop (g_tx rl) part bar (m + 1) P i = some (P', j)) : (P' = P ∧ j = i) ∨ (∃ c Q k, (g_tx rl)[i]? = some c ∧ g_op c = true ∧ part (i + 1) (bar || decide (c = 45)) = some (Q, k) ∧ g_loop (g_tx rl) part bar m (g_cmb c P Q) k = some (P', j)) := by
  rw [g_loop_1] at h
  cases hc : (g_tx rl)[i]? with
  | none =>
    rw [hc] at h
    cases h
    exact Or.inl ⟨rfl, rfl⟩
  | some c =>
    rw [hc] at h
    have h : (if g_op c = true then (match part (i + 1) (bar || decide (c = 45)) with
          | none => none
          | some q => g_loop (g_tx rl) part bar m (g_cmb c P q.1) q.2) else some (P, i)) = some (P', j) := h
    cases ho : g_op c with
    | false =>
      rw [if_neg (by rw [ho]; decide)] at h
      cases h
      exact Or.inl ⟨rfl, rfl⟩
    | true =>
      rw [if_pos ho] at h
      cases hq : part (i + 1) (bar || decide (c = 45)) with
      | none =>
        rw [hq] at h
        cases h
      | some q =>
        rw [hq] at h
        exact Or.inr ⟨c, q.1, q.2, rfl, ho, hq, h⟩
theorem g_ex_cs {D : Nat} {P' : gPr} (h : g_ex rs rl (D + 1) i bar = some (P', j)) : ∃ P k, g_part rs rl (g_ex rs rl D) i bar = some (P, k) ∧ g_loop (g_tx rl) (g_part rs rl (g_ex rs rl D)) bar 24 P k = some (P', j) := by
  rw [g_ex_1] at h
  cases hq : g_part rs rl (g_ex rs rl D) i bar with
  | none =>
    rw [hq] at h
    cases h
  | some q =>
    rw [hq] at h
    exact ⟨q.1, q.2, rfl, h⟩
end
