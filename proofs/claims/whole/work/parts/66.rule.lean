abbrev gSp : Type := Int32 × Nat × Nat × Bool
abbrev gPr : Type := List gSp × ((gSp → Int32) → Int32)
def g_tx (rl : gRl) : List Int32 := rl.2.2.2.2
def g_nm (n : Nat) (tx : List Int32) (i : Nat) : Option Nat := match tx[i]? with
  | none => none
  | some c => (List.range n).find? (fun x => decide (c - 48 = nI x))
def g_sn (rs : List gRl) (rl : gRl) (x : Nat) : Bool := decide ((rs[x]?).map Prod.fst = some rl.1)
def g_leaf (rs : List gRl) (rl : gRl) (i : Nat) (bar : Bool) : Option (gSp × Nat) := match (g_tx rl)[i]? with
  | none => none
  | some c => if c = 84 then some ((84, 0, 0, bar), i + 1) else if c = 99 then (match g_nm rs.length (g_tx rl) (i + 1) with
      | none => none
      | some x => if g_sn rs rl x = true then some ((99, 0, x, bar), i + 2) else none) else if c = 102 then (match g_nm rs.length (g_tx rl) (i + 1) with
      | none => none
      | some t => if g_sn rs rl t = true then (match g_nm rs.length (g_tx rl) (i + 2) with
        | none => none
        | some x => some ((102, t, x, bar), i + 3)) else none) else none
def g_part (rs : List gRl) (rl : gRl) (E : Nat → Bool → Option (gPr × Nat)) (i : Nat) (bar : Bool) : Option (gPr × Nat) := match g_leaf rs rl i bar with
  | some q => some (([q.1], fun env => env q.1), q.2)
  | none => if (g_tx rl)[i]? = some 40 then (match E (i + 1) bar with
    | some q => if (g_tx rl)[q.2]? = some 41 then some (q.1, q.2 + 1) else none
    | none => none) else none
def g_op (c : Int32) : Bool := decide (c = 38) || (decide (c = 124) || decide (c = 45))
def g_jn (c a b : Int32) : Int32 := if c = 38 then a &&& b else if c = 124 then a ||| b else a &&& (b ^^^ (-1 : Int32))
def g_cmb (c : Int32) (P Q : gPr) : gPr := (P.1 ++ (Q.1 ++ [(c, 0, 0, true)]), fun env => g_jn c (P.2 env) (Q.2 env))
def g_loop (tx : List Int32) (part : Nat → Bool → Option (gPr × Nat)) (bar : Bool) : Nat → gPr → Nat → Option (gPr × Nat)
  | 0, P, j => some (P, j)
  | m + 1, P, j => match tx[j]? with
    | none => some (P, j)
    | some c => if g_op c = true then (match part (j + 1) (bar || decide (c = 45)) with
      | none => none
      | some q => g_loop tx part bar m (g_cmb c P q.1) q.2) else some (P, j)
def g_ex (rs : List gRl) (rl : gRl) : Nat → Nat → Bool → Option (gPr × Nat)
  | 0, _, _ => none
  | D + 1, i, bar => match g_part rs rl (g_ex rs rl D) i bar with
    | none => none
    | some q => g_loop (g_tx rl) (g_part rs rl (g_ex rs rl D)) bar 24 q.1 q.2
def g_rule (rs : List gRl) (rl : gRl) : Option gPr := if (g_tx rl).length = 0 then some ([(84, 0, 0, false)], fun env => env (84, 0, 0, false)) else match g_ex rs rl 6 0 false with
  | none => none
  | some q => if q.2 = (g_tx rl).length then some q.1 else none
section
variable {n i x : Nat} {tx : List Int32} {c : Int32}
theorem g_nm_1 (h : g_nm n tx i = some x) : x < n ∧ ∃ c, tx[i]? = some c ∧ c - 48 = nI x := by
  unfold g_nm at h
  split at h
  · cases h
  · rename_i c hc
    have h1 := List.find?_some h
    have h2 := List.mem_of_find?_eq_some h
    exact ⟨List.mem_range.mp h2, c, hc, of_decide_eq_true h1⟩
theorem g_nm_0 (h : tx[i]? = none) : g_nm n tx i = none := by
  unfold g_nm
  rw [h]
theorem g_nm_3 (h : tx[i]? = some c) (h1 : ∀ x, x < n → ¬ c - 48 = nI x) : g_nm n tx i = none := by
  unfold g_nm
  rw [h]
  exact List.find?_eq_none.mpr (fun x hx h9 => h1 x (List.mem_range.mp hx) (of_decide_eq_true h9))
theorem g_nm_2 (hn : n ≤ 9) (h : tx[i]? = some c) (hx : x < n) (h1 : c - 48 = nI x) : g_nm n tx i = some x := by
  cases h2 : g_nm n tx i with
  | none =>
    unfold g_nm at h2
    rw [h] at h2
    exact absurd (decide_eq_true h1) (List.find?_eq_none.mp h2 x (List.mem_range.mpr hx))
  | some y =>
    obtain ⟨h3, c', h4, h5⟩ := g_nm_1 h2
    rw [h] at h4
    cases h4
    rw [g_eqI (by omega) (by omega) (h5.symm.trans h1)]
end
def i_le (x y : Int32) : Prop := ∀ b, bt x b = true → bt y b = true
theorem i_le_rf (x : Int32) : i_le x x := fun _ h => h
theorem i_le_tr {x y z : Int32} (h : i_le x y) (h' : i_le y z) : i_le x z := fun b hb => h' b (h b hb)
theorem i_le_as {x y : Int32} (h : i_le x y) (h' : i_le y x) : x = y := b_ext (fun i _ => by
  cases h1 : bt x i with
  | true => exact (h i h1).symm
  | false =>
    cases h2 : bt y i with
    | true => rw [h' i h2] at h1; cases h1
    | false => rfl)
theorem b_not (x : Int32) {i : Nat} (hi : i < 32) : bt (x ^^^ (-1 : Int32)) i = !bt x i := by
  rw [b_xor, b_m1 i hi, Bool.xor_true]
theorem b_lt {x : Int32} {i : Nat} (h : bt x i = true) : i < 32 := Nat.lt_of_not_le fun h9 => by
  rw [b_big h9] at h
  cases h
theorem g_jn_le {c a b a' b' : Int32} (h1 : i_le a a') (h2 : i_le b b') (h3 : ¬ c = 38 → ¬ c = 124 → b = b') : i_le (g_jn c a b) (g_jn c a' b') := by
  intro i hi
  have hi2 := b_lt hi
  unfold g_jn at *
  by_cases e1 : c = 38
  · rw [if_pos e1] at *
    rw [b_and, Bool.and_eq_true] at *
    exact ⟨h1 i hi.1, h2 i hi.2⟩
  · rw [if_neg e1] at *
    by_cases e2 : c = 124
    · rw [if_pos e2] at *
      rw [b_or, Bool.or_eq_true] at *
      exact hi.imp (h1 i) (h2 i)
    · rw [if_neg e2] at *
      rw [← h3 e1 e2, b_and, Bool.and_eq_true] at *
      exact ⟨h1 i hi.1, hi.2⟩
theorem g_jn_top {c a b m : Int32} (h1 : i_le a m) (h2 : i_le b m) : i_le (g_jn c a b) m := by
  intro i hi
  unfold g_jn at hi
  split at hi
  · rw [b_and, Bool.and_eq_true] at hi
    exact h1 i hi.1
  · split at hi
    · rw [b_or, Bool.or_eq_true] at hi
      exact hi.elim (h1 i) (h2 i)
    · rw [b_and, Bool.and_eq_true] at hi
      exact h1 i hi.1
def g_stp (env : gSp → Int32) (sp : gSp) (σ : List Int32) : List Int32 := if sp.1 = 84 ∨ sp.1 = 99 ∨ sp.1 = 102 then env sp :: σ else match σ with
  | b :: a :: σ => g_jn sp.1 a b :: σ
  | _ => σ
def g_run (env : gSp → Int32) (P : List gSp) (σ : List Int32) : List Int32 := P.foldl (fun σ sp => g_stp env sp σ) σ
theorem g_run_a {env : gSp → Int32} {P Q : List gSp} {σ : List Int32} : g_run env (P ++ Q) σ = g_run env Q (g_run env P σ) := by
  unfold g_run
  rw [List.foldl_append]
def g_lf (rs : List gRl) (rl : gRl) (sp : gSp) : Prop := (sp.1 = 84 ∧ sp.2.1 = 0 ∧ sp.2.2.1 = 0) ∨ (sp.1 = 99 ∧ sp.2.1 = 0 ∧ sp.2.2.1 < rs.length ∧ g_sn rs rl sp.2.2.1 = true) ∨ (sp.1 = 102 ∧ sp.2.1 < rs.length ∧ g_sn rs rl sp.2.1 = true ∧ sp.2.2.1 < rs.length)
def g_okP (rs : List gRl) (rl : gRl) (bar : Bool) (P : gPr) : Prop :=
  (∀ sp ∈ P.1, g_lf rs rl sp ∨ (g_op sp.1 = true ∧ sp.2.1 = 0 ∧ sp.2.2.1 = 0)) ∧
  (bar = true → ∀ sp ∈ P.1, sp.2.2.2 = true) ∧
  (∀ env σ, g_run env P.1 σ = P.2 env :: σ) ∧
  (∀ env env' : gSp → Int32, (∀ sp ∈ P.1, g_lf rs rl sp → env sp = env' sp) → P.2 env = P.2 env') ∧
  (∀ env env' : gSp → Int32, (∀ sp ∈ P.1, g_lf rs rl sp → i_le (env sp) (env' sp)) → (∀ sp ∈ P.1, g_lf rs rl sp → sp.2.2.2 = true → env sp = env' sp) → i_le (P.2 env) (P.2 env')) ∧
  (∀ (env : gSp → Int32) m, (∀ sp ∈ P.1, g_lf rs rl sp → i_le (env sp) m) → i_le (P.2 env) m)
theorem g_op_3 {c : Int32} (h : g_op c = true) : c = 38 ∨ c = 124 ∨ c = 45 := by
  unfold g_op at h
  rw [Bool.or_eq_true, Bool.or_eq_true, decide_eq_true_eq, decide_eq_true_eq, decide_eq_true_eq] at h
  exact h
theorem g_op_n {c : Int32} (h : g_op c = true) : ¬ (c = 84 ∨ c = 99 ∨ c = 102) := by
  rcases g_op_3 h with rfl | rfl | rfl <;> decide
theorem g_lf_3 {rs : List gRl} {rl : gRl} {sp : gSp} (h : g_lf rs rl sp) : sp.1 = 84 ∨ sp.1 = 99 ∨ sp.1 = 102 := by
  rcases h with h | h | h
  · exact Or.inl h.1
  · exact Or.inr (Or.inl h.1)
  · exact Or.inr (Or.inr h.1)
section
variable {rs : List gRl} {rl : gRl} {bar : Bool}
theorem g_okP_leaf {sp : gSp} (h : g_lf rs rl sp) (hb : sp.2.2.2 = bar) : g_okP rs rl bar ([sp], fun env => env sp) := by
  refine ⟨fun sp' h' => ?_, fun hb' sp' h' => ?_, fun env σ => ?_, fun env env' h' => h' sp List.mem_cons_self h, fun env env' h' _ => h' sp List.mem_cons_self h, fun env m h' => h' sp List.mem_cons_self h⟩
  · obtain rfl := List.mem_singleton.mp h'
    exact Or.inl h
  · obtain rfl := List.mem_singleton.mp h'
    rw [hb, hb']
  · show g_stp env sp σ = env sp :: σ
    unfold g_stp
    rw [if_pos (g_lf_3 h)]
theorem g_okP_cmb {c : Int32} {P Q : gPr} (hc : g_op c = true) (hP : g_okP rs rl bar P) (hQ : g_okP rs rl (bar || decide (c = 45)) Q) : g_okP rs rl bar (g_cmb c P Q) := by
  obtain ⟨p1, p2, p3, p4, p5, p6⟩ := hP
  obtain ⟨q1, q2, q3, q4, q5, q6⟩ := hQ
  have mP : ∀ sp, sp ∈ P.1 → sp ∈ (g_cmb c P Q).1 := fun sp h => List.mem_append_left _ h
  have mQ : ∀ sp, sp ∈ Q.1 → sp ∈ (g_cmb c P Q).1 := fun sp h => List.mem_append_right _ (List.mem_append_left _ h)
  refine ⟨fun sp h => ?_, fun hb sp h => ?_, fun env σ => ?_, fun env env' h => ?_, fun env env' h h' => ?_, fun env m h => ?_⟩
  · rcases List.mem_append.mp h with h | h
    · exact p1 sp h
    · rcases List.mem_append.mp h with h | h
      · exact q1 sp h
      · obtain rfl := List.mem_singleton.mp h
        exact Or.inr ⟨hc, rfl, rfl⟩
  · rcases List.mem_append.mp h with h | h
    · exact p2 hb sp h
    · rcases List.mem_append.mp h with h | h
      · exact q2 (by rw [hb]; rfl) sp h
      · obtain rfl := List.mem_singleton.mp h
        rfl
  · show g_run env (P.1 ++ (Q.1 ++ [(c, 0, 0, true)])) σ = g_jn c (P.2 env) (Q.2 env) :: σ
    rw [g_run_a, p3, g_run_a, q3]
    show g_stp env (c, 0, 0, true) (Q.2 env :: P.2 env :: σ) = _
    unfold g_stp
    rw [if_neg (g_op_n hc)]
  · show g_jn c (P.2 env) (Q.2 env) = g_jn c (P.2 env') (Q.2 env')
    rw [p4 env env' (fun sp hs => h sp (mP sp hs)), q4 env env' (fun sp hs => h sp (mQ sp hs))]
  · refine g_jn_le (p5 env env' (fun sp hs => h sp (mP sp hs)) (fun sp hs => h' sp (mP sp hs))) (q5 env env' (fun sp hs => h sp (mQ sp hs)) (fun sp hs => h' sp (mQ sp hs))) (fun n1 n2 => ?_)
    have e45 : c = 45 := by
      rcases g_op_3 hc with h | h | h
      · exact absurd h n1
      · exact absurd h n2
      · exact h
    exact q4 env env' (fun sp hs hl => h' sp (mQ sp hs) hl (q2 (by rw [e45]; simp) sp hs))
  · exact g_jn_top (p6 env m (fun sp hs => h sp (mP sp hs))) (q6 env m (fun sp hs => h sp (mQ sp hs)))
theorem g_leaf_ok {i j : Nat} {sp : gSp} (h : g_leaf rs rl i bar = some (sp, j)) : i < j ∧ j ≤ (g_tx rl).length ∧ g_lf rs rl sp ∧ sp.2.2.2 = bar := by
  unfold g_leaf at h
  split at h
  · cases h
  · rename_i c hc
    have hi := g_len_get hc
    split at h
    · cases h
      exact ⟨by omega, by omega, Or.inl ⟨rfl, rfl, rfl⟩, rfl⟩
    · split at h
      · split at h
        · cases h
        · rename_i x hx
          obtain ⟨h1, c', h2, -⟩ := g_nm_1 hx
          have h3 := g_len_get h2
          split at h
          · rename_i hs
            cases h
            exact ⟨by omega, by omega, Or.inr (Or.inl ⟨rfl, rfl, h1, hs⟩), rfl⟩
          · cases h
      · split at h
        · split at h
          · cases h
          · rename_i t ht
            obtain ⟨h1, c', h2, -⟩ := g_nm_1 ht
            split at h
            · rename_i hs
              split at h
              · cases h
              · rename_i x hx
                obtain ⟨h4, c'', h5, -⟩ := g_nm_1 hx
                have h6 := g_len_get h5
                cases h
                exact ⟨by omega, by omega, Or.inr (Or.inr ⟨rfl, h1, hs, h4⟩), rfl⟩
            · cases h
        · cases h
def g_okE (rs : List gRl) (rl : gRl) (E : Nat → Bool → Option (gPr × Nat)) : Prop := ∀ i bar P j, E i bar = some (P, j) → i < j ∧ j ≤ (g_tx rl).length ∧ P.1.length + i ≤ j ∧ g_okP rs rl bar P
theorem g_part_ok {E : Nat → Bool → Option (gPr × Nat)} (hE : g_okE rs rl E) : g_okE rs rl (g_part rs rl E) := by
  intro i bar P j h
  unfold g_part at h
  split at h
  · rename_i q hq
    cases h
    obtain ⟨h1, h2, h3, h4⟩ := g_leaf_ok (show g_leaf rs rl i bar = some (q.1, q.2) from hq)
    exact ⟨h1, h2, by show 1 + i ≤ q.2; omega, g_okP_leaf h3 h4⟩
  · split at h
    · split at h
      · rename_i q hq
        obtain ⟨h1, h2, h3, h4⟩ := hE _ _ q.1 q.2 hq
        split at h
        · rename_i h41
          have h5 := g_len_get h41
          cases h
          exact ⟨by omega, by omega, by omega, h4⟩
        · cases h
      · cases h
    · cases h
theorem g_loop_ok {part : Nat → Bool → Option (gPr × Nat)} (hp : g_okE rs rl part) : ∀ (m : Nat) (P : gPr) (j : Nat) (P' : gPr) (j' : Nat), g_loop (g_tx rl) part bar m P j = some (P', j') → j ≤ (g_tx rl).length → g_okP rs rl bar P → j ≤ j' ∧ j' ≤ (g_tx rl).length ∧ P'.1.length + j ≤ P.1.length + j' ∧ g_okP rs rl bar P' := by
  intro m
  induction m with
  | zero =>
    intro P j P' j' h hj hP
    cases h
    exact ⟨Nat.le_refl _, hj, Nat.le_refl _, hP⟩
  | succ m ih =>
    intro P j P' j' h hj hP
    unfold g_loop at h
    split at h
    · cases h
      exact ⟨Nat.le_refl _, hj, Nat.le_refl _, hP⟩
    · rename_i c hc
      split at h
      · rename_i hop
        split at h
        · cases h
        · rename_i q hq
          obtain ⟨h1, h2, h3, h4⟩ := hp _ _ q.1 q.2 hq
          obtain ⟨k1, k2, k3, k4⟩ := ih (g_cmb c P q.1) q.2 P' j' h h2 (g_okP_cmb hop hP h4)
          have e : (g_cmb c P q.1).1.length = P.1.length + (q.1.1.length + 1) := by
            show (P.1 ++ (q.1.1 ++ [_])).length = _
            rw [List.length_append, List.length_append]
            rfl
          exact ⟨by omega, k2, by omega, k4⟩
      · cases h
        exact ⟨Nat.le_refl _, hj, Nat.le_refl _, hP⟩
theorem g_ex_ok : ∀ D, g_okE rs rl (g_ex rs rl D)
  | 0 => fun i bar P j h => by cases h
  | D + 1 => fun i bar P j h => by
    unfold g_ex at h
    split at h
    · cases h
    · rename_i q hq
      have hp := g_part_ok (g_ex_ok D)
      obtain ⟨h1, h2, h3, h4⟩ := hp _ _ q.1 q.2 hq
      obtain ⟨k1, k2, k3, k4⟩ := g_loop_ok hp 24 q.1 q.2 P j h h2 h4
      exact ⟨by omega, k2, by omega, k4⟩
theorem g_rule_ok {P : gPr} (h : g_rule rs rl = some P) : P.1.length ≤ (g_tx rl).length + 1 ∧ g_okP rs rl false P := by
  unfold g_rule at h
  split at h
  · cases h
    exact ⟨by show 1 ≤ _; omega, g_okP_leaf (Or.inl ⟨rfl, rfl, rfl⟩) rfl⟩
  · split at h
    · cases h
    · rename_i q hq
      obtain ⟨h1, h2, h3, h4⟩ := g_ex_ok _ _ _ q.1 q.2 hq
      split at h
      · cases h
        exact ⟨by omega, h4⟩
      · cases h
end
