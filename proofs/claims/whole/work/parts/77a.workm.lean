def F_w (f _ _ : Nat) : Prop := f = 34 ∨ f = 35
def RW (G : gSt) (s : mSt) (p : (gTp → Bool) × Nat) (U : Nat → gTp) (A : Nat → Int32) : Prop := RM_cf G s ∧ RM_lg G s ∧ RM_pl G s p U ∧ s.1 33 0 = A
def g_j0 (c a b : Int32) : Int32 := if c = 0 then b else g_jn c a b
section
variable {scr : mSc} {d : Nat} {G : gSt} {s t : mSt} {o r i j δ n : Nat} {p : (gTp → Bool) × Nat} {U : Nat → gTp} {A : Nat → Int32} {rl : gRl}
theorem RM_pl_fr {Q : Nat → Nat → Nat → Prop} (h : RM_pl G s p U) (hf : mx_fr Q s t) (h1 : ¬ Q 18 0 21) (h2 : ∀ j, ¬ Q 32 0 j) : RM_pl G t p U := by
  obtain ⟨q1, q2, q3, q4⟩ := h
  refine ⟨(hf.1 _ _ _ h1).trans q1, fun i hi => ?_, q3, q4⟩
  obtain ⟨k, e, r1, r2⟩ := q2 i hi
  exact ⟨k, e, (hf.1 _ _ _ (h2 i)).trans r1, r2⟩
theorem RW_fr (h : RW G s p U A) (hf : mx_fr F_w s t) : RW G t p U A := ⟨RM_cf_fr h.1 hf (fun h => by rcases h with h | h <;> cases h) (fun h => by rcases h with h | h <;> cases h) (fun f j h1 h2 h => by rcases h with h | h <;> omega), RM_lg_fr h.2.1 hf (fun h => by rcases h with h | h <;> cases h) (fun h => by rcases h with h | h <;> cases h) (fun h => by rcases h with h | h <;> cases h) (fun j h => by rcases h with h | h <;> cases h) (fun j h => by rcases h with h | h <;> cases h), RM_pl_fr h.2.2.1 hf (fun h => by rcases h with h | h <;> cases h) (fun j h => by rcases h with h | h <;> cases h), (funext fun j => hf.1 33 0 j (fun h => by rcases h with h | h <;> cases h)).trans h.2.2.2⟩
theorem S_partOf {post : Int32 → mSt → Prop} {sp : gSp} {bar : Bool} (hp2 : p.2 ≤ 120) (hp : ∀ u, p.1 u = true → g_wu G u) (h : RW G s p U A) (hrl : (g_rs G)[r]? = some rl) (ho : o < 12) (hlf : g_leaf (g_rs G) rl i bar = some (sp, j)) (hy : post (g_env (g_rs G) p.1 (mM A) o r sp) s) : X_Md_partOf scr (d + 3) s (nI o) (nI r) (nI i) post := by
  obtain ⟨hc, hl, hU, hA⟩ := h
  have hl9 := hc.1.1
  obtain ⟨h9, hokr, h24, hlen, hr⟩ := RM_tx hc hrl
  have hj := g_leaf_ok hlf
  unfold g_env at hy
  refine w_Md_partOf (S_Mat hc hrl (by omega) (fun c hcc => ⟨fun e => ?_, fun n1 => ?_⟩) (fun hcc => by rw [g_leaf_e hcc] at hlf; cases hlf))
  · subst e
    rw [g_leaf_T hcc] at hlf
    cases hlf
    rw [if_pos rfl] at hy
    refine S_told hl9 hp2 hp hl hU ho h9 ?_
    rw [hA]
    exact hy
  · rw [show nI i + (1 : Int32) = nI (i + 1) from nI_1 i, show nI i + (2 : Int32) = nI (i + 2) from nI_add i 2]
    by_cases e99 : c = 99
    · subst e99
      rw [g_leaf_c hcc] at hlf
      refine S_Mnamed hc hrl (by omega) (fun x hx hxl => ⟨fun _ => ?_, fun h => absurd rfl h⟩) (fun hx => by rw [hx] at hlf; cases hlf)
      rw [hx] at hlf
      have hlf : (if g_sn (g_rs G) rl x = true then some (((99, 0, x, bar) : gSp), i + 2) else none) = some (sp, j) := hlf
      rw [show (9 : Int32) * nI o = nI (9 * o) from pk_mul 9 o, nI_add, pk_cl (x := nI (9 * o + x)) (9 * o + x), hA]
      cases hs : g_sn (g_rs G) rl x with
      | false =>
        rw [if_neg (by rw [hs]; decide)] at hlf
        cases hlf
      | true =>
        rw [if_pos hs] at hlf
        cases hlf
        rw [if_neg (show ¬ (99 : Int32) = 84 by decide), if_pos rfl] at hy
        exact ⟨pk_in (9 * o + x) 108 (by omega), hy⟩
    · by_cases e102 : c = 102
      · subst e102
        rw [g_leaf_f hcc] at hlf
        refine S_Mnamed hc hrl (by omega) (fun x hx hxl => ⟨fun h => absurd h (by decide), fun _ => ?_⟩) (fun hx => by rw [hx] at hlf; cases hlf)
        rw [hx] at hlf
        have hlf : (if g_sn (g_rs G) rl x = true then (match g_nm (g_rs G).length (g_tx rl) (i + 2) with
          | none => none
          | some z => some (((102, x, z, bar) : gSp), i + 3)) else none) = some (sp, j) := hlf
        cases hs : g_sn (g_rs G) rl x with
        | false =>
          rw [if_neg (by rw [hs]; decide)] at hlf
          cases hlf
        | true =>
          rw [if_pos hs] at hlf
          refine S_Mnamed hc hrl (by omega) (fun z hz hzl => ?_) (fun hz => by rw [hz] at hlf; cases hlf)
          rw [hz] at hlf
          cases hlf
          rw [if_neg (show ¬ (102 : Int32) = 84 by decide), if_neg (show ¬ (102 : Int32) = 99 by decide)] at hy
          refine S_from hc hp2 hp hl hU ho (by omega) hzl ?_
          rw [hA]
          exact hy
      · rw [g_leaf_0 hcc n1 e99 e102] at hlf
        cases hlf
theorem S_join {post : mSt → Prop} {w : Int32} (hδ : δ < 7) (hs : s.1 35 0 δ = 0 ∨ g_op (s.1 35 0 δ) = true) (hy : ∀ t, t = mx_si s 34 0 δ (g_j0 (s.1 35 0 δ) (s.1 34 0 δ) w) → post t) : X_Md_join scr (d + 1) s (nI δ) w post := by
  have i1 : vp_in (nI δ) 7 := pk_in δ 7 hδ
  unfold g_j0 g_jn at hy
  refine w_Md_join ⟨i1, i1, ?_⟩
  rw [pk_cl (x := nI δ) δ]
  refine ⟨fun e => ⟨i1, fun t et => hy t ?_⟩, fun n1 => ⟨fun e => ⟨i1, fun t et => hy t ?_⟩, fun n2 => ⟨fun e => ⟨i1, fun t et => hy t ?_⟩, fun n3 => ⟨i1, fun t et => hy t ?_⟩⟩⟩⟩
  · rw [if_neg (by rw [e]; decide), if_pos e]
    exact et
  · rw [if_neg (by rw [e]; decide), if_neg n1, if_pos e]
    exact et
  · rw [if_neg (by rw [e]; decide), if_neg n1, if_neg n2]
    exact et
  · rcases hs with hs | hs
    · rw [if_pos hs]
      exact et
    · rcases g_op_3 hs with h | h | h
      · exact absurd h n1
      · exact absurd h n2
      · exact absurd h n3
variable {post : Int32 → mSt → Prop} {ex : Nat → mSt → Prop}
theorem Wk_end (h : RM_cf G s) (hrl : (g_rs G)[r]? = some rl) (hi : (g_tx rl).length ≤ i) (hi2 : i < 2 ^ 20) {v3 a1 : Int32} (h0 : post (s.1 34 0 0) s) : r_Md_worked_28 scr (d + 3) a1 (nI r) post ex (n + 1) s v3 (nI i) := by
  obtain ⟨h9, hok, h24, hlen, hr⟩ := RM_tx h hrl
  refine w_Md_worked_28 ⟨pk_in r 9 h9, ?_⟩
  rw [pk_cl (x := nI r) r]
  exact pk_le (g_tx rl).length i (fun _ => ⟨pk_in 0 7 (by omega), h0⟩) (fun h => by omega) hlen rfl
theorem Wk_open {a1 : Int32} (h : RM_cf G s) (hrl : (g_rs G)[r]? = some rl) (hδ : δ < 6) (hc : (g_tx rl)[i]? = some 40) (h0 : r_Md_worked_28 scr (d + 3) a1 (nI r) post ex n (mx_si s 35 0 (δ + 1) 0) (nI (δ + 1)) (nI (i + 1))) : r_Md_worked_28 scr (d + 3) a1 (nI r) post ex (n + 1) s (nI δ) (nI i) := by
  obtain ⟨h9, hok, h24, hlen, hr⟩ := RM_tx h hrl
  have hi := g_len_get hc
  refine w_Md_worked_28 ⟨pk_in r 9 h9, ?_⟩
  rw [pk_cl (x := nI r) r, show nI i + (1 : Int32) = nI (i + 1) from nI_1 i, show nI δ + (1 : Int32) = nI (δ + 1) from nI_1 δ]
  refine pk_le (g_tx rl).length i (fun h => by omega) (fun _ => S_Mat h hrl (by omega) (fun c' hc' => ?_) (fun h0 => by rw [hc] at h0; cases h0)) hlen rfl
  rw [hc] at hc'
  cases hc'
  refine ⟨fun _ => ⟨pk_in (δ + 1) 7 (by omega), fun t e => ?_⟩, fun h => absurd rfl h⟩
  rw [pk_cl (x := nI (δ + 1)) (δ + 1)] at e
  rw [e]
  exact h0
theorem Wk_close {a1 : Int32} (h : RM_cf G s) (hrl : (g_rs G)[r]? = some rl) (hδ : δ < 6) (hs : s.1 35 0 δ = 0 ∨ g_op (s.1 35 0 δ) = true) (hc : (g_tx rl)[i]? = some 41) (h0 : r_Md_worked_28 scr (d + 3) a1 (nI r) post ex n (mx_si s 34 0 δ (g_j0 (s.1 35 0 δ) (s.1 34 0 δ) (s.1 34 0 (δ + 1)))) (nI δ) (nI (i + 1))) : r_Md_worked_28 scr (d + 3) a1 (nI r) post ex (n + 1) s (nI (δ + 1)) (nI i) := by
  obtain ⟨h9, hok, h24, hlen, hr⟩ := RM_tx h hrl
  have hi := g_len_get hc
  refine w_Md_worked_28 ⟨pk_in r 9 h9, ?_⟩
  rw [pk_cl (x := nI r) r, show nI i + (1 : Int32) = nI (i + 1) from nI_1 i, show nI (δ + 1) + (-1 : Int32) = nI δ from pk_m1 δ]
  refine pk_le (g_tx rl).length i (fun h => by omega) (fun _ => S_Mat h hrl (by omega) (fun c' hc' => ?_) (fun h0 => by rw [hc] at h0; cases h0)) hlen rfl
  rw [hc] at hc'
  cases hc'
  refine ⟨fun h => absurd h (by decide), fun _ => ⟨fun _ => ?_, fun h => absurd rfl h⟩⟩
  rw [show nI δ + (1 : Int32) = nI (δ + 1) from nI_1 δ]
  refine ⟨pk_in (δ + 1) 7 (by omega), S_join (by omega) hs (fun t e => ?_)⟩
  rw [pk_cl (x := nI (δ + 1)) (δ + 1)] at e
  rw [e]
  exact h0
theorem Wk_op {a1 c : Int32} (h : RM_cf G s) (hrl : (g_rs G)[r]? = some rl) (hδ : δ < 7) (hc : (g_tx rl)[i]? = some c) (hop : g_op c = true) (h0 : r_Md_worked_28 scr (d + 3) a1 (nI r) post ex n (mx_si s 35 0 δ c) (nI δ) (nI (i + 1))) : r_Md_worked_28 scr (d + 3) a1 (nI r) post ex (n + 1) s (nI δ) (nI i) := by
  obtain ⟨h9, hok, h24, hlen, hr⟩ := RM_tx h hrl
  have hi := g_len_get hc
  have n40 : ¬ c = 40 := fun e => by
    subst e
    cases hop
  have n41 : ¬ c = 41 := fun e => by
    subst e
    cases hop
  refine w_Md_worked_28 ⟨pk_in r 9 h9, ?_⟩
  rw [pk_cl (x := nI r) r, show nI i + (1 : Int32) = nI (i + 1) from nI_1 i]
  refine pk_le (g_tx rl).length i (fun h => by omega) (fun _ => S_Mat h hrl (by omega) (fun c' hc' => ?_) (fun h0 => by rw [hc] at h0; cases h0)) hlen rfl
  rw [hc] at hc'
  cases hc'
  refine ⟨fun h => absurd h n40, fun _ => ⟨fun h => absurd h n41, fun _ => S_MisSign (fun _ => ⟨fun h => absurd h (by decide), fun _ => ⟨pk_in δ 7 hδ, fun t e => ?_⟩⟩) (fun h => by rw [hop] at h; cases h)⟩⟩
  rw [pk_cl (x := nI δ) δ] at e
  rw [e]
  exact h0
theorem Wk_leaf {sp : gSp} {bar : Bool} (hp2 : p.2 ≤ 120) (hp : ∀ u, p.1 u = true → g_wu G u) (h : RW G s p U A) (hrl : (g_rs G)[r]? = some rl) (ho : o < 12) (hδ : δ < 7) (hs : s.1 35 0 δ = 0 ∨ g_op (s.1 35 0 δ) = true) (hlf : g_leaf (g_rs G) rl i bar = some (sp, j)) (h0 : r_Md_worked_28 scr (d + 3) (nI o) (nI r) post ex n (mx_si s 34 0 δ (g_j0 (s.1 35 0 δ) (s.1 34 0 δ) (g_env (g_rs G) p.1 (mM A) o r sp))) (nI δ) (nI j)) : r_Md_worked_28 scr (d + 3) (nI o) (nI r) post ex (n + 1) s (nI δ) (nI i) := by
  obtain ⟨h9, hok, h24, hlen, hr⟩ := RM_tx h.1 hrl
  have hj := g_leaf_ok hlf
  refine w_Md_worked_28 ⟨pk_in r 9 h9, ?_⟩
  rw [pk_cl (x := nI r) r]
  refine pk_le (g_tx rl).length i (fun h => by omega) (fun _ => S_Mat h.1 hrl (by omega) (fun c hc => ?_) (fun h0 => by rw [g_leaf_e h0] at hlf; cases hlf)) hlen rfl
  have c3 : c = 84 ∨ c = 99 ∨ c = 102 := by
    by_cases e1 : c = 84
    · exact Or.inl e1
    · by_cases e2 : c = 99
      · exact Or.inr (Or.inl e2)
      · by_cases e3 : c = 102
        · exact Or.inr (Or.inr e3)
        · rw [g_leaf_0 hc e1 e2 e3] at hlf
          cases hlf
  have n40 : ¬ c = 40 := by rcases c3 with rfl | rfl | rfl <;> decide
  have n41 : ¬ c = 41 := by rcases c3 with rfl | rfl | rfl <;> decide
  have no : g_op c = false := by rcases c3 with rfl | rfl | rfl <;> rfl
  refine ⟨fun h => absurd h n40, fun _ => ⟨fun h => absurd h n41, fun _ => S_MisSign (fun h => by rw [no] at h; cases h) (fun _ => ⟨fun _ => S_partOf hp2 hp h hrl ho hlf (S_join hδ hs (fun t e => ?_)), fun h => absurd rfl h⟩)⟩⟩
  have hf : mx_fr F_w s t := by
    rw [e]
    exact mx_fr.si (Or.inl rfl)
  refine S_MpartAt (bar := bar) (RW_fr h hf).1 hrl (by omega) (fun sp' j' hlf' => ?_) (fun hlf' => by rw [hlf] at hlf'; cases hlf')
  rw [hlf] at hlf'
  cases hlf'
  rw [show nI (j - i) - (1 : Int32) = nI (j - i - 1) from pk_sub (b := 1) (by omega), nI_add, show nI (i + (j - i - 1)) + (1 : Int32) = nI (i + (j - i - 1) + 1) from nI_1 _, show i + (j - i - 1) + 1 = j by omega, e]
  exact h0
end
