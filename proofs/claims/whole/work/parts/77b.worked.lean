section
variable {scr : mSc} {d : Nat} {G : gSt} {o r : Nat} {p : (gTp → Bool) × Nat} {U : Nat → gTp} {A : Nat → Int32} {rl : gRl} {post : Int32 → mSt → Prop} {ex : Nat → mSt → Prop}
def ZWp (scr : mSc) (d : Nat) (G : gSt) (o r : Nat) (p : (gTp → Bool) × Nat) (U : Nat → gTp) (A : Nat → Int32) (rl : gRl) (post : Int32 → mSt → Prop) (ex : Nat → mSt → Prop) (E : Nat → Bool → Option (gPr × Nat)) (δ : Nat) : Prop := ∀ (s : mSt) (i : Nat) (bar : Bool) (P : gPr) (j : Nat), RW G s p U A → (s.1 35 0 δ = 0 ∨ g_op (s.1 35 0 δ) = true) → E i bar = some (P, j) → (∀ t, RW G t p U A → t.1 34 0 δ = g_j0 (s.1 35 0 δ) (s.1 34 0 δ) (P.2 (g_env (g_rs G) p.1 (mM A) o r)) → t.1 35 0 δ = s.1 35 0 δ → (∀ k, k < δ → t.1 34 0 k = s.1 34 0 k ∧ t.1 35 0 k = s.1 35 0 k) → mx_fr F_w s t → r_Md_worked_28 scr (d + 3) (nI o) (nI r) post ex (g_K (g_rs G) rl j + 1) t (nI δ) (nI j)) → r_Md_worked_28 scr (d + 3) (nI o) (nI r) post ex (g_K (g_rs G) rl i + 1) s (nI δ) (nI i)
def ZWe (scr : mSc) (d : Nat) (G : gSt) (o r : Nat) (p : (gTp → Bool) × Nat) (U : Nat → gTp) (A : Nat → Int32) (rl : gRl) (post : Int32 → mSt → Prop) (ex : Nat → mSt → Prop) (E : Nat → Bool → Option (gPr × Nat)) (δ : Nat) : Prop := ∀ (s : mSt) (i : Nat) (bar : Bool) (P : gPr) (j : Nat), RW G s p U A → s.1 35 0 δ = 0 → E i bar = some (P, j) → (∀ t, RW G t p U A → t.1 34 0 δ = P.2 (g_env (g_rs G) p.1 (mM A) o r) → (∀ k, k < δ → t.1 34 0 k = s.1 34 0 k ∧ t.1 35 0 k = s.1 35 0 k) → mx_fr F_w s t → r_Md_worked_28 scr (d + 3) (nI o) (nI r) post ex (g_K (g_rs G) rl j + 1) t (nI δ) (nI j)) → r_Md_worked_28 scr (d + 3) (nI o) (nI r) post ex (g_K (g_rs G) rl i + 1) s (nI δ) (nI i)
theorem W_zpart {E : Nat → Bool → Option (gPr × Nat)} {δ : Nat} (hp2 : p.2 ≤ 120) (hp : ∀ u, p.1 u = true → g_wu G u) (hrl : (g_rs G)[r]? = some rl) (ho : o < 12) (hδ : δ ≤ 5) (h5 : δ = 5 → ∀ i b, E i b = none) (hE : δ < 5 → ZWe scr d G o r p U A rl post ex E (δ + 1)) : ZWp scr d G o r p U A rl post ex (g_part (g_rs G) rl E) δ := by
  intro s i bar P j h hs hP hy
  rcases g_part_cs hP with ⟨sp, hlf, rfl⟩ | ⟨k, h40, hPk, h41, rfl⟩
  · rw [g_K_l hlf]
    have hf : mx_fr F_w s (mx_si s 34 0 δ (g_j0 (s.1 35 0 δ) (s.1 34 0 δ) (g_env (g_rs G) p.1 (mM A) o r sp))) := mx_fr.si (Or.inl rfl)
    refine Wk_leaf hp2 hp h hrl ho (by omega) hs hlf (hy _ (RW_fr h hf) mx_si_s (mx_si_n (by omega)) (fun k hk => ⟨mx_si_n (by omega), mx_si_n (by omega)⟩) hf)
  · have hδ5 : δ < 5 := Nat.lt_of_not_le fun h9 => by
      rw [h5 (by omega)] at hPk
      cases hPk
    rw [g_K_c h40 (by decide) (by decide) (by decide)]
    have hf : mx_fr F_w s (mx_si s 35 0 (δ + 1) 0) := mx_fr.si (Or.inr rfl)
    refine Wk_open h.1 hrl (by omega) h40 (hE hδ5 _ (i + 1) bar P k (RW_fr h hf) mx_si_s hPk (fun t ht h34 hlow hft => ?_))
    have e35 : t.1 35 0 δ = s.1 35 0 δ := (hlow δ (by omega)).2.trans (mx_si_n (by omega))
    have e34 : t.1 34 0 δ = s.1 34 0 δ := (hlow δ (by omega)).1.trans (mx_si_n (by omega))
    rw [g_K_c h41 (by decide) (by decide) (by decide)]
    have hf2 : mx_fr F_w t (mx_si t 34 0 δ (g_j0 (t.1 35 0 δ) (t.1 34 0 δ) (t.1 34 0 (δ + 1)))) := mx_fr.si (Or.inl rfl)
    refine Wk_close ht.1 hrl (by omega) (by rw [e35]; exact hs) h41 (hy _ (RW_fr ht hf2) ?_ ((mx_si_n (by omega)).trans e35) (fun k' hk' => ⟨?_, ?_⟩) ((hf.tr hft).tr hf2))
    · rw [mx_si_s, e35, e34, h34]
    · rw [mx_si_n (by omega), (hlow k' (by omega)).1, mx_si_n (by omega)]
    · rw [mx_si_n (by omega), (hlow k' (by omega)).2, mx_si_n (by omega)]
theorem g_j0_op {c a b : Int32} (h : g_op c = true) : g_j0 c a b = g_jn c a b := by
  unfold g_j0
  rw [if_neg (fun e => by rw [e] at h; cases h)]
theorem W_zloop {part : Nat → Bool → Option (gPr × Nat)} {δ : Nat} {bar : Bool} (hrl : (g_rs G)[r]? = some rl) (hδ : δ ≤ 5) (hpt : ZWp scr d G o r p U A rl post ex part δ) : ∀ (m : Nat) (s : mSt) (j : Nat) (P P' : gPr) (j' : Nat), RW G s p U A → s.1 34 0 δ = P.2 (g_env (g_rs G) p.1 (mM A) o r) → g_loop (g_tx rl) part bar m P j = some (P', j') → (∀ t, RW G t p U A → t.1 34 0 δ = P'.2 (g_env (g_rs G) p.1 (mM A) o r) → (∀ k, k < δ → t.1 34 0 k = s.1 34 0 k ∧ t.1 35 0 k = s.1 35 0 k) → mx_fr F_w s t → r_Md_worked_28 scr (d + 3) (nI o) (nI r) post ex (g_K (g_rs G) rl j' + 1) t (nI δ) (nI j')) → r_Md_worked_28 scr (d + 3) (nI o) (nI r) post ex (g_K (g_rs G) rl j + 1) s (nI δ) (nI j) := by
  intro m
  induction m with
  | zero =>
    intro s j P P' j' h hv hl hy
    cases hl
    exact hy s h hv (fun _ _ => ⟨rfl, rfl⟩) mx_fr.rf
  | succ m ih =>
    intro s j P P' j' h hv hl hy
    rcases g_loop_cs hl with ⟨rfl, rfl⟩ | ⟨c, Q, k, hc, ho, hQ, hl2⟩
    · exact hy s h hv (fun _ _ => ⟨rfl, rfl⟩) mx_fr.rf
    · rw [g_K_o hc ho]
      have hf : mx_fr F_w s (mx_si s 35 0 δ c) := mx_fr.si (Or.inr rfl)
      refine Wk_op h.1 hrl (by omega) hc ho (hpt _ (j + 1) _ Q k (RW_fr h hf) (Or.inr (by rw [mx_si_s]; exact ho)) hQ (fun t ht h34 h35 hlow hft => ?_))
      refine ih t k (g_cmb c P Q) P' j' ht ?_ hl2 (fun u hu hu34 hulow hfu => hy u hu hu34 (fun k' hk' => ?_) ((hf.tr hft).tr hfu))
      · rw [h34, mx_si_s, mx_si_n (by omega), g_j0_op ho, hv]
        rfl
      · rw [(hulow k' hk').1, (hulow k' hk').2, (hlow k' hk').1, (hlow k' hk').2, mx_si_n (by omega), mx_si_n (by omega)]
        exact ⟨rfl, rfl⟩
theorem W_zex (hp2 : p.2 ≤ 120) (hp : ∀ u, p.1 u = true → g_wu G u) (hrl : (g_rs G)[r]? = some rl) (ho : o < 12) : ∀ D δ, δ + D = 5 → ZWe scr d G o r p U A rl post ex (g_ex (g_rs G) rl (D + 1)) δ := by
  have fin : ∀ D δ, δ ≤ 5 → ZWp scr d G o r p U A rl post ex (g_part (g_rs G) rl (g_ex (g_rs G) rl D)) δ → ZWe scr d G o r p U A rl post ex (g_ex (g_rs G) rl (D + 1)) δ := by
    intro D δ hδ hpt s i bar P j h hs hP hy
    obtain ⟨P1, k, h1, h2⟩ := g_ex_cs hP
    refine hpt s i bar P1 k h (Or.inl hs) h1 (fun t ht h34 h35 hlow hf => W_zloop hrl hδ hpt 24 t k P1 P j ht ?_ h2 (fun u hu hu34 hulow hfu => hy u hu hu34 (fun k' hk' => ⟨(hulow k' hk').1.trans (hlow k' hk').1, (hulow k' hk').2.trans (hlow k' hk').2⟩) (hf.tr hfu)))
    rw [h34, hs]
    rfl
  intro D
  induction D with
  | zero => exact fun δ hδ => fin 0 δ (by omega) (W_zpart hp2 hp hrl ho (by omega) (fun _ _ _ => rfl) (fun h => by omega))
  | succ D ih => exact fun δ hδ => fin (D + 1) δ (by omega) (W_zpart hp2 hp hrl ho (by omega) (fun h => by omega) (fun _ => ih (δ + 1) (by omega)))
theorem S_worked {s : mSt} {P : gPr} (hp2 : p.2 ≤ 120) (hp : ∀ u, p.1 u = true → g_wu G u) (h : RW G s p U A) (hrl : (g_rs G)[r]? = some rl) (ho : o < 12) (hP : g_rule (g_rs G) rl = some P) (hy : ∀ t, RW G t p U A → mx_fr F_w s t → post (g_F (g_rs G) p.1 (mM A) o r) t) : X_Md_worked scr (d + 4) s (nI o) (nI r) post := by
  obtain ⟨h9, hokr, h24, hlen, hr⟩ := RM_tx h.1 hrl
  have hl9 := h.1.1.1
  have hF := g_F_eq (T := p.1) (m := mM A) (o := o) hrl hP
  rw [hF] at hy
  unfold g_rule at hP
  refine w_Md_worked ⟨g_K (g_rs G) rl 0 + 1, pk_in r 9 h9, ?_⟩
  rw [pk_cl (x := nI r) r]
  refine pk_eq (g_tx rl).length 0 (fun e0 => ?_) (fun e0 => ⟨pk_in 0 7 (by omega), fun t e => ?_⟩) hlen rfl
  · rw [if_pos e0] at hP
    cases hP
    refine S_told hl9 hp2 hp h.2.1 h.2.2.1 ho h9 ?_
    rw [h.2.2.2]
    exact hy s h mx_fr.rf
  · have e : t = mx_si s 35 0 0 0 := e
    subst e
    have hf : mx_fr F_w s (mx_si s 35 0 0 0) := mx_fr.si (Or.inr rfl)
    rw [if_neg e0] at hP
    cases hq : g_ex (g_rs G) rl 6 0 false with
    | none =>
      rw [hq] at hP
      cases hP
    | some q =>
      rw [hq] at hP
      have hP : (if q.2 = (g_tx rl).length then some q.1 else none) = some P := hP
      by_cases hj : q.2 = (g_tx rl).length
      · rw [if_pos hj] at hP
        cases hP
        refine W_zex hp2 hp hrl ho 5 0 rfl _ 0 false q.1 q.2 (RW_fr h hf) mx_si_s hq (fun t ht h34 _ hft => ?_)
        rw [g_K_0 (by omega)]
        refine Wk_end (n := 0) ht.1 hrl (by omega) (by omega) ?_
        rw [h34]
        exact hy t ht (hf.tr hft)
      · rw [if_neg hj] at hP
        cases hP
end
