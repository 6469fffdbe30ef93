section
variable {scr : mSc} {d : Nat} {G : gSt} {r : Nat} {rl : gRl} {post : mSt → Prop} {ex : Nat → mSt → Prop}
def ZN (scr : mSc) (d : Nat) (G : gSt) (r : Nat) (rl : gRl) (post : mSt → Prop) (ex : Nat → mSt → Prop) (E : Nat → Bool → Option (gPr × Nat)) (δ : Nat) : Prop := ∀ (s : mSt) (i : Nat) (u q : Bool) (acc : List gSp) (P : gPr) (j : Nat), RM_cf G s → RNa (g_rs G) rl s r acc → s.1 36 0 δ = bI u → E i (u || q) = some (P, j) → (∀ t q', RNa (g_rs G) rl t r (acc ++ P.1) → (∀ k, k ≤ δ → t.1 36 0 k = s.1 36 0 k) → mx_fr (F_nr r) s t → r_Md_findNeeds_30 scr (d + 4) (nI r) post ex (g_K (g_rs G) rl j + 1) t (nI δ) (bI q') (nI j)) → r_Md_findNeeds_30 scr (d + 4) (nI r) post ex (g_K (g_rs G) rl i + 1) s (nI δ) (bI q) (nI i)
def ZNE (scr : mSc) (d : Nat) (G : gSt) (r : Nat) (rl : gRl) (post : mSt → Prop) (ex : Nat → mSt → Prop) (E : Nat → Bool → Option (gPr × Nat)) (δ : Nat) : Prop := ∀ (s : mSt) (i : Nat) (u : Bool) (acc : List gSp) (P : gPr) (j : Nat), RM_cf G s → RNa (g_rs G) rl s r acc → s.1 36 0 δ = bI u → E i u = some (P, j) → (∀ t q', RNa (g_rs G) rl t r (acc ++ P.1) → (∀ k, k ≤ δ → t.1 36 0 k = s.1 36 0 k) → mx_fr (F_nr r) s t → r_Md_findNeeds_30 scr (d + 4) (nI r) post ex (g_K (g_rs G) rl j + 1) t (nI δ) (bI q') (nI j)) → r_Md_findNeeds_30 scr (d + 4) (nI r) post ex (g_K (g_rs G) rl i + 1) s (nI δ) 0 (nI i)
theorem RNa_op {s : mSt} {acc : List gSp} {c : Int32} {b : Bool} (hc : g_op c = true) (h : RNa (g_rs G) rl s r acc) : RNa (g_rs G) rl s r (acc ++ [(c, 0, 0, b)]) := by
  have no : ∀ x, ¬ g_ns (g_rs G) rl (c, 0, 0, b) x := fun x h => by
    have hn := g_op_n hc
    rcases h with ⟨e, -⟩ | ⟨e, -⟩ | ⟨e, -⟩
    · exact hn (Or.inl e)
    · exact hn (Or.inr (Or.inl e))
    · exact hn (Or.inr (Or.inr e))
  exact RNb_iff h (fun x _ => by rw [g_mem1]; exact ⟨fun h => Or.inl h, fun h => h.elim id (fun h => absurd h (no x))⟩) (fun x _ => by rw [g_mem1]; exact ⟨fun h => Or.inl h, fun h => h.elim id (fun h => absurd h.2 (no x))⟩)
theorem N_zpart {E : Nat → Bool → Option (gPr × Nat)} {δ : Nat} (hrl : (g_rs G)[r]? = some rl) (hδ : δ ≤ 5) (h5 : δ = 5 → ∀ i b, E i b = none) (hE : δ < 5 → ZNE scr d G r rl post ex E (δ + 1)) : ZN scr d G r rl post ex (g_part (g_rs G) rl E) δ := by
  intro s i u q acc P j h hN hu hP hy
  obtain ⟨h9, hokr, h24, hlen, hr⟩ := RM_tx h hrl
  rcases g_part_cs hP with ⟨sp, hlf, rfl⟩ | ⟨k, h40, hPk, h41, rfl⟩
  · have hj := g_leaf_ok hlf
    rw [g_K_l hlf]
    refine N_leaf h hrl (by omega) hlf hu rfl (S_needOf (d := d + 1) h hrl (Or.inl hlf) (by omega) hN (fun t ht h36 hf => hy t q ht (fun k _ => by rw [h36]) hf))
  · have hδ5 : δ < 5 := Nat.lt_of_not_le fun h9 => by
      rw [h5 (by omega)] at hPk
      cases hPk
    rw [g_K_c h40 (by decide) (by decide) (by decide)]
    have hf : mx_fr (F_nr r) s (mx_si s 36 0 (δ + 1) (bI (u || q))) := mx_fr.si (Or.inl rfl)
    refine N_open h hrl (by omega) h40 hu rfl (hE hδ5 _ (i + 1) (u || q) acc P k (RM_cf_nr h hf) ?_ mx_si_s hPk (fun t q' ht h36 hft => ?_))
    · intro x hx
      rw [mx_si_n (by omega), mx_si_n (by omega)]
      exact hN x hx
    · rw [g_K_c h41 (by decide) (by decide) (by decide)]
      refine N_close (RM_cf_nr (RM_cf_nr h hf) hft) hrl h41 (hy t q' ht (fun k' hk' => ?_) (hf.tr hft))
      rw [h36 k' (by omega), mx_si_n (by omega)]
theorem N_zloop {part : Nat → Bool → Option (gPr × Nat)} {δ : Nat} {bar : Bool} (hrl : (g_rs G)[r]? = some rl) (hp : ZN scr d G r rl post ex part δ) : ∀ (m : Nat) (s : mSt) (j : Nat) (q : Bool) (acc : List gSp) (P P' : gPr) (j' : Nat), RM_cf G s → RNa (g_rs G) rl s r (acc ++ P.1) → s.1 36 0 δ = bI bar → g_loop (g_tx rl) part bar m P j = some (P', j') → (∀ t q', RNa (g_rs G) rl t r (acc ++ P'.1) → (∀ k, k ≤ δ → t.1 36 0 k = s.1 36 0 k) → mx_fr (F_nr r) s t → r_Md_findNeeds_30 scr (d + 4) (nI r) post ex (g_K (g_rs G) rl j' + 1) t (nI δ) (bI q') (nI j')) → r_Md_findNeeds_30 scr (d + 4) (nI r) post ex (g_K (g_rs G) rl j + 1) s (nI δ) (bI q) (nI j) := by
  intro m
  induction m with
  | zero =>
    intro s j q acc P P' j' h hN hu hl hy
    cases hl
    exact hy s q hN (fun _ _ => rfl) mx_fr.rf
  | succ m ih =>
    intro s j q acc P P' j' h hN hu hl hy
    rcases g_loop_cs hl with ⟨rfl, rfl⟩ | ⟨c, Q, k, hc, ho, hQ, hl2⟩
    · exact hy s q hN (fun _ _ => rfl) mx_fr.rf
    · rw [g_K_o hc ho]
      refine N_op h hrl hc ho (hp s (j + 1) bar (decide (c = 45)) (acc ++ P.1) Q k h hN hu hQ (fun t q' ht h36 hf => ?_))
      have eA : ((acc ++ P.1) ++ Q.1) ++ [(c, 0, 0, true)] = acc ++ (g_cmb c P Q).1 := by
        show _ = acc ++ (P.1 ++ (Q.1 ++ [_]))
        rw [List.append_assoc, List.append_assoc]
      have ht2 := RNa_op (b := true) ho ht
      rw [eA] at ht2
      exact ih t k q' acc (g_cmb c P Q) P' j' (RM_cf_nr h hf) ht2 (by rw [h36 δ (Nat.le_refl _)]; exact hu) hl2 (fun w q'' hw hw36 hfw => hy w q'' hw (fun k' hk' => (hw36 k' hk').trans (h36 k' hk')) (hf.tr hfw))
theorem N_zex (hrl : (g_rs G)[r]? = some rl) : ∀ D δ, δ + D = 5 → ZNE scr d G r rl post ex (g_ex (g_rs G) rl (D + 1)) δ := by
  have fin : ∀ D δ, δ ≤ 5 → ZN scr d G r rl post ex (g_part (g_rs G) rl (g_ex (g_rs G) rl D)) δ → ZNE scr d G r rl post ex (g_ex (g_rs G) rl (D + 1)) δ := by
    intro D δ hδ hp s i u acc P j h hN hu hP hy
    obtain ⟨P1, k, h1, h2⟩ := g_ex_cs hP
    exact hp s i u false acc P1 k h hN hu (by rw [Bool.or_false]; exact h1) (fun t q' ht h36 hf => N_zloop hrl hp 24 t k q' acc P1 P j (RM_cf_nr h hf) ht (by rw [h36 δ (Nat.le_refl _)]; exact hu) h2 (fun w q'' hw hw36 hfw => hy w q'' hw (fun k' hk' => (hw36 k' hk').trans (h36 k' hk')) (hf.tr hfw)))
  intro D
  induction D with
  | zero => exact fun δ hδ => fin 0 δ (by omega) (N_zpart hrl (by omega) (fun _ _ _ => rfl) (fun h => by omega))
  | succ D ih => exact fun δ hδ => fin (D + 1) δ (by omega) (N_zpart hrl (by omega) (fun h => by omega) (fun _ => ih (δ + 1) (by omega)))
theorem S_findNeeds {s : mSt} {P : gPr} (h : RM_cf G s) (hrl : (g_rs G)[r]? = some rl) (hP : g_rule (g_rs G) rl = some P) (hN : RNa (g_rs G) rl s r []) (hy : ∀ t, RNa (g_rs G) rl t r P.1 → mx_fr (F_nr r) s t → post t) : X_Md_findNeeds scr (d + 5) s (nI r) post := by
  obtain ⟨h9, hokr, h24, hlen, hr⟩ := RM_tx h hrl
  have h36 : ∀ t : mSt, mx_fr (F_nr r) t (mx_si t 36 0 0 0) := fun t => mx_fr.si (Or.inl rfl)
  have keep : ∀ (t : mSt) (acc : List gSp), RNa (g_rs G) rl t r acc → RNa (g_rs G) rl (mx_si t 36 0 0 0) r acc := fun t acc hN x hx => by
    rw [mx_si_n (by omega), mx_si_n (by omega)]
    exact hN x hx
  refine w_Md_findNeeds ⟨g_K (g_rs G) rl 0 + 1, pk_in r 9 h9, ?_⟩
  rw [pk_cl (x := nI r) r]
  unfold g_rule at hP
  refine pk_eq (g_tx rl).length 0 (fun e0 => ?_) (fun e0 => ⟨pk_in 0 7 (by omega), fun t e => ?_⟩) hlen rfl
  · rw [if_pos e0] at hP
    cases hP
    refine S_needOf (d := d + 1) (i := 0) (bar := false) (j := 0) h hrl (Or.inr ⟨e0, rfl⟩) (by omega) hN (fun t ht _ hf => ⟨pk_in 0 7 (by omega), fun t2 e => ?_⟩)
    have e : t2 = mx_si t 36 0 0 0 := e
    subst e
    exact N_end (i := 0) (RM_cf_nr (RM_cf_nr h hf) (h36 t)) hrl (by omega) (by omega) (hy _ (keep t _ ht) (hf.tr (h36 t)))
  · have e : t = mx_si s 36 0 0 0 := e
    subst e
    rw [if_neg e0] at hP
    cases hq : g_ex (g_rs G) rl 6 0 false with
    | none =>
      rw [hq] at hP
      cases hP
    | some q =>
      rw [hq] at hP
      have hP : (if q.2 = (g_tx rl).length then some q.1 else none) = some P := hP
      by_cases hj : q.2 = (g_tx rl).length
      · rw [if_pos hj] at hP
        cases hP
        refine N_zex (d := d) hrl 5 0 rfl _ 0 false [] q.1 q.2 (RM_cf_nr h (h36 s)) (keep s _ hN) mx_si_s hq (fun t q' ht _ hf => ?_)
        rw [g_K_0 (by omega)]
        exact N_end (n := 0) (RM_cf_nr (RM_cf_nr h (h36 s)) hf) hrl (by omega) (by omega) (hy t ht ((h36 s).tr hf))
      · rw [if_neg hj] at hP
        cases hP
end
