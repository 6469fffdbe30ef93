section
variable {scr : mSc} {d : Nat} {G : gSt} {s u w t : mSt} {a1 a2 a3 a4 a5 a6 k : Int32}
theorem F_ac_lt {f i j : Nat} (h : F_ac f i j) : f < 18 ∨ f = 38 := by
  unfold F_ac at h
  omega
theorem F_ma_ge {f i j : Nat} (h : F_ma f i j) : 18 ≤ f := by
  unfold F_ma at h
  omega
theorem RCall_ac {G' : gSt} (h : RCall G s) (hf : mx_fr F_ac s t) (hc : RC_cf G' t) (e1 : g_bt G' = g_bt G) (e2 : g_lg G' = g_lg G) (e3 : G'.1 = G.1) (hv : RC_vs (g_WM G') G' t) (hT : g_ac G' = true → RTa G' t ∧ RL t (g_rs G').length (g_lev (g_rs G'))) : RCall G' t := by
  obtain ⟨h1, h2, h3, h4, h5, h6⟩ := h
  have n : ∀ f i j, ¬ (f = 3 ∨ f = 7 ∨ f = 8 ∨ f = 9 ∨ f = 4 ∨ (f = 5 ∧ (j = 9 ∨ j = 10 ∨ j = 11 ∨ j = 12)) ∨ (f = 1 ∧ j = 2)) → ¬ F_ac f i j := fun f i j hn h => hn h
  have b2 := RC_bt_f2 h2 hf (n _ _ _ (by omega)) (fun j => n _ _ _ (by omega))
  have b3 := RC_lg_f2 h3 hf (n _ _ _ (by omega)) (n _ _ _ (by omega)) (fun j => n _ _ _ (by omega))
  refine ⟨hc, ?_, ?_, hv, ?_, hT⟩
  · unfold RC_bt at *
    rw [e1]
    exact b2
  · unfold RC_lg at *
    rw [e2]
    exact b3
  · rw [e3]
    exact (hf.1 _ _ _ (n _ _ _ (by omega))).trans h5
theorem RC_vs_ac (h : RC_vs (g_WM G) G s) (hf : mx_fr F_ac s t) : RC_vs (g_WM G) G t := RC_vs_fr h hf (fun v j h => by unfold F_ac at h; omega) (fun v j h => by unfold F_ac at h; omega) (fun v j h => by unfold F_ac at h; omega)
theorem RC_vs_A (hac : g_ac G = false) (h : RC_vs (g_WM G) G s) : RC_vs (g_WM (g_wA G)) (g_wA G) s := by
  intro v hv
  rcases h v hv with h | ⟨t, h1, h2, h3, h4, h5⟩
  · exact Or.inl h
  · refine Or.inr ⟨t, h1, h2, h3, h4, ?_⟩
    rcases h5 with h5 | ⟨-, h5, -⟩
    · exact Or.inl h5
    · rw [hac] at h5
      cases h5
theorem gI_A (h : gI G) (ha : g_acc (g_rs G)) : gI (g_wA G) := ⟨h.1, ⟨h.2.1.1, h.2.1.2.1, fun h => by cases h⟩, h.2.2.1, fun _ => ha⟩
def mA (G : gSt) (k : Int32) (u : mSt) : Prop := (k = 1 ∧ (g_ac G = true ∨ g_rs G = []) ∧ RCall G u ∧ RMall G u) ∨ (k = 2 ∧ g_ac G = false ∧ ¬ g_rs G = [] ∧ (∃ (r : Nat) (rl : gRl), (g_rs G)[r]? = some rl ∧ g_rule (g_rs G) rl = none) ∧ RCall G u ∧ RMall G u) ∨ (k = 3 ∧ g_ac G = false ∧ ¬ g_rs G = [] ∧ (∀ (r : Nat) rl, (g_rs G)[r]? = some rl → ∃ P, g_rule (g_rs G) rl = some P) ∧ g_ring (g_rs G) ∧ RCall G u ∧ RMall G u) ∨ (k = 0 ∧ g_ac G = false ∧ ¬ g_rs G = [] ∧ g_acc (g_rs G) ∧ RCall (g_wA G) u ∧ RMall G u ∧ u.2.1 38 0 0 = (nI (g_rs G).length).toInt64)
theorem T_accept {post : Int32 → mSt → Prop} (h : INV G s) (hy : ∀ k u, mA G k u → post k u) : X_Lw_accept scr (d + 19) s post := by
  have bad : ∀ t, g_ac G = false → RC_cf G t → mx_fr F_ac s t → RCall G t ∧ RMall G t := fun t hac hc hf => ⟨RCall_ac h.1 hf hc rfl rfl rfl (RC_vs_ac h.1.2.2.2.1 hf) (fun h9 => by rw [hac] at h9; cases h9), RMall_fr h.2.1 hf (fun f i j h => F_ac_lt h)⟩
  refine w_Lw_accept (S_Rs_accept h.1.1 (fun e => ⟨fun _ _ => hy 1 s (Or.inl ⟨rfl, e, h.1, h.2.1⟩), fun h => absurd h (by decide), fun h => absurd h (by decide)⟩) (fun t r rl k1 k2 k3 k4 k5 k6 => ⟨fun h => absurd h (by decide), fun _ _ => hy 2 t (Or.inr (Or.inl ⟨rfl, k1, k2, ⟨r, rl, k3, k4⟩, bad t k1 k5 k6⟩)), fun h => absurd h (by decide)⟩) (fun t k1 k2 k3 k4 k5 k6 => ⟨fun h => absurd h (by decide), fun h => absurd h (by decide), fun _ _ => hy 3 t (Or.inr (Or.inr (Or.inl ⟨rfl, k1, k2, k3, k4, bad t k1 k5 k6⟩)))⟩) (fun t k1 k2 k3 k4 k5 k6 k7 => ⟨pk_in 0 1 (by omega), fun w e => ?_⟩))
  obtain ⟨o1, o2⟩ := out_all e
  refine hy 0 w (Or.inr (Or.inr (Or.inr ⟨rfl, k1, k2, k3, RCall_38 ?_ o1, RMall_38 (RMall_fr h.2.1 k7 (fun f i j h => F_ac_lt h)) o1, o2⟩)))
  exact RCall_ac h.1 k7 k4 rfl rfl rfl (RC_vs_A k1 (RC_vs_ac h.1.2.2.2.1 k7)) (fun _ => ⟨k5, k6⟩)
theorem RMall_ma {G' : gSt} (h : RMall G s) (hf : mx_fr F_ma s t) (hc : RM_cf G' t) (e1 : g_bt G' = g_bt G) (e2 : g_lg G' = g_lg G) (e3 : G'.1 = G.1) (hT : g_ac G' = true → ∀ r, r < 9 → t.1 28 0 r = nI (g_lev (g_rs G') r)) : RMall G' t := by
  obtain ⟨h1, h2, h3, h4, h5⟩ := h
  have n : ∀ f i j, ¬ ((f = 18 ∧ (j = 1 ∨ j = 3)) ∨ f = 25 ∨ f = 26 ∨ f = 27 ∨ f = 28 ∨ f = 36) → ¬ F_ma f i j := fun f i j hn h => hn h
  have b2 := RM_bt_fr h2 hf (n _ _ _ (by omega)) (fun j => n _ _ _ (by omega))
  have b3 := RM_lg_fr h3 hf (n _ _ _ (by omega)) (n _ _ _ (by omega)) (n _ _ _ (by omega)) (fun j => n _ _ _ (by omega)) (fun j => n _ _ _ (by omega))
  refine ⟨hc, ?_, ?_, ?_, hT⟩
  · unfold RM_bt at *
    rw [e1]
    exact b2
  · unfold RM_lg at *
    rw [e2]
    exact b3
  · rw [e3]
    exact (hf.1 _ _ _ (n _ _ _ (by omega))).trans h4
theorem U_accept {post : Int32 → mSt → Prop} (hg : gI G) (h : mA G k u) (hy : ∀ G' b w, INV G' w → w.1 18 0 1 = k → (k = 0 → w.2.1 38 0 0 = b.toInt64) → post b w) : X_Md_accept scr (d + 6) u post := by
  have o38 : ∀ {w : mSt}, mx_fr F_ma u w → w.2.1 38 0 0 = u.2.1 38 0 0 := fun hf => hf.2.1 38 0 0 (fun h => by unfold F_ma at h; omega)
  have key : ∀ (v : Int32) (w : mSt), RCall G u → RMall G u → k = v → ¬ v = 0 → w.1 18 0 1 = v → RM_cf G w → mx_fr F_ma u w → (g_ac G = true → ∀ r, r < 9 → w.1 28 0 r = nI (g_lev (g_rs G) r)) → post 0 w := fun v w hC hM e hv z hc hf hlv => hy G 0 w ⟨RCall_fr hC hf (fun f i j h => F_ma_ge h), RMall_ma hM hf hc rfl rfl rfl hlv, hg⟩ (z.trans e.symm) (fun h0 => absurd (e.symm.trans h0) hv)
  rcases h with ⟨e, hc, hC, hM⟩ | ⟨e, hac, hne, ⟨r, rl, hr1, hr2⟩, hC, hM⟩ | ⟨e, hac, hne, hall, hring, hC, hM⟩ | ⟨e, hac, hne, hacc, hC, hM, ho⟩
  · have no : g_ac G = false → ¬ g_rs G = [] → False := fun h1 h2 => by
      rcases hc with hc | hc
      · rw [h1] at hc
        cases hc
      · exact h2 hc
    exact S_Md_accept hM.1 (fun t _ z _ hf => hy G 0 t ⟨RCall_fr hC hf (fun f i j h => by have := h.1; omega), RMall_q hM (hf.mono (fun f i j h => F_mq_mo h)), hg⟩ (z.trans e.symm) (fun h0 => absurd (e.symm.trans h0) (by decide))) (fun t r' rl' h1 h2 _ _ _ _ _ => (no h1 h2).elim) (fun t h1 h2 _ _ _ _ _ => (no h1 h2).elim) (fun t h1 h2 _ _ _ _ _ => (no h1 h2).elim)
  · refine S_Md_accept hM.1 (fun t hc _ _ _ => ?_) (fun t r' rl' _ _ _ _ z hc hf => key 2 t hC hM e (by decide) z hc hf (fun h9 => by rw [hac] at h9; cases h9)) (fun t _ _ hall _ _ _ _ => ?_) (fun t _ _ hacc _ _ _ _ => ?_)
    · rcases hc with hc | hc
      · rw [hac] at hc
        cases hc
      · exact absurd hc hne
    · obtain ⟨P, hP⟩ := hall r rl hr1
      rw [hr2] at hP
      cases hP
    · obtain ⟨P, hP⟩ := hacc.1 r rl hr1
      rw [hr2] at hP
      cases hP
  · refine S_Md_accept hM.1 (fun t hc _ _ _ => ?_) (fun t r' rl' _ _ h1 h2 _ _ _ => ?_) (fun t _ _ _ _ z hc hf => key 3 t hC hM e (by decide) z hc hf (fun h9 => by rw [hac] at h9; cases h9)) (fun t _ _ hacc _ _ _ _ => absurd hring hacc.2)
    · rcases hc with hc | hc
      · rw [hac] at hc
        cases hc
      · exact absurd hc hne
    · obtain ⟨P, hP⟩ := hall r' rl' h1
      rw [h2] at hP
      cases hP
  · refine S_Md_accept hM.1 (fun t hc _ _ _ => ?_) (fun t r' rl' _ _ h1 h2 _ _ _ => ?_) (fun t _ _ _ hring _ _ _ => absurd hring hacc.2) (fun t _ _ _ z hc hL hf => hy (g_wA G) _ t ⟨RCall_fr hC hf (fun f i j h => F_ma_ge h), RMall_ma hM hf hc rfl rfl rfl (fun _ => hL), gI_A hg hacc⟩ (z.trans e.symm) (fun _ => (o38 hf).trans ho))
    · rcases hc with hc | hc
      · rw [hac] at hc
        cases hc
      · exact absurd hc hne
    · obtain ⟨P, hP⟩ := hacc.1 r' rl' h1
      rw [h2] at hP
      cases hP
theorem F_ch_lt {f i j : Nat} (h : F_ch f i j) : f < 18 ∨ f = 38 := by
  unfold F_ch at h
  omega
theorem F_mb_ge {f i j : Nat} (h : F_mb f i j) : 18 ≤ f := by
  unfold F_mb at h
  omega
theorem RCall_B {l : List gCh} (h : RCall G s) (hf : mx_fr F_ch s t) (hb : RC_bt (g_wB G l) t) : RCall (g_wB G l) t := by
  obtain ⟨h1, h2, h3, h4, h5, h6⟩ := h
  have n : ∀ f i j, ¬ ((f = 0 ∧ j = 3) ∨ f = 10) → ¬ F_ch f i j := fun f i j hn h => hn h
  exact ⟨RC_cf_fr (G := G) h1 hf (n _ _ _ (by omega)) (n _ _ _ (by omega)) (fun i j _ => n _ _ _ (by omega)) (fun i j => n _ _ _ (by omega)), hb, RC_lg_f2 (G := G) h3 hf (n _ _ _ (by omega)) (n _ _ _ (by omega)) (fun j => n _ _ _ (by omega)), RC_vs_fr (W := g_WM G) (G := G) h4 hf (fun v j => n _ _ _ (by omega)) (fun v j => n _ _ _ (by omega)) (fun v j => n _ _ _ (by omega)), (hf.1 _ _ _ (n _ _ _ (by omega))).trans h5, fun hac => ⟨RTa_fr (G := G) (h6 hac).1 hf (fun r j _ => n _ _ _ (by omega)) (fun f r j hj => n _ _ _ (by omega)), fun r hr => (hf.1 _ _ _ (n _ _ _ (by omega))).trans ((h6 hac).2 r hr)⟩⟩
theorem RMall_B {l : List gCh} (h : RMall G s) (hf : mx_fr F_mb s t) (hb : RM_bt (g_wB G l) t) : RMall (g_wB G l) t := by
  obtain ⟨h1, h2, h3, h4, h5⟩ := h
  have n : ∀ f i j, ¬ ((f = 18 ∧ (j = 1 ∨ j = 19)) ∨ f = 31) → ¬ F_mb f i j := fun f i j hn h => hn h
  exact ⟨RM_cf_fr (G := G) h1 hf (n _ _ _ (by omega)) (n _ _ _ (by omega)) (fun f j a b => n _ _ _ (by omega)), hb, RM_lg_fr (G := G) h3 hf (n _ _ _ (by omega)) (n _ _ _ (by omega)) (n _ _ _ (by omega)) (fun j => n _ _ _ (by omega)) (fun j => n _ _ _ (by omega)), (hf.1 _ _ _ (n _ _ _ (by omega))).trans h4, fun hac r hr => (hf.1 _ _ _ (n _ _ _ (by omega))).trans (h5 hac r hr)⟩
theorem gI_B {l : List gCh} (h : gI G) (hl : ∀ c ∈ l, g_wu G c.2) (hac : g_ac G = false → l = []) : gI (g_wB G l) := ⟨h.1, ⟨hl, h.2.1.2.1, fun h9 => ⟨hac h9, (h.2.1.2.2 h9).2⟩⟩, h.2.2.1, h.2.2.2⟩
def mH (G : gSt) (cm : Nat) (a2 a3 a4 a5 a6 k : Int32) (u : mSt) : Prop := RMall G u ∧ ((k = 1 ∧ g_ac G = false ∧ RCall G u) ∨ (k = 2 ∧ g_ac G = true ∧ (∀ c, ¬ g_chg G a2 a3 a4 a5 a6 c) ∧ RCall G u) ∨ (k = 3 ∧ g_ac G = true ∧ (∃ c, g_chg G a2 a3 a4 a5 a6 c) ∧ 5 ≤ (g_bt G).length ∧ RCall G u) ∨ (k = 0 ∧ g_ac G = true ∧ (g_bt G).length < 5 ∧ ∃ c, c.1 = cm ∧ g_chg G a2 a3 a4 a5 a6 c ∧ RCall (g_wB G (g_bt G ++ [c])) u ∧ u.2.1 38 0 0 = (nI ((g_bt G).length + 1)).toInt64))
theorem T_change {post : Int32 → mSt → Prop} {cm : Nat} (h : INV G s) (h1 : a1 = nI cm) (hcm : cm < 2) (hy : ∀ k u, mH G cm a2 a3 a4 a5 a6 k u → post k u) : X_Lw_change scr (d + 6) s a1 a2 a3 a4 a5 a6 post := by
  refine w_Lw_change (S_Rs_change h1 hcm h.1.1 h.1.2.1 (fun hac => ⟨fun _ _ => hy 1 s ⟨h.2.1, Or.inl ⟨rfl, hac, h.1⟩⟩, fun h => absurd h (by decide), fun h => absurd h (by decide)⟩) (fun hac hb => ⟨fun h => absurd h (by decide), fun _ _ => hy 2 s ⟨h.2.1, Or.inr (Or.inl ⟨rfl, hac, hb, h.1⟩)⟩, fun h => absurd h (by decide)⟩) (fun c hac _ hc h5 => ⟨fun h => absurd h (by decide), fun h => absurd h (by decide), fun _ _ => hy 3 s ⟨h.2.1, Or.inr (Or.inr (Or.inl ⟨rfl, hac, ⟨c, hc⟩, h5, h.1⟩))⟩⟩) (fun c t hac e1 hc h5 hb hf => ⟨pk_in 0 1 (by omega), fun w e => ?_⟩))
  obtain ⟨o1, o2⟩ := out_all e
  exact hy 0 w ⟨RMall_38 (RMall_fr h.2.1 hf (fun f i j h => F_ch_lt h)) o1, Or.inr (Or.inr (Or.inr ⟨rfl, hac, h5, c, e1, hc, RCall_38 (RCall_B h.1 hf hb) o1, o2⟩))⟩
theorem g_lst_u {rl : gRl} {st a s' st' a' s'' : Nat} (hl : (g_rs G).length ≤ 9) (h : g_lst G rl a4 a5 a6 st a s') (h' : g_lst G rl a4 a5 a6 st' a' s'') : st = st' ∧ a = a' ∧ s' = s'' := by
  rcases h with ⟨e1, e2, -, e3, e4, e5⟩ | ⟨e1, e2, e3, e4, -, e5⟩ | ⟨e1, e2, ⟨rl2, e3⟩, -⟩ <;> rcases h' with ⟨f1, f2, -, f3, f4, f5⟩ | ⟨f1, f2, f3, f4, -, f5⟩ | ⟨f1, f2, ⟨rl3, f3⟩, -⟩
  · exact ⟨by omega, g_eqI (by omega) (by omega) (e4.symm.trans f4), by omega⟩
  · exact absurd (e1.symm.trans f1) g_d01
  · exact absurd (e1.symm.trans f1) g_d02
  · exact absurd (f1.symm.trans e1) g_d01
  · exact ⟨by omega, g_eqI (by omega) (by omega) (e4.symm.trans f4), by omega⟩
  · exact absurd (e1.symm.trans f1) g_d12
  · exact absurd (f1.symm.trans e1) g_d02
  · exact absurd (f1.symm.trans e1) g_d12
  · obtain ⟨q1, q2, -⟩ := g_node_u hl e3 f3
    exact ⟨by omega, q1, q2⟩
theorem g_chg_u {c c' : gCh} (hl : (g_rs G).length ≤ 9) (h : g_chg G a2 a3 a4 a5 a6 c) (h' : g_chg G a2 a3 a4 a5 a6 c') (e : c.1 = c'.1) : c = c' := by
  obtain ⟨-, rl, h1, h2⟩ := h
  obtain ⟨-, rl', h1', h2'⟩ := h'
  obtain ⟨q1, q2, rfl⟩ := g_node_u hl h1 h1'
  obtain ⟨q3, q4, q5⟩ := g_lst_u hl h2 h2'
  exact Prod.ext e (Prod.ext q1 (Prod.ext q2 (Prod.ext q3 (Prod.ext q4 q5))))
theorem U_change {post : Int32 → mSt → Prop} {cm : Nat} (hg : gI G) (h1 : a1 = nI cm) (hcm : cm < 2) (h : mH G cm a2 a3 a4 a5 a6 k u) (hy : ∀ G' b w, INV G' w → w.1 18 0 1 = k → (k = 0 → w.2.1 38 0 0 = b.toInt64) → post b w) : X_Md_change scr (d + 4) u a1 a2 a3 a4 a5 a6 post := by
  obtain ⟨hM, hk⟩ := h
  have hl9 := hM.1.1.1
  have o38 : ∀ {w : mSt}, mx_fr F_mb u w → w.2.1 38 0 0 = u.2.1 38 0 0 := fun hf => hf.2.1 38 0 0 (fun h => by unfold F_mb at h; omega)
  have key : ∀ (v : Int32) (w : mSt), RCall G u → k = v → ¬ v = 0 → w.1 18 0 1 = v → RM_bt G w → mx_fr F_mb u w → post 0 w := fun v w hC e hv z hb hf => hy G 0 w ⟨RCall_fr hC hf (fun f i j h => F_mb_ge h), RMall_B (l := g_bt G) hM hf hb, hg⟩ (z.trans e.symm) (fun h0 => absurd (e.symm.trans h0) hv)
  rcases hk with ⟨e, hac, hC⟩ | ⟨e, hac, hb, hC⟩ | ⟨e, hac, ⟨c, hc⟩, h5, hC⟩ | ⟨e, hac, h5, c, ec, hc, hC, ho⟩
  · exact S_Md_change h1 hcm hM.1 hM.2.1 (fun t _ z f b => key 1 t hC e (by decide) z b f) (fun t h9 _ _ _ _ => by rw [hac] at h9; cases h9) (fun c t h9 _ _ _ _ _ _ => by rw [hac] at h9; cases h9) (fun c t h9 _ _ _ _ _ _ => by rw [hac] at h9; cases h9)
  · exact S_Md_change h1 hcm hM.1 hM.2.1 (fun t h9 _ _ _ => by rw [hac] at h9; cases h9) (fun t _ _ z f b => key 2 t hC e (by decide) z b f) (fun c t _ _ h9 _ _ _ _ => absurd h9 (hb c)) (fun c t _ _ h9 _ _ _ _ => absurd h9 (hb c))
  · exact S_Md_change h1 hcm hM.1 hM.2.1 (fun t h9 _ _ _ => by rw [hac] at h9; cases h9) (fun t _ h9 _ _ _ => absurd hc (h9 c)) (fun c t _ _ _ _ z f b => key 3 t hC e (by decide) z b f) (fun c t _ _ _ h9 _ _ _ => by omega)
  · refine S_Md_change h1 hcm hM.1 hM.2.1 (fun t h9 _ _ _ => by rw [hac] at h9; cases h9) (fun t _ h9 _ _ _ => absurd hc (h9 c)) (fun c t _ _ _ h9 _ _ _ => by omega) (fun c' t _ ec' hc' _ b z f => ?_)
    obtain rfl := g_chg_u hl9 hc hc' (ec.trans ec'.symm)
    refine hy _ _ t ⟨RCall_fr hC f (fun f i j h => F_mb_ge h), RMall_B hM f b, gI_B hg (fun c' hc9 => ?_) (fun h9 => by rw [hac] at h9; cases h9)⟩ (z.trans e.symm) (fun _ => (o38 f).trans ho)
    rcases List.mem_append.mp hc9 with h9 | h9
    · exact hg.2.1.1 c' h9
    · obtain rfl := List.mem_singleton.mp h9
      exact g_chg_w hc
theorem g_at_cm {v : Nat} (hv : v ≤ (g_lg G).length) : g_at_t (g_cm G) v = g_at_t G v := by
  have e1 : g_lg (g_cm G) = g_lg G ++ [g_bt G] := rfl
  have e2 : g_ec (g_cm G) v = g_ec G v := by
    unfold g_ec
    rw [e1, List.take_append_of_le_length hv]
  unfold g_at_t g_pf
  rw [e2, e1, g_ev_app, List.take_append_of_le_length g_ec_le]
theorem RC_vs_n1 {G' : gSt} {W : (gTp → Bool) → (Nat → Int32) → Prop} (h : ∀ v, v < 8 → t.1 14 v 0 = -1) : RC_vs W G' t := fun v hv => Or.inl (h v hv)
theorem RC_vs_cm (h : RC_vs (g_WM G) G s) (hf : mx_fr F_cm s t) (ht : ∀ v, t.1 14 v 0 = s.1 14 v 0) : RC_vs (g_WM (g_cm G)) (g_cm G) t := by
  intro v hv
  rcases h v hv with h | ⟨x, h1, h2, h3, h4, h5⟩
  · exact Or.inl ((ht v).trans h)
  · have n : ∀ f i j, ¬ ((f = 0 ∧ j = 3) ∨ f = 11 ∨ f = 12 ∨ (f = 14 ∧ j = 0)) → ¬ F_cm f i j := fun f i j hn h => hn h
    have e15 : t.2.1 15 v = s.2.1 15 v := funext fun j => hf.2.1 15 v j (n _ _ _ (by omega))
    have e16 : t.1 16 v = s.1 16 v := funext fun j => hf.1 16 v j (n _ _ _ (by omega))
    refine Or.inr ⟨x, ?_, h2, (ht v).trans h3, ?_, ?_⟩
    · show x ≤ (g_lg G ++ [g_bt G]).length
      rw [List.length_append]
      omega
    · rw [g_at_cm h1, e15]
      exact h4
    · rw [g_at_cm h1, e16, hf.1 14 v 3 (n _ _ _ (by omega))]
      exact h5
theorem RCall_cm {G' : gSt} (h : RCall G s) (hf : mx_fr F_cm s t) (e1 : g_rs G' = g_rs G) (e2 : g_ac G' = g_ac G) (e3 : G'.1 = G.1) (hb : RC_bt G' t) (hl : RC_lg G' t) (hv : RC_vs (g_WM G') G' t) : RCall G' t := by
  obtain ⟨h1, h2, h3, h4, h5, h6⟩ := h
  have n : ∀ f i j, ¬ ((f = 0 ∧ j = 3) ∨ f = 11 ∨ f = 12 ∨ (f = 14 ∧ j = 0)) → ¬ F_cm f i j := fun f i j hn h => hn h
  have b1 := RC_cf_fr h1 hf (n _ _ _ (by omega)) (n _ _ _ (by omega)) (fun i j _ => n _ _ _ (by omega)) (fun i j => n _ _ _ (by omega))
  refine ⟨?_, hb, hl, hv, ?_, fun hac => ?_⟩
  · unfold RC_cf at *
    rw [e1, e2]
    exact b1
  · rw [e3]
    exact (hf.1 _ _ _ (n _ _ _ (by omega))).trans h5
  · rw [e2] at hac
    have b6 : RTa G t ∧ RL t (g_rs G).length (g_lev (g_rs G)) := ⟨RTa_fr (h6 hac).1 hf (fun r j _ => n _ _ _ (by omega)) (fun f r j hj => n _ _ _ (by omega)), fun r hr => (hf.1 _ _ _ (n _ _ _ (by omega))).trans ((h6 hac).2 r hr)⟩
    unfold RTa RTb at *
    rw [e1]
    exact b6
theorem RMall_cm {G' : gSt} (h : RMall G s) (hf : mx_fr F_mm s t) (e1 : g_rs G' = g_rs G) (e2 : g_ac G' = g_ac G) (e3 : G'.1 = G.1) (hb : RM_bt G' t) (hl : RM_lg G' t) : RMall G' t := by
  obtain ⟨h1, h2, h3, h4, h5⟩ := h
  have n : ∀ f i j, ¬ ((f = 18 ∧ (j = 1 ∨ j = 14 ∨ j = 17 ∨ j = 18 ∨ j = 19)) ∨ f = 29 ∨ f = 30) → ¬ F_mm f i j := fun f i j hn h => hn h
  have b1 := RM_cf_fr h1 hf (n _ _ _ (by omega)) (n _ _ _ (by omega)) (fun f j a b => n _ _ _ (by omega))
  refine ⟨?_, hb, hl, ?_, fun hac r hr => ?_⟩
  · unfold RM_cf at *
    rw [e1, e2]
    exact b1
  · rw [e3]
    exact (hf.1 _ _ _ (n _ _ _ (by omega))).trans h4
  · rw [e2] at hac
    rw [e1]
    exact (hf.1 _ _ _ (n _ _ _ (by omega))).trans (h5 hac r hr)
theorem F_cm_lt {f i j : Nat} (h : F_cm f i j) : f < 18 ∨ f = 38 := by
  unfold F_cm at h
  omega
theorem F_mm_ge {f i j : Nat} (h : F_mm f i j) : 18 ≤ f := by
  unfold F_mm at h
  omega
theorem gI_cm (h : gI G) (hne : ¬ g_bt G = []) (hok : g_oke (g_cm G)) : gI (g_cm G) := by
  refine ⟨h.1, ⟨fun c hc => ?_, fun b hb c hc => ?_, fun h9 => absurd (h.2.1.2.2 h9).1 hne⟩, hok, h.2.2.2⟩
  · have hc : c ∈ ([] : List gCh) := hc
    cases hc
  · rcases List.mem_append.mp (show b ∈ g_lg G ++ [g_bt G] from hb) with h9 | h9
    · exact h.2.1.2.1 b h9 c hc
    · obtain rfl := List.mem_singleton.mp h9
      exact h.2.1.1 c hc
def cN (G : gSt) : Prop := g_bt G = [] ∨ 120 < (g_fl (g_lg G)).length + (g_bt G).length + 1
def mC' (G : gSt) (a1 k : Int32) (u : mSt) : Prop := RMall G u ∧ ((k = 1 ∧ cN G ∧ RCall G u) ∨ (k = 0 ∧ ¬ cN G ∧ (∃ w, w < (g_bt G).length + 1 ∧ a1 = nI w) ∧ RCall (g_wB G []) u ∧ u.2.1 38 0 0 = ((-1 : Int32)).toInt64) ∨ (k = 0 ∧ ¬ cN G ∧ (a1 < 0 ∨ nI ((g_bt G).length + 1) ≤ a1) ∧ RCall (g_cm G) u ∧ u.2.1 38 0 0 = (nI ((g_lg G).length + 1)).toInt64))
theorem cN_no (h1 : ¬ g_bt G = []) (h2 : (g_fl (g_lg G)).length + (g_bt G).length + 1 ≤ 120) : ¬ cN G := fun h => h.elim h1 (fun h => by omega)
theorem T_commit {post : Int32 → mSt → Prop} (h : INV G s) (hy : ∀ k u, mC' G a1 k u → post k u) : X_Lw_commit scr (d + 4) s a1 post := by
  refine w_Lw_commit (S_Rs_commit h.1.2.1 h.1.2.2.1 (fun hn => ⟨fun h => absurd h (by decide), fun h => absurd h (by decide), fun _ _ => hy 1 s ⟨h.2.1, Or.inl ⟨rfl, hn, h.1⟩⟩⟩) (fun x t k1 k2 k3 k4 k5 k6 k7 k8 => ⟨pk_in 0 1 (by omega), fun w e => ?_⟩) (fun t k1 k3 k4 k5 k6 k7 k8 => ⟨pk_in 0 1 (by omega), fun w e => ?_⟩))
  · obtain ⟨o1, o2⟩ := out_all e
    exact hy 0 w ⟨RMall_38 (RMall_fr h.2.1 k7 (fun f i j h => F_cm_lt h)) o1, Or.inr (Or.inl ⟨rfl, cN_no k3 k4, ⟨x, k1, k2⟩, RCall_38 (RCall_cm h.1 k7 rfl rfl rfl k5 k6 (RC_vs_n1 k8)) o1, o2⟩)⟩
  · obtain ⟨o1, o2⟩ := out_all e
    refine hy 0 w ⟨RMall_38 (RMall_fr h.2.1 k7 (fun f i j h => F_cm_lt h)) o1, Or.inr (Or.inr ⟨rfl, cN_no k3 k4, k1, RCall_38 (RCall_cm h.1 k7 rfl rfl rfl k5 k6 ?_) o1, o2⟩)⟩
    rcases k8 with k8 | k8
    · exact RC_vs_n1 k8
    · exact RC_vs_cm h.1.2.2.2.1 k7 k8
theorem cut_no {x n : Nat} (hn : n ≤ 6) (h1 : x < n) (h2 : a1 = nI x) : ¬ (a1 < 0 ∨ nI n ≤ a1) := by
  rw [h2]
  rintro (h | h)
  · exact nI_pos (by omega) h
  · exact nI_ge (a := x) (b := n) h1 (by omega) h
theorem U_commit {post : Int32 → mSt → Prop} (hg : gI G) (h : mC' G a1 k u) (hy : ∀ G' b w, INV G' w → w.1 18 0 1 = k → (k = 0 → w.2.1 38 0 0 = b.toInt64) → post b w) : X_Md_commit scr (d + 1) u a1 post := by
  obtain ⟨hM, hk⟩ := h
  have h5 := hM.2.1.1.1
  have o38 : ∀ {w : mSt}, mx_fr F_mm u w → w.2.1 38 0 0 = u.2.1 38 0 0 := fun hf => hf.2.1 38 0 0 (fun h => by unfold F_mm at h; omega)
  refine S_Md_commit hM.2.1 hM.2.2.1 (fun t hn b l z f => ?_) (fun x t k1 k2 k3 k4 b l z f => ?_) (fun t k1 k3 k4 b l z f => ?_)
  · rcases hk with ⟨e, -, hC⟩ | ⟨-, h9, -⟩ | ⟨-, h9, -⟩
    · exact hy G 0 t ⟨RCall_fr hC f (fun f i j h => F_mm_ge h), RMall_cm hM f rfl rfl rfl b l, hg⟩ (z.trans e.symm) (fun h0 => absurd (e.symm.trans h0) (by decide))
    · exact absurd hn h9
    · exact absurd hn h9
  · rcases hk with ⟨-, h9, -⟩ | ⟨e, -, -, hC, ho⟩ | ⟨-, -, h9, -⟩
    · exact absurd h9 (cN_no k3 k4)
    · exact hy _ _ t ⟨RCall_fr hC f (fun f i j h => F_mm_ge h), RMall_cm hM f rfl rfl rfl b l, gI_B hg (fun c hc => by cases hc) (fun _ => rfl)⟩ (z.trans e.symm) (fun _ => (o38 f).trans ho)
    · exact absurd h9 (cut_no (by omega) k1 k2)
  · rcases hk with ⟨-, h9, -⟩ | ⟨-, -, ⟨x, j1, j2⟩, -⟩ | ⟨e, -, -, hC, ho⟩
    · exact absurd h9 (cN_no k3 k4)
    · exact absurd k1 (cut_no (by omega) j1 j2)
    · exact hy _ _ t ⟨RCall_fr hC f (fun f i j h => F_mm_ge h), RMall_cm hM f rfl rfl rfl b l, gI_cm hg k3 (fun b hb c hc => (hC.2.2.1.1.2 b hb).2 c hc)⟩ (z.trans e.symm) (fun _ => (o38 f).trans ho)
theorem T_crash {post : mSt → Prop} (h : INV G s) (hy : ∀ u, RCall (g_wB G []) u → RMall G u → post u) : X_Rs_crash scr (d + 2) s post := S_crash (fun t hf h0 hv => hy t (RCall_cm h.1 (hf.mono (fun f i j h => F_cm_f h)) rfl rfl rfl ⟨⟨Nat.zero_le _, fun c hc => by cases hc⟩, h0, fun i c hc => by cases hc⟩ (RC_lg_f2 (G := G) h.1.2.2.1 hf (fun h => by unfold F_forget at h; omega) (fun h => by unfold F_forget at h; omega) (fun j h => by unfold F_forget at h; omega)) (RC_vs_n1 hv)) (RMall_fr h.2.1 hf (fun f i j h => by unfold F_forget at h; omega)))
theorem U_crash {post : mSt → Prop} (hg : gI G) (hC : RCall (g_wB G []) u) (hM : RMall G u) (hy : ∀ w, INV (g_wB G []) w → post w) : X_Md_crash scr (d + 1) u post := by
  refine w_Md_crash (fun s1 e1 s2 e2 => hy s2 ?_)
  have hf : mx_fr F_mb u s2 := by
    rw [e2, e1]
    exact (mx_fr.si (Or.inl ⟨rfl, Or.inl rfl⟩)).tr (mx_fr.si (Or.inl ⟨rfl, Or.inr rfl⟩))
  exact ⟨RCall_fr hC hf (fun f i j h => F_mb_ge h), RMall_B hM hf (RM_bt_nil (by rw [e2, mx_si_s]) rfl), gI_B hg (fun c hc => by cases hc) (fun _ => rfl)⟩
theorem U_code {v : Int32} (h : INV G s) (e : t = mx_si s 18 0 1 v) : INV G t := by
  have hf : mx_fr F_mo s t := by
    rw [e]
    exact mx_fr.si ⟨rfl, rfl⟩
  exact ⟨RCall_fr h.1 hf (fun f i j h => by have := h.1; omega), RMall_q h.2.1 (hf.mono (fun f i j h => F_mq_mo h)), h.2.2⟩
end
