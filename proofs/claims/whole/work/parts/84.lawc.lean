section
variable {scr : mSc} {d : Nat} {G : gSt} {s u w t : mSt} {a1 a2 a3 a4 a5 a6 k : Int32}
theorem g_at_0 {v : Nat} (h : g_lg G = []) : g_at_t G v = g_tn [] := by
  unfold g_at_t g_pf
  rw [h]
  show g_tn (([].take (g_ec G v)).map Prod.fst) = g_tn []
  rw [List.take_nil]
  rfl
theorem RC_vs_0 {l : List gRl} (hac : g_ac G = false) (hlg : g_lg G = []) (h : RC_vs (g_WM G) G s) (hl : l.length ≤ 9) : RC_vs (g_WM (g_wR G l)) (g_wR G l) s := by
  intro v hv
  rcases h v hv with h | ⟨t, h1, h2, h3, h4, h5⟩
  · exact Or.inl h
  · refine Or.inr ⟨t, h1, h2, h3, ?_, ?_⟩
    · have e0 : g_at_t (g_wR G l) t = g_tn [] := g_at_0 hlg
      rw [g_at_0 hlg] at h4
      rw [e0]
      have zero : ∀ n b, n < 36 → lb (s.2.1 15 v n) b = false := fun n b hn => by
        cases h9 : lb (s.2.1 15 v n) b with
        | false => rfl
        | true =>
          obtain ⟨u, hu, e1, e2⟩ := h4.2.1 n b hn h9
          have h8 := h4.1 u hu
          rw [e1, e2, h9] at h8
          cases h8
      refine ⟨fun u hu => ?_, fun n b hn hb => ?_, h4.2.2⟩
      · rw [zero _ _ (g_nd_lt (G := g_wR G l) hl hu)]
        rfl
      · rw [zero n b hn] at hb
        cases hb
    · rcases h5 with h5 | ⟨-, h5, -⟩
      · exact Or.inl h5
      · rw [hac] at h5
        cases h5
theorem gI_R {l : List gRl} (h : gI G) (hac : g_ac G = false) : gI (g_wR G l) := by
  obtain ⟨h1, h2, h3, h4⟩ := h
  obtain ⟨e1, e2⟩ := h2.2.2 hac
  refine ⟨h1, ⟨fun c hc => ?_, fun b hb => ?_, fun _ => ⟨e1, e2⟩⟩, h3, fun h => ?_⟩
  · have hc : c ∈ g_bt G := hc
    rw [e1] at hc
    cases hc
  · have hb : b ∈ g_lg G := hb
    rw [e2] at hb
    cases hb
  · have h : g_ac G = true := h
    rw [hac] at h
    cases h
theorem RCall_R {l : List gRl} (h : RCall G s) (hg : gI G) (hac : g_ac G = false) (hc : RC_cf (g_wR G l) t) (hf : mx_fr F_cf s t) : RCall (g_wR G l) t := by
  obtain ⟨h1, h2, h3, h4, h5, h6⟩ := h
  have n : ∀ f i j, ¬ (f = 1 ∨ f = 5 ∨ f = 6) → ¬ F_cf f i j := fun f i j hn h => hn h
  refine ⟨hc, RC_bt_f2 (G := G) h2 hf (n _ _ _ (by omega)) (fun j => n _ _ _ (by omega)), RC_lg_f2 (G := G) h3 hf (n _ _ _ (by omega)) (n _ _ _ (by omega)) (fun j => n _ _ _ (by omega)), RC_vs_0 hac (hg.2.1.2.2 hac).2 (RC_vs_fr h4 hf (fun v j => n _ _ _ (by omega)) (fun v j => n _ _ _ (by omega)) (fun v j => n _ _ _ (by omega))) hc.1.1, (hf.1 _ _ _ (n _ _ _ (by omega))).trans h5, fun h => ?_⟩
  have h : g_ac G = true := h
  rw [hac] at h
  cases h
theorem RMall_R {l : List gRl} (h : RMall G s) (hac : g_ac G = false) (hc : RM_cf (g_wR G l) t) (hf : mx_fr F_mc s t) : RMall (g_wR G l) t := by
  obtain ⟨h1, h2, h3, h4, h5⟩ := h
  have n : ∀ f i j, ¬ ((f = 18 ∧ (j = 1 ∨ j = 2 ∨ j = 3)) ∨ (19 ≤ f ∧ f ≤ 24)) → ¬ F_mc f i j := fun f i j hn h => hn h
  refine ⟨hc, RM_bt_fr (G := G) h2 hf (n _ _ _ (by omega)) (fun j => n _ _ _ (by omega)), RM_lg_fr (G := G) h3 hf (n _ _ _ (by omega)) (n _ _ _ (by omega)) (n _ _ _ (by omega)) (fun j => n _ _ _ (by omega)) (fun j => n _ _ _ (by omega)), (hf.1 _ _ _ (n _ _ _ (by omega))).trans h4, fun h => ?_⟩
  have h : g_ac G = true := h
  rw [hac] at h
  cases h
theorem RMall_mc (h : RMall G s) (hc : RM_cf G t) (hf : mx_fr F_mc s t) : RMall G t := by
  obtain ⟨h1, h2, h3, h4, h5⟩ := h
  have n : ∀ f i j, ¬ ((f = 18 ∧ (j = 1 ∨ j = 2 ∨ j = 3)) ∨ (19 ≤ f ∧ f ≤ 24)) → ¬ F_mc f i j := fun f i j hn h => hn h
  exact ⟨hc, RM_bt_fr h2 hf (n _ _ _ (by omega)) (fun j => n _ _ _ (by omega)), RM_lg_fr h3 hf (n _ _ _ (by omega)) (n _ _ _ (by omega)) (n _ _ _ (by omega)) (fun j => n _ _ _ (by omega)) (fun j => n _ _ _ (by omega)), (hf.1 _ _ _ (n _ _ _ (by omega))).trans h4, fun hac r hr => (hf.1 _ _ _ (n _ _ _ (by omega))).trans (h5 hac r hr)⟩
theorem F_mc_ge {f i j : Nat} (h : F_mc f i j) : 18 ≤ f := by
  unfold F_mc at h
  omega
def mR (G : gSt) (a1 a2 a3 a4 r : Int32) (u : mSt) : Prop := (r = -1 ∧ (g_ac G = true ∨ 9 ≤ (g_rs G).length ∨ a1 < 0 ∨ ¬ a1 < 3) ∧ RCall G u ∧ RMall G u) ∨ ∃ n, r = nI (g_rs G).length ∧ g_ac G = false ∧ (g_rs G).length < 9 ∧ n < 3 ∧ a1 = nI n ∧ RCall (g_wR G (g_rs G ++ [(n, a2, a3, a4, [])])) u ∧ RMall G u
theorem T_relation {post : Int32 → mSt → Prop} (h : INV G s) (ha2 : a2 = 0 ∨ a2 = 1) (hy : ∀ r u, mR G a1 a2 a3 a4 r u → post r u) : X_Rs_relation scr (d + 2) s a1 a2 a3 a4 post := S_Rs_relation h.1.1 ha2 (fun hn => hy _ s (Or.inl ⟨rfl, hn, h.1, h.2.1⟩)) (fun n t k1 k2 k3 k4 k5 k6 => hy _ t (Or.inr ⟨n, rfl, k1, k2, k3, k4, RCall_R h.1 h.2.2 k1 k5 k6, RMall_fr h.2.1 k6 (fun f i j h => by unfold F_cf at h; omega)⟩))
theorem U_relation {post : Int32 → mSt → Prop} {r : Int32} (hg : gI G) (ha2 : a2 = 0 ∨ a2 = 1) (h : mR G a1 a2 a3 a4 r u) (hy : ∀ G' w, INV G' w → post r w) : X_Md_relation scr (d + 1) u a1 a2 a3 a4 post := by
  rcases h with ⟨rfl, hc, hC, hM⟩ | ⟨n, rfl, k1, k2, k3, k4, hC, hM⟩
  · refine S_Md_relation hM.1 ha2 (fun t _ k2 k3 k4 => hy G t ⟨RCall_fr hC k4 (fun f i j h => F_mc_ge h), RMall_mc hM k2 k4, hg⟩) (fun n t j1 j2 j3 j4 _ _ _ => ?_)
    exfalso
    rcases hc with hc | hc | hc | hc
    · rw [j1] at hc
      cases hc
    · omega
    · rw [j4] at hc
      exact nI_pos (by omega) hc
    · rw [j4] at hc
      exact hc (by
        rcases (show n = 0 ∨ n = 1 ∨ n = 2 by omega) with rfl | rfl | rfl <;> decide)
  · refine S_Md_relation hM.1 ha2 (fun t hc _ _ _ => ?_) (fun n' t j1 j2 j3 j4 j5 j6 j7 => ?_)
    · exfalso
      rcases hc with hc | hc | hc | hc
      · rw [k1] at hc
        cases hc
      · omega
      · rw [k4] at hc
        exact nI_pos (by omega) hc
      · rw [k4] at hc
        exact hc (by
          rcases (show n = 0 ∨ n = 1 ∨ n = 2 by omega) with rfl | rfl | rfl <;> decide)
    · obtain rfl := g_eqI (show n < 2 ^ 30 by omega) (show n' < 2 ^ 30 by omega) (k4.symm.trans j4)
      exact hy _ t ⟨RCall_fr hC j7 (fun f i j h => F_mc_ge h), RMall_R hM k1 j5 j7, gI_R hg k1⟩
theorem char_ok (v : Int32) : vp_nar .char ((v.toUInt32 % 65536).toInt32) = (v.toUInt32 % 65536).toInt32 := by
  rw [vp_nar_char]
  have e : (v.toUInt32 % 65536).toInt32.toUInt32 = v.toUInt32 % 65536 := rfl
  rw [e]
  congr 1
  apply UInt32.toNat_inj.mp
  rw [UInt16.toNat_toUInt32, UInt32.toNat_toUInt16, UInt32.toNat_mod]
  exact Nat.mod_mod _ _
def mT (G : gSt) (a1 r : Int32) (u : mSt) : Prop := (r = 0 ∧ (g_ac G = true ∨ g_rs G = [] ∨ (∃ l r, g_rs G = l ++ [r] ∧ 24 ≤ r.2.2.2.2.length)) ∧ RCall G u ∧ RMall G u) ∨ ∃ l rl, r = 1 ∧ g_ac G = false ∧ g_rs G = l ++ [rl] ∧ rl.2.2.2.2.length < 24 ∧ RCall (g_wR G (l ++ [g_typ rl a1])) u ∧ RMall G u
theorem T_type {post : Int32 → mSt → Prop} (h : INV G s) (hch : vp_nar .char a1 = a1) (hy : ∀ r u, mT G a1 r u → post r u) : X_Rs_type scr (d + 2) s a1 post := S_Rs_type h.1.1 hch (fun hn => hy _ s (Or.inl ⟨rfl, hn, h.1, h.2.1⟩)) (fun l r t k1 k2 k3 k4 k5 => hy _ t (Or.inr ⟨l, r, rfl, k1, k2, k3, RCall_R h.1 h.2.2 k1 k4 k5, RMall_fr h.2.1 k5 (fun f i j h => by unfold F_cf at h; omega)⟩))
theorem g_sn_u {α : Type} {l l' : List α} {a b : α} (h : l ++ [a] = l' ++ [b]) : l = l' ∧ a = b := by
  have h1 := List.append_inj' h rfl
  exact ⟨h1.1, List.head_eq_of_cons_eq h1.2⟩
theorem g_typ_no {l : List gRl} {rl : gRl} (k1 : g_ac G = false) (k2 : g_rs G = l ++ [rl]) (k3 : rl.2.2.2.2.length < 24) : ¬ (g_ac G = true ∨ g_rs G = [] ∨ (∃ l r, g_rs G = l ++ [r] ∧ 24 ≤ r.2.2.2.2.length)) := by
  rintro (h | h | ⟨l', r', h, h2⟩)
  · rw [k1] at h
    cases h
  · rw [k2] at h
    exact absurd h (by simp)
  · rw [k2] at h
    obtain ⟨-, rfl⟩ := g_sn_u h
    omega
theorem U_type {post : Int32 → mSt → Prop} {r : Int32} (hg : gI G) (hch : vp_nar .char a1 = a1) (h : mT G a1 r u) (hy : ∀ G' w, INV G' w → post r w) : X_Md_type scr (d + 1) u a1 post := by
  rcases h with ⟨rfl, hc, hC, hM⟩ | ⟨l, rl, rfl, k1, k2, k3, hC, hM⟩
  · refine S_Md_type hM.1 hch (fun t _ k2 k3 k4 => hy G t ⟨RCall_fr hC k4 (fun f i j h => F_mc_ge h), RMall_mc hM k2 k4, hg⟩) (fun l rl t j1 j2 j3 _ _ _ => absurd hc (g_typ_no j1 j2 j3))
  · refine S_Md_type hM.1 hch (fun t hc _ _ _ => absurd hc (g_typ_no k1 k2 k3)) (fun l' rl' t j1 j2 j3 j4 j5 j6 => ?_)
    rw [k2] at j2
    obtain ⟨rfl, rfl⟩ := g_sn_u j2
    exact hy _ t ⟨RCall_fr hC j6 (fun f i j h => F_mc_ge h), RMall_R hM k1 j4 j6, gI_R hg k1⟩
theorem RCall_rd {r : Nat} (h : RCall G s) (hf : mx_fr (F_rd r) s t) (hT : g_ac G = true → RTa G t) : RCall G t := by
  obtain ⟨h1, h2, h3, h4, h5, h6⟩ := h
  have n : ∀ f i j, ¬ (f = 3 ∨ f = 7 ∨ f = 8 ∨ f = 9 ∨ (f = 5 ∧ (j = 9 ∨ j = 10 ∨ j = 11))) → ¬ F_rd r f i j := fun f i j hn h => hn (by rcases h with h | ⟨-, h⟩ <;> omega)
  exact ⟨RC_cf_rd h1 hf, RC_bt_f2 h2 hf (n _ _ _ (by omega)) (fun j => n _ _ _ (by omega)), RC_lg_f2 h3 hf (n _ _ _ (by omega)) (n _ _ _ (by omega)) (fun j => n _ _ _ (by omega)), RC_vs_fr h4 hf (fun v j => n _ _ _ (by omega)) (fun v j => n _ _ _ (by omega)) (fun v j => n _ _ _ (by omega)), (hf.1 _ _ _ (n _ _ _ (by omega))).trans h5, fun hac => ⟨hT hac, fun r' hr => (hf.1 _ _ _ (n _ _ _ (by omega))).trans ((h6 hac).2 r' hr)⟩⟩
def mS (G : gSt) (a1 r : Int32) (u : mSt) : Prop := RCall G u ∧ RMall G u ∧ ((r = 0 ∧ ((∀ j, j < (g_rs G).length → ¬ a1 = nI j) ∨ ∃ (x : Nat) (rl : gRl), (g_rs G)[x]? = some rl ∧ a1 = nI x ∧ g_rule (g_rs G) rl = none)) ∨ (r = 1 ∧ ∃ (x : Nat) (rl : gRl) (P : gPr), (g_rs G)[x]? = some rl ∧ a1 = nI x ∧ g_rule (g_rs G) rl = some P))
theorem F_rd_lt {r f i j : Nat} (h : F_rd r f i j) : f < 18 ∨ f = 38 := by
  rcases h with h | ⟨-, h⟩ <;> omega
theorem T_sound {post : Int32 → mSt → Prop} (h : INV G s) (hy : ∀ r u, mS G a1 r u → post r u) : X_Rs_sound scr (d + 18) s a1 post := by
  refine S_Rs_sound h.1.1 (fun hn => hy 0 s ⟨h.1, h.2.1, Or.inl ⟨rfl, Or.inl hn⟩⟩) (fun x rl t k1 k2 k3 k4 => ?_) (fun x rl t k1 k2 k3 k4 => ?_)
  · obtain ⟨P, hP, -⟩ := id k3
    refine hy 1 t ⟨RCall_rd h.1 k4 (fun hac r' rl' hr' => ?_), RMall_fr h.2.1 k4 (fun f i j h => F_rd_lt h), Or.inr ⟨rfl, x, rl, P, k1, k2, hP⟩⟩
    by_cases e : r' = x
    · subst e
      rw [k1] at hr'
      cases hr'
      exact k3
    · exact RTb_fr ((h.1.2.2.2.2.2 hac).1 r' rl' hr') k4 e
  · refine hy 0 t ⟨RCall_rd h.1 k4 (fun hac => ?_), RMall_fr h.2.1 k4 (fun f i j h => F_rd_lt h), Or.inl ⟨rfl, Or.inr ⟨x, rl, k1, k2, k3⟩⟩⟩
    obtain ⟨P, hP⟩ := (h.2.2.2.2.2 hac).1 x rl k1
    rw [k3] at hP
    cases hP
theorem U_sound {post : Int32 → mSt → Prop} {r : Int32} (hg : gI G) (h : mS G a1 r u) (hy : ∀ w, INV G w → post r w) : X_Md_sound scr (d + 5) u a1 post := by
  obtain ⟨hC, hM, hr⟩ := h
  have hl9 := hC.1.1.1
  have fin : ∀ w, mx_fr F_mo u w → INV G w := fun w hf => ⟨RCall_fr hC hf (fun f i j h => by have := h.1; omega), RMall_q hM (hf.mono (fun f i j h => F_mq_mo h)), hg⟩
  have uq : ∀ (x y : Nat) (rl rl' : gRl), (g_rs G)[x]? = some rl → (g_rs G)[y]? = some rl' → a1 = nI x → a1 = nI y → rl = rl' := fun x y rl rl' h1 h2 e1 e2 => by
    have l1 := g_len_get h1
    have l2 := g_len_get h2
    obtain rfl := g_eqI (show x < 2 ^ 30 by omega) (show y < 2 ^ 30 by omega) (e1.symm.trans e2)
    rw [h1] at h2
    exact Option.some.inj h2
  refine S_Md_sound hM.1 (fun t hn _ hf => ?_) (fun x rl P t k1 k2 k3 _ hf => ?_) (fun x rl t k1 k2 k3 _ hf => ?_)
  · rcases hr with ⟨rfl, -⟩ | ⟨rfl, x, rl, P, k1, k2, -⟩
    · exact hy t (fin t hf)
    · exact absurd k2 (hn x (g_len_get k1))
  · rcases hr with ⟨rfl, hr | ⟨y, rl', j1, j2, j3⟩⟩ | ⟨rfl, -⟩
    · exact absurd k2 (hr x (g_len_get k1))
    · rw [uq x y rl rl' k1 j1 k2 j2, j3] at k3
      cases k3
    · exact hy t (fin t hf)
  · rcases hr with ⟨rfl, -⟩ | ⟨rfl, y, rl', P, j1, j2, j3⟩
    · exact hy t (fin t hf)
    · rw [uq x y rl rl' k1 j1 k2 j2, j3] at k3
      cases k3
end
