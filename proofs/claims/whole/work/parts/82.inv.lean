def RCall (G : gSt) (s : mSt) : Prop := RC_cf G s ∧ RC_bt G s ∧ RC_lg G s ∧ RC_vs (g_WM G) G s ∧ s.1 0 0 0 = nI G.1 ∧ (g_ac G = true → RTa G s ∧ RL s (g_rs G).length (g_lev (g_rs G)))
def RMall (G : gSt) (s : mSt) : Prop := RM_cf G s ∧ RM_bt G s ∧ RM_lg G s ∧ s.1 18 0 0 = nI G.1 ∧ (g_ac G = true → ∀ r, r < 9 → s.1 28 0 r = nI (g_lev (g_rs G) r))
def gI (G : gSt) : Prop := g_okK G ∧ g_wl G ∧ g_oke G ∧ (g_ac G = true → g_acc (g_rs G))
section
variable {scr : mSc} {d : Nat} {G : gSt} {s t : mSt} {Q : Nat → Nat → Nat → Prop}
theorem RC_bt_f2 (h : RC_bt G s) (hf : mx_fr Q s t) (h1 : ¬ Q 0 0 3) (h2 : ∀ j, ¬ Q 10 0 j) : RC_bt G t := ⟨h.1, (hf.1 _ _ _ h1).trans h.2.1, fun i c hc => (hf.1 _ _ _ (h2 i)).trans (h.2.2 i c hc)⟩
theorem RCall_fr (h : RCall G s) (hf : mx_fr Q s t) (hQ : ∀ f i j, Q f i j → 18 ≤ f) : RCall G t := by
  obtain ⟨h1, h2, h3, h4, h5, h6⟩ := h
  have n : ∀ f i j, f < 18 → ¬ Q f i j := fun f i j hf h => by have := hQ f i j h; omega
  refine ⟨RC_cf_fr h1 hf (n _ _ _ (by omega)) (n _ _ _ (by omega)) (fun i j _ => n _ _ _ (by omega)) (fun i j => n _ _ _ (by omega)), RC_bt_f2 h2 hf (n _ _ _ (by omega)) (fun j => n _ _ _ (by omega)), RC_lg_f2 h3 hf (n _ _ _ (by omega)) (n _ _ _ (by omega)) (fun j => n _ _ _ (by omega)), RC_vs_fr h4 hf (fun v j => n _ _ _ (by omega)) (fun v j => n _ _ _ (by omega)) (fun v j => n _ _ _ (by omega)), (hf.1 _ _ _ (n _ _ _ (by omega))).trans h5, fun hac => ⟨RTa_fr (h6 hac).1 hf (fun r j _ => n _ _ _ (by omega)) (fun f r j hj => n _ _ _ (by omega)), fun r hr => (hf.1 _ _ _ (n _ _ _ (by omega))).trans ((h6 hac).2 r hr)⟩⟩
theorem RMall_fr (h : RMall G s) (hf : mx_fr Q s t) (hQ : ∀ f i j, Q f i j → f < 18 ∨ f = 38) : RMall G t := by
  obtain ⟨h1, h2, h3, h4, h5⟩ := h
  have n : ∀ f i j, 18 ≤ f → f < 38 → ¬ Q f i j := fun f i j hf hf2 h => by have := hQ f i j h; omega
  exact ⟨RM_cf_fr h1 hf (n _ _ _ (by omega) (by omega)) (n _ _ _ (by omega) (by omega)) (fun f j a b => n _ _ _ (by omega) (by omega)), RM_bt_fr h2 hf (n _ _ _ (by omega) (by omega)) (fun j => n _ _ _ (by omega) (by omega)), RM_lg_fr h3 hf (n _ _ _ (by omega) (by omega)) (n _ _ _ (by omega) (by omega)) (n _ _ _ (by omega) (by omega)) (fun j => n _ _ _ (by omega) (by omega)) (fun j => n _ _ _ (by omega) (by omega)), (hf.1 _ _ _ (n _ _ _ (by omega) (by omega))).trans h4, fun hac r hr => (hf.1 _ _ _ (n _ _ _ (by omega) (by omega))).trans (h5 hac r hr)⟩
theorem RQ_of (h : RCall G s) (hg : gI G) : RQ G s := ⟨hg.2.1, h.2.2.1, h.2.2.2.1, h.1, fun hac => ⟨hg.2.2.2 hac, h.1, h.2.2.2.2.2 hac⟩, h.2.2.2.2.1, hg.1⟩
theorem RP_of (h : RMall G s) (hg : gI G) : RP G s := ⟨hg.2.1, hg.2.2.1, h.2.2.1, h.1, fun hac => ⟨hg.2.2.2 hac, h.1, h.2.2.1, h.2.2.2.2 hac⟩, h.2.2.2.1, hg.1⟩
theorem RCall_q {u : mSt} (h : RCall G s) (hv : RC_vs (g_WM G) G u) (hf : mx_fr F_q s u) : RCall G u := by
  obtain ⟨h1, h2, h3, h4, h5, h6⟩ := h
  have n : ∀ f i j, ¬ (14 ≤ f ∧ f ≤ 17) → ¬ F_q f i j := fun f i j hn h => by unfold F_q at h; omega
  exact ⟨RC_cf_fr h1 hf (n _ _ _ (by omega)) (n _ _ _ (by omega)) (fun i j _ => n _ _ _ (by omega)) (fun i j => n _ _ _ (by omega)), RC_bt_f2 h2 hf (n _ _ _ (by omega)) (fun j => n _ _ _ (by omega)), RC_lg_f2 h3 hf (n _ _ _ (by omega)) (n _ _ _ (by omega)) (fun j => n _ _ _ (by omega)), hv, (hf.1 _ _ _ (n _ _ _ (by omega))).trans h5, fun hac => ⟨RTa_fr (h6 hac).1 hf (fun r j _ => n _ _ _ (by omega)) (fun f r j hj => n _ _ _ (by omega)), fun r hr => (hf.1 _ _ _ (n _ _ _ (by omega))).trans ((h6 hac).2 r hr)⟩⟩
theorem RMall_q {u : mSt} (h : RMall G s) (hf : mx_fr F_mq s u) : RMall G u := by
  obtain ⟨h1, h2, h3, h4, h5⟩ := h
  have n : ∀ f i j, ¬ ((f = 18 ∧ (j = 1 ∨ j = 21)) ∨ (32 ≤ f ∧ f ≤ 37)) → ¬ F_mq f i j := fun f i j hn h => hn h
  exact ⟨RM_cf_fr h1 hf (n _ _ _ (by omega)) (n _ _ _ (by omega)) (fun f j a b => n _ _ _ (by omega)), RM_bt_fr h2 hf (n _ _ _ (by omega)) (fun j => n _ _ _ (by omega)), RM_lg_fr h3 hf (n _ _ _ (by omega)) (n _ _ _ (by omega)) (n _ _ _ (by omega)) (fun j => n _ _ _ (by omega)) (fun j => n _ _ _ (by omega)), (hf.1 _ _ _ (n _ _ _ (by omega))).trans h4, fun hac r hr => (hf.1 _ _ _ (n _ _ _ (by omega))).trans (h5 hac r hr)⟩
theorem F_q_lt {f i j : Nat} (h : F_q f i j) : f < 18 ∨ f = 38 := by
  unfold F_q at h
  omega
theorem F_mq_ge {f i j : Nat} (h : F_mq f i j) : 18 ≤ f := by
  unfold F_mq at h
  omega
def F_38 (f _ _ : Nat) : Prop := f = 38
theorem out_all {x : Int64} {u : mSt} (e : u = mx_sl s 38 0 ((0 : Int32)).toNatClampNeg x) : mx_fr F_38 s u ∧ u.2.1 38 0 0 = x := by
  have e : u = mx_sl s 38 0 0 x := e
  rw [e]
  exact ⟨mx_fr.sl rfl, mx_sl_s⟩
theorem RCall_38 (h : RCall G s) (hf : mx_fr F_38 s t) : RCall G t := RCall_fr h hf (fun f i j h => by unfold F_38 at h; omega)
theorem RMall_38 (h : RMall G s) (hf : mx_fr F_38 s t) : RMall G t := RMall_fr h hf (fun f i j h => Or.inr h)
theorem L_cmp {k b : Int32} {NX : mSt → Prop} (hk : s.1 18 0 1 = k) (hb : k = 0 → s.2.1 38 0 0 = b.toInt64) (hx : NX s) : X_Md_thrown scr (d + 1) s (fun r84 s83 => ((r84 = k → ((k = 0 → (vp_in (0 : Int32) 1 ∧ (((lg_cmp (s83.2.1 38 0 ((0 : Int32)).toNatClampNeg) (b).toInt64) = 0 → NX s83) ∧ (¬ (lg_cmp (s83.2.1 38 0 ((0 : Int32)).toNatClampNeg) (b).toInt64) = 0 → (mx_nr .boolean (0 : Int32) ∧ lw_pq (0 : Int32) s83))))) ∧ (¬ k = 0 → NX s83))) ∧ (¬ r84 = k → (mx_nr .boolean (0 : Int32) ∧ lw_pq (0 : Int32) s83)))) := w_Md_thrown ⟨fun _ => ⟨fun h0 => ⟨pk_in 0 1 (by omega), fun _ => hx, fun h => absurd (c_0.mpr (hb h0)) h⟩, fun _ => hx⟩, fun h => absurd hk h⟩
theorem L_cmpb {k b : Int32} {NX : mSt → Prop} (hk : s.1 18 0 1 = k) (hb : k = 0 → s.2.1 38 0 0 = if b = 0 then 0 else 1) (hx : NX s) : X_Md_thrown scr (d + 1) s (fun r36 s35 => ((r36 = k → ((k = 0 → (vp_in (0 : Int32) 1 ∧ ((b = 0 → (((lg_cmp (s35.2.1 38 0 ((0 : Int32)).toNatClampNeg) (0 : Int64)) = 0 → NX s35) ∧ (¬ (lg_cmp (s35.2.1 38 0 ((0 : Int32)).toNatClampNeg) (0 : Int64)) = 0 → (mx_nr .boolean (0 : Int32) ∧ lw_pq (0 : Int32) s35)))) ∧ (¬ b = 0 → (((lg_cmp (s35.2.1 38 0 ((0 : Int32)).toNatClampNeg) (1 : Int64)) = 0 → NX s35) ∧ (¬ (lg_cmp (s35.2.1 38 0 ((0 : Int32)).toNatClampNeg) (1 : Int64)) = 0 → (mx_nr .boolean (0 : Int32) ∧ lw_pq (0 : Int32) s35))))))) ∧ (¬ k = 0 → NX s35))) ∧ (¬ r36 = k → (mx_nr .boolean (0 : Int32) ∧ lw_pq (0 : Int32) s35)))) := w_Md_thrown ⟨fun _ => ⟨fun h0 => ⟨pk_in 0 1 (by omega), fun e => ⟨fun _ => hx, fun h => absurd (c_0.mpr (by have h9 := hb h0; rw [if_pos e] at h9; exact h9)) h⟩, fun e => ⟨fun _ => hx, fun h => absurd (c_0.mpr (by have h9 := hb h0; rw [if_neg e] at h9; exact h9)) h⟩⟩, fun _ => hx⟩, fun h => absurd hk h⟩
end
