section
variable {scr : mSc} {G : gSt} {s : mSt}
theorem I_15 (x : Int32) : ∃ j, j < 16 ∧ x &&& 15 = nI j := by
  obtain ⟨n, -, e⟩ := wb_of32 x
  rw [e, g_a15]
  exact ⟨n % 16, Nat.mod_lt _ (by omega), rfl⟩
theorem I_bg {a b : Nat} {P : Prop} (ha : a ≤ 2000) (hb : b ≤ 40000) (h : P) : mx_bg a b mt_Lw_law P := by
  unfold mx_bg
  have e : (Nat.ble a mt_Lw_law.2.2.1 && Nat.ble b mt_Lw_law.2.2.2.1) = true := by
    rw [Bool.and_eq_true]
    exact ⟨Nat.ble_eq.mpr ha, Nat.ble_eq.mpr hb⟩
  rw [e]
  exact h
def NXT (scr : mSc) (n p c : Nat) : Prop := ∀ (G : gSt) (s : mSt) (c' : Nat), c' ≤ c → INV G s → r_Lw_law scr 40 n s (nI p) (107 + c') (3727 + 6 * c')
set_option maxRecDepth 100000 in
set_option maxHeartbeats 8000000 in
theorem L_step {n p c : Nat} (hL : scr.2.1 ≤ 3585) (hp : p + 7 ≤ scr.2.1) (hc : c < 600) (h : INV G s) (hN : NXT scr n (p + 7) (c + 1)) : r_Lw_law scr 40 (n + 1) s (nI p) (107 + c) (3727 + 6 * c) := by
  have hg := h.2.2
  have nx : ∀ G' w, INV G' w → r_Lw_law scr 40 n w (nI (p + 7)) (107 + c) (3727 + 6 * c) := fun G' w hw => hN G' w c (by omega) hw
  have ny : ∀ G' w, INV G' w → r_Lw_law scr 40 n w (nI (p + 7)) (107 + c + 1) (3727 + 6 * c + 6) := fun G' w hw => hN G' w (c + 1) (by omega) hw
  have hbg : ∀ {P : Prop}, P → mx_bg (107 + c + 1) (3727 + 6 * c + 6) mt_Lw_law P := fun hP => I_bg (by omega) (by omega) hP
  have i0 : vp_in (nI p) scr.2.1 := pk_in p scr.2.1 (by omega)
  have i1 : vp_in (nI (p + 1)) scr.2.1 := pk_in (p + 1) scr.2.1 (by omega)
  have i2 : vp_in (nI (p + 2)) scr.2.1 := pk_in (p + 2) scr.2.1 (by omega)
  have i3 : vp_in (nI (p + 3)) scr.2.1 := pk_in (p + 3) scr.2.1 (by omega)
  have i4 : vp_in (nI (p + 4)) scr.2.1 := pk_in (p + 4) scr.2.1 (by omega)
  have i5 : vp_in (nI (p + 5)) scr.2.1 := pk_in (p + 5) scr.2.1 (by omega)
  have i6 : vp_in (nI (p + 6)) scr.2.1 := pk_in (p + 6) scr.2.1 (by omega)
  have e1 : nI p + (1 : Int32) = nI (p + 1) := nI_add p 1
  have e2 : nI p + (2 : Int32) = nI (p + 2) := nI_add p 2
  have e3 : nI p + (3 : Int32) = nI (p + 3) := nI_add p 3
  have e4 : nI p + (4 : Int32) = nI (p + 4) := nI_add p 4
  have e5 : nI p + (5 : Int32) = nI (p + 5) := nI_add p 5
  have e6 : nI p + (6 : Int32) = nI (p + 6) := nI_add p 6
  have e7 : nI p + (7 : Int32) = nI (p + 7) := nI_add p 7
  refine w_Lw_law ⟨rfl, ?_⟩
  rw [show nI scr.2.1 - (7 : Int32) = nI (scr.2.1 - 7) from pk_sub (b := 7) (by omega), e1, e2, e3, e4, e5, e6, e7]
  refine pk_lt (scr.2.1 - 7) p (fun h => by omega) (fun _ => ⟨rfl, i0, ?_⟩)
  have same : ∀ {r : Int32} {w : mSt}, r_Lw_law scr 40 n w (nI (p + 7)) (107 + c) (3727 + 6 * c) → ((r = r → r_Lw_law scr 40 n w (nI (p + 7)) (107 + c) (3727 + 6 * c)) ∧ (¬ r = r → (mx_nr .boolean (0 : Int32) ∧ lw_pq (0 : Int32) w))) := fun hw => ⟨fun _ => hw, fun h => absurd rfl h⟩
  refine ⟨fun _ => ?_, fun _ => ⟨fun _ => ?_, fun _ => ⟨fun _ => ?_, fun _ => ⟨fun _ => ?_, fun _ => ⟨fun _ => ?_, fun _ => ⟨fun _ => ?_, fun _ => ⟨fun _ => ?_, fun _ => ⟨fun _ => ?_, fun _ => ⟨fun _ => ?_, fun _ => ⟨fun _ => ?_, fun _ => ⟨fun _ => ?_, fun _ => ⟨fun _ => ?_, fun _ => ⟨fun _ => ?_, fun _ => ⟨fun _ => ?_, fun _ => ⟨fun _ => ?_, fun _ => ⟨fun _ => ?_, fun _ => nx G s h⟩⟩⟩⟩⟩⟩⟩⟩⟩⟩⟩⟩⟩⟩⟩⟩
  · refine ⟨rfl, i1, rfl, i2, fun z => ⟨rfl, i3, rfl, i4, T_relation (d := 38) h (Or.inl rfl) (fun r u hr => ⟨rfl, i1, rfl, i2, fun _ => ⟨rfl, i3, rfl, i4, U_relation (d := 39) hg (Or.inl rfl) hr (fun G' w hw => same (nx G' w hw))⟩, fun h => absurd z h⟩)⟩, fun z => ⟨rfl, i3, rfl, i4, T_relation (d := 38) h (Or.inr rfl) (fun r u hr => ⟨rfl, i1, rfl, i2, fun h => absurd h z, fun _ => ⟨rfl, i3, rfl, i4, U_relation (d := 39) hg (Or.inr rfl) hr (fun G' w hw => same (nx G' w hw))⟩⟩)⟩⟩
  · exact ⟨rfl, i1, T_type (d := 38) h (char_ok _) (fun r u hr => ⟨rfl, i1, U_type (d := 39) hg (char_ok _) hr (fun G' w hw => same (nx G' w hw))⟩)⟩
  · exact ⟨rfl, i1, T_sound (d := 22) h (fun r u hr => ⟨rfl, i1, U_sound (d := 35) hg hr (fun w hw => same (nx G w hw))⟩)⟩
  · exact hbg (T_accept (d := 21) h (fun k u hk => U_accept (d := 34) hg hk (fun G' b w hw z o => L_cmp (d := 39) (NX := fun w => r_Lw_law scr 40 n w (nI (p + 7)) (107 + c + 1) (3727 + 6 * c + 6)) z o (ny G' w hw))))
  · refine ⟨rfl, i1, fun z => ⟨rfl, i2, rfl, i3, rfl, i4, rfl, i5, rfl, i6, hbg (T_change (d := 34) (cm := 0) h rfl (by omega) (fun k u hk => ⟨rfl, i1, fun _ => ⟨rfl, i2, rfl, i3, rfl, i4, rfl, i5, rfl, i6, U_change (d := 36) (cm := 0) hg rfl (by omega) hk (fun G' b w hw z o => L_cmp (d := 39) (NX := fun w => r_Lw_law scr 40 n w (nI (p + 7)) (107 + c + 1) (3727 + 6 * c + 6)) z o (ny G' w hw))⟩, fun h => absurd z h⟩))⟩, fun z => ⟨rfl, i2, rfl, i3, rfl, i4, rfl, i5, rfl, i6, hbg (T_change (d := 34) (cm := 1) h rfl (by omega) (fun k u hk => ⟨rfl, i1, fun h => absurd h z, fun _ => ⟨rfl, i2, rfl, i3, rfl, i4, rfl, i5, rfl, i6, U_change (d := 36) (cm := 1) hg rfl (by omega) hk (fun G' b w hw z o => L_cmp (d := 39) (NX := fun w => r_Lw_law scr 40 n w (nI (p + 7)) (107 + c + 1) (3727 + 6 * c + 6)) z o (ny G' w hw))⟩⟩))⟩⟩
  · exact ⟨rfl, i1, hbg (T_commit (d := 36) h (fun k u hk => ⟨rfl, i1, U_commit (d := 39) hg hk (fun G' b w hw z o => L_cmp (d := 39) (NX := fun w => r_Lw_law scr 40 n w (nI (p + 7)) (107 + c + 1) (3727 + 6 * c + 6)) z o (ny G' w hw))⟩))⟩
  · exact T_crash (d := 38) h (fun u hC hM => U_crash (d := 39) hg hC hM (fun w hw => nx _ w hw))
  · refine w_Rs_latest (d := 39) (w_Md_latest (d := 39) (fun t et => ?_))
    have ht := U_code h et
    rw [h.1.2.2.1.2.2.1, ht.2.1.2.2.1.2.2.2.1]
    exact same (nx G t ht)
  · refine w_Rs_records (d := 39) (w_Md_records (d := 39) (fun t et => ?_))
    have ht := U_code h et
    rw [h.1.2.2.1.2.1, ht.2.1.2.2.1.2.2.1]
    exact same (nx G t ht)
  · exact ⟨rfl, i1, hbg (T_tuples (d := 33) h (fun k u hk => ⟨rfl, i1, U_tuples (d := 37) hg hk (fun b w hw z o => L_cmp (d := 39) (NX := fun w => r_Lw_law scr 40 n w (nI (p + 7)) (107 + c + 1) (3727 + 6 * c + 6)) z o (ny G w hw))⟩))⟩
  · exact ⟨rfl, i1, rfl, i2, rfl, i3, rfl, i4, hbg (T_check (d := 31) h (fun k u hk => ⟨rfl, i1, rfl, i2, rfl, i3, rfl, i4, U_check (d := 34) hg hk (fun b w hw z o => L_cmpb (d := 39) (NX := fun w => r_Lw_law scr 40 n w (nI (p + 7)) (107 + c + 1) (3727 + 6 * c + 6)) z o (ny G w hw))⟩))⟩
  · exact ⟨rfl, i1, rfl, i2, rfl, i3, hbg (T_expand (d := 31) h (fun k u hk => ⟨rfl, i1, rfl, i2, rfl, i3, U_expand (d := 34) hg hk (fun b w hw z o => L_cmp (d := 39) (NX := fun w => r_Lw_law scr 40 n w (nI (p + 7)) (107 + c + 1) (3727 + 6 * c + 6)) z o (ny G w hw))⟩))⟩
  · exact ⟨rfl, i1, rfl, i2, rfl, i3, hbg (T_lookup (d := 31) h (fun k u hk => ⟨rfl, i1, rfl, i2, rfl, i3, U_lookup (d := 34) hg hk (fun b w hw z o => L_cmp (d := 39) (NX := fun w => r_Lw_law scr 40 n w (nI (p + 7)) (107 + c + 1) (3727 + 6 * c + 6)) z o (ny G w hw))⟩))⟩
  · exact ⟨rfl, i1, rfl, i2, rfl, i3, rfl, i4, rfl, i5, hbg (T_nested (d := 31) h (fun k u hk => ⟨rfl, i1, rfl, i2, rfl, i3, rfl, i4, rfl, i5, U_nested (d := 34) hg hk (fun b w hw z o => L_cmpb (d := 39) (NX := fun w => r_Lw_law scr 40 n w (nI (p + 7)) (107 + c + 1) (3727 + 6 * c + 6)) z o (ny G w hw))⟩))⟩
  · exact ⟨rfl, i1, hbg (T_watch (d := 36) h (fun k u hk => ⟨rfl, i1, U_watch (d := 37) hg hk (fun b w hw z o => L_cmp (d := 39) (NX := fun w => r_Lw_law scr 40 n w (nI (p + 7)) (107 + c + 1) (3727 + 6 * c + 6)) z o (ny G w hw))⟩))⟩
  · exact ⟨rfl, i1, rfl, i2, rfl, i3, hbg (T_watched (d := 36) h (fun k u hk => ⟨rfl, i1, rfl, i2, rfl, i3, U_watched (d := 37) hg hk (fun b w hw z o => L_cmp (d := 39) (NX := fun w => r_Lw_law scr 40 n w (nI (p + 7)) (107 + c + 1) (3727 + 6 * c + 6)) z o (ny G w hw))⟩))⟩
theorem L_end {n p u1 u2 : Nat} (hL : scr.2.1 ≤ 3585) (hp : scr.2.1 < p + 7) (hp2 : p < 2 ^ 20) : r_Lw_law scr 40 (n + 1) s (nI p) u1 u2 := by
  refine w_Lw_law ⟨rfl, ?_⟩
  exact ⟨fun _ => ⟨rfl, rfl⟩, fun h => by
    exfalso
    apply h
    have e1 := pk_sub_toInt (show scr.2.1 < 2 ^ 30 by omega) (show 7 < 2 ^ 30 by omega)
    have e2 : (nI p).toInt = p := nI_toInt (by omega)
    apply Int32.lt_iff_toInt_lt.mpr
    have e1 : (nI scr.2.1 - (7 : Int32)).toInt = (scr.2.1 : Int) - (7 : Nat) := e1
    omega⟩
theorem L_loop (hL : scr.2.1 ≤ 3585) : ∀ (m p c : Nat) (s : mSt) (G : gSt), scr.2.1 < p + 7 * (m + 1) → p ≤ 3600 → c + m ≤ 600 → INV G s → r_Lw_law scr 40 (m + 1) s (nI p) (107 + c) (3727 + 6 * c) := by
  intro m
  induction m with
  | zero => exact fun p c s G h1 h2 h3 h => L_end hL (by omega) (by omega)
  | succ m ih =>
    intro p c s G h1 h2 h3 h
    by_cases hp : p + 7 ≤ scr.2.1
    · exact L_step hL hp (by omega) h (fun G' s' c' hc' h' => ih (p + 7) c' s' G' (by omega) (by omega) (by omega) h')
    · exact L_end hL (by omega) (by omega)
end
theorem hgo : ∀ b L xs, L ≤ 3585 → lw_Go (b, L, xs) := by
  intro b L xs hL
  obtain ⟨K, hK, hk⟩ := g_k8 (lw_k (b, L, xs))
  have hI : INV (g_0 K) (mx_as (mx_il_Z (lw_k (b, L, xs))) mx_rl_Z 107) := by
    exact ⟨⟨I_cf, I_bt, I_lg, (fun v hv => Or.inl (I_vs hv)), (I_k hk).1, (fun h => (by cases h))⟩, ⟨J_cf, J_bt, J_lg, (I_k hk).2, (fun h => (by cases h))⟩, hK, ⟨(fun c hc => (by cases hc)), (fun b hb => (by cases hb)), (fun _ => ⟨rfl, rfl⟩)⟩, (fun b hb => (by cases hb)), (fun h => (by cases h))⟩
  exact lw_Go_of (scr := (b, L, xs)) (d := 40) hL (by omega) ⟨513, L_loop (scr := (b, L, xs)) hL 512 1 0 _ (g_0 K) (by show L < _; omega) (by omega) (by omega) hI⟩
