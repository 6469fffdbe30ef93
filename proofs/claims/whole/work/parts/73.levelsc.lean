theorem g_lev_le {rs : List gRl} (h : ¬ g_ring rs) (r : Nat) : g_lev rs r ≤ rs.length := Nat.le_trans ((g_lev_ok h).2 _ (g_sol_h g_N_lt (fun _ _ => g_B_N) h) r) (g_cnt_le _)
def RL (s : mSt) (n : Nat) (L : Nat → Nat) : Prop := ∀ r, r < n → s.1 5 r 12 = nI (L r)
def F_12 (f _ j : Nat) : Prop := f = 5 ∧ j = 12
section
variable {scr : mSc} {d : Nat} {G : gSt} {s t : mSt}
theorem RC_cf_12 (h : RC_cf G s) (hf : mx_fr F_12 s t) : RC_cf G t := RC_cf_fr h hf (fun h => by cases h.1) (fun h => by cases h.1) (fun i j hj h => by have := h.2; omega) (fun i j h => by cases h.1)
theorem RTa_12 (h : RTa G s) (hf : mx_fr F_12 s t) : RTa G t := RTa_fr h hf (fun r j hj h => by have := h.2; omega) (fun f r j h1 h => by have := h.1; omega)
theorem S_max {post : Int32 → mSt → Prop} {a b : Nat} (ha : a < 2 ^ 30) (hb : b < 2 ^ 30) (h : ∀ v, a ≤ v → b ≤ v → (v = a ∨ v = b) → post (nI v) s) : X_Ma_max scr (d + 1) s (nI a) (nI b) post := w_Ma_max (pk_lt a b (fun h1 => h b (by omega) (by omega) (Or.inr rfl)) (fun h1 => h a (by omega) (by omega) (Or.inl rfl)))
theorem S_above_7 {post : Int32 → mSt → Prop} {ex : Nat → mSt → Prop} {r : Nat} {L : Nat → Nat} (hr : r < (g_rs G).length) (hg : ¬ g_ring (g_rs G)) (h : RC_cf G s) (hT : RTa G s) (hL : RL s (g_rs G).length L) (hle : ∀ y, y < (g_rs G).length → L y ≤ g_lev (g_rs G) y) (hy : ∀ v, L r ≤ v → v ≤ g_lev (g_rs G) r → (∀ y, (g_N (g_rs G) r y → L y ≤ v) ∧ (g_B (g_rs G) r y → L y + 1 ≤ v)) → post (nI v) s) : ∀ (m x v : Nat), x + m = (g_rs G).length → L r ≤ v → v ≤ g_lev (g_rs G) r → (∀ y, y < x → (g_N (g_rs G) r y → L y ≤ v) ∧ (g_B (g_rs G) r y → L y + 1 ≤ v)) → r_Cf_levelAbove_7 scr (d + 1) r post ex (m + 1) s (nI v) (nI x) := by
  have hl := h.1.1
  have hlev := g_lev_le hg r
  have hsol := (g_lev_ok hg).1
  intro m
  induction m with
  | zero =>
    intro x v hx h1 h2 h3
    obtain rfl : x = (g_rs G).length := by omega
    exact w_Cf_levelAbove_7 (pk_le (g_rs G).length (g_rs G).length (fun _ => hy v h1 h2 (fun y => ⟨fun hn => (h3 y (g_N_lt _ _ hn).2).1 hn, fun hb => (h3 y (g_N_lt _ _ (g_B_N hb)).2).2 hb⟩)) (fun h => by omega) h.2.1 rfl)
  | succ m ih =>
    intro x v hx h1 h2 h3
    refine w_Cf_levelAbove_7 (pk_le (g_rs G).length x (fun h => by omega) (fun hxl => ?_) h.2.1 rfl)
    have hx9 : x < 9 := by omega
    have hNB := RTa_N hT hr hx9
    have hLx := hL x hxl
    have hlx := hle x hxl
    have hlx2 := g_lev_le hg x
    rw [show nI x + (1 : Int32) = nI (x + 1) from nI_1 x, pk_cl (x := nI x) x]
    have go : ∀ v', v ≤ v' → v' ≤ g_lev (g_rs G) r → ((g_N (g_rs G) r x → L x ≤ v') ∧ (g_B (g_rs G) r x → L x + 1 ≤ v')) → r_Cf_levelAbove_7 scr (d + 1) r post ex (m + 1) s (nI v') (nI (x + 1)) := fun v' g1 g2 g3 => by
      refine ih (x + 1) v' (by omega) (by omega) g2 (fun y hy9 => ?_)
      by_cases e : y = x
      · subst e
        exact g3
      · have := h3 y (by omega)
        exact ⟨fun hn => by have := this.1 hn; omega, fun hb => by have := this.2 hb; omega⟩
    refine S_hasBit (fun hb => ⟨fun _ => S_hasBit (fun hb2 => ⟨fun _ => ?_, fun h => absurd rfl h⟩) (fun hb2 => ?_), fun h => absurd rfl h⟩) (fun hb => ⟨fun h => absurd h (by decide), fun _ => ⟨pk_in x 9 hx9, ?_⟩⟩)
    · have hn : ¬ g_N (g_rs G) r x := fun h => hb ((g_bit_bt (by omega)).mpr (hNB.1.mpr h))
      exact go v (Nat.le_refl _) h2 ⟨fun h => absurd h hn, fun h => absurd (g_B_N h) hn⟩
    · have hn : ¬ g_N (g_rs G) r x := fun h => hb ((g_bit_bt (by omega)).mpr (hNB.1.mpr h))
      exact absurd (g_B_N (hNB.2.mp ((g_bit_bt (by omega)).mp hb2))) hn
    · have hn := hNB.1.mp ((g_bit_bt (by omega)).mp hb)
      have e1 := (hsol r x).1 hn
      rw [hLx]
      refine S_max (by omega) (by omega) (fun v1 a1 a2 a3 => S_hasBit (fun hb2 => ⟨fun _ => ?_, fun h => absurd rfl h⟩) (fun hb2 => ⟨fun h => absurd h (by decide), fun _ => ⟨pk_in x 9 hx9, ?_⟩⟩))
      · have hnb : ¬ g_B (g_rs G) r x := fun h => hb2 ((g_bit_bt (by omega)).mpr (hNB.2.mpr h))
        exact go v1 a1 (by omega) ⟨fun _ => a2, fun h => absurd h hnb⟩
      · have hbb := hNB.2.mp ((g_bit_bt (by omega)).mp hb2)
        have e2 := (hsol r x).2 hbb
        rw [hLx, show nI (L x) + (1 : Int32) = nI (L x + 1) from nI_1 _]
        exact S_max (by omega) (by omega) (fun v2 b1 b2 b3 => go v2 (by omega) (by omega) ⟨fun _ => by omega, fun _ => b2⟩)
theorem S_above {post : Int32 → mSt → Prop} {r : Nat} {L : Nat → Nat} (hr : r < (g_rs G).length) (hg : ¬ g_ring (g_rs G)) (h : RC_cf G s) (hT : RTa G s) (hL : RL s (g_rs G).length L) (hle : ∀ y, y < (g_rs G).length → L y ≤ g_lev (g_rs G) y) (hy : ∀ v, L r ≤ v → v ≤ g_lev (g_rs G) r → (∀ y, (g_N (g_rs G) r y → L y ≤ v) ∧ (g_B (g_rs G) r y → L y + 1 ≤ v)) → post (nI v) s) : X_Cf_levelAbove scr (d + 2) s r post := by
  refine w_Cf_levelAbove ⟨(g_rs G).length + 1, ?_⟩
  rw [hL r hr]
  exact S_above_7 hr hg h hT hL hle hy (g_rs G).length 0 (L r) (by omega) (Nat.le_refl _) (hle r hr) (fun y hy => by omega)
def g_up (L : Nat → Nat) (x v r : Nat) : Nat := if r = x then v else L r
theorem g_up_s {L : Nat → Nat} {x v : Nat} : g_up L x v x = v := if_pos rfl
theorem g_up_n {L : Nat → Nat} {x v r : Nat} (h : ¬ r = x) : g_up L x v r = L r := if_neg h
theorem S_lev_38 {post : mSt → Prop} {ex : Nat → mSt → Prop} {k K : Nat} {L : Nat → Nat} (hg : ¬ g_ring (g_rs G)) (hk : k < 2 ^ 20) : ∀ (m x : Nat) (s : mSt) (M : Nat → Nat), x + m = (g_rs G).length → RC_cf G s → RTa G s → RL s (g_rs G).length M → (∀ r, r < (g_rs G).length → L r ≤ M r) → (∀ r, r < (g_rs G).length → M r ≤ g_lev (g_rs G) r) → (∀ r y, r < x → (g_N (g_rs G) r y → L y ≤ M r) ∧ (g_B (g_rs G) r y → L y + 1 ≤ M r)) → (∀ t M, RL t (g_rs G).length M → g_rnd (g_N (g_rs G)) (g_B (g_rs G)) (g_rs G).length (g_lev (g_rs G)) L M → mx_fr F_12 s t → r_Cf_findLevels_28 scr (d + 2) post ex K t (nI (k + 1))) → r_Cf_findLevels_38 scr (d + 2) post ex (K + m + 1) s (nI k) (nI x) := by
  intro m
  induction m with
  | zero =>
    intro x s M hx h hT hL h1 h2 h3 hy
    have hl := h.1.1
    obtain rfl : x = (g_rs G).length := by omega
    refine w_Cf_findLevels_38 (pk_le (g_rs G).length (g_rs G).length (fun _ => ?_) (fun h => by omega) h.2.1 rfl)
    rw [show nI k + (1 : Int32) = nI (k + 1) from nI_1 k]
    exact hy s M hL ⟨h1, h2, h3⟩ mx_fr.rf
  | succ m ih =>
    intro x s M hx h hT hL h1 h2 h3 hy
    have hl := h.1.1
    refine w_Cf_findLevels_38 (pk_le (g_rs G).length x (fun h => by omega) (fun hxl => ⟨pk_in x 9 (by omega), pk_in x 9 (by omega), ?_⟩) h.2.1 rfl)
    rw [pk_cl (x := nI x) x, show nI x + (1 : Int32) = nI (x + 1) from nI_1 x]
    refine S_above hxl hg h hT hL h2 (fun v v1 v2 v3 t e => ?_)
    have hf : mx_fr F_12 s t := by
      rw [e]
      exact mx_fr.si ⟨rfl, rfl⟩
    refine ih (x + 1) t (g_up M x v) (by omega) (RC_cf_12 h hf) (RTa_12 hT hf) (fun r hr => ?_) (fun r hr => ?_) (fun r hr => ?_) (fun r y hr => ?_) (fun u M' g1 g2 g3 => hy u M' g1 g2 (hf.tr g3))
    · by_cases e2 : r = x
      · subst e2
        rw [e, mx_si_s, g_up_s]
      · rw [e, mx_si_n (by omega), g_up_n e2]
        exact hL r hr
    · by_cases e2 : r = x
      · subst e2
        rw [g_up_s]
        have := h1 r hr
        omega
      · rw [g_up_n e2]
        exact h1 r hr
    · by_cases e2 : r = x
      · subst e2
        rw [g_up_s]
        exact v2
      · rw [g_up_n e2]
        exact h2 r hr
    · by_cases e2 : r = x
      · subst e2
        rw [g_up_s]
        have h9 := v3 y
        refine ⟨fun hn => ?_, fun hb => ?_⟩
        · have := h9.1 hn
          have := h1 y (g_N_lt _ _ hn).2
          omega
        · have := h9.2 hb
          have := h1 y (g_N_lt _ _ (g_B_N hb)).2
          omega
      · rw [g_up_n e2]
        exact h3 r y (by omega)
theorem S_lev_28 {post : mSt → Prop} {ex : Nat → mSt → Prop} (hg : ¬ g_ring (g_rs G)) : ∀ (m k : Nat) (s : mSt) (L : Nat → Nat), k + m = (g_rs G).length → RC_cf G s → RTa G s → RL s (g_rs G).length L → g_prog (g_rs G).length (g_lev (g_rs G)) L k → (∀ t, RL t (g_rs G).length (g_lev (g_rs G)) → mx_fr F_12 s t → post t) → r_Cf_findLevels_28 scr (d + 2) post ex (m * ((g_rs G).length + 2) + 1) s (nI k) := by
  intro m
  induction m with
  | zero =>
    intro k s L hk h hT hL hp hy
    have hl := h.1.1
    obtain rfl : k = (g_rs G).length := by omega
    rw [Nat.zero_mul]
    refine w_Cf_findLevels_28 (pk_le (g_rs G).length (g_rs G).length (fun _ => hy s (fun r hr => ?_) mx_fr.rf) (fun h => by omega) h.2.1 rfl)
    rw [hL r hr, g_prog_n (Nat.le_refl _) hp r hr]
  | succ m ih =>
    intro k s L hk h hT hL hp hy
    have hl := h.1.1
    refine w_Cf_findLevels_28 (n := (m + 1) * ((g_rs G).length + 2)) (pk_le (g_rs G).length k (fun h => by omega) (fun _ => ?_) h.2.1 rfl)
    rw [show (m + 1) * ((g_rs G).length + 2) = (m * ((g_rs G).length + 2) + 1) + (g_rs G).length + 1 by rw [Nat.add_mul]; omega]
    exact S_lev_38 hg (by omega) (g_rs G).length 0 s L (by omega) h hT hL (fun r _ => Nat.le_refl _) hp.1 (fun r y hr => by omega) (fun t M g1 g2 g3 => ih (k + 1) t M (by omega) (RC_cf_12 h g3) (RTa_12 hT g3) g1 (g_prog_1 g_N_lt (fun _ _ => g_B_N) (g_lev_ok hg) g2 hp) (fun u g4 g5 => hy u g4 (g3.tr g5)))
theorem S_lev_2 {post : mSt → Prop} {ex : Nat → mSt → Prop} {K : Nat} : ∀ (m x : Nat) (s : mSt), x + m = (g_rs G).length → RC_cf G s → (∀ r, r < x → s.1 5 r 12 = 0) → (∀ t, RL t (g_rs G).length (fun _ => 0) → mx_fr F_12 s t → r_Cf_findLevels_28 scr d post ex K t 0) → r_Cf_findLevels_2 scr d post ex (K + m + 1) s (nI x) := by
  intro m
  induction m with
  | zero =>
    intro x s hx h hz hy
    have hl := h.1.1
    obtain rfl : x = (g_rs G).length := by omega
    exact w_Cf_findLevels_2 (pk_le (g_rs G).length (g_rs G).length (fun _ => hy s hz mx_fr.rf) (fun h => by omega) h.2.1 rfl)
  | succ m ih =>
    intro x s hx h hz hy
    have hl := h.1.1
    refine w_Cf_findLevels_2 (pk_le (g_rs G).length x (fun h => by omega) (fun hxl => ⟨pk_in x 9 (by omega), fun t e => ?_⟩) h.2.1 rfl)
    rw [pk_cl (x := nI x) x] at e
    have hf : mx_fr F_12 s t := by
      rw [e]
      exact mx_fr.si ⟨rfl, rfl⟩
    rw [show nI x + (1 : Int32) = nI (x + 1) from nI_1 x]
    refine ih (x + 1) t (by omega) (RC_cf_12 h hf) (fun r hr => ?_) (fun u h1 h2 => hy u h1 (hf.tr h2))
    by_cases e2 : r = x
    · subst e2
      rw [e, mx_si_s]
    · rw [e, mx_si_n (by omega)]
      exact hz r (by omega)
theorem S_lev {post : mSt → Prop} (hg : ¬ g_ring (g_rs G)) (h : RC_cf G s) (hT : RTa G s) (hy : ∀ t, RL t (g_rs G).length (g_lev (g_rs G)) → mx_fr F_12 s t → post t) : X_Cf_findLevels scr (d + 3) s post := w_Cf_findLevels ⟨((g_rs G).length * ((g_rs G).length + 2) + 1) + (g_rs G).length + 1, S_lev_2 (g_rs G).length 0 s (by omega) h (fun r hr => by omega) (fun t ht hf => S_lev_28 hg (g_rs G).length 0 t (fun _ => 0) (by omega) (RC_cf_12 h hf) (RTa_12 hT hf) ht ⟨fun r _ => Nat.zero_le _, Or.inr (Nat.zero_le _)⟩ (fun u g1 g2 => hy u g1 (hf.tr g2)))⟩
def g_wA (G : gSt) : gSt := (G.1, G.2.1, true, G.2.2.2)
def g_acc (rs : List gRl) : Prop := (∀ (r : Nat) rl, rs[r]? = some rl → ∃ P, g_rule rs rl = some P) ∧ ¬ g_ring rs
def F_ac (f _ j : Nat) : Prop := f = 3 ∨ f = 7 ∨ f = 8 ∨ f = 9 ∨ f = 4 ∨ (f = 5 ∧ (j = 9 ∨ j = 10 ∨ j = 11 ∨ j = 12)) ∨ (f = 1 ∧ j = 2)
theorem F_ac_ra {f i j : Nat} (h : F_ra f i j) : F_ac f i j := by
  unfold F_ra at h
  unfold F_ac
  omega
theorem F_ac_4 {f i j : Nat} (h : F_4 f i j) : F_ac f i j := by
  unfold F_4 at h
  unfold F_ac
  omega
theorem F_ac_12 {f i j : Nat} (h : F_12 f i j) : F_ac f i j := by
  unfold F_12 at h
  unfold F_ac
  omega
theorem S_Rs_accept {post : Int32 → mSt → Prop} {ex : Nat → mSt → Prop} (h : RC_cf G s) (e1 : g_ac G = true ∨ g_rs G = [] → ex 1 s) (e2 : ∀ t (r : Nat) rl, g_ac G = false → ¬ g_rs G = [] → (g_rs G)[r]? = some rl → g_rule (g_rs G) rl = none → RC_cf G t → mx_fr F_ac s t → ex 2 t) (e3 : ∀ t, g_ac G = false → ¬ g_rs G = [] → (∀ (r : Nat) rl, (g_rs G)[r]? = some rl → ∃ P, g_rule (g_rs G) rl = some P) → g_ring (g_rs G) → RC_cf G t → mx_fr F_ac s t → ex 3 t)
    (hy : ∀ t, g_ac G = false → ¬ g_rs G = [] → g_acc (g_rs G) → RC_cf (g_wA G) t → RTa (g_wA G) t → RL t (g_rs G).length (g_lev (g_rs G)) → mx_fr F_ac s t → post (nI (g_rs G).length) t) : X_Rs_accept scr (d + 18) s ex post := by
  have hl := h.1.1
  refine w_Rs_accept (g_ac0 h.2.2.1 (fun hac => pk_eq (g_rs G).length 0 (fun e0 => e1 (Or.inr (List.eq_nil_of_length_eq_zero e0))) (fun e0 => ?_) h.2.1 rfl) (fun hac => e1 (Or.inl hac)))
  have hne : ¬ g_rs G = [] := fun h9 => e0 (by rw [h9]; rfl)
  refine S_allAre h (fun t ht hc hf => ⟨fun h => absurd h (by decide), fun _ => ?_⟩) (fun t r rl h1 h2 hc hf => ⟨fun _ => e2 t r rl hac hne h1 h2 hc (hf.mono (fun _ _ _ h => F_ac_ra h)), fun h => absurd rfl h⟩)
  have hall : ∀ (r : Nat) rl, (g_rs G)[r]? = some rl → ∃ P, g_rule (g_rs G) rl = some P := fun r rl hrl => by
    obtain ⟨P, hP, -⟩ := ht r rl hrl
    exact ⟨P, hP⟩
  have f1 : mx_fr F_ac s t := hf.mono (fun _ _ _ h => F_ac_ra h)
  refine S_ring (d := d + 14) hc ht (fun u hr hfu => ⟨fun h => absurd h (by decide), fun _ => e3 u hac hne hall hr (RC_cf_4 hc hfu) (f1.tr (hfu.mono (fun _ _ _ h => F_ac_4 h)))⟩) (fun u hr hfu => ⟨fun _ => ?_, fun h => absurd rfl h⟩)
  refine S_lev (d := d + 14) hr (RC_cf_4 hc hfu) (RTa_4 ht hfu) (fun w hw hfw => ⟨rfl, fun z ez => ?_⟩)
  have hcw := RC_cf_12 (RC_cf_4 hc hfu) hfw
  have hTw := RTa_12 (RTa_4 ht hfu) hfw
  have hfz : mx_fr (fun f i j => f = 1 ∧ j = 2) w z := by
    rw [ez]
    exact mx_fr.si ⟨rfl, rfl⟩
  have c1 : z.1 1 0 1 = nI (g_rs G).length := (hfz.1 1 0 1 (fun h => by cases h.2)).trans hcw.2.1
  rw [c1]
  refine hy z hac hne ⟨hall, hr⟩ ?_ ?_ (fun r hr9 => (hfz.1 5 r 12 (fun h => by cases h.1)).trans (hw r hr9)) (((f1.tr (hfu.mono (fun _ _ _ h => F_ac_4 h))).tr (hfw.mono (fun _ _ _ h => F_ac_12 h))).tr (hfz.mono (fun f i j h => Or.inr (Or.inr (Or.inr (Or.inr (Or.inr (Or.inr h))))))))
  · obtain ⟨hk, hc9, ha, hr9, hz⟩ := hcw
    refine ⟨hk, c1, ?_, fun i r hi => ?_, fun i hi h9 => (hfz.1 5 i 5 (fun h => by cases h.1)).trans (hz i hi h9)⟩
    · rw [ez, mx_si_s]
      rfl
    · obtain ⟨q0, q1, q2, q3, q5, q6⟩ := hr9 i r hi
      exact ⟨(hfz.1 _ _ _ (fun h => by cases h.1)).trans q0, (hfz.1 _ _ _ (fun h => by cases h.1)).trans q1, (hfz.1 _ _ _ (fun h => by cases h.1)).trans q2, (hfz.1 _ _ _ (fun h => by cases h.1)).trans q3, (hfz.1 _ _ _ (fun h => by cases h.1)).trans q5, fun j c h => (hfz.1 _ _ _ (fun h => by cases h.1)).trans (q6 j c h)⟩
  · exact RTa_fr (G := G) hTw hfz (fun r j _ h => by cases h.1) (fun f r j h1 h => by have := h.1; omega)
end
