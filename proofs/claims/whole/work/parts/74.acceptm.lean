def RLm (s : mSt) (L : Nat → Nat) : Prop := ∀ r, r < 9 → s.1 28 0 r = nI (L r)
def F_28 (f _ _ : Nat) : Prop := f = 28
section
variable {scr : mSc} {d : Nat} {G : gSt} {s t : mSt}
theorem RNm_28 (h : RNm G s) (hf : mx_fr F_28 s t) : RNm G t := ⟨RMx_fr h.1 hf (fun j h => by cases h), RMx_fr h.2 hf (fun j h => by cases h)⟩
set_option maxHeartbeats 2000000 in
theorem S_mlev_31 {post : mSt → Prop} {ex : Nat → mSt → Prop} {k K : Nat} {L : Nat → Nat} (hl : (g_rs G).length ≤ 9) (hg : ¬ g_ring (g_rs G)) (hk : k < 2 ^ 20) : ∀ (m x : Nat) (s : mSt) (M : Nat → Nat), x + m = 81 → RNm G s → RLm s M → (∀ r, r < 9 → L r ≤ M r) → (∀ r, r < 9 → M r ≤ g_lev (g_rs G) r) → (∀ c, c < x → (g_N (g_rs G) (c / 9) (c % 9) → L (c % 9) ≤ M (c / 9)) ∧ (g_B (g_rs G) (c / 9) (c % 9) → L (c % 9) + 1 ≤ M (c / 9))) → (∀ t M, RLm t M → g_rnd (g_N (g_rs G)) (g_B (g_rs G)) 9 (g_lev (g_rs G)) L M → mx_fr F_28 s t → r_Md_findLevels_23 scr d post ex K t (nI (k + 1))) → r_Md_findLevels_31 scr d post ex (K + m + 1) s (nI k) (nI x) := by
  intro m
  induction m with
  | zero =>
    intro x s M hx h hL h1 h2 h3 hy
    obtain rfl : x = 81 := by omega
    refine w_Md_findLevels_31 (pk_le 81 81 (fun _ => ?_) (fun h => by omega))
    rw [show nI k + (1 : Int32) = nI (k + 1) from nI_1 k]
    refine hy s M hL ⟨h1, h2, fun r y hr => ?_⟩ mx_fr.rf
    by_cases hy9 : y < 9
    · have h4 := h3 (9 * r + y) (by omega)
      rw [show (9 * r + y) / 9 = r by omega, show (9 * r + y) % 9 = y by omega] at h4
      exact h4
    · exact ⟨fun hn => by have := (g_N_lt _ _ hn).2; omega, fun hb => by have := (g_N_lt _ _ (g_B_N hb)).2; omega⟩
  | succ m ih =>
    intro x s M hx h hL h1 h2 h3 hy
    have hsol := (g_lev_ok hg).1 (x / 9) (x % 9)
    have b1 := g_lev_le hg (x / 9)
    have b2 := g_lev_le hg (x % 9)
    have b3 := h2 (x / 9) (by omega)
    have b4 := h2 (x % 9) (by omega)
    refine w_Md_findLevels_31 (pk_le 81 x (fun h => by omega) (fun _ => ⟨pk_in x 81 (by omega), ?_⟩))
    rw [show nI x + (1 : Int32) = nI (x + 1) from nI_1 x, show nI x / (9 : Int32) = nI (x / 9) from pk_div (d := 9) (by omega) (by omega) (by omega), show nI x - nI (x / 9) * (9 : Int32) = nI (x % 9) from by
      rw [← show nI x / (9 : Int32) = nI (x / 9) from pk_div (d := 9) (by omega) (by omega) (by omega)]
      exact pk_rem (d := 9) (by omega) (by omega) (by omega), pk_cl (x := nI x) x, pk_cl (x := nI (x / 9)) (x / 9), pk_cl (x := nI (x % 9)) (x % 9), hL (x / 9) (by omega), hL (x % 9) (by omega)]
    have i1 : vp_in (nI (x / 9)) 9 := pk_in (x / 9) 9 (by omega)
    have i2 : vp_in (nI (x % 9)) 9 := pk_in (x % 9) 9 (by omega)
    have i3 : vp_in (nI x) 81 := pk_in x 81 (by omega)
    have n9 : ¬ (9 : Int32) = 0 := by decide
    have same : ((g_N (g_rs G) (x / 9) (x % 9) → L (x % 9) ≤ M (x / 9)) ∧ (g_B (g_rs G) (x / 9) (x % 9) → L (x % 9) + 1 ≤ M (x / 9))) → r_Md_findLevels_31 scr d post ex (K + m + 1) s (nI k) (nI (x + 1)) := fun hx9 => ih (x + 1) s M (by omega) h hL h1 h2 (fun c hc => by
      by_cases e : c = x
      · subst e
        exact hx9
      · exact h3 c (by omega)) hy
    have upd : ∀ v, M (x / 9) ≤ v → v ≤ g_lev (g_rs G) (x / 9) → ((g_N (g_rs G) (x / 9) (x % 9) → L (x % 9) ≤ v) ∧ (g_B (g_rs G) (x / 9) (x % 9) → L (x % 9) + 1 ≤ v)) → ∀ t, t = mx_si s 28 0 (x / 9) (nI v) → r_Md_findLevels_31 scr d post ex (K + m + 1) t (nI k) (nI (x + 1)) := fun v v1 v2 v3 t e => by
      have hf : mx_fr F_28 s t := by
        rw [e]
        exact mx_fr.si rfl
      refine ih (x + 1) t (g_up M (x / 9) v) (by omega) (RNm_28 h hf) (fun r hr => ?_) (fun r hr => ?_) (fun r hr => ?_) (fun c hc => ?_) (fun u M' g1 g2 g3 => hy u M' g1 g2 (hf.tr g3))
      · by_cases e2 : r = x / 9
        · rw [e2, e, mx_si_s, g_up_s]
        · rw [e, mx_si_n (by omega), g_up_n e2]
          exact hL r hr
      · by_cases e2 : r = x / 9
        · rw [e2, g_up_s]
          have := h1 (x / 9) (by omega)
          omega
        · rw [g_up_n e2]
          exact h1 r hr
      · by_cases e2 : r = x / 9
        · rw [e2, g_up_s]
          exact v2
        · rw [g_up_n e2]
          exact h2 r hr
      · by_cases e2 : c / 9 = x / 9
        · rw [e2, g_up_s]
          by_cases e3 : c = x
          · subst e3
            exact v3
          · have h4 := h3 c (by omega)
            rw [e2] at h4
            exact ⟨fun hn => by have := h4.1 hn; omega, fun hb => by have := h4.2 hb; omega⟩
        · rw [g_up_n e2]
          by_cases e3 : c = x
          · subst e3
            exact absurd rfl e2
          · exact h3 c (by omega)
    have hLx := h1 (x % 9) (by omega)
    rcases h.1 x (by omega) with ⟨c1, c2⟩ | ⟨c1, c2⟩
    · have c2 : g_N (g_rs G) (x / 9) (x % 9) := c2
      have s1 := hsol.1 c2
      rw [c1]
      refine ⟨fun h => absurd h (by decide), fun _ => ⟨n9, i2, i3, ?_⟩⟩
      rcases h.2 x (by omega) with ⟨c3, c4⟩ | ⟨c3, c4⟩
      · have c4 : g_B (g_rs G) (x / 9) (x % 9) := c4
        have s2 := hsol.2 c4
        rw [c3, show nI (M (x % 9)) + (1 : Int32) = nI (M (x % 9) + 1) from nI_1 _]
        exact ⟨fun h => absurd h (by decide), fun _ => ⟨n9, i1, pk_le (M (x % 9) + 1) (M (x / 9)) (fun hle => same ⟨fun _ => by omega, fun _ => by omega⟩) (fun hlt => ⟨n9, i1, upd _ (by omega) (by omega) ⟨fun _ => by omega, fun _ => by omega⟩⟩)⟩⟩
      · have c4 : ¬ g_B (g_rs G) (x / 9) (x % 9) := c4
        rw [c3, show nI (M (x % 9)) + (0 : Int32) = nI (M (x % 9)) from nI_add _ 0]
        exact ⟨fun _ => ⟨n9, i1, pk_le (M (x % 9)) (M (x / 9)) (fun hle => same ⟨fun _ => by omega, fun hb => absurd hb c4⟩) (fun hlt => ⟨n9, i1, upd _ (by omega) (by omega) ⟨fun _ => by omega, fun hb => absurd hb c4⟩⟩)⟩, fun h => absurd rfl h⟩
    · have c2 : ¬ g_N (g_rs G) (x / 9) (x % 9) := c2
      rw [c1]
      exact ⟨fun _ => ⟨n9, i1, pk_le 0 (M (x / 9)) (fun _ => same ⟨fun hn => absurd hn c2, fun hb => absurd (g_B_N hb) c2⟩) (fun h => by omega)⟩, fun h => absurd rfl h⟩
theorem S_mlev_23 {post : mSt → Prop} {ex : Nat → mSt → Prop} (hl : (g_rs G).length ≤ 9) (hg : ¬ g_ring (g_rs G)) : ∀ (m k : Nat) (s : mSt) (L : Nat → Nat), k + m = 90 → RNm G s → RLm s L → g_prog 9 (g_lev (g_rs G)) L k → (∀ t, RLm t (g_lev (g_rs G)) → mx_fr F_28 s t → post t) → r_Md_findLevels_23 scr d post ex (m * 83 + 1) s (nI k) := by
  intro m
  induction m with
  | zero =>
    intro k s L hk h hL hp hy
    obtain rfl : k = 90 := by omega
    rw [Nat.zero_mul]
    refine w_Md_findLevels_23 (pk_le 90 90 (fun _ => hy s (fun r hr => ?_) mx_fr.rf) (fun h => by omega))
    rw [hL r hr, g_prog_n (by omega) hp r hr]
  | succ m ih =>
    intro k s L hk h hL hp hy
    refine w_Md_findLevels_23 (n := (m + 1) * 83) (pk_le 90 k (fun h => by omega) (fun _ => ?_))
    rw [show (m + 1) * 83 = (m * 83 + 1) + 81 + 1 by rw [Nat.add_mul]]
    exact S_mlev_31 hl hg (by omega) 81 0 s L rfl h hL (fun r _ => Nat.le_refl _) hp.1 (fun c hc => by omega) (fun t M g1 g2 g3 => ih (k + 1) t M (by omega) (RNm_28 h g3) g1 (g_prog_1 (fun a b hn => by have := g_N_lt _ _ hn; omega) (fun _ _ => g_B_N) (g_lev_ok hg) g2 hp) (fun u g4 g5 => hy u g4 (g3.tr g5)))
theorem S_mlev_2 {post : mSt → Prop} {ex : Nat → mSt → Prop} {K : Nat} : ∀ (m x : Nat) (s : mSt), x + m = 9 → (∀ r, r < x → s.1 28 0 r = 0) → (∀ t, RLm t (fun _ => 0) → mx_fr F_28 s t → r_Md_findLevels_23 scr d post ex K t 0) → r_Md_findLevels_2 scr d post ex (K + m + 1) s (nI x) := by
  intro m
  induction m with
  | zero =>
    intro x s hx hz hy
    obtain rfl : x = 9 := by omega
    exact w_Md_findLevels_2 (pk_le 9 9 (fun _ => hy s hz mx_fr.rf) (fun h => by omega))
  | succ m ih =>
    intro x s hx hz hy
    refine w_Md_findLevels_2 (pk_le 9 x (fun h => by omega) (fun hxl => ⟨pk_in x 9 (by omega), fun t e => ?_⟩))
    rw [pk_cl (x := nI x) x] at e
    have hf : mx_fr F_28 s t := by
      rw [e]
      exact mx_fr.si rfl
    rw [show nI x + (1 : Int32) = nI (x + 1) from nI_1 x]
    refine ih (x + 1) t (by omega) (fun r hr => ?_) (fun u h1 h2 => hy u h1 (hf.tr h2))
    by_cases e2 : r = x
    · subst e2
      rw [e, mx_si_s]
    · rw [e, mx_si_n (by omega)]
      exact hz r (by omega)
theorem S_mlev {post : mSt → Prop} (hl : (g_rs G).length ≤ 9) (hg : ¬ g_ring (g_rs G)) (h : RNm G s) (hy : ∀ t, RLm t (g_lev (g_rs G)) → mx_fr F_28 s t → post t) : X_Md_findLevels scr (d + 1) s post := w_Md_findLevels ⟨(90 * 83 + 1) + 9 + 1, S_mlev_2 9 0 s rfl (fun r hr => by omega) (fun t ht hf => S_mlev_23 hl hg 90 0 t (fun _ => 0) rfl (RNm_28 h hf) ht ⟨fun r _ => Nat.zero_le _, Or.inr (Nat.zero_le _)⟩ (fun u g1 g2 => hy u g1 (hf.tr g2)))⟩
def F_ma (f _ j : Nat) : Prop := (f = 18 ∧ (j = 1 ∨ j = 3)) ∨ f = 25 ∨ f = 26 ∨ f = 27 ∨ f = 28 ∨ f = 36
theorem RM_cf_ma {Q : Nat → Nat → Nat → Prop} (h : RM_cf G s) (hf : mx_fr Q s t) (hQ : ∀ f i j, Q f i j → (f = 18 ∧ j = 1) ∨ 25 ≤ f) : RM_cf G t := RM_cf_fr h hf (fun h => by have := hQ _ _ _ h; omega) (fun h => by have := hQ _ _ _ h; omega) (fun f j h1 h2 h => by have := hQ _ _ _ h; omega)
def F_mb' (f _ _ : Nat) : Prop := f = 25 ∨ f = 26 ∨ f = 27 ∨ f = 28 ∨ f = 36
theorem S_macc_87 {post : Int32 → mSt → Prop} {ex : Nat → mSt → Prop} {s0 : mSt} (hall : ∀ (r : Nat) rl, (g_rs G)[r]? = some rl → ∃ P, g_rule (g_rs G) rl = some P) (e3 : ∀ t u, g_ring (g_rs G) → RM_cf G t → mx_fr F_mb' s0 t → u = mx_si t 18 0 1 (3 : Int32) → post 0 u) (hy : ∀ t u, ¬ g_ring (g_rs G) → RM_cf G t → RLm t (g_lev (g_rs G)) → mx_fr F_mb' s0 t → u = mx_si t 18 0 3 (1 : Int32) → post (u.1 18 0 2) u) : ∀ (m x : Nat) (s : mSt), x + m = (g_rs G).length → RM_cf G s → mx_fr F_mb' s0 s → (∀ (r : Nat) rl P, r < x → (g_rs G)[r]? = some rl → g_rule (g_rs G) rl = some P → RNa (g_rs G) rl s r P.1) → (∀ r, x ≤ r → r < 9 → RNb s r (fun _ => False) (fun _ => False)) → r_Md_accept_87 scr (d + 5) post ex (m + 1) s (nI x) := by
  intro m
  induction m with
  | zero =>
    intro x s hx h hs0 hN hz
    have hl := h.1.1
    obtain rfl : x = (g_rs G).length := by omega
    have hm : RNm G s := by
      have key : ∀ c, c < 81 → ((s.1 25 0 c = 1 ∧ g_N (g_rs G) (c / 9) (c % 9)) ∨ (s.1 25 0 c = 0 ∧ ¬ g_N (g_rs G) (c / 9) (c % 9))) ∧ ((s.1 26 0 c = 1 ∧ g_B (g_rs G) (c / 9) (c % 9)) ∨ (s.1 26 0 c = 0 ∧ ¬ g_B (g_rs G) (c / 9) (c % 9))) := fun c hc => by
        by_cases hr : c / 9 < (g_rs G).length
        · have hrl : (g_rs G)[c / 9]? = some (g_rs G)[c / 9] := List.getElem?_eq_getElem hr
          obtain ⟨P, hP⟩ := hall _ _ hrl
          have h1 := hN (c / 9) _ P hr hrl hP (c % 9) (by omega)
          rw [show 9 * (c / 9) + c % 9 = c by omega] at h1
          have eN : (∃ sp ∈ P.1, g_ns (g_rs G) (g_rs G)[c / 9] sp (c % 9)) ↔ g_N (g_rs G) (c / 9) (c % 9) := by
            constructor
            · exact fun h => ⟨_, P, hrl, hP, h⟩
            · rintro ⟨rl, P', k1, k2, k3⟩
              rw [hrl] at k1
              cases k1
              rw [hP] at k2
              cases k2
              exact k3
          have eB : (∃ sp ∈ P.1, sp.2.2.2 = true ∧ g_ns (g_rs G) (g_rs G)[c / 9] sp (c % 9)) ↔ g_B (g_rs G) (c / 9) (c % 9) := by
            constructor
            · exact fun h => ⟨_, P, hrl, hP, h⟩
            · rintro ⟨rl, P', k1, k2, k3⟩
              rw [hrl] at k1
              cases k1
              rw [hP] at k2
              cases k2
              exact k3
          exact ⟨h1.1.imp (And.imp_right eN.mp) (And.imp_right (mt eN.mpr)), h1.2.imp (And.imp_right eB.mp) (And.imp_right (mt eB.mpr))⟩
        · have h1 := hz (c / 9) (by omega) (by omega) (c % 9) (by omega)
          rw [show 9 * (c / 9) + c % 9 = c by omega] at h1
          have nN : ¬ g_N (g_rs G) (c / 9) (c % 9) := fun h => hr (g_N_lt _ _ h).1
          refine ⟨Or.inr ⟨?_, nN⟩, Or.inr ⟨?_, fun h => nN (g_B_N h)⟩⟩
          · rcases h1.1 with ⟨-, h⟩ | ⟨h, -⟩
            · exact absurd h id
            · exact h
          · rcases h1.2 with ⟨-, h⟩ | ⟨h, -⟩
            · exact absurd h id
            · exact h
      exact ⟨fun c hc => (key c hc).1, fun c hc => (key c hc).2⟩
    refine w_Md_accept_87 (pk_le (g_rs G).length (g_rs G).length (fun _ => S_close hl hm (fun t ht hf => ?_)) (fun h => by omega) h.2.1 rfl)
    have hmt : RNm G t := ⟨RMx_fr hm.1 hf (fun j h => by cases h), RMx_fr hm.2 hf (fun j h => by cases h)⟩
    have hft : mx_fr F_mb' s0 t := hs0.tr (hf.mono (fun f i j h => Or.inr (Or.inr (Or.inl h))))
    have hct : RM_cf G t := RM_cf_ma h hf (fun f i j h => Or.inr (by unfold F_27 at h; omega))
    exact S_circ hl hmt ht (fun hr => ⟨fun h => absurd h (by decide), fun _ u eu => e3 t u hr hct hft eu⟩) (fun hr => ⟨fun _ => S_mlev hl hr hmt (fun w hw hfw => ⟨rfl, fun z ez => hy w z hr (RM_cf_ma hct hfw (fun f i j h => Or.inr (by unfold F_28 at h; omega))) hw (hft.tr (hfw.mono (fun f i j h => Or.inr (Or.inr (Or.inr (Or.inl h)))))) ez⟩), fun h => absurd rfl h⟩)
  | succ m ih =>
    intro x s hx h hs0 hN hz
    have hl := h.1.1
    refine w_Md_accept_87 (pk_le (g_rs G).length x (fun h => by omega) (fun hxl => ?_) h.2.1 rfl)
    rw [show nI x + (1 : Int32) = nI (x + 1) from nI_1 x]
    have hrl : (g_rs G)[x]? = some (g_rs G)[x] := List.getElem?_eq_getElem hxl
    obtain ⟨P, hP⟩ := hall _ _ hrl
    refine S_findNeeds h hrl hP (RNb_iff (hz x (Nat.le_refl _) (by omega)) (fun y _ => ⟨fun h => h.elim, fun ⟨_, h, _⟩ => (by cases h)⟩) (fun y _ => ⟨fun h => h.elim, fun ⟨_, h, _⟩ => (by cases h)⟩)) (fun t ht hf => ih (x + 1) t (by omega) (RM_cf_nr h hf) (hs0.tr (hf.mono (fun f i j h => by unfold F_mb'; rcases h with h | ⟨h, -⟩ <;> omega))) (fun r rl P' hr hrl' hP' => ?_) (fun r hr h9 => ?_))
    · by_cases e : r = x
      · subst e
        rw [hrl] at hrl'
        cases hrl'
        rw [hP] at hP'
        cases hP'
        exact ht
      · intro y hy
        rw [hf.1 25 0 (9 * r + y) (fun h => by rcases h with h | ⟨-, h1, h2⟩ <;> omega), hf.1 26 0 (9 * r + y) (fun h => by rcases h with h | ⟨-, h1, h2⟩ <;> omega)]
        exact hN r rl P' (by omega) hrl' hP' y hy
    · intro y hy
      rw [hf.1 25 0 (9 * r + y) (fun h => by rcases h with h | ⟨-, h1, h2⟩ <;> omega), hf.1 26 0 (9 * r + y) (fun h => by rcases h with h | ⟨-, h1, h2⟩ <;> omega)]
      exact hz r (by omega) h9 y hy
theorem S_macc_59 {post : Int32 → mSt → Prop} {ex : Nat → mSt → Prop} {K : Nat} : ∀ (m x : Nat) (s : mSt), x + m = 81 → (∀ c, c < x → s.1 25 0 c = 0 ∧ s.1 26 0 c = 0) → (∀ t, (∀ c, c < 81 → t.1 25 0 c = 0 ∧ t.1 26 0 c = 0) → mx_fr (fun f _ _ => f = 25 ∨ f = 26) s t → r_Md_accept_87 scr d post ex K t 0) → r_Md_accept_59 scr d post ex (K + m + 1) s (nI x) := by
  intro m
  induction m with
  | zero =>
    intro x s hx hz hy
    obtain rfl : x = 81 := by omega
    exact w_Md_accept_59 (pk_le 81 81 (fun _ => hy s hz mx_fr.rf) (fun h => by omega))
  | succ m ih =>
    intro x s hx hz hy
    refine w_Md_accept_59 (pk_le 81 x (fun h => by omega) (fun hxl => ⟨pk_in x 81 (by omega), fun t e => ⟨pk_in x 81 (by omega), fun u e2 => ?_⟩⟩))
    rw [pk_cl (x := nI x) x] at e e2
    have hf : mx_fr (fun f _ _ => f = 25 ∨ f = 26) s u := by
      rw [e2, e]
      exact (mx_fr.si (Or.inl rfl)).tr (mx_fr.si (Or.inr rfl))
    rw [show nI x + (1 : Int32) = nI (x + 1) from nI_1 x]
    refine ih (x + 1) u (by omega) (fun c hc => ?_) (fun w h1 h2 => hy w h1 (hf.tr h2))
    by_cases e3 : c = x
    · subst e3
      refine ⟨?_, ?_⟩
      · rw [e2, mx_si_n (by omega), e, mx_si_s]
        rfl
      · rw [e2, mx_si_s]
        rfl
    · rw [e2, mx_si_n (by omega), mx_si_n (by omega), e, mx_si_n (by omega), mx_si_n (by omega)]
      exact hz c (by omega)
theorem S_macc_28 {post : Int32 → mSt → Prop} {ex : Nat → mSt → Prop} {K : Nat} (h : RM_cf G s) (e2 : ∀ (r : Nat) rl, (g_rs G)[r]? = some rl → g_rule (g_rs G) rl = none → ∀ u, u = mx_si s 18 0 1 (2 : Int32) → post 0 u) (hy : (∀ (r : Nat) rl, (g_rs G)[r]? = some rl → ∃ P, g_rule (g_rs G) rl = some P) → r_Md_accept_59 scr (d + 4) post ex K s 0) : ∀ (m x : Nat), x + m = (g_rs G).length → (∀ (r : Nat) rl, r < x → (g_rs G)[r]? = some rl → ∃ P, g_rule (g_rs G) rl = some P) → r_Md_accept_28 scr (d + 4) post ex (K + m + 1) s (nI x) := by
  have hl := h.1.1
  intro m
  induction m with
  | zero =>
    intro x hx hr
    obtain rfl : x = (g_rs G).length := by omega
    exact w_Md_accept_28 (pk_le (g_rs G).length (g_rs G).length (fun _ => hy (fun r rl hrl => hr r rl (g_len_get hrl) hrl)) (fun h => by omega) h.2.1 rfl)
  | succ m ih =>
    intro x hx hr
    refine w_Md_accept_28 (pk_le (g_rs G).length x (fun h => by omega) (fun hxl => ?_) h.2.1 rfl)
    rw [show nI x + (1 : Int32) = nI (x + 1) from nI_1 x]
    have hrl : (g_rs G)[x]? = some (g_rs G)[x] := List.getElem?_eq_getElem hxl
    refine S_Md_isRule h hrl (fun P hP => ⟨fun h => absurd h (by decide), fun _ => ih (x + 1) (by omega) (fun r rl hr9 hrl' => ?_)⟩) (fun hP => ⟨fun _ => e2 x _ hrl hP, fun h => absurd rfl h⟩)
    by_cases e : r = x
    · subst e
      rw [hrl] at hrl'
      cases hrl'
      exact ⟨P, hP⟩
    · exact hr r rl (by omega) hrl'
theorem S_Md_accept {post : Int32 → mSt → Prop} (h : RM_cf G s) (e1 : ∀ t, g_ac G = true ∨ g_rs G = [] → t.1 18 0 1 = 1 → RM_cf G t → mx_fr F_mo s t → post 0 t) (e2 : ∀ t (r : Nat) rl, g_ac G = false → ¬ g_rs G = [] → (g_rs G)[r]? = some rl → g_rule (g_rs G) rl = none → t.1 18 0 1 = 2 → RM_cf G t → mx_fr F_ma s t → post 0 t) (e3 : ∀ t, g_ac G = false → ¬ g_rs G = [] → (∀ (r : Nat) rl, (g_rs G)[r]? = some rl → ∃ P, g_rule (g_rs G) rl = some P) → g_ring (g_rs G) → t.1 18 0 1 = 3 → RM_cf G t → mx_fr F_ma s t → post 0 t)
    (hy : ∀ t, g_ac G = false → ¬ g_rs G = [] → g_acc (g_rs G) → t.1 18 0 1 = 0 → RM_cf (g_wA G) t → RLm t (g_lev (g_rs G)) → mx_fr F_ma s t → post (nI (g_rs G).length) t) : X_Md_accept scr (d + 6) s post := by
  have hl := h.1.1
  suffices hs : ∀ s1, s1 = mx_si s 18 0 1 (0 : Int32) → (((s1.1 18 0 3) = 0 → (((s1.1 18 0 2) = 0 → (∀ s3, s3 = mx_si s1 18 0 1 (1 : Int32) → post (0 : Int32) s3)) ∧ (¬ (s1.1 18 0 2) = 0 → r_Md_accept_28 scr (d + 5) post (fun _ _ => False) ((((g_rs G).length + 1) + 81 + 1) + (g_rs G).length + 1) s1 (0 : Int32)))) ∧ (¬ (s1.1 18 0 3) = 0 → (∀ s2, s2 = mx_si s1 18 0 1 (1 : Int32) → post (0 : Int32) s2))) by
    exact w_Md_accept ⟨_, hs⟩
  intro s1 i1
  have h1 : RM_cf G s1 := by
    rw [i1]
    exact RM_code h
  have f1 : mx_fr F_ma s s1 := by
    rw [i1]
    exact mx_fr.si (Or.inl ⟨rfl, Or.inl rfl⟩)
  have z1 : s1.1 18 0 1 = 0 := by
    rw [i1]
    exact mx_si_s
  have bad : ∀ (v : Int32) (t u : mSt), RM_cf G t → mx_fr F_ma s t → u = mx_si t 18 0 1 v → u.1 18 0 1 = v ∧ RM_cf G u ∧ mx_fr F_ma s u := fun v t u ht hf e => by
    rw [e]
    exact ⟨mx_si_s, RM_code ht, hf.tr (mx_fr.si (Or.inl ⟨rfl, Or.inl rfl⟩))⟩
  refine g_ac0 h1.2.2.1 (fun hac => pk_eq (g_rs G).length 0 (fun e0 t e => ?_) (fun e0 => ?_) h1.2.1 rfl) (fun hac t e => ?_)
  · obtain ⟨b1, b2, b3⟩ := bad 1 s1 t h1 f1 e
    exact e1 t (Or.inr (List.eq_nil_of_length_eq_zero e0)) b1 b2 (by rw [e, i1]; exact (mx_fr.si ⟨rfl, rfl⟩).tr (mx_fr.si ⟨rfl, rfl⟩))
  · have hne : ¬ g_rs G = [] := fun h9 => e0 (by rw [h9]; rfl)
    refine S_macc_28 (d := d + 1) h1 (fun r rl k1 k2 u eu => ?_) (fun hall => S_macc_59 81 0 s1 rfl (fun c hc => by omega) (fun t ht hf => ?_)) (g_rs G).length 0 (by omega) (fun r rl hr => by omega)
    · obtain ⟨b1, b2, b3⟩ := bad 2 s1 u h1 f1 eu
      exact e2 u r rl hac hne k1 k2 b1 b2 b3
    · have hct : RM_cf G t := RM_cf_ma h1 hf (fun f i j h => by omega)
      have ft : mx_fr F_ma s t := f1.tr (hf.mono (fun f i j h => by unfold F_ma; omega))
      have zt : t.1 18 0 1 = 0 := (hf.1 18 0 1 (fun h => by omega)).trans z1
      have zer : ∀ r, r < 9 → RNb t r (fun _ => False) (fun _ => False) := fun r hr x hx => by
        have h9 := ht (9 * r + x) (by omega)
        exact ⟨Or.inr ⟨h9.1, id⟩, Or.inr ⟨h9.2, id⟩⟩
      refine S_macc_87 (d := d) (s0 := t) hall (fun w u hr hw hfw eu => ?_) (fun w u hr hw hLw hfw eu => ?_) (g_rs G).length 0 t (by omega) hct mx_fr.rf (fun r rl P hr => by omega) (fun r _ h9 => zer r h9)
      · obtain ⟨b1, b2, b3⟩ := bad 3 w u hw (ft.tr (hfw.mono (fun f i j h => by unfold F_mb' at h; unfold F_ma; omega))) eu
        exact e3 u hac hne hall hr b1 b2 b3
      · have hfu : mx_fr (fun f i j => f = 18 ∧ j = 3) w u := by
          rw [eu]
          exact mx_fr.si ⟨rfl, rfl⟩
        have c2 : u.1 18 0 2 = nI (g_rs G).length := (hfu.1 18 0 2 (fun h => by cases h.2)).trans hw.2.1
        rw [c2]
        refine hy u hac hne ⟨hall, hr⟩ ?_ ?_ (fun r hr9 => (hfu.1 28 0 r (fun h => by cases h.1)).trans (hLw r hr9)) ((ft.tr (hfw.mono (fun f i j h => by unfold F_mb' at h; unfold F_ma; omega))).tr (hfu.mono (fun f i j h => by unfold F_ma; omega)))
        · exact (hfu.1 18 0 1 (fun h => by cases h.2)).trans ((hfw.1 18 0 1 (fun h => by unfold F_mb' at h; omega)).trans zt)
        · obtain ⟨hk, hc9, ha, hr9⟩ := hw
          refine ⟨hk, c2, ?_, fun i r hi => ?_⟩
          · rw [eu, mx_si_s]
            rfl
          · obtain ⟨q0, q1, q2, q3, q4, q5⟩ := hr9 i r hi
            exact ⟨(hfu.1 _ _ _ (fun h => by cases h.1)).trans q0, (hfu.1 _ _ _ (fun h => by cases h.1)).trans q1, (hfu.1 _ _ _ (fun h => by cases h.1)).trans q2, (hfu.1 _ _ _ (fun h => by cases h.1)).trans q3, (hfu.1 _ _ _ (fun h => by cases h.1)).trans q4, fun j c h => (hfu.1 _ _ _ (fun h => by cases h.1)).trans (q5 j c h)⟩
  · obtain ⟨b1, b2, b3⟩ := bad 1 s1 t h1 f1 e
    exact e1 t (Or.inl hac) b1 b2 (by rw [e, i1]; exact (mx_fr.si ⟨rfl, rfl⟩).tr (mx_fr.si ⟨rfl, rfl⟩))
end
