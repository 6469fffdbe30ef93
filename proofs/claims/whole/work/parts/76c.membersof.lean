section
variable {scr : mSc} {d : Nat} {G : gSt} {s : mSt} {v l : Nat} {p : (gTp → Bool) × Nat}
theorem S_settle_22 {post : mSt → Prop} {ex : Nat → mSt → Prop} {m0 : Nat → Nat → Int32} {k K : Nat} (hk : k < 2 ^ 20) (hl2 : l < 2 ^ 20) (hg : ¬ g_ring (g_rs G)) (hT : g_Tw (g_rs G) p.1) (hp : ∀ u, p.1 u = true → g_wu G u) : ∀ (m x : Nat) (s : mSt) (g : Bool), x + m = (g_rs G).length → RS G s v p → g_way (g_rs G) p.1 l m0 (mC (s.1 16 v)) g (fun _ y => y < x) → (∀ t g, g_way (g_rs G) p.1 l m0 (mC (t.1 16 v)) g (fun _ y => y < (g_rs G).length) → RS G t v p → mx_fr (F_mv v) s t → r_Vs_settle_5 scr (d + 5) v (nI l) post ex K t (bI g) (nI (k + 1))) → r_Vs_settle_22 scr (d + 5) v (nI l) post ex (K + m + 1) s (bI g) (nI k) (nI x) := by
  intro m
  induction m with
  | zero =>
    intro x s g hx h hw hy
    have hl9 := h.1.1.1
    obtain rfl : x = (g_rs G).length := by omega
    refine w_Vs_settle_22 (pk_le (g_rs G).length (g_rs G).length (fun _ => ?_) (fun h => by omega) h.1.2.1 rfl)
    rw [show nI k + (1 : Int32) = nI (k + 1) from nI_1 k]
    exact hy s g hw h mx_fr.rf
  | succ m ih =>
    intro x s g hx h hw hy
    have hl9 := h.1.1.1
    refine w_Vs_settle_22 (pk_le (g_rs G).length x (fun h => by omega) (fun hxl => ⟨pk_in x 9 (by omega), ?_⟩) h.1.2.1 rfl)
    have hlx := g_lev_le hg x
    have hrl : (g_rs G)[x]? = some (g_rs G)[x] := List.getElem?_eq_getElem hxl
    rw [pk_cl (x := nI x) x, show nI x + (1 : Int32) = nI (x + 1) from nI_1 x]
    refine pk_eq (g_lev (g_rs G) x) l (fun e => ?_) (fun e => ?_) (h.2.2.1 x hxl) rfl
    · refine w_Vs_grow ⟨5, S_grow_5 (m0 := m0) (D := fun _ y => y < x) hg hT hp hrl e 4 0 s false g rfl h ?_ (fun t c g1 g2 g3 => ?_)⟩
      · rw [Bool.or_false]
        exact ⟨hw.1, hw.2.1, hw.2.2.1, fun h9 => ⟨(hw.2.2.2 h9).1, fun a y hD => (hw.2.2.2 h9).2 a y (hD.elim id (fun h => by omega))⟩⟩
      · have g1' : g_way (g_rs G) p.1 l m0 (mC (t.1 16 v)) (g || c) (fun _ y => y < x + 1) := ⟨g1.1, g1.2.1, g1.2.2.1, fun h9 => ⟨(g1.2.2.2 h9).1, fun a y hD => (g1.2.2.2 h9).2 a y (by by_cases e : y = x; exact Or.inr e; exact Or.inl (by omega))⟩⟩
        have go := ih (x + 1) t (g || c) (by omega) g2 g1' (fun u g' k1 k2 k3 => hy u g' k1 k2 (g3.tr k3))
        cases c with
        | false =>
          rw [Bool.or_false] at go
          exact ⟨fun _ => go, fun h => absurd rfl h⟩
        | true =>
          rw [Bool.or_true] at go
          exact ⟨fun h => absurd h (by decide), fun _ => go⟩
    · refine ih (x + 1) s g (by omega) h ⟨hw.1, hw.2.1, hw.2.2.1, fun h9 => ⟨(hw.2.2.2 h9).1, fun a y hD hv hy9 => ?_⟩⟩ hy
      by_cases e2 : y = x
      · subst e2
        exact absurd hy9 e
      · exact (hw.2.2.2 h9).2 a y (by omega) hv hy9
theorem S_settle_5 {post : mSt → Prop} {ex : Nat → mSt → Prop} (hl2 : l < 2 ^ 20) (hg : ¬ g_ring (g_rs G)) (hT : g_Tw (g_rs G) p.1) (hp : ∀ u, p.1 u = true → g_wu G u) : ∀ (m k : Nat) (s : mSt) (g : Bool), k + m = 289 → RS G s v p → g_mid (g_rs G) p.1 l (mC (s.1 16 v)) → (g = true → k ≤ g_size (g_rs G) (mC (s.1 16 v))) → (g = false → ∀ o r, g_Vn (g_rs G) o r → g_lev (g_rs G) r = l → mC (s.1 16 v) o r = g_F (g_rs G) p.1 (mC (s.1 16 v)) o r) → (∀ t, g_mid (g_rs G) p.1 (l + 1) (mC (t.1 16 v)) → RS G t v p → mx_fr (F_mv v) s t → post t) → r_Vs_settle_5 scr (d + 5) v (nI l) post ex (m * ((g_rs G).length + 2) + 1) s (bI g) (nI k) := by
  intro m
  induction m with
  | zero =>
    intro k s g hk h hmid hgt hgf hy
    rw [Nat.zero_mul]
    cases g with
    | true =>
      have h1 := hgt rfl
      have h2 := g_size_le (rs := g_rs G) (m := mC (s.1 16 v))
      omega
    | false => exact w_Vs_settle_5 ⟨fun _ => hy s (g_mid_up hmid (hgf rfl)) h mx_fr.rf, fun h => absurd rfl h⟩
  | succ m ih =>
    intro k s g hk h hmid hgt hgf hy
    cases g with
    | false => exact w_Vs_settle_5 ⟨fun _ => hy s (g_mid_up hmid (hgf rfl)) h mx_fr.rf, fun h => absurd rfl h⟩
    | true =>
      refine w_Vs_settle_5 (n := (m + 1) * ((g_rs G).length + 2)) ⟨fun h => absurd h (by decide), fun _ => pk_lt 288 k (fun h => by omega) (fun _ => ?_)⟩
      rw [show (m + 1) * ((g_rs G).length + 2) = (m * ((g_rs G).length + 2) + 1) + (g_rs G).length + 1 by rw [Nat.add_mul]; omega]
      have h1 := hgt rfl
      refine S_settle_22 (m0 := mC (s.1 16 v)) (by omega) hl2 hg hT hp (g_rs G).length 0 s false (by omega) h ⟨hmid, Nat.le_refl _, fun h => (by cases h), fun _ => ⟨fun _ _ _ => rfl, fun _ y hy => by omega⟩⟩ (fun t g' k1 k2 k3 => ih (k + 1) t g' (by omega) k2 k1.1 (fun e => ?_) (fun e o r hV hl => ?_) (fun u j1 j2 j3 => hy u j1 j2 (k3.tr j3)))
      · have := k1.2.2.1 e
        omega
      · refine (k1.2.2.2 e).2 o r ?_ hV hl
        obtain ⟨-, rl, h9, -⟩ := hV
        exact g_len_get h9
theorem S_settle {post : mSt → Prop} (hl2 : l < 2 ^ 20) (hg : ¬ g_ring (g_rs G)) (hT : g_Tw (g_rs G) p.1) (hp : ∀ u, p.1 u = true → g_wu G u) (h : RS G s v p) (hmid : g_mid (g_rs G) p.1 l (mC (s.1 16 v))) (hy : ∀ t, g_mid (g_rs G) p.1 (l + 1) (mC (t.1 16 v)) → RS G t v p → mx_fr (F_mv v) s t → post t) : X_Vs_settle scr (d + 6) s v (nI l) post := w_Vs_settle ⟨289 * ((g_rs G).length + 2) + 1, S_settle_5 hl2 hg hT hp 289 0 s true rfl h hmid (fun _ => Nat.zero_le _) (fun h => by cases h) hy⟩
theorem S_fillII_5 {post : mSt → Prop} {ex : Nat → mSt → Prop} : ∀ (m x : Nat) (s : mSt), x + m = 36 → (∀ t, mx_fr (fun f i _ => f = 16 ∧ i = v) s t → (∀ q, x ≤ q → q < 36 → t.1 16 v q = 0) → (∀ q, q < x → t.1 16 v q = s.1 16 v q) → post t) → r_Ar_fillII_5 scr d v 0 post ex (m + 1) s (nI x) (nI 36) := by
  intro m
  induction m with
  | zero =>
    intro x s hx h
    obtain rfl : x = 36 := by omega
    exact w_Ar_fillII_5 (pk_le 36 36 (fun _ => h s mx_fr.rf (fun q h1 h2 => by omega) (fun q _ => rfl)) (fun h => by omega))
  | succ m ih =>
    intro x s hx h
    refine w_Ar_fillII_5 (pk_le 36 x (fun h => by omega) (fun _ => ⟨pk_in x 36 (by omega), fun t e => ?_⟩))
    rw [pk_cl (x := nI x) x] at e
    subst e
    rw [show nI x + (1 : Int32) = nI (x + 1) from nI_1 x]
    refine ih (x + 1) _ (by omega) (fun t g1 g2 g3 => h t (mx_fr.tr (mx_fr.si ⟨rfl, rfl⟩) g1) (fun q p1 p2 => ?_) (fun q p => ?_))
    · by_cases hq : x + 1 ≤ q
      · exact g2 q hq p2
      · obtain rfl : q = x := by omega
        rw [g3 q (by omega)]
        exact mx_si_s
    · rw [g3 q (by omega)]
      exact mx_si_n (by omega)
theorem S_mof_17 {post : Int32 → mSt → Prop} {ex : Nat → mSt → Prop} {a1 : Int32} (hg : ¬ g_ring (g_rs G)) (hT : g_Tw (g_rs G) p.1) (hp : ∀ u, p.1 u = true → g_wu G u) : ∀ (m x : Nat) (s : mSt), x + m = (g_rs G).length → RS G s v p → g_mid (g_rs G) p.1 x (mC (s.1 16 v)) → (∀ t, g_isM (g_rs G) p.1 (mC (t.1 16 v)) → RS G t v p → mx_fr (F_mv v) s t → ∀ u, u = mx_si t 14 v 3 (1 : Int32) → (vp_in a1 36 ∧ post (u.1 16 v (a1).toNatClampNeg) u)) → r_Vs_membersOf_17 scr (d + 6) v a1 post ex (m + 1) s (nI x) := by
  intro m
  induction m with
  | zero =>
    intro x s hx h hmid hy
    have hl9 := h.1.1.1
    obtain rfl : x = (g_rs G).length := by omega
    refine w_Vs_membersOf_17 (pk_le (g_rs G).length (g_rs G).length (fun _ => ⟨rfl, hy s (g_mid_M hmid (fun o r hV => ?_)) h mx_fr.rf⟩) (fun h => by omega) h.1.2.1 rfl)
    obtain ⟨-, rl, h9, -⟩ := hV
    exact g_lev_lt hg (g_len_get h9)
  | succ m ih =>
    intro x s hx h hmid hy
    have hl9 := h.1.1.1
    refine w_Vs_membersOf_17 (pk_le (g_rs G).length x (fun h => by omega) (fun hxl => ?_) h.1.2.1 rfl)
    rw [show nI x + (1 : Int32) = nI (x + 1) from nI_1 x]
    exact S_settle (by omega) hg hT hp h hmid (fun t k1 k2 k3 => ih (x + 1) t (by omega) k2 k1 (fun u j1 j2 j3 => hy u j1 j2 (k3.tr j3)))
def g_WM (G : gSt) (T : gTp → Bool) (A : Nat → Int32) : Prop := g_ac G = true ∧ g_isM (g_rs G) T (mC A)
def RCx (G : gSt) (s : mSt) : Prop := RC_cf G s ∧ RTa G s ∧ RL s (g_rs G).length (g_lev (g_rs G))
theorem RCx_fr {t : mSt} {Q : Nat → Nat → Nat → Prop} (h : RCx G s) (hf : mx_fr Q s t) (hQ : ∀ f i j, Q f i j → 13 ≤ f) : RCx G t := ⟨RC_cf_fr h.1 hf (fun h => by have := hQ _ _ _ h; omega) (fun h => by have := hQ _ _ _ h; omega) (fun i j _ h => by have := hQ _ _ _ h; omega) (fun i j h => by have := hQ _ _ _ h; omega), RTa_fr h.2.1 hf (fun r j _ h => by have := hQ _ _ _ h; omega) (fun f r j h1 h => by have := hQ _ _ _ h; omega), fun r hr => (hf.1 _ _ _ (fun h => by have := hQ _ _ _ h; omega)).trans (h.2.2 r hr)⟩
theorem S_membersOf {post : Int32 → mSt → Prop} {t n : Nat} (hac1 : g_ac G = true) (hg : ¬ g_ring (g_rs G)) (hw : g_wl G) (h : RCx G s) (hv : RC_v1 (g_WM G) G s v t) (hn : n < 36) (hy : ∀ u, RC_v1 (g_WM G) G u v t → RCx G u → g_isM (g_rs G) (g_at_t G t).1 (mC (u.1 16 v)) → mx_fr (F_vs v) s u → post (u.1 16 v n) u) : X_Vs_membersOf scr (d + 7) s v (nI n) post := by
  have hl9 := h.1.1.1
  have hT := g_Tw_at (t := t) hl9 hw
  have hp : ∀ u, (g_at_t G t).1 u = true → g_wu G u := fun u hu => g_at_w hw hu
  obtain ⟨v1, v2, v3, v4, v5⟩ := hv
  refine w_Vs_membersOf ⟨(g_rs G).length + 1, fun e0 => ?_, fun e0 => ⟨pk_in n 36 hn, ?_⟩⟩
  · refine w_Ar_fillII ⟨37, S_fillII_5 36 0 s rfl (fun s1 f1 z1 _ => ?_)⟩
    have h1 : RCx G s1 := RCx_fr h f1 (fun f i j h => by omega)
    have hS : RS G s1 v (g_at_t G t) := ⟨h1.1, h1.2.1, h1.2.2, by rw [show s1.2.1 15 v = s.2.1 15 v from funext fun j => f1.2.1 15 v j (fun h => by cases h.1)]; exact v4⟩
    have ff : mx_fr (F_vs v) s s1 := f1.mono (fun f i j h => ⟨h.2, Or.inl h.1⟩)
    refine S_mof_17 hg hT hp (g_rs G).length 0 s1 (by omega) hS (g_mid_0 (fun o r hV => ?_)) (fun s2 k1 k2 k3 u eu => ⟨pk_in n 36 hn, ?_⟩)
    · obtain ⟨-, rl, h9, -⟩ := hV
      have := g_len_get h9
      exact z1 _ (Nat.zero_le _) (by omega)
    · have f2 : mx_fr (F_vs v) s1 s2 := k3.mono (fun f i j h => ⟨h.1, h.2.elim Or.inl (fun h => Or.inr (Or.inl h))⟩)
      have f3 : mx_fr (F_vs v) s2 u := by
        rw [eu]
        exact mx_fr.si ⟨rfl, Or.inr (Or.inr ⟨rfl, rfl⟩)⟩
      have fu := (ff.tr f2).tr f3
      have e16 : u.1 16 v = s2.1 16 v := funext fun j => by rw [eu, mx_si_n (by omega)]
      have k1' : g_WM G (g_at_t G t).1 (u.1 16 v) := by
        unfold g_WM
        rw [e16]
        exact ⟨hac1, k1⟩
      rw [pk_cl (x := nI n) n]
      refine hy u ⟨v1, v2, (fu.1 14 v 0 (fun h => by have := h.2; omega)).trans v3, ?_, Or.inr ⟨by rw [eu, mx_si_s], k1'⟩⟩ (RCx_fr h fu (fun f i j h => by have := h.2; omega)) k1'.2 fu
      rw [show u.2.1 15 v = s.2.1 15 v from funext fun j => fu.2.1 15 v j (fun h => by have := h.2; omega)]
      exact v4
  · rw [pk_cl (x := nI n) n]
    rcases v5 with v5 | v5
    · exact absurd v5 e0
    · exact hy s ⟨v1, v2, v3, v4, Or.inr v5⟩ h v5.2.2 mx_fr.rf
end
