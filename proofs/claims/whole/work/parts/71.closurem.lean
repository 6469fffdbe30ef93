def RMx (s : mSt) (f : Nat) (R : Nat → Prop) : Prop := ∀ c, c < 81 → (s.1 f 0 c = 1 ∧ R c) ∨ (s.1 f 0 c = 0 ∧ ¬ R c)
def g_2 (R : Nat → Nat → Prop) (c : Nat) : Prop := R (c / 9) (c % 9)
def RNm (G : gSt) (s : mSt) : Prop := RMx s 25 (g_2 (g_N (g_rs G))) ∧ RMx s 26 (g_2 (g_B (g_rs G)))
def g_V (N : Nat → Nat → Prop) (m k c : Nat) : Prop := if c < k then g_2 (g_W N (m + 1)) c else g_2 (g_W N m) c
theorem g_V_p {N : Nat → Nat → Prop} {m k c : Nat} (h : c < k) : g_V N m k c = g_2 (g_W N (m + 1)) c := if_pos h
theorem g_V_n {N : Nat → Nat → Prop} {m k c : Nat} (h : ¬ c < k) : g_V N m k c = g_2 (g_W N m) c := if_neg h
theorem g_2_at {R : Nat → Nat → Prop} {a b : Nat} (hb : b < 9) : g_2 R (9 * a + b) = R a b := by
  unfold g_2
  rw [show (9 * a + b) / 9 = a by omega, show (9 * a + b) % 9 = b by omega]
theorem g_V_1 {N : Nat → Nat → Prop} {m k a : Nat} (hm : m < 9) : g_V N m k (9 * a + m) ↔ g_W N m a m := by
  by_cases h : 9 * a + m < k
  · rw [g_V_p h, g_2_at hm]
    exact g_W_k1
  · rw [g_V_n h, g_2_at hm]
theorem g_V_2 {N : Nat → Nat → Prop} {m k b : Nat} (hb : b < 9) : g_V N m k (9 * m + b) ↔ g_W N m m b := by
  by_cases h : 9 * m + b < k
  · rw [g_V_p h, g_2_at hb]
    exact g_W_k2
  · rw [g_V_n h, g_2_at hb]
theorem RMx_iff {s : mSt} {f : Nat} {R R' : Nat → Prop} (h : RMx s f R) (h1 : ∀ c, c < 81 → (R c ↔ R' c)) : RMx s f R' := fun c hc => by
  have h2 := h c hc
  rw [h1 c hc] at h2
  exact h2
theorem RMx_fr {s t : mSt} {f : Nat} {R : Nat → Prop} {Q : Nat → Nat → Nat → Prop} (h : RMx s f R) (hf : mx_fr Q s t) (hQ : ∀ j, ¬ Q f 0 j) : RMx t f R := fun c hc => by
  rw [hf.1 f 0 c (hQ c)]
  exact h c hc
def F_27 (f _ _ : Nat) : Prop := f = 27
section
variable {scr : mSc} {d : Nat} {s t : mSt} {N : Nat → Nat → Prop}
theorem RMx_c {R : Nat → Prop} {c : Nat} {A B : Prop} (h : RMx s 27 R) (hc : c < 81) (f : ¬ R c → A) (g : R c → B) : (s.1 27 0 c = 0 → A) ∧ (¬ s.1 27 0 c = 0 → B) := by
  rcases h c hc with ⟨h1, h2⟩ | ⟨h1, h2⟩
  · rw [h1]
    exact ⟨fun h => absurd h (by decide), fun _ => g h2⟩
  · rw [h1]
    exact ⟨fun _ => f h2, fun h => absurd rfl h⟩
theorem g_V_set {m c : Nat} {x : Int32} (h : RMx s 27 (g_V N m c)) (hx : (x = 1 ∧ g_2 (g_W N (m + 1)) c) ∨ (x = 0 ∧ ¬ g_2 (g_W N (m + 1)) c)) : RMx (mx_si s 27 0 c x) 27 (g_V N m (c + 1)) := by
  intro c' hc'
  by_cases e : c' = c
  · subst e
    rw [mx_si_s, g_V_p (by omega)]
    exact hx
  · rw [mx_si_n (by omega)]
    have h1 := h c' hc'
    by_cases e2 : c' < c
    · rw [g_V_p e2] at h1
      rw [g_V_p (by omega)]
      exact h1
    · rw [g_V_n e2] at h1
      rw [g_V_n (by omega)]
      exact h1
theorem S_close_44 {post : mSt → Prop} {ex : Nat → mSt → Prop} {k a K : Nat} (hk : k < 9) (ha : a < 9) : ∀ (m b : Nat) (s : mSt), b + m = 9 → RMx s 27 (g_V N k (9 * a + b)) → (∀ t, RMx t 27 (g_V N k (9 * (a + 1))) → mx_fr F_27 s t → r_Md_close_36 scr d post ex K t (nI k) (nI (a + 1))) → r_Md_close_44 scr d post ex (K + m + 1) s (nI k) (nI a) (nI b) := by
  intro m
  induction m with
  | zero =>
    intro b s hb h hy
    obtain rfl : b = 9 := by omega
    refine w_Md_close_44 (pk_le 9 9 (fun _ => ?_) (fun h => by omega))
    rw [show nI a + (1 : Int32) = nI (a + 1) from nI_1 a]
    exact hy s h mx_fr.rf
  | succ m ih =>
    intro b s hb h hy
    refine w_Md_close_44 (pk_le 9 b (fun h => by omega) (fun _ => ?_))
    rw [show (9 : Int32) * nI a = nI (9 * a) from pk_mul 9 a, show (9 : Int32) * nI k = nI (9 * k) from pk_mul 9 k, nI_add, nI_add, nI_add, show nI b + (1 : Int32) = nI (b + 1) from nI_1 b, pk_cl (x := nI (9 * a + b)) (9 * a + b), pk_cl (x := nI (9 * a + k)) (9 * a + k), pk_cl (x := nI (9 * k + b)) (9 * k + b)]
    have i1 : vp_in (nI (9 * a + b)) 81 := pk_in (9 * a + b) 81 (by omega)
    have i2 : vp_in (nI (9 * a + k)) 81 := pk_in (9 * a + k) 81 (by omega)
    have i3 : vp_in (nI (9 * k + b)) 81 := pk_in (9 * k + b) 81 (by omega)
    have go : ∀ x : Int32, ((x = 1 ∧ g_W N (k + 1) a b) ∨ (x = 0 ∧ ¬ g_W N (k + 1) a b)) → ∀ t, t = mx_si s 27 0 (9 * a + b) x → r_Md_close_44 scr d post ex (K + m + 1) t (nI k) (nI a) (nI (b + 1)) := fun x hx t e => by
      subst e
      refine ih (b + 1) _ (by omega) (g_V_set h (by rw [g_2_at (by omega)]; exact hx)) (fun u h1 h2 => hy u h1 (mx_fr.tr (mx_fr.si rfl) h2))
    refine ⟨i1, RMx_c h (by omega) (fun n1 => ⟨i2, RMx_c h (by omega) (fun n2 => ⟨i1, go 0 (Or.inr ⟨rfl, ?_⟩)⟩) (fun y2 => ⟨i3, RMx_c h (by omega) (fun n3 => ⟨i1, go 0 (Or.inr ⟨rfl, ?_⟩)⟩) (fun y3 => ⟨i1, go 1 (Or.inl ⟨rfl, ?_⟩)⟩)⟩)⟩) (fun y1 => ⟨i1, go 1 (Or.inl ⟨rfl, ?_⟩)⟩)⟩
    · rw [g_V_n (by omega), g_2_at (by omega)] at n1
      rw [g_V_1 hk] at n2
      exact fun h => h.elim n1 (fun h => n2 h.1)
    · rw [g_V_n (by omega), g_2_at (by omega)] at n1
      rw [g_V_2 (by omega)] at n3
      exact fun h => h.elim n1 (fun h => n3 h.2)
    · rw [g_V_1 hk] at y2
      rw [g_V_2 (by omega)] at y3
      exact Or.inr ⟨y2, y3⟩
    · rw [g_V_n (by omega), g_2_at (by omega)] at y1
      exact Or.inl y1
theorem S_close_36 {post : mSt → Prop} {ex : Nat → mSt → Prop} {k K : Nat} (hk : k < 9) : ∀ (m a : Nat) (s : mSt), a + m = 9 → RMx s 27 (g_V N k (9 * a)) → (∀ t, RMx t 27 (g_2 (g_W N (k + 1))) → mx_fr F_27 s t → r_Md_close_28 scr d post ex K t (nI (k + 1))) → r_Md_close_36 scr d post ex (K + 11 * m + 1) s (nI k) (nI a) := by
  intro m
  induction m with
  | zero =>
    intro a s ha h hy
    obtain rfl : a = 9 := by omega
    refine w_Md_close_36 (pk_le 9 9 (fun _ => ?_) (fun h => by omega))
    rw [show nI k + (1 : Int32) = nI (k + 1) from nI_1 k]
    refine hy s (RMx_iff h (fun c hc => ?_)) mx_fr.rf
    rw [g_V_p (by omega)]
  | succ m ih =>
    intro a s ha h hy
    refine w_Md_close_36 (n := K + 11 * (m + 1)) (pk_le 9 a (fun h => by omega) (fun _ => ?_))
    rw [show K + 11 * (m + 1) = (K + 11 * m + 1) + 9 + 1 by omega]
    exact S_close_44 hk (by omega) 9 0 s rfl h (fun t ht hf => ih (a + 1) t (by omega) ht (fun u h1 h2 => hy u h1 (hf.tr h2)))
theorem S_close_28 {post : mSt → Prop} {ex : Nat → mSt → Prop} : ∀ (m k : Nat) (s : mSt), k + m = 9 → RMx s 27 (g_2 (g_W N k)) → (∀ t, RMx t 27 (g_2 (g_W N 9)) → mx_fr F_27 s t → post t) → r_Md_close_28 scr d post ex (101 * m + 1) s (nI k) := by
  intro m
  induction m with
  | zero =>
    intro k s hk h hy
    obtain rfl : k = 9 := by omega
    exact w_Md_close_28 (pk_le 9 9 (fun _ => hy s h mx_fr.rf) (fun h => by omega))
  | succ m ih =>
    intro k s hk h hy
    refine w_Md_close_28 (n := 101 * (m + 1)) (pk_le 9 k (fun h => by omega) (fun _ => ?_))
    rw [show 101 * (m + 1) = (101 * m + 1) + 11 * 9 + 1 by omega]
    refine S_close_36 (by omega) 9 0 s rfl (RMx_iff h (fun c hc => ?_)) (fun t ht hf => ih (k + 1) t (by omega) ht (fun u h1 h2 => hy u h1 (hf.tr h2)))
    rw [g_V_n (by omega)]
theorem S_close_2 {post : mSt → Prop} {ex : Nat → mSt → Prop} {K : Nat} : ∀ (m x : Nat) (s : mSt), x + m = 81 → RMx s 25 (g_2 N) → (∀ c, c < x → (s.1 27 0 c = 1 ∧ g_2 N c) ∨ (s.1 27 0 c = 0 ∧ ¬ g_2 N c)) → (∀ t, RMx t 27 (g_2 N) → mx_fr F_27 s t → r_Md_close_28 scr d post ex K t 0) → r_Md_close_2 scr d post ex (K + m + 1) s (nI x) := by
  intro m
  induction m with
  | zero =>
    intro x s hx h hW hy
    obtain rfl : x = 81 := by omega
    exact w_Md_close_2 (pk_le 81 81 (fun _ => hy s hW mx_fr.rf) (fun h => by omega))
  | succ m ih =>
    intro x s hx h hW hy
    refine w_Md_close_2 (pk_le 81 x (fun h => by omega) (fun hxl => ⟨pk_in x 81 hxl, pk_in x 81 hxl, fun t e => ?_⟩))
    rw [pk_cl (x := nI x) x] at e
    have hf : mx_fr F_27 s t := by
      rw [e]
      exact mx_fr.si rfl
    rw [show nI x + (1 : Int32) = nI (x + 1) from nI_1 x]
    refine ih (x + 1) t (by omega) (RMx_fr h hf (fun j h => by cases h)) (fun c hc => ?_) (fun u h1 h2 => hy u h1 (hf.tr h2))
    by_cases e2 : c = x
    · subst e2
      rw [e, mx_si_s]
      rcases h c hxl with ⟨h1, h2⟩ | ⟨h1, h2⟩
      · rw [h1]
        exact Or.inl ⟨rfl, h2⟩
      · rw [h1]
        exact Or.inr ⟨rfl, h2⟩
    · rw [e, mx_si_n (by omega)]
      exact hW c (by omega)
end
section
variable {scr : mSc} {d : Nat} {G : gSt} {s : mSt}
theorem S_close {post : mSt → Prop} (hl : (g_rs G).length ≤ 9) (h : RNm G s) (hy : ∀ t, RMx t 27 (g_2 (g_far (g_N (g_rs G)))) → mx_fr F_27 s t → post t) : X_Md_close scr (d + 1) s post := w_Md_close ⟨(101 * 9 + 1) + 81 + 1, S_close_2 (N := g_N (g_rs G)) 81 0 s rfl h.1 (fun c hc => by omega) (fun t ht hf => S_close_28 (N := g_N (g_rs G)) 9 0 t rfl ht (fun u hu hfu => hy u (RMx_iff hu (fun c hc => g_W_far g_N_lt hl)) (hf.tr hfu)))⟩
theorem S_circ_12 {post : Int32 → mSt → Prop} {ex : Nat → mSt → Prop} {a K : Nat} {Pre : Prop} (ha : a < 9) (h : RNm G s) (hW : RMx s 27 (g_2 (g_far (g_N (g_rs G))))) : ∀ (m b : Nat) (v : Int32), b + m = 9 → ((v = 1 ∧ g_ring (g_rs G)) ∨ (v = 0 ∧ Pre ∧ ∀ y, y < b → ¬ (g_B (g_rs G) a y ∧ g_far (g_N (g_rs G)) y a))) → (∀ v, ((v = 1 ∧ g_ring (g_rs G)) ∨ (v = 0 ∧ Pre ∧ ∀ y, y < 9 → ¬ (g_B (g_rs G) a y ∧ g_far (g_N (g_rs G)) y a))) → r_Md_isCircular_4 scr d post ex K s v (nI (a + 1))) → r_Md_isCircular_12 scr d post ex (K + m + 1) s v (nI a) (nI b) := by
  intro m
  induction m with
  | zero =>
    intro b v hb hv hy
    obtain rfl : b = 9 := by omega
    refine w_Md_isCircular_12 (pk_le 9 9 (fun _ => ?_) (fun h => by omega))
    rw [show nI a + (1 : Int32) = nI (a + 1) from nI_1 a]
    exact hy v hv
  | succ m ih =>
    intro b v hb hv hy
    refine w_Md_isCircular_12 (pk_le 9 b (fun h => by omega) (fun _ => ?_))
    rw [show (9 : Int32) * nI a = nI (9 * a) from pk_mul 9 a, show (9 : Int32) * nI b = nI (9 * b) from pk_mul 9 b, nI_add, nI_add, show nI b + (1 : Int32) = nI (b + 1) from nI_1 b, pk_cl (x := nI (9 * a + b)) (9 * a + b), pk_cl (x := nI (9 * b + a)) (9 * b + a)]
    rcases hv with ⟨rfl, hr⟩ | ⟨rfl, hp, hn⟩
    · exact ⟨fun h => absurd h (by decide), fun _ => ih (b + 1) 1 (by omega) (Or.inl ⟨rfl, hr⟩) hy⟩
    · have go : ¬ (g_B (g_rs G) a b ∧ g_far (g_N (g_rs G)) b a) → r_Md_isCircular_12 scr d post ex (K + m + 1) s 0 (nI a) (nI (b + 1)) := fun h9 => ih (b + 1) 0 (by omega) (Or.inr ⟨rfl, hp, fun y hy9 => by
        by_cases e : y = b
        · subst e
          exact h9
        · exact hn y (by omega)⟩) hy
      refine ⟨fun _ => ⟨pk_in (9 * a + b) 81 (by omega), ?_⟩, fun h => absurd rfl h⟩
      rcases h.2 (9 * a + b) (by omega) with ⟨h1, h2⟩ | ⟨h1, h2⟩
      · rw [h1]
        rw [g_2_at (by omega)] at h2
        refine ⟨fun h => absurd h (by decide), fun _ => ⟨pk_in (9 * b + a) 81 (by omega), RMx_c hW (by omega) (fun n1 => go (fun h => ?_)) (fun y1 => ih (b + 1) 1 (by omega) (Or.inl ⟨rfl, a, b, h2, ?_⟩) hy)⟩⟩
        · rw [g_2_at (by omega)] at n1
          exact n1 h.2
        · rw [g_2_at (by omega)] at y1
          exact y1
      · rw [h1]
        rw [g_2_at (by omega)] at h2
        exact ⟨fun _ => go (fun h => h2 h.1), fun h => absurd rfl h⟩
theorem S_circ_4 {post : Int32 → mSt → Prop} {ex : Nat → mSt → Prop} (hl : (g_rs G).length ≤ 9) (h : RNm G s) (hW : RMx s 27 (g_2 (g_far (g_N (g_rs G))))) (hyes : g_ring (g_rs G) → post 1 s) (hno : ¬ g_ring (g_rs G) → post 0 s) : ∀ (m a : Nat) (v : Int32), a + m = 9 → ((v = 1 ∧ g_ring (g_rs G)) ∨ (v = 0 ∧ ∀ r, r < a → ∀ y, ¬ (g_B (g_rs G) r y ∧ g_far (g_N (g_rs G)) y r))) → r_Md_isCircular_4 scr d post ex (11 * m + 1) s v (nI a) := by
  intro m
  induction m with
  | zero =>
    intro a v ha hv
    obtain rfl : a = 9 := by omega
    refine w_Md_isCircular_4 (pk_le 9 9 (fun _ => ?_) (fun h => by omega))
    rcases hv with ⟨rfl, hr⟩ | ⟨rfl, hn⟩
    · exact ⟨rfl, hyes hr⟩
    · exact ⟨rfl, hno (fun ⟨r, x, h1, h2⟩ => hn r (by have := (g_N_lt _ _ (g_B_N h1)).1; omega) x ⟨h1, h2⟩)⟩
  | succ m ih =>
    intro a v ha hv
    refine w_Md_isCircular_4 (n := 11 * (m + 1)) (pk_le 9 a (fun h => by omega) (fun _ => ?_))
    rw [show 11 * (m + 1) = (11 * m + 1) + 9 + 1 by omega]
    refine S_circ_12 (Pre := ∀ r, r < a → ∀ y, ¬ (g_B (g_rs G) r y ∧ g_far (g_N (g_rs G)) y r)) (by omega) h hW 9 0 v rfl ?_ (fun v' hv' => ih (a + 1) v' (by omega) ?_)
    · rcases hv with hv | ⟨h1, h2⟩
      · exact Or.inl hv
      · exact Or.inr ⟨h1, h2, fun y hy => by omega⟩
    · rcases hv' with hv' | ⟨h1, h3, h2⟩
      · exact Or.inl hv'
      · refine Or.inr ⟨h1, fun r hr y h9 => ?_⟩
        by_cases e : r = a
        · subst e
          exact h2 y (by have := (g_N_lt _ _ (g_B_N h9.1)).2; omega) h9
        · exact h3 r (by omega) y h9
theorem S_circ {post : Int32 → mSt → Prop} (hl : (g_rs G).length ≤ 9) (h : RNm G s) (hW : RMx s 27 (g_2 (g_far (g_N (g_rs G))))) (hyes : g_ring (g_rs G) → post 1 s) (hno : ¬ g_ring (g_rs G) → post 0 s) : X_Md_isCircular scr (d + 1) s post := w_Md_isCircular ⟨11 * 9 + 1, S_circ_4 hl h hW hyes hno 9 0 0 rfl (Or.inr ⟨rfl, fun r hr => by omega⟩)⟩
end
