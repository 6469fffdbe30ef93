def g_far (N : Nat → Nat → Prop) (a b : Nat) : Prop := ∀ S : Nat → Nat → Prop, (∀ a b, N a b → S a b) → (∀ a b c, S a b → S b c → S a c) → S a b
theorem g_far_1 {N : Nat → Nat → Prop} {a b : Nat} (h : N a b) : g_far N a b := fun _ h1 _ => h1 a b h
theorem g_far_t {N : Nat → Nat → Prop} {a b c : Nat} (h : g_far N a b) (h' : g_far N b c) : g_far N a c := fun S h1 h2 => h2 a b c (h S h1 h2) (h' S h1 h2)
def g_W (N : Nat → Nat → Prop) : Nat → Nat → Nat → Prop
  | 0, a, b => N a b
  | k + 1, a, b => g_W N k a b ∨ (g_W N k a k ∧ g_W N k k b)
section
variable {N : Nat → Nat → Prop} {n : Nat}
theorem g_W_1 : ∀ k a b, N a b → g_W N k a b
  | 0, _, _, h => h
  | k + 1, a, b, h => Or.inl (g_W_1 k a b h)
theorem g_W_f : ∀ k a b, g_W N k a b → g_far N a b
  | 0, _, _, h => g_far_1 h
  | k + 1, a, b, h => by
    rcases h with h | ⟨h1, h2⟩
    · exact g_W_f k a b h
    · exact g_far_t (g_W_f k a k h1) (g_W_f k k b h2)
theorem g_W_t : ∀ k m, m < k → ∀ a b, g_W N k a m → g_W N k m b → g_W N k a b
  | 0, m, hm, _, _, _, _ => by omega
  | k + 1, m, hm, a, b, h1, h2 => by
    by_cases e : m = k
    · subst e
      have h3 : g_W N m a m := h1.elim id (fun h => h.1)
      have h4 : g_W N m m b := h2.elim id (fun h => h.2)
      exact Or.inr ⟨h3, h4⟩
    · have ih := g_W_t k m (by omega)
      rcases h1 with h1 | ⟨h1, h1'⟩ <;> rcases h2 with h2 | ⟨h2, h2'⟩
      · exact Or.inl (ih a b h1 h2)
      · exact Or.inr ⟨ih a k h1 h2, h2'⟩
      · exact Or.inr ⟨h1, ih k b h1' h2⟩
      · exact Or.inr ⟨h1, h2'⟩
theorem g_W_s (hN : ∀ a b, N a b → a < n ∧ b < n) : ∀ k a b, g_W N k a b → a < n ∧ b < n
  | 0, _, _, h => hN _ _ h
  | k + 1, a, b, h => by
    rcases h with h | ⟨h1, h2⟩
    · exact g_W_s hN k a b h
    · exact ⟨(g_W_s hN k a k h1).1, (g_W_s hN k k b h2).2⟩
theorem g_W_far (hN : ∀ a b, N a b → a < n ∧ b < n) {k a b : Nat} (hk : n ≤ k) : g_W N k a b ↔ g_far N a b := by
  refine ⟨g_W_f k a b, fun h => h (g_W N k) (g_W_1 k) (fun a b c h1 h2 => ?_)⟩
  have := (g_W_s hN k a b h1).2
  exact g_W_t k b (by omega) a c h1 h2
theorem g_W_k1 {k a : Nat} : g_W N (k + 1) a k ↔ g_W N k a k := ⟨fun h => h.elim id (fun h => h.1), fun h => Or.inl h⟩
theorem g_W_k2 {k b : Nat} : g_W N (k + 1) k b ↔ g_W N k k b := ⟨fun h => h.elim id (fun h => h.2), fun h => Or.inl h⟩
end
def g_N (rs : List gRl) (r x : Nat) : Prop := ∃ rl P, rs[r]? = some rl ∧ g_rule rs rl = some P ∧ ∃ sp ∈ P.1, g_ns rs rl sp x
def g_B (rs : List gRl) (r x : Nat) : Prop := ∃ rl P, rs[r]? = some rl ∧ g_rule rs rl = some P ∧ ∃ sp ∈ P.1, sp.2.2.2 = true ∧ g_ns rs rl sp x
theorem g_N_lt {rs : List gRl} : ∀ r x, g_N rs r x → r < rs.length ∧ x < rs.length := by
  rintro r x ⟨rl, P, h1, h2, sp, h3, h4⟩
  refine ⟨g_len_get h1, ?_⟩
  have hok := (g_rule_ok h2).2.1 sp h3
  rcases h4 with ⟨-, h, -⟩ | ⟨e, rfl⟩ | ⟨e, h⟩
  · exact h
  · rcases hok with (⟨e2, -⟩ | ⟨-, -, h, -⟩ | ⟨e2, -⟩) | ⟨h, -⟩
    · rw [e] at e2
      exact absurd e2 (by decide)
    · exact h
    · rw [e] at e2
      exact absurd e2 (by decide)
    · rw [e] at h
      cases h
  · rcases hok with (⟨e2, -⟩ | ⟨e2, -⟩ | ⟨-, k1, -, k2⟩) | ⟨h9, -⟩
    · rw [e] at e2
      exact absurd e2 (by decide)
    · rw [e] at e2
      exact absurd e2 (by decide)
    · rcases h with rfl | rfl
      · exact k1
      · exact k2
    · rw [e] at h9
      cases h9
theorem g_B_N {rs : List gRl} {r x : Nat} (h : g_B rs r x) : g_N rs r x := by
  obtain ⟨rl, P, h1, h2, sp, h3, -, h4⟩ := h
  exact ⟨rl, P, h1, h2, sp, h3, h4⟩
def g_ring (rs : List gRl) : Prop := ∃ r x, g_B rs r x ∧ g_far (g_N rs) x r
def RTa (G : gSt) (s : mSt) : Prop := ∀ (r : Nat) rl, (g_rs G)[r]? = some rl → RTb G s r rl
def RWc (s : mSt) (n : Nat) (R : Nat → Nat → Prop) : Prop := ∀ r, r < n → ∀ x, x < 9 → (bt (s.1 4 0 r) x = true ↔ R r x)
section
variable {scr : mSc} {d : Nat} {G : gSt} {s t : mSt}
theorem RTa_N (h : RTa G s) {r x : Nat} (hr : r < (g_rs G).length) (hx : x < 9) : (bt (s.1 5 r 10) x = true ↔ g_N (g_rs G) r x) ∧ (bt (s.1 5 r 11) x = true ↔ g_B (g_rs G) r x) := by
  have hrl : (g_rs G)[r]? = some (g_rs G)[r] := List.getElem?_eq_getElem hr
  obtain ⟨P, h1, h2, h3⟩ := h r _ hrl
  constructor
  · rw [h3.1 x hx]
    constructor
    · exact fun h => ⟨_, P, hrl, h1, h⟩
    · rintro ⟨rl, P', k1, k2, k3⟩
      rw [hrl] at k1
      cases k1
      rw [h1] at k2
      cases k2
      exact k3
  · rw [h3.2 x hx]
    constructor
    · exact fun h => ⟨_, P, hrl, h1, h⟩
    · rintro ⟨rl, P', k1, k2, k3⟩
      rw [hrl] at k1
      cases k1
      rw [h1] at k2
      cases k2
      exact k3
theorem RTa_fr {Q : Nat → Nat → Nat → Prop} (h : RTa G s) (hf : mx_fr Q s t) (h1 : ∀ r j, j = 9 ∨ j = 10 ∨ j = 11 → ¬ Q 5 r j) (h2 : ∀ f r j, f = 7 ∨ f = 8 ∨ f = 9 → ¬ Q f r j) : RTa G t := by
  intro r rl hrl
  obtain ⟨P, k1, k2, k3⟩ := h r rl hrl
  refine ⟨P, k1, ⟨(hf.1 _ _ _ (h1 r 9 (by omega))).trans k2.1, fun q sp hq => ?_⟩, ?_⟩
  · obtain ⟨q1, q2, q3⟩ := k2.2 q sp hq
    exact ⟨(hf.1 _ _ _ (h2 7 r q (by omega))).trans q1, (hf.1 _ _ _ (h2 8 r q (by omega))).trans q2, (hf.1 _ _ _ (h2 9 r q (by omega))).trans q3⟩
  · unfold RT2
    rw [hf.1 _ _ _ (h1 r 10 (by omega)), hf.1 _ _ _ (h1 r 11 (by omega))]
    exact k3
def F_4 (f _ _ : Nat) : Prop := f = 4
theorem RC_cf_4 (h : RC_cf G s) (hf : mx_fr F_4 s t) : RC_cf G t := RC_cf_fr h hf (fun h => by cases h) (fun h => by cases h) (fun i j _ h => by cases h) (fun i j h => by cases h)
theorem RTa_4 (h : RTa G s) (hf : mx_fr F_4 s t) : RTa G t := RTa_fr h hf (fun r j _ h => by cases h) (fun f r j h1 h => by unfold F_4 at h; omega)
def g_Wx (N : Nat → Nat → Prop) (k x a b : Nat) : Prop := if a < x then g_W N (k + 1) a b else g_W N k a b
theorem g_Wx_p {N : Nat → Nat → Prop} {k x a b : Nat} (h : a < x) : g_Wx N k x a b = g_W N (k + 1) a b := if_pos h
theorem g_Wx_n {N : Nat → Nat → Prop} {k x a b : Nat} (h : ¬ a < x) : g_Wx N k x a b = g_W N k a b := if_neg h
theorem S_reach_43 {post : mSt → Prop} {ex : Nat → mSt → Prop} {N : Nat → Nat → Prop} {k K : Nat} (hk : k < (g_rs G).length) : ∀ (m x : Nat) (s : mSt), x + m = (g_rs G).length → RC_cf G s → RWc s (g_rs G).length (g_Wx N k x) → (∀ t, RWc t (g_rs G).length (g_W N (k + 1)) → mx_fr F_4 s t → r_Cf_findReached_33 scr (d + 1) post ex K t (nI (k + 1))) → r_Cf_findReached_43 scr (d + 1) post ex (K + m + 1) s (nI k) (nI x) := by
  intro m
  induction m with
  | zero =>
    intro x s hx h hW hy
    have hl := h.1.1
    obtain rfl : x = (g_rs G).length := by omega
    refine w_Cf_findReached_43 (pk_le (g_rs G).length (g_rs G).length (fun _ => ?_) (fun h => by omega) h.2.1 rfl)
    rw [show nI k + (1 : Int32) = nI (k + 1) from nI_1 k]
    refine hy s (fun r hr x hx => ?_) mx_fr.rf
    rw [hW r hr x hx, g_Wx_p hr]
  | succ m ih =>
    intro x s hx h hW hy
    have hl := h.1.1
    refine w_Cf_findReached_43 (pk_le (g_rs G).length x (fun h => by omega) (fun hxl => ⟨pk_in x 9 (by omega), ?_⟩) h.2.1 rfl)
    rw [pk_cl (x := nI x) x, pk_cl (x := nI k) k, show nI x + (1 : Int32) = nI (x + 1) from nI_1 x]
    have hx0 : bt (s.1 4 0 x) k = true ↔ g_W N k x k := by
      rw [hW x hxl k (by omega), g_Wx_n (by omega)]
    have hk0 : ∀ b, b < 9 → (bt (s.1 4 0 k) b = true ↔ g_W N k k b) := fun b hb => by
      rw [hW k hk b hb]
      by_cases e : k < x
      · rw [g_Wx_p e]
        exact g_W_k2
      · rw [g_Wx_n e]
    refine S_hasBit (fun hb => ⟨fun _ => ?_, fun h => absurd rfl h⟩) (fun hb => ⟨fun h => absurd h (by decide), fun _ => ⟨pk_in x 9 (by omega), pk_in k 9 (by omega), pk_in x 9 (by omega), fun t e => ?_⟩⟩)
    · have hno : ¬ g_W N k x k := fun h => hb ((g_bit_bt (by omega)).mpr (hx0.mpr h))
      refine ih (x + 1) s (by omega) h (fun r hr b hb9 => ?_) hy
      rw [hW r hr b hb9]
      by_cases e : r = x
      · subst e
        rw [g_Wx_n (by omega), g_Wx_p (by omega)]
        exact ⟨fun h => Or.inl h, fun h => h.elim id (fun h => absurd h.1 hno)⟩
      · by_cases e2 : r < x
        · rw [g_Wx_p e2, g_Wx_p (by omega)]
        · rw [g_Wx_n e2, g_Wx_n (by omega)]
    · have hyes := hx0.mp ((g_bit_bt (by omega)).mp hb)
      have hf : mx_fr F_4 s t := by
        rw [e]
        exact mx_fr.si rfl
      refine ih (x + 1) t (by omega) (RC_cf_4 h hf) (fun r hr b hb9 => ?_) (fun u h1 h2 => hy u h1 (hf.tr h2))
      by_cases e2 : r = x
      · subst e2
        rw [e, mx_si_s, g_Wx_p (by omega), b_or, Bool.or_eq_true, hW r hr b hb9, g_Wx_n (by omega), hk0 b hb9]
        exact ⟨fun h => h.imp id (fun h => ⟨hyes, h⟩), fun h => h.imp id (fun h => h.2)⟩
      · rw [e, mx_si_n (by omega), hW r hr b hb9]
        by_cases e3 : r < x
        · rw [g_Wx_p e3, g_Wx_p (by omega)]
        · rw [g_Wx_n e3, g_Wx_n (by omega)]
theorem S_reach_33 {post : mSt → Prop} {ex : Nat → mSt → Prop} {N : Nat → Nat → Prop} : ∀ (m k : Nat) (s : mSt), k + m = (g_rs G).length → RC_cf G s → RWc s (g_rs G).length (g_W N k) → (∀ t, RWc t (g_rs G).length (g_W N (g_rs G).length) → mx_fr F_4 s t → post t) → r_Cf_findReached_33 scr (d + 1) post ex (m * ((g_rs G).length + 2) + 1) s (nI k) := by
  intro m
  induction m with
  | zero =>
    intro k s hk h hW hy
    have hl := h.1.1
    obtain rfl : k = (g_rs G).length := by omega
    rw [Nat.zero_mul]
    exact w_Cf_findReached_33 (pk_le (g_rs G).length (g_rs G).length (fun _ => hy s hW mx_fr.rf) (fun h => by omega) h.2.1 rfl)
  | succ m ih =>
    intro k s hk h hW hy
    have hl := h.1.1
    refine w_Cf_findReached_33 (n := (m + 1) * ((g_rs G).length + 2)) (pk_le (g_rs G).length k (fun h => by omega) (fun _ => ?_) h.2.1 rfl)
    rw [show (m + 1) * ((g_rs G).length + 2) = (m * ((g_rs G).length + 2) + 1) + (g_rs G).length + 1 by rw [Nat.add_mul]; omega]
    refine S_reach_43 (N := N) (by omega) (g_rs G).length 0 s (by omega) h (fun r hr x hx => ?_) (fun t ht hf => ih (k + 1) t (by omega) (RC_cf_4 h hf) ht (fun u h1 h2 => hy u h1 (hf.tr h2)))
    rw [g_Wx_n (by omega)]
    exact hW r hr x hx
theorem S_reach_2 {post : mSt → Prop} {ex : Nat → mSt → Prop} {K : Nat} : ∀ (m x : Nat) (s : mSt), x + m = (g_rs G).length → RC_cf G s → RTa G s → (∀ r, r < x → ∀ y, y < 9 → (bt (s.1 4 0 r) y = true ↔ g_N (g_rs G) r y)) → (∀ t, RWc t (g_rs G).length (g_N (g_rs G)) → mx_fr F_4 s t → r_Cf_findReached_33 scr (d + 1) post ex K t 0) → r_Cf_findReached_2 scr (d + 1) post ex (K + m + 1) s (nI x) := by
  intro m
  induction m with
  | zero =>
    intro x s hx h hT hW hy
    have hl := h.1.1
    obtain rfl : x = (g_rs G).length := by omega
    exact w_Cf_findReached_2 (pk_le (g_rs G).length (g_rs G).length (fun _ => hy s hW mx_fr.rf) (fun h => by omega) h.2.1 rfl)
  | succ m ih =>
    intro x s hx h hT hW hy
    have hl := h.1.1
    refine w_Cf_findReached_2 (pk_le (g_rs G).length x (fun h => by omega) (fun hxl => ⟨pk_in x 9 (by omega), pk_in x 9 (by omega), fun t e => ?_⟩) h.2.1 rfl)
    rw [pk_cl (x := nI x) x] at e
    have hf : mx_fr F_4 s t := by
      rw [e]
      exact mx_fr.si rfl
    rw [show nI x + (1 : Int32) = nI (x + 1) from nI_1 x]
    refine ih (x + 1) t (by omega) (RC_cf_4 h hf) (RTa_4 hT hf) (fun r hr y hy9 => ?_) (fun u h1 h2 => hy u h1 (hf.tr h2))
    by_cases e2 : r = x
    · subst e2
      rw [e, mx_si_s]
      exact (RTa_N hT hxl hy9).1
    · rw [e, mx_si_n (by omega)]
      exact hW r (by omega) y hy9
theorem S_reach {post : mSt → Prop} (h : RC_cf G s) (hT : RTa G s) (hy : ∀ t, RWc t (g_rs G).length (g_far (g_N (g_rs G))) → mx_fr F_4 s t → post t) : X_Cf_findReached scr (d + 2) s post := by
  refine w_Cf_findReached ⟨((g_rs G).length * ((g_rs G).length + 2) + 1) + (g_rs G).length + 1, S_reach_2 (g_rs G).length 0 s (by omega) h hT (fun r hr => by omega) (fun t ht hf => S_reach_33 (N := g_N (g_rs G)) (g_rs G).length 0 t (by omega) (RC_cf_4 h hf) ht (fun u hu hfu => hy u (fun r hr x hx => ?_) (hf.tr hfu)))⟩
  rw [hu r hr x hx]
  exact g_W_far g_N_lt (Nat.le_refl _)
theorem S_ring_16 {post : Int32 → mSt → Prop} {ex : Nat → mSt → Prop} {k K : Nat} (hk : k < (g_rs G).length) (h : RC_cf G s) (hT : RTa G s) (hW : RWc s (g_rs G).length (g_far (g_N (g_rs G)))) (hyes : g_ring (g_rs G) → post 1 s) : ∀ (m x : Nat), x + m = (g_rs G).length → (∀ y, y < x → ¬ (g_B (g_rs G) k y ∧ g_far (g_N (g_rs G)) y k)) → ((∀ y, ¬ (g_B (g_rs G) k y ∧ g_far (g_N (g_rs G)) y k)) → r_Cf_hasBarredRing_6 scr (d + 1) post ex K s (nI (k + 1))) → r_Cf_hasBarredRing_16 scr (d + 1) post ex (K + m + 1) s (nI k) (nI x) := by
  have hl := h.1.1
  intro m
  induction m with
  | zero =>
    intro x hx hno hy
    obtain rfl : x = (g_rs G).length := by omega
    refine w_Cf_hasBarredRing_16 (pk_le (g_rs G).length (g_rs G).length (fun _ => ?_) (fun h => by omega) h.2.1 rfl)
    rw [show nI k + (1 : Int32) = nI (k + 1) from nI_1 k]
    exact hy (fun y h => hno y (g_N_lt _ _ (g_B_N h.1)).2 h)
  | succ m ih =>
    intro x hx hno hy
    refine w_Cf_hasBarredRing_16 (pk_le (g_rs G).length x (fun h => by omega) (fun hxl => ⟨pk_in k 9 (by omega), ?_⟩) h.2.1 rfl)
    rw [pk_cl (x := nI k) k, pk_cl (x := nI x) x, show nI x + (1 : Int32) = nI (x + 1) from nI_1 x]
    have hB := (RTa_N hT hk (x := x) (by omega)).2
    have hF := hW x hxl k (by omega)
    have go : ¬ (g_B (g_rs G) k x ∧ g_far (g_N (g_rs G)) x k) → r_Cf_hasBarredRing_16 scr (d + 1) post ex (K + m + 1) s (nI k) (nI (x + 1)) := fun hn => ih (x + 1) (by omega) (fun y hy9 => by
      by_cases e : y = x
      · subst e
        exact hn
      · exact hno y (by omega)) hy
    refine S_hasBit (fun hb => ⟨fun _ => go (fun h => hb ((g_bit_bt (by omega)).mpr (hB.mpr h.1))), fun h => absurd rfl h⟩) (fun hb => ⟨fun h => absurd h (by decide), fun _ => ⟨pk_in x 9 (by omega), S_hasBit (fun hb2 => ⟨fun _ => go (fun h => hb2 ((g_bit_bt (by omega)).mpr (hF.mpr h.2))), fun h => absurd rfl h⟩) (fun hb2 => ⟨fun h => absurd h (by decide), fun _ => ⟨rfl, hyes ⟨k, x, hB.mp ((g_bit_bt (by omega)).mp hb), hF.mp ((g_bit_bt (by omega)).mp hb2)⟩⟩⟩)⟩⟩)
theorem S_ring_6 {post : Int32 → mSt → Prop} {ex : Nat → mSt → Prop} (h : RC_cf G s) (hT : RTa G s) (hW : RWc s (g_rs G).length (g_far (g_N (g_rs G)))) (hyes : g_ring (g_rs G) → post 1 s) (hno : ¬ g_ring (g_rs G) → post 0 s) : ∀ (m k : Nat), k + m = (g_rs G).length → (∀ r, r < k → ∀ y, ¬ (g_B (g_rs G) r y ∧ g_far (g_N (g_rs G)) y r)) → r_Cf_hasBarredRing_6 scr (d + 1) post ex (m * ((g_rs G).length + 2) + 1) s (nI k) := by
  have hl := h.1.1
  intro m
  induction m with
  | zero =>
    intro k hk hr
    obtain rfl : k = (g_rs G).length := by omega
    rw [Nat.zero_mul]
    exact w_Cf_hasBarredRing_6 (pk_le (g_rs G).length (g_rs G).length (fun _ => ⟨rfl, hno (fun ⟨r, x, h1, h2⟩ => hr r (g_N_lt _ _ (g_B_N h1)).1 x ⟨h1, h2⟩)⟩) (fun h => by omega) h.2.1 rfl)
  | succ m ih =>
    intro k hk hr
    refine w_Cf_hasBarredRing_6 (n := (m + 1) * ((g_rs G).length + 2)) (pk_le (g_rs G).length k (fun h => by omega) (fun hkl => ?_) h.2.1 rfl)
    rw [show (m + 1) * ((g_rs G).length + 2) = (m * ((g_rs G).length + 2) + 1) + (g_rs G).length + 1 by rw [Nat.add_mul]; omega]
    refine S_ring_16 hkl h hT hW hyes (g_rs G).length 0 (by omega) (fun y hy => by omega) (fun h1 => ih (k + 1) (by omega) (fun r hr9 y => ?_))
    by_cases e : r = k
    · subst e
      exact h1 y
    · exact hr r (by omega) y
theorem S_ring {post : Int32 → mSt → Prop} (h : RC_cf G s) (hT : RTa G s) (hyes : ∀ t, g_ring (g_rs G) → mx_fr F_4 s t → post 1 t) (hno : ∀ t, ¬ g_ring (g_rs G) → mx_fr F_4 s t → post 0 t) : X_Cf_hasBarredRing scr (d + 3) s post := w_Cf_hasBarredRing ⟨(g_rs G).length * ((g_rs G).length + 2) + 1, S_reach h hT (fun t ht hf => S_ring_6 (RC_cf_4 h hf) (RTa_4 hT hf) ht (fun h1 => hyes t h1 hf) (fun h1 => hno t h1 hf) (g_rs G).length 0 (by omega) (fun r hr => by omega))⟩
end
