def g_E (T : gTp → Bool) (x y : Nat) : Prop := T (x / 9, x % 9, 2, y / 9, y % 9) = true
def g_eC (S : Nat → Int64) (n y : Nat) : Prop := n < 36 ∧ lb (S n) (20 + y) = true
def g_ph (x : Nat) : Nat := x % 9 * 4 + x / 9 % 4
section
variable {G : gSt} {S : Nat → Int64} {p : (gTp → Bool) × Nat}
theorem g_far_C (hl : (g_rs G).length ≤ 9) (hA : RC_tp G S p) (hp : ∀ u, p.1 u = true → g_wu G u) {o r o' r' : Nat} (hV : g_Vn (g_rs G) o r) (hV' : g_Vn (g_rs G) o' r') : g_far (g_eC S) (r * 4 + o % 4) (r' * 4 + o' % 4) ↔ g_far (g_E p.1) (9 * o + r) (9 * o' + r') := by
  have hr : ∀ o r, g_Vn (g_rs G) o r → r < 9 := fun o r h => by
    obtain ⟨-, rl, h2, -⟩ := h
    have := g_len_get h2
    omega
  have hVT : ∀ o r a s, p.1 (o, r, 2, a, s) = true → g_Vn (g_rs G) o r ∧ g_Vn (g_rs G) a s := fun o r a s h => by
    have hw := hp _ h
    refine ⟨g_wu_V hw, ?_⟩
    obtain ⟨-, rl, -, -, h4⟩ := hw
    rcases h4 with ⟨e, -⟩ | ⟨e, -⟩ | ⟨-, h5, rl2, h6, h7, -⟩
    · exact absurd e (by show ¬ 2 = 0; omega)
    · exact absurd e (by show ¬ 2 = 1; omega)
    · exact ⟨h5, rl2, h6, h7⟩
  constructor
  · intro h
    have h1 := h (fun n y => ∀ o r, g_Vn (g_rs G) o r → r * 4 + o % 4 = n → ∃ a s, g_Vn (g_rs G) a s ∧ s * 4 + a % 4 = y ∧ g_far (g_E p.1) (9 * o + r) (9 * a + s)) (fun n y he o r hV e => ?_) (fun a b c h1 h2 o r hV e => ?_) o r hV rfl
    · obtain ⟨a, s, k1, k2, k3⟩ := h1
      have := hr _ _ k1
      have := hr _ _ hV'
      obtain rfl : s = r' := by omega
      obtain rfl : a = o' := g_Vn_nd k1 hV' (by omega)
      exact k3
    · subst e
      obtain ⟨a, s, k1, k2⟩ := (RC_b2 hl hA hp hV).mp he.2
      have hv := hVT _ _ _ _ k1
      have := hr _ _ hv.1
      have := hr _ _ hv.2
      refine ⟨a, s, hv.2, k2.symm, g_far_1 ?_⟩
      show p.1 ((9 * o + r) / 9, (9 * o + r) % 9, 2, (9 * a + s) / 9, (9 * a + s) % 9) = true
      rw [show (9 * o + r) / 9 = o by omega, show (9 * o + r) % 9 = r by omega, show (9 * a + s) / 9 = a by omega, show (9 * a + s) % 9 = s by omega]
      exact k1
    · obtain ⟨a', s', k1, k2, k3⟩ := h1 o r hV e
      obtain ⟨a'', s'', j1, j2, j3⟩ := h2 a' s' k1 k2
      exact ⟨a'', s'', j1, j2, g_far_t k3 j3⟩
  · intro h
    have h1 := h (fun x y => g_Vn (g_rs G) (x / 9) (x % 9) ∧ g_Vn (g_rs G) (y / 9) (y % 9) ∧ g_far (g_eC S) (g_ph x) (g_ph y)) (fun x y he => ?_) (fun a b c h1 h2 => ⟨h1.1, h2.2.1, g_far_t h1.2.2 h2.2.2⟩)
    · have h2 := h1.2.2
      have := hr _ _ hV
      have := hr _ _ hV'
      unfold g_ph at h2
      rw [show (9 * o + r) / 9 = o by omega, show (9 * o + r) % 9 = r by omega, show (9 * o' + r') / 9 = o' by omega, show (9 * o' + r') % 9 = r' by omega] at h2
      exact h2
    · have hv := hVT _ _ _ _ he
      have := hr _ _ hv.1
      exact ⟨hv.1, hv.2, g_far_1 ⟨by unfold g_ph; omega, (RC_b2 hl hA hp hv.1).mpr ⟨_, _, he, rfl⟩⟩⟩
end
noncomputable def g_cL (w : Int64) : Nat := g_cnt (fun i => lb w i = true) 36
section
variable {scr : mSc} {d : Nat} {s : mSt} {v n0 n1 : Nat}
theorem S_leads_36 {post : Int32 → mSt → Prop} {ex : Nat → mSt → Prop} {a1 a2 : Int32} {k K : Nat} {R : Int64} : ∀ (m x : Nat) (w : Int64), x + m = 36 → (∀ i, lb w i = true ↔ lb R i = true ∨ ∃ y, y < x ∧ lb R y = true ∧ lb (s.2.1 15 v y) (20 + i) = true) → (∀ w, (∀ i, lb w i = true ↔ lb R i = true ∨ ∃ y, y < 36 ∧ lb R y = true ∧ lb (s.2.1 15 v y) (20 + i) = true) → r_Vs_leads_16 scr d v a1 a2 post ex K s R w (nI (k + 1))) → r_Vs_leads_36 scr d v a1 a2 post ex (K + m + 1) s R w (nI k) (nI x) := by
  intro m
  induction m with
  | zero =>
    intro x w hx hw hy
    obtain rfl : x = 36 := by omega
    refine w_Vs_leads_36 (pk_le 36 36 (fun _ => ?_) (fun h => by omega))
    rw [show nI k + (1 : Int32) = nI (k + 1) from nI_1 k]
    exact hy w hw
  | succ m ih =>
    intro x w hx hw hy
    refine w_Vs_leads_36 (pk_le 36 x (fun h => by omega) (fun _ => ?_))
    rw [show nI x + (1 : Int32) = nI (x + 1) from nI_1 x, pk_cl (x := nI x) x]
    refine c_bit (by omega) (fun e => ih (x + 1) w (by omega) (fun i => ?_) hy) (fun e => ⟨pk_in x 36 (by omega), ih (x + 1) _ (by omega) (fun i => ?_) hy⟩)
    · rw [hw i]
      refine or_congr_right ⟨fun ⟨y, k1, k2⟩ => ⟨y, by omega, k2⟩, fun ⟨y, k1, k2, k3⟩ => ?_⟩
      by_cases hyx : y = x
      · subst hyx
        rw [e] at k2
        cases k2
      · exact ⟨y, by omega, k2, k3⟩
    · rw [lb_or, Bool.or_eq_true, hw i, show lb ((s.2.1 15 v x).toUInt64 >>> (((20 : Int32)).toInt64.toUInt64 &&& Int64.toUInt64 63)).toInt64 i = lb (s.2.1 15 v x) (20 + i) from lb_shr _ (k := 20) (by omega) i]
      constructor
      · rintro ((h | ⟨y, k1, k2⟩) | h)
        · exact Or.inl h
        · exact Or.inr ⟨y, by omega, k2⟩
        · exact Or.inr ⟨x, by omega, e, h⟩
      · rintro (h | ⟨y, k1, k2, k3⟩)
        · exact Or.inl (Or.inl h)
        · by_cases hyx : y = x
          · subst hyx
            exact Or.inr k3
          · exact Or.inl (Or.inr ⟨y, by omega, k2, k3⟩)
theorem S_leads_16 {post : Int32 → mSt → Prop} {ex : Nat → mSt → Prop} {a1 : Int32} (hn1 : n1 < 36) (hS : ∀ n i, n < 36 → 36 ≤ i → lb (s.2.1 15 v n) (20 + i) = false) (hy : g_far (g_eC (s.2.1 15 v)) n0 n1 → post 1 s) (hn : ¬ g_far (g_eC (s.2.1 15 v)) n0 n1 → post 0 s) : ∀ (m k : Nat) (R w : Int64), k + m = 36 → (∀ i, lb w i = true → g_far (g_eC (s.2.1 15 v)) n0 i) → (∀ i, g_eC (s.2.1 15 v) n0 i → lb w i = true) → (∀ y i, y < 36 → lb R y = true → lb (s.2.1 15 v y) (20 + i) = true → lb w i = true) → (∀ i, 36 ≤ i → lb w i = false) → (w = R ∨ k + 1 ≤ g_cL w) → r_Vs_leads_16 scr d v a1 (nI n1) post ex (m * 38 + 1) s R w (nI k) := by
  have fin : ∀ R w : Int64, w = R → (∀ i, lb w i = true → g_far (g_eC (s.2.1 15 v)) n0 i) → (∀ i, g_eC (s.2.1 15 v) n0 i → lb w i = true) → (∀ y i, y < 36 → lb R y = true → lb (s.2.1 15 v y) (20 + i) = true → lb w i = true) → (((lg_cmp (((w).toUInt64 >>> ((nI n1).toInt64.toUInt64 &&& Int64.toUInt64 63)).toInt64 &&& (1 : Int64)) (0 : Int64)) = 0 → (mx_nr .boolean (0 : Int32) ∧ post (0 : Int32) s)) ∧ (¬ (lg_cmp (((w).toUInt64 >>> ((nI n1).toInt64.toUInt64 &&& Int64.toUInt64 63)).toInt64 &&& (1 : Int64)) (0 : Int64)) = 0 → (mx_nr .boolean (1 : Int32) ∧ post (1 : Int32) s))) := by
    intro R w e h1 h2 h3
    subst e
    refine c_bit (by omega) (fun e => ⟨rfl, hn (fun h => ?_)⟩) (fun e => ⟨rfl, hy (h1 _ e)⟩)
    have h4 := h (fun a b => (a = n0 ∨ (a < 36 ∧ lb w a = true)) → lb w b = true) (fun a b he ha => ?_) (fun a b c k1 k2 ha => ?_) (Or.inl rfl)
    · rw [e] at h4
      cases h4
    · rcases ha with rfl | ⟨ha, hb⟩
      · exact h2 b he
      · exact h3 a b ha hb he.2
    · have := k1 ha
      by_cases hb : b < 36
      · exact k2 (Or.inr ⟨hb, this⟩)
      · have h9 : lb w b = true := this
        exact k2 (Or.inr ⟨Nat.lt_of_not_le fun h8 => by
          have h7 := h1 b h9
          have h6 : ∀ i, g_far (g_eC (s.2.1 15 v)) n0 i → i < 36 := fun i hi => hi (fun _ b => b < 36) (fun a b he => Nat.lt_of_not_le fun h5 => by
            have h4 := hS a b he.1 h5
            rw [he.2] at h4
            cases h4) (fun _ _ _ _ h => h)
          have := h6 b h7
          omega, this⟩)
  intro m
  induction m with
  | zero =>
    intro k R w hk h1 h2 h3 h5 h4
    obtain rfl : k = 36 := by omega
    rw [Nat.zero_mul]
    have e : w = R := h4.resolve_right (fun h => by
      have : g_cL w ≤ 36 := g_cnt_le _
      omega)
    exact w_Vs_leads_16 (pk_le 36 36 (fun _ => fin R w e h1 h2 h3) (fun h => by omega))
  | succ m ih =>
    intro k R w hk h1 h2 h3 h5 h4
    refine w_Vs_leads_16 (n := (m + 1) * 38) (pk_le 36 k (fun h => by omega) (fun _ => ⟨fun e => fin R w (c_0.mp e) h1 h2 h3, fun e => ?_⟩))
    have hne : ¬ w = R := fun h => e (c_0.mpr h)
    have hc := h4.resolve_left hne
    rw [show (m + 1) * 38 = (m * 38 + 1) + 36 + 1 by omega]
    refine S_leads_36 36 0 w rfl (fun i => ⟨fun h => Or.inl h, fun h => h.elim id (fun ⟨y, hy, _⟩ => by omega)⟩) (fun w' hw' => ?_)
    have sub : ∀ i, lb w i = true → lb w' i = true := fun i hi => (hw' i).mpr (Or.inl hi)
    refine ih (k + 1) w w' (by omega) (fun i hi => ?_) (fun i hi => sub i (h2 i hi)) (fun y i hy9 k1 k2 => (hw' i).mpr (Or.inr ⟨y, hy9, k1, k2⟩)) (fun i hi => ?_) ?_
    · rcases (hw' i).mp hi with h | ⟨y, k1, k2, k3⟩
      · exact h1 i h
      · exact g_far_t (h1 y k2) (g_far_1 ⟨k1, k3⟩)
    · cases h9 : lb w' i with
      | false => rfl
      | true =>
        rcases (hw' i).mp h9 with h | ⟨y, k1, k2, k3⟩
        · rw [h5 i hi] at h
          cases h
        · rw [hS y i k1 hi] at k3
          cases k3
    · by_cases e2 : w' = w
      · exact Or.inl e2
      · right
        obtain ⟨i, hi1, hi2⟩ : ∃ i, lb w' i = true ∧ ¬ lb w i = true := by
          by_cases hh : ∃ i, lb w' i = true ∧ ¬ lb w i = true
          · exact hh
          · exfalso
            refine e2 (lb_ext (fun i _ => ?_))
            cases h8 : lb w i with
            | true => exact sub i h8
            | false =>
              cases h9 : lb w' i with
              | false => rfl
              | true => exact absurd ⟨i, h9, by rw [h8]; decide⟩ hh
        have hi36 : i < 36 := by
          rcases (hw' i).mp hi1 with h | ⟨y, k1, k2, k3⟩
          · exact absurd h hi2
          · exact Nat.lt_of_not_le fun h8 => by
              rw [hS y i k1 h8] at k3
              cases k3
        have : g_cL w < g_cL w' := g_cnt_lt 36 i (fun x _ hx => sub x hx) hi36 hi1 hi2
        omega
end
section
variable {scr : mSc} {d : Nat} {G : gSt} {s : mSt} {v o r o' r' : Nat} {p : (gTp → Bool) × Nat}
theorem S_leads {post : Int32 → mSt → Prop} (hl : (g_rs G).length ≤ 9) (hA : RC_tp G (s.2.1 15 v) p) (hp : ∀ u, p.1 u = true → g_wu G u) (hV : g_Vn (g_rs G) o r) (hV' : g_Vn (g_rs G) o' r') (hy : g_far (g_E p.1) (9 * o + r) (9 * o' + r') → post 1 s) (hn : ¬ g_far (g_E p.1) (9 * o + r) (9 * o' + r') → post 0 s) : X_Vs_leads scr (d + 1) s v (nI (r * 4 + o % 4)) (nI (r' * 4 + o' % 4)) post := by
  have hr : ∀ o r, g_Vn (g_rs G) o r → r * 4 + o % 4 < 36 := fun o r h => by
    obtain ⟨-, rl, h2, -⟩ := h
    have := g_len_get h2
    omega
  have hS : ∀ n i, n < 36 → 36 ≤ i → lb (s.2.1 15 v n) (20 + i) = false := fun n i h1 h2 => by
    cases h9 : lb (s.2.1 15 v n) (20 + i) with
    | false => rfl
    | true =>
      obtain ⟨u, hu, -, h3⟩ := hA.2.1 _ _ h1 h9
      have := g_sb_lt hl hu
      omega
  have hn0 := hr _ _ hV
  have hn1 := hr _ _ hV'
  have hiff := g_far_C hl hA hp hV hV'
  refine w_Vs_leads ⟨36 * 38 + 1, pk_in (r * 4 + o % 4) 36 hn0, ?_⟩
  rw [pk_cl (x := nI (r * 4 + o % 4)) (r * 4 + o % 4)]
  have hsh : ∀ i, lb ((s.2.1 15 v (r * 4 + o % 4)).toUInt64 >>> (((20 : Int32)).toInt64.toUInt64 &&& Int64.toUInt64 63)).toInt64 i = lb (s.2.1 15 v (r * 4 + o % 4)) (20 + i) := fun i => lb_shr _ (k := 20) (by omega) i
  refine S_leads_16 (n0 := r * 4 + o % 4) hn1 hS (fun h => hy (hiff.mp h)) (fun h => hn (fun h9 => h (hiff.mpr h9))) 36 0 0 _ rfl (fun i hi => ?_) (fun i hi => ?_) (fun y i _ hy => ?_) (fun i hi => ?_) ?_
  · rw [hsh] at hi
    exact g_far_1 ⟨hn0, hi⟩
  · rw [hsh]
    exact hi.2
  · rw [lb_0] at hy
    cases hy
  · rw [hsh]
    exact hS _ i hn0 hi
  · by_cases e : ((s.2.1 15 v (r * 4 + o % 4)).toUInt64 >>> (((20 : Int32)).toInt64.toUInt64 &&& Int64.toUInt64 63)).toInt64 = 0
    · exact Or.inl e
    · right
      obtain ⟨i, hi⟩ : ∃ i, lb ((s.2.1 15 v (r * 4 + o % 4)).toUInt64 >>> (((20 : Int32)).toInt64.toUInt64 &&& Int64.toUInt64 63)).toInt64 i = true := by
        by_cases hh : ∃ i, lb ((s.2.1 15 v (r * 4 + o % 4)).toUInt64 >>> (((20 : Int32)).toInt64.toUInt64 &&& Int64.toUInt64 63)).toInt64 i = true
        · exact hh
        · exfalso
          refine e (lb_ext (fun i _ => ?_))
          rw [lb_0]
          cases h9 : lb ((s.2.1 15 v (r * 4 + o % 4)).toUInt64 >>> (((20 : Int32)).toInt64.toUInt64 &&& Int64.toUInt64 63)).toInt64 i with
          | false => rfl
          | true => exact absurd ⟨i, h9⟩ hh
      have hi36 : i < 36 := Nat.lt_of_not_le fun h8 => by
        rw [hsh, hS _ i hn0 h8] at hi
        cases hi
      have h0 := g_cnt_lt (p := fun _ => False) (q := fun i => lb ((s.2.1 15 v (r * 4 + o % 4)).toUInt64 >>> (((20 : Int32)).toInt64.toUInt64 &&& Int64.toUInt64 63)).toInt64 i = true) 36 i (fun _ _ h => h.elim) hi36 hi id
      show 0 + 1 ≤ g_cL _
      unfold g_cL
      omega
end
