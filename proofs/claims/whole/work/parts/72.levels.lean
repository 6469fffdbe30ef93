noncomputable def g_cnt (p : Nat → Prop) : Nat → Nat
  | 0 => 0
  | k + 1 => g_cnt p k + @ite Nat (p k) (Classical.propDecidable _) 1 0
section
variable {p q : Nat → Prop}
theorem g_cnt_1 {k : Nat} (h : p k) : g_cnt p (k + 1) = g_cnt p k + 1 := by
  show g_cnt p k + @ite Nat (p k) (Classical.propDecidable _) 1 0 = _
  rw [if_pos h]
theorem g_cnt_0 {k : Nat} (h : ¬ p k) : g_cnt p (k + 1) = g_cnt p k := by
  show g_cnt p k + @ite Nat (p k) (Classical.propDecidable _) 1 0 = _
  rw [if_neg h]
  rfl
theorem g_cnt_le : ∀ k, g_cnt p k ≤ k
  | 0 => Nat.le_refl _
  | k + 1 => by
    have := g_cnt_le k
    by_cases h : p k
    · rw [g_cnt_1 h]
      omega
    · rw [g_cnt_0 h]
      omega
theorem g_cnt_mono : ∀ k, (∀ x, x < k → p x → q x) → g_cnt p k ≤ g_cnt q k
  | 0, _ => Nat.le_refl _
  | k + 1, h => by
    have ih := g_cnt_mono k (fun x hx => h x (by omega))
    by_cases h1 : p k
    · rw [g_cnt_1 h1, g_cnt_1 (h k (by omega) h1)]
      omega
    · rw [g_cnt_0 h1]
      by_cases h2 : q k
      · rw [g_cnt_1 h2]
        omega
      · rw [g_cnt_0 h2]
        exact ih
theorem g_cnt_lt : ∀ k x, (∀ x, x < k → p x → q x) → x < k → q x → ¬ p x → g_cnt p k < g_cnt q k
  | 0, _, _, hx, _, _ => by omega
  | k + 1, x, h, hx, hq, hp => by
    by_cases e : x = k
    · subst e
      have ih := g_cnt_mono (p := p) (q := q) x (fun x hx => h x (by omega))
      rw [g_cnt_1 hq, g_cnt_0 hp]
      omega
    · have ih := g_cnt_lt k x (fun x hx => h x (by omega)) (by omega) hq hp
      by_cases h1 : p k
      · rw [g_cnt_1 h1, g_cnt_1 (h k (by omega) h1)]
        omega
      · rw [g_cnt_0 h1]
        by_cases h2 : q k
        · rw [g_cnt_1 h2]
          omega
        · rw [g_cnt_0 h2]
          exact ih
theorem g_cnt_top (k : Nat) : g_cnt (fun _ => True) k = k := by
  induction k with
  | zero => rfl
  | succ k ih => rw [g_cnt_1 trivial, ih]
theorem g_cnt_all {k : Nat} (h : k ≤ g_cnt p k) : ∀ x, x < k → p x := by
  intro x hx
  by_cases hp : p x
  · exact hp
  · have h1 := g_cnt_lt (p := p) (q := fun _ => True) k x (fun _ _ _ => trivial) hx trivial hp
    rw [g_cnt_top] at h1
    omega
end
theorem g_least {P : Nat → Prop} : ∀ v, P v → ∃ w, P w ∧ ∀ u, P u → w ≤ u := by
  intro v
  induction v using Nat.strongRecOn with
  | ind v ih =>
    intro hv
    by_cases h : ∃ u, u < v ∧ P u
    · obtain ⟨u, h1, h2⟩ := h
      exact ih u h1 h2
    · exact ⟨v, hv, fun u hu => Nat.le_of_not_lt fun h9 => h ⟨u, h9, hu⟩⟩
def g_sol (N B : Nat → Nat → Prop) (L : Nat → Nat) : Prop := ∀ r x, (N r x → L x ≤ L r) ∧ (B r x → L x + 1 ≤ L r)
def g_isL (N B : Nat → Nat → Prop) (L : Nat → Nat) : Prop := g_sol N B L ∧ ∀ M, g_sol N B M → ∀ r, L r ≤ M r
section
variable {N B : Nat → Nat → Prop} {n : Nat}
theorem g_sol_h (hN : ∀ a b, N a b → a < n ∧ b < n) (hB : ∀ a b, B a b → N a b) (hr : ¬ ∃ r x, B r x ∧ g_far N x r) : g_sol N B (fun r => g_cnt (fun x => g_far N r x ∧ ¬ g_far N x r) n) := by
  have key : ∀ r y, N r y → ∀ x, x < n → (g_far N y x ∧ ¬ g_far N x y) → (g_far N r x ∧ ¬ g_far N x r) := fun r y h x _ hx => ⟨g_far_t (g_far_1 h) hx.1, fun h9 => hx.2 (g_far_t h9 (g_far_1 h))⟩
  intro r y
  refine ⟨fun h => g_cnt_mono n (key r y h), fun h => ?_⟩
  have h1 := hB r y h
  exact g_cnt_lt n y (key r y h1) (hN r y h1).2 ⟨g_far_1 h1, fun h9 => hr ⟨r, y, h, h9⟩⟩ (fun h9 => h9.2 h9.1)
theorem g_isL_ex {h : Nat → Nat} (hs : g_sol N B h) : ∃ L, g_isL N B L := by
  have h1 : ∀ r, ∃ v, (∃ L, g_sol N B L ∧ L r = v) ∧ ∀ u, (∃ L, g_sol N B L ∧ L r = u) → v ≤ u := fun r => g_least (h r) ⟨h, hs, rfl⟩
  obtain ⟨L, hL⟩ := Classical.skolem.mp h1
  refine ⟨L, fun r x => ⟨fun hn => ?_, fun hb => ?_⟩, fun M hM r => (hL r).2 _ ⟨M, hM, rfl⟩⟩
  · obtain ⟨M, hM, e⟩ := (hL r).1
    have := (hL x).2 _ ⟨M, hM, rfl⟩
    have := (hM r x).1 hn
    omega
  · obtain ⟨M, hM, e⟩ := (hL r).1
    have := (hL x).2 _ ⟨M, hM, rfl⟩
    have := (hM r x).2 hb
    omega
def g_rnd (N B : Nat → Nat → Prop) (n : Nat) (lev L M : Nat → Nat) : Prop := (∀ r, r < n → L r ≤ M r) ∧ (∀ r, r < n → M r ≤ lev r) ∧ ∀ r x, r < n → (N r x → L x ≤ M r) ∧ (B r x → L x + 1 ≤ M r)
def g_dn (n : Nat) (L lev : Nat → Nat) (r : Nat) : Nat := if r < n ∧ ¬ L r = lev r then lev r - 1 else lev r
theorem g_dn_p {n r : Nat} {L lev : Nat → Nat} (h : r < n ∧ ¬ L r = lev r) : g_dn n L lev r = lev r - 1 := if_pos h
theorem g_dn_n {n r : Nat} {L lev : Nat → Nat} (h : ¬ (r < n ∧ ¬ L r = lev r)) : g_dn n L lev r = lev r := if_neg h
theorem g_rnd_up {lev L M : Nat → Nat} (hN : ∀ a b, N a b → a < n ∧ b < n) (hB : ∀ a b, B a b → N a b) (hl : g_isL N B lev) (h : g_rnd N B n lev L M) : (∀ r, r < n → L r = lev r) ∨ g_cnt (fun r => L r = lev r) n < g_cnt (fun r => M r = lev r) n := by
  obtain ⟨h1, h2, h3⟩ := h
  have sub : ∀ x, x < n → L x = lev x → M x = lev x := fun x hx e => by
    have := h1 x hx
    have := h2 x hx
    omega
  by_cases hg : ∃ r, r < n ∧ M r = lev r ∧ ¬ L r = lev r
  · obtain ⟨r, g1, g2, g3⟩ := hg
    exact Or.inr (g_cnt_lt n r sub g1 g2 g3)
  · refine Or.inl (fun r hr => ?_)
    by_cases e : L r = lev r
    · exact e
    · exfalso
      have hM : ∀ r, r < n → ¬ L r = lev r → M r < lev r := fun r hr e => by
        have := h2 r hr
        have : ¬ M r = lev r := fun h => hg ⟨r, hr, h, e⟩
        omega
      have hsol : g_sol N B (g_dn n L lev) := by
        intro a b
        have hlev := hl.1 a b
        have hdn : ∀ c, g_dn n L lev c ≤ lev c := fun c => by
          by_cases hc : c < n ∧ ¬ L c = lev c
          · rw [g_dn_p hc]
            omega
          · rw [g_dn_n hc]
            omega
        by_cases ha : a < n ∧ ¬ L a = lev a
        · rw [g_dn_p ha]
          have hMa := hM a ha.1 ha.2
          have e3 := h3 a b ha.1
          refine ⟨fun hn => ?_, fun hb => ?_⟩
          · have h4 := e3.1 hn
            have h5 := hlev.1 hn
            by_cases hb : b < n ∧ ¬ L b = lev b
            · rw [g_dn_p hb]
              omega
            · rw [g_dn_n hb]
              have hbn := (hN a b hn).2
              have : L b = lev b := by
                by_cases h : L b = lev b
                · exact h
                · exact absurd ⟨hbn, h⟩ hb
              omega
          · have h4 := e3.2 hb
            have h5 := hlev.2 hb
            by_cases hb2 : b < n ∧ ¬ L b = lev b
            · rw [g_dn_p hb2]
              have := hM b hb2.1 hb2.2
              omega
            · rw [g_dn_n hb2]
              have hbn := (hN a b (hB a b hb)).2
              have : L b = lev b := by
                by_cases h : L b = lev b
                · exact h
                · exact absurd ⟨hbn, h⟩ hb2
              omega
        · rw [g_dn_n ha]
          refine ⟨fun hn => ?_, fun hb => ?_⟩
          · have := hdn b
            have := hlev.1 hn
            omega
          · have := hdn b
            have := hlev.2 hb
            omega
      have h9 := hl.2 _ hsol r
      rw [g_dn_p ⟨hr, e⟩] at h9
      have := hM r hr e
      omega
def g_prog (n : Nat) (lev L : Nat → Nat) (k : Nat) : Prop := (∀ r, r < n → L r ≤ lev r) ∧ ((∀ r, r < n → L r = lev r) ∨ k ≤ g_cnt (fun r => L r = lev r) n)
theorem g_prog_1 {lev L M : Nat → Nat} {k : Nat} (hN : ∀ a b, N a b → a < n ∧ b < n) (hB : ∀ a b, B a b → N a b) (hl : g_isL N B lev) (h : g_rnd N B n lev L M) (hp : g_prog n lev L k) : g_prog n lev M (k + 1) := by
  have sub : (∀ r, r < n → L r = lev r) → ∀ r, r < n → M r = lev r := fun e r hr => by
    have := h.1 r hr
    have := h.2.1 r hr
    have := e r hr
    omega
  refine ⟨h.2.1, ?_⟩
  rcases hp.2 with h1 | h1
  · exact Or.inl (sub h1)
  · rcases g_rnd_up hN hB hl h with h2 | h2
    · exact Or.inl (sub h2)
    · exact Or.inr (by omega)
theorem g_prog_n {lev L : Nat → Nat} {k : Nat} (hk : n ≤ k) (hp : g_prog n lev L k) : ∀ r, r < n → L r = lev r := by
  rcases hp.2 with h1 | h1
  · exact h1
  · exact g_cnt_all (Nat.le_trans hk h1)
end
noncomputable def g_lev (rs : List gRl) : Nat → Nat := Classical.epsilon (fun L => g_isL (g_N rs) (g_B rs) L)
theorem g_lev_ok {rs : List gRl} (h : ¬ g_ring rs) : g_isL (g_N rs) (g_B rs) (g_lev rs) := Classical.epsilon_spec (g_isL_ex (g_sol_h g_N_lt (fun _ _ => g_B_N) h))
theorem g_lev_lt {rs : List gRl} (h : ¬ g_ring rs) {r : Nat} (hr : r < rs.length) : g_lev rs r < rs.length := by
  have h1 := (g_lev_ok h).2 _ (g_sol_h g_N_lt (fun _ _ => g_B_N) h) r
  have h2 := g_cnt_lt (p := fun x => g_far (g_N rs) r x ∧ ¬ g_far (g_N rs) x r) (q := fun _ => True) rs.length r (fun _ _ _ => trivial) hr trivial (fun h => h.2 h.1)
  rw [g_cnt_top] at h2
  exact Nat.lt_of_le_of_lt h1 h2
