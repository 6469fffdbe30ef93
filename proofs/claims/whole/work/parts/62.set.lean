abbrev gTp : Type := Nat × Nat × Nat × Nat × Nat
def g_ap (f : gTp → Bool) (c : gCh) : gTp → Bool := fun u => if c.2 = u then decide (c.1 = 1) else f u
def g_tn1 (p : (gTp → Bool) × Nat) (c : gCh) : (gTp → Bool) × Nat := (g_ap p.1 c, if c.1 = 1 then (if p.1 c.2 = true then p.2 else p.2 + 1) else (if p.1 c.2 = true then p.2 - 1 else p.2))
def g_tn (l : List gCh) : (gTp → Bool) × Nat := l.foldl g_tn1 ((fun _ => false), 0)
theorem g_tn_a {l : List gCh} {c : gCh} : g_tn (l ++ [c]) = g_tn1 (g_tn l) c := by
  unfold g_tn
  rw [List.foldl_append]
  rfl
def g_pf (G : gSt) (k : Nat) : List gCh := ((g_ev 0 (g_lg G)).take k).map Prod.fst
theorem g_pf_1 {G : gSt} {k : Nat} {e : gCh × Nat} (h : (g_ev 0 (g_lg G))[k]? = some e) : g_pf G (k + 1) = g_pf G k ++ [e.1] := by
  unfold g_pf
  rw [List.take_add_one, h, List.map_append]
  rfl
def g_at_t (G : gSt) (t : Nat) : (gTp → Bool) × Nat := g_tn (g_pf G (g_ec G t))
def g_wu (G : gSt) (u : gTp) : Prop := u.1 < 12 ∧ ∃ rl, (g_rs G)[u.2.1]? = some rl ∧ rl.1 = u.1 / 4 ∧ ((u.2.2.1 = 0 ∧ u.2.2.2.1 < 8 ∧ u.2.2.2.2 = 0) ∨ (u.2.2.1 = 1 ∧ u.2.2.2.1 < 12 ∧ u.2.2.2.2 = 0) ∨ (u.2.2.1 = 2 ∧ u.2.2.2.1 < 12 ∧ ∃ rl2, (g_rs G)[u.2.2.2.2]? = some rl2 ∧ rl2.1 = u.2.2.2.1 / 4 ∧ g_bit rl.2.2.2.1 u.2.2.2.2))
def g_wl (G : gSt) : Prop := (∀ c ∈ g_bt G, g_wu G c.2) ∧ (∀ b ∈ g_lg G, ∀ c ∈ b, g_wu G c.2) ∧ (g_ac G = false → g_bt G = [] ∧ g_lg G = [])
def g_nd (u : gTp) : Nat := u.2.1 * 4 + u.1 % 4
def g_sb (u : gTp) : Nat := if u.2.2.1 = 0 then u.2.2.2.1 else if u.2.2.1 = 1 then 8 + u.2.2.2.1 else 20 + (u.2.2.2.2 * 4 + u.2.2.2.1 % 4)
section
variable {G : gSt} {s : mSt}
theorem g_chg_w {a2 a3 a4 a5 a6 : Int32} {c : gCh} (h : g_chg G a2 a3 a4 a5 a6 c) : g_wu G c.2 := by
  obtain ⟨h0, rl, h1, h2⟩ := h
  refine ⟨h1.1, rl, h1.2.2.1, h1.2.2.2.2, ?_⟩
  rcases h2 with ⟨-, e1, -, e2, -, e3⟩ | ⟨-, e1, e2, -, -, e3⟩ | ⟨-, e1, ⟨rl2, e2⟩, e3⟩
  · exact Or.inl ⟨e1, e2, e3⟩
  · exact Or.inr (Or.inl ⟨e1, e2, e3⟩)
  · exact Or.inr (Or.inr ⟨e1, e2.1, rl2, e2.2.2.1, e2.2.2.2.2, e3⟩)
theorem g_nd_lt {u : gTp} (hl : (g_rs G).length ≤ 9) (h : g_wu G u) : g_nd u < 36 := by
  obtain ⟨h1, rl, h2, -⟩ := h
  have := g_len_get h2
  unfold g_nd
  omega
theorem g_sb_lt {u : gTp} (hl : (g_rs G).length ≤ 9) (h : g_wu G u) : g_sb u < 56 := by
  obtain ⟨h1, rl, h2, h3, h4⟩ := h
  unfold g_sb
  rcases h4 with ⟨e, h5, -⟩ | ⟨e, h5, -⟩ | ⟨e, h5, rl2, h6, -⟩
  · rw [if_pos e]
    omega
  · rw [if_neg (by omega), if_pos e]
    omega
  · have := g_len_get h6
    rw [if_neg (by omega), if_neg (by omega)]
    omega
theorem g_inj {u w : gTp} (hu : g_wu G u) (hw : g_wu G w) (h1 : g_nd u = g_nd w) (h2 : g_sb u = g_sb w) : u = w := by
  obtain ⟨o, r, st, a, s'⟩ := u
  obtain ⟨o', r', st', a', s''⟩ := w
  obtain ⟨p1, rl, p2, p3, p4⟩ := hu
  obtain ⟨q1, rl', q2, q3, q4⟩ := hw
  simp only [g_nd, g_sb] at *
  obtain rfl : r = r' := by omega
  rw [p2] at q2
  cases q2
  obtain rfl : o = o' := by omega
  rcases p4 with ⟨rfl, p5, rfl⟩ | ⟨rfl, p5, rfl⟩ | ⟨rfl, p5, rl2, p6, p7, -⟩ <;> rcases q4 with ⟨rfl, q5, rfl⟩ | ⟨rfl, q5, rfl⟩ | ⟨rfl, q5, rl3, q6, q7, -⟩ <;> simp at h2
  · rw [h2]
  · omega
  · omega
  · omega
  · rw [h2]
  · omega
  · omega
  · omega
  · obtain rfl : s' = s'' := by omega
    rw [p6] at q6
    cases q6
    obtain rfl : a = a' := by omega
    rfl
theorem g_flt {l : List (List gCh)} {c : gCh} {n m : Nat} (h : (c, m) ∈ g_ev n l) : ∃ b ∈ l, c ∈ b := by
  induction l generalizing n with
  | nil => cases h
  | cons b l ih =>
    rcases List.mem_append.mp (show (c, m) ∈ b.map (fun c => (c, n + 1)) ++ g_ev (n + 1) l from h) with h | h
    · obtain ⟨c', h1, h2⟩ := List.mem_map.mp h
      cases h2
      exact ⟨b, List.mem_cons_self, h1⟩
    · obtain ⟨b', h1, h2⟩ := ih h
      exact ⟨b', List.mem_cons_of_mem _ h1, h2⟩
theorem g_ev_w {k : Nat} {e : gCh × Nat} (hw : g_wl G) (h : (g_ev 0 (g_lg G))[k]? = some e) : g_wu G e.1.2 := by
  obtain ⟨b, h1, h2⟩ := g_flt (List.mem_of_getElem? (show (g_ev 0 (g_lg G))[k]? = some (e.1, e.2) from h))
  exact hw.2.1 b h1 e.1 h2
theorem g_recat {p : Nat} (hr : RC_lg G s) (hp : p < (g_fl (g_lg G)).length) (h : ¬ s.1 12 0 p = -1) : ∃ e, (g_ev 0 (g_lg G))[lg_cn (s.1 12 0) p]? = some e ∧ s.1 12 0 p = g_pk e.1 ∧ g_okC e.1 := by
  have h1 := lg_cn_mono (R := s.1 12 0) (show p + 1 ≤ (g_fl (g_lg G)).length from hp)
  rw [lg_cn_0 h] at h1
  have h2 := lg_mk_c (R := s.1 12 0) (g_fl (g_lg G)).length
  have h3 := (g_mk_pe hr (g_lg G).length (Nat.le_refl _)).1
  have h4 : g_pe G (g_lg G).length = (g_fl (g_lg G)).length := by
    unfold g_pe
    rw [List.take_length]
  rw [h4] at h3
  have h5 := g_ev_len (l := g_lg G) (n := 0)
  have h6 : lg_cn (s.1 12 0) p < (g_ev 0 (g_lg G)).length := by omega
  have he := List.getElem?_eq_getElem h6
  obtain ⟨q, m, -, -, -, q1, q2, -, q3⟩ := g_place hr he
  have hq : p = q := by
    rcases Nat.lt_trichotomy p q with h7 | h7 | h7
    · have h8 := lg_cn_mono (R := s.1 12 0) (show p + 1 ≤ q from h7)
      rw [lg_cn_0 h] at h8
      omega
    · exact h7
    · have h8 := lg_cn_mono (R := s.1 12 0) (show q + 1 ≤ p from h7)
      rw [lg_cn_0 (by rw [q1]; exact g_pk_ne q2)] at h8
      omega
  subst hq
  exact ⟨_, he, q1, q2⟩
end
