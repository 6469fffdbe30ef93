def mM (A : Nat → Int32) (o r : Nat) : Int32 := A (9 * o + r)
theorem b_1sh {a b : Nat} (ha : a < 32) : bt ((1 : Int32) <<< (nI a &&& 31)) b = true ↔ b = a := by
  by_cases hb : b < 32
  · rw [b_shl a ha 1 hb, Bool.and_eq_true, decide_eq_true_eq]
    constructor
    · rintro ⟨h1, h2⟩
      have h3 : ∀ k, k < 32 → bt (1 : Int32) k = true → k = 0 := by decide +kernel
      have := h3 _ (by omega) h2
      omega
    · rintro rfl
      rw [Nat.sub_self]
      exact ⟨Nat.le_refl _, by decide⟩
  · rw [b_big (by omega)]
    exact ⟨fun h => (by cases h), fun h => by omega⟩
section
variable {scr : mSc} {d : Nat} {G : gSt} {s : mSt} {o r : Nat} {p : (gTp → Bool) × Nat} {U : Nat → gTp}
theorem RM_u {k : Nat} (hl : RM_lg G s) (hU : RM_pl G s p U) (hk : k < p.2) : ∃ kk, s.1 32 0 k = nI kk ∧ kk < 120 ∧ s.1 29 0 (6 * kk + 1) = nI (U k).1 ∧ s.1 29 0 (6 * kk + 2) = nI (U k).2.1 ∧ s.1 29 0 (6 * kk + 3) = nI (U k).2.2.1 ∧ s.1 29 0 (6 * kk + 4) = nI (U k).2.2.2.1 ∧ s.1 29 0 (6 * kk + 5) = nI (U k).2.2.2.2 := by
  obtain ⟨kk, e, h1, h2, h3⟩ := hU.2.1 k hk
  have hel := g_ev_len (l := g_lg G) (n := 0)
  have h120 := hl.1
  have hkk := g_len_get h2
  have hf := (hl.2.2.2.2 kk e h2).2
  rw [← h3]
  exact ⟨kk, h1, by omega, hf 1 (by omega), hf 2 (by omega), hf 3 (by omega), hf 4 (by omega), hf 5 (by omega)⟩
theorem RM_uw {k : Nat} (hp : ∀ u, p.1 u = true → g_wu G u) (hU : RM_pl G s p U) (hk : k < p.2) : g_wu G (U k) := hp _ ((hU.2.2.2 (U k)).mpr ⟨k, hk, rfl⟩)
set_option maxHeartbeats 4000000 in
theorem S_told_5 {post : Int32 → mSt → Prop} {ex : Nat → mSt → Prop} (hl9 : (g_rs G).length ≤ 9) (hp2 : p.2 ≤ 120) (hp : ∀ u, p.1 u = true → g_wu G u) (hl : RM_lg G s) (hU : RM_pl G s p U) (ho : o < 12) (hr : r < 9) (h : post (g_mk (g_pT p.1 (mM (s.1 33 0)) o r)) s) : ∀ (m k : Nat) (w : Int32), k + m = p.2 → (∀ b, bt w b = true ↔ ∃ i, i < k ∧ ((b < 8 ∧ U i = (o, r, 0, b, 0)) ∨ ∃ a s', U i = (o, r, 2, a, s') ∧ bt (mM (s.1 33 0) a s') b = true)) → r_Md_told_5 scr d (nI o) (nI r) post ex (m + 1) s w (nI k) := by
  intro m
  induction m with
  | zero =>
    intro k w hk hw
    obtain rfl : k = p.2 := by omega
    refine w_Md_told_5 (pk_le p.2 p.2 (fun _ => ?_) (fun h => by omega) hU.1 rfl)
    rw [g_mk_eq (w := w) (p := g_pT p.1 (mM (s.1 33 0)) o r) (fun b => ?_)]
    · exact h
    · rw [hw b]
      constructor
      · rintro ⟨i, hi, ⟨h1, h2⟩ | ⟨a, s', h1, h2⟩⟩
        · exact Or.inl ⟨h1, (hU.2.2.2 _).mpr ⟨i, hi, h2⟩⟩
        · exact Or.inr ⟨a, s', (hU.2.2.2 _).mpr ⟨i, hi, h1⟩, h2⟩
      · rintro (⟨h1, h2⟩ | ⟨a, s', h1, h2⟩)
        · obtain ⟨i, hi, e⟩ := (hU.2.2.2 _).mp h2
          exact ⟨i, hi, Or.inl ⟨h1, e⟩⟩
        · obtain ⟨i, hi, e⟩ := (hU.2.2.2 _).mp h1
          exact ⟨i, hi, Or.inr ⟨a, s', e, h2⟩⟩
  | succ m ih =>
    intro k w hk hw
    obtain ⟨kk, r1, rb, f1, f2, f3, f4, f5⟩ := RM_u hl hU (show k < p.2 by omega)
    have hwu := RM_uw hp hU (show k < p.2 by omega)
    refine w_Md_told_5 (pk_le p.2 k (fun h => by omega) (fun _ => ⟨pk_in k 120 (by omega), ?_⟩) hU.1 rfl)
    rw [pk_cl (x := nI k) k, r1, show (6 : Int32) * nI kk = nI (6 * kk) from pk_mul 6 kk, show nI (6 * kk) + (1 : Int32) = nI (6 * kk + 1) from nI_add _ 1, show nI (6 * kk) + (2 : Int32) = nI (6 * kk + 2) from nI_add _ 2, show nI (6 * kk) + (3 : Int32) = nI (6 * kk + 3) from nI_add _ 3, show nI (6 * kk) + (4 : Int32) = nI (6 * kk + 4) from nI_add _ 4, show nI (6 * kk) + (5 : Int32) = nI (6 * kk + 5) from nI_add _ 5, pk_cl (x := nI (6 * kk + 1)) (6 * kk + 1), pk_cl (x := nI (6 * kk + 2)) (6 * kk + 2), pk_cl (x := nI (6 * kk + 3)) (6 * kk + 3), pk_cl (x := nI (6 * kk + 4)) (6 * kk + 4), pk_cl (x := nI (6 * kk + 5)) (6 * kk + 5), f1, f2, f3, f4, f5, show nI k + (1 : Int32) = nI (k + 1) from nI_1 k]
    have i1 : vp_in (nI (6 * kk + 1)) 720 := pk_in (6 * kk + 1) 720 (by omega)
    have i2 : vp_in (nI (6 * kk + 2)) 720 := pk_in (6 * kk + 2) 720 (by omega)
    have i3 : vp_in (nI (6 * kk + 3)) 720 := pk_in (6 * kk + 3) 720 (by omega)
    have i4 : vp_in (nI (6 * kk + 4)) 720 := pk_in (6 * kk + 4) 720 (by omega)
    have i5 : vp_in (nI (6 * kk + 5)) 720 := pk_in (6 * kk + 5) 720 (by omega)
    generalize hu : U k = u at hwu
    obtain ⟨o', r', st, a, s'⟩ := u
    obtain ⟨w1, rl, w2, w3, w4⟩ := hwu
    have w1 : o' < 12 := w1
    have w2' : r' < (g_rs G).length := g_len_get w2
    have skip : (∀ b, ¬ ((b < 8 ∧ U k = (o, r, 0, b, 0)) ∨ ∃ a s', U k = (o, r, 2, a, s') ∧ bt (mM (s.1 33 0) a s') b = true)) → r_Md_told_5 scr d (nI o) (nI r) post ex (m + 1) s w (nI (k + 1)) := fun hno => ih (k + 1) w (by omega) (fun b => by
      rw [hw b]
      refine ⟨fun ⟨i, hi, h9⟩ => ⟨i, by omega, h9⟩, fun ⟨i, hi, h9⟩ => ?_⟩
      by_cases e : i = k
      · subst e
        exact absurd h9 (hno b)
      · exact ⟨i, by omega, h9⟩)
    have add : ∀ w', (∀ b, bt w' b = true ↔ ((b < 8 ∧ U k = (o, r, 0, b, 0)) ∨ ∃ a s', U k = (o, r, 2, a, s') ∧ bt (mM (s.1 33 0) a s') b = true)) → r_Md_told_5 scr d (nI o) (nI r) post ex (m + 1) s (w ||| w') (nI (k + 1)) := fun w' hw' => ih (k + 1) _ (by omega) (fun b => by
      rw [b_or, Bool.or_eq_true, hw b, hw' b]
      constructor
      · rintro (⟨i, hi, h9⟩ | h9)
        · exact ⟨i, by omega, h9⟩
        · exact ⟨k, by omega, h9⟩
      · rintro ⟨i, hi, h9⟩
        by_cases e : i = k
        · subst e
          exact Or.inr h9
        · exact Or.inl ⟨i, by omega, h9⟩)
    rw [hu] at skip add
    refine ⟨i1, pk_eq o' o (fun e1 => ⟨i2, pk_eq r' r (fun e2 => ⟨i3, ?_⟩) (fun e2 => skip (fun b h9 => ?_))⟩) (fun e1 => skip (fun b h9 => ?_))⟩
    · subst e1
      subst e2
      rcases w4 with ⟨e, h5, h6⟩ | ⟨e, h5, h6⟩ | ⟨e, h5, rl2, h6, h7, h8⟩
      · have e : st = 0 := e
        have h5 : a < 8 := h5
        have h6 : s' = 0 := h6
        subst e
        subst h6
        refine ⟨fun _ => ⟨i4, i3, fun h => absurd (show nI 0 = nI 2 from h) (by decide), fun _ => add _ (fun b => ?_)⟩, fun h => absurd rfl h⟩
        rw [b_1sh (by omega)]
        constructor
        · rintro rfl
          exact Or.inl ⟨h5, rfl⟩
        · rintro (⟨-, h9⟩ | ⟨a', s'', h9, -⟩)
          · cases h9
            rfl
          · cases h9
      · have e : st = 1 := e
        subst e
        refine ⟨fun h => absurd (show nI 1 = nI 0 from h) (by decide), fun _ => ⟨i3, fun h => absurd (show nI 1 = nI 2 from h) (by decide), fun _ => skip (fun b h9 => ?_)⟩⟩
        rcases h9 with ⟨-, h9⟩ | ⟨a', s'', h9, -⟩
        · cases h9
        · cases h9
      · have e : st = 2 := e
        have h5 : a < 12 := h5
        have h6' : s' < (g_rs G).length := g_len_get h6
        subst e
        refine ⟨fun h => absurd (show nI 2 = nI 0 from h) (by decide), fun _ => ⟨i3, fun _ => ⟨i4, i5, ?_⟩, fun h => absurd rfl h⟩⟩
        rw [show (9 : Int32) * nI a = nI (9 * a) from pk_mul 9 a, nI_add]
        refine ⟨pk_in (9 * a + s') 108 (by omega), ?_⟩
        rw [pk_cl (x := nI (9 * a + s')) (9 * a + s')]
        refine add _ (fun b => ?_)
        constructor
        · exact fun h9 => Or.inr ⟨a, s', rfl, h9⟩
        · rintro (⟨-, h9⟩ | ⟨a', s'', h9, h8⟩)
          · cases h9
          · cases h9
            exact h8
    · rcases h9 with ⟨-, h9⟩ | ⟨a', s'', h9, -⟩
      · cases h9
        exact e2 rfl
      · cases h9
        exact e2 rfl
    · rcases h9 with ⟨-, h9⟩ | ⟨a', s'', h9, -⟩
      · cases h9
        exact e1 rfl
      · cases h9
        exact e1 rfl
theorem S_told {post : Int32 → mSt → Prop} (hl9 : (g_rs G).length ≤ 9) (hp2 : p.2 ≤ 120) (hp : ∀ u, p.1 u = true → g_wu G u) (hl : RM_lg G s) (hU : RM_pl G s p U) (ho : o < 12) (hr : r < 9) (h : post (g_mk (g_pT p.1 (mM (s.1 33 0)) o r)) s) : X_Md_told scr (d + 1) s (nI o) (nI r) post := w_Md_told ⟨p.2 + 1, S_told_5 hl9 hp2 hp hl hU ho hr h p.2 0 0 (by omega) (fun b => by rw [b_0]; exact ⟨fun h => (by cases h), fun ⟨i, hi, _⟩ => by omega⟩)⟩
set_option maxHeartbeats 4000000 in
theorem S_from_6 {post : Int32 → mSt → Prop} {ex : Nat → mSt → Prop} {t x : Nat} (hc : RM_cf G s) (hp2 : p.2 ≤ 120) (hp : ∀ u, p.1 u = true → g_wu G u) (hl : RM_lg G s) (hU : RM_pl G s p U) (ho : o < 12) (ht : t < 9) (hx : x < (g_rs G).length) (h : post (g_mk (g_pF (g_rs G) p.1 (mM (s.1 33 0)) o t x)) s) : ∀ (m k : Nat) (w : Int32), k + m = p.2 → (∀ b, bt w b = true ↔ ∃ i, i < k ∧ ∃ a, U i = (o, t, 1, a, 0) ∧ a / 4 = g_nsp (g_rs G) x ∧ bt (mM (s.1 33 0) a x) b = true) → r_Md_from_6 scr d (nI o) (nI t) (nI x) post ex (m + 1) s w (nI k) := by
  have hl9 := hc.1.1
  have hxe : (g_rs G)[x]? = some (g_rs G)[x] := List.getElem?_eq_getElem hx
  have hns : g_nsp (g_rs G) x = (g_rs G)[x].1 := by
    unfold g_nsp
    rw [hxe]
  have hn3 := (hc.1.2 _ (List.mem_of_getElem? hxe)).1
  have hsx : s.1 19 0 x = nI (g_nsp (g_rs G) x) := by
    rw [hns]
    exact (hc.2.2.2 x _ hxe).1
  intro m
  induction m with
  | zero =>
    intro k w hk hw
    obtain rfl : k = p.2 := by omega
    refine w_Md_from_6 (pk_le p.2 p.2 (fun _ => ?_) (fun h => by omega) hU.1 rfl)
    rw [g_mk_eq (w := w) (p := g_pF (g_rs G) p.1 (mM (s.1 33 0)) o t x) (fun b => ?_)]
    · exact h
    · rw [hw b]
      constructor
      · rintro ⟨i, hi, a, h1, h2⟩
        exact ⟨a, (hU.2.2.2 _).mpr ⟨i, hi, h1⟩, h2⟩
      · rintro ⟨a, h1, h2⟩
        obtain ⟨i, hi, e⟩ := (hU.2.2.2 _).mp h1
        exact ⟨i, hi, a, e, h2⟩
  | succ m ih =>
    intro k w hk hw
    obtain ⟨kk, r1, rb, f1, f2, f3, f4, f5⟩ := RM_u hl hU (show k < p.2 by omega)
    have hwu := RM_uw hp hU (show k < p.2 by omega)
    refine w_Md_from_6 (pk_le p.2 k (fun h => by omega) (fun _ => ⟨pk_in k 120 (by omega), ?_⟩) hU.1 rfl)
    rw [pk_cl (x := nI k) k, r1, show (6 : Int32) * nI kk = nI (6 * kk) from pk_mul 6 kk, show nI (6 * kk) + (1 : Int32) = nI (6 * kk + 1) from nI_add _ 1, show nI (6 * kk) + (2 : Int32) = nI (6 * kk + 2) from nI_add _ 2, show nI (6 * kk) + (3 : Int32) = nI (6 * kk + 3) from nI_add _ 3, show nI (6 * kk) + (4 : Int32) = nI (6 * kk + 4) from nI_add _ 4, pk_cl (x := nI (6 * kk + 1)) (6 * kk + 1), pk_cl (x := nI (6 * kk + 2)) (6 * kk + 2), pk_cl (x := nI (6 * kk + 3)) (6 * kk + 3), pk_cl (x := nI (6 * kk + 4)) (6 * kk + 4), f1, f2, f3, f4, pk_cl (x := nI x) x, hsx, show nI k + (1 : Int32) = nI (k + 1) from nI_1 k]
    have i1 : vp_in (nI (6 * kk + 1)) 720 := pk_in (6 * kk + 1) 720 (by omega)
    have i2 : vp_in (nI (6 * kk + 2)) 720 := pk_in (6 * kk + 2) 720 (by omega)
    have i3 : vp_in (nI (6 * kk + 3)) 720 := pk_in (6 * kk + 3) 720 (by omega)
    have i4 : vp_in (nI (6 * kk + 4)) 720 := pk_in (6 * kk + 4) 720 (by omega)
    generalize hu : U k = u at hwu
    obtain ⟨o', r', st, a, s'⟩ := u
    obtain ⟨w1, rl, w2, w3, w4⟩ := hwu
    have w1 : o' < 12 := w1
    have w2' : r' < (g_rs G).length := g_len_get w2
    have ha : a < 12 ∧ st < 3 := by
      rcases w4 with ⟨e, h5, h6⟩ | ⟨e, h5, h6⟩ | ⟨e, h5, -⟩
      · exact ⟨Nat.lt_of_lt_of_le (show a < 8 from h5) (by omega), by have : st = 0 := e; omega⟩
      · exact ⟨h5, by have : st = 1 := e; omega⟩
      · exact ⟨h5, by have : st = 2 := e; omega⟩
    have hst : st = 1 → s' = 0 := fun e1 => by
      rcases w4 with ⟨e, -⟩ | ⟨e, h5, h6⟩ | ⟨e, -⟩
      · have : st = 0 := e
        omega
      · exact h6
      · have : st = 2 := e
        omega
    have skip : (∀ b, ¬ ∃ a, U k = (o, t, 1, a, 0) ∧ a / 4 = g_nsp (g_rs G) x ∧ bt (mM (s.1 33 0) a x) b = true) → r_Md_from_6 scr d (nI o) (nI t) (nI x) post ex (m + 1) s w (nI (k + 1)) := fun hno => ih (k + 1) w (by omega) (fun b => by
      rw [hw b]
      refine ⟨fun ⟨i, hi, h9⟩ => ⟨i, by omega, h9⟩, fun ⟨i, hi, h9⟩ => ?_⟩
      by_cases e : i = k
      · subst e
        exact absurd h9 (hno b)
      · exact ⟨i, by omega, h9⟩)
    rw [hu] at skip
    refine ⟨i1, pk_eq o' o (fun e1 => ⟨i2, pk_eq r' t (fun e2 => ⟨i3, pk_eq st 1 (fun e3 => ⟨i4, by decide, pk_in x 9 (by omega), ?_⟩) (fun e3 => skip (fun b ⟨a', h9, _⟩ => ?_))⟩) (fun e2 => skip (fun b ⟨a', h9, _⟩ => ?_))⟩) (fun e1 => skip (fun b ⟨a', h9, _⟩ => ?_))⟩
    · subst e1
      subst e2
      subst e3
      obtain rfl := hst rfl
      rw [g_div4 ha.1, show (9 : Int32) * nI a = nI (9 * a) from pk_mul 9 a, nI_add, pk_cl (x := nI (9 * a + x)) (9 * a + x)]
      refine pk_eq (a / 4) (g_nsp (g_rs G) x) (fun e => ⟨i4, pk_in (9 * a + x) 108 (by omega), ih (k + 1) _ (by omega) (fun b => ?_)⟩) (fun e => skip (fun b ⟨a', h9, h8, _⟩ => ?_))
      · rw [b_or, Bool.or_eq_true, hw b]
        constructor
        · rintro (⟨i, hi, h9⟩ | h9)
          · exact ⟨i, by omega, h9⟩
          · exact ⟨k, by omega, a, hu, e, h9⟩
        · rintro ⟨i, hi, a', h9, h8, h7⟩
          by_cases ei : i = k
          · subst ei
            rw [hu] at h9
            cases h9
            exact Or.inr h7
          · exact Or.inl ⟨i, by omega, a', h9, h8, h7⟩
      · cases h9
        exact e h8
    · cases h9
      exact e3 rfl
    · cases h9
      exact e2 rfl
    · cases h9
      exact e1 rfl
theorem S_from {post : Int32 → mSt → Prop} {t x : Nat} (hc : RM_cf G s) (hp2 : p.2 ≤ 120) (hp : ∀ u, p.1 u = true → g_wu G u) (hl : RM_lg G s) (hU : RM_pl G s p U) (ho : o < 12) (ht : t < 9) (hx : x < (g_rs G).length) (h : post (g_mk (g_pF (g_rs G) p.1 (mM (s.1 33 0)) o t x)) s) : X_Md_from scr (d + 1) s (nI o) (nI t) (nI x) post := w_Md_from ⟨p.2 + 1, S_from_6 hc hp2 hp hl hU ho ht hx h p.2 0 0 (by omega) (fun b => by rw [b_0]; exact ⟨fun h => (by cases h), fun ⟨i, hi, _⟩ => by omega⟩)⟩
end
