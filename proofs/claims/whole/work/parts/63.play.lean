def RM_pl (G : gSt) (s : mSt) (p : (gTp → Bool) × Nat) (U : Nat → gTp) : Prop := s.1 18 0 21 = nI p.2 ∧ (∀ i, i < p.2 → ∃ k e, s.1 32 0 i = nI k ∧ (g_ev 0 (g_lg G))[k]? = some e ∧ e.1.2 = U i) ∧ (∀ i j, i < p.2 → j < p.2 → U i = U j → i = j) ∧ (∀ u, p.1 u = true ↔ ∃ i, i < p.2 ∧ U i = u)
theorem g_tn_le {l : List gCh} : (g_tn l).2 ≤ l.length := by
  have h : ∀ (l : List gCh) (p : (gTp → Bool) × Nat), (l.foldl g_tn1 p).2 ≤ p.2 + l.length := by
    intro l
    induction l with
    | nil => exact fun p => Nat.le_refl _
    | cons c l ih =>
      intro p
      have h1 := ih (g_tn1 p c)
      have h2 : (g_tn1 p c).2 ≤ p.2 + 1 := by
        show (if c.1 = 1 then (if p.1 c.2 = true then p.2 else p.2 + 1) else (if p.1 c.2 = true then p.2 - 1 else p.2)) ≤ _
        split <;> split <;> omega
      show ((l.foldl g_tn1 (g_tn1 p c))).2 ≤ p.2 + (l.length + 1)
      omega
  have h1 := h l ((fun _ => false), 0)
  show (l.foldl g_tn1 ((fun _ => false), 0)).2 ≤ _
  have h2 : ((fun _ => false, 0) : (gTp → Bool) × Nat).2 = 0 := rfl
  omega
theorem g_pf_len {G : gSt} {k : Nat} : (g_pf G k).length ≤ k := by
  unfold g_pf
  rw [List.length_map, List.length_take]
  omega
theorem g_fd_lt {c : gCh} (h : g_okC c) (q : Nat) : g_fd c q < 16 := by
  obtain ⟨k1, k2, k3, k4, k5, k6⟩ := h
  unfold g_fd
  split <;> omega
theorem g_fd_eq {c c' : gCh} : (∀ q, 1 ≤ q → q < 6 → g_fd c q = g_fd c' q) ↔ c.2 = c'.2 := by
  constructor
  · intro h
    have h1 := h 1 (by omega) (by omega)
    have h2 := h 2 (by omega) (by omega)
    have h3 := h 3 (by omega) (by omega)
    have h4 := h 4 (by omega) (by omega)
    have h5 := h 5 (by omega) (by omega)
    exact Prod.ext h1 (Prod.ext h2 (Prod.ext h3 (Prod.ext h4 h5)))
  · intro h q h1 h2
    rcases (show q = 1 ∨ q = 2 ∨ q = 3 ∨ q = 4 ∨ q = 5 by omega) with rfl | rfl | rfl | rfl | rfl
    · exact congrArg (fun u => u.1) h
    · exact congrArg (fun u => u.2.1) h
    · exact congrArg (fun u => u.2.2.1) h
    · exact congrArg (fun u => u.2.2.2.1) h
    · exact congrArg (fun u => u.2.2.2.2) h
def g_oke (G : gSt) : Prop := ∀ b ∈ g_lg G, ∀ c ∈ b, g_okC c
theorem g_oke_of {G : gSt} {k : Nat} {e : gCh × Nat} (hw : g_oke G) (h : (g_ev 0 (g_lg G))[k]? = some e) : g_okC e.1 := by
  obtain ⟨b, h1, h2⟩ := g_flt (List.mem_of_getElem? (show (g_ev 0 (g_lg G))[k]? = some (e.1, e.2) from h))
  exact hw b h1 e.1 h2
def F_pl (f _ j : Nat) : Prop := f = 32 ∨ (f = 18 ∧ j = 21)
section
variable {scr : mSc} {d : Nat} {s : mSt} {G : gSt}
theorem S_same_5 {post : Int32 → mSt → Prop} {ex : Nat → mSt → Prop} {k j : Nat} {e e' : gCh × Nat} (hw : g_oke G) (hl : RM_lg G s) (he : (g_ev 0 (g_lg G))[k]? = some e) (he' : (g_ev 0 (g_lg G))[j]? = some e') (h1 : e.1.2 = e'.1.2 → post 1 s) (h0 : ¬ e.1.2 = e'.1.2 → post 0 s) : ∀ (m i : Nat) (v : Int32), i + m = 6 → 1 ≤ i → ((v = 1 ∧ ∀ q, 1 ≤ q → q < i → g_fd e.1 q = g_fd e'.1 q) ∨ (v = 0 ∧ ¬ e.1.2 = e'.1.2)) → r_Md_same_5 scr d (nI k) (nI j) post ex (m + 1) s v (nI i) := by
  have hel := g_ev_len (l := g_lg G) (n := 0)
  have h120 := hl.1
  have hk := g_len_get he
  have hj := g_len_get he'
  intro m
  induction m with
  | zero =>
    intro i v hi _ hv
    obtain rfl : i = 6 := by omega
    refine w_Md_same_5 (pk_le 6 6 (fun _ => ?_) (fun h => by omega))
    rcases hv with ⟨rfl, hv⟩ | ⟨rfl, hv⟩
    · exact ⟨rfl, h1 (g_fd_eq.mp hv)⟩
    · exact ⟨rfl, h0 hv⟩
  | succ m ih =>
    intro i v hi h1i hv
    refine w_Md_same_5 (pk_le 6 i (fun h => by omega) (fun _ => ?_))
    rw [show nI i + (1 : Int32) = nI (i + 1) from nI_1 i]
    rcases hv with ⟨rfl, hv⟩ | ⟨rfl, hv⟩
    · refine ⟨fun h => absurd h (by decide), fun _ => ?_⟩
      rw [show (6 : Int32) * nI k = nI (6 * k) from pk_mul 6 k, show (6 : Int32) * nI j = nI (6 * j) from pk_mul 6 j, nI_add, nI_add]
      refine ⟨pk_in (6 * k + i) 720 (by omega), pk_in (6 * j + i) 720 (by omega), ?_⟩
      rw [pk_cl (6 * k + i), pk_cl (6 * j + i), (hl.2.2.2.2 k e he).2 i (by omega), (hl.2.2.2.2 j e' he').2 i (by omega)]
      have b1 := g_fd_lt (g_oke_of hw he) i
      have b2 := g_fd_lt (g_oke_of hw he') i
      refine pk_eq (g_fd e.1 i) (g_fd e'.1 i) (fun h => ih (i + 1) 1 (by omega) (by omega) (Or.inl ⟨rfl, fun q q1 q2 => ?_⟩)) (fun h => ih (i + 1) 0 (by omega) (by omega) (Or.inr ⟨rfl, fun h9 => h (g_fd_eq.mpr h9 i h1i (by omega))⟩))
      by_cases e : q = i
      · subst e
        exact h
      · exact hv q q1 (by omega)
    · exact ⟨fun _ => ih (i + 1) 0 (by omega) (by omega) (Or.inr ⟨rfl, hv⟩), fun h => absurd rfl h⟩
theorem S_same {post : Int32 → mSt → Prop} {k j : Nat} {e e' : gCh × Nat} (hw : g_oke G) (hl : RM_lg G s) (he : (g_ev 0 (g_lg G))[k]? = some e) (he' : (g_ev 0 (g_lg G))[j]? = some e') (h1 : e.1.2 = e'.1.2 → post 1 s) (h0 : ¬ e.1.2 = e'.1.2 → post 0 s) : X_Md_same scr (d + 1) s (nI k) (nI j) post := w_Md_same ⟨6, S_same_5 hw hl he he' h1 h0 5 1 1 rfl (Nat.le_refl _) (Or.inl ⟨rfl, fun q h1 h2 => by omega⟩)⟩
section
variable {t : mSt} {p : (gTp → Bool) × Nat} {U : Nat → gTp} {c : gCh} {k x : Nat} {e : gCh × Nat}
theorem RM_pl_fc (h : RM_pl G s p U) (he : (g_ev 0 (g_lg G))[k]? = some e) (hx : x < p.2) (hU : U x = e.1.2) (hc : e.1.1 = 1) (h1 : t.1 18 0 21 = s.1 18 0 21) (h2 : t.1 32 0 x = nI k) (h3 : ∀ j, ¬ j = x → t.1 32 0 j = s.1 32 0 j) : RM_pl G t (g_tn1 p e.1) U := by
  obtain ⟨q1, q2, q3, q4⟩ := h
  have hf : p.1 e.1.2 = true := (q4 _).mpr ⟨x, hx, hU⟩
  have e2 : (g_tn1 p e.1).2 = p.2 := by
    show (if e.1.1 = 1 then (if p.1 e.1.2 = true then p.2 else p.2 + 1) else _) = _
    rw [if_pos hc, if_pos hf]
  unfold RM_pl
  rw [e2]
  refine ⟨h1.trans q1, fun i hi => ?_, q3, fun u => ?_⟩
  · by_cases ex : i = x
    · subst ex
      exact ⟨k, e, h2, he, hU.symm⟩
    · obtain ⟨k', e', r1, r2⟩ := q2 i hi
      exact ⟨k', e', (h3 i ex).trans r1, r2⟩
  · show (if e.1.2 = u then decide (e.1.1 = 1) else p.1 u) = true ↔ _
    by_cases eu : e.1.2 = u
    · rw [if_pos eu]
      exact ⟨fun _ => ⟨x, hx, hU.trans eu⟩, fun _ => decide_eq_true hc⟩
    · rw [if_neg eu]
      exact q4 u
theorem RM_pl_nc (h : RM_pl G s p U) (he : (g_ev 0 (g_lg G))[k]? = some e) (hn : ∀ i, i < p.2 → ¬ U i = e.1.2) (hc : e.1.1 = 1) (h1 : t.1 18 0 21 = nI (p.2 + 1)) (h2 : t.1 32 0 p.2 = nI k) (h3 : ∀ j, ¬ j = p.2 → t.1 32 0 j = s.1 32 0 j) {V : Nat → gTp} (hV0 : V p.2 = e.1.2) (hV : ∀ i, ¬ i = p.2 → V i = U i) : RM_pl G t (g_tn1 p e.1) V := by
  obtain ⟨q1, q2, q3, q4⟩ := h
  have hf : ¬ p.1 e.1.2 = true := fun h => by
    obtain ⟨i, hi, hU⟩ := (q4 _).mp h
    exact hn i hi hU
  have e2 : (g_tn1 p e.1).2 = p.2 + 1 := by
    show (if e.1.1 = 1 then (if p.1 e.1.2 = true then p.2 else p.2 + 1) else _) = _
    rw [if_pos hc, if_neg hf]
  unfold RM_pl
  rw [e2]
  refine ⟨h1, fun i hi => ?_, fun i j hi hj hU => ?_, fun u => ?_⟩
  · by_cases ex : i = p.2
    · subst ex
      exact ⟨k, e, h2, he, hV0.symm⟩
    · rw [hV i ex]
      obtain ⟨k', e', r1, r2⟩ := q2 i (by omega)
      exact ⟨k', e', (h3 i ex).trans r1, r2⟩
  · by_cases e1 : i = p.2
    · by_cases e3 : j = p.2
      · omega
      · rw [e1, hV0, hV j e3] at hU
        exact absurd hU.symm (hn j (by omega))
    · by_cases e3 : j = p.2
      · rw [hV i e1, e3, hV0] at hU
        exact absurd hU (hn i (by omega))
      · rw [hV i e1, hV j e3] at hU
        exact q3 i j (by omega) (by omega) hU
  · show (if e.1.2 = u then decide (e.1.1 = 1) else p.1 u) = true ↔ _
    by_cases eu : e.1.2 = u
    · rw [if_pos eu]
      exact ⟨fun _ => ⟨p.2, by omega, hV0.trans eu⟩, fun _ => decide_eq_true hc⟩
    · rw [if_neg eu, q4 u]
      constructor
      · rintro ⟨i, hi, hU⟩
        exact ⟨i, by omega, (hV i (by omega)).trans hU⟩
      · rintro ⟨i, hi, hU⟩
        by_cases e1 : i = p.2
        · rw [e1, hV0] at hU
          exact absurd hU eu
        · rw [hV i e1] at hU
          exact ⟨i, by omega, hU⟩
theorem RM_pl_ng (h : RM_pl G s p U) (hn : ∀ i, i < p.2 → ¬ U i = e.1.2) (hc : ¬ e.1.1 = 1) : RM_pl G s (g_tn1 p e.1) U := by
  obtain ⟨q1, q2, q3, q4⟩ := h
  have hf : ¬ p.1 e.1.2 = true := fun h => by
    obtain ⟨i, hi, hU⟩ := (q4 _).mp h
    exact hn i hi hU
  have e2 : (g_tn1 p e.1).2 = p.2 := by
    show (if e.1.1 = 1 then _ else (if p.1 e.1.2 = true then p.2 - 1 else p.2)) = _
    rw [if_neg hc, if_neg hf]
  unfold RM_pl
  rw [e2]
  refine ⟨q1, q2, q3, fun u => ?_⟩
  show (if e.1.2 = u then decide (e.1.1 = 1) else p.1 u) = true ↔ _
  by_cases eu : e.1.2 = u
  · rw [if_pos eu, decide_eq_false hc]
    refine ⟨fun h => (by cases h), ?_⟩
    rintro ⟨i, hi, hU⟩
    exact absurd (hU.trans eu.symm) (hn i hi)
  · rw [if_neg eu]
    exact q4 u
theorem RM_pl_fg (h : RM_pl G s p U) (hx : x < p.2) (hU : U x = e.1.2) (hc : ¬ e.1.1 = 1) (h1 : t.1 18 0 21 = nI (p.2 - 1)) (h2 : t.1 32 0 x = s.1 32 0 (p.2 - 1)) (h3 : ∀ j, ¬ j = x → t.1 32 0 j = s.1 32 0 j) {V : Nat → gTp} (hV0 : V x = U (p.2 - 1)) (hV : ∀ i, ¬ i = x → V i = U i) : RM_pl G t (g_tn1 p e.1) V := by
  obtain ⟨q1, q2, q3, q4⟩ := h
  have hf : p.1 e.1.2 = true := (q4 _).mpr ⟨x, hx, hU⟩
  have e2 : (g_tn1 p e.1).2 = p.2 - 1 := by
    show (if e.1.1 = 1 then _ else (if p.1 e.1.2 = true then p.2 - 1 else p.2)) = _
    rw [if_neg hc, if_pos hf]
  unfold RM_pl
  rw [e2]
  refine ⟨h1, fun i hi => ?_, fun i j hi hj hU2 => ?_, fun u => ?_⟩
  · by_cases ex : i = x
    · subst ex
      rw [hV0]
      obtain ⟨k', e', r1, r2⟩ := q2 (p.2 - 1) (by omega)
      exact ⟨k', e', h2.trans r1, r2⟩
    · rw [hV i ex]
      obtain ⟨k', e', r1, r2⟩ := q2 i (by omega)
      exact ⟨k', e', (h3 i ex).trans r1, r2⟩
  · by_cases e1 : i = x
    · by_cases e3 : j = x
      · omega
      · rw [e1, hV0, hV j e3] at hU2
        have := q3 _ _ (by omega) (by omega) hU2
        omega
    · by_cases e3 : j = x
      · rw [hV i e1, e3, hV0] at hU2
        have := q3 _ _ (by omega) (by omega) hU2
        omega
      · rw [hV i e1, hV j e3] at hU2
        exact q3 i j (by omega) (by omega) hU2
  · show (if e.1.2 = u then decide (e.1.1 = 1) else p.1 u) = true ↔ _
    by_cases eu : e.1.2 = u
    · rw [if_pos eu, decide_eq_false hc]
      refine ⟨fun h => (by cases h), ?_⟩
      rintro ⟨i, hi, hU2⟩
      by_cases e1 : i = x
      · rw [e1, hV0] at hU2
        have := q3 _ _ (by omega) hx (hU2.trans (eu.symm.trans hU.symm))
        omega
      · rw [hV i e1] at hU2
        have := q3 _ _ (by omega) hx (hU2.trans (eu.symm.trans hU.symm))
        omega
    · rw [if_neg eu, q4 u]
      constructor
      · rintro ⟨i, hi, hU2⟩
        have hix : ¬ i = x := fun h => eu (by rw [← hU2, h, hU])
        by_cases e1 : i = p.2 - 1
        · exact ⟨x, by omega, by rw [hV0, ← e1]; exact hU2⟩
        · exact ⟨i, by omega, by rw [hV i hix]; exact hU2⟩
      · rintro ⟨i, hi, hU2⟩
        by_cases e1 : i = x
        · rw [e1, hV0] at hU2
          exact ⟨p.2 - 1, by omega, hU2⟩
        · rw [hV i e1] at hU2
          exact ⟨i, by omega, hU2⟩
end
set_option maxHeartbeats 4000000 in
theorem S_play_27 {post : mSt → Prop} {ex : Nat → mSt → Prop} {a1 : Int32} {k : Nat} {e : gCh × Nat} {p : (gTp → Bool) × Nat} {U : Nat → gTp} (hw : g_oke G) (hl : RM_lg G s) (he : (g_ev 0 (g_lg G))[k]? = some e) (hp : RM_pl G s p U) (hpk : p.2 ≤ k) (h : ∀ t V, RM_pl G t (g_tn1 p e.1) V → mx_fr F_pl s t → ∃ n, r_Md_play_7 scr (d + 1) a1 post ex n t (nI (k + 1))) : ∀ (m x : Nat), x + m = p.2 → (∀ i, i < x → ¬ U i = e.1.2) → ∃ n, r_Md_play_27 scr (d + 1) a1 post ex n s (nI k) (nI x) := by
  have hel := g_ev_len (l := g_lg G) (n := 0)
  have h120 := hl.1
  have hk := g_len_get he
  have hok := g_oke_of hw he
  have hk1 : nI k + (1 : Int32) = nI (k + 1) := nI_1 k
  have hk6 : (6 : Int32) * nI k = nI (6 * k) := pk_mul 6 k
  have hc : s.1 29 0 (6 * k) = nI e.1.1 := (hl.2.2.2.2 k e he).2 0 (by omega)
  have hc2 := hok.1
  have hsz := hp.1
  intro m
  induction m with
  | zero =>
    intro x hx hn
    obtain rfl : x = p.2 := by omega
    by_cases c1 : e.1.1 = 1
    · have t1 : ∀ s3, s3 = mx_si s 32 0 p.2 (nI k) → s3.1 18 0 21 = nI p.2 := fun s3 e3 => by
        rw [e3, mx_si_n (by omega)]
        exact hsz
      obtain ⟨n, hn2⟩ := h (mx_si (mx_si s 32 0 p.2 (nI k)) 18 0 21 (nI (p.2 + 1))) _ (RM_pl_nc hp he hn c1 mx_si_s (by rw [mx_si_n (by omega), mx_si_s]) (fun j hj => by rw [mx_si_n (by omega), mx_si_n (by omega)]) (V := fun i => if i = p.2 then e.1.2 else U i) (if_pos rfl) (fun i hi => if_neg hi)) (mx_fr.tr (mx_fr.si (Or.inl rfl)) (mx_fr.si (Or.inr ⟨rfl, rfl⟩)))
      refine ⟨n + 1, w_Md_play_27 ?_⟩
      rw [hk6, hk1, pk_cl (x := nI (6 * k)) (6 * k), hc, pk_cl (x := nI p.2) p.2]
      refine pk_le p.2 p.2 (fun _ => ⟨pk_in (6 * k) 720 (by omega), pk_eq e.1.1 1 (fun _ => ⟨pk_in p.2 120 (by omega), fun s3 e3 => ?_⟩) (fun h => absurd c1 h)⟩) (fun h => by omega) hsz
      rw [t1 s3 e3]
      refine pk_eq p.2 p.2 (fun _ s5 e5 => ?_) (fun h => absurd rfl h)
      rw [show nI p.2 + (1 : Int32) = nI (p.2 + 1) from nI_1 _, e3] at e5
      rw [e5]
      exact hn2
    · obtain ⟨n, hn2⟩ := h s _ (RM_pl_ng hp hn c1) mx_fr.rf
      refine ⟨n + 1, w_Md_play_27 ?_⟩
      rw [hk6, hk1, pk_cl (x := nI (6 * k)) (6 * k), hc]
      exact pk_le p.2 p.2 (fun _ => ⟨pk_in (6 * k) 720 (by omega), pk_eq e.1.1 1 (fun h => absurd h c1) (fun _ => pk_le p.2 p.2 (fun _ => hn2) (fun h => by omega) hsz)⟩) (fun h => by omega) hsz
  | succ m ih =>
    intro x hx hn
    obtain ⟨k', e', r1, r2, r3⟩ := hp.2.1 x (by omega)
    by_cases hu : e'.1.2 = e.1.2
    · have hU : U x = e.1.2 := r3.symm.trans hu
      by_cases c1 : e.1.1 = 1
      · obtain ⟨n, hn2⟩ := h (mx_si (mx_si s 32 0 x (nI k)) 18 0 21 (nI p.2)) _ (RM_pl_fc hp he (by omega) hU c1 (by rw [mx_si_s, hsz]) (by rw [mx_si_n (by omega), mx_si_s]) (fun j hj => by rw [mx_si_n (by omega), mx_si_n (by omega)])) (mx_fr.tr (mx_fr.si (Or.inl rfl)) (mx_fr.si (Or.inr ⟨rfl, rfl⟩)))
        refine ⟨n + 1, w_Md_play_27 (pk_le p.2 x (fun h => by omega) (fun _ => ⟨pk_in x 120 (by omega), ?_⟩) hsz)⟩
        rw [hk6, hk1, pk_cl (x := nI (6 * k)) (6 * k), pk_cl (x := nI x) x, r1]
        refine S_same hw hl r2 he (fun _ => ⟨fun h => absurd h (by decide), fun _ => ⟨pk_in (6 * k) 720 (by omega), ?_⟩⟩) (fun h => absurd hu h)
        rw [hc]
        refine pk_eq e.1.1 1 (fun _ => ⟨pk_in x 120 (by omega), fun s3 e3 => ?_⟩) (fun h => absurd c1 h)
        have t1 : s3.1 18 0 21 = nI p.2 := by
          rw [e3, mx_si_n (by omega)]
          exact hsz
        rw [t1]
        refine pk_eq x p.2 (fun h => by omega) (fun _ s5 e5 => ?_)
        rw [e3] at e5
        rw [e5]
        exact hn2
      · obtain ⟨n, hn2⟩ := h (mx_si (mx_si s 18 0 21 (nI (p.2 - 1))) 32 0 x (s.1 32 0 (p.2 - 1))) _ (RM_pl_fg hp (x := x) (by omega) hU c1 (by rw [mx_si_n (by omega), mx_si_s]) mx_si_s (fun j hj => by rw [mx_si_n (by omega), mx_si_n (by omega)]) (V := fun i => if i = x then U (p.2 - 1) else U i) (if_pos rfl) (fun i hi => if_neg hi)) (mx_fr.tr (mx_fr.si (Or.inr ⟨rfl, rfl⟩)) (mx_fr.si (Or.inl rfl)))
        refine ⟨n + 1, w_Md_play_27 (pk_le p.2 x (fun h => by omega) (fun _ => ⟨pk_in x 120 (by omega), ?_⟩) hsz)⟩
        rw [hk6, hk1, pk_cl (x := nI (6 * k)) (6 * k), pk_cl (x := nI x) x, r1]
        refine S_same hw hl r2 he (fun _ => ⟨fun h => absurd h (by decide), fun _ => ⟨pk_in (6 * k) 720 (by omega), ?_⟩⟩) (fun h => absurd hu h)
        rw [hc]
        refine pk_eq e.1.1 1 (fun h => absurd h c1) (fun _ => pk_le p.2 x (fun h => by omega) (fun _ s8 e8 => ?_) hsz)
        rw [hsz, show nI p.2 - (1 : Int32) = nI (p.2 - 1) from pk_sub (b := 1) (by omega)] at e8
        have t1 : s8.1 18 0 21 = nI (p.2 - 1) := by
          rw [e8, mx_si_s]
        rw [t1]
        refine ⟨pk_in (p.2 - 1) 120 (by omega), pk_in x 120 (by omega), fun s9 e9 => ?_⟩
        rw [pk_cl (x := nI (p.2 - 1)) (p.2 - 1), e8, mx_si_n (by omega)] at e9
        rw [e9]
        exact hn2
    · obtain ⟨n, hn2⟩ := ih (x + 1) (by omega) (fun i hi => by
        by_cases ei : i = x
        · subst ei
          rw [← r3]
          exact hu
        · exact hn i (by omega))
      refine ⟨n + 1, w_Md_play_27 (pk_le p.2 x (fun h => by omega) (fun _ => ⟨pk_in x 120 (by omega), ?_⟩) hsz)⟩
      rw [pk_cl (x := nI x) x, r1, show nI x + (1 : Int32) = nI (x + 1) from nI_1 x]
      exact S_same hw hl r2 he (fun h => absurd h hu) (fun _ => ⟨fun _ => hn2, fun h => absurd rfl h⟩)
theorem S_play_7 {post : mSt → Prop} {ex : Nat → mSt → Prop} {t : Nat} (hw : g_oke G) (ht : t ≤ (g_lg G).length) : ∀ (m k : Nat) (s : mSt) (U : Nat → gTp), k + m = g_ec G t → RM_lg G s → RM_pl G s (g_tn (g_pf G k)) U → (∀ u U, RM_pl G u (g_at_t G t) U → mx_fr F_pl s u → post u) → ∃ n, r_Md_play_7 scr (d + 1) (nI t) post ex n s (nI k) := by
  intro m
  induction m with
  | zero =>
    intro k s U hk hl hp h
    have hel := g_ev_len (l := g_lg G) (n := 0)
    have h120 := hl.1
    have hle := g_ec_le (G := G) (t := t)
    have hll := g_lgl h120
    obtain rfl : k = g_ec G t := by omega
    have fin : post s := h s U hp mx_fr.rf
    refine ⟨1, w_Md_play_7 (pk_le (g_ev 0 (g_lg G)).length (g_ec G t) (fun _ => fin) (fun h9 => ⟨pk_in (g_ec G t) 120 (by omega), ?_⟩) hl.2.1)⟩
    rw [pk_cl (g_ec G t)]
    have he : (g_ev 0 (g_lg G))[g_ec G t]? = some (g_ev 0 (g_lg G))[g_ec G t] := List.getElem?_eq_getElem h9
    have h1 := (g_made ht he).2 (Nat.le_refl _)
    have h2 := (g_ev_rng (List.mem_of_getElem? he)).2
    exact pk_lt t (g_ev 0 (g_lg G))[g_ec G t].2 (fun _ => fin) (fun h => by omega) rfl (hl.2.2.2.2 _ _ he).1
  | succ m ih =>
    intro k s U hk hl hp h
    have hel := g_ev_len (l := g_lg G) (n := 0)
    have h120 := hl.1
    have hle := g_ec_le (G := G) (t := t)
    have hll := g_lgl h120
    have he : (g_ev 0 (g_lg G))[k]? = some (g_ev 0 (g_lg G))[k] := List.getElem?_eq_getElem (by omega)
    have h1 := (g_made ht he).1 (by omega)
    have hpk : (g_tn (g_pf G k)).2 ≤ k := Nat.le_trans g_tn_le g_pf_len
    obtain ⟨n, hn⟩ := S_play_27 (scr := scr) (d := d) (post := post) (ex := ex) (a1 := nI t) hw hl he hp hpk (fun t' V hV hf => ih (k + 1) t' V (by omega) (RM_lg_fr hl hf (fun h => by cases h with | inl h => cases h | inr h => cases h.2) (fun h => by cases h with | inl h => cases h | inr h => cases h.2) (fun h => by cases h with | inl h => cases h | inr h => cases h.2) (fun j h => by cases h with | inl h => cases h | inr h => cases h.1) (fun j h => by cases h with | inl h => cases h | inr h => cases h.1)) (by rw [g_pf_1 he, g_tn_a]; exact hV) (fun u U hU hfu => h u U hU (hf.tr hfu))) (g_tn (g_pf G k)).2 0 (by omega) (fun i hi => by omega)
    refine ⟨n + 1, w_Md_play_7 (pk_le (g_ev 0 (g_lg G)).length k (fun h => by omega) (fun h9 => ⟨pk_in k 120 (by omega), ?_⟩) hl.2.1)⟩
    rw [pk_cl k]
    exact pk_lt t (g_ev 0 (g_lg G))[k].2 (fun h => by omega) (fun _ => hn) rfl (hl.2.2.2.2 _ _ he).1
theorem S_play {post : mSt → Prop} {t : Nat} (hw : g_oke G) (hl : RM_lg G s) (ht : t ≤ (g_lg G).length) (h : ∀ u U, RM_pl G u (g_at_t G t) U → mx_fr F_pl s u → post u) : X_Md_play scr (d + 2) s (nI t) post := by
  have e1 : ∀ s1, s1 = mx_si s 18 0 21 (0 : Int32) → mx_fr F_pl s s1 := fun s1 e => by
    rw [e]
    exact mx_fr.si (Or.inr ⟨rfl, rfl⟩)
  have hl1 : RM_lg G (mx_si s 18 0 21 0) := RM_lg_fr hl (e1 _ rfl) (fun h => by cases h with | inl h => cases h | inr h => cases h.2) (fun h => by cases h with | inl h => cases h | inr h => cases h.2) (fun h => by cases h with | inl h => cases h | inr h => cases h.2) (fun j h => by cases h with | inl h => cases h | inr h => cases h.1) (fun j h => by cases h with | inl h => cases h | inr h => cases h.1)
  obtain ⟨n, hn⟩ := S_play_7 (scr := scr) (d := d) (post := post) (ex := fun _ _ => False) hw ht (g_ec G t) 0 (mx_si s 18 0 21 0) (fun _ => (0, 0, 0, 0, 0)) (by omega) hl1 ⟨mx_si_s, fun i hi => absurd hi (Nat.not_lt_zero _), fun i j hi => absurd hi (Nat.not_lt_zero _), fun u => ⟨fun h => (by cases h), fun ⟨i, hi, _⟩ => absurd hi (Nat.not_lt_zero _)⟩⟩ (fun u U hU hf => h u U hU ((e1 _ rfl).tr hf))
  exact w_Md_play ⟨n, fun s1 es => by rw [es]; exact hn⟩
end
