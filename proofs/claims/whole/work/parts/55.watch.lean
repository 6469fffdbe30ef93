def g_ec (G : gSt) (t : Nat) : Nat := (g_ev 0 ((g_lg G).take t)).length
theorem g_ev_app : ∀ {l l' : List (List gCh)} {n : Nat}, g_ev n (l ++ l') = g_ev n l ++ g_ev (n + l.length) l'
  | [], l', n => rfl
  | b :: l, l', n => by
    show b.map _ ++ g_ev (n + 1) (l ++ l') = (b.map _ ++ g_ev (n + 1) l) ++ g_ev (n + (l.length + 1)) l'
    rw [g_ev_app, List.append_assoc, show n + 1 + l.length = n + (l.length + 1) by omega]
theorem g_ev_rng {e : gCh × Nat} : ∀ {l : List (List gCh)} {n : Nat}, e ∈ g_ev n l → n < e.2 ∧ e.2 ≤ n + l.length
  | [], n, h => by cases h
  | b :: l, n, h => by
    rcases List.mem_append.mp (show e ∈ b.map (fun c => (c, n + 1)) ++ g_ev (n + 1) l from h) with h | h
    · obtain ⟨c, -, rfl⟩ := List.mem_map.mp h
      show n < n + 1 ∧ n + 1 ≤ n + (l.length + 1)
      omega
    · have h1 := g_ev_rng h
      show n < e.2 ∧ e.2 ≤ n + (l.length + 1)
      omega
section
variable {scr : mSc} {d : Nat} {s : mSt} {G : gSt}
theorem g_ec_pe {t : Nat} (h : t ≤ (g_lg G).length) : g_ec G t + t = g_pe G t := by
  have h1 := g_ev_len (l := (g_lg G).take t) (n := 0)
  rw [List.length_take, Nat.min_eq_left h] at h1
  exact h1
theorem g_ec_le {t : Nat} : g_ec G t ≤ (g_ev 0 (g_lg G)).length := by
  have h := congrArg (fun l => (g_ev 0 l).length) (List.take_append_drop t (g_lg G))
  simp only [g_ev_app, List.length_append] at h
  unfold g_ec
  omega
theorem g_made {t k : Nat} {e : gCh × Nat} (ht : t ≤ (g_lg G).length) (h : (g_ev 0 (g_lg G))[k]? = some e) : (k < g_ec G t → e.2 ≤ t) ∧ (g_ec G t ≤ k → t < e.2) := by
  have h1 : g_ev 0 (g_lg G) = g_ev 0 ((g_lg G).take t) ++ g_ev t ((g_lg G).drop t) := by
    have h2 := g_ev_app (l := (g_lg G).take t) (l' := (g_lg G).drop t) (n := 0)
    rw [List.take_append_drop, List.length_take, Nat.min_eq_left ht, Nat.zero_add] at h2
    exact h2
  rw [h1] at h
  refine ⟨fun hk => ?_, fun hk => ?_⟩
  · rw [List.getElem?_append_left (show k < (g_ev 0 ((g_lg G).take t)).length from hk)] at h
    have h2 := (g_ev_rng (List.mem_of_getElem? h)).2
    rw [List.length_take] at h2
    omega
  · rw [List.getElem?_append_right (show (g_ev 0 ((g_lg G).take t)).length ≤ k from hk)] at h
    exact (g_ev_rng (List.mem_of_getElem? h)).1
theorem S_since_2 {post : Int32 → mSt → Prop} {ex : Nat → mSt → Prop} {t : Nat} (hl : RM_lg G s) (ht : t ≤ (g_lg G).length) (h : post (nI (g_ec G t)) s) : ∀ (m k : Nat), k + m = g_ec G t → r_Md_since_2 scr d (nI t) post ex (m + 1) s (nI k) := by
  have hle := g_ec_le (G := G) (t := t)
  have hel := g_ev_len (l := g_lg G) (n := 0)
  have h120 := hl.1
  have hll := g_lgl h120
  intro m
  induction m with
  | zero =>
    intro k hk
    obtain rfl : k = g_ec G t := by omega
    refine w_Md_since_2 (pk_le (g_ev 0 (g_lg G)).length (g_ec G t) (fun _ => h) (fun h9 => ⟨pk_in (g_ec G t) 120 (by omega), ?_⟩) hl.2.1)
    rw [pk_cl (g_ec G t)]
    have he : (g_ev 0 (g_lg G))[g_ec G t]? = some (g_ev 0 (g_lg G))[g_ec G t] := List.getElem?_eq_getElem h9
    have h1 := (g_made ht he).2 (Nat.le_refl _)
    have h2 := (g_ev_rng (List.mem_of_getElem? he)).2
    exact pk_lt t (g_ev 0 (g_lg G))[g_ec G t].2 (fun _ => h) (fun h => by omega) rfl (hl.2.2.2.2 _ _ he).1
  | succ m ih =>
    intro k hk
    refine w_Md_since_2 (pk_le (g_ev 0 (g_lg G)).length k (fun h => by omega) (fun h9 => ⟨pk_in k 120 (by omega), ?_⟩) hl.2.1)
    rw [pk_cl k, show nI k + (1 : Int32) = nI (k + 1) from nI_1 k]
    have he : (g_ev 0 (g_lg G))[k]? = some (g_ev 0 (g_lg G))[k] := List.getElem?_eq_getElem h9
    have h1 := (g_made ht he).1 (by omega)
    exact pk_lt t (g_ev 0 (g_lg G))[k].2 (fun h => by omega) (fun _ => ih (k + 1) (by omega)) rfl (hl.2.2.2.2 _ _ he).1
theorem S_since {post : Int32 → mSt → Prop} {t : Nat} (hl : RM_lg G s) (ht : t ≤ (g_lg G).length) (h : post (nI (g_ec G t)) s) : X_Md_since scr (d + 1) s (nI t) post := w_Md_since ⟨g_ec G t + 1, S_since_2 hl ht h (g_ec G t) 0 (by omega)⟩
theorem S_changesSince {post : Int32 → mSt → Prop} {t : Nat} (hl : RC_lg G s) (ht : t ≤ (g_lg G).length) (h : post (nI ((g_ev 0 (g_lg G)).length - g_ec G t)) s) : X_Lg_changesSince scr (d + 2) s (nI t) post := by
  have hll := g_lgl hl.1.1
  refine w_Lg_changesSince (S_lengthAt hl.2.1 hl.1.1 (by omega) (fun p hp => ?_))
  rw [g_at hl ht hp, hl.2.1, hl.2.2.1]
  have h1 := g_pe_le (G := G) (t := t)
  have h2 := g_ec_pe ht
  have h3 := g_ev_len (l := g_lg G) (n := 0)
  have h4 := g_ec_le (G := G) (t := t)
  rw [pk_sub h1, pk_sub ht, pk_sub (by omega), show (g_fl (g_lg G)).length - g_pe G t - ((g_lg G).length - t) = (g_ev 0 (g_lg G)).length - g_ec G t by omega]
  exact h
end
