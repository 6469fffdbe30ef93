def g_pe (G : gSt) (t : Nat) : Nat := (g_fl ((g_lg G).take t)).length
section
variable {s : mSt} {G : gSt}
theorem g_fl_app {l l' : List (List gCh)} : g_fl (l ++ l') = g_fl l ++ g_fl l' := by
  unfold g_fl
  simp
theorem g_take1 {t : Nat} {b : List gCh} (h : (g_lg G)[t]? = some b) : (g_lg G).take (t + 1) = (g_lg G).take t ++ [b] := by
  rw [List.take_add_one, h]
  rfl
theorem g_pe_1 {t : Nat} {b : List gCh} (h : (g_lg G)[t]? = some b) : g_pe G (t + 1) = g_pe G t + b.length + 1 := by
  unfold g_pe
  rw [g_take1 h, g_fl_a, List.length_append, g_fb_len]
  omega
theorem g_pe_le {t : Nat} : g_pe G t ≤ (g_fl (g_lg G)).length := by
  unfold g_pe
  have h := congrArg (fun l => (g_fl l).length) (List.take_append_drop t (g_lg G))
  simp only [g_fl_app, List.length_append] at h
  omega
theorem g_rec {t i : Nat} {b : List gCh} {x : Int32} (hr : RC_lg G s) (h : (g_lg G)[t]? = some b) (hi : (g_fb b)[i]? = some x) : s.1 12 0 (g_pe G t + i) = x := by
  refine hr.2.2.2 _ x ?_
  have e : g_fl (g_lg G) = g_fl ((g_lg G).take t) ++ (g_fb b ++ g_fl ((g_lg G).drop (t + 1))) := by
    have h1 := List.take_append_drop (t + 1) (g_lg G)
    rw [g_take1 h, List.append_assoc] at h1
    have h2 := congrArg g_fl h1
    rw [g_fl_app, g_fl_app] at h2
    rw [← h2]
    show _ = _ ++ (g_fb b ++ _)
    congr 2
    unfold g_fl
    simp
  have hl := g_len_get hi
  rw [e, List.getElem?_append_right (by show g_pe G t ≤ _; omega)]
  show (g_fb b ++ _)[g_pe G t + i - g_pe G t]? = some x
  rw [show g_pe G t + i - g_pe G t = i by omega, List.getElem?_append_left hl]
  exact hi
theorem g_rec_c {t i : Nat} {b : List gCh} {c : gCh} (hr : RC_lg G s) (h : (g_lg G)[t]? = some b) (hi : b[i]? = some c) : s.1 12 0 (g_pe G t + i) = g_pk c := by
  refine g_rec hr h ?_
  have hl := g_len_get hi
  unfold g_fb
  rw [List.getElem?_append_left (by rw [List.length_map]; exact hl), List.getElem?_map, hi]
  rfl
theorem g_rec_m {t : Nat} {b : List gCh} (hr : RC_lg G s) (h : (g_lg G)[t]? = some b) : s.1 12 0 (g_pe G t + b.length) = -1 := by
  refine g_rec hr h ?_
  unfold g_fb
  rw [List.getElem?_append_right (by rw [List.length_map]; exact Nat.le_refl _), List.length_map, Nat.sub_self]
  rfl
theorem g_mk_in {t : Nat} {b : List gCh} (hr : RC_lg G s) (h : (g_lg G)[t]? = some b) : ∀ i, i ≤ b.length → lg_mk (s.1 12 0) (g_pe G t + i) = lg_mk (s.1 12 0) (g_pe G t) := by
  intro i
  induction i with
  | zero => exact fun _ => rfl
  | succ i ih =>
    intro hi
    have hc : ∃ c, b[i]? = some c := ⟨b[i], List.getElem?_eq_getElem (by omega)⟩
    obtain ⟨c, hc⟩ := hc
    have hok := (hr.1.2 b (List.mem_of_getElem? h)).2 c (List.mem_of_getElem? hc)
    rw [show g_pe G t + (i + 1) = g_pe G t + i + 1 by omega, lg_mk_0 (by rw [g_rec_c hr h hc]; exact g_pk_ne hok)]
    exact ih (by omega)
theorem g_mk_pe (hr : RC_lg G s) : ∀ t, t ≤ (g_lg G).length → lg_mk (s.1 12 0) (g_pe G t) = t ∧ ∀ q, q < g_pe G t → lg_mk (s.1 12 0) q < t := by
  intro t
  induction t with
  | zero =>
    intro _
    have e : g_pe G 0 = 0 := by simp [g_pe, g_fl]
    rw [e]
    exact ⟨rfl, fun q hq => by omega⟩
  | succ t ih =>
    intro ht
    obtain ⟨ih1, ih2⟩ := ih (by omega)
    obtain ⟨b, hb⟩ : ∃ b, (g_lg G)[t]? = some b := ⟨(g_lg G)[t], List.getElem?_eq_getElem (by omega)⟩
    rw [g_pe_1 hb]
    have hin := g_mk_in hr hb
    refine ⟨?_, fun q hq => ?_⟩
    · rw [lg_mk_1 (g_rec_m hr hb), hin b.length (Nat.le_refl _), ih1]
    · by_cases h1 : q < g_pe G t
      · have := ih2 q h1
        omega
      · have h2 := hin (q - g_pe G t) (by omega)
        rw [show g_pe G t + (q - g_pe G t) = q by omega, ih1] at h2
        omega
theorem g_at {t p : Nat} (hr : RC_lg G s) (ht : t ≤ (g_lg G).length) (h : lg_at (s.1 12 0) (g_fl (g_lg G)).length t p) : p = g_pe G t := by
  obtain ⟨h1, h2⟩ := g_mk_pe hr t ht
  obtain ⟨q1, q2, q3⟩ := h
  have h3 := g_pe_le (G := G) (t := t)
  rcases Nat.lt_trichotomy p (g_pe G t) with h4 | h4 | h4
  · have h5 := h2 p h4
    rcases q2 with q2 | q2 <;> omega
  · exact h4
  · have h5 := q3 _ h4
    omega
end
