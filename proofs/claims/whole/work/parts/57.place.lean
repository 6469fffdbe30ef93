section
variable {scr : mSc} {d : Nat} {s : mSt} {G : gSt}
theorem g_ec_1 {t : Nat} {b : List gCh} (h : (g_lg G)[t]? = some b) : g_ec G (t + 1) = g_ec G t + b.length := by
  have ht := g_len_get h
  have h1 := g_ec_pe (G := G) (t := t) (by omega)
  have h2 := g_ec_pe (G := G) (t := t + 1) (by omega)
  have h3 := g_pe_1 h
  omega
theorem g_ev_at {i : Nat} {e : gCh × Nat} (h : (g_ev 0 (g_lg G))[i]? = some e) : ∃ j b x, (g_lg G)[j]? = some b ∧ b[x]? = some e.1 ∧ e.2 = j + 1 ∧ i = g_ec G j + x := by
  have hr := g_ev_rng (List.mem_of_getElem? h)
  obtain ⟨j, hj⟩ : ∃ j, e.2 = j + 1 := ⟨e.2 - 1, by omega⟩
  have hjl : j < (g_lg G).length := by omega
  obtain ⟨b, hb⟩ : ∃ b, (g_lg G)[j]? = some b := ⟨(g_lg G)[j], List.getElem?_eq_getElem hjl⟩
  have h1 : g_ec G j ≤ i := Nat.le_of_not_lt fun h9 => by
    have := (g_made (t := j) (by omega) h).1 h9
    omega
  have h2 : i < g_ec G (j + 1) := Nat.lt_of_not_le fun h9 => by
    have := (g_made (t := j + 1) (by omega) h).2 h9
    omega
  rw [g_ec_1 hb] at h2
  refine ⟨j, b, i - g_ec G j, hb, ?_, hj, by omega⟩
  have e1 := g_ev_app (l := (g_lg G).take (j + 1)) (l' := (g_lg G).drop (j + 1)) (n := 0)
  rw [List.take_append_drop, g_take1 hb, g_ev_a, List.append_assoc] at e1
  rw [e1, List.getElem?_append_right (show (g_ev 0 ((g_lg G).take j)).length ≤ i from h1), List.getElem?_append_left (by rw [List.length_map]; show i - g_ec G j < _; omega), List.getElem?_map] at h
  have h : (b[i - g_ec G j]?).map (fun c => (c, 0 + ((g_lg G).take j).length + 1)) = some e := h
  cases h7 : b[i - g_ec G j]? with
  | none =>
    rw [h7] at h
    cases h
  | some c =>
    rw [h7] at h
    cases h
    rfl
theorem g_place {i : Nat} {e : gCh × Nat} (hr : RC_lg G s) (h : (g_ev 0 (g_lg G))[i]? = some e) : ∃ q m, e.2 = m + 1 ∧ q = i + m ∧ q < (g_fl (g_lg G)).length ∧ s.1 12 0 q = g_pk e.1 ∧ g_okC e.1 ∧ lg_mk (s.1 12 0) q = m ∧ lg_cn (s.1 12 0) q = i := by
  obtain ⟨j, b, x, hb, hx, hj, hi⟩ := g_ev_at h
  have hjl := g_len_get hb
  have hxl := g_len_get hx
  have h1 := g_ec_pe (G := G) (t := j) (by omega)
  have h2 := g_pe_le (G := G) (t := j + 1)
  rw [g_pe_1 hb] at h2
  have h3 := g_mk_in hr hb x (by omega)
  rw [(g_mk_pe hr j (by omega)).1] at h3
  have h4 := lg_mk_c (R := s.1 12 0) (g_pe G j + x)
  have hq : i + j = g_pe G j + x := by omega
  refine ⟨i + j, j, hj, rfl, by omega, ?_, (hr.1.2 b (List.mem_of_getElem? hb)).2 _ (List.mem_of_getElem? hx), ?_, ?_⟩
  · rw [hq]
    exact g_rec_c hr hb hx
  · rw [hq]
    exact h3
  · rw [hq]
    omega
end
