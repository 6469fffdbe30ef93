def g_wv (e : gCh × Nat) (q : Nat) : Int32 := if q = 6 then nI e.2 else nI (g_fd e.1 q)
section
variable {scr : mSc} {d : Nat} {s : mSt} {G : gSt}
set_option maxHeartbeats 4000000 in
theorem S_Rs_watched {post : Int32 → mSt → Prop} {ex : Nat → mSt → Prop} {a1 a2 a3 : Int32} (h : RC_lg G s) (hk : s.1 0 0 0 = nI G.1) (hK : g_okK G) (e2 : (∀ t, t ≤ (g_lg G).length → ¬ a1 = nI t) → ex 2 s) (e3 : ∀ t, t ≤ (g_lg G).length → a1 = nI t → t + G.1 ≤ (g_lg G).length → ex 3 s)
    (hm : ∀ t, t ≤ (g_lg G).length → a1 = nI t → (g_lg G).length < t + G.1 → (∀ k q, ¬ (g_ec G t + k < (g_ev 0 (g_lg G)).length ∧ a2 = nI k ∧ q ≤ 6 ∧ a3 = nI q)) → post (-1) s)
    (hy : ∀ t k q e, t ≤ (g_lg G).length → a1 = nI t → (g_lg G).length < t + G.1 → a2 = nI k → q ≤ 6 → a3 = nI q → (g_ev 0 (g_lg G))[g_ec G t + k]? = some e → post (g_wv e q) s) : X_Rs_watched scr (d + 3) s a1 a2 a3 ex post := by
  have hll := g_lgl h.1.1
  have hel := g_ev_len (l := g_lg G) (n := 0)
  have h120 := h.1.1
  refine w_Rs_watched (S_refuse h hk hK (fun hc => ⟨fun h => absurd h (by decide), fun _ => e2 (hc.resolve_left (by decide)), fun h => absurd h (by decide)⟩) (fun t _ ht e h9 => ⟨fun h => absurd h (by decide), fun h => absurd h (by decide), fun _ => e3 t ht e h9⟩) (fun t _ ht e h9 => ?_))
  have hm := hm t ht e h9
  have hle := g_ec_le (G := G) (t := t)
  refine ⟨fun hn => hm (fun k q hc => ?_), fun hp => ?_⟩
  · rw [hc.2.1] at hn
    exact nI_pos (by omega) hn
  obtain ⟨k, hk31, rfl⟩ := nI_of hp
  rw [e]
  refine S_changesSince h ht (pk_le ((g_ev 0 (g_lg G)).length - g_ec G t) k (fun hkn => hm (fun k' q hc => ?_)) (fun hkn => ⟨fun hn => hm (fun k' q hc => ?_), fun hp3 => ?_⟩))
  · have := (nI_eq hk31 (by omega)).mp hc.2.1
    omega
  · rw [hc.2.2.2] at hn
    exact nI_pos (by omega) hn
  obtain ⟨q, hq31, rfl⟩ := nI_of hp3
  refine pk_le q 6 (fun hq => ?_) (fun hq => hm (fun k' q' hc => ?_))
  · have he : (g_ev 0 (g_lg G))[g_ec G t + k]? = some (g_ev 0 (g_lg G))[g_ec G t + k] := List.getElem?_eq_getElem (by omega)
    have hy := hy t k q _ ht e h9 rfl hq rfl he
    obtain ⟨p, m, g1, g2, g3, g4, g5, g6, g7⟩ := g_place h he
    refine S_placeOf h.2.1 h120 (by omega) (fun p0 hp0 => ?_)
    have ep := g_at h ht hp0
    have c0 : lg_cn (s.1 12 0) p0 = g_ec G t := by
      have h1 := (g_mk_pe h t ht).1
      have h2 := lg_mk_c (R := s.1 12 0) (g_pe G t)
      have h3 := g_ec_pe (G := G) ht
      rw [ep]
      omega
    have hpp : p0 ≤ p := Nat.le_of_not_lt fun h8 => by
      have h7 := lg_cn_mono (R := s.1 12 0) (show p + 1 ≤ p0 from h8)
      rw [lg_cn_0 (by rw [g4]; exact g_pk_ne g5)] at h7
      omega
    refine ⟨p, hpp, g3, by rw [g4]; exact g_pk_ne g5, by omega, pk_eq q 6 (fun e6 => ?_) (fun n6 => ⟨pk_in p 120 (by omega), ?_⟩)⟩
    · refine S_marksBefore (by omega) ?_
      unfold g_wv at hy
      rw [if_pos e6, g1] at hy
      rw [g6]
      show post (nI m + 1) s
      rw [show nI m + (1 : Int32) = nI (m + 1) from nI_1 m]
      exact hy
    · rw [pk_cl p, g4]
      unfold g_wv at hy
      rw [if_neg n6] at hy
      exact S_field g5 (by omega) hy
  · have := (nI_eq hq31 (by omega)).mp hc.2.2.2
    omega
end
