section
variable {scr : mSc} {d : Nat} {s : mSt} {G : gSt}
set_option maxHeartbeats 4000000 in
theorem S_Md_watched {post : Int32 → mSt → Prop} {a1 a2 a3 : Int32} (h : RM_lg G s) (hk : s.1 18 0 0 = nI G.1) (hK : g_okK G) (e1 : ∀ u, (∀ t, t ≤ (g_lg G).length → ¬ a1 = nI t) → u.1 18 0 1 = 1 → mx_fr F_mo s u → post 0 u) (e2 : ∀ u t, t ≤ (g_lg G).length → a1 = nI t → t + G.1 ≤ (g_lg G).length → u.1 18 0 1 = 2 → mx_fr F_mo s u → post 0 u)
    (hm : ∀ u t, t ≤ (g_lg G).length → a1 = nI t → (g_lg G).length < t + G.1 → u.1 18 0 1 = 0 → mx_fr F_mo s u → (∀ k q, ¬ (g_ec G t + k < (g_ev 0 (g_lg G)).length ∧ a2 = nI k ∧ q ≤ 6 ∧ a3 = nI q)) → post (-1) u)
    (hy : ∀ u t k q e, t ≤ (g_lg G).length → a1 = nI t → (g_lg G).length < t + G.1 → u.1 18 0 1 = 0 → mx_fr F_mo s u → a2 = nI k → q ≤ 6 → a3 = nI q → (g_ev 0 (g_lg G))[g_ec G t + k]? = some e → post (g_wv e q) u) : X_Md_watched scr (d + 3) s a1 a2 a3 post := by
  have hll := g_lgl h.1
  have hel := g_ev_len (l := g_lg G) (n := 0)
  have h120 := h.1
  refine w_Md_watched (S_isFine h hk hK (fun u hc z f => ⟨fun _ => e1 u (hc.resolve_left (by decide)) z f, fun h => absurd rfl h⟩) (fun u t _ ht e h9 z f => ⟨fun _ => e2 u t ht e h9 z f, fun h => absurd rfl h⟩) (fun u t _ ht e h9 z f => ⟨fun h => absurd h (by decide), fun _ => ?_⟩))
  have hu : RM_lg G u := RM_lg_fr h f (fun h => by cases h.2) (fun h => by cases h.2) (fun h => by cases h.2) (fun j h => by cases h.1) (fun j h => by cases h.1)
  have hm := hm u t ht e h9 z f
  have hle := g_ec_le (G := G) (t := t)
  rw [e]
  refine S_since hu ht ⟨fun hn => hm (fun k q hc => ?_), fun hp => ?_⟩
  · rw [hc.2.1] at hn
    exact nI_pos (by omega) hn
  obtain ⟨k, hk31, rfl⟩ := nI_of hp
  refine S_since hu ht ?_
  rw [hu.2.1, pk_sub hle]
  refine pk_le ((g_ev 0 (g_lg G)).length - g_ec G t) k (fun hkn => hm (fun k' q hc => ?_)) (fun hkn => ⟨fun hn => hm (fun k' q hc => ?_), fun hp3 => ?_⟩)
  · have := (nI_eq hk31 (by omega)).mp hc.2.1
    omega
  · rw [hc.2.2.2] at hn
    exact nI_pos (by omega) hn
  obtain ⟨q, hq31, rfl⟩ := nI_of hp3
  refine pk_le q 6 (fun hq => ?_) (fun hq => hm (fun k' q' hc => ?_))
  · have he : (g_ev 0 (g_lg G))[g_ec G t + k]? = some (g_ev 0 (g_lg G))[g_ec G t + k] := List.getElem?_eq_getElem (by omega)
    have hy := hy u t k q _ ht e h9 z f rfl hq rfl he
    obtain ⟨r1, r2⟩ := hu.2.2.2.2 _ _ he
    unfold g_wv at hy
    rw [nI_add, show (6 : Int32) * nI (g_ec G t + k) = nI (6 * (g_ec G t + k)) from pk_mul 6 _, nI_add]
    refine pk_eq q 6 (fun e6 => ⟨pk_in (g_ec G t + k) 120 (by omega), ?_⟩) (fun n6 => ⟨pk_in (6 * (g_ec G t + k) + q) 720 (by omega), ?_⟩)
    · rw [pk_cl (g_ec G t + k), r1]
      rw [if_pos e6] at hy
      exact hy
    · rw [pk_cl (6 * (g_ec G t + k) + q), r2 q (by omega)]
      rw [if_neg n6] at hy
      exact hy
  · have := (nI_eq hq31 (by omega)).mp hc.2.2.2
    omega
end
