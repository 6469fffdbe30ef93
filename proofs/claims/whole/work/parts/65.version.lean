def RC_v1 (W : (gTp → Bool) → (Nat → Int32) → Prop) (G : gSt) (s : mSt) (v t : Nat) : Prop := t ≤ (g_lg G).length ∧ t % 8 = v ∧ s.1 14 v 0 = nI t ∧ RC_tp G (s.2.1 15 v) (g_at_t G t) ∧ (s.1 14 v 3 = 0 ∨ (s.1 14 v 3 = 1 ∧ W (g_at_t G t).1 (s.1 16 v)))
def RC_vs (W : (gTp → Bool) → (Nat → Int32) → Prop) (G : gSt) (s : mSt) : Prop := ∀ v, v < 8 → s.1 14 v 0 = -1 ∨ ∃ t, RC_v1 W G s v t
section
variable {scr : mSc} {d : Nat} {s : mSt} {G : gSt} {W : (gTp → Bool) → (Nat → Int32) → Prop}
theorem RC_v1_fr {P : Nat → Nat → Nat → Prop} {u : mSt} {v t : Nat} (h : RC_v1 W G s v t) (hf : mx_fr P s u) (h1 : ∀ j, ¬ P 14 v j) (h2 : ∀ j, ¬ P 15 v j) (h3 : ∀ j, ¬ P 16 v j) : RC_v1 W G u v t := by
  obtain ⟨q1, q2, q3, q4, q5⟩ := h
  have e15 : u.2.1 15 v = s.2.1 15 v := funext fun j => hf.2.1 15 v j (h2 j)
  have e16 : u.1 16 v = s.1 16 v := funext fun j => hf.1 16 v j (h3 j)
  unfold RC_v1
  rw [e15, e16, hf.1 14 v 0 (h1 0), hf.1 14 v 3 (h1 3)]
  exact ⟨q1, q2, q3, q4, q5⟩
theorem RC_vs_fr {P : Nat → Nat → Nat → Prop} {u : mSt} (h : RC_vs W G s) (hf : mx_fr P s u) (h1 : ∀ v j, ¬ P 14 v j) (h2 : ∀ v j, ¬ P 15 v j) (h3 : ∀ v j, ¬ P 16 v j) : RC_vs W G u := by
  intro v hv
  rcases h v hv with h | ⟨t, h⟩
  · exact Or.inl ((hf.1 14 v 0 (h1 v 0)).trans h)
  · exact Or.inr ⟨t, RC_v1_fr h hf (h1 v) (h2 v) (h3 v)⟩
theorem S_versionOf {post : Nat → mSt → Prop} {t : Nat} (hl : (g_rs G).length ≤ 9) (hw : g_wl G) (hr : RC_lg G s) (hv : RC_vs W G s) (ht : t ≤ (g_lg G).length) (h : ∀ u, RC_vs W G u → RC_v1 W G u (t % 8) t → mx_fr (F_rp (t % 8)) s u → post (t % 8) u) : X_Rs_versionOf scr (d + 5) s (nI t) post := by
  have hll := g_lgl hr.1.1
  have h8 : nI t - nI t / (8 : Int32) * (8 : Int32) = nI (t % 8) := pk_rem (d := 8) (by omega) (by omega) (by omega)
  refine w_Rs_versionOf ⟨by decide, ?_⟩
  rw [h8]
  refine ⟨pk_in (t % 8) 8 (by omega), ?_⟩
  rw [pk_cl (t % 8)]
  refine ⟨fun e => ?_, fun e => S_replay hl hw hr ht (fun u g1 g2 g3 g4 => ?_)⟩
  · rcases hv (t % 8) (by omega) with h9 | ⟨t', h9⟩
    · rw [h9] at e
      exact absurd (e ▸ (by decide : ((-1 : Int32) < 0))) (nI_pos (by omega))
    · have h7 := h9.1
      obtain rfl : t' = t := g_eqI (by omega) (by omega) (h9.2.2.1.symm.trans e)
      exact h s hv h9 mx_fr.rf
  · have h1 : RC_v1 W G u (t % 8) t := ⟨ht, rfl, g2, g1, Or.inl g3⟩
    refine h u (fun v hv9 => ?_) h1 g4
    by_cases ev : v = t % 8
    · subst ev
      exact Or.inr ⟨t, h1⟩
    · rcases hv v hv9 with h | ⟨t', h⟩
      · exact Or.inl ((g4.1 14 v 0 (fun h => ev h.1)).trans h)
      · exact Or.inr ⟨t', RC_v1_fr h g4 (fun j h => ev h.1) (fun j h => ev h.1) (fun j h => ev h.1)⟩
theorem S_Md_tuples {post : Int32 → mSt → Prop} {a1 : Int32} (hw : g_oke G) (h : RM_lg G s) (hk : s.1 18 0 0 = nI G.1) (hK : g_okK G) (e1 : ∀ u, (∀ t, t ≤ (g_lg G).length → ¬ a1 = nI t) → u.1 18 0 1 = 1 → mx_fr F_mo s u → post 0 u) (e2 : ∀ u t, t ≤ (g_lg G).length → a1 = nI t → t + G.1 ≤ (g_lg G).length → u.1 18 0 1 = 2 → mx_fr F_mo s u → post 0 u)
    (hy : ∀ u u' t, t ≤ (g_lg G).length → a1 = nI t → (g_lg G).length < t + G.1 → u.1 18 0 1 = 0 → mx_fr F_mo s u → mx_fr F_pl u u' → post (nI (g_at_t G t).2) u') : X_Md_tuples scr (d + 3) s a1 post := by
  refine w_Md_tuples (S_isFine h hk hK (fun u hc z f => ⟨fun _ => e1 u (hc.resolve_left (by decide)) z f, fun h => absurd rfl h⟩) (fun u t _ ht e h9 z f => ⟨fun _ => e2 u t ht e h9 z f, fun h => absurd rfl h⟩) (fun u t _ ht e h9 z f => ⟨fun h => absurd h (by decide), fun _ => ?_⟩))
  have hu : RM_lg G u := RM_lg_fr h f (fun h => by cases h.2) (fun h => by cases h.2) (fun h => by cases h.2) (fun j h => by cases h.1) (fun j h => by cases h.1)
  rw [e]
  refine S_play hw hu ht (fun u' U hU hf => ?_)
  rw [hU.1]
  exact hy u u' t ht e h9 z f hf
end
