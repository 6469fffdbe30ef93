section
variable {scr : mSc} {d : Nat} {s : mSt} {G : gSt} {W : (gTp → Bool) → (Nat → Int32) → Prop}
theorem S_Rs_tuples {post : Int32 → mSt → Prop} {ex : Nat → mSt → Prop} {a1 : Int32} (hl : (g_rs G).length ≤ 9) (hw : g_wl G) (hr : RC_lg G s) (hv : RC_vs W G s) (hk : s.1 0 0 0 = nI G.1) (hK : g_okK G) (e2 : (∀ t, t ≤ (g_lg G).length → ¬ a1 = nI t) → ex 2 s) (e3 : ∀ t, t ≤ (g_lg G).length → a1 = nI t → t + G.1 ≤ (g_lg G).length → ex 3 s)
    (hy : ∀ t u, t ≤ (g_lg G).length → a1 = nI t → (g_lg G).length < t + G.1 → RC_vs W G u → mx_fr (F_rp (t % 8)) s u → post (nI (g_at_t G t).2) u) : X_Rs_tuples scr (d + 6) s a1 ex post := by
  refine w_Rs_tuples (S_refuse hr hk hK (fun hc => ⟨fun h => absurd h (by decide), fun _ => e2 (hc.resolve_left (by decide)), fun h => absurd h (by decide)⟩) (fun t _ ht e h9 => ⟨fun h => absurd h (by decide), fun h => absurd h (by decide), fun _ => e3 t ht e h9⟩) (fun t _ ht e h9 => ?_))
  subst e
  refine S_versionOf hl hw hr hv ht (fun u g1 g2 g3 => S_size ?_)
  rw [g2.2.2.2.1.2.2]
  exact hy t u ht rfl h9 g1 g3
end
