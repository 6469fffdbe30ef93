section
variable {scr : mSc} {d : Nat} {s : mSt} {G : gSt}
theorem S_Rs_watch {post : Int32 → mSt → Prop} {ex : Nat → mSt → Prop} {a1 : Int32} (h : RC_lg G s) (hk : s.1 0 0 0 = nI G.1) (hK : g_okK G) (e2 : (∀ t, t ≤ (g_lg G).length → ¬ a1 = nI t) → ex 2 s) (e3 : ∀ t, t ≤ (g_lg G).length → a1 = nI t → t + G.1 ≤ (g_lg G).length → ex 3 s)
    (hy : ∀ t, t ≤ (g_lg G).length → a1 = nI t → (g_lg G).length < t + G.1 → post (nI ((g_ev 0 (g_lg G)).length - g_ec G t)) s) : X_Rs_watch scr (d + 3) s a1 ex post := by
  refine w_Rs_watch (S_refuse h hk hK (fun hc => ⟨fun h => absurd h (by decide), fun _ => e2 (hc.resolve_left (by decide)), fun h => absurd h (by decide)⟩) (fun t _ ht e h9 => ⟨fun h => absurd h (by decide), fun h => absurd h (by decide), fun _ => e3 t ht e h9⟩) (fun t _ ht e h9 => ?_))
  rw [e]
  exact S_changesSince h ht (hy t ht e h9)
theorem S_Md_watch {post : Int32 → mSt → Prop} {a1 : Int32} (h : RM_lg G s) (hk : s.1 18 0 0 = nI G.1) (hK : g_okK G) (e1 : ∀ u, (∀ t, t ≤ (g_lg G).length → ¬ a1 = nI t) → u.1 18 0 1 = 1 → mx_fr F_mo s u → post 0 u) (e2 : ∀ u t, t ≤ (g_lg G).length → a1 = nI t → t + G.1 ≤ (g_lg G).length → u.1 18 0 1 = 2 → mx_fr F_mo s u → post 0 u)
    (hy : ∀ u t, t ≤ (g_lg G).length → a1 = nI t → (g_lg G).length < t + G.1 → u.1 18 0 1 = 0 → mx_fr F_mo s u → post (nI ((g_ev 0 (g_lg G)).length - g_ec G t)) u) : X_Md_watch scr (d + 3) s a1 post := by
  refine w_Md_watch (S_isFine h hk hK (fun u hc z f => ⟨fun _ => e1 u (hc.resolve_left (by decide)) z f, fun h => absurd rfl h⟩) (fun u t _ ht e h9 z f => ⟨fun _ => e2 u t ht e h9 z f, fun h => absurd rfl h⟩) (fun u t _ ht e h9 z f => ⟨fun h => absurd h (by decide), fun _ => ?_⟩))
  have hu : RM_lg G u := RM_lg_fr h f (fun h => by cases h.2) (fun h => by cases h.2) (fun h => by cases h.2) (fun j h => by cases h.1) (fun j h => by cases h.1)
  rw [e]
  refine S_since hu ht ?_
  rw [hu.2.1, pk_sub g_ec_le]
  exact hy u t ht e h9 z f
end
theorem g_sm : ∀ q, q < 6 → (((nI (4 * q)) &&& (31 : Int32)).toBitVec.smod 32).toNat = 4 * q := by decide +kernel
theorem g_a15 (n : Nat) : nI n &&& (15 : Int32) = nI (n % 16) := by
  have h : nI n &&& nI 15 = nI (n &&& 15) := Int32.toBitVec_inj.mp (by
    rw [Int32.toBitVec_and]
    show BitVec.ofNat 32 n &&& BitVec.ofNat 32 15 = BitVec.ofNat 32 (n &&& 15)
    rw [BitVec.ofNat_and])
  rw [show (15 : Int32) = nI 15 from rfl, h, show n &&& 15 = n % 16 from Nat.and_two_pow_sub_one_eq_mod n 4]
theorem g_fld {c : gCh} {q : Nat} (hc : g_okC c) (hq : q < 6) : g_pn c / 2 ^ (4 * q) % 16 = g_fd c q := by
  obtain ⟨h1, h2, h3, h4, h5, h6⟩ := hc
  unfold g_pn
  rcases (show q = 0 ∨ q = 1 ∨ q = 2 ∨ q = 3 ∨ q = 4 ∨ q = 5 by omega) with rfl | rfl | rfl | rfl | rfl | rfl
  · show _ / 1 % 16 = c.1
    omega
  · show _ / 16 % 16 = c.2.1
    omega
  · show _ / 256 % 16 = c.2.2.1
    omega
  · show _ / 4096 % 16 = c.2.2.2.1
    omega
  · show _ / 65536 % 16 = c.2.2.2.2.1
    omega
  · show _ / 1048576 % 16 = c.2.2.2.2.2
    omega
theorem S_field {scr : mSc} {d : Nat} {s : mSt} {post : Int32 → mSt → Prop} {c : gCh} {q : Nat} (hc : g_okC c) (hq : q < 6) (h : post (nI (g_fd c q)) s) : X_Rs_field scr (d + 1) s (g_pk c) (nI q) post := by
  refine w_Rs_field ?_
  have hn := g_pn_lt hc
  rw [show (4 : Int32) * nI q = nI (4 * q) from pk_mul 4 q]
  unfold g_pk
  rw [pk_shrN (by omega) (nI (4 * q) &&& 31) (4 * q) (g_sm q hq), g_a15, g_fld hc hq]
  exact h
