def g_lst (G : gSt) (rl : gRl) (a3 a4 a5 : Int32) (st a s' : Nat) : Prop :=
  (a3 = nI 0 ∧ st = 0 ∧ ¬ rl.2.1 = 0 ∧ a < 8 ∧ a4 = nI a ∧ s' = 0) ∨ (a3 = nI 1 ∧ st = 1 ∧ a < 12 ∧ a4 = nI a ∧ g_bit rl.2.2.1 (a / 4) ∧ s' = 0) ∨ (a3 = nI 2 ∧ st = 2 ∧ (∃ rl2, g_node G a4 a5 a s' rl2) ∧ g_bit rl.2.2.2.1 s')
theorem g_d01 : ¬ nI 0 = nI 1 := by decide
theorem g_d02 : ¬ nI 0 = nI 2 := by decide
theorem g_d12 : ¬ nI 1 = nI 2 := by decide
section
variable {scr : mSc} {d : Nat} {s : mSt} {G : gSt} {rl : gRl} {a3 a4 a5 : Int32}
theorem g_lst0 (e : a3 = nI 0) (h : ∀ a, a < 8 → a4 = nI a → rl.2.1 = 0) : ∀ st a s', ¬ g_lst G rl a3 a4 a5 st a s' := fun st a s' h9 => by
  rcases h9 with ⟨-, -, h1, h2, h3, -⟩ | ⟨e1, -⟩ | ⟨e1, -⟩
  · exact h1 (h a h2 h3)
  · exact g_d01 (e.symm.trans e1)
  · exact g_d02 (e.symm.trans e1)
theorem g_lst1 (e : a3 = nI 1) (h : ∀ a, a < 12 → a4 = nI a → ¬ g_bit rl.2.2.1 (a / 4)) : ∀ st a s', ¬ g_lst G rl a3 a4 a5 st a s' := fun st a s' h9 => by
  rcases h9 with ⟨e1, -⟩ | ⟨-, -, h2, h3, h4, -⟩ | ⟨e1, -⟩
  · exact g_d01 (e1.symm.trans e)
  · exact h a h2 h3 h4
  · exact g_d12 (e.symm.trans e1)
theorem g_lst2 (e : a3 = nI 2) (h : ∀ a s' rl2, g_node G a4 a5 a s' rl2 → ¬ g_bit rl.2.2.2.1 s') : ∀ st a s', ¬ g_lst G rl a3 a4 a5 st a s' := fun st a s' h9 => by
  rcases h9 with ⟨e1, -⟩ | ⟨e1, -⟩ | ⟨-, -, ⟨rl2, h2⟩, h3⟩
  · exact g_d02 (e1.symm.trans e)
  · exact g_d12 (e1.symm.trans e)
  · exact h a s' rl2 h2 h3
theorem g_node_u {a1 a2 : Int32} {o r o' r' : Nat} {rl rl' : gRl} (hl : (g_rs G).length ≤ 9) (h : g_node G a1 a2 o r rl) (h' : g_node G a1 a2 o' r' rl') : o = o' ∧ r = r' ∧ rl = rl' := by
  obtain ⟨h1, h2, h3, h4, h5⟩ := h
  obtain ⟨g1, g2, g3, g4, g5⟩ := h'
  have hr := g_len_get h3
  have hr' := g_len_get g3
  obtain rfl := (nI_eq (by omega) (by omega)).mp (h2.symm.trans g2)
  obtain rfl := (nI_eq (by omega) (by omega)).mp (h4.symm.trans g4)
  rw [h3] at g3
  cases g3
  exact ⟨rfl, rfl, rfl⟩
theorem g_eqI {a b : Nat} (ha : a < 2 ^ 30) (hb : b < 2 ^ 30) (h : nI a = nI b) : a = b := (nI_eq (by omega) (by omega)).mp h
theorem S_isListed {post : Int32 → mSt → Prop} {i1 : Nat} (h : RC_cf G s) (hrl : (g_rs G)[i1]? = some rl) (hn : (∀ st a s', ¬ g_lst G rl a3 a4 a5 st a s') → post 0 s) (hy : ∀ st a s', g_lst G rl a3 a4 a5 st a s' → post 1 s) : X_Cf_isListed scr (d + 3) s i1 a3 a4 a5 post := by
  have hl := h.1.1
  obtain ⟨q0, q1, q2, q3, q5, q6⟩ := h.2.2.2.1 i1 rl hrl
  refine w_Cf_isListed ⟨fun e0 => ?_, fun n0 => ⟨fun e1 => ?_, fun n1 => ⟨fun e2 => ?_, fun n2 => ⟨rfl, hn (fun st a s' h9 => ?_)⟩⟩⟩⟩
  · rw [q1]
    refine ⟨fun hu => ⟨rfl, hn (g_lst0 e0 (fun _ _ _ => hu))⟩, fun hu => S_isUser (fun h1 => ⟨fun _ => ⟨rfl, hn (g_lst0 e0 (fun a ha e => absurd e (h1 a ha)))⟩, fun h => absurd rfl h⟩) (fun j hj e => ⟨fun h => absurd h (by decide), fun _ => ⟨rfl, hy 0 j 0 (Or.inl ⟨e0, rfl, hu, hj, e, rfl⟩)⟩⟩)⟩
  · refine S_isObject (fun h1 => ⟨fun _ => ⟨rfl, hn (g_lst1 e1 (fun a ha e => absurd e (h1 a ha)))⟩, fun h => absurd rfl h⟩) (fun j hj e => ⟨fun h => absurd h (by decide), fun _ => ⟨by decide, ?_⟩⟩)
    subst e
    rw [q2, g_div4 hj]
    exact S_hasBit (fun hb => ⟨fun _ => ⟨rfl, hn (g_lst1 e1 (fun a ha e => by obtain rfl := g_eqI (by omega) (by omega) e; exact hb))⟩, fun h => absurd rfl h⟩) (fun hb => ⟨fun h => absurd h (by decide), fun _ => ⟨rfl, hy 1 j 0 (Or.inr (Or.inl ⟨e1, rfl, hj, rfl, hb, rfl⟩))⟩⟩)
  · refine S_isNode h (fun h1 => ⟨fun _ => ⟨rfl, hn (g_lst2 e2 (fun a s' rl2 h9 => absurd h9 (h1 a s' rl2)))⟩, fun h => absurd rfl h⟩) (fun o r rl2 hnd => ⟨fun h => absurd h (by decide), fun _ => ?_⟩)
    rw [q3, hnd.2.2.2.1]
    refine S_hasBit (fun hb => ⟨fun _ => ⟨rfl, hn (g_lst2 e2 (fun a s' rl3 h9 => by rw [← (g_node_u hl hnd h9).2.1]; exact hb))⟩, fun h => absurd rfl h⟩) (fun hb => ⟨fun h => absurd h (by decide), fun _ => ⟨rfl, hy 2 o r (Or.inr (Or.inr ⟨e2, rfl, ⟨rl2, hnd⟩, hb⟩))⟩⟩)
  · rcases h9 with ⟨e1, -⟩ | ⟨e1, -⟩ | ⟨e1, -⟩
    · exact n0 e1
    · exact n1 e1
    · exact n2 e1
theorem S_isTuple {post : Int32 → mSt → Prop} {a1 a2 : Int32} (h : RC_cf G s) (hn : (∀ o r rl st a s', ¬ (g_node G a1 a2 o r rl ∧ g_lst G rl a3 a4 a5 st a s')) → post 0 s) (hy : ∀ o r rl st a s', g_node G a1 a2 o r rl → g_lst G rl a3 a4 a5 st a s' → post 1 s) : X_Cf_isTuple scr (d + 4) s a1 a2 a3 a4 a5 post := by
  have hl := h.1.1
  refine w_Cf_isTuple (S_isNode h (fun h1 => ⟨fun _ => ⟨rfl, hn (fun o r rl st a s' h9 => h1 o r rl h9.1)⟩, fun h => absurd rfl h⟩) (fun o r rl hnd => ⟨fun h => absurd h (by decide), fun _ => ?_⟩))
  have hr := g_len_get hnd.2.2.1
  have e2 := hnd.2.2.2.1
  refine ⟨pk_in r 9 (by omega) e2, ?_⟩
  rw [pk_cl r e2]
  exact S_isListed h hnd.2.2.1 (fun h1 => ⟨fun _ => ⟨rfl, hn (fun o' r' rl' st a s' h9 => by
    rw [← (g_node_u hl hnd h9.1).2.2] at h9
    exact h1 st a s' h9.2)⟩, fun h => absurd rfl h⟩) (fun st a s' hls => ⟨fun h => absurd h (by decide), fun _ => ⟨rfl, hy o r rl st a s' hnd hls⟩⟩)
end
