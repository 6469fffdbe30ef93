def F_ch (f _ j : Nat) : Prop := (f = 0 ∧ j = 3) ∨ f = 10
def g_chg (G : gSt) (a2 a3 a4 a5 a6 : Int32) (c : gCh) : Prop := c.1 < 2 ∧ ∃ rl, g_node G a2 a3 c.2.1 c.2.2.1 rl ∧ g_lst G rl a4 a5 a6 c.2.2.2.1 c.2.2.2.2.1 c.2.2.2.2.2
section
variable {scr : mSc} {d : Nat} {s : mSt} {G : gSt} {rl : gRl}
theorem g_chg_ok {a2 a3 a4 a5 a6 : Int32} {c : gCh} (hl : (g_rs G).length ≤ 9) (h : g_chg G a2 a3 a4 a5 a6 c) : g_okC c := by
  obtain ⟨h0, rl, h1, h2⟩ := h
  have hr := g_len_get h1.2.2.1
  rcases h2 with ⟨-, e1, -, e2, -, e3⟩ | ⟨-, e1, e2, -, -, e3⟩ | ⟨-, e1, ⟨rl2, e2⟩, -⟩
  · exact ⟨h0, h1.1, by omega, by omega, by omega, by omega⟩
  · exact ⟨h0, h1.1, by omega, by omega, by omega, by omega⟩
  · have := g_len_get e2.2.2.1
    exact ⟨h0, h1.1, by omega, by omega, e2.1, by omega⟩
theorem S_MisTuple {post : Int32 → mSt → Prop} {a1 a2 a3 a4 a5 : Int32} (h : RM_cf G s) (hn : (∀ o r rl st a s', ¬ (g_node G a1 a2 o r rl ∧ g_lst G rl a3 a4 a5 st a s')) → post 0 s) (hy : ∀ o r rl st a s', g_node G a1 a2 o r rl → g_lst G rl a3 a4 a5 st a s' → post 1 s) : X_Md_isTuple scr (d + 3) s a1 a2 a3 a4 a5 post := by
  have hl := h.1.1
  refine w_Md_isTuple (S_isOf h (fun h1 => ⟨fun _ => ⟨rfl, hn (fun o r rl st a s' h9 => h1 o r rl h9.1)⟩, fun h => absurd rfl h⟩) (fun o r rl hnd => ⟨fun h => absurd h (by decide), fun _ => ?_⟩))
  have hr := g_len_get hnd.2.2.1
  have e2 := hnd.2.2.2.1
  obtain ⟨q0, q1, q2, q3, q4, q5⟩ := h.2.2.2 r rl hnd.2.2.1
  have hn : (∀ st a s', ¬ g_lst G rl a3 a4 a5 st a s') → post 0 s := fun h1 => hn (fun o' r' rl' st a s' h9 => by
    rw [← (g_node_u hl hnd h9.1).2.2] at h9
    exact h1 st a s' h9.2)
  have hy := fun st a s' => hy o r rl st a s' hnd
  have hin : vp_in a2 9 := pk_in r 9 (by omega) e2
  rw [pk_cl r e2]
  refine ⟨fun hneg => ⟨rfl, hn (fun st a s' h9 => ?_)⟩, fun hpos => ⟨fun h2 => ⟨fun e0 => ?_, fun n0 => ⟨fun e1 => ?_, fun n1 => ?_⟩⟩, fun h2 => ⟨rfl, hn (fun st a s' h9 => ?_)⟩⟩⟩
  · rcases h9 with ⟨e1, -⟩ | ⟨e1, -⟩ | ⟨e1, -⟩ <;> rw [e1] at hneg <;> exact absurd hneg (by decide)
  · have e0 : a3 = nI 0 := e0
    refine g_rng (n := 8) rfl (by omega) (fun h1 => ⟨rfl, hn (g_lst0 e0 (fun a ha e => absurd e (h1 a ha)))⟩) (fun j hj e => ⟨hin, ?_⟩)
    rw [q1]
    exact ⟨fun hu => ⟨rfl, hn (g_lst0 e0 (fun _ _ _ => hu))⟩, fun hu => ⟨rfl, hy 0 j 0 (Or.inl ⟨e0, rfl, hu, hj, e, rfl⟩)⟩⟩
  · have e1 : a3 = nI 1 := e1
    refine g_rng (n := 12) rfl (by omega) (fun h1 => ⟨rfl, hn (g_lst1 e1 (fun a ha e => absurd e (h1 a ha)))⟩) (fun j hj e => ⟨hin, by decide, ?_⟩)
    subst e
    rw [q2, g_div4 hj]
    exact g_bit1 (fun hb => ⟨rfl, hy 1 j 0 (Or.inr (Or.inl ⟨e1, rfl, hj, rfl, hb, rfl⟩))⟩) (fun hb => ⟨rfl, hn (g_lst1 e1 (fun a ha e => by obtain rfl := g_eqI (by omega) (by omega) e; exact hb))⟩)
  · have e2' : a3 = nI 2 := by
      obtain ⟨j, hj, rfl⟩ := nI_of hpos
      have hj2 : j ≤ 2 := Nat.le_of_not_lt fun h9 => nI_ge (a := 2) (b := j) h9 hj h2
      rcases (show j = 0 ∨ j = 1 ∨ j = 2 by omega) with rfl | rfl | rfl
      · exact absurd rfl n0
      · exact absurd rfl n1
      · rfl
    refine S_isOf h (fun h1 => ⟨fun _ => ⟨rfl, hn (g_lst2 e2' (fun a s' rl2 h9 => absurd h9 (h1 a s' rl2)))⟩, fun h => absurd rfl h⟩) (fun o2 r2 rl2 hnd2 => ⟨fun h => absurd h (by decide), fun _ => ⟨hin, ?_⟩⟩)
    rw [q3, hnd2.2.2.2.1]
    exact g_bit1 (fun hb => ⟨rfl, hy 2 o2 r2 (Or.inr (Or.inr ⟨e2', rfl, ⟨rl2, hnd2⟩, hb⟩))⟩) (fun hb => ⟨rfl, hn (g_lst2 e2' (fun a s' rl3 h9 => by rw [← (g_node_u hl hnd2 h9).2.1]; exact hb))⟩)
  · rcases h9 with ⟨e1, -⟩ | ⟨e1, -⟩ | ⟨e1, -⟩ <;> rw [e1] at h2 <;> exact absurd (by decide) h2
theorem RC_bt_add {t : mSt} {c : gCh} (hb : RC_bt G s) (h5 : (g_bt G).length < 5) (hc : g_okC c) (h0 : t.1 0 0 3 = nI ((g_bt G).length + 1)) (h1 : ∀ i, i < (g_bt G).length → t.1 10 0 i = s.1 10 0 i) (h2 : t.1 10 0 (g_bt G).length = g_pk c) : RC_bt (g_wB G (g_bt G ++ [c])) t := by
  refine ⟨⟨?_, fun c' hc' => ?_⟩, ?_, fun i c' hi => ?_⟩
  · show (g_bt G ++ [c]).length ≤ 5
    rw [g_len1]
    omega
  · rcases List.mem_append.mp (show c' ∈ g_bt G ++ [c] from hc') with h | h
    · exact hb.1.2 c' h
    · obtain rfl := List.mem_singleton.mp h
      exact hc
  · show _ = nI (g_bt G ++ [c]).length
    rw [g_len1]
    exact h0
  · rcases g_app_get (show (g_bt G ++ [c])[i]? = some c' from hi) with ⟨hi, hic⟩ | ⟨rfl, rfl⟩
    · rw [h1 i hi]
      exact hb.2.2 i c' hic
    · exact h2
set_option maxHeartbeats 4000000 in
theorem S_Rs_change {post : Int32 → mSt → Prop} {ex : Nat → mSt → Prop} {a1 a2 a3 a4 a5 a6 : Int32} {cm : Nat} (h1 : a1 = nI cm) (hcm : cm < 2) (h : RC_cf G s) (hb : RC_bt G s) (hno : g_ac G = false → ex 1 s) (hbad : g_ac G = true → (∀ c, ¬ g_chg G a2 a3 a4 a5 a6 c) → ex 2 s)
    (hfull : ∀ c, g_ac G = true → c.1 = cm → g_chg G a2 a3 a4 a5 a6 c → 5 ≤ (g_bt G).length → ex 3 s)
    (hy : ∀ c t, g_ac G = true → c.1 = cm → g_chg G a2 a3 a4 a5 a6 c → (g_bt G).length < 5 → RC_bt (g_wB G (g_bt G ++ [c])) t → mx_fr F_ch s t → post (nI ((g_bt G).length + 1)) t) : X_Rs_change scr (d + 5) s a1 a2 a3 a4 a5 a6 ex post := by
  have hl := h.1.1
  have hb5 := hb.1.1
  have hbc := hb.2.1
  refine w_Rs_change (g_ac0 h.2.2.1 hno (fun hac => S_isTuple h (fun h9 => ⟨fun _ => hbad hac (fun c hc => ?_), fun h => absurd rfl h⟩) (fun o r rl st a s' hnd hls => ⟨fun h => absurd h (by decide), fun _ => ?_⟩)))
  · obtain ⟨-, rl, g1, g2⟩ := hc
    exact h9 _ _ rl _ _ _ ⟨g1, g2⟩
  have hch : g_chg G a2 a3 a4 a5 a6 (cm, o, r, st, a, s') := ⟨hcm, rl, hnd, hls⟩
  have hok := g_chg_ok hl hch
  refine pk_lt (g_bt G).length 5 (fun h5 => ?_) (fun h5 => hfull (cm, o, r, st, a, s') hac rfl hch h5) hbc rfl
  have fin : ∀ s9, s9 = mx_si s 10 0 ((s.1 0 0 3)).toNatClampNeg (g_pk (cm, o, r, st, a, s')) → ∀ s10, s10 = mx_si s9 0 0 3 ((s9.1 0 0 3) + (1 : Int32)) → post (s10.1 0 0 3) s10 := by
    intro s9 e9 s10 e10
    rw [pk_cl (g_bt G).length hbc] at e9
    have c9 : s9.1 0 0 3 = nI (g_bt G).length := by
      rw [e9, mx_si_n (by omega)]
      exact hbc
    have c10 : s10.1 0 0 3 = nI ((g_bt G).length + 1) := by
      rw [e10, c9]
      exact mx_si_s.trans (nI_1 _)
    rw [c10]
    refine hy _ s10 hac rfl hch h5 (RC_bt_add hb h5 hok c10 (fun i hi => ?_) ?_) ?_
    · rw [e10, mx_si_n (by omega), e9, mx_si_n (by omega)]
    · rw [e10, mx_si_n (by omega), e9, mx_si_s]
    · rw [e10, e9]
      exact mx_fr.tr (mx_fr.si (Or.inr rfl)) (mx_fr.si (Or.inl ⟨rfl, rfl⟩))
  have hin : vp_in (s.1 0 0 3) 5 := pk_in (g_bt G).length 5 h5 hbc
  have hpk : ∀ x6 : Int32, x6 = nI s' → a4 = nI st → a5 = nI a → X_Rs_packed scr (d + 4) s a1 a2 a3 a4 a5 x6 (fun r8 s7 => (vp_in (s.1 0 0 3) 5 ∧ ∀ s9, s9 = mx_si s7 10 0 ((s.1 0 0 3)).toNatClampNeg r8 → (∀ s10, s10 = mx_si s9 0 0 3 ((s9.1 0 0 3) + (1 : Int32)) → post (s10.1 0 0 3) s10))) := by
    intro x6 g6 g4 g5
    rw [g6, g4, g5, hnd.2.1, hnd.2.2.2.1]
    exact S_packed (c := (cm, o, r, st, a, s')) hok h1 ⟨hin, fin⟩
  rcases hls with ⟨e1, e2, -, e3, e4, e5⟩ | ⟨e1, e2, e3, e4, -, e5⟩ | ⟨e1, e2, ⟨rl2, e3⟩, -⟩
  · refine ⟨fun h9 => absurd (e1.symm.trans h9) g_d02, fun _ => hpk 0 (by rw [e5]; rfl) (by rw [e2]; exact e1) e4⟩
  · refine ⟨fun h9 => absurd (e1.symm.trans h9) g_d12, fun _ => hpk 0 (by rw [e5]; rfl) (by rw [e2]; exact e1) e4⟩
  · refine ⟨fun _ => hpk a6 e3.2.2.2.1 (by rw [e2]; exact e1) e3.2.1, fun h9 => absurd e1 h9⟩
end
