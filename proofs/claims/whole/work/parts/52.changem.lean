def F_mb (f _ j : Nat) : Prop := (f = 18 ∧ (j = 1 ∨ j = 19)) ∨ f = 31
section
variable {scr : mSc} {d : Nat} {s t : mSt} {G : gSt}
theorem RM_cf_fr {P : Nat → Nat → Nat → Prop} (h : RM_cf G s) (hf : mx_fr P s t) (h2 : ¬ P 18 0 2) (h3 : ¬ P 18 0 3) (h4 : ∀ f j, 19 ≤ f → f ≤ 24 → ¬ P f 0 j) : RM_cf G t := by
  obtain ⟨hk, hc, ha, hr⟩ := h
  refine ⟨hk, (hf.1 _ _ _ h2).trans hc, (hf.1 _ _ _ h3).trans ha, fun i r hi => ?_⟩
  obtain ⟨q0, q1, q2, q3, q4, q5⟩ := hr i r hi
  exact ⟨(hf.1 _ _ _ (h4 _ _ (by omega) (by omega))).trans q0, (hf.1 _ _ _ (h4 _ _ (by omega) (by omega))).trans q1, (hf.1 _ _ _ (h4 _ _ (by omega) (by omega))).trans q2, (hf.1 _ _ _ (h4 _ _ (by omega) (by omega))).trans q3, (hf.1 _ _ _ (h4 _ _ (by omega) (by omega))).trans q4, fun j c h => (hf.1 _ _ _ (h4 _ _ (by omega) (by omega))).trans (q5 j c h)⟩
set_option maxHeartbeats 4000000 in
theorem S_Md_change {post : Int32 → mSt → Prop} {a1 a2 a3 a4 a5 a6 : Int32} {cm : Nat} (h1 : a1 = nI cm) (hcm : cm < 2) (h : RM_cf G s) (hb : RM_bt G s) (hno : ∀ t, g_ac G = false → t.1 18 0 1 = 1 → mx_fr F_mb s t → RM_bt G t → post 0 t)
    (hbad : ∀ t, g_ac G = true → (∀ c, ¬ g_chg G a2 a3 a4 a5 a6 c) → t.1 18 0 1 = 2 → mx_fr F_mb s t → RM_bt G t → post 0 t)
    (hfull : ∀ c t, g_ac G = true → c.1 = cm → g_chg G a2 a3 a4 a5 a6 c → 5 ≤ (g_bt G).length → t.1 18 0 1 = 3 → mx_fr F_mb s t → RM_bt G t → post 0 t)
    (hy : ∀ c t, g_ac G = true → c.1 = cm → g_chg G a2 a3 a4 a5 a6 c → (g_bt G).length < 5 → RM_bt (g_wB G (g_bt G ++ [c])) t → t.1 18 0 1 = 0 → mx_fr F_mb s t → post (nI ((g_bt G).length + 1)) t) : X_Md_change scr (d + 4) s a1 a2 a3 a4 a5 a6 post := by
  have code : ∀ (s t : mSt) (v : Int32), t = mx_si s 18 0 1 v → RM_bt G s → RM_bt G t ∧ t.1 18 0 1 = v ∧ mx_fr F_mb s t := fun s t v e hb => by
    have f : mx_fr (fun f _ j => f = 18 ∧ j = 1) s t := by
      rw [e]
      exact mx_fr.si ⟨rfl, rfl⟩
    exact ⟨RM_bt_fr hb f (by omega) (fun j => by omega), by rw [e]; exact mx_si_s, f.mono (fun f i j h => Or.inl ⟨h.1, Or.inl h.2⟩)⟩
  refine w_Md_change (fun s1 e1 => ?_)
  obtain ⟨hb1, z1, f1⟩ := code s s1 0 e1 hb
  have hc1 : RM_cf G s1 := by
    rw [e1]
    exact RM_code h
  have hl := h.1.1
  refine g_ac0 hc1.2.2.1 (fun hac s2 e2 => ?_) (fun hac => S_MisTuple hc1 (fun h9 => ⟨fun _ s2 e2 => ?_, fun h => absurd rfl h⟩) (fun o r rl st a s' hnd hls => ⟨fun h => absurd h (by decide), fun _ => ?_⟩))
  · obtain ⟨hb2, z2, f2⟩ := code s1 s2 1 e2 hb1
    rw [z2]
    exact ⟨fun h => absurd h (by decide), fun _ => hno s2 hac z2 (f1.tr f2) hb2⟩
  · obtain ⟨hb2, z2, f2⟩ := code s1 s2 2 e2 hb1
    rw [z2]
    exact ⟨fun h => absurd h (by decide), fun _ => hbad s2 hac (fun c hc => by
      obtain ⟨-, rl, g1, g2⟩ := hc
      exact h9 _ _ rl _ _ _ ⟨g1, g2⟩) z2 (f1.tr f2) hb2⟩
  have hch : g_chg G a2 a3 a4 a5 a6 (cm, o, r, st, a, s') := ⟨hcm, rl, hnd, hls⟩
  have hok := g_chg_ok hl hch
  have hb5 := hb.1.1
  refine pk_eq (g_bt G).length 5 (fun h5 s2 e2 => ?_) (fun h5 s4 e4 => ?_) hb1.2.1 rfl
  · obtain ⟨hb2, z2, f2⟩ := code s1 s2 3 e2 hb1
    rw [z2]
    exact ⟨fun h => absurd h (by decide), fun _ => hfull _ s2 hac rfl hch (by omega) z2 (f1.tr f2) hb2⟩
  obtain ⟨hb4, z4, f4⟩ := code s1 s4 0 e4 hb1
  have h5 : (g_bt G).length < 5 := by omega
  rw [z4]
  refine ⟨fun _ => ?_, fun h => absurd (by decide) h⟩
  have k0 : (6 : Int32) * s4.1 18 0 19 = nI (6 * (g_bt G).length) := by
    rw [hb4.2.1]
    exact pk_mul 6 _
  have fin : ∀ x0 x5 : Int32, x0 = nI cm → x5 = nI s' → a4 = nI st → a5 = nI a → ∀ t0, t0 = mx_si s4 31 0 (6 * (g_bt G).length) x0 → ∀ t1, t1 = mx_si t0 31 0 (6 * (g_bt G).length + 1) a2 → ∀ t2, t2 = mx_si t1 31 0 (6 * (g_bt G).length + 2) a3 → ∀ t3, t3 = mx_si t2 31 0 (6 * (g_bt G).length + 3) a4 → ∀ t4, t4 = mx_si t3 31 0 (6 * (g_bt G).length + 4) a5 → ∀ t5, t5 = mx_si t4 31 0 (6 * (g_bt G).length + 5) x5 → ∀ t6, t6 = mx_si t5 18 0 19 ((t5.1 18 0 19) + (1 : Int32)) → post (t6.1 18 0 19) t6 := by
    intro x0 x5 g0 g5 g3 g4 t0 i0 t1 i1 t2 i2 t3 i3 t4 i4 t5 i5 t6 i6
    have v5 : ∀ f i j, t5.1 f i j = if f = 31 ∧ i = 0 ∧ j = 6 * (g_bt G).length + 5 then x5 else if f = 31 ∧ i = 0 ∧ j = 6 * (g_bt G).length + 4 then a5 else if f = 31 ∧ i = 0 ∧ j = 6 * (g_bt G).length + 3 then a4 else if f = 31 ∧ i = 0 ∧ j = 6 * (g_bt G).length + 2 then a3 else if f = 31 ∧ i = 0 ∧ j = 6 * (g_bt G).length + 1 then a2 else if f = 31 ∧ i = 0 ∧ j = 6 * (g_bt G).length then x0 else s4.1 f i j := fun f i j => by
      rw [i5, i4, i3, i2, i1, i0]
      rfl
    have c5 : t5.1 18 0 19 = nI (g_bt G).length := by
      rw [v5, if_neg (by omega), if_neg (by omega), if_neg (by omega), if_neg (by omega), if_neg (by omega), if_neg (by omega)]
      exact hb4.2.1
    have c6 : t6.1 18 0 19 = nI ((g_bt G).length + 1) := by
      rw [i6, c5]
      exact mx_si_s.trans (nI_1 _)
    have c31 : ∀ j, t6.1 31 0 j = t5.1 31 0 j := fun j => by rw [i6, mx_si_n (by omega)]
    rw [c6]
    refine hy _ t6 hac rfl hch h5 ⟨⟨?_, fun c' hc' => ?_⟩, ?_, fun i c' hi q hq => ?_⟩ ?_ ?_
    · show (g_bt G ++ [_]).length ≤ 5
      rw [g_len1]
      omega
    · rcases List.mem_append.mp (show c' ∈ g_bt G ++ [_] from hc') with h | h
      · exact hb.1.2 c' h
      · obtain rfl := List.mem_singleton.mp h
        exact hok
    · show _ = nI (g_bt G ++ [_]).length
      rw [g_len1]
      exact c6
    · rw [c31]
      rcases g_app_get (show (g_bt G ++ [_])[i]? = some c' from hi) with ⟨hi, hic⟩ | ⟨rfl, rfl⟩
      · rw [v5, if_neg (by omega), if_neg (by omega), if_neg (by omega), if_neg (by omega), if_neg (by omega), if_neg (by omega)]
        exact hb4.2.2 i c' hic q hq
      · rcases (show q = 0 ∨ q = 1 ∨ q = 2 ∨ q = 3 ∨ q = 4 ∨ q = 5 by omega) with rfl | rfl | rfl | rfl | rfl | rfl
        · rw [v5, if_neg (by omega), if_neg (by omega), if_neg (by omega), if_neg (by omega), if_neg (by omega), if_pos ⟨rfl, rfl, rfl⟩]
          exact g0
        · rw [v5, if_neg (by omega), if_neg (by omega), if_neg (by omega), if_neg (by omega), if_pos ⟨rfl, rfl, rfl⟩]
          exact hnd.2.1
        · rw [v5, if_neg (by omega), if_neg (by omega), if_neg (by omega), if_pos ⟨rfl, rfl, rfl⟩]
          exact hnd.2.2.2.1
        · rw [v5, if_neg (by omega), if_neg (by omega), if_pos ⟨rfl, rfl, rfl⟩]
          exact g3
        · rw [v5, if_neg (by omega), if_pos ⟨rfl, rfl, rfl⟩]
          exact g4
        · rw [v5, if_pos ⟨rfl, rfl, rfl⟩]
          exact g5
    · rw [i6, mx_si_n (by omega), v5, if_neg (by omega), if_neg (by omega), if_neg (by omega), if_neg (by omega), if_neg (by omega), if_neg (by omega)]
      exact z4
    · refine f1.tr (f4.tr ?_)
      rw [i6, i5, i4, i3, i2, i1, i0]
      exact mx_fr.tr (mx_fr.tr (mx_fr.tr (mx_fr.tr (mx_fr.tr (mx_fr.tr (mx_fr.si (Or.inr rfl)) (mx_fr.si (Or.inr rfl))) (mx_fr.si (Or.inr rfl))) (mx_fr.si (Or.inr rfl))) (mx_fr.si (Or.inr rfl))) (mx_fr.si (Or.inr rfl))) (mx_fr.si (Or.inl ⟨rfl, Or.inr rfl⟩))
  have hst : a4 = nI st ∧ a5 = nI a ∧ (a4 = (2 : Int32) → a6 = nI s') ∧ (¬ a4 = (2 : Int32) → (0 : Int32) = nI s') := by
    rcases hls with ⟨e1, e2, -, e3, e4, e5⟩ | ⟨e1, e2, e3, e4, -, e5⟩ | ⟨e1, e2, ⟨rl2, e3⟩, -⟩
    · exact ⟨by rw [e2]; exact e1, e4, fun h9 => absurd (e1.symm.trans h9) g_d02, fun _ => by rw [e5]; rfl⟩
    · exact ⟨by rw [e2]; exact e1, e4, fun h9 => absurd (e1.symm.trans h9) g_d12, fun _ => by rw [e5]; rfl⟩
    · exact ⟨by rw [e2]; exact e1, e3.2.1, fun _ => e3.2.2.2.1, fun h9 => absurd e1 h9⟩
  rw [k0, show nI (6 * (g_bt G).length) + (1 : Int32) = nI (6 * (g_bt G).length + 1) from nI_add _ 1, show nI (6 * (g_bt G).length) + (2 : Int32) = nI (6 * (g_bt G).length + 2) from nI_add _ 2, show nI (6 * (g_bt G).length) + (3 : Int32) = nI (6 * (g_bt G).length + 3) from nI_add _ 3, show nI (6 * (g_bt G).length) + (4 : Int32) = nI (6 * (g_bt G).length + 4) from nI_add _ 4, show nI (6 * (g_bt G).length) + (5 : Int32) = nI (6 * (g_bt G).length + 5) from nI_add _ 5,
    pk_cl (6 * (g_bt G).length), pk_cl (6 * (g_bt G).length + 1), pk_cl (6 * (g_bt G).length + 2), pk_cl (6 * (g_bt G).length + 3), pk_cl (6 * (g_bt G).length + 4), pk_cl (6 * (g_bt G).length + 5)]
  have all : ∀ x0 : Int32, x0 = nI cm → (vp_in (nI (6 * (g_bt G).length)) 30 ∧ ∀ t0, t0 = mx_si s4 31 0 (6 * (g_bt G).length) x0 → (vp_in (nI (6 * (g_bt G).length + 1)) 30 ∧ ∀ t1, t1 = mx_si t0 31 0 (6 * (g_bt G).length + 1) a2 → (vp_in (nI (6 * (g_bt G).length + 2)) 30 ∧ ∀ t2, t2 = mx_si t1 31 0 (6 * (g_bt G).length + 2) a3 → (vp_in (nI (6 * (g_bt G).length + 3)) 30 ∧ ∀ t3, t3 = mx_si t2 31 0 (6 * (g_bt G).length + 3) a4 → (vp_in (nI (6 * (g_bt G).length + 4)) 30 ∧ ∀ t4, t4 = mx_si t3 31 0 (6 * (g_bt G).length + 4) a5 → ((a4 = (2 : Int32) → (vp_in (nI (6 * (g_bt G).length + 5)) 30 ∧ ∀ t5, t5 = mx_si t4 31 0 (6 * (g_bt G).length + 5) a6 → (∀ t6, t6 = mx_si t5 18 0 19 ((t5.1 18 0 19) + (1 : Int32)) → post (t6.1 18 0 19) t6))) ∧ (¬ a4 = (2 : Int32) → (vp_in (nI (6 * (g_bt G).length + 5)) 30 ∧ ∀ t5, t5 = mx_si t4 31 0 (6 * (g_bt G).length + 5) (0 : Int32) → (∀ t6, t6 = mx_si t5 18 0 19 ((t5.1 18 0 19) + (1 : Int32)) → post (t6.1 18 0 19) t6))))))))) := fun x0 g0 => ⟨pk_in (6 * (g_bt G).length) 30 (by omega), fun t0 i0 => ⟨pk_in (6 * (g_bt G).length + 1) 30 (by omega), fun t1 i1 => ⟨pk_in (6 * (g_bt G).length + 2) 30 (by omega), fun t2 i2 => ⟨pk_in (6 * (g_bt G).length + 3) 30 (by omega), fun t3 i3 => ⟨pk_in (6 * (g_bt G).length + 4) 30 (by omega), fun t4 i4 => ⟨fun h4 => ⟨pk_in (6 * (g_bt G).length + 5) 30 (by omega), fun t5 i5 t6 i6 => fin x0 a6 g0 (hst.2.2.1 h4) hst.1 hst.2.1 t0 i0 t1 i1 t2 i2 t3 i3 t4 i4 t5 i5 t6 i6⟩, fun h4 => ⟨pk_in (6 * (g_bt G).length + 5) 30 (by omega), fun t5 i5 t6 i6 => fin x0 0 g0 (hst.2.2.2 h4) hst.1 hst.2.1 t0 i0 t1 i1 t2 i2 t3 i3 t4 i4 t5 i5 t6 i6⟩⟩⟩⟩⟩⟩⟩
  exact pk_eq cm 0 (fun e => all 0 (by rw [e]; rfl)) (fun e => all 1 (by rw [show cm = 1 by omega]; rfl)) h1 rfl
end
