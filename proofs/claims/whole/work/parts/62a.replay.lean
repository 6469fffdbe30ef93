def pc_s (A : Nat → Int64) : Nat → Nat
  | 0 => 0
  | k + 1 => pc_s A k + pc (A k)
theorem pc_s_eq {A B : Nat → Int64} : ∀ {k : Nat}, (∀ i, i < k → A i = B i) → pc_s A k = pc_s B k
  | 0, _ => rfl
  | k + 1, h => by
    show pc_s A k + pc (A k) = pc_s B k + pc (B k)
    rw [pc_s_eq (fun i hi => h i (by omega)), h k (by omega)]
theorem pc_s_1 {A B : Nat → Int64} {n : Nat} : ∀ {k : Nat}, n < k → (∀ i, ¬ i = n → A i = B i) → pc_s A k + pc (B n) = pc_s B k + pc (A n)
  | 0, h, _ => by omega
  | k + 1, h, h1 => by
    show pc_s A k + pc (A k) + pc (B n) = pc_s B k + pc (B k) + pc (A n)
    by_cases e : n = k
    · subst e
      rw [pc_s_eq (fun i hi => h1 i (by omega))]
      omega
    · have := pc_s_1 (A := A) (B := B) (n := n) (k := k) (by omega) h1
      rw [h1 k (by omega)]
      omega
def RC_tp (G : gSt) (A : Nat → Int64) (p : (gTp → Bool) × Nat) : Prop := (∀ u, g_wu G u → lb (A (g_nd u)) (g_sb u) = p.1 u) ∧ (∀ n b, n < 36 → lb (A n) b = true → ∃ u, g_wu G u ∧ g_nd u = n ∧ g_sb u = b) ∧ pc_s A 36 = p.2
section
variable {G : gSt} {A B : Nat → Int64} {p : (gTp → Bool) × Nat}
theorem RC_tp_0 (h : ∀ n, n < 36 → A n = 0) (hl : (g_rs G).length ≤ 9) : RC_tp G A (g_tn []) := by
  refine ⟨fun u hu => ?_, fun n b hn hb => ?_, ?_⟩
  · rw [h _ (g_nd_lt hl hu), lb_0]
    rfl
  · rw [h n hn, lb_0] at hb
    cases hb
  · have h2 : pc_s A 36 = pc_s (fun _ => 0) 36 := pc_s_eq h
    have h3 : ∀ k, pc_s (fun _ => (0 : Int64)) k = 0 := fun k => by
      induction k with
      | zero => rfl
      | succ k ih =>
        show pc_s _ k + pc_n 0 64 = 0
        rw [ih, pc_0]
    rw [h2, h3]
    rfl
theorem RC_tp_1 {c : gCh} (hl : (g_rs G).length ≤ 9) (h : RC_tp G A p) (hc : g_wu G c.2) (h0 : ∀ i, ¬ i = g_nd c.2 → B i = A i) (h1 : ∀ i, i < 64 → lb (B (g_nd c.2)) i = if c.1 = 1 then (lb (A (g_nd c.2)) i || decide (g_sb c.2 = i)) else (lb (A (g_nd c.2)) i && !decide (g_sb c.2 = i))) : RC_tp G B (g_tn1 p c) := by
  obtain ⟨q1, q2, q3⟩ := h
  have hn := g_nd_lt hl hc
  have hb := g_sb_lt hl hc
  have hu := q1 c.2 hc
  refine ⟨fun u hu => ?_, fun n b hn hb => ?_, ?_⟩
  · have hb2 := g_sb_lt hl hu
    show _ = g_ap p.1 c u
    unfold g_ap
    by_cases e : c.2 = u
    · subst e
      rw [if_pos rfl, h1 _ (by omega)]
      by_cases e1 : c.1 = 1
      · rw [if_pos e1]
        simp [e1]
      · rw [if_neg e1]
        simp [e1]
    · rw [if_neg e]
      by_cases e1 : g_nd u = g_nd c.2
      · rw [e1, h1 _ (by omega)]
        have e2 : ¬ g_sb c.2 = g_sb u := fun h => e (g_inj hc hu e1.symm h)
        rw [decide_eq_false e2, Bool.or_false, Bool.not_false, Bool.and_true, ite_self, ← e1]
        exact q1 u hu
      · rw [h0 _ e1]
        exact q1 u hu
  · by_cases e : n = g_nd c.2
    · subst e
      by_cases hb64 : b < 64
      · rw [h1 b hb64] at hb
        by_cases e2 : g_sb c.2 = b
        · exact ⟨c.2, hc, rfl, e2⟩
        · rw [decide_eq_false e2, Bool.or_false, Bool.not_false, Bool.and_true, ite_self] at hb
          exact q2 _ b hn hb
      · rw [lb_big (by omega)] at hb
        cases hb
    · rw [h0 n e] at hb
      exact q2 n b hn hb
  · have h5 := pc_s_1 (A := B) (B := A) hn h0
    show pc_s B 36 = if c.1 = 1 then (if p.1 c.2 = true then p.2 else p.2 + 1) else (if p.1 c.2 = true then p.2 - 1 else p.2)
    by_cases e1 : c.1 = 1
    · simp only [if_pos e1] at h1 ⊢
      have h6 := pc_up h1 64 (Nat.le_refl _)
      unfold pc at h5
      rw [hu] at h6
      cases hf : p.1 c.2
      · rw [hf, if_pos ⟨by omega, rfl⟩] at h6
        rw [if_neg (by decide)]
        omega
      · rw [hf, if_neg (fun h => by cases h.2)] at h6
        rw [if_pos rfl]
        omega
    · simp only [if_neg e1] at h1 ⊢
      have h6 := pc_dn h1 64 (Nat.le_refl _)
      unfold pc at h5
      rw [hu] at h6
      cases hf : p.1 c.2
      · rw [hf, if_neg (fun h => by cases h.2)] at h6
        rw [if_neg (by decide)]
        omega
      · rw [hf, if_pos ⟨by omega, rfl⟩] at h6
        rw [if_pos rfl]
        omega
end
section
variable {scr : mSc} {d : Nat} {s : mSt} {G : gSt}
theorem S_nodeOf {post : Int32 → mSt → Prop} {o r : Nat} (ho : o < 2 ^ 30) (h : post (nI (r * 4 + o % 4)) s) : X_Rs_nodeOf scr (d + 1) s (nI o) (nI r) post := by
  refine w_Rs_nodeOf ⟨by decide, ?_⟩
  rw [show nI r * (4 : Int32) = nI (r * 4) from pk_mul r 4, show nI o - nI o / (4 : Int32) * (4 : Int32) = nI (o % 4) from pk_rem (d := 4) (by omega) (by omega) (by omega), nI_add]
  exact h
theorem S_subjectBit {post : Int32 → mSt → Prop} {u : gTp} (hu : g_wu G u) (h : post (nI (g_sb u)) s) : X_Vs_subjectBit scr (d + 2) s (nI u.2.2.1) (nI u.2.2.2.1) (nI u.2.2.2.2) post := by
  obtain ⟨-, rl, -, -, h4⟩ := hu
  unfold g_sb at h
  refine w_Vs_subjectBit ?_
  rcases h4 with ⟨e, h5, -⟩ | ⟨e, h5, -⟩ | ⟨e, h5, -⟩
  · rw [if_pos e] at h
    exact pk_eq u.2.2.1 0 (fun _ => h) (fun h => absurd e h)
  · rw [if_neg (by omega), if_pos e] at h
    refine pk_eq u.2.2.1 0 (fun h => by omega) (fun _ => pk_eq u.2.2.1 1 (fun _ => ?_) (fun h => absurd e h))
    rw [show (8 : Int32) + nI u.2.2.2.1 = nI (8 + u.2.2.2.1) from nI_add 8 _]
    exact h
  · rw [if_neg (by omega), if_neg (by omega)] at h
    refine pk_eq u.2.2.1 0 (fun h => by omega) (fun _ => pk_eq u.2.2.1 1 (fun h => by omega) (fun _ => S_nodeOf (by omega) ?_))
    show post ((20 : Int32) + nI (u.2.2.2.2 * 4 + u.2.2.2.1 % 4)) s
    rw [show (20 : Int32) + nI (u.2.2.2.2 * 4 + u.2.2.2.1 % 4) = nI (20 + (u.2.2.2.2 * 4 + u.2.2.2.1 % 4)) from nI_add 20 _]
    exact h
theorem S_apply {post : mSt → Prop} {v : Nat} {c : gCh} {p : (gTp → Bool) × Nat} (hl : (g_rs G).length ≤ 9) (hok : g_okC c) (hc : g_wu G c.2) (hA : RC_tp G (s.2.1 15 v) p) (h : ∀ t, RC_tp G (t.2.1 15 v) (g_tn1 p c) → mx_fr (fun f i _ => f = 15 ∧ i = v) s t → post t) : X_Vs_apply scr (d + 3) s v (g_pk c) post := by
  have hn := g_nd_lt hl hc
  have hb := g_sb_lt hl hc
  obtain ⟨k1, k2, k3, k4, k5, k6⟩ := hok
  have hok : g_okC c := ⟨k1, k2, k3, k4, k5, k6⟩
  refine w_Vs_apply (S_field (q := 1) hok (by omega) (S_field (q := 2) hok (by omega) (S_nodeOf (by show c.2.1 < _; omega) (S_field (q := 3) hok (by omega) (S_field (q := 4) hok (by omega) (S_field (q := 5) hok (by omega) (S_subjectBit (u := c.2) hc (S_field (q := 0) hok (by omega) ?_))))))))
  have fin : ∀ (x : Int64), (∀ i, i < 64 → lb x i = if c.1 = 1 then (lb (s.2.1 15 v (g_nd c.2)) i || decide (g_sb c.2 = i)) else (lb (s.2.1 15 v (g_nd c.2)) i && !decide (g_sb c.2 = i))) → ∀ t, t = mx_sl s 15 v (g_nd c.2) x → post t := fun x hx t e => by
    refine h t (RC_tp_1 hl hA hc (fun i hi => ?_) (fun i hi => ?_)) ?_
    · rw [e]
      exact mx_sl_n (by omega)
    · rw [e, mx_sl_s]
      exact hx i hi
    · rw [e]
      exact mx_fr.sl ⟨rfl, rfl⟩
  have e1 : nI (g_fd c 2 * 4 + g_fd c 1 % 4) = nI (g_nd c.2) := rfl
  rw [e1, pk_cl (g_nd c.2)]
  refine pk_eq c.1 1 (fun e => ⟨pk_in (g_nd c.2) 36 hn, pk_in (g_nd c.2) 36 hn, fin _ (fun i hi => ?_)⟩) (fun e => ⟨pk_in (g_nd c.2) 36 hn, pk_in (g_nd c.2) 36 hn, fin _ (fun i hi => ?_)⟩)
  · rw [if_pos e, lb_or, lb_sh (by omega) hi]
  · rw [if_neg e, lb_and, lb_xor, lb_sh (by omega) hi, lb_m1 i hi, Bool.xor_true]
theorem S_fillJJ_6 {post : mSt → Prop} {ex : Nat → mSt → Prop} {v : Nat} : ∀ (m x : Nat) (s : mSt), x + m = 36 → (∀ t, mx_fr (fun f i _ => f = 15 ∧ i = v) s t → (∀ q, x ≤ q → q < 36 → t.2.1 15 v q = 0) → (∀ q, q < x → t.2.1 15 v q = s.2.1 15 v q) → post t) → r_Ar_fillJJ_6 scr d v 0 post ex (m + 1) s (nI x) (nI 36) := by
  intro m
  induction m with
  | zero =>
    intro x s hx h
    obtain rfl : x = 36 := by omega
    exact w_Ar_fillJJ_6 (pk_le 36 36 (fun _ => h s mx_fr.rf (fun q h1 h2 => by omega) (fun q _ => rfl)) (fun h => by omega))
  | succ m ih =>
    intro x s hx h
    refine w_Ar_fillJJ_6 (pk_le 36 x (fun h => by omega) (fun _ => ⟨pk_in x 36 (by omega), fun t e => ?_⟩))
    rw [pk_cl x] at e
    subst e
    rw [show nI x + (1 : Int32) = nI (x + 1) from nI_1 x]
    refine ih (x + 1) _ (by omega) (fun t g1 g2 g3 => h t (mx_fr.tr (mx_fr.sl ⟨rfl, rfl⟩) g1) (fun q p1 p2 => ?_) (fun q p => ?_))
    · by_cases hq : x + 1 ≤ q
      · exact g2 q hq p2
      · obtain rfl : q = x := by omega
        rw [g3 q (by omega)]
        exact mx_sl_s
    · rw [g3 q (by omega)]
      exact mx_sl_n (by omega)
theorem S_fillJJ {post : mSt → Prop} {v : Nat} (h : ∀ t, mx_fr (fun f i _ => f = 15 ∧ i = v) s t → (∀ q, q < 36 → t.2.1 15 v q = 0) → post t) : X_Ar_fillJJ scr (d + 1) s v 0 post := w_Ar_fillJJ ⟨37, S_fillJJ_6 36 0 s rfl (fun t h1 h2 _ => h t h1 (fun q hq => h2 q (Nat.zero_le _) hq))⟩
theorem RC_lg_f2 {P : Nat → Nat → Nat → Prop} {t : mSt} (h : RC_lg G s) (hf : mx_fr P s t) (h1 : ¬ P 11 0 1) (h2 : ¬ P 11 0 2) (h3 : ∀ j, ¬ P 12 0 j) : RC_lg G t := by
  obtain ⟨hk, ha, hb, hr⟩ := h
  exact ⟨hk, (hf.1 _ _ _ h1).trans ha, (hf.1 _ _ _ h2).trans hb, fun j x hj => (hf.1 _ _ _ (h3 j)).trans (hr j x hj)⟩
def F_rp (v f i j : Nat) : Prop := i = v ∧ (f = 15 ∨ (f = 14 ∧ (j = 0 ∨ j = 3)))
theorem S_replay_17 {post : mSt → Prop} {ex : Nat → mSt → Prop} {v T : Nat} {a2 : Int32} (hl : (g_rs G).length ≤ 9) (hw : g_wl G) (hT : T ≤ (g_fl (g_lg G)).length) : ∀ (m x : Nat) (s : mSt), x + m = T → RC_lg G s → RC_tp G (s.2.1 15 v) (g_tn (g_pf G (lg_cn (s.1 12 0) x))) → (∀ t, RC_tp G (t.2.1 15 v) (g_tn (g_pf G (lg_cn (s.1 12 0) T))) → t.1 14 v 0 = a2 → t.1 14 v 3 = 0 → mx_fr (F_rp v) s t → post t) → r_Vs_replay_17 scr (d + 3) v a2 post ex (m + 1) s (nI T) (nI x) := by
  intro m
  induction m with
  | zero =>
    intro x s hx hr hA h
    have h120 := hr.1.1
    obtain rfl : x = T := by omega
    refine w_Vs_replay_17 (pk_le x x (fun _ => fun s1 e1 => ⟨rfl, fun s2 e2 => h s2 ?_ ?_ ?_ ?_⟩) (fun h => by omega))
    · rw [e2, e1]
      exact hA
    · rw [e2, e1, mx_si_n (by omega), mx_si_s]
    · rw [e2, mx_si_s]
    · rw [e2, e1]
      exact mx_fr.tr (mx_fr.si ⟨rfl, Or.inr ⟨rfl, Or.inl rfl⟩⟩) (mx_fr.si ⟨rfl, Or.inr ⟨rfl, Or.inr rfl⟩⟩)
  | succ m ih =>
    intro x s hx hr hA h
    have h120 := hr.1.1
    refine w_Vs_replay_17 (pk_le T x (fun h => by omega) (fun _ => ⟨pk_in x 120 (by omega), ?_⟩))
    rw [pk_cl x, show nI x + (1 : Int32) = nI (x + 1) from nI_1 x]
    refine ⟨fun hm => ?_, fun hm => ⟨pk_in x 120 (by omega), ?_⟩⟩
    · exact ih (x + 1) s (by omega) hr (by rw [lg_cn_1 hm]; exact hA) h
    · obtain ⟨e, he, hpk, hok⟩ := g_recat hr (by omega) hm
      rw [hpk]
      refine S_apply hl hok (g_ev_w hw he) hA (fun t ht hf => ?_)
      have e12 : t.1 12 0 = s.1 12 0 := funext fun j => hf.1 12 0 j (fun h => by cases h.1)
      refine ih (x + 1) t (by omega) (RC_lg_f2 hr hf (fun h => by cases h.1) (fun h => by cases h.1) (fun j h => by cases h.1)) ?_ (fun t' g1 g2 g3 g4 => h t' ?_ g2 g3 ?_)
      · rw [e12, lg_cn_0 hm, g_pf_1 he, g_tn_a]
        exact ht
      · rw [e12] at g1
        exact g1
      · exact mx_fr.tr (hf.mono (fun f i j h => ⟨h.2, Or.inl h.1⟩)) g4
theorem S_replay {post : mSt → Prop} {v t : Nat} (hl : (g_rs G).length ≤ 9) (hw : g_wl G) (hr : RC_lg G s) (ht : t ≤ (g_lg G).length) (h : ∀ u, RC_tp G (u.2.1 15 v) (g_at_t G t) → u.1 14 v 0 = nI t → u.1 14 v 3 = 0 → mx_fr (F_rp v) s u → post u) : X_Vs_replay scr (d + 4) s v (nI t) post := by
  have hll := g_lgl hr.1.1
  refine w_Vs_replay ⟨g_pe G t + 1, S_fillJJ (fun s1 hf1 h0 => ?_)⟩
  have hr1 : RC_lg G s1 := RC_lg_f2 hr hf1 (fun h => by cases h.1) (fun h => by cases h.1) (fun j h => by cases h.1)
  refine S_lengthAt hr1.2.1 hr1.1.1 (by omega) (fun p hp => ?_)
  rw [g_at hr1 ht hp]
  refine S_replay_17 hl hw g_pe_le (g_pe G t) 0 s1 (by omega) hr1 (RC_tp_0 h0 hl) (fun u g1 g2 g3 g4 => h u ?_ g2 g3 ((hf1.mono (fun f i j h => ⟨h.2, Or.inl h.1⟩)).tr g4))
  have c0 : lg_cn (s1.1 12 0) (g_pe G t) = g_ec G t := by
    have h1 := (g_mk_pe hr1 t ht).1
    have h2 := lg_mk_c (R := s1.1 12 0) (g_pe G t)
    have h3 := g_ec_pe (G := G) ht
    omega
  rw [c0] at g1
  exact g1
end
