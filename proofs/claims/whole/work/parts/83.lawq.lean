def INV (G : gSt) (s : mSt) : Prop := RCall G s ∧ RMall G s ∧ gI G
def qM (G : gSt) (N : Prop) (a1 : Int32) (val : Nat → Int64 → Prop) (k : Int32) (u : mSt) : Prop := RCall G u ∧ RMall G u ∧ ((k = 1 ∧ qB G N a1) ∨ (k = 2 ∧ ∃ t, qO G N a1 t) ∨ (k = 0 ∧ ∃ t, qF G N a1 t ∧ val t (u.2.1 38 0 0)))
section
variable {scr : mSc} {d : Nat} {G : gSt} {s u w : mSt} {N : Prop} {a1 a2 a3 a4 a5 k : Int32} {val : Nat → Int64 → Prop}
theorem qM_l (h : qM G N a1 val k u) : (g_lg G).length ≤ 120 := g_lgl h.1.2.2.1.1.1
theorem qM_B (h : qM G N a1 val k u) (hq : qB G N a1) : k = 1 := by
  rcases h.2.2 with ⟨e, -⟩ | ⟨-, t, ho⟩ | ⟨-, t, hf, -⟩
  · exact e
  · exact (q_BO hq ho).elim
  · exact (q_BF hq hf).elim
theorem qM_O {t : Nat} (h : qM G N a1 val k u) (hq : qO G N a1 t) : k = 2 := by
  rcases h.2.2 with ⟨-, hb⟩ | ⟨e, -⟩ | ⟨-, t, hf, -⟩
  · exact (q_BO hb hq).elim
  · exact e
  · exact (q_OF (qM_l h) hq hf).elim
theorem qM_F {t : Nat} (h : qM G N a1 val k u) (hq : qF G N a1 t) : k = 0 ∧ val t (u.2.1 38 0 0) := by
  rcases h.2.2 with ⟨-, hb⟩ | ⟨-, t', ho⟩ | ⟨e, t', hf, hv⟩
  · exact (q_BF hb hq).elim
  · exact (q_OF (qM_l h) ho hq).elim
  · rw [q_FF (qM_l h) hq hf]
    exact ⟨e, hv⟩
theorem qM_fin (h : qM G N a1 val k u) (hg : gI G) (hf : mx_fr F_mq u w) : INV G w ∧ w.2.1 38 0 0 = u.2.1 38 0 0 := ⟨⟨RCall_fr h.1 hf (fun f i j h => F_mq_ge h), RMall_q h.2.1 hf, hg⟩, hf.2.1 38 0 0 (fun h => by unfold F_mq at h; omega)⟩
theorem qM_e2 (h : INV G s) (hq : qB G N a1) : qM G N a1 val 1 s := ⟨h.1, h.2.1, Or.inl ⟨rfl, hq⟩⟩
theorem qM_e3 {t : Nat} (h : INV G s) (hq : qO G N a1 t) : qM G N a1 val 2 s := ⟨h.1, h.2.1, Or.inr (Or.inl ⟨rfl, t, hq⟩)⟩
theorem qM_ok {t : Nat} {x : Int64} (h : INV G s) (hq : qF G N a1 t) (hv : RC_vs (g_WM G) G u) (hf : mx_fr F_q s u) (hval : val t x) (e : w = mx_sl u 38 0 ((0 : Int32)).toNatClampNeg x) : qM G N a1 val 0 w := by
  obtain ⟨h1, h2⟩ := out_all e
  refine ⟨RCall_38 (RCall_q h.1 hv hf) h1, RMall_38 (RMall_fr h.2.1 hf (fun f i j h => F_q_lt h)) h1, Or.inr (Or.inr ⟨rfl, t, hq, ?_⟩)⟩
  rw [h2]
  exact hval
theorem INV_rf (h : INV G s) : RC_vs (g_WM G) G s := h.1.2.2.2.1
def vT (G : gSt) (t : Nat) (x : Int64) : Prop := x = (nI (g_at_t G t).2).toInt64
theorem T_tuples {post : Int32 → mSt → Prop} (h : INV G s) (hy : ∀ k u, qM G True a1 (vT G) k u → post k u) : X_Lw_tuples scr (d + 7) s a1 post := w_Lw_tuples (S_Rs_tuples h.1.1.1.1 h.2.2.2.1 h.1.2.2.1 h.1.2.2.2.1 h.1.2.2.2.2.1 h.2.2.1 (fun hb => ⟨fun h => absurd h (by decide), fun _ _ => hy 1 s (qM_e2 h (Or.inr hb)), fun h => absurd h (by decide)⟩) (fun t k1 k2 k3 => ⟨fun h => absurd h (by decide), fun h => absurd h (by decide), fun _ _ => hy 2 s (qM_e3 (t := t) h ⟨trivial, k1, k2, k3⟩)⟩) (fun t u k1 k2 k3 k4 k5 => ⟨pk_in 0 1 (by omega), fun w e => hy 0 w (qM_ok h ⟨trivial, k1, k2, k3⟩ k4 (k5.mono (fun f i j h => by have := h.2; unfold F_q; omega)) rfl e)⟩))
theorem U_tuples {post : Int32 → mSt → Prop} (hg : gI G) (h : qM G True a1 (vT G) k u) (hy : ∀ b w, INV G w → w.1 18 0 1 = k → (k = 0 → w.2.1 38 0 0 = b.toInt64) → post b w) : X_Md_tuples scr (d + 3) u a1 post := by
  have mo : ∀ {w : mSt}, mx_fr F_mo u w → mx_fr F_mq u w := fun hf => hf.mono (fun f i j h => F_mq_mo h)
  refine S_Md_tuples hg.2.2.1 h.2.1.2.2.1 h.2.1.2.2.2.1 hg.1 (fun w hb z f => ?_) (fun w t k1 k2 k3 z f => ?_) (fun w w' t k1 k2 k3 z f f' => ?_)
  · have e := qM_B h (Or.inr hb)
    exact hy 0 w (qM_fin h hg (mo f)).1 (z.trans e.symm) (fun h0 => by rw [e] at h0; exact absurd h0 (by decide))
  · have e := qM_O h (t := t) ⟨trivial, k1, k2, k3⟩
    exact hy 0 w (qM_fin h hg (mo f)).1 (z.trans e.symm) (fun h0 => by rw [e] at h0; exact absurd h0 (by decide))
  · obtain ⟨e, hv⟩ := qM_F h (t := t) ⟨trivial, k1, k2, k3⟩
    have ff : mx_fr F_mq u w' := (mo f).tr (f'.mono (fun f i j h => by unfold F_pl at h; unfold F_mq; omega))
    obtain ⟨j1, j2⟩ := qM_fin h hg ff
    refine hy _ w' j1 (((f'.1 18 0 1 (fun h => by unfold F_pl at h; omega)).trans z).trans e.symm) (fun _ => ?_)
    rw [j2]
    exact hv
def vE (G : gSt) (a2 a3 : Int32) (t : Nat) (x : Int64) : Prop := ∃ o r rl A, g_node G a2 a3 o r rl ∧ g_isM (g_rs G) (g_at_t G t).1 (mC A) ∧ x = (mC A o r).toInt64
theorem T_expand {post : Int32 → mSt → Prop} (h : INV G s) (hy : ∀ k u, qM G (qN G a2 a3) a1 (vE G a2 a3) k u → post k u) : X_Lw_expand scr (d + 9) s a1 a2 a3 post := w_Lw_expand (S_Rs_expand (RQ_of h.1 h.2.2) (fun hb => ⟨fun h => absurd h (by decide), fun _ _ => hy 1 s (qM_e2 h hb), fun h => absurd h (by decide)⟩) (fun t ho => ⟨fun h => absurd h (by decide), fun h => absurd h (by decide), fun _ _ => hy 2 s (qM_e3 h ho)⟩) (fun t o r rl u A hq hnd hM hv hf => ⟨pk_in 0 1 (by omega), fun w e => hy 0 w (qM_ok h hq hv hf ⟨o, r, rl, A, hnd, hM, rfl⟩ e)⟩))
theorem node_V {o r : Nat} {rl : gRl} (h : g_node G a2 a3 o r rl) : g_Vn (g_rs G) o r := ⟨h.1, rl, h.2.2.1, h.2.2.2.2⟩
theorem U_expand {post : Int32 → mSt → Prop} (hg : gI G) (h : qM G (qN G a2 a3) a1 (vE G a2 a3) k u) (hy : ∀ b w, INV G w → w.1 18 0 1 = k → (k = 0 → w.2.1 38 0 0 = b.toInt64) → post b w) : X_Md_expand scr (d + 6) u a1 a2 a3 post := by
  have hl9 := h.1.1.1.1
  refine S_Md_expand (RP_of h.2.1 hg) (fun w hb z f => ?_) (fun w t ho z f => ?_) (fun t o r rl w A hq hnd hM z f => ?_)
  · have e := qM_B h hb
    exact hy 0 w (qM_fin h hg f).1 (z.trans e.symm) (fun h0 => by rw [e] at h0; exact absurd h0 (by decide))
  · have e := qM_O h ho
    exact hy 0 w (qM_fin h hg f).1 (z.trans e.symm) (fun h0 => by rw [e] at h0; exact absurd h0 (by decide))
  · obtain ⟨e, o', r', rl', A', hnd', hM', hx⟩ := qM_F h hq
    obtain ⟨j1, j2⟩ := qM_fin h hg f
    obtain ⟨rfl, rfl, rfl⟩ := g_node_u hl9 hnd hnd'
    refine hy _ w j1 (z.trans e.symm) (fun _ => ?_)
    rw [j2, hx, g_isM_u hM' hM _ _ (node_V hnd)]
def vK (G : gSt) (a2 a3 a4 : Int32) (t : Nat) (x : Int64) : Prop := ∃ o r rl b A, g_node G a2 a3 o r rl ∧ b < 8 ∧ a4 = nI b ∧ g_isM (g_rs G) (g_at_t G t).1 (mC A) ∧ x = if bI (bt (mC A o r) b) = 0 then 0 else 1
theorem T_check {post : Int32 → mSt → Prop} (h : INV G s) (hy : ∀ k u, qM G (qC G a2 a3 a4) a1 (vK G a2 a3 a4) k u → post k u) : X_Lw_check scr (d + 9) s a1 a2 a3 a4 post := w_Lw_check (S_Rs_check (RQ_of h.1 h.2.2) (fun hb => ⟨fun h => absurd h (by decide), fun _ _ => hy 1 s (qM_e2 h hb), fun h => absurd h (by decide)⟩) (fun t ho => ⟨fun h => absurd h (by decide), fun h => absurd h (by decide), fun _ _ => hy 2 s (qM_e3 h ho)⟩) (fun t o r rl b u A hq hnd hb eb hM hv hf => ⟨fun e0 => ⟨pk_in 0 1 (by omega), fun w e => hy 0 w (qM_ok h hq hv hf ⟨o, r, rl, b, A, hnd, hb, eb, hM, by rw [if_pos e0]⟩ e)⟩, fun e0 => ⟨pk_in 0 1 (by omega), fun w e => hy 0 w (qM_ok h hq hv hf ⟨o, r, rl, b, A, hnd, hb, eb, hM, by rw [if_neg e0]⟩ e)⟩⟩))
theorem U_check {post : Int32 → mSt → Prop} (hg : gI G) (h : qM G (qC G a2 a3 a4) a1 (vK G a2 a3 a4) k u) (hy : ∀ b w, INV G w → w.1 18 0 1 = k → (k = 0 → w.2.1 38 0 0 = if b = 0 then 0 else 1) → post b w) : X_Md_check scr (d + 6) u a1 a2 a3 a4 post := by
  have hl9 := h.1.1.1.1
  refine S_Md_check (RP_of h.2.1 hg) (fun w hb z f => ?_) (fun w t ho z f => ?_) (fun t o r rl b w A hq hnd hb eb hM z f => ?_)
  · have e := qM_B h hb
    exact hy 0 w (qM_fin h hg f).1 (z.trans e.symm) (fun h0 => by rw [e] at h0; exact absurd h0 (by decide))
  · have e := qM_O h ho
    exact hy 0 w (qM_fin h hg f).1 (z.trans e.symm) (fun h0 => by rw [e] at h0; exact absurd h0 (by decide))
  · obtain ⟨e, o', r', rl', b', A', hnd', hb', eb', hM', hx⟩ := qM_F h hq
    obtain ⟨j1, j2⟩ := qM_fin h hg f
    obtain ⟨rfl, rfl, rfl⟩ := g_node_u hl9 hnd hnd'
    obtain rfl := g_eqI (show b < 2 ^ 30 by omega) (show b' < 2 ^ 30 by omega) (eb.symm.trans eb')
    refine hy _ w j1 (z.trans e.symm) (fun _ => ?_)
    rw [j2, hx, g_isM_u hM' hM _ _ (node_V hnd)]
def vL (G : gSt) (a2 a3 : Int32) (t : Nat) (x : Int64) : Prop := ∃ (r : Nat) (rl : gRl) (b : Nat) (A : Nat → Int32), (g_rs G)[r]? = some rl ∧ a2 = nI r ∧ b < 8 ∧ a3 = nI b ∧ g_isM (g_rs G) (g_at_t G t).1 (mC A) ∧ x = (g_la (mC A) r rl.1 b 4).toInt64
theorem T_lookup {post : Int32 → mSt → Prop} (h : INV G s) (hy : ∀ k u, qM G (qL G a2 a3) a1 (vL G a2 a3) k u → post k u) : X_Lw_lookup scr (d + 9) s a1 a2 a3 post := w_Lw_lookup (S_Rs_lookup (RQ_of h.1 h.2.2) (fun hb => ⟨fun h => absurd h (by decide), fun _ _ => hy 1 s (qM_e2 h hb), fun h => absurd h (by decide)⟩) (fun t ho => ⟨fun h => absurd h (by decide), fun h => absurd h (by decide), fun _ _ => hy 2 s (qM_e3 h ho)⟩) (fun t r rl b u A hq hrl er hb eb hM hv hf => ⟨pk_in 0 1 (by omega), fun w e => hy 0 w (qM_ok h hq hv hf ⟨r, rl, b, A, hrl, er, hb, eb, hM, rfl⟩ e)⟩))
theorem U_lookup {post : Int32 → mSt → Prop} (hg : gI G) (h : qM G (qL G a2 a3) a1 (vL G a2 a3) k u) (hy : ∀ b w, INV G w → w.1 18 0 1 = k → (k = 0 → w.2.1 38 0 0 = b.toInt64) → post b w) : X_Md_lookup scr (d + 6) u a1 a2 a3 post := by
  have hl9 := h.1.1.1.1
  refine S_Md_lookup (RP_of h.2.1 hg) (fun w hb z f => ?_) (fun w t ho z f => ?_) (fun t r rl b w A hq hrl er hb eb hM z f => ?_)
  · have e := qM_B h hb
    exact hy 0 w (qM_fin h hg f).1 (z.trans e.symm) (fun h0 => by rw [e] at h0; exact absurd h0 (by decide))
  · have e := qM_O h ho
    exact hy 0 w (qM_fin h hg f).1 (z.trans e.symm) (fun h0 => by rw [e] at h0; exact absurd h0 (by decide))
  · obtain ⟨e, r', rl', b', A', hrl', er', hb', eb', hM', hx⟩ := qM_F h hq
    obtain ⟨j1, j2⟩ := qM_fin h hg f
    have l1 := g_len_get hrl
    have l2 := g_len_get hrl'
    obtain rfl := g_eqI (show r < 2 ^ 30 by omega) (show r' < 2 ^ 30 by omega) (er.symm.trans er')
    obtain rfl := g_eqI (show b < 2 ^ 30 by omega) (show b' < 2 ^ 30 by omega) (eb.symm.trans eb')
    rw [hrl] at hrl'
    cases hrl'
    have h3 := (h.1.1.1.2 rl (List.mem_of_getElem? hrl)).1
    refine hy _ w j1 (z.trans e.symm) (fun _ => ?_)
    rw [j2, hx, g_la_cg (m := mC A') (m' := mM A) 4 (fun q hq => g_isM_u hM' hM _ _ ⟨by omega, rl, hrl, by omega⟩)]
def vD (G : gSt) (a2 a3 a4 a5 : Int32) (t : Nat) (x : Int64) : Prop := ∃ o r rl o' r' rl', g_node G a2 a3 o r rl ∧ g_node G a4 a5 o' r' rl' ∧ ((g_far (g_E (g_at_t G t).1) (9 * o + r) (9 * o' + r') ∧ x = 1) ∨ (¬ g_far (g_E (g_at_t G t).1) (9 * o + r) (9 * o' + r') ∧ x = 0))
theorem T_nested {post : Int32 → mSt → Prop} (h : INV G s) (hy : ∀ k u, qM G (qD G a2 a3 a4 a5) a1 (vD G a2 a3 a4 a5) k u → post k u) : X_Lw_nested scr (d + 9) s a1 a2 a3 a4 a5 post := w_Lw_nested (S_Rs_nested (RQ_of h.1 h.2.2) (fun hb => ⟨fun h => absurd h (by decide), fun _ _ => hy 1 s (qM_e2 h hb), fun h => absurd h (by decide)⟩) (fun t ho => ⟨fun h => absurd h (by decide), fun h => absurd h (by decide), fun _ _ => hy 2 s (qM_e3 h ho)⟩) (fun t o r rl o' r' rl' u hq hnd hnd' hv hf hfar => ⟨fun h => absurd h (by decide), fun _ => ⟨pk_in 0 1 (by omega), fun w e => hy 0 w (qM_ok h hq hv hf ⟨o, r, rl, o', r', rl', hnd, hnd', Or.inl ⟨hfar, rfl⟩⟩ e)⟩⟩) (fun t o r rl o' r' rl' u hq hnd hnd' hv hf hfar => ⟨fun _ => ⟨pk_in 0 1 (by omega), fun w e => hy 0 w (qM_ok h hq hv hf ⟨o, r, rl, o', r', rl', hnd, hnd', Or.inr ⟨hfar, rfl⟩⟩ e)⟩, fun h => absurd rfl h⟩))
theorem U_nested {post : Int32 → mSt → Prop} (hg : gI G) (h : qM G (qD G a2 a3 a4 a5) a1 (vD G a2 a3 a4 a5) k u) (hy : ∀ b w, INV G w → w.1 18 0 1 = k → (k = 0 → w.2.1 38 0 0 = if b = 0 then 0 else 1) → post b w) : X_Md_nested scr (d + 6) u a1 a2 a3 a4 a5 post := by
  have hl9 := h.1.1.1.1
  refine S_Md_nested (RP_of h.2.1 hg) (fun w hb z f => ?_) (fun w t ho z f => ?_) (fun t o r rl o' r' rl' w hq hnd hnd' hfar z f => ?_) (fun t o r rl o' r' rl' w hq hnd hnd' hfar z f => ?_)
  · have e := qM_B h hb
    exact hy 0 w (qM_fin h hg f).1 (z.trans e.symm) (fun h0 => by rw [e] at h0; exact absurd h0 (by decide))
  · have e := qM_O h ho
    exact hy 0 w (qM_fin h hg f).1 (z.trans e.symm) (fun h0 => by rw [e] at h0; exact absurd h0 (by decide))
  · obtain ⟨e, p, q, pl, p', q', pl', hpn, hpn', hx⟩ := qM_F h hq
    obtain ⟨j1, j2⟩ := qM_fin h hg f
    obtain ⟨rfl, rfl, rfl⟩ := g_node_u hl9 hnd hpn
    obtain ⟨rfl, rfl, rfl⟩ := g_node_u hl9 hnd' hpn'
    refine hy _ w j1 (z.trans e.symm) (fun _ => ?_)
    rcases hx with ⟨-, hx⟩ | ⟨hx, -⟩
    · rw [j2, hx]
      rfl
    · exact absurd hfar hx
  · obtain ⟨e, p, q, pl, p', q', pl', hpn, hpn', hx⟩ := qM_F h hq
    obtain ⟨j1, j2⟩ := qM_fin h hg f
    obtain ⟨rfl, rfl, rfl⟩ := g_node_u hl9 hnd hpn
    obtain ⟨rfl, rfl, rfl⟩ := g_node_u hl9 hnd' hpn'
    refine hy _ w j1 (z.trans e.symm) (fun _ => ?_)
    rcases hx with ⟨hx, -⟩ | ⟨-, hx⟩
    · exact absurd hx hfar
    · rw [j2, hx]
      rfl
def vW (G : gSt) (t : Nat) (x : Int64) : Prop := x = (nI ((g_ev 0 (g_lg G)).length - g_ec G t)).toInt64
theorem T_watch {post : Int32 → mSt → Prop} (h : INV G s) (hy : ∀ k u, qM G True a1 (vW G) k u → post k u) : X_Lw_watch scr (d + 4) s a1 post := w_Lw_watch (S_Rs_watch h.1.2.2.1 h.1.2.2.2.2.1 h.2.2.1 (fun hb => ⟨fun h => absurd h (by decide), fun _ _ => hy 1 s (qM_e2 h (Or.inr hb)), fun h => absurd h (by decide)⟩) (fun t k1 k2 k3 => ⟨fun h => absurd h (by decide), fun h => absurd h (by decide), fun _ _ => hy 2 s (qM_e3 (t := t) h ⟨trivial, k1, k2, k3⟩)⟩) (fun t k1 k2 k3 => ⟨pk_in 0 1 (by omega), fun w e => hy 0 w (qM_ok h ⟨trivial, k1, k2, k3⟩ (INV_rf h) mx_fr.rf rfl e)⟩))
theorem U_watch {post : Int32 → mSt → Prop} (hg : gI G) (h : qM G True a1 (vW G) k u) (hy : ∀ b w, INV G w → w.1 18 0 1 = k → (k = 0 → w.2.1 38 0 0 = b.toInt64) → post b w) : X_Md_watch scr (d + 3) u a1 post := by
  have mo : ∀ {w : mSt}, mx_fr F_mo u w → mx_fr F_mq u w := fun hf => hf.mono (fun f i j h => F_mq_mo h)
  refine S_Md_watch h.2.1.2.2.1 h.2.1.2.2.2.1 hg.1 (fun w hb z f => ?_) (fun w t k1 k2 k3 z f => ?_) (fun w t k1 k2 k3 z f => ?_)
  · have e := qM_B h (Or.inr hb)
    exact hy 0 w (qM_fin h hg (mo f)).1 (z.trans e.symm) (fun h0 => by rw [e] at h0; exact absurd h0 (by decide))
  · have e := qM_O h (t := t) ⟨trivial, k1, k2, k3⟩
    exact hy 0 w (qM_fin h hg (mo f)).1 (z.trans e.symm) (fun h0 => by rw [e] at h0; exact absurd h0 (by decide))
  · obtain ⟨e, hv⟩ := qM_F h (t := t) ⟨trivial, k1, k2, k3⟩
    obtain ⟨j1, j2⟩ := qM_fin h hg (mo f)
    exact hy _ w j1 (z.trans e.symm) (fun _ => by rw [j2]; exact hv)
def vX (G : gSt) (a2 a3 : Int32) (t : Nat) (x : Int64) : Prop := ((∀ k q, ¬ (g_ec G t + k < (g_ev 0 (g_lg G)).length ∧ a2 = nI k ∧ q ≤ 6 ∧ a3 = nI q)) ∧ x = ((-1 : Int32)).toInt64) ∨ ∃ k q e, a2 = nI k ∧ q ≤ 6 ∧ a3 = nI q ∧ (g_ev 0 (g_lg G))[g_ec G t + k]? = some e ∧ x = (g_wv e q).toInt64
theorem T_watched {post : Int32 → mSt → Prop} (h : INV G s) (hy : ∀ k u, qM G True a1 (vX G a2 a3) k u → post k u) : X_Lw_watched scr (d + 4) s a1 a2 a3 post := w_Lw_watched (S_Rs_watched h.1.2.2.1 h.1.2.2.2.2.1 h.2.2.1 (fun hb => ⟨fun h => absurd h (by decide), fun _ _ => hy 1 s (qM_e2 h (Or.inr hb)), fun h => absurd h (by decide)⟩) (fun t k1 k2 k3 => ⟨fun h => absurd h (by decide), fun h => absurd h (by decide), fun _ _ => hy 2 s (qM_e3 (t := t) h ⟨trivial, k1, k2, k3⟩)⟩) (fun t k1 k2 k3 k4 => ⟨pk_in 0 1 (by omega), fun w e => hy 0 w (qM_ok h ⟨trivial, k1, k2, k3⟩ (INV_rf h) mx_fr.rf (Or.inl ⟨k4, rfl⟩) e)⟩) (fun t k q e k1 k2 k3 k4 k5 k6 k7 => ⟨pk_in 0 1 (by omega), fun w ew => hy 0 w (qM_ok h ⟨trivial, k1, k2, k3⟩ (INV_rf h) mx_fr.rf (Or.inr ⟨k, q, e, k4, k5, k6, k7, rfl⟩) ew)⟩))
theorem U_watched {post : Int32 → mSt → Prop} (hg : gI G) (h : qM G True a1 (vX G a2 a3) k u) (hy : ∀ b w, INV G w → w.1 18 0 1 = k → (k = 0 → w.2.1 38 0 0 = b.toInt64) → post b w) : X_Md_watched scr (d + 3) u a1 a2 a3 post := by
  have mo : ∀ {w : mSt}, mx_fr F_mo u w → mx_fr F_mq u w := fun hf => hf.mono (fun f i j h => F_mq_mo h)
  have h120 := h.1.2.2.1.1.1
  have hel := g_ev_len (l := g_lg G) (n := 0)
  refine S_Md_watched h.2.1.2.2.1 h.2.1.2.2.2.1 hg.1 (fun w hb z f => ?_) (fun w t k1 k2 k3 z f => ?_) (fun w t k1 k2 k3 z f k4 => ?_) (fun w t i q e k1 k2 k3 z f k4 k5 k6 k7 => ?_)
  · have e := qM_B h (Or.inr hb)
    exact hy 0 w (qM_fin h hg (mo f)).1 (z.trans e.symm) (fun h0 => by rw [e] at h0; exact absurd h0 (by decide))
  · have e := qM_O h (t := t) ⟨trivial, k1, k2, k3⟩
    exact hy 0 w (qM_fin h hg (mo f)).1 (z.trans e.symm) (fun h0 => by rw [e] at h0; exact absurd h0 (by decide))
  · obtain ⟨e, hv⟩ := qM_F h (t := t) ⟨trivial, k1, k2, k3⟩
    obtain ⟨j1, j2⟩ := qM_fin h hg (mo f)
    refine hy _ w j1 (z.trans e.symm) (fun _ => ?_)
    rw [j2]
    rcases hv with ⟨-, hv⟩ | ⟨i, q, e', v1, v2, v3, v4, -⟩
    · exact hv
    · exact absurd ⟨g_len_get v4, v1, v2, v3⟩ (k4 i q)
  · obtain ⟨e', hv⟩ := qM_F h (t := t) ⟨trivial, k1, k2, k3⟩
    obtain ⟨j1, j2⟩ := qM_fin h hg (mo f)
    refine hy _ w j1 (z.trans e'.symm) (fun _ => ?_)
    rw [j2]
    have l1 := g_len_get k7
    rcases hv with ⟨hv, -⟩ | ⟨i', q', e'', v1, v2, v3, v4, v5⟩
    · exact absurd ⟨l1, k4, k5, k6⟩ (hv i q)
    · have l2 := g_len_get v4
      obtain rfl := g_eqI (show i < 2 ^ 30 by omega) (show i' < 2 ^ 30 by omega) (k4.symm.trans v1)
      obtain rfl := g_eqI (show q < 2 ^ 30 by omega) (show q' < 2 ^ 30 by omega) (k6.symm.trans v3)
      rw [k7] at v4
      cases v4
      exact v5
end
