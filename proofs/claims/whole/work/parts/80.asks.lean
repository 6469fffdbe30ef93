def qB (G : gSt) (N : Prop) (a : Int32) : Prop := ¬ N ∨ ∀ t, t ≤ (g_lg G).length → ¬ a = nI t
def qO (G : gSt) (N : Prop) (a : Int32) (t : Nat) : Prop := N ∧ t ≤ (g_lg G).length ∧ a = nI t ∧ t + G.1 ≤ (g_lg G).length
def qF (G : gSt) (N : Prop) (a : Int32) (t : Nat) : Prop := N ∧ t ≤ (g_lg G).length ∧ a = nI t ∧ (g_lg G).length < t + G.1
section
variable {G : gSt} {N : Prop} {a : Int32}
theorem q_3 : qB G N a ∨ (∃ t, qO G N a t) ∨ ∃ t, qF G N a t := by
  by_cases hN : N
  · by_cases ht : ∃ t, t ≤ (g_lg G).length ∧ a = nI t
    · obtain ⟨t, h1, h2⟩ := ht
      by_cases h3 : t + G.1 ≤ (g_lg G).length
      · exact Or.inr (Or.inl ⟨t, hN, h1, h2, h3⟩)
      · exact Or.inr (Or.inr ⟨t, hN, h1, h2, by omega⟩)
    · exact Or.inl (Or.inr (fun t h1 h2 => ht ⟨t, h1, h2⟩))
  · exact Or.inl (Or.inl hN)
theorem q_BO {t : Nat} (h : qB G N a) (h' : qO G N a t) : False := h.elim (fun h => h h'.1) (fun h => h t h'.2.1 h'.2.2.1)
theorem q_BF {t : Nat} (h : qB G N a) (h' : qF G N a t) : False := h.elim (fun h => h h'.1) (fun h => h t h'.2.1 h'.2.2.1)
theorem q_FF {t t' : Nat} (hl : (g_lg G).length ≤ 120) (h : qF G N a t) (h' : qF G N a t') : t = t' := by
  have h1 := h.2.1
  have h2 := h'.2.1
  exact g_eqI (by omega) (by omega) (h.2.2.1.symm.trans h'.2.2.1)
theorem q_OF {t t' : Nat} (hl : (g_lg G).length ≤ 120) (h : qO G N a t) (h' : qF G N a t') : False := by
  have h1 := h.2.1
  have h2 := h'.2.1
  have h3 := h.2.2.2
  have h4 := h'.2.2.2
  have := g_eqI (by omega) (by omega) (h.2.2.1.symm.trans h'.2.2.1)
  omega
end
def F_q (f _ _ : Nat) : Prop := f = 14 ∨ f = 15 ∨ f = 16 ∨ f = 17
section
variable {scr : mSc} {d : Nat} {G : gSt} {s : mSt}
theorem RC_vs_up {W : (gTp → Bool) → (Nat → Int32) → Prop} {u : mSt} {v t : Nat} (h : RC_vs W G s) (h1 : RC_v1 W G u v t) (hf : mx_fr (F_vs v) s u) : RC_vs W G u := by
  intro w hw
  by_cases e : w = v
  · subst e
    exact Or.inr ⟨t, h1⟩
  · rcases h w hw with h | ⟨t', h⟩
    · exact Or.inl ((hf.1 14 w 0 (fun h => e h.1)).trans h)
    · exact Or.inr ⟨t', RC_v1_fr h hf (fun j h => e h.1) (fun j h => e h.1) (fun j h => e h.1)⟩
theorem S_mayAsk {post : Int32 → mSt → Prop} {a1 a2 : Int32} (h : RC_cf G s) (hy : ∀ o r rl, g_ac G = true → g_node G a1 a2 o r rl → post 1 s) (hn : (¬ ∃ o r rl, g_ac G = true ∧ g_node G a1 a2 o r rl) → post 0 s) : X_Cf_mayAsk scr (d + 3) s a1 a2 post := w_Cf_mayAsk (g_ac0 h.2.2.1 (fun hac => ⟨rfl, hn (fun ⟨_, _, _, h9, _⟩ => by rw [hac] at h9; cases h9)⟩) (fun hac => S_isNode h (fun h1 => ⟨fun _ => ⟨rfl, hn (fun ⟨o, r, rl, _, h9⟩ => h1 o r rl h9)⟩, fun h => absurd rfl h⟩) (fun o r rl hnd => ⟨fun h => absurd h (by decide), fun _ => ⟨rfl, hy o r rl hac hnd⟩⟩)))
theorem S_refuse0 {post : mSt → Prop} {ex : Nat → mSt → Prop} {a2 : Int32} (h : RC_lg G s) (hk : s.1 0 0 0 = nI G.1) (hK : g_okK G) (e2 : ex 2 s) : X_Rs_refuseUnless scr (d + 1) s 0 a2 ex post := S_refuse h hk hK (fun _ => e2) (fun t h0 => absurd rfl h0) (fun t h0 => absurd rfl h0)
theorem S_ask {Q : Int32 → mSt → Prop} {t o r : Nat} (hac1 : g_ac G = true) (hac : g_acc (g_rs G)) (hw : g_wl G) (hr : RC_lg G s) (hv : RC_vs (g_WM G) G s) (hx : RCx G s) (ht : t ≤ (g_lg G).length) (ho : o < 12) (hr9 : r < (g_rs G).length) (hy : ∀ u A, g_isM (g_rs G) (g_at_t G t).1 (mC A) → RC_vs (g_WM G) G u → mx_fr F_q s u → Q (mC A o r) u) : X_Rs_versionOf scr (d + 7) s (nI t) (fun v s1 => X_Rs_nodeOf scr (d + 7) s1 (nI o) (nI r) (fun n s2 => X_Vs_membersOf scr (d + 7) s2 v n Q)) := by
  have hl9 := hx.1.1.1
  refine S_versionOf (d := d + 2) hl9 hw hr hv ht (fun u g1 g2 g3 => S_nodeOf (by omega) ?_)
  have hxu : RCx G u := RCx_fr hx g3 (fun f i j h => by have := h.2; omega)
  refine S_membersOf hac1 hac.2 hw hxu g2 (by omega) (fun w k1 k2 k3 k4 => hy w _ k3 (RC_vs_up g1 k1 k4) ?_)
  exact (g3.mono (fun f i j h => by have := h.2; unfold F_q; omega)).tr (k4.mono (fun f i j h => by have := h.2; unfold F_q; omega))
def RQ (G : gSt) (s : mSt) : Prop := g_wl G ∧ RC_lg G s ∧ RC_vs (g_WM G) G s ∧ RC_cf G s ∧ (g_ac G = true → g_acc (g_rs G) ∧ RCx G s) ∧ s.1 0 0 0 = nI G.1 ∧ g_okK G
def qN (G : gSt) (a2 a3 : Int32) : Prop := ∃ o r rl, g_ac G = true ∧ g_node G a2 a3 o r rl
theorem S_Rs_expand {post : Int32 → mSt → Prop} {ex : Nat → mSt → Prop} {a1 a2 a3 : Int32} (h : RQ G s) (e2 : qB G (qN G a2 a3) a1 → ex 2 s) (e3 : ∀ t, qO G (qN G a2 a3) a1 t → ex 3 s) (hy : ∀ t o r rl u A, qF G (qN G a2 a3) a1 t → g_node G a2 a3 o r rl → g_isM (g_rs G) (g_at_t G t).1 (mC A) → RC_vs (g_WM G) G u → mx_fr F_q s u → post (mC A o r) u) : X_Rs_expand scr (d + 8) s a1 a2 a3 ex post := by
  obtain ⟨hw, hr, hv, hc, hx, hk, hK⟩ := h
  refine w_Rs_expand (S_mayAsk (d := d + 4) hc (fun o r rl hac hnd => ?_) (fun hno => S_refuse0 (d := d + 6) hr hk hK ⟨fun h => absurd h (by decide), fun _ => e2 (Or.inl hno), fun h => absurd h (by decide)⟩))
  have hN : qN G a2 a3 := ⟨o, r, rl, hac, hnd⟩
  obtain ⟨hacc, hxx⟩ := hx hac
  refine S_refuse (d := d + 6) hr hk hK (fun hc => ⟨fun h => absurd h (by decide), fun _ => e2 (Or.inr (hc.resolve_left (by decide))), fun h => absurd h (by decide)⟩) (fun t _ ht e h9 => ⟨fun h => absurd h (by decide), fun h => absurd h (by decide), fun _ => e3 t ⟨hN, ht, e, h9⟩⟩) (fun t _ ht e h9 => ?_)
  have hF : qF G (qN G a2 a3) a1 t := ⟨hN, ht, e, h9⟩
  rw [e, hnd.2.1, hnd.2.2.2.1]
  exact S_ask hac hacc hw hr hv hxx ht hnd.1 (g_len_get hnd.2.2.1) (fun u A k1 k2 k3 => hy t o r rl u A hF hnd k1 k2 k3)
def qC (G : gSt) (a2 a3 a4 : Int32) : Prop := qN G a2 a3 ∧ ∃ u, u < 8 ∧ a4 = nI u
theorem S_Rs_check {post : Int32 → mSt → Prop} {ex : Nat → mSt → Prop} {a1 a2 a3 a4 : Int32} (h : RQ G s) (e2 : qB G (qC G a2 a3 a4) a1 → ex 2 s) (e3 : ∀ t, qO G (qC G a2 a3 a4) a1 t → ex 3 s) (hy : ∀ t o r rl b u A, qF G (qC G a2 a3 a4) a1 t → g_node G a2 a3 o r rl → b < 8 → a4 = nI b → g_isM (g_rs G) (g_at_t G t).1 (mC A) → RC_vs (g_WM G) G u → mx_fr F_q s u → post (bI (bt (mC A o r) b)) u) : X_Rs_check scr (d + 8) s a1 a2 a3 a4 ex post := by
  obtain ⟨hw, hr, hv, hc, hx, hk, hK⟩ := h
  have no : ¬ qC G a2 a3 a4 → (fun kk s4 => (kk = 1 → ex 1 s4) ∧ (kk = 2 → ex 2 s4) ∧ (kk = 3 → ex 3 s4)) 2 s := fun hno => ⟨fun h => absurd h (by decide), fun _ => e2 (Or.inl hno), fun h => absurd h (by decide)⟩
  refine w_Rs_check (S_mayAsk (d := d + 4) hc (fun o r rl hac hnd => ⟨fun h => absurd h (by decide), fun _ => ?_⟩) (fun hno => ⟨fun _ => S_refuse0 (d := d + 6) hr hk hK (no (fun h => hno h.1)), fun h => absurd rfl h⟩))
  refine S_isUser (d := d + 6) (fun h1 => ⟨fun _ => S_refuse0 (d := d + 6) hr hk hK (no (fun h => by obtain ⟨-, u, hu, e⟩ := h; exact h1 u hu e)), fun h => absurd rfl h⟩) (fun b hb eb => ⟨fun h => absurd h (by decide), fun _ => ?_⟩)
  have hN : qC G a2 a3 a4 := ⟨⟨o, r, rl, hac, hnd⟩, b, hb, eb⟩
  obtain ⟨hacc, hxx⟩ := hx hac
  refine S_refuse (d := d + 6) hr hk hK (fun hc => ⟨fun h => absurd h (by decide), fun _ => e2 (Or.inr (hc.resolve_left (by decide))), fun h => absurd h (by decide)⟩) (fun t _ ht e h9 => ⟨fun h => absurd h (by decide), fun h => absurd h (by decide), fun _ => e3 t ⟨hN, ht, e, h9⟩⟩) (fun t _ ht e h9 => ?_)
  have hF : qF G (qC G a2 a3 a4) a1 t := ⟨hN, ht, e, h9⟩
  rw [e, hnd.2.1, hnd.2.2.2.1]
  refine S_ask hac hacc hw hr hv hxx ht hnd.1 (g_len_get hnd.2.2.1) (fun u A k1 k2 k3 => ?_)
  have hy := hy t o r rl b u A hF hnd hb eb k1 k2 k3
  rw [eb]
  refine S_hasBit (d := d + 6) (fun hno => ⟨rfl, ?_⟩) (fun hyes => ⟨rfl, ?_⟩)
  · rw [show bt (mC A o r) b = false by
      cases h9 : bt (mC A o r) b with
      | false => rfl
      | true => exact absurd ((g_bit_bt (by omega)).mpr h9) hno] at hy
    exact hy
  · rw [(g_bit_bt (by omega)).mp hyes] at hy
    exact hy
def g_la (m : Nat → Nat → Int32) (r ns b : Nat) : Nat → Int32
  | 0 => 0
  | k + 1 => g_la m r ns b k ||| (if bt (m (4 * ns + k) r) b = true then (1 : Int32) <<< (nI k &&& 31) else 0)
theorem g_la_cg {m m' : Nat → Nat → Int32} {r ns b : Nat} : ∀ k, (∀ q, q < k → m (4 * ns + q) r = m' (4 * ns + q) r) → g_la m r ns b k = g_la m' r ns b k
  | 0, _ => rfl
  | k + 1, h => by
    show g_la m r ns b k ||| _ = g_la m' r ns b k ||| _
    rw [g_la_cg k (fun q hq => h q (by omega)), h k (by omega)]
def qL (G : gSt) (a2 a3 : Int32) : Prop := g_ac G = true ∧ (∃ r, r < (g_rs G).length ∧ a2 = nI r) ∧ ∃ u, u < 8 ∧ a3 = nI u
theorem S_look_51 {post : Int32 → mSt → Prop} {ex : Nat → mSt → Prop} {a1 : Int32} {t r b : Nat} {rl : gRl} (hac1 : g_ac G = true) (hac : g_acc (g_rs G)) (hw : g_wl G) (hrl : (g_rs G)[r]? = some rl) (hb : b < 8) (ht : t ≤ (g_lg G).length) : ∀ (m k : Nat) (s : mSt) (w : Int32), k + m = 4 → RC_vs (g_WM G) G s → RCx G s → RC_v1 (g_WM G) G s (t % 8) t → ((k = 0 ∧ w = 0) ∨ ∃ A, g_isM (g_rs G) (g_at_t G t).1 (mC A) ∧ w = g_la (mC A) r rl.1 b k) → (∀ u A, g_isM (g_rs G) (g_at_t G t).1 (mC A) → RC_vs (g_WM G) G u → mx_fr F_q s u → post (g_la (mC A) r rl.1 b 4) u) → (m = 0 → ¬ w = 0 ∨ ∃ A, g_isM (g_rs G) (g_at_t G t).1 (mC A) ∧ w = g_la (mC A) r rl.1 b 4) → r_Rs_lookup_51 scr (d + 7) a1 (nI r) (nI b) post ex (m + 1) s (t % 8) w (nI k) := by
  intro m
  induction m with
  | zero =>
    intro k s w hk hv hx hv1 hA hy _
    obtain rfl : k = 4 := by omega
    refine w_Rs_lookup_51 (pk_le 4 4 (fun _ => ?_) (fun h => by omega))
    rcases hA with ⟨h9, -⟩ | ⟨A, k1, rfl⟩
    · omega
    · exact hy s A k1 hv mx_fr.rf
  | succ m ih =>
    intro k s w hk hv hx hv1 hA hy _
    have hl9 := hx.1.1.1
    have hr9 := g_len_get hrl
    have h3 := (hx.1.1.2 rl (List.mem_of_getElem? hrl)).1
    have hV : ∀ q, q < 4 → g_Vn (g_rs G) (4 * rl.1 + q) r := fun q hq => ⟨by omega, rl, hrl, by omega⟩
    refine w_Rs_lookup_51 (pk_le 4 k (fun h => by omega) (fun _ => S_nodeOf (d := d + 6) (by omega) ?_))
    rw [show nI k + (1 : Int32) = nI (k + 1) from nI_1 k]
    refine S_membersOf hac1 hac.2 hw hx hv1 (by omega) (fun u k1 k2 k3 k4 => ?_)
    have hfq : mx_fr F_q s u := k4.mono (fun f i j h => by have := h.2; unfold F_q; omega)
    have hvu := RC_vs_up hv k1 k4
    have hwla : w = g_la (mC (u.1 16 (t % 8))) r rl.1 b k := by
      rcases hA with ⟨rfl, rfl⟩ | ⟨A, j1, rfl⟩
      · rfl
      · exact g_la_cg k (fun q hq => g_isM_u j1 k3 _ _ (hV q (by omega)))
    have hval : u.1 16 (t % 8) (r * 4 + k % 4) = mC (u.1 16 (t % 8)) (4 * rl.1 + k) r := by
      show _ = u.1 16 (t % 8) (r * 4 + (4 * rl.1 + k) % 4)
      rw [show (4 * rl.1 + k) % 4 = k % 4 by omega]
    have go : ∀ w', w' = g_la (mC (u.1 16 (t % 8))) r rl.1 b (k + 1) → r_Rs_lookup_51 scr (d + 7) a1 (nI r) (nI b) post ex (m + 1) u (t % 8) w' (nI (k + 1)) := fun w' e => ih (k + 1) u w' (by omega) hvu k2 k1 (Or.inr ⟨_, k3, e⟩) (fun x A g1 g2 g3 => hy x A g1 g2 (hfq.tr g3)) (fun hm => Or.inr ⟨_, k3, by rw [e, show k + 1 = 4 by omega]⟩)
    rw [hval]
    refine S_hasBit (d := d + 6) (fun hno => ⟨fun _ => go w ?_, fun h => absurd rfl h⟩) (fun hyes => ⟨fun h => absurd h (by decide), fun _ => go _ ?_⟩)
    · show w = g_la _ r rl.1 b k ||| (if _ then _ else 0)
      rw [if_neg (fun h => hno ((g_bit_bt (by omega)).mpr h)), ← hwla]
      exact (b_ext (fun i _ => by rw [b_or, b_0, Bool.or_false]))
    · show _ = g_la _ r rl.1 b k ||| (if _ then _ else 0)
      rw [if_pos ((g_bit_bt (by omega)).mp hyes), ← hwla]
theorem S_Rs_lookup {post : Int32 → mSt → Prop} {ex : Nat → mSt → Prop} {a1 a2 a3 : Int32} (h : RQ G s) (e2 : qB G (qL G a2 a3) a1 → ex 2 s) (e3 : ∀ t, qO G (qL G a2 a3) a1 t → ex 3 s) (hy : ∀ t (r : Nat) rl b u A, qF G (qL G a2 a3) a1 t → (g_rs G)[r]? = some rl → a2 = nI r → b < 8 → a3 = nI b → g_isM (g_rs G) (g_at_t G t).1 (mC A) → RC_vs (g_WM G) G u → mx_fr F_q s u → post (g_la (mC A) r rl.1 b 4) u) : X_Rs_lookup scr (d + 8) s a1 a2 a3 ex post := by
  obtain ⟨hw, hr, hv, hc, hx, hk, hK⟩ := h
  have hl9 := hc.1.1
  have no : ¬ qL G a2 a3 → (fun kk s4 => (kk = 1 → ex 1 s4) ∧ (kk = 2 → ex 2 s4) ∧ (kk = 3 → ex 3 s4)) 2 s := fun hno => ⟨fun h => absurd h (by decide), fun _ => e2 (Or.inl hno), fun h => absurd h (by decide)⟩
  refine w_Rs_lookup ⟨5, g_ac0 hc.2.2.1 (fun hac => S_refuse0 (d := d + 6) hr hk hK (no (fun h => by have h9 := h.1; rw [hac] at h9; cases h9))) (fun hac => S_isRelation (d := d + 6) hc (fun h1 => ⟨fun _ => S_refuse0 (d := d + 6) hr hk hK (no (fun h => by obtain ⟨-, ⟨r, hr9, e⟩, -⟩ := h; exact h1 r hr9 e)), fun h => absurd rfl h⟩) (fun r hr9 er => ⟨fun h => absurd h (by decide), fun _ => S_isUser (d := d + 6) (fun h1 => ⟨fun _ => S_refuse0 (d := d + 6) hr hk hK (no (fun h => by obtain ⟨-, -, u, hu, e⟩ := h; exact h1 u hu e)), fun h => absurd rfl h⟩) (fun b hb eb => ⟨fun h => absurd h (by decide), fun _ => ?_⟩)⟩))⟩
  have hN : qL G a2 a3 := ⟨hac, ⟨r, hr9, er⟩, b, hb, eb⟩
  obtain ⟨hacc, hxx⟩ := hx hac
  refine S_refuse (d := d + 6) hr hk hK (fun hc => ⟨fun h => absurd h (by decide), fun _ => e2 (Or.inr (hc.resolve_left (by decide))), fun h => absurd h (by decide)⟩) (fun t _ ht e h9 => ⟨fun h => absurd h (by decide), fun h => absurd h (by decide), fun _ => e3 t ⟨hN, ht, e, h9⟩⟩) (fun t _ ht e h9 => ?_)
  have hF : qF G (qL G a2 a3) a1 t := ⟨hN, ht, e, h9⟩
  have hrl : (g_rs G)[r]? = some (g_rs G)[r] := List.getElem?_eq_getElem hr9
  have hy := hy t r (g_rs G)[r] b
  rw [e, er, eb]
  refine S_versionOf (d := d + 2) hl9 hw hr hv ht (fun u g1 g2 g3 => ?_)
  have hxu : RCx G u := RCx_fr hxx g3 (fun f i j h => by have := h.2; omega)
  have hfq : mx_fr F_q s u := g3.mono (fun f i j h => by have := h.2; unfold F_q; omega)
  exact S_look_51 hac hacc hw hrl hb ht 4 0 u 0 rfl g1 hxu g2 (Or.inl ⟨rfl, rfl⟩) (fun x A k1 k2 k3 => hy x A hF hrl er hb eb k1 k2 (hfq.tr k3)) (fun h => by omega)
def qD (G : gSt) (a2 a3 a4 a5 : Int32) : Prop := qN G a2 a3 ∧ qN G a4 a5
theorem S_Rs_nested {post : Int32 → mSt → Prop} {ex : Nat → mSt → Prop} {a1 a2 a3 a4 a5 : Int32} (h : RQ G s) (e2 : qB G (qD G a2 a3 a4 a5) a1 → ex 2 s) (e3 : ∀ t, qO G (qD G a2 a3 a4 a5) a1 t → ex 3 s) (hy : ∀ t o r rl o' r' rl' u, qF G (qD G a2 a3 a4 a5) a1 t → g_node G a2 a3 o r rl → g_node G a4 a5 o' r' rl' → RC_vs (g_WM G) G u → mx_fr F_q s u → g_far (g_E (g_at_t G t).1) (9 * o + r) (9 * o' + r') → post 1 u) (hn : ∀ t o r rl o' r' rl' u, qF G (qD G a2 a3 a4 a5) a1 t → g_node G a2 a3 o r rl → g_node G a4 a5 o' r' rl' → RC_vs (g_WM G) G u → mx_fr F_q s u → ¬ g_far (g_E (g_at_t G t).1) (9 * o + r) (9 * o' + r') → post 0 u) : X_Rs_nested scr (d + 8) s a1 a2 a3 a4 a5 ex post := by
  obtain ⟨hw, hr, hv, hc, hx, hk, hK⟩ := h
  have hl9 := hc.1.1
  have no : ¬ qD G a2 a3 a4 a5 → (fun kk s4 => (kk = 1 → ex 1 s4) ∧ (kk = 2 → ex 2 s4) ∧ (kk = 3 → ex 3 s4)) 2 s := fun hno => ⟨fun h => absurd h (by decide), fun _ => e2 (Or.inl hno), fun h => absurd h (by decide)⟩
  refine w_Rs_nested (S_mayAsk (d := d + 4) hc (fun o r rl hac hnd => ⟨fun h => absurd h (by decide), fun _ => S_mayAsk (d := d + 4) hc (fun o' r' rl' _ hnd' => ⟨fun h => absurd h (by decide), fun _ => ?_⟩) (fun hno => ⟨fun _ => S_refuse0 (d := d + 6) hr hk hK (no (fun h => hno h.2)), fun h => absurd rfl h⟩)⟩) (fun hno => ⟨fun _ => S_refuse0 (d := d + 6) hr hk hK (no (fun h => hno h.1)), fun h => absurd rfl h⟩))
  have hN : qD G a2 a3 a4 a5 := ⟨⟨o, r, rl, hac, hnd⟩, o', r', rl', hac, hnd'⟩
  refine S_refuse (d := d + 6) hr hk hK (fun hc => ⟨fun h => absurd h (by decide), fun _ => e2 (Or.inr (hc.resolve_left (by decide))), fun h => absurd h (by decide)⟩) (fun t _ ht e h9 => ⟨fun h => absurd h (by decide), fun h => absurd h (by decide), fun _ => e3 t ⟨hN, ht, e, h9⟩⟩) (fun t _ ht e h9 => ?_)
  have hF : qF G (qD G a2 a3 a4 a5) a1 t := ⟨hN, ht, e, h9⟩
  have hy := hy t o r rl o' r' rl'
  have hn := hn t o r rl o' r' rl'
  have hV : g_Vn (g_rs G) o r := ⟨hnd.1, rl, hnd.2.2.1, hnd.2.2.2.2⟩
  have hV' : g_Vn (g_rs G) o' r' := ⟨hnd'.1, rl', hnd'.2.2.1, hnd'.2.2.2.2⟩
  have n1 := hnd.1
  have n2 := hnd'.1
  have q1 := hnd.2.1
  have q2 := hnd.2.2.2.1
  have q3 := hnd'.2.1
  have q4 := hnd'.2.2.2.1
  rw [e, q1, q2, q3, q4]
  refine S_versionOf (d := d + 2) hl9 hw hr hv ht (fun u g1 g2 g3 => S_nodeOf (d := d + 6) (by omega) (S_nodeOf (d := d + 6) (by omega) ?_))
  have hfq : mx_fr F_q s u := g3.mono (fun f i j h => by have := h.2; unfold F_q; omega)
  exact S_leads (d := d + 6) hl9 g2.2.2.2.1 (fun u hu => g_at_w hw hu) hV hV' (fun h => ⟨rfl, hy u hF hnd hnd' g1 hfq h⟩) (fun h => ⟨rfl, hn u hF hnd hnd' g1 hfq h⟩)
end
