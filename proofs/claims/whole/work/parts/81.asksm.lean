def RP (G : gSt) (s : mSt) : Prop := g_wl G ∧ g_oke G ∧ RM_lg G s ∧ RM_cf G s ∧ (g_ac G = true → g_acc (g_rs G) ∧ RMx' G s) ∧ s.1 18 0 0 = nI G.1 ∧ g_okK G
def F_mq (f _ j : Nat) : Prop := (f = 18 ∧ (j = 1 ∨ j = 21)) ∨ (32 ≤ f ∧ f ≤ 37)
section
variable {scr : mSc} {d : Nat} {G : gSt} {s : mSt}
theorem F_mq_mo {f i j : Nat} (h : F_mo f i j) : F_mq f i j := Or.inl ⟨h.1, Or.inl h.2⟩
theorem F_mq_fa {f i j : Nat} (h : F_fa f i j) : F_mq f i j := by
  unfold F_fa at h
  unfold F_mq
  omega
theorem F_mq_ne {f i j : Nat} (h : F_ne f i j) : F_mq f i j := by
  unfold F_ne at h
  unfold F_mq
  omega
theorem S_fine0 {post : Int32 → mSt → Prop} {a1 : Int32} (h : RM_lg G s) (hk : s.1 18 0 0 = nI G.1) (hK : g_okK G) (e1 : ∀ u, u.1 18 0 1 = 1 → mx_fr F_mo s u → post 0 u) : X_Md_isFine scr (d + 2) s a1 0 post := S_isFine h hk hK (fun u _ z f => e1 u z f) (fun u t h0 => absurd rfl h0) (fun u t h0 => absurd rfl h0)
theorem S_MisUser {post : Int32 → mSt → Prop} {a0 : Int32} (hn : (∀ j, j < 8 → ¬ a0 = nI j) → post 0 s) (hy : ∀ j, j < 8 → a0 = nI j → post 1 s) : X_Md_isUser scr (d + 1) s a0 post := w_Md_isUser (g_rng (n := 8) rfl (by omega) (fun h => ⟨rfl, hn h⟩) (fun j hj e => ⟨rfl, hy j hj e⟩))
theorem S_fine1 {post : Int32 → mSt → Prop} {a1 : Int32} {N : Prop} (hN : N) (h : RM_lg G s) (hk : s.1 18 0 0 = nI G.1) (hK : g_okK G) (e1 : ∀ u, qB G N a1 → u.1 18 0 1 = 1 → mx_fr F_mo s u → post 0 u) (e2 : ∀ u t, qO G N a1 t → u.1 18 0 1 = 2 → mx_fr F_mo s u → post 0 u) (hy : ∀ u t, qF G N a1 t → u.1 18 0 1 = 0 → mx_fr F_mo s u → post 1 u) : X_Md_isFine scr (d + 2) s a1 1 post := S_isFine h hk hK (fun u hc z f => e1 u (Or.inr (hc.resolve_left (by decide))) z f) (fun u t _ ht e h9 z f => e2 u t ⟨hN, ht, e, h9⟩ z f) (fun u t _ ht e h9 z f => hy u t ⟨hN, ht, e, h9⟩ z f)
theorem S_fm {post : mSt → Prop} {t : Nat} {a1 : Int32} {u : mSt} (hacc : g_acc (g_rs G)) (hw : g_wl G) (hoke : g_oke G) (hx : RMx' G s) (hf : mx_fr F_mo s u) (hz : u.1 18 0 1 = 0) (ht : t ≤ (g_lg G).length) (ea : a1 = nI t) (hy : ∀ w, g_isM (g_rs G) (g_at_t G t).1 (mM (w.1 33 0)) → RM_cf G w → w.1 18 0 1 = 0 → mx_fr F_mq s w → post w) : X_Md_findMembers scr (d + 5) u a1 post := by
  rw [ea]
  have hxu : RMx' G u := RM_cf_fa hx hf (fun f i j h => Or.inr ⟨h.1, Or.inl h.2⟩)
  refine S_findMembers hacc hw hoke hxu ht (fun w k1 k2 k3 => hy w k1 k2.1 ?_ ((hf.mono (fun f i j h => F_mq_mo h)).tr (k3.mono (fun f i j h => F_mq_fa h))))
  exact (k3.1 18 0 1 (fun h => by unfold F_fa at h; omega)).trans hz
theorem S_Md_expand {post : Int32 → mSt → Prop} {a1 a2 a3 : Int32} (h : RP G s) (e1 : ∀ u, qB G (qN G a2 a3) a1 → u.1 18 0 1 = 1 → mx_fr F_mq s u → post 0 u) (e2 : ∀ u t, qO G (qN G a2 a3) a1 t → u.1 18 0 1 = 2 → mx_fr F_mq s u → post 0 u) (hy : ∀ t o r rl u A, qF G (qN G a2 a3) a1 t → g_node G a2 a3 o r rl → g_isM (g_rs G) (g_at_t G t).1 (mM A) → u.1 18 0 1 = 0 → mx_fr F_mq s u → post (mM A o r) u) : X_Md_expand scr (d + 6) s a1 a2 a3 post := by
  obtain ⟨hw, hoke, hl, hc, hx, hk, hK⟩ := h
  have hl9 := hc.1.1
  have mo : ∀ {u : mSt}, mx_fr F_mo s u → mx_fr F_mq s u := fun hf => hf.mono (fun f i j h => F_mq_mo h)
  refine w_Md_expand (g_ac0 hc.2.2.1 (fun hac => S_fine0 (d := d + 3) hl hk hK (fun u z f => ⟨fun _ => e1 u (Or.inl (fun ⟨_, _, _, h9, _⟩ => by rw [hac] at h9; cases h9)) z (mo f), fun h => absurd rfl h⟩)) (fun hac => S_isOf (d := d + 3) hc (fun h1 => ⟨fun _ => S_fine0 (d := d + 3) hl hk hK (fun u z f => ⟨fun _ => e1 u (Or.inl (fun ⟨o, r, rl, _, h9⟩ => h1 o r rl h9)) z (mo f), fun h => absurd rfl h⟩), fun h => absurd rfl h⟩) (fun o r rl hnd => ⟨fun h => absurd h (by decide), fun _ => ?_⟩)))
  obtain ⟨hacc, hxx⟩ := hx hac
  have n1 := hnd.1
  have n3 := g_len_get hnd.2.2.1
  refine S_fine1 (d := d + 3) (N := qN G a2 a3) ⟨o, r, rl, hac, hnd⟩ hl hk hK (fun u q z f => ⟨fun _ => e1 u q z (mo f), fun h => absurd rfl h⟩) (fun u t q z f => ⟨fun _ => e2 u t q z (mo f), fun h => absurd rfl h⟩) (fun u t q z f => ⟨fun h => absurd h (by decide), fun _ => S_fm hacc hw hoke hxx f z q.2.1 q.2.2.1 (fun w k1 k2 k3 k4 => ?_)⟩)
  have hy := hy t o r rl w (w.1 33 0) q hnd k1 k3 k4
  rw [hnd.2.1, hnd.2.2.2.1, show (9 : Int32) * nI o = nI (9 * o) from pk_mul 9 o, nI_add, pk_cl (x := nI (9 * o + r)) (9 * o + r)]
  exact ⟨pk_in (9 * o + r) 108 (by omega), hy⟩
theorem S_Md_check {post : Int32 → mSt → Prop} {a1 a2 a3 a4 : Int32} (h : RP G s) (e1 : ∀ u, qB G (qC G a2 a3 a4) a1 → u.1 18 0 1 = 1 → mx_fr F_mq s u → post 0 u) (e2 : ∀ u t, qO G (qC G a2 a3 a4) a1 t → u.1 18 0 1 = 2 → mx_fr F_mq s u → post 0 u) (hy : ∀ t o r rl b u A, qF G (qC G a2 a3 a4) a1 t → g_node G a2 a3 o r rl → b < 8 → a4 = nI b → g_isM (g_rs G) (g_at_t G t).1 (mM A) → u.1 18 0 1 = 0 → mx_fr F_mq s u → post (bI (bt (mM A o r) b)) u) : X_Md_check scr (d + 6) s a1 a2 a3 a4 post := by
  obtain ⟨hw, hoke, hl, hc, hx, hk, hK⟩ := h
  have hl9 := hc.1.1
  have mo : ∀ {u : mSt}, mx_fr F_mo s u → mx_fr F_mq s u := fun hf => hf.mono (fun f i j h => F_mq_mo h)
  refine w_Md_check (g_ac0 hc.2.2.1 (fun hac => S_fine0 (d := d + 3) hl hk hK (fun u z f => ⟨fun _ => ⟨rfl, e1 u (Or.inl (fun ⟨⟨_, _, _, h9, _⟩, _⟩ => by rw [hac] at h9; cases h9)) z (mo f)⟩, fun h => absurd rfl h⟩)) (fun hac => S_isOf (d := d + 3) hc (fun h1 => ⟨fun _ => S_fine0 (d := d + 3) hl hk hK (fun u z f => ⟨fun _ => ⟨rfl, e1 u (Or.inl (fun ⟨⟨o, r, rl, _, h9⟩, _⟩ => h1 o r rl h9)) z (mo f)⟩, fun h => absurd rfl h⟩), fun h => absurd rfl h⟩) (fun o r rl hnd => ⟨fun h => absurd h (by decide), fun _ => S_MisUser (d := d + 4) (fun h1 => ⟨fun _ => S_fine0 (d := d + 3) hl hk hK (fun u z f => ⟨fun _ => ⟨rfl, e1 u (Or.inl (fun ⟨_, b, hb, e⟩ => h1 b hb e)) z (mo f)⟩, fun h => absurd rfl h⟩), fun h => absurd rfl h⟩) (fun b hb eb => ⟨fun h => absurd h (by decide), fun _ => ?_⟩)⟩)))
  obtain ⟨hacc, hxx⟩ := hx hac
  have n1 := hnd.1
  have n3 := g_len_get hnd.2.2.1
  refine S_fine1 (d := d + 3) (N := qC G a2 a3 a4) ⟨⟨o, r, rl, hac, hnd⟩, b, hb, eb⟩ hl hk hK (fun u q z f => ⟨fun _ => ⟨rfl, e1 u q z (mo f)⟩, fun h => absurd rfl h⟩) (fun u t q z f => ⟨fun _ => ⟨rfl, e2 u t q z (mo f)⟩, fun h => absurd rfl h⟩) (fun u t q z f => ⟨fun h => absurd h (by decide), fun _ => S_fm hacc hw hoke hxx f z q.2.1 q.2.2.1 (fun w k1 k2 k3 k4 => ?_)⟩)
  have hy := hy t o r rl b w (w.1 33 0) q hnd hb eb k1 k3 k4
  rw [hnd.2.1, hnd.2.2.2.1, eb, show (9 : Int32) * nI o = nI (9 * o) from pk_mul 9 o, nI_add, pk_cl (x := nI (9 * o + r)) (9 * o + r)]
  refine ⟨pk_in (9 * o + r) 108 (by omega), g_bit1 (fun hb1 => ⟨rfl, ?_⟩) (fun hb0 => ⟨rfl, ?_⟩)⟩
  · rw [show bt (mM (w.1 33 0) o r) b = true from (g_bit_bt (by omega)).mp hb1] at hy
    exact hy
  · rw [show bt (mM (w.1 33 0) o r) b = false by
      cases h9 : bt (mM (w.1 33 0) o r) b with
      | false => rfl
      | true => exact absurd ((g_bit_bt (by omega)).mpr h9) hb0] at hy
    exact hy
theorem b_01 (x : Int32) {j k : Nat} (hj : j < 32) (hk : k < 32) : (((x >>> (nI j &&& 31)) &&& (1 : Int32)) <<< (nI k &&& 31)) = if bt x j = true then (1 : Int32) <<< (nI k &&& 31) else 0 := by
  by_cases h : bt x j = true
  · rw [if_pos h]
    have h1 : ¬ (x >>> (nI j &&& 31)) &&& (1 : Int32) = 0 := (g_bit_bt hj).mpr h
    rcases g_b01 (x >>> (nI j &&& 31)) with h2 | h2
    · exact absurd h2 h1
    · rw [h2]
  · rw [if_neg h]
    have h1 : (x >>> (nI j &&& 31)) &&& (1 : Int32) = 0 := by
      rcases g_b01 (x >>> (nI j &&& 31)) with h2 | h2
      · exact h2
      · exfalso
        refine h ((g_bit_bt hj).mp ?_)
        show ¬ _ = 0
        rw [h2]
        decide
    rw [h1]
    exact b_ext (fun i hi => by rw [b_shl k hk 0 hi, b_0, b_0, Bool.and_false])
theorem S_look_48 {post : Int32 → mSt → Prop} {ex : Nat → mSt → Prop} {a1 : Int32} {r b : Nat} {rl : gRl} (hc : RM_cf G s) (hrl : (g_rs G)[r]? = some rl) (hb : b < 8) (hy : post (g_la (mM (s.1 33 0)) r rl.1 b 4) s) : ∀ (m k : Nat), k + m = 4 → r_Md_lookup_48 scr d a1 (nI r) (nI b) post ex (m + 1) s (g_la (mM (s.1 33 0)) r rl.1 b k) (nI k) := by
  have hl9 := hc.1.1
  have hr9 := g_len_get hrl
  have h3 := (hc.1.2 rl (List.mem_of_getElem? hrl)).1
  have hsp := (hc.2.2.2 r rl hrl).1
  intro m
  induction m with
  | zero =>
    intro k hk
    obtain rfl : k = 4 := by omega
    exact w_Md_lookup_48 (pk_le 4 4 (fun _ => hy) (fun h => by omega))
  | succ m ih =>
    intro k hk
    refine w_Md_lookup_48 (pk_le 4 k (fun h => by omega) (fun _ => ⟨pk_in r 9 (by omega), ?_⟩))
    rw [pk_cl (x := nI r) r, hsp, show (4 : Int32) * nI rl.1 = nI (4 * rl.1) from pk_mul 4 rl.1, nI_add, show (9 : Int32) * nI (4 * rl.1 + k) = nI (9 * (4 * rl.1 + k)) from pk_mul 9 _, nI_add, pk_cl (x := nI (9 * (4 * rl.1 + k) + r)) (9 * (4 * rl.1 + k) + r), show nI k + (1 : Int32) = nI (k + 1) from nI_1 k, b_01 _ (by omega) (by omega)]
    exact ⟨pk_in (9 * (4 * rl.1 + k) + r) 108 (by omega), ih (k + 1) (by omega)⟩
theorem S_Md_lookup {post : Int32 → mSt → Prop} {a1 a2 a3 : Int32} (h : RP G s) (e1 : ∀ u, qB G (qL G a2 a3) a1 → u.1 18 0 1 = 1 → mx_fr F_mq s u → post 0 u) (e2 : ∀ u t, qO G (qL G a2 a3) a1 t → u.1 18 0 1 = 2 → mx_fr F_mq s u → post 0 u) (hy : ∀ t (r : Nat) rl b u A, qF G (qL G a2 a3) a1 t → (g_rs G)[r]? = some rl → a2 = nI r → b < 8 → a3 = nI b → g_isM (g_rs G) (g_at_t G t).1 (mM A) → u.1 18 0 1 = 0 → mx_fr F_mq s u → post (g_la (mM A) r rl.1 b 4) u) : X_Md_lookup scr (d + 6) s a1 a2 a3 post := by
  obtain ⟨hw, hoke, hl, hc, hx, hk, hK⟩ := h
  have hl9 := hc.1.1
  have mo : ∀ {u : mSt}, mx_fr F_mo s u → mx_fr F_mq s u := fun hf => hf.mono (fun f i j h => F_mq_mo h)
  refine w_Md_lookup ⟨5, g_ac0 hc.2.2.1 (fun hac => S_fine0 (d := d + 3) hl hk hK (fun u z f => ⟨fun _ => e1 u (Or.inl (fun ⟨h9, _⟩ => by rw [hac] at h9; cases h9)) z (mo f), fun h => absurd rfl h⟩)) (fun hac => S_MisRelation (d := d + 4) hc (fun h1 => ⟨fun _ => S_fine0 (d := d + 3) hl hk hK (fun u z f => ⟨fun _ => e1 u (Or.inl (fun ⟨_, ⟨r, hr9, e⟩, _⟩ => h1 r hr9 e)) z (mo f), fun h => absurd rfl h⟩), fun h => absurd rfl h⟩) (fun r hr9 er => ⟨fun h => absurd h (by decide), fun _ => S_MisUser (d := d + 4) (fun h1 => ⟨fun _ => S_fine0 (d := d + 3) hl hk hK (fun u z f => ⟨fun _ => e1 u (Or.inl (fun ⟨_, _, b, hb, e⟩ => h1 b hb e)) z (mo f), fun h => absurd rfl h⟩), fun h => absurd rfl h⟩) (fun b hb eb => ⟨fun h => absurd h (by decide), fun _ => ?_⟩)⟩))⟩
  obtain ⟨hacc, hxx⟩ := hx hac
  have hrl : (g_rs G)[r]? = some (g_rs G)[r] := List.getElem?_eq_getElem hr9
  refine S_fine1 (d := d + 3) (N := qL G a2 a3) ⟨hac, ⟨r, hr9, er⟩, b, hb, eb⟩ hl hk hK (fun u q z f => ⟨fun _ => e1 u q z (mo f), fun h => absurd rfl h⟩) (fun u t q z f => ⟨fun _ => e2 u t q z (mo f), fun h => absurd rfl h⟩) (fun u t q z f => ⟨fun h => absurd h (by decide), fun _ => S_fm hacc hw hoke hxx f z q.2.1 q.2.2.1 (fun w k1 k2 k3 k4 => ?_)⟩)
  have hy := hy t r _ b w (w.1 33 0) q hrl er hb eb k1 k3 k4
  rw [er, eb]
  exact S_look_48 k2 hrl hb hy 4 0 rfl
theorem S_Md_nested {post : Int32 → mSt → Prop} {a1 a2 a3 a4 a5 : Int32} (h : RP G s) (e1 : ∀ u, qB G (qD G a2 a3 a4 a5) a1 → u.1 18 0 1 = 1 → mx_fr F_mq s u → post 0 u) (e2 : ∀ u t, qO G (qD G a2 a3 a4 a5) a1 t → u.1 18 0 1 = 2 → mx_fr F_mq s u → post 0 u) (hy : ∀ t o r rl o' r' rl' u, qF G (qD G a2 a3 a4 a5) a1 t → g_node G a2 a3 o r rl → g_node G a4 a5 o' r' rl' → g_far (g_E (g_at_t G t).1) (9 * o + r) (9 * o' + r') → u.1 18 0 1 = 0 → mx_fr F_mq s u → post 1 u) (hn : ∀ t o r rl o' r' rl' u, qF G (qD G a2 a3 a4 a5) a1 t → g_node G a2 a3 o r rl → g_node G a4 a5 o' r' rl' → ¬ g_far (g_E (g_at_t G t).1) (9 * o + r) (9 * o' + r') → u.1 18 0 1 = 0 → mx_fr F_mq s u → post 0 u) : X_Md_nested scr (d + 6) s a1 a2 a3 a4 a5 post := by
  obtain ⟨hw, hoke, hl, hc, hx, hk, hK⟩ := h
  have hl9 := hc.1.1
  have mo : ∀ {u : mSt}, mx_fr F_mo s u → mx_fr F_mq s u := fun hf => hf.mono (fun f i j h => F_mq_mo h)
  refine w_Md_nested ⟨((482 * 120 + 1) + 108 + 1) + 1, g_ac0 hc.2.2.1 (fun hac => S_fine0 (d := d + 3) hl hk hK (fun u z f => ⟨fun _ => ⟨rfl, e1 u (Or.inl (fun ⟨⟨_, _, _, h9, _⟩, _⟩ => by rw [hac] at h9; cases h9)) z (mo f)⟩, fun h => absurd rfl h⟩)) (fun hac => S_isOf (d := d + 3) hc (fun h1 => ⟨fun _ => S_fine0 (d := d + 3) hl hk hK (fun u z f => ⟨fun _ => ⟨rfl, e1 u (Or.inl (fun ⟨⟨o, r, rl, _, h9⟩, _⟩ => h1 o r rl h9)) z (mo f)⟩, fun h => absurd rfl h⟩), fun h => absurd rfl h⟩) (fun o r rl hnd => ⟨fun h => absurd h (by decide), fun _ => S_isOf (d := d + 3) hc (fun h1 => ⟨fun _ => S_fine0 (d := d + 3) hl hk hK (fun u z f => ⟨fun _ => ⟨rfl, e1 u (Or.inl (fun ⟨_, o, r, rl, _, h9⟩ => h1 o r rl h9)) z (mo f)⟩, fun h => absurd rfl h⟩), fun h => absurd rfl h⟩) (fun o' r' rl' hnd' => ⟨fun h => absurd h (by decide), fun _ => ?_⟩)⟩))⟩
  have n1 := hnd.1
  have n3 := g_len_get hnd.2.2.1
  have n1' := hnd'.1
  have n3' := g_len_get hnd'.2.2.1
  refine S_fine1 (d := d + 3) (N := qD G a2 a3 a4 a5) ⟨⟨o, r, rl, hac, hnd⟩, o', r', rl', hac, hnd'⟩ hl hk hK (fun u q z f => ⟨fun _ => ⟨rfl, e1 u q z (mo f)⟩, fun h => absurd rfl h⟩) (fun u t q z f => ⟨fun _ => ⟨rfl, e2 u t q z (mo f)⟩, fun h => absurd rfl h⟩) (fun u t q z f => ⟨fun h => absurd h (by decide), fun _ => ?_⟩)
  have hy := hy t o r rl o' r' rl'
  have hn := hn t o r rl o' r' rl'
  have q1 := hnd.2.1
  have q2 := hnd.2.2.2.1
  have q3 := hnd'.2.1
  have q4 := hnd'.2.2.2.1
  have ea := q.2.2.1
  have ht := q.2.1
  have hlu : RM_lg G u := RM_lg_fr hl f (fun h => by cases h.2) (fun h => by cases h.2) (fun h => by cases h.2) (fun j h => by cases h.1) (fun j h => by cases h.1)
  have hcode : ∀ w, mx_fr F_ne u w → w.1 18 0 1 = 0 := fun w fw => (fw.1 18 0 1 (fun h => by unfold F_ne at h; omega)).trans z
  rw [ea, q1, q2, q3, q4]
  exact S_nest_42 (d := d + 3) hw hoke hl9 hlu ht n1 (by omega) n1' (by omega) (fun w hh fw => hy w q hnd hnd' hh (hcode w fw) ((mo f).tr (fw.mono (fun f i j h => F_mq_ne h)))) (fun w hh fw => hn w q hnd hnd' hh (hcode w fw) ((mo f).tr (fw.mono (fun f i j h => F_mq_ne h))))
end
