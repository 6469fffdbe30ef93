section
variable {scr : mSc} {d : Nat} {G : gSt} {s : mSt} {r i : Nat} {rl : gRl}
theorem RM_tx (h : RM_cf G s) (hrl : (g_rs G)[r]? = some rl) : r < 9 ∧ g_okR rl ∧ (g_tx rl).length ≤ 24 ∧ s.1 24 0 r = nI (g_tx rl).length ∧ RM_r s r rl := by
  have h1 := g_len_get hrl
  have h2 := h.1.1
  have h3 := h.1.2 rl (List.mem_of_getElem? hrl)
  exact ⟨by omega, h3, h3.2.2.1, (h.2.2.2 r rl hrl).2.2.2.2.1, h.2.2.2 r rl hrl⟩
theorem S_Mat {post : Int32 → mSt → Prop} (h : RM_cf G s) (hrl : (g_rs G)[r]? = some rl) (hi : i < 2 ^ 20) (hy : ∀ c, (g_tx rl)[i]? = some c → post c s) (hn : (g_tx rl)[i]? = none → post (-1) s) : X_Md_at scr (d + 1) s (nI r) (nI i) post := by
  obtain ⟨h9, hok, h24, hlen, hr⟩ := RM_tx h hrl
  refine w_Md_at ⟨pk_in r 9 h9, ?_⟩
  rw [pk_cl (x := nI r) r, show (24 : Int32) * nI r = nI (24 * r) from pk_mul 24 r, nI_add]
  refine pk_le (g_tx rl).length i (fun h1 => hn (List.getElem?_eq_none_iff.mpr h1)) (fun h1 => ⟨pk_in (24 * r + i) 216 (by omega), ?_⟩) hlen rfl
  have hc : (g_tx rl)[i]? = some (g_tx rl)[i] := List.getElem?_eq_getElem h1
  rw [pk_cl (24 * r + i), hr.2.2.2.2.2 i _ hc]
  exact hy _ hc
theorem S_Mnamed {post : Int32 → mSt → Prop} (h : RM_cf G s) (hrl : (g_rs G)[r]? = some rl) (hi : i < 2 ^ 20) (hy : ∀ x, g_nm (g_rs G).length (g_tx rl) i = some x → x < (g_rs G).length → post (nI x) s) (hn : g_nm (g_rs G).length (g_tx rl) i = none → post (-1) s) : X_Md_named scr (d + 2) s (nI r) (nI i) post := by
  have hl := h.1.1
  refine w_Md_named (S_Mat h hrl hi (fun c hc => S_MisRelation h (fun h1 => ⟨fun _ => hn (g_nm_3 hc h1), fun h => absurd rfl h⟩) (fun x hx e => ⟨fun h => absurd h (by decide), fun _ => ?_⟩)) (fun hc => S_MisRelation h (fun h1 => ⟨fun _ => hn (g_nm_0 hc), fun h => absurd rfl h⟩) (fun x hx e => absurd (e ▸ (by decide : (((-1 : Int32) - 48) < 0))) (nI_pos (by omega)))))
  rw [e]
  exact hy x (g_nm_2 hl hc hx e) hx
theorem S_Mspace {x : Nat} (h : RM_cf G s) (hrl : (g_rs G)[r]? = some rl) (hx : x < (g_rs G).length) {A B : Prop} (f : g_sn (g_rs G) rl x = true → A) (g : g_sn (g_rs G) rl x = false → B) : (s.1 19 0 x = s.1 19 0 r → A) ∧ (¬ s.1 19 0 x = s.1 19 0 r → B) := by
  obtain ⟨h9, hok, h24, hlen, hr⟩ := RM_tx h hrl
  have hxe : (g_rs G)[x]? = some (g_rs G)[x] := List.getElem?_eq_getElem hx
  have hokx := h.1.2 _ (List.mem_of_getElem? hxe)
  have b1 := hok.1
  have b2 := hokx.1
  have hsn : g_sn (g_rs G) rl x = decide ((g_rs G)[x].1 = rl.1) := by
    unfold g_sn
    rw [hxe]
    simp
  exact pk_eq (g_rs G)[x].1 rl.1 (fun e => f (by rw [hsn]; exact decide_eq_true e)) (fun e => g (by rw [hsn]; exact decide_eq_false e)) (h.2.2.2 x _ hxe).1 hr.1
theorem S_MpartAt {post : Int32 → mSt → Prop} {bar : Bool} (h : RM_cf G s) (hrl : (g_rs G)[r]? = some rl) (hi : i < 2 ^ 19) (hy : ∀ sp j, g_leaf (g_rs G) rl i bar = some (sp, j) → post (nI (j - i)) s) (hn : g_leaf (g_rs G) rl i bar = none → post 0 s) : X_Md_partAt scr (d + 3) s (nI r) (nI i) post := by
  obtain ⟨h9, hok, h24, hlen, hr⟩ := RM_tx h hrl
  have hl := h.1.1
  have e1 : nI i + (1 : Int32) = nI (i + 1) := nI_1 i
  have e2 : nI i + (2 : Int32) = nI (i + 2) := nI_add i 2
  refine w_Md_partAt (S_Mat h hrl (by omega) (fun c hc => ⟨fun e => ?_, fun n1 => ?_⟩) (fun hc => ⟨fun h => absurd h (by decide), fun _ => ?_⟩))
  · subst e
    have := hy _ _ (g_leaf_T hc)
    rw [show i + 1 - i = 1 by omega] at this
    exact this
  · rw [e1, e2]
    refine S_Mnamed h hrl (by omega) (fun x hx hxl => ?_) (fun hx => ?_)
    · rw [pk_cl (x := nI x) x, pk_cl (x := nI r) r]
      refine ⟨fun e => ⟨fun h => absurd h (nI_pos (by omega)), fun _ => ⟨pk_in x 9 (by omega), pk_in r 9 h9, S_Mspace h hrl hxl (fun hs => ⟨fun _ => ?_, fun h => absurd e h⟩) (fun hs => hn ?_)⟩⟩, fun n2 => ⟨fun e => ⟨fun h => absurd h (nI_pos (by omega)), fun _ => ⟨pk_in x 9 (by omega), pk_in r 9 h9, S_Mspace h hrl hxl (fun hs => ⟨fun h => absurd h n2, fun _ => S_Mnamed h hrl (by omega) (fun y hy9 hyl => ⟨fun _ => ?_, fun h => absurd (Int32.not_lt.mp (nI_pos (by omega))) h⟩) (fun hy9 => ⟨fun h => absurd h (by decide), fun _ => hn ?_⟩)⟩) (fun hs => hn ?_)⟩⟩, fun n3 => hn (g_leaf_0 hc n1 n2 n3)⟩⟩
      · subst e
        have := hy (99, 0, x, bar) (i + 2) (by
          rw [g_leaf_c hc, hx]
          show (if _ then _ else none) = _
          rw [if_pos hs])
        rw [show i + 2 - i = 2 by omega] at this
        exact this
      · subst e
        rw [g_leaf_c hc, hx]
        show (if _ then _ else none) = _
        rw [if_neg (by rw [hs]; decide)]
      · subst e
        have := hy (102, x, y, bar) (i + 3) (by
          rw [g_leaf_f hc, hx]
          show (if _ then _ else none) = _
          rw [if_pos hs, hy9])
        rw [show i + 3 - i = 3 by omega] at this
        exact this
      · subst e
        rw [g_leaf_f hc, hx]
        show (if _ then _ else none) = _
        rw [if_pos hs, hy9]
      · subst e
        rw [g_leaf_f hc, hx]
        show (if _ then _ else none) = _
        rw [if_neg (by rw [hs]; decide)]
    · refine ⟨fun e => ⟨fun _ => hn ?_, fun h => absurd (by decide) h⟩, fun n2 => ⟨fun e => ⟨fun _ => hn ?_, fun h => absurd (by decide) h⟩, fun n3 => hn (g_leaf_0 hc n1 n2 n3)⟩⟩
      · subst e
        rw [g_leaf_c hc, hx]
      · subst e
        rw [g_leaf_f hc, hx]
  · rw [e1]
    exact S_Mnamed h hrl (by omega) (fun x hx hxl => ⟨fun h => absurd h (by decide), fun _ => ⟨fun h => absurd h (by decide), fun _ => hn (g_leaf_e hc)⟩⟩) (fun hx => ⟨fun h => absurd h (by decide), fun _ => ⟨fun h => absurd h (by decide), fun _ => hn (g_leaf_e hc)⟩⟩)
theorem S_MisSign {post : Int32 → mSt → Prop} {c : Int32} (hy : g_op c = true → post 1 s) (hn : g_op c = false → post 0 s) : X_Md_isSign scr (d + 1) s c post := by
  refine w_Md_isSign ⟨fun e => ⟨rfl, hy (by rw [e]; rfl)⟩, fun n1 => ⟨fun e => ⟨rfl, hy (by rw [e]; rfl)⟩, fun n2 => ⟨fun e => ⟨rfl, hy (by rw [e]; rfl)⟩, fun n3 => ⟨rfl, hn ?_⟩⟩⟩⟩
  unfold g_op
  rw [decide_eq_false n1, decide_eq_false n2, decide_eq_false n3]
  rfl
end
section
variable {scr : mSc} {d : Nat} {G : gSt} {s : mSt} {r i δ n : Nat} {rl : gRl} {c : Int32} {post : Int32 → mSt → Prop} {ex : Nat → mSt → Prop}
set_option maxHeartbeats 2000000 in
theorem M_part {bar : Bool} (h : RM_cf G s) (hrl : (g_rs G)[r]? = some rl) (hδ : δ ≤ 5) (hc : (g_tx rl)[i]? = some c) (hleaf : ∀ sp j, g_leaf (g_rs G) rl i bar = some (sp, j) → r_Md_isRule_18 scr (d + 3) (nI r) post ex n s (nI δ) 1 (nI j)) (hopen : c = 40 → δ < 5 → r_Md_isRule_18 scr (d + 3) (nI r) post ex n s (nI (δ + 1)) 0 (nI (i + 1))) (hbad : g_leaf (g_rs G) rl i bar = none → ¬ (c = 40 ∧ δ < 5) → post 0 s) : r_Md_isRule_18 scr (d + 3) (nI r) post ex (n + 1) s (nI δ) 0 (nI i) := by
  obtain ⟨h9, hok, h24, hlen, hr⟩ := RM_tx h hrl
  have hi := g_len_get hc
  refine w_Md_isRule_18 ⟨pk_in r 9 h9, ?_⟩
  rw [pk_cl (x := nI r) r, show nI δ + (1 : Int32) = nI (δ + 1) from nI_1 δ, show nI i + (1 : Int32) = nI (i + 1) from nI_1 i]
  refine pk_le (g_tx rl).length i (fun h => by omega) (fun _ => S_Mat h hrl (by omega) (fun c' hc' => ?_) (fun h0 => by rw [hc] at h0; cases h0)) hlen rfl
  rw [hc] at hc'
  cases hc'
  refine ⟨fun _ => S_MpartAt (bar := bar) h hrl (by omega) (fun sp j hlf => ?_) (fun hlf => ?_), fun h => absurd rfl h⟩
  · have hj := (g_leaf_ok hlf).1
    have hj2 := (g_leaf_ok hlf).2.1
    refine pk_le (j - i) 0 (fun h => by omega) (fun _ => ?_)
    rw [nI_add, show i + (j - i) = j by omega]
    exact hleaf sp j hlf
  · exact ⟨fun _ => ⟨fun _ => ⟨fun e40 => pk_le 5 δ (fun h5 => ⟨fun h => absurd h (by decide), fun _ => ⟨fun h => absurd h (by decide), fun _ => ⟨rfl, hbad hlf (fun h => by omega)⟩⟩⟩) (fun h5 => hopen e40 h5), fun n40 => ⟨fun h => absurd h (by decide), fun _ => ⟨fun h => absurd h (by decide), fun _ => ⟨rfl, hbad hlf (fun h => n40 h.1)⟩⟩⟩⟩, fun h => absurd rfl h⟩, fun h => absurd (by decide) h⟩
set_option maxHeartbeats 2000000 in
theorem M_sign (h : RM_cf G s) (hrl : (g_rs G)[r]? = some rl) (hδ : δ ≤ 5) (hc : (g_tx rl)[i]? = some c) (hclose : ∀ e, c = 41 → δ = e + 1 → r_Md_isRule_18 scr (d + 3) (nI r) post ex n s (nI e) 1 (nI (i + 1))) (hop : g_op c = true → r_Md_isRule_18 scr (d + 3) (nI r) post ex n s (nI δ) 0 (nI (i + 1))) (hbad : g_op c = false → ¬ (c = 41 ∧ 0 < δ) → post 0 s) : r_Md_isRule_18 scr (d + 3) (nI r) post ex (n + 1) s (nI δ) 1 (nI i) := by
  obtain ⟨h9, hok, h24, hlen, hr⟩ := RM_tx h hrl
  have hi := g_len_get hc
  refine w_Md_isRule_18 ⟨pk_in r 9 h9, ?_⟩
  rw [pk_cl (x := nI r) r, show nI i + (1 : Int32) = nI (i + 1) from nI_1 i]
  refine pk_le (g_tx rl).length i (fun h => by omega) (fun _ => S_Mat h hrl (by omega) (fun c' hc' => ?_) (fun h0 => by rw [hc] at h0; cases h0)) hlen rfl
  rw [hc] at hc'
  cases hc'
  refine ⟨fun h => absurd h (by decide), fun _ => ⟨fun _ => ⟨fun h => absurd h (by decide), fun _ => ⟨fun _ => ⟨fun e41 => pk_le δ 0 (fun h0 => ⟨fun _ => S_MisSign (fun ho => ⟨fun h => absurd h (by decide), fun _ => hop ho⟩) (fun ho => ⟨fun _ => ⟨rfl, hbad ho (fun h => by omega)⟩, fun h => absurd rfl h⟩), fun h => absurd rfl h⟩) (fun h0 => ?_), fun n41 => ⟨fun _ => S_MisSign (fun ho => ⟨fun h => absurd h (by decide), fun _ => hop ho⟩) (fun ho => ⟨fun _ => ⟨rfl, hbad ho (fun h => n41 h.1)⟩, fun h => absurd rfl h⟩), fun h => absurd rfl h⟩⟩, fun h => absurd rfl h⟩⟩, fun h => absurd (by decide) h⟩⟩
  obtain ⟨e, rfl⟩ : ∃ e, δ = e + 1 := ⟨δ - 1, by omega⟩
  rw [pk_m1]
  exact hclose e e41 rfl
theorem M_end1 (h : RM_cf G s) (hrl : (g_rs G)[r]? = some rl) (hδ : δ ≤ 5) (hi : (g_tx rl).length ≤ i) (hi2 : i < 2 ^ 20) (h0 : 0 < δ → post 0 s) (h1 : δ = 0 → post 1 s) : r_Md_isRule_18 scr (d + 3) (nI r) post ex (n + 1) s (nI δ) 1 (nI i) := by
  obtain ⟨h9, hok, h24, hlen, hr⟩ := RM_tx h hrl
  refine w_Md_isRule_18 ⟨pk_in r 9 h9, ?_⟩
  rw [pk_cl (x := nI r) r]
  exact pk_le (g_tx rl).length i (fun _ => ⟨fun _ => pk_eq δ 0 (fun e => ⟨rfl, h1 e⟩) (fun e => ⟨rfl, h0 (by omega)⟩), fun h => absurd rfl h⟩) (fun h => by omega) hlen rfl
theorem M_end0 (h : RM_cf G s) (hrl : (g_rs G)[r]? = some rl) (hi : (g_tx rl).length ≤ i) (hi2 : i < 2 ^ 20) (h0 : post 0 s) : r_Md_isRule_18 scr (d + 3) (nI r) post ex (n + 1) s (nI δ) 0 (nI i) := by
  obtain ⟨h9, hok, h24, hlen, hr⟩ := RM_tx h hrl
  refine w_Md_isRule_18 ⟨pk_in r 9 h9, ?_⟩
  rw [pk_cl (x := nI r) r]
  exact pk_le (g_tx rl).length i (fun _ => ⟨fun h => absurd h (by decide), fun _ => ⟨rfl, h0⟩⟩) (fun h => by omega) hlen rfl
end
