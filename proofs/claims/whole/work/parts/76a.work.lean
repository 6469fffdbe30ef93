theorem g_rule_24 {rs : List gRl} {rl : gRl} {P : gPr} (h24 : (g_tx rl).length ≤ 24) (h : g_rule rs rl = some P) : P.1.length ≤ 24 := by
  unfold g_rule at h
  split at h
  · cases h
    show 1 ≤ 24
    omega
  · split at h
    · cases h
    · rename_i q hq
      have h1 := g_ex_ok _ _ _ q.1 q.2 hq
      split at h
      · cases h
        omega
      · cases h
def F_17 (v f i _ : Nat) : Prop := f = 17 ∧ i = v
def F_vs (v f i j : Nat) : Prop := i = v ∧ (f = 16 ∨ f = 17 ∨ (f = 14 ∧ j = 3))
def SK (s : mSt) (v : Nat) (σ : List Int32) : Prop := ∀ i w, σ.reverse[i]? = some w → s.1 17 v i = w
section
variable {scr : mSc} {d : Nat} {G : gSt} {s : mSt} {v o r : Nat} {p : (gTp → Bool) × Nat} {rl : gRl} {P : gPr}
theorem SK_push {σ : List Int32} {w : Int32} (h : SK s v σ) : SK (mx_si s 17 v σ.length w) v (w :: σ) := by
  intro i x hx
  rw [List.reverse_cons] at hx
  rcases g_app_get hx with ⟨h1, h2⟩ | ⟨h1, rfl⟩
  · rw [List.length_reverse] at h1
    rw [mx_si_n (by omega)]
    exact h i x h2
  · rw [List.length_reverse] at h1
    rw [h1, mx_si_s]
theorem SK_2 {σ : List Int32} {a b : Int32} (h : SK s v (b :: a :: σ)) : s.1 17 v σ.length = a ∧ s.1 17 v (σ.length + 1) = b ∧ SK s v σ := by
  have e : (b :: a :: σ).reverse = (σ.reverse ++ [a]) ++ [b] := by
    rw [List.reverse_cons, List.reverse_cons]
  refine ⟨h _ _ ?_, h _ _ ?_, fun i w hi => h i w ?_⟩
  · rw [e, List.getElem?_append_left (by rw [List.length_append, List.length_reverse]; show _ < _ + 1; omega), List.getElem?_append_right (by rw [List.length_reverse]; exact Nat.le_refl _), List.length_reverse, Nat.sub_self]
    rfl
  · rw [e, List.getElem?_append_right (by rw [List.length_append, List.length_reverse]; exact Nat.le_refl _), List.length_append, List.length_reverse]
    show [b][σ.length + 1 - (σ.length + 1)]? = _
    rw [Nat.sub_self]
    rfl
  · have hl := g_len_get hi
    rw [e, List.getElem?_append_left (by rw [List.length_append]; omega), List.getElem?_append_left hl]
    exact hi
theorem S_joined {post : Int32 → mSt → Prop} {c a b : Int32} (h : post (g_jn c a b) s) : X_Vs_joined scr (d + 1) s c a b post := by
  unfold g_jn at h
  refine w_Vs_joined ⟨fun e => ?_, fun n1 => ⟨fun e => ?_, fun n2 => ?_⟩⟩
  · rw [if_pos e] at h
    exact h
  · rw [if_neg n1, if_pos e] at h
    exact h
  · rw [if_neg n1, if_neg n2] at h
    exact h
theorem RC_cf_17 {t : mSt} (h : RC_cf G s) (hf : mx_fr (F_17 v) s t) : RC_cf G t := RC_cf_fr h hf (fun h => by cases h.1) (fun h => by cases h.1) (fun i j _ h => by cases h.1) (fun i j h => by cases h.1)
set_option maxHeartbeats 4000000 in
theorem S_work_11 {post : Int32 → mSt → Prop} {ex : Nat → mSt → Prop} (hp : ∀ u, p.1 u = true → g_wu G u) (hrl : (g_rs G)[r]? = some rl) (ho : o < 12) (hns : rl.1 = o / 4) (hP : g_rule (g_rs G) rl = some P) : ∀ (m q : Nat) (s : mSt) (σ : List Int32), q + m = P.1.length → RC_cf G s → RT1 s r P.1 → RC_tp G (s.2.1 15 v) p → σ.length ≤ q → SK s v σ → (∀ t, t.1 17 v 0 = (match g_run (g_env (g_rs G) p.1 (mC (s.1 16 v)) o r) (P.1.drop q) σ with | w :: [] => w | _ => t.1 17 v 0) → mx_fr (F_17 v) s t → post (t.1 17 v 0) t) → r_Vs_workOut_11 scr (d + 3) v (nI r) (nI (o % 4)) post ex (m + 1) s r (nI σ.length) (nI q) := by
  intro m
  induction m with
  | zero =>
    intro q s σ hq h hT hA hσ hS hy
    have hl := h.1.1
    have h24 := g_rule_24 (h.1.2 rl (List.mem_of_getElem? hrl)).2.2.1 hP
    obtain rfl : q = P.1.length := by omega
    refine w_Vs_workOut_11 (pk_le P.1.length P.1.length (fun _ => ⟨pk_in 0 24 (by omega), ?_⟩) (fun h => by omega) hT.1 rfl)
    rw [List.drop_length] at hy
    refine hy s ?_ mx_fr.rf
    show _ = (match σ with | w :: [] => w | _ => s.1 17 v 0)
    split
    · rename_i w
      exact hS 0 w rfl
    · rfl
  | succ m ih =>
    intro q s σ hq h hT hA hσ hS hy
    have hl := h.1.1
    have hr9 : r < 9 := by have := g_len_get hrl; omega
    have hokr := h.1.2 rl (List.mem_of_getElem? hrl)
    have h24 := g_rule_24 hokr.2.2.1 hP
    have hok3 : ∀ rl ∈ g_rs G, rl.1 < 3 := fun rl hrl => (h.1.2 rl hrl).1
    have hV : g_Vn (g_rs G) o r := ⟨ho, rl, hrl, hns⟩
    obtain ⟨sp, hsp⟩ : ∃ sp, P.1[q]? = some sp := ⟨_, List.getElem?_eq_getElem (by omega)⟩
    obtain ⟨k7, k8, k9⟩ := hT.2 q sp hsp
    have hdrop : P.1.drop q = sp :: P.1.drop (q + 1) := by
      rw [List.drop_eq_getElem_cons (show q < P.1.length by omega)]
      congr 1
      rw [List.getElem?_eq_getElem (show q < P.1.length by omega)] at hsp
      exact Option.some.inj hsp
    have hspok := (g_rule_ok hP).2.1 sp (List.mem_of_getElem? hsp)
    rw [hdrop] at hy
    have hy : ∀ t, t.1 17 v 0 = (match g_run (g_env (g_rs G) p.1 (mC (s.1 16 v)) o r) (P.1.drop (q + 1)) (g_stp (g_env (g_rs G) p.1 (mC (s.1 16 v)) o r) sp σ) with | w :: [] => w | _ => t.1 17 v 0) → mx_fr (F_17 v) s t → post (t.1 17 v 0) t := hy
    have e16 : ∀ t, mx_fr (F_17 v) s t → t.1 16 v = s.1 16 v := fun t hf => funext fun j => hf.1 16 v j (fun h => by cases h.1)
    have step : ∀ (t : mSt) (σ' : List Int32), mx_fr (F_17 v) s t → σ'.length ≤ q + 1 → SK t v σ' → σ' = g_stp (g_env (g_rs G) p.1 (mC (s.1 16 v)) o r) sp σ → r_Vs_workOut_11 scr (d + 3) v (nI r) (nI (o % 4)) post ex (m + 1) t r (nI σ'.length) (nI (q + 1)) := fun t σ' hf hl' hS' e => by
      refine ih (q + 1) t σ' (by omega) (RC_cf_17 h hf) ⟨(hf.1 5 r 9 (fun h => by cases h.1)).trans hT.1, fun q' sp' hq' => ?_⟩ ?_ hl' hS' (fun u hu hfu => hy u ?_ (hf.tr hfu))
      · obtain ⟨j7, j8, j9⟩ := hT.2 q' sp' hq'
        exact ⟨(hf.1 _ _ _ (fun h => by cases h.1)).trans j7, (hf.1 _ _ _ (fun h => by cases h.1)).trans j8, (hf.1 _ _ _ (fun h => by cases h.1)).trans j9⟩
      · rw [show t.2.1 15 v = s.2.1 15 v from funext fun j => hf.2.1 15 v j (fun h => by cases h.1)]
        exact hA
      · rw [e16 t hf, e] at hu
        exact hu
    have push : ∀ w, w = g_env (g_rs G) p.1 (mC (s.1 16 v)) o r sp → g_lf (g_rs G) rl sp → ∀ t, t = mx_si s 17 v σ.length w → r_Vs_workOut_11 scr (d + 3) v (nI r) (nI (o % 4)) post ex (m + 1) t r (nI (σ.length + 1)) (nI (q + 1)) := fun w hw hlf t e => by
      subst e
      refine step _ (w :: σ) (mx_fr.si ⟨rfl, rfl⟩) (by show σ.length + 1 ≤ _; omega) (SK_push hS) ?_
      unfold g_stp
      rw [if_pos (g_lf_3 hlf), hw]
    have n4 : o % 4 % 4 = o % 4 := by omega
    refine w_Vs_workOut_11 (pk_le P.1.length q (fun h => by omega) (fun _ => ⟨pk_in q 24 (by omega), pk_in q 24 (by omega), ?_⟩) hT.1 rfl)
    rw [pk_cl (x := nI q) q, pk_cl (x := nI σ.length) σ.length, k7, k8, k9, show nI q + (1 : Int32) = nI (q + 1) from nI_1 q, show nI σ.length + (1 : Int32) = nI (σ.length + 1) from nI_1 _]
    have iσ : vp_in (nI σ.length) 24 := pk_in σ.length 24 (by omega)
    refine ⟨fun e84 => ?_, fun n84 => ⟨fun e99 => ?_, fun n99 => ⟨fun e102 => ?_, fun n102 => ?_⟩⟩⟩
    · have hlf : g_lf (g_rs G) rl sp := by
        rcases hspok with h9 | ⟨h9, -⟩
        · exact h9
        · rw [e84] at h9
          cases h9
      refine S_nodeOf (by omega) ?_
      show X_Vs_tupleMembers scr (d + 3) s v (nI (r * 4 + o % 4 % 4)) _
      rw [n4]
      refine S_tupm hl hA hp hV ⟨iσ, push _ ?_ hlf⟩
      unfold g_env
      rw [if_pos e84]
    · have hlf : g_lf (g_rs G) rl sp := by
        rcases hspok with h9 | ⟨h9, -⟩
        · exact h9
        · rw [e99] at h9
          cases h9
      have hx : sp.2.2.1 < (g_rs G).length := by
        rcases hlf with ⟨e, -⟩ | ⟨-, -, h9, -⟩ | ⟨e, -⟩
        · exact absurd e n84
        · exact h9
        · rw [e99] at e
          exact absurd e (by decide)
      refine S_nodeOf (by omega) ⟨pk_in (sp.2.2.1 * 4 + o % 4 % 4) 36 (by omega), iσ, ?_⟩
      rw [pk_cl (x := nI (sp.2.2.1 * 4 + o % 4 % 4)) (sp.2.2.1 * 4 + o % 4 % 4), n4]
      refine push _ ?_ hlf
      unfold g_env
      rw [if_neg n84, if_pos e99]
      rfl
    · have hlf : g_lf (g_rs G) rl sp := by
        rcases hspok with h9 | ⟨h9, -⟩
        · exact h9
        · rw [e102] at h9
          cases h9
      have hx : sp.2.1 < (g_rs G).length ∧ g_sn (g_rs G) rl sp.2.1 = true ∧ sp.2.2.1 < (g_rs G).length := by
        rcases hlf with ⟨e, -⟩ | ⟨e, -⟩ | ⟨-, h9⟩
        · exact absurd e n84
        · exact absurd e n99
        · exact h9
      refine ⟨pk_in q 24 (by omega), S_nodeOf (by omega) ⟨pk_in sp.2.2.1 9 (by omega), ?_⟩⟩
      have hxe : (g_rs G)[sp.2.2.1]? = some (g_rs G)[sp.2.2.1] := List.getElem?_eq_getElem hx.2.2
      have hnx : s.1 5 sp.2.2.1 0 = nI (g_nsp (g_rs G) sp.2.2.1) := by
        rw [(h.2.2.2.1 _ _ hxe).1]
        unfold g_nsp
        rw [hxe]
      rw [pk_cl (x := nI sp.2.2.1) sp.2.2.1, hnx, n4]
      refine S_objm hok3 hl hA hp (g_sn_V ho hrl hns hx.2.1) hx.2.2 ⟨iσ, push _ ?_ hlf⟩
      unfold g_env
      rw [if_neg n84, if_neg n99]
    · have nlf : ¬ (sp.1 = 84 ∨ sp.1 = 99 ∨ sp.1 = 102) := fun h => by
        rcases h with h | h | h
        · exact n84 h
        · exact n99 h
        · exact n102 h
      have est : g_stp (g_env (g_rs G) p.1 (mC (s.1 16 v)) o r) sp σ = match σ with
          | b :: a :: σ => g_jn sp.1 a b :: σ
          | _ => σ := by
        unfold g_stp
        rw [if_neg nlf]
        rfl
      refine pk_le σ.length 1 (fun h1 => ?_) (fun h1 => ?_)
      · refine step s σ mx_fr.rf (by omega) hS ?_
        rw [est]
        match σ, h1 with
        | [], _ => rfl
        | [a], _ => rfl
        | b :: a :: σ', h1 => exact absurd (show σ'.length + 1 + 1 ≤ 1 from h1) (by omega)
      · obtain ⟨b, a, σ', rfl⟩ : ∃ b a σ', σ = b :: a :: σ' := by
          match σ, h1 with
          | [], h1 => exact absurd (show 1 < 0 from h1) (by omega)
          | [a], h1 => exact absurd (show 1 < 1 from h1) (by omega)
          | b :: a :: σ', _ => exact ⟨b, a, σ', rfl⟩
        have hσ' : σ'.length + 1 + 1 ≤ q := hσ
        obtain ⟨j1, j2, j3⟩ := SK_2 hS
        have e1 : nI (b :: a :: σ').length + (-1 : Int32) = nI (σ'.length + 1) := pk_m1 _
        have e2 : nI (σ'.length + 1) - (1 : Int32) = nI σ'.length := nI_pred _
        rw [e1, e2, pk_cl (x := nI σ'.length) σ'.length, pk_cl (x := nI (σ'.length + 1)) (σ'.length + 1), j1, j2]
        refine ⟨pk_in σ'.length 24 (by omega), pk_in (σ'.length + 1) 24 (by omega), S_joined ⟨pk_in σ'.length 24 (by omega), fun t e => ?_⟩⟩
        subst e
        exact step _ (g_jn sp.1 a b :: σ') (mx_fr.si ⟨rfl, rfl⟩) (by show σ'.length + 1 ≤ _; omega) (SK_push j3) est.symm
theorem S_work {post : Int32 → mSt → Prop} (hp : ∀ u, p.1 u = true → g_wu G u) (hrl : (g_rs G)[r]? = some rl) (ho : o < 12) (hns : rl.1 = o / 4) (h : RC_cf G s) (hT : RTb G s r rl) (hA : RC_tp G (s.2.1 15 v) p) (hy : ∀ t, mx_fr (F_17 v) s t → post (g_F (g_rs G) p.1 (mC (s.1 16 v)) o r) t) : X_Vs_workOut scr (d + 4) s v (nI r) (nI (o % 4)) post := by
  have hl := h.1.1
  have hr9 : r < 9 := by have := g_len_get hrl; omega
  obtain ⟨P, hP, hT1, -⟩ := hT
  refine w_Vs_workOut ⟨P.1.length + 1, pk_in r 9 hr9, ?_⟩
  rw [pk_cl (x := nI r) r]
  refine S_work_11 hp hrl ho hns hP P.1.length 0 s [] (by omega) h hT1 hA (Nat.le_refl _) (fun i w hi => by cases hi) (fun t ht hf => ?_)
  rw [List.drop_zero, (g_rule_ok hP).2.2.2.1] at ht
  have ht : t.1 17 v 0 = P.2 (g_env (g_rs G) p.1 (mC (s.1 16 v)) o r) := ht
  rw [ht, ← g_F_eq hrl hP]
  exact hy t hf
end
