section
variable {scr : mSc} {d : Nat} {G : gSt} {s : mSt} {r i j δ n : Nat} {rl : gRl} {c : Int32} {post : mSt → Prop} {ex : Nat → mSt → Prop} {v3 : Int32}
theorem N_end (h : RM_cf G s) (hrl : (g_rs G)[r]? = some rl) (hi : (g_tx rl).length ≤ i) (hi2 : i < 2 ^ 20) {v2 : Int32} (h0 : post s) : r_Md_findNeeds_30 scr (d + 4) (nI r) post ex (n + 1) s v2 v3 (nI i) := by
  obtain ⟨h9, hok, h24, hlen, hr⟩ := RM_tx h hrl
  refine w_Md_findNeeds_30 ⟨pk_in r 9 h9, ?_⟩
  rw [pk_cl (x := nI r) r]
  exact pk_le (g_tx rl).length i (fun _ => h0) (fun h => by omega) hlen rfl
set_option maxHeartbeats 2000000 in
theorem N_op (h : RM_cf G s) (hrl : (g_rs G)[r]? = some rl) (hc : (g_tx rl)[i]? = some c) (ho : g_op c = true) {v2 : Int32} (h0 : r_Md_findNeeds_30 scr (d + 4) (nI r) post ex n s v2 (bI (decide (c = 45))) (nI (i + 1))) : r_Md_findNeeds_30 scr (d + 4) (nI r) post ex (n + 1) s v2 v3 (nI i) := by
  obtain ⟨h9, hok, h24, hlen, hr⟩ := RM_tx h hrl
  have hi := g_len_get hc
  have n40 : ¬ c = 40 := fun e => by
    subst e
    cases ho
  have n41 : ¬ c = 41 := fun e => by
    subst e
    cases ho
  refine w_Md_findNeeds_30 ⟨pk_in r 9 h9, ?_⟩
  rw [pk_cl (x := nI r) r, show nI i + (1 : Int32) = nI (i + 1) from nI_1 i]
  refine pk_le (g_tx rl).length i (fun h => by omega) (fun _ => S_Mat h hrl (by omega) (fun c' hc' => ?_) (fun h0 => by rw [hc] at h0; cases h0)) hlen rfl
  rw [hc] at hc'
  cases hc'
  refine S_MisSign (fun _ => ⟨fun h => absurd h (by decide), fun _ => ⟨fun _ => ⟨fun h => absurd h n40, fun _ => ⟨fun h => absurd h n41, fun _ => ⟨fun e => ?_, fun e => ?_⟩⟩⟩, fun h => absurd (by decide) h⟩⟩) (fun h => by rw [ho] at h; cases h)
  · rw [decide_eq_true e] at h0
    exact h0
  · rw [decide_eq_false e] at h0
    exact h0
set_option maxHeartbeats 2000000 in
theorem N_close (h : RM_cf G s) (hrl : (g_rs G)[r]? = some rl) (hc : (g_tx rl)[i]? = some 41) (h0 : r_Md_findNeeds_30 scr (d + 4) (nI r) post ex n s (nI δ) v3 (nI (i + 1))) : r_Md_findNeeds_30 scr (d + 4) (nI r) post ex (n + 1) s (nI (δ + 1)) v3 (nI i) := by
  obtain ⟨h9, hok, h24, hlen, hr⟩ := RM_tx h hrl
  have hi := g_len_get hc
  refine w_Md_findNeeds_30 ⟨pk_in r 9 h9, ?_⟩
  rw [pk_cl (x := nI r) r, show nI i + (1 : Int32) = nI (i + 1) from nI_1 i]
  refine pk_le (g_tx rl).length i (fun h => by omega) (fun _ => S_Mat h hrl (by omega) (fun c' hc' => ?_) (fun h0 => by rw [hc] at h0; cases h0)) hlen rfl
  rw [hc] at hc'
  cases hc'
  refine S_MisSign (fun h => by cases h) (fun _ => ⟨fun _ => ⟨fun h => absurd h (by decide), fun _ => ⟨fun _ => ⟨fun _ => ⟨fun h => absurd h (by decide), fun _ => ⟨fun _ => ?_, fun h => absurd rfl h⟩⟩, fun h => absurd (by decide) h⟩, fun h => absurd rfl h⟩⟩, fun h => absurd rfl h⟩)
  rw [pk_m1]
  exact h0
set_option maxHeartbeats 2000000 in
theorem N_open {u q : Bool} (h : RM_cf G s) (hrl : (g_rs G)[r]? = some rl) (hδ : δ < 6) (hc : (g_tx rl)[i]? = some 40) (hu : s.1 36 0 δ = bI u) (hq : v3 = bI q) (h0 : r_Md_findNeeds_30 scr (d + 4) (nI r) post ex n (mx_si s 36 0 (δ + 1) (bI (u || q))) (nI (δ + 1)) 0 (nI (i + 1))) : r_Md_findNeeds_30 scr (d + 4) (nI r) post ex (n + 1) s (nI δ) v3 (nI i) := by
  obtain ⟨h9, hok, h24, hlen, hr⟩ := RM_tx h hrl
  have hi := g_len_get hc
  refine w_Md_findNeeds_30 ⟨pk_in r 9 h9, ?_⟩
  rw [pk_cl (x := nI r) r, show nI i + (1 : Int32) = nI (i + 1) from nI_1 i, show nI δ + (1 : Int32) = nI (δ + 1) from nI_1 δ]
  refine pk_le (g_tx rl).length i (fun h => by omega) (fun _ => S_Mat h hrl (by omega) (fun c' hc' => ?_) (fun h0 => by rw [hc] at h0; cases h0)) hlen rfl
  rw [hc] at hc'
  cases hc'
  have i1 : vp_in (nI δ) 7 := pk_in δ 7 (by omega)
  have i2 : vp_in (nI (δ + 1)) 7 := pk_in (δ + 1) 7 (by omega)
  refine S_MisSign (fun h => by cases h) (fun _ => ⟨fun _ => ⟨fun _ => ⟨fun _ => ⟨fun _ => ⟨i1, ?_⟩, fun h => absurd rfl h⟩, fun h => absurd (by decide) h⟩, fun h => absurd rfl h⟩, fun h => absurd rfl h⟩)
  rw [pk_cl (x := nI δ) δ, pk_cl (x := nI (δ + 1)) (δ + 1), hu, hq]
  cases u with
  | true => exact ⟨fun h => absurd h (by decide), fun _ => ⟨i2, fun t e => by rw [e]; exact h0⟩⟩
  | false =>
    cases q with
    | true => exact ⟨fun _ => ⟨fun h => absurd h (by decide), fun _ => ⟨i2, fun t e => by rw [e]; exact h0⟩⟩, fun h => absurd rfl h⟩
    | false => exact ⟨fun _ => ⟨fun _ => ⟨i2, fun t e => by rw [e]; exact h0⟩, fun h => absurd rfl h⟩, fun h => absurd rfl h⟩
set_option maxHeartbeats 2000000 in
theorem N_leaf {u q : Bool} {sp : gSp} (h : RM_cf G s) (hrl : (g_rs G)[r]? = some rl) (hδ : δ < 7) (hlf : g_leaf (g_rs G) rl i (u || q) = some (sp, j)) (hu : s.1 36 0 δ = bI u) (hq : v3 = bI q) (h0 : X_Md_needOf scr (d + 4) s (nI r) (nI i) (bI (u || q)) (fun t => r_Md_findNeeds_30 scr (d + 4) (nI r) post ex n t (nI δ) v3 (nI j))) : r_Md_findNeeds_30 scr (d + 4) (nI r) post ex (n + 1) s (nI δ) v3 (nI i) := by
  obtain ⟨h9, hok, h24, hlen, hr⟩ := RM_tx h hrl
  have hj := g_leaf_ok hlf
  have i1 : vp_in (nI δ) 7 := pk_in δ 7 (by omega)
  refine w_Md_findNeeds_30 ⟨pk_in r 9 h9, ?_⟩
  rw [pk_cl (x := nI r) r]
  refine pk_le (g_tx rl).length i (fun h => by omega) (fun _ => S_Mat h hrl (by omega) (fun c hc => ?_) (fun h0 => by rw [g_leaf_e h0] at hlf; cases hlf)) hlen rfl
  have c3 : c = 84 ∨ c = 99 ∨ c = 102 := by
    by_cases e1 : c = 84
    · exact Or.inl e1
    · by_cases e2 : c = 99
      · exact Or.inr (Or.inl e2)
      · by_cases e3 : c = 102
        · exact Or.inr (Or.inr e3)
        · rw [g_leaf_0 hc e1 e2 e3] at hlf
          cases hlf
  have n40 : ¬ c = 40 := by rcases c3 with rfl | rfl | rfl <;> decide
  have n41 : ¬ c = 41 := by rcases c3 with rfl | rfl | rfl <;> decide
  have no : g_op c = false := by rcases c3 with rfl | rfl | rfl <;> rfl
  refine S_MisSign (fun h => by rw [no] at h; cases h) (fun _ => ⟨fun _ => ⟨fun h => absurd h n40, fun _ => ⟨fun h => absurd h n41, fun _ => S_MpartAt (bar := u || q) h hrl (by omega) (fun sp' j' hlf' => ?_) (fun hlf' => by rw [hlf] at hlf'; cases hlf')⟩⟩, fun h => absurd rfl h⟩)
  rw [hlf] at hlf'
  cases hlf'
  have e2 : nI i + nI (j - i) = nI j := by
    rw [nI_add, show i + (j - i) = j by omega]
  rw [e2, pk_cl (x := nI δ) δ, hu]
  refine pk_le (j - i) 0 (fun h => by omega) (fun _ => ⟨i1, ?_⟩)
  cases u with
  | true => exact ⟨fun h => absurd h (by decide), fun _ => h0⟩
  | false =>
    cases q with
    | true => exact ⟨fun _ => ⟨fun h => absurd (hq.symm.trans h) (by decide), fun _ => h0⟩, fun h => absurd rfl h⟩
    | false => exact ⟨fun _ => ⟨fun _ => h0, fun h => absurd hq h⟩, fun h => absurd rfl h⟩
end
