def g_wB (G : gSt) (l : List gCh) : gSt := (G.1, G.2.1, G.2.2.1, l, G.2.2.2.2)
def g_cm (G : gSt) : gSt := (G.1, G.2.1, G.2.2.1, [], G.2.2.2.2 ++ [g_bt G])
def F_cm (f _ j : Nat) : Prop := (f = 0 ∧ j = 3) ∨ f = 11 ∨ f = 12 ∨ (f = 14 ∧ j = 0)
theorem F_cm_f {f i j : Nat} (h : F_forget f i j) : F_cm f i j := by
  rcases h with ⟨h1, -, h2⟩ | ⟨h1, -, h2⟩
  · exact Or.inl ⟨h1, h2⟩
  · exact Or.inr (Or.inr (Or.inr ⟨h1, h2⟩))
theorem g_fb_len {b : List gCh} : (g_fb b).length = b.length + 1 := by simp [g_fb]
section
variable {scr : mSc} {d : Nat} {s t : mSt} {G : gSt}
theorem RC_lg_fr {P : Nat → Nat → Nat → Prop} (h : RC_lg G s) (hf : mx_fr P s t) (h1 : ∀ i j, ¬ P 11 i j) (h2 : ∀ q, q < (g_fl (g_lg G)).length → t.1 12 0 q = s.1 12 0 q) : RC_lg G t := by
  obtain ⟨hk, hl, hm, hr⟩ := h
  exact ⟨hk, (hf.1 _ _ _ (h1 _ _)).trans hl, (hf.1 _ _ _ (h1 _ _)).trans hm, fun j x hj => (h2 j (g_len_get hj)).trans (hr j x hj)⟩
theorem RC_bt_nil (h : t.1 0 0 3 = 0) (hG : g_bt G = []) : RC_bt G t := by
  unfold RC_bt
  rw [hG]
  exact ⟨⟨Nat.zero_le _, fun c h => by cases h⟩, h, fun i c h => by cases h⟩
theorem RC_lg_cm {b : Nat} (hb : RC_bt G s) (hl : RC_lg G s) (hbn : ¬ g_bt G = []) (hroom : (g_fl (g_lg G)).length + (g_bt G).length + 1 ≤ 120) (eb : b = (g_bt G).length) (h11 : t.1 11 0 1 = nI ((g_fl (g_lg G)).length + b + 1)) (h112 : t.1 11 0 2 = nI ((g_lg G).length + 1)) (h3 : ∀ q, q < (g_fl (g_lg G)).length → t.1 12 0 q = s.1 12 0 q) (h2 : ∀ q, q < b → t.1 12 0 ((g_fl (g_lg G)).length + q) = s.1 10 0 q) (h4 : t.1 12 0 ((g_fl (g_lg G)).length + b) = -1) : RC_lg (g_cm G) t := by
  subst eb
  have e : g_fl (g_lg (g_cm G)) = g_fl (g_lg G) ++ g_fb (g_bt G) := g_fl_a
  have el : (g_fl (g_lg (g_cm G))).length = (g_fl (g_lg G)).length + (g_bt G).length + 1 := by
    rw [e, List.length_append, g_fb_len]
    omega
  refine ⟨⟨by rw [el]; exact hroom, fun b hb9 => ?_⟩, by rw [el]; exact h11, ?_, fun j x hj => ?_⟩
  · rcases List.mem_append.mp (show b ∈ g_lg G ++ [g_bt G] from hb9) with h | h
    · exact hl.1.2 b h
    · obtain rfl := List.mem_singleton.mp h
      exact ⟨hbn, hb.1.2⟩
  · show _ = nI (g_lg G ++ [g_bt G]).length
    rw [g_len1]
    exact h112
  · rw [e] at hj
    by_cases hjl : j < (g_fl (g_lg G)).length
    · rw [List.getElem?_append_left hjl] at hj
      rw [h3 j hjl]
      exact hl.2.2.2 j x hj
    · rw [List.getElem?_append_right (by omega)] at hj
      obtain ⟨q, rfl⟩ : ∃ q, j = (g_fl (g_lg G)).length + q := ⟨j - (g_fl (g_lg G)).length, by omega⟩
      rw [show (g_fl (g_lg G)).length + q - (g_fl (g_lg G)).length = q by omega] at hj
      have hq := g_len_get hj
      rw [g_fb_len] at hq
      rcases g_app_get (show ((g_bt G).map g_pk ++ [-1])[q]? = some x from hj) with ⟨h9, h8⟩ | ⟨h9, rfl⟩
      · rw [List.length_map] at h9
        rw [List.getElem?_map] at h8
        cases h7 : (g_bt G)[q]? with
        | none =>
          rw [h7] at h8
          cases h8
        | some c =>
          rw [h7] at h8
          cases h8
          rw [h2 q h9]
          exact hb.2.2 q c h7
      · rw [List.length_map] at h9
        rw [h9]
        exact h4
set_option maxHeartbeats 4000000 in
theorem S_Rs_commit {post : Int32 → mSt → Prop} {ex : Nat → mSt → Prop} {a1 : Int32} (hb : RC_bt G s) (hl : RC_lg G s) (hno : g_bt G = [] ∨ 120 < (g_fl (g_lg G)).length + (g_bt G).length + 1 → ex 3 s)
    (hcut : ∀ w t, w < (g_bt G).length + 1 → a1 = nI w → ¬ g_bt G = [] → (g_fl (g_lg G)).length + (g_bt G).length + 1 ≤ 120 → RC_bt (g_wB G []) t → RC_lg (g_wB G []) t → mx_fr F_cm s t → (∀ v, v < 8 → t.1 14 v 0 = -1) → post (-1) t)
    (hyes : ∀ t, (a1 < 0 ∨ nI ((g_bt G).length + 1) ≤ a1) → ¬ g_bt G = [] → (g_fl (g_lg G)).length + (g_bt G).length + 1 ≤ 120 → RC_bt (g_cm G) t → RC_lg (g_cm G) t → mx_fr F_cm s t → ((∀ v, v < 8 → t.1 14 v 0 = -1) ∨ ∀ v, t.1 14 v 0 = s.1 14 v 0) → post (nI ((g_lg G).length + 1)) t) : X_Rs_commit scr (d + 3) s a1 ex post := by
  have hb0 := hb
  have hl0 := hl
  obtain ⟨⟨hb5, hbk⟩, hbc, hbr⟩ := hb
  obtain ⟨⟨hll, hlk⟩, hlc, hlm, hlr⟩ := hl
  have hlm9 : (g_lg G).length ≤ 120 := by
    have go : ∀ l : List (List gCh), l.length ≤ (g_fl l).length := fun l => by
      induction l with
      | nil => exact Nat.le_refl _
      | cons b l ih =>
        show l.length + 1 ≤ (g_fb b ++ g_fl l).length
        rw [List.length_append, g_fb_len]
        omega
    exact Nat.le_trans (go _) hll
  have hdue : s.1 0 0 3 + (1 : Int32) = nI ((g_bt G).length + 1) := by
    rw [hbc]
    exact nI_1 _
  have hnil : (g_bt G).length = 0 → g_bt G = [] := List.eq_nil_of_length_eq_zero
  by_cases hc : a1 < 0 ∨ nI ((g_bt G).length + 1) ≤ a1
  · refine w_Rs_commit ⟨(g_bt G).length + 1, pk_eq (g_bt G).length 0 (fun h0 => hno (Or.inl (hnil h0))) (fun h0 => ?_) hbc rfl⟩
    have hbn : ¬ g_bt G = [] := fun h => h0 (by rw [h]; rfl)
    rw [hdue]
    refine S_hasRoomFor hlc hll (by omega) (fun hr => ⟨fun _ => hno (Or.inr (by omega)), fun h => absurd rfl h⟩) (fun hr => ⟨fun h => absurd h (by decide), fun _ => ?_⟩)
    have hroom : (g_fl (g_lg G)).length + (g_bt G).length + 1 ≤ 120 := by omega
    have main : r_Rs_commit_65 scr (d + 2) a1 post ex ((g_bt G).length + 1) s (nI ((g_bt G).length + 1)) 0 (s.1 0 0 3) 0 := by
      rw [hbc]
      refine S_commit_w (len := (g_fl (g_lg G)).length) hb5 (by omega) (g_bt G).length 0 s (by omega) hlc (fun t h1 h2 h3 => ?_)
      refine w_Rs_commit_65 (pk_le (g_bt G).length (g_bt G).length (fun _ => ⟨fun _ => ?_, fun h => absurd rfl h⟩) (fun h => by omega))
      have t0 : t.1 0 0 3 = nI (g_bt G).length := (h1.1 0 0 3 (fun h => by cases h)).trans hbc
      have t11 : t.1 11 0 1 = nI (g_fl (g_lg G)).length := (h1.1 11 0 1 (fun h => by cases h)).trans hlc
      have t112 : t.1 11 0 2 = nI (g_lg G).length := (h1.1 11 0 2 (fun h => by cases h)).trans hlm
      rw [t0]
      refine S_mark t11 (by omega) (fun s4 e4 => ?_)
      have hv : ∀ f i j, s4.1 f i j = if f = 0 ∧ i = 0 ∧ j = 3 then 0 else if f = 11 ∧ i = 0 ∧ j = 2 then t.1 11 0 2 + 1 else if f = 11 ∧ i = 0 ∧ j = 1 then nI ((g_fl (g_lg G)).length + (g_bt G).length + 1) else if f = 12 ∧ i = 0 ∧ j = (g_fl (g_lg G)).length + (g_bt G).length then -1 else t.1 f i j := fun f i j => by
        rw [e4]
        rfl
      have c112 : s4.1 11 0 2 = nI ((g_lg G).length + 1) := by
        rw [hv, if_neg (by omega), if_pos ⟨rfl, rfl, rfl⟩, t112]
        exact nI_1 _
      have c11 : s4.1 11 0 1 = nI ((g_fl (g_lg G)).length + (g_bt G).length + 1) := by rw [hv, if_neg (by omega), if_neg (by omega), if_pos ⟨rfl, rfl, rfl⟩]
      have c0 : s4.1 0 0 3 = 0 := by rw [hv, if_pos ⟨rfl, rfl, rfl⟩]
      have c12 : ∀ q, ¬ q = (g_fl (g_lg G)).length + (g_bt G).length → s4.1 12 0 q = t.1 12 0 q := fun q hq => by rw [hv, if_neg (by omega), if_neg (by omega), if_neg (by omega), if_neg (by omega)]
      have c12m : s4.1 12 0 ((g_fl (g_lg G)).length + (g_bt G).length) = -1 := by rw [hv, if_neg (by omega), if_neg (by omega), if_neg (by omega), if_pos ⟨rfl, rfl, rfl⟩]
      have c14 : ∀ v, s4.1 14 v 0 = s.1 14 v 0 := fun v => by
        rw [hv, if_neg (by omega), if_neg (by omega), if_neg (by omega), if_neg (by omega)]
        exact h1.1 14 v 0 (fun h => by cases h)
      have hf : mx_fr F_cm s s4 := by
        refine mx_fr.tr (h1.mono (fun f i j h => Or.inr (Or.inr (Or.inl h)))) ?_
        rw [e4]
        exact mx_fr.tr (mx_fr.tr (mx_fr.tr (mx_fr.si (Or.inr (Or.inr (Or.inl rfl)))) (mx_fr.si (Or.inr (Or.inl rfl)))) (mx_fr.si (Or.inr (Or.inl rfl)))) (mx_fr.si (Or.inl ⟨rfl, rfl⟩))
      have hRl : RC_lg (g_cm G) s4 := RC_lg_cm hb0 hl0 hbn hroom rfl c11 c112 (fun q hq => by rw [c12 q (by omega)]; exact h3 q (by omega)) (fun q hq => by rw [c12 _ (by omega)]; exact h2 q (by omega) hq) c12m
      have stay : post (s4.1 11 0 2) s4 := by
        rw [c112]
        exact hyes s4 hc hbn hroom (RC_bt_nil c0 rfl) hRl hf (Or.inr c14)
      refine ⟨fun _ => ⟨fun _ => stay, fun h => absurd rfl h⟩, fun _ => ⟨fun _ => ⟨fun _ => stay, fun h => absurd rfl h⟩, fun _ => S_forget (fun s5 g1 g2 g3 => ⟨fun _ => ?_, fun h => absurd rfl h⟩)⟩⟩
      have d11 : ∀ j, s5.1 11 0 j = s4.1 11 0 j := fun j => g1.1 11 0 j (fun h => by rcases h with ⟨h, -⟩ | ⟨h, -⟩ <;> cases h)
      rw [d11, c112]
      exact hyes s5 hc hbn hroom (RC_bt_nil g2 rfl) (RC_lg_fr hRl g1 (fun i j h => by rcases h with ⟨h, -⟩ | ⟨h, -⟩ <;> cases h) (fun q _ => g1.1 12 0 q (fun h => by rcases h with ⟨h, -⟩ | ⟨h, -⟩ <;> cases h))) (hf.tr (g1.mono (fun f i j h => F_cm_f h))) (Or.inl g3)
    refine ⟨fun _ => ⟨fun _ => main, fun h => absurd rfl h⟩, fun h0 => ⟨fun _ => ⟨fun _ => main, fun h => absurd rfl h⟩, fun h9 => absurd (hc.resolve_left h0) h9⟩⟩
  · have hc0 : ¬ a1 < 0 := fun h => hc (Or.inl h)
    have hc1 : ¬ nI ((g_bt G).length + 1) ≤ a1 := fun h => hc (Or.inr h)
    obtain ⟨w, hw, rfl⟩ := nI_of hc0
    have hwd : w < (g_bt G).length + 1 := Nat.lt_of_not_le fun h => hc1 (nI_le h hw)
    refine w_Rs_commit ⟨w + 1, pk_eq (g_bt G).length 0 (fun h0 => hno (Or.inl (hnil h0))) (fun h0 => ?_) hbc rfl⟩
    have hbn : ¬ g_bt G = [] := fun h => h0 (by rw [h]; rfl)
    rw [hdue]
    refine S_hasRoomFor hlc hll (by omega) (fun hr => ⟨fun _ => hno (Or.inr (by omega)), fun h => absurd rfl h⟩) (fun hr => ⟨fun h => absurd h (by decide), fun _ => ⟨fun h => absurd h hc0, fun _ => ⟨fun h => absurd h hc1, fun _ => ⟨fun h => absurd h (by decide), fun _ => ?_⟩⟩⟩⟩)
    refine S_commit_w (len := (g_fl (g_lg G)).length) (by omega) (by omega) w 0 s (by omega) hlc (fun t h1 h2 h3 => ?_)
    refine w_Rs_commit_65 (pk_le w w (fun _ => ⟨fun h => absurd h (by decide), fun _ s4 e4 => ?_⟩) (fun h => by omega))
    have hf : mx_fr F_cm s s4 := by
      refine mx_fr.tr (h1.mono (fun f i j h => Or.inr (Or.inr (Or.inl h)))) ?_
      rw [e4]
      exact mx_fr.si (Or.inl ⟨rfl, rfl⟩)
    have hf2 : mx_fr (fun f i j => f = 12 ∨ f = 0) s s4 := by
      refine mx_fr.tr (h1.mono (fun f i j h => Or.inl h)) ?_
      rw [e4]
      exact mx_fr.si (Or.inr rfl)
    have hRl : RC_lg (g_wB G []) s4 := RC_lg_fr (G := g_wB G []) hl0 hf2 (fun i j h => by rcases h with h | h <;> cases h) (fun q hq => by
      rw [e4, mx_si_n (by omega)]
      exact h3 q (Nat.lt_of_lt_of_le hq (Nat.le_add_right _ _)))
    refine ⟨fun h => absurd h hc0, fun _ => ⟨fun h => absurd h (nI_nlt (by omega) (by omega)), fun _ => S_forget (fun s5 g1 g2 g3 => ⟨fun h => absurd h (by decide), fun _ => ?_⟩)⟩⟩
    exact hcut w s5 hwd rfl hbn (by omega) (RC_bt_nil g2 rfl) (RC_lg_fr hRl g1 (fun i j h => by rcases h with ⟨h, -⟩ | ⟨h, -⟩ <;> cases h) (fun q _ => g1.1 12 0 q (fun h => by rcases h with ⟨h, -⟩ | ⟨h, -⟩ <;> cases h))) (hf.tr (g1.mono (fun f i j h => F_cm_f h))) g3
end
