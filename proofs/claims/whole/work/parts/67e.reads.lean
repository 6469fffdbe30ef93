def RTb (G : gSt) (s : mSt) (r : Nat) (rl : gRl) : Prop := ∃ P, g_rule (g_rs G) rl = some P ∧ RT1 s r P.1 ∧ RT2 (g_rs G) rl s r P.1
def F_ra (f _ j : Nat) : Prop := f = 3 ∨ f = 7 ∨ f = 8 ∨ f = 9 ∨ (f = 5 ∧ (j = 9 ∨ j = 10 ∨ j = 11))
theorem F_ra_of {r f i j : Nat} (h : F_rd r f i j) : F_ra f i j := by
  rcases h with h | ⟨-, h | h | h | h⟩
  · exact Or.inl h
  · exact Or.inr (Or.inl h)
  · exact Or.inr (Or.inr (Or.inl h))
  · exact Or.inr (Or.inr (Or.inr (Or.inl h)))
  · exact Or.inr (Or.inr (Or.inr (Or.inr h)))
section
variable {scr : mSc} {d : Nat} {G : gSt} {s t : mSt} {r r' : Nat} {rl rl' : gRl}
theorem RTb_fr (h : RTb G s r rl) (hf : mx_fr (F_rd r') s t) (hr : ¬ r = r') : RTb G t r rl := by
  obtain ⟨P, h1, h2, h3⟩ := h
  have no : ∀ f j, ¬ f = 3 → ¬ F_rd r' f r j := fun f j hf h => by
    rcases h with h | ⟨h, -⟩
    · exact hf h
    · exact hr h
  refine ⟨P, h1, ⟨(hf.1 _ _ _ (no 5 9 (by omega))).trans h2.1, fun q sp hq => ?_⟩, ?_⟩
  · obtain ⟨q1, q2, q3⟩ := h2.2 q sp hq
    exact ⟨(hf.1 _ _ _ (no 7 q (by omega))).trans q1, (hf.1 _ _ _ (no 8 q (by omega))).trans q2, (hf.1 _ _ _ (no 9 q (by omega))).trans q3⟩
  · unfold RT2
    rw [hf.1 _ _ _ (no 5 10 (by omega)), hf.1 _ _ _ (no 5 11 (by omega))]
    exact h3
theorem S_reads {post : Int32 → mSt → Prop} (h : RC_cf G s) (hrl : (g_rs G)[r]? = some rl) (hy : ∀ t, RTb G t r rl → mx_fr (F_rd r) s t → post 1 t) (hn : ∀ t, g_rule (g_rs G) rl = none → mx_fr (F_rd r) s t → post 0 t) : X_Rd_reads scr (d + 16) s (nI (g_rs G).length) r post := by
  have hl := h.1.1
  have hr9 : r < 9 := by have := g_len_get hrl; omega
  have hok := h.1.2 rl (List.mem_of_getElem? hrl)
  refine w_Rd_reads (fun s1 e1 s2 e2 s3 e3 s4 e4 => ?_)
  have r4 : s4.2.2.1 3 0 2 = some r := by
    rw [e4, e3]
    rfl
  refine ⟨r, r4, hr9, w_Rl_forgetRule (fun s5 e5 s6 e6 s7 e7 => ?_)⟩
  have hf : mx_fr (F_rd r) s s7 := by
    rw [e7, e6, e5, e4, e3, e2, e1]
    exact (((((mx_fr.sp (Or.inl rfl)).tr (mx_fr.si (Or.inl rfl))).tr (mx_fr.sp (Or.inl rfl))).tr (mx_fr.si (Or.inl rfl))).tr (mx_fr.si (Or.inr ⟨rfl, Or.inr (Or.inr (Or.inr ⟨rfl, Or.inl rfl⟩))⟩))).tr ((mx_fr.si (Or.inr ⟨rfl, Or.inr (Or.inr (Or.inr ⟨rfl, Or.inr (Or.inl rfl)⟩))⟩)).tr (mx_fr.si (Or.inr ⟨rfl, Or.inr (Or.inr (Or.inr ⟨rfl, Or.inr (Or.inr rfl)⟩))⟩)))
  have hv : ∀ f i j, s7.1 f i j = if f = 5 ∧ i = r ∧ j = 11 then 0 else if f = 5 ∧ i = r ∧ j = 10 then 0 else if f = 5 ∧ i = r ∧ j = 9 then 0 else if f = 3 ∧ i = 0 ∧ j = 3 then 0 else if f = 3 ∧ i = 0 ∧ j = 1 then nI (g_rs G).length else s.1 f i j := fun f i j => by
    rw [e7, e6, e5, e4, e3, e2, e1]
    rfl
  have hp : s7.2.2.1 3 0 0 = some 0 ∧ s7.2.2.1 3 0 2 = some r := by
    rw [e7, e6, e5, e4, e3, e2, e1]
    exact ⟨rfl, rfl⟩
  have h7 : RD G r rl s7 0 [] [] := by
    refine ⟨hrl, RC_cf_rd h hf, hp.1, hp.2, ?_, ?_, ⟨?_, fun q sp hq => by cases hq⟩, fun x hx => ?_, fun x hx => ?_⟩
    · rw [hv, if_neg (by omega), if_neg (by omega), if_neg (by omega), if_neg (by omega), if_pos ⟨rfl, rfl, rfl⟩]
    · rw [hv, if_neg (by omega), if_neg (by omega), if_neg (by omega), if_pos ⟨rfl, rfl, rfl⟩]
      rfl
    · rw [hv, if_neg (by omega), if_neg (by omega), if_pos ⟨rfl, rfl, rfl⟩]
      rfl
    · rw [hv, if_neg (by omega), if_pos ⟨rfl, rfl, rfl⟩, b_0]
      exact ⟨fun h => (by cases h), fun ⟨_, h, _⟩ => (by cases h)⟩
    · rw [hv, if_pos ⟨rfl, rfl, rfl⟩, b_0]
      exact ⟨fun h => (by cases h), fun ⟨_, h, _⟩ => (by cases h)⟩
  have hr := (RD_tx h7).2.2.2
  have h24 : (g_tx rl).length ≤ 24 := hok.2.2.1
  refine ⟨r, hp.2, hr9, pk_eq (g_tx rl).length 0 (fun e0 => ?_) (fun e0 => ?_) hr.2.2.2.2.1 rfl⟩
  · have hg : g_rule (g_rs G) rl = some ([(84, 0, 0, false)], fun env => env (84, 0, 0, false)) := by
      unfold g_rule
      rw [if_pos e0]
    exact S_readTuples (bar := false) h7 (by show 0 < 24; omega) (fun t ht hft => ⟨rfl, hy t ⟨_, hg, ht.2.2.2.2.2.2.1, ht.2.2.2.2.2.2.2⟩ (hf.tr hft)⟩)
  · have hg : g_rule (g_rs G) rl = match g_ex (g_rs G) rl 6 0 false with
      | none => none
      | some q => if q.2 = (g_tx rl).length then some q.1 else none := by
      unfold g_rule
      rw [if_neg e0]
      rfl
    have hz := S_readEx (scr := scr) (d := d) (G := G) (r := r) (rl := rl) (D := 5) 0 rfl
    refine hz s7 0 [] false _ h7 (Nat.le_refl _) (Nat.zero_le _) (fun P j t hP ht hft => ⟨fun h => absurd h (by decide), fun _ => ⟨r, ht.2.2.2.1, hr9, ?_⟩⟩) (fun t hP hft => ⟨fun _ => ⟨rfl, hn t (by rw [hg, hP]) (hf.tr hft)⟩, fun h => absurd rfl h⟩)
    obtain ⟨k1, k2, k3, k4⟩ := g_ex_ok _ _ _ _ _ hP
    refine pk_eq j (g_tx rl).length (fun e => ⟨rfl, hy t ⟨P, ?_, ht.2.2.2.2.2.2.1, ht.2.2.2.2.2.2.2⟩ (hf.tr hft)⟩) (fun e => ⟨rfl, hn t ?_ (hf.tr hft)⟩) ht.2.2.2.2.2.1 (RD_tx ht).2.2.2.2.2.2.2.1
    · rw [hg, hP]
      show (if _ then _ else none) = _
      rw [if_pos e]
    · rw [hg, hP]
      show (if _ then _ else none) = _
      rw [if_neg e]
theorem S_Cf_isRule {post : Int32 → mSt → Prop} {a1 : Int32} (h : RC_cf G s) (hno : (∀ j, j < (g_rs G).length → ¬ a1 = nI j) → post 0 s) (hy : ∀ r rl t, (g_rs G)[r]? = some rl → a1 = nI r → RTb G t r rl → mx_fr (F_rd r) s t → post 1 t) (hn : ∀ r rl t, (g_rs G)[r]? = some rl → a1 = nI r → g_rule (g_rs G) rl = none → mx_fr (F_rd r) s t → post 0 t) : X_Cf_isRule scr (d + 17) s a1 post := by
  have hl := h.1.1
  refine w_Cf_isRule (S_isRelation h (fun h1 => ⟨fun _ => ⟨rfl, hno h1⟩, fun h => absurd rfl h⟩) (fun r hr e => ⟨fun h => absurd h (by decide), fun _ => ?_⟩))
  subst e
  have hrl : (g_rs G)[r]? = some (g_rs G)[r] := List.getElem?_eq_getElem hr
  refine ⟨pk_in r 9 (by omega), ?_⟩
  rw [pk_cl r, h.2.1]
  exact S_reads h hrl (fun t ht hf => ⟨fun h => absurd h (by decide), fun _ => ⟨rfl, hy r _ t hrl rfl ht hf⟩⟩) (fun t hg hf => ⟨fun _ => ⟨rfl, hn r _ t hrl rfl hg hf⟩, fun h => absurd rfl h⟩)
theorem S_Rs_sound {post : Int32 → mSt → Prop} {a1 : Int32} (h : RC_cf G s) (hno : (∀ j, j < (g_rs G).length → ¬ a1 = nI j) → post 0 s) (hy : ∀ r rl t, (g_rs G)[r]? = some rl → a1 = nI r → RTb G t r rl → mx_fr (F_rd r) s t → post 1 t) (hn : ∀ r rl t, (g_rs G)[r]? = some rl → a1 = nI r → g_rule (g_rs G) rl = none → mx_fr (F_rd r) s t → post 0 t) : X_Rs_sound scr (d + 18) s a1 post := w_Rs_sound (S_Cf_isRule h (fun h1 => ⟨rfl, hno h1⟩) (fun r rl t h1 h2 h3 h4 => ⟨rfl, hy r rl t h1 h2 h3 h4⟩) (fun r rl t h1 h2 h3 h4 => ⟨rfl, hn r rl t h1 h2 h3 h4⟩))
theorem S_allAre_2 {post : Int32 → mSt → Prop} {ex : Nat → mSt → Prop} : ∀ (m x : Nat) (s : mSt), x + m = (g_rs G).length → RC_cf G s → (∀ (r : Nat) rl, r < x → (g_rs G)[r]? = some rl → RTb G s r rl) → (∀ t, (∀ (r : Nat) rl, (g_rs G)[r]? = some rl → RTb G t r rl) → RC_cf G t → mx_fr F_ra s t → post 1 t) → (∀ t (r : Nat) rl, (g_rs G)[r]? = some rl → g_rule (g_rs G) rl = none → RC_cf G t → mx_fr F_ra s t → post 0 t) → r_Cf_allAreRules_2 scr (d + 16) post ex (m + 1) s (nI x) := by
  intro m
  induction m with
  | zero =>
    intro x s hx h hR hy hn
    have hl := h.1.1
    obtain rfl : x = (g_rs G).length := by omega
    exact w_Cf_allAreRules_2 (pk_le (g_rs G).length (g_rs G).length (fun _ => ⟨rfl, hy s (fun r rl hr => hR r rl (g_len_get hr) hr) h mx_fr.rf⟩) (fun h => by omega) h.2.1 rfl)
  | succ m ih =>
    intro x s hx h hR hy hn
    have hl := h.1.1
    refine w_Cf_allAreRules_2 (pk_le (g_rs G).length x (fun h => by omega) (fun hxl => ⟨pk_in x 9 (by omega), ?_⟩) h.2.1 rfl)
    rw [pk_cl x, h.2.1, show nI x + (1 : Int32) = nI (x + 1) from nI_1 x]
    have hrl : (g_rs G)[x]? = some (g_rs G)[x] := List.getElem?_eq_getElem hxl
    refine S_reads h hrl (fun t ht hf => ⟨fun h => absurd h (by decide), fun _ => ?_⟩) (fun t hg hf => ⟨fun _ => ⟨rfl, hn t x _ hrl hg (RC_cf_rd h hf) (hf.mono (fun _ _ _ h => F_ra_of h))⟩, fun h => absurd rfl h⟩)
    have hm := hf.mono (fun _ _ _ h => F_ra_of h)
    refine ih (x + 1) t (by omega) (RC_cf_rd h hf) (fun r rl hr hrl' => ?_) (fun u h1 h2 h3 => hy u h1 h2 (hm.tr h3)) (fun u r rl h1 h2 h3 h4 => hn u r rl h1 h2 h3 (hm.tr h4))
    by_cases e : r = x
    · subst e
      rw [hrl] at hrl'
      cases hrl'
      exact ht
    · exact RTb_fr (hR r rl (by omega) hrl') hf e
theorem S_allAre {post : Int32 → mSt → Prop} (h : RC_cf G s) (hy : ∀ t, (∀ (r : Nat) rl, (g_rs G)[r]? = some rl → RTb G t r rl) → RC_cf G t → mx_fr F_ra s t → post 1 t) (hn : ∀ t (r : Nat) rl, (g_rs G)[r]? = some rl → g_rule (g_rs G) rl = none → RC_cf G t → mx_fr F_ra s t → post 0 t) : X_Cf_allAreRules scr (d + 17) s post := w_Cf_allAreRules ⟨(g_rs G).length + 1, S_allAre_2 (g_rs G).length 0 s (by omega) h (fun r rl hr => by omega) hy hn⟩
end
