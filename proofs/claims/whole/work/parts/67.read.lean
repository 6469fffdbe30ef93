def bI (b : Bool) : Int32 := if b = true then 1 else 0
def g_ns (rs : List gRl) (rl : gRl) (sp : gSp) (x : Nat) : Prop := (sp.1 = 84 ∧ x < rs.length ∧ bt rl.2.2.2.1 x = true) ∨ (sp.1 = 99 ∧ x = sp.2.2.1) ∨ (sp.1 = 102 ∧ (x = sp.2.1 ∨ x = sp.2.2.1))
def RT1 (s : mSt) (r : Nat) (acc : List gSp) : Prop := s.1 5 r 9 = nI acc.length ∧ (∀ q sp, acc[q]? = some sp → s.1 7 r q = sp.1 ∧ s.1 8 r q = nI sp.2.1 ∧ s.1 9 r q = nI sp.2.2.1)
def RT2 (rs : List gRl) (rl : gRl) (s : mSt) (r : Nat) (acc : List gSp) : Prop := (∀ x, x < 9 → (bt (s.1 5 r 10) x = true ↔ ∃ sp ∈ acc, g_ns rs rl sp x)) ∧ (∀ x, x < 9 → (bt (s.1 5 r 11) x = true ↔ ∃ sp ∈ acc, sp.2.2.2 = true ∧ g_ns rs rl sp x))
def RD (G : gSt) (r : Nat) (rl : gRl) (s : mSt) (i : Nat) (acc acc2 : List gSp) : Prop := (g_rs G)[r]? = some rl ∧ RC_cf G s ∧ s.2.2.1 3 0 0 = some 0 ∧ s.2.2.1 3 0 2 = some r ∧ s.1 3 0 1 = nI (g_rs G).length ∧ s.1 3 0 3 = nI i ∧ RT1 s r acc ∧ RT2 (g_rs G) rl s r acc2
def F_rd (r f i j : Nat) : Prop := f = 3 ∨ (i = r ∧ (f = 7 ∨ f = 8 ∨ f = 9 ∨ (f = 5 ∧ (j = 9 ∨ j = 10 ∨ j = 11))))
section
variable {G : gSt} {s t : mSt} {r i j : Nat} {rl : gRl} {acc acc2 : List gSp}
theorem RC_cf_fr {P : Nat → Nat → Nat → Prop} (h : RC_cf G s) (hf : mx_fr P s t) (h1 : ¬ P 1 0 1) (h2 : ¬ P 1 0 2) (h5 : ∀ i j, j ≤ 5 → ¬ P 5 i j) (h6 : ∀ i j, ¬ P 6 i j) : RC_cf G t := by
  obtain ⟨hk, hc, ha, hr, hz⟩ := h
  refine ⟨hk, (hf.1 _ _ _ h1).trans hc, (hf.1 _ _ _ h2).trans ha, fun i r hi => ?_, fun i hi h9 => (hf.1 _ _ _ (h5 i 5 (by omega))).trans (hz i hi h9)⟩
  obtain ⟨q0, q1, q2, q3, q5, q6⟩ := hr i r hi
  exact ⟨(hf.1 _ _ _ (h5 i 0 (by omega))).trans q0, (hf.1 _ _ _ (h5 i 1 (by omega))).trans q1, (hf.1 _ _ _ (h5 i 2 (by omega))).trans q2, (hf.1 _ _ _ (h5 i 3 (by omega))).trans q3, (hf.1 _ _ _ (h5 i 5 (by omega))).trans q5, fun j c h => (hf.1 _ _ _ (h6 i j)).trans (q6 j c h)⟩
theorem RC_cf_rd (h : RC_cf G s) (hf : mx_fr (F_rd r) s t) : RC_cf G t := RC_cf_fr h hf (fun h => by rcases h with h | ⟨-, h | h | h | ⟨h, -⟩⟩ <;> cases h) (fun h => by rcases h with h | ⟨-, h | h | h | ⟨h, -⟩⟩ <;> cases h) (fun i j hj h => by rcases h with h | ⟨-, h | h | h | ⟨-, h⟩⟩ <;> omega) (fun i j h => by rcases h with h | ⟨-, h | h | h | ⟨h, -⟩⟩ <;> cases h)
theorem RD_at (h : RD G r rl s i acc acc2) : RD G r rl (mx_si s 3 0 3 (nI j)) j acc acc2 := by
  obtain ⟨h1, h2, h3, h4, h5, h6, h7, h8⟩ := h
  have hf : mx_fr (F_rd r) s (mx_si s 3 0 3 (nI j)) := mx_fr.si (Or.inl rfl)
  refine ⟨h1, RC_cf_rd h2 hf, h3, h4, (mx_si_n (by omega)).trans h5, mx_si_s, ?_, ?_⟩
  · exact ⟨(mx_si_n (by omega)).trans h7.1, fun q sp hq => ⟨(mx_si_n (by omega)).trans (h7.2 q sp hq).1, (mx_si_n (by omega)).trans (h7.2 q sp hq).2.1, (mx_si_n (by omega)).trans (h7.2 q sp hq).2.2⟩⟩
  · unfold RT2
    rw [mx_si_n (by omega), mx_si_n (by omega)]
    exact h8
theorem RD_tx (h : RD G r rl s i acc acc2) : r < 9 ∧ g_okR rl ∧ (g_rs G).length ≤ 9 ∧ RC_r s r rl := by
  have h1 := g_len_get h.1
  exact ⟨by have := h.2.1.1.1; omega, h.2.1.1.2 rl (List.mem_of_getElem? h.1), h.2.1.1.1, h.2.1.2.2.2.1 r rl h.1⟩
end
section
variable {scr : mSc} {d : Nat} {G : gSt} {s : mSt} {r i : Nat} {rl : gRl} {acc acc2 : List gSp}
theorem S_next {post : Int32 → mSt → Prop} (h : RD G r rl s i acc acc2) (hi : i ≤ 24) (hy : ∀ c t, (g_tx rl)[i]? = some c → RD G r rl t (i + 1) acc acc2 → mx_fr (F_rd r) s t → post c t) (hn : (g_tx rl)[i]? = none → post 32 s) : X_Rd_next scr (d + 1) s post := by
  obtain ⟨hr9, hok, hl9, hr⟩ := RD_tx h
  have h24 : (g_tx rl).length ≤ 24 := hok.2.2.1
  refine w_Rd_next ⟨r, h.2.2.2.1, hr9, pk_lt i (g_tx rl).length (fun hlt => ?_) (fun hge => ⟨rfl, hn (List.getElem?_eq_none_iff.mpr hge)⟩) h.2.2.2.2.2.1 hr.2.2.2.2.1⟩
  intro t e
  rw [h.2.2.2.2.2.1, show nI i + (1 : Int32) = nI (i + 1) from nI_1 i] at e
  have hc : (g_tx rl)[i]? = some (g_tx rl)[i] := List.getElem?_eq_getElem hlt
  have ht : RD G r rl t (i + 1) acc acc2 := by
    rw [e]
    exact RD_at h
  have hrt := (RD_tx ht).2.2.2
  refine ⟨r, ht.2.2.2.1, hr9, ?_⟩
  rw [ht.2.2.2.2.2.1, nI_pred]
  refine ⟨pk_in i 24 (by omega), ?_⟩
  rw [pk_cl i, hrt.2.2.2.2.2 i _ hc]
  refine ⟨?_, hy _ t hc ht ?_⟩
  · have h1 := hok.2.2.2 (g_tx rl)[i] (List.mem_of_getElem? hc)
    show narrow .char (.int _) = .int _
    exact congrArg Value.int h1
  · rw [e]
    exact mx_fr.si (Or.inl rfl)
theorem S_readName {post : Int32 → mSt → Prop} (h : RD G r rl s i acc acc2) (hi : i ≤ 24) (hy : ∀ x t, g_nm (g_rs G).length (g_tx rl) i = some x → x < (g_rs G).length → i + 1 ≤ 24 → RD G r rl t (i + 1) acc acc2 → mx_fr (F_rd r) s t → post (nI x) t) (hn : ∀ t k, g_nm (g_rs G).length (g_tx rl) i = none → RD G r rl t k acc acc2 → k ≤ 24 → mx_fr (F_rd r) s t → post (-1) t) : X_Rd_readName scr (d + 2) s post := by
  obtain ⟨hr9, hok, hl9, hr⟩ := RD_tx h
  have h24 : (g_tx rl).length ≤ 24 := hok.2.2.1
  refine w_Rd_readName (S_next h hi (fun c t hc ht hf => g_rng (n := (g_rs G).length) ht.2.2.2.2.1 (by omega) (fun h1 => hn t (i + 1) (g_nm_3 hc h1) ht (by have := g_len_get hc; omega) hf) (fun x hx e => ?_)) (fun hc => ⟨fun _ => hn s i (g_nm_0 hc) h (by omega) mx_fr.rf, fun h9 => absurd (by decide) h9⟩))
  rw [e]
  exact hy x t (g_nm_2 hl9 hc hx e) hx (by have := g_len_get hc; omega) ht hf
theorem S_own {post : Int32 → mSt → Prop} {x : Nat} (h : RD G r rl s i acc acc2) (hx : x < (g_rs G).length) (hy : g_sn (g_rs G) rl x = true → post 1 s) (hn : g_sn (g_rs G) rl x = false → post 0 s) : X_Rd_isOfOwnNamespace scr (d + 1) s (nI x) post := by
  obtain ⟨hr9, hok, hl9, hr⟩ := RD_tx h
  have hxe : (g_rs G)[x]? = some (g_rs G)[x] := List.getElem?_eq_getElem hx
  have hokx := h.2.1.1.2 _ (List.mem_of_getElem? hxe)
  have b1 := hok.1
  have b2 := hokx.1
  have hsn : g_sn (g_rs G) rl x = decide ((g_rs G)[x].1 = rl.1) := by
    unfold g_sn
    rw [hxe]
    simp
  refine w_Rd_isOfOwnNamespace ⟨fun h9 => absurd h9 (nI_pos (by omega)), fun _ => ⟨0, h.2.2.1, by omega, pk_in x 9 (by omega), r, h.2.2.2.1, hr9, ?_⟩⟩
  rw [pk_cl x]
  exact pk_eq (g_rs G)[x].1 rl.1 (fun e => ⟨rfl, hy (by rw [hsn]; exact decide_eq_true e)⟩) (fun e => ⟨rfl, hn (by rw [hsn]; exact decide_eq_false e)⟩) (h.2.1.2.2.2.1 x _ hxe).1 hr.1
theorem S_own_n {post : Int32 → mSt → Prop} (hn : post 0 s) : X_Rd_isOfOwnNamespace scr (d + 1) s (-1) post := w_Rd_isOfOwnNamespace ⟨fun _ => ⟨rfl, hn⟩, fun h9 => absurd (by decide) h9⟩
theorem S_addStep {post : mSt → Prop} {k : Int32} {f x : Nat} {b : Bool} (h : RD G r rl s i acc acc2) (hl : acc.length < 24) (hk : vp_nar .char k = k) (hy : ∀ t, RD G r rl t i (acc ++ [(k, f, x, b)]) acc2 → mx_fr (F_rd r) s t → post t) : X_Rl_addStep scr (d + 1) s r k (nI f) (nI x) post := by
  obtain ⟨h1, h2, h3, h4, h5, h6, h7, h8⟩ := h
  have hs := h7.1
  refine w_Rl_addStep (pk_le 24 acc.length (fun h => by omega) (fun _ => ⟨pk_in acc.length 24 hl hs, ?_⟩) rfl hs)
  rw [pk_cl acc.length hs]
  intro s1 e1
  have c1 : s1.1 5 r 9 = nI acc.length := by rw [e1, mx_si_n (by omega)]; exact hs
  refine ⟨pk_in acc.length 24 hl c1, ?_⟩
  rw [pk_cl acc.length c1]
  intro s2 e2
  have c2 : s2.1 5 r 9 = nI acc.length := by rw [e2, mx_si_n (by omega)]; exact c1
  refine ⟨pk_in acc.length 24 hl c2, ?_⟩
  rw [pk_cl acc.length c2]
  intro s3 e3 s4 e4
  have c3 : s3.1 5 r 9 = nI acc.length := by rw [e3, mx_si_n (by omega)]; exact c2
  rw [c3, show nI acc.length + (1 : Int32) = nI (acc.length + 1) from nI_1 _] at e4
  have hv : ∀ f' i' j', s4.1 f' i' j' = if f' = 5 ∧ i' = r ∧ j' = 9 then nI (acc.length + 1) else if f' = 9 ∧ i' = r ∧ j' = acc.length then nI x else if f' = 8 ∧ i' = r ∧ j' = acc.length then nI f else if f' = 7 ∧ i' = r ∧ j' = acc.length then vp_nar .char k else s.1 f' i' j' := fun f' i' j' => by
    rw [e4, e3, e2, e1]
    rfl
  have e9 : s4.2.2.1 = s.2.2.1 := by
    rw [e4, e3, e2, e1]
    rfl
  have hf : mx_fr (F_rd r) s s4 := by
    rw [e4, e3, e2, e1]
    exact mx_fr.tr (mx_fr.tr (mx_fr.tr (mx_fr.si (Or.inr ⟨rfl, Or.inl rfl⟩)) (mx_fr.si (Or.inr ⟨rfl, Or.inr (Or.inl rfl)⟩))) (mx_fr.si (Or.inr ⟨rfl, Or.inr (Or.inr (Or.inl rfl))⟩))) (mx_fr.si (Or.inr ⟨rfl, Or.inr (Or.inr (Or.inr ⟨rfl, Or.inl rfl⟩))⟩))
  refine hy s4 ⟨h1, RC_cf_rd h2 hf, by rw [e9]; exact h3, by rw [e9]; exact h4, ?_, ?_, ⟨?_, fun q sp hq => ?_⟩, ?_⟩ hf
  · rw [hv, if_neg (by omega), if_neg (by omega), if_neg (by omega), if_neg (by omega)]
    exact h5
  · rw [hv, if_neg (by omega), if_neg (by omega), if_neg (by omega), if_neg (by omega)]
    exact h6
  · rw [hv, if_pos ⟨rfl, rfl, rfl⟩, g_len1]
  · rcases g_app_get hq with ⟨hq1, hq2⟩ | ⟨rfl, rfl⟩
    · obtain ⟨q1, q2, q3⟩ := h7.2 q sp hq2
      refine ⟨?_, ?_, ?_⟩
      · rw [hv, if_neg (by omega), if_neg (by omega), if_neg (by omega), if_neg (by omega)]
        exact q1
      · rw [hv, if_neg (by omega), if_neg (by omega), if_neg (by omega), if_neg (by omega)]
        exact q2
      · rw [hv, if_neg (by omega), if_neg (by omega), if_neg (by omega), if_neg (by omega)]
        exact q3
    · refine ⟨?_, ?_, ?_⟩
      · rw [hv, if_neg (by omega), if_neg (by omega), if_neg (by omega), if_pos ⟨rfl, rfl, rfl⟩]
        exact hk
      · rw [hv, if_neg (by omega), if_neg (by omega), if_pos ⟨rfl, rfl, rfl⟩]
      · rw [hv, if_neg (by omega), if_pos ⟨rfl, rfl, rfl⟩]
  · unfold RT2
    rw [hv, if_neg (by omega), if_neg (by omega), if_neg (by omega), if_neg (by omega), hv, if_neg (by omega), if_neg (by omega), if_neg (by omega), if_neg (by omega)]
    exact h8
theorem S_need {post : mSt → Prop} {M : Int32} {sp : gSp} {a2 : Int32} (h : RD G r rl s i acc acc2) (ha : a2 = bI sp.2.2.2) (hM : ∀ x, x < 9 → (bt M x = true ↔ g_ns (g_rs G) rl sp x)) (hy : ∀ t, RD G r rl t i acc (acc2 ++ [sp]) → mx_fr (F_rd r) s t → post t) : X_Rl_need scr (d + 1) s r M a2 post := by
  obtain ⟨h1, h2, h3, h4, h5, h6, h7, h8⟩ := h
  have mem : ∀ (p : gSp → Prop), (∃ q ∈ acc2 ++ [sp], p q) ↔ (∃ q ∈ acc2, p q) ∨ p sp := fun p => by
    constructor
    · rintro ⟨q, hq, hp⟩
      rcases List.mem_append.mp hq with hq | hq
      · exact Or.inl ⟨q, hq, hp⟩
      · obtain rfl := List.mem_singleton.mp hq
        exact Or.inr hp
    · rintro (⟨q, hq, hp⟩ | hp)
      · exact ⟨q, List.mem_append_left _ hq, hp⟩
      · exact ⟨sp, List.mem_append_right _ List.mem_cons_self, hp⟩
  have keep : ∀ u, mx_fr (F_rd r) s u → u.1 3 0 1 = s.1 3 0 1 → u.1 3 0 3 = s.1 3 0 3 → u.2.2.1 = s.2.2.1 → u.1 5 r 9 = s.1 5 r 9 → u.1 7 = s.1 7 → u.1 8 = s.1 8 → u.1 9 = s.1 9 → RT2 (g_rs G) rl u r (acc2 ++ [sp]) → post u := fun u hf e1 e2 e3 e4 e5 e6 e7 hu => by
    refine hy u ⟨h1, RC_cf_rd h2 hf, by rw [e3]; exact h3, by rw [e3]; exact h4, e1.trans h5, e2.trans h6, ?_, hu⟩ hf
    unfold RT1
    rw [e4, e5, e6, e7]
    exact h7
  refine w_Rl_need (fun s1 e1 => ?_)
  have v1 : ∀ f' i' j', s1.1 f' i' j' = if f' = 5 ∧ i' = r ∧ j' = 10 then s.1 5 r 10 ||| M else s.1 f' i' j' := fun f' i' j' => by
    rw [e1]
    rfl
  have m10 : ∀ x, x < 9 → (bt (s.1 5 r 10 ||| M) x = true ↔ ∃ q ∈ acc2 ++ [sp], g_ns (g_rs G) rl q x) := fun x hx => by
    rw [b_or, Bool.or_eq_true, h8.1 x hx, hM x hx, mem]
  cases hb : sp.2.2.2 with
  | false =>
    rw [hb] at ha
    refine ⟨fun _ => keep s1 ?_ ?_ ?_ ?_ ?_ ?_ ?_ ?_ ⟨fun x hx => ?_, fun x hx => ?_⟩, fun h9 => absurd ha h9⟩
    · rw [e1]
      exact mx_fr.si (Or.inr ⟨rfl, Or.inr (Or.inr (Or.inr ⟨rfl, Or.inr (Or.inl rfl)⟩))⟩)
    · rw [v1, if_neg (by omega)]
    · rw [v1, if_neg (by omega)]
    · rw [e1]
      rfl
    · rw [v1, if_neg (by omega)]
    · exact funext fun a => funext fun b => by rw [v1, if_neg (by omega)]
    · exact funext fun a => funext fun b => by rw [v1, if_neg (by omega)]
    · exact funext fun a => funext fun b => by rw [v1, if_neg (by omega)]
    · rw [v1, if_pos ⟨rfl, rfl, rfl⟩]
      exact m10 x hx
    · rw [v1, if_neg (by omega), h8.2 x hx, mem]
      rw [hb]
      exact ⟨fun h => Or.inl h, fun h => h.elim id (fun h => by cases h.1)⟩
  | true =>
    rw [hb] at ha
    refine ⟨fun h9 => absurd (ha.symm.trans h9) (by decide), fun _ s2 e2 => ?_⟩
    have v2 : ∀ f' i' j', s2.1 f' i' j' = if f' = 5 ∧ i' = r ∧ j' = 11 then s1.1 5 r 11 ||| M else s1.1 f' i' j' := fun f' i' j' => by
      rw [e2]
      rfl
    refine keep s2 ?_ ?_ ?_ ?_ ?_ ?_ ?_ ?_ ⟨fun x hx => ?_, fun x hx => ?_⟩
    · rw [e2, e1]
      exact mx_fr.tr (mx_fr.si (Or.inr ⟨rfl, Or.inr (Or.inr (Or.inr ⟨rfl, Or.inr (Or.inl rfl)⟩))⟩)) (mx_fr.si (Or.inr ⟨rfl, Or.inr (Or.inr (Or.inr ⟨rfl, Or.inr (Or.inr rfl)⟩))⟩))
    · rw [v2, if_neg (by omega), v1, if_neg (by omega)]
    · rw [v2, if_neg (by omega), v1, if_neg (by omega)]
    · rw [e2, e1]
      rfl
    · rw [v2, if_neg (by omega), v1, if_neg (by omega)]
    · exact funext fun a => funext fun b => by rw [v2, if_neg (by omega), v1, if_neg (by omega)]
    · exact funext fun a => funext fun b => by rw [v2, if_neg (by omega), v1, if_neg (by omega)]
    · exact funext fun a => funext fun b => by rw [v2, if_neg (by omega), v1, if_neg (by omega)]
    · rw [v2, if_neg (by omega), v1, if_pos ⟨rfl, rfl, rfl⟩]
      exact m10 x hx
    · rw [v2, if_pos ⟨rfl, rfl, rfl⟩, v1, if_neg (by omega), b_or, Bool.or_eq_true, h8.2 x hx, hM x hx, mem]
      rw [hb]
      exact ⟨fun h => h.imp id (fun h => ⟨rfl, h⟩), fun h => h.imp id (fun h => h.2)⟩
theorem RD_op {c : Int32} (hc : g_op c = true) {b : Bool} (h : RD G r rl s i acc acc2) : RD G r rl s i acc (acc2 ++ [(c, 0, 0, b)]) := by
  obtain ⟨h1, h2, h3, h4, h5, h6, h7, h8⟩ := h
  have no : ∀ x, ¬ g_ns (g_rs G) rl (c, 0, 0, b) x := fun x h => by
    have hn := g_op_n hc
    rcases h with ⟨e, -⟩ | ⟨e, -⟩ | ⟨e, -⟩
    · exact hn (Or.inl e)
    · exact hn (Or.inr (Or.inl e))
    · exact hn (Or.inr (Or.inr e))
  refine ⟨h1, h2, h3, h4, h5, h6, h7, fun x hx => ?_, fun x hx => ?_⟩
  · rw [h8.1 x hx]
    constructor
    · rintro ⟨q, hq, hp⟩
      exact ⟨q, List.mem_append_left _ hq, hp⟩
    · rintro ⟨q, hq, hp⟩
      rcases List.mem_append.mp hq with hq | hq
      · exact ⟨q, hq, hp⟩
      · obtain rfl := List.mem_singleton.mp hq
        exact absurd hp (no x)
  · rw [h8.2 x hx]
    constructor
    · rintro ⟨q, hq, hp⟩
      exact ⟨q, List.mem_append_left _ hq, hp⟩
    · rintro ⟨q, hq, hp⟩
      rcases List.mem_append.mp hq with hq | hq
      · exact ⟨q, hq, hp⟩
      · obtain rfl := List.mem_singleton.mp hq
        exact absurd hp.2 (no x)
theorem g_mk1 : ∀ n, n < 10 → ∀ x, x < 9 → bt (((1 : Int32) <<< (nI n &&& 31)) - (1 : Int32)) x = decide (x < n) := by decide +kernel
theorem g_mk2 : ∀ n, n < 9 → ∀ x, x < 9 → bt ((1 : Int32) <<< (nI n &&& 31)) x = decide (x = n) := by decide +kernel
theorem S_readTuples {post : Int32 → mSt → Prop} {bar : Bool} (h : RD G r rl s i acc acc) (hl : acc.length < 24) (hy : ∀ t, RD G r rl t i (acc ++ [(84, 0, 0, bar)]) (acc ++ [(84, 0, 0, bar)]) → mx_fr (F_rd r) s t → post 1 t) : X_Rd_readTuples scr (d + 2) s (bI bar) post := by
  obtain ⟨hr9, hok, hl9, hr⟩ := RD_tx h
  refine w_Rd_readTuples ⟨r, h.2.2.2.1, hr9, r, h.2.2.2.1, hr9, S_need (sp := (84, 0, 0, bar)) h rfl (fun x hx => ?_) (fun t ht hf => ⟨r, ht.2.2.2.1, hr9, S_addStep (f := 0) (x := 0) (b := bar) ht hl rfl (fun t' ht' hf' => ⟨rfl, hy t' ht' (hf.tr hf')⟩)⟩)⟩
  rw [b_and, h.2.2.2.2.1, hr.2.2.2.1, g_mk1 _ (by omega) x hx, Bool.and_eq_true, decide_eq_true_eq]
  constructor
  · exact fun h => Or.inl ⟨rfl, h.2, h.1⟩
  · rintro (⟨-, h1, h2⟩ | ⟨h, -⟩ | ⟨h, -⟩)
    · exact ⟨h2, h1⟩
    · exact absurd (show (84 : Int32) = 99 from h) (by decide)
    · exact absurd (show (84 : Int32) = 102 from h) (by decide)
end
