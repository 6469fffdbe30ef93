theorem mx_Klt {K : Nat} (h : ¬ mx_fK (mx_cod.getD K (99, 0)).1 = 9) : K < mx_KT := by
  refine Nat.lt_of_not_le fun hK => h ?_
  have hl : mx_cod.length ≤ K := hK
  rw [List.getD_eq_getElem?_getD, List.getElem?_eq_none hl]
  rfl
section
variable {ca : Nat → ClassId} {bs : Nat} {s : mSt} {f i : Nat}
theorem mx_wsn (hc : mx_cod.getD s.2.2.2 (99, 0) = (f, i)) (hK : s.2.2.2 < mx_KT) : mx_ws ca bs (mx_sn s f i) = mx_ws ca bs s ++ [(bs + s.2.2.2, mx_enc ca bs (mx_sn s f i) f i)] := by
  have e1 : (mx_sn s f i).2.2.2 = s.2.2.2 + 1 := rfl
  unfold mx_ws
  rw [e1, List.range_succ, List.map_append]
  congr 1
  · refine List.map_congr_left (fun q hq => ?_)
    have hq := List.mem_range.mp hq
    have hne : ¬ ((mx_cod.getD q (99, 0)).1 = f ∧ (mx_cod.getD q (99, 0)).2 = i) := fun h => by
      have h1 := (mx_t2 q (by omega)).1
      have h2 := (mx_t2 s.2.2.2 hK).1
      rw [h.1, h.2] at h1
      rw [hc] at h2
      have h2 : mx_num f i = s.2.2.2 := h2
      omega
    rw [mx_encC (s' := mx_sn s f i) (s := s) (mx_u2n hne) (mx_u2n hne) (mx_u2n hne)]
  · simp only [List.map_cons, List.map_nil]
    rw [hc]
theorem mx_snok (hc : mx_cod.getD s.2.2.2 (99, 0) = (f, i)) (hK : s.2.2.2 < mx_KT) : mx_ok (mx_sn s f i) (.inr (.inr (.inl (f, i)))) ∧ mx_num f i = s.2.2.2 := by
  obtain ⟨h1, h2⟩ := mx_t2 s.2.2.2 hK
  rw [hc] at h1 h2
  have h1 : mx_num f i = s.2.2.2 := h1
  exact ⟨⟨h2, by rw [h1]; exact Nat.lt_succ_self _⟩, h1⟩
theorem mx_sni : (mx_sn s f i).1 f i = fun _ => 0 := mx_u2s
theorem mx_snl : (mx_sn s f i).2.1 f i = fun _ => 0 := mx_u2s
theorem mx_snr : (mx_sn s f i).2.2.1 f i = fun _ => none := mx_u2s
end
theorem mx_addr {ca : Nat → ClassId} {bs K q : Nat} {s : mSt} {E : va_E} {D : va_G} {H1 : Heap} {n : Nat} (hP : va_P D cls (mx_ws ca bs s ++ [(q, E)]) H1) (hD : va_D (fun q => bs ≤ q) (mx_ws ca bs s ++ [(q, E)])) (hK : s.2.2.2 = K) (hsz : H1.size ≤ n) (hn : n = bs + K + 1) : q = bs + K := by
  have hat : (mx_ws ca bs s ++ [(q, E)])[K]? = some (q, E) := by
    rw [List.getElem?_append_right (by rw [mx_len]; omega), mx_len, hK, Nat.sub_self]
    rfl
  have h1 : q < H1.size := (hP K _ hat).lt
  have h2 : bs ≤ q := hD.2 K _ hat
  refine Nat.le_antisymm (by omega) (Nat.le_of_not_lt fun h => ?_)
  have hj : q - bs < s.2.2.2 := by omega
  have h3 : (mx_ws ca bs s ++ [(q, E)])[q - bs]? = some (bs + (q - bs), mx_enc ca bs s (mx_cod.getD (q - bs) (99, 0)).1 (mx_cod.getD (q - bs) (99, 0)).2) := by
    rw [List.getElem?_append_left (by rw [mx_len]; exact hj)]
    unfold mx_ws
    rw [List.getElem?_map, List.getElem?_range hj]
    rfl
  have h4 := hD.1 (q - bs) K _ _ h3 hat (by show bs + (q - bs) = q; omega)
  omega
theorem mx_dfl {ci : Nat} {C : String} {T : u_T} {N : Nat} (h : cls[ci]? = some (C, T, N)) : ∃ ty : Nat → FieldType, (∀ k, k < N → parseFieldDescriptor (T k).2.2.1 = some (ty k)) ∧ ∀ j, j < N → defaultValue (ty j) = match mx_fR ci j with
    | 0 => .int 0
    | _ + 1 => .null := by
  match ci, h with
  | 0, h => cases h; exact ⟨_, tk_Rs, by decide +kernel⟩
  | 1, h => cases h; exact ⟨_, tk_Cf, by decide +kernel⟩
  | 2, h => cases h; exact ⟨_, tk_Lg, by decide +kernel⟩
  | 3, h => cases h; exact ⟨_, tk_Rd, by decide +kernel⟩
  | 4, h => cases h; exact ⟨_, tk_Rl, by decide +kernel⟩
  | 5, h => cases h; exact ⟨_, tk_Vs, by decide +kernel⟩
  | 6, h => cases h; exact ⟨_, tk_Md, by decide +kernel⟩
  | n + 7, h => cases h
section
variable {p : Program} {l : Launch} {e : Env} {R : Room} {s0 : State} {m : MethodId} {args : Array Value} {below : List Frame} {meth : Method} {c : Code} {Q : State → Prop} {D : va_G} {ca : Nat → ClassId} {bs maxL : Nat} {L : mLV} {S : List mAV} {s : mSt} {u : Nat × Nat}
theorem mx_after {H1 : Heap} {lcs : List Loc} {ls : Array Slot} {q f i pc n : Nat} {E : va_E} (hcod : mx_cod.getD s.2.2.2 (99, 0) = (f, i)) (hK : s.2.2.2 < mx_KT) (hE : mx_enc ca bs (mx_sn s f i) f i = E)
    (hP1 : va_P D cls (mx_ws ca bs s ++ [(q, E)]) H1) (hD1 : va_D (fun q => bs ≤ q) (mx_ws ca bs s ++ [(q, E)])) (hS1 : va_S (fun q => bs ≤ q) s0.heap H1 lcs) (hl : lv_has ls maxL (mx_VL bs L)) (hL : mx_oL s L) (hO : mx_oS s S) (hu : u.1 + 1 ≤ R.cells ∧ u.2 + n ≤ R.slots) (hz : bs + s.2.2.2 = s0.heap.size + u.1)
    (hGA : mx_GA p l e R s0 m args below meth c Q false D ca bs maxL pc L (.inr (.inr (.inl (f, i))) :: S) (mx_sn s f i) (u.1 + 1, u.2 + n)) : W p l e R s0 m args below meth c H1 lcs (u.1 + 1) (u.2 + n) Q (F0 m pc ls (.ref q :: S.map (mx_vv bs))) := by
  refine mx_szW (fun hsz => ?_)
  have hq := mx_addr (K := s.2.2.2) hP1 hD1 rfl hsz (by omega)
  obtain ⟨hok, hnum⟩ := mx_snok hcod hK
  subst hq
  rw [← hE, ← mx_wsn hcod hK] at hP1
  have h9 := hGA H1 lcs ls ⟨hP1, hK, fun h => Bool.noConfusion h⟩ hS1 hl (fun x hx => mx_ok_le (Nat.le_succ _) (hL x hx)) (mx_oS_c hok (fun x hx => mx_ok_le (Nat.le_succ _) (hO x hx))) hu (fun _ => by show bs + (s.2.2.2 + 1) = s0.heap.size + (u.1 + 1); omega)
  have h9 : W p l e R s0 m args below meth c H1 lcs (u.1 + 1) (u.2 + n) Q (F0 m pc ls (.ref (bs + mx_num f i) :: S.map (mx_vv bs))) := h9
  rw [hnum] at h9
  exact h9
end
section
variable {p : Program} {l : Launch} {e : Env} {R : Room} {s0 : State} {m : MethodId} {args : Array Value} {below : List Frame} {meth : Method} {c : Code} {Q : State → Prop} {D : va_G} {ca : Nat → ClassId} {bs maxL : Nat} {L : mLV} {S : List mAV} {s : mSt} {u : Nat × Nat}
theorem mx_new_ok {scr : mSc} {cal : Nat → List mAV → mSt → mPo → (Nat → mSt → Prop) → Prop} {M : mMt} {post : mPo} {ex : Nat → mSt → Prop} {k : List mEn → mLV → List mAV → mSt → Nat × Nat → Prop} {es : List mEn} {own mn : String} {cc : ByteArray} {pc n len : Nat} {cut : Option (List Nat)} {aux : List Nat} {ic : Int32} {lc : Int64}
    (hx : p.tables.exec = Jvm.exec) (hb : c.code = cc) (hown : s0.vm.findClass own = some m.cls) (hts : ∀ w ∈ wg, w.before args s0 = true) (hV : mx_VM D ca s0) (hbs : bs ≤ s0.heap.size) (hR : M.2.2.1 ≤ R.cells ∧ M.2.2.2.1 ≤ R.slots) (hthr : M.2.2.2.2.2 = false)
    (hE : mx_okE own mn cc maxL (pc, cut, .new n, len, aux, ic, lc) = true) (hnx : ∀ e' r, es = e' :: r → e'.1 = pc + len) (hsf : mx_Sf M.1 es)
    (hk : ∀ es L S s u, k es L S s u → mx_Sf M.1 es → ∀ pc, (∀ e r, es = e :: r → e.1 = pc) → mx_GA p l e R s0 m args below meth c Q false D ca bs maxL pc L S s u)
    (h : mx_stp false scr cal M post ex k (pc, cut, .new n, len, aux, ic, lc) es L S s u) : mx_GA p l e R s0 m args below meth c Q false D ca bs maxL pc L S s u := by
  have h9 := Bool.and_eq_true_iff.mp hE
  have hd : decode cc pc = .ok (.new n, len) := of_decide_eq_true h9.1
  obtain ⟨h1, h2⟩ := Bool.and_eq_true_iff.mp (show (decide (len = 3) && mx_nk own n aux) = true from h9.2)
  obtain rfl : len = 3 := of_decide_eq_true h1
  obtain ⟨z, r, rfl, h⟩ := mx_aq_o (show mx_aq aux _ from h)
  obtain ⟨ci, r, rfl, h⟩ := mx_aq_o (show mx_aq r _ from h)
  cases z with
  | succ z =>
    have h : mx_th M.2.2.2.2.2 S (mx_bg (u.1 + 1) (u.2 + 6) M (ex ci s)) := h
    rw [hthr] at h
    exact False.elim h
  | zero =>
    obtain ⟨C, T, N, hc, w1, w2, w3⟩ := mx_nk_o h2
    have h : mx_nw s (fun f i => mx_kd f 0 (mx_eq (mx_fX f) ci (mx_bg (u.1 + 1) (u.2 + mx_nF ci) M (k es L (.inr (.inr (.inl (f, i))) :: S) (mx_sn s f i) (u.1 + 1, u.2 + mx_nF ci))))) := h
    obtain ⟨f, i, hcod, h⟩ := mx_nw_o h
    obtain ⟨h0, h⟩ := mx_eq_o (show mx_eq (mx_fK f) 0 _ from h)
    obtain ⟨hfx, h⟩ := mx_eq_o (show mx_eq (mx_fX f) ci _ from h)
    obtain ⟨b1, b2, h⟩ := mx_bg_o (show mx_bg (u.1 + 1) (u.2 + mx_nF ci) M _ from h)
    have hK : s.2.2.2 < mx_KT := mx_Klt (by rw [hcod, h0]; decide)
    obtain ⟨hin, hN⟩ := mx_cin hc
    obtain ⟨ty, hty, hdf⟩ := mx_dfl hc
    intro H lcs ls hW hS hl hL hO hu hz
    have hbud : u.1 + 1 ≤ R.cells ∧ u.2 + mx_nF ci ≤ R.slots := ⟨Nat.le_trans b1 hR.1, Nat.le_trans b2 hR.2⟩
    rw [hN] at hbud
    refine va_new (ci := ci) (fs := (List.range N).map (mx_fv bs (mx_sn s f i) f i)) hx hb hts hin ty hty hown (hts _ w1) (hts _ w2) (hts _ w3) hV.1 hW.1 mx_D hS (fun q hq => Nat.le_trans hbs hq) hc (fun j hj => ?_) hbud.1 hbud.2 hd (fun q H1 hP1 hD1 hS1 => ?_)
    · rw [hdf j hj]
      have e1 : vp_V ((List.range N).map (mx_fv bs (mx_sn s f i) f i)) j = mx_fv bs (mx_sn s f i) f i j := by
        unfold vp_V
        rw [List.getD_eq_getElem?_getD, List.getElem?_map, List.getElem?_range hj]
        rfl
      rw [e1]
      unfold mx_fv
      rw [hfx, mx_sni, mx_snr]
      cases mx_fR ci j with
      | zero => rfl
      | succ g => rfl
    · refine mx_after hcod hK ?_ hP1 hD1 hS1 hl hL hO hbud (hz rfl) ?_
      · rw [mx_enc0 h0, hfx, hN]
      · rw [← hN]
        exact hk _ _ _ _ _ h hsf _ hnx
end
