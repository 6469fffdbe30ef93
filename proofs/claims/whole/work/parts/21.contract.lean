theorem mx_rt0_o {S : List mAV} {r : Option FieldType} {P : Prop} (h : mx_rt0 S r P) : S = [] ∧ r = none ∧ P := by
  unfold mx_rt0 at h
  split at h
  · exact ⟨rfl, rfl, h⟩
  · exact False.elim h
theorem mx_rt1_o {S : List mAV} {r : Option FieldType} {x : Int32} {P : Prop} (h : mx_rt1 S r x P) : ∃ ty, S = [] ∧ r = some ty ∧ narrow ty (.int x) = .int x ∧ P := by
  unfold mx_rt1 at h
  split at h
  · exact ⟨.int, rfl, rfl, rfl, h⟩
  · exact ⟨.boolean, rfl, rfl, h.1, h.2⟩
  · exact ⟨.char, rfl, rfl, h.1, h.2⟩
  · exact False.elim h
theorem mx_rt2_o {S : List mAV} {r : Option FieldType} {P : Prop} (h : mx_rt2 S r P) : ∃ n, S = [] ∧ r = some (.object n) ∧ P := by
  unfold mx_rt2 at h
  split at h
  · exact ⟨_, rfl, rfl, h⟩
  · exact False.elim h
section
variable {p : Program} {l : Launch} {e : Env} {R : Room} {s0 : State} {m : MethodId} {args : Array Value} {below : List Frame} {meth : Method} {c : Code} {md : Bool} {D : va_G} {ca : Nat → ClassId} {bs maxL : Nat} {L : mLV} {S : List mAV} {s : mSt} {u : Nat × Nat}
theorem mx_endW {scr : mSc} {H : Heap} {lcs : List Loc} {t : State} (hV : mx_VM D ca s0) (hX : va_X scr.1 scr.2.1 scr.2.2 s0 s0.heap) (hXb : scr.1 < bs) (hbs : bs ≤ s0.heap.size) (hXT : xt_T bs s0) (hW : mx_WH md D ca bs s H) (hS : va_S (fun q => bs ≤ q) s0.heap H lcs) (hzz : md = false → H.size = bs + s.2.2.2) (ht : t.heap = H) (hWm : s0.WarmedH t.vm) : mx_WS md D ca bs scr s t := (mx_pre (av := []) hV hX hXb hbs hXT hW hS hzz t ht hWm).2
set_option maxHeartbeats 4000000 in
theorem mx_ret_ok {scr : mSc} {cal : Nat → List mAV → mSt → mPo → (Nat → mSt → Prop) → Prop} {M : mMt} {post : mPo} {ex : Nat → mSt → Prop} {k : List mEn → mLV → List mAV → mSt → Nat × Nat → Prop} {e0 : mEn} {es : List mEn} {own mn : String} {cc : ByteArray}
    (hCx : mx_Cx p l R s0 m args meth c md D ca bs scr own mn cc maxL M cal) (hRe : R.cells = M.2.2.1 ∧ R.slots = M.2.2.2.1) (hret : meth.sig.returnType = M.2.1) (hlk : meth.locks = false) (hE : mx_okE own mn cc maxL e0 = true)
    (hi : e0.2.2.1 = .return_ ∨ e0.2.2.1 = .ireturn ∨ e0.2.2.1 = .areturn)
    (h : mx_stp md scr cal M post ex k e0 es L S s u) : mx_GA p l e R s0 m args below meth c (mx_MQ below (mx_Q md D ca bs scr post ex) args s0 M.2.2.1 M.2.2.2.1 (fun q => bs ≤ q)) md D ca bs maxL e0.1 L S s u := by
  obtain ⟨hx, hb, hml, hown, hmn, hts, hV, hX, hXb, hbs, hR, hcal, hXT⟩ := hCx
  obtain ⟨pc, cut, ins, len, aux, ic, lc⟩ := e0
  have h9 := Bool.and_eq_true_iff.mp hE
  have hd : decode cc pc = .ok (ins, len) := of_decide_eq_true h9.1
  have hI := h9.2
  intro H lcs ls hW hS hl hL hO hu hz
  refine mx_szW (fun hsz => ?_)
  have hge := mx_ge hbs hW hS
  have hzz : md = false → H.size = bs + s.2.2.2 := fun hm => by
    have h1 := hz hm
    omega
  rw [hRe.1, hRe.2] at hu
  refine W.widen (k := M.2.2.1) (n := M.2.2.2.1) hu.1 hu.2 ?_
  rcases hi with hi | hi | hi
  · obtain rfl : ins = .return_ := hi
    obtain rfl : len = 1 := of_decide_eq_true hI
    obtain ⟨rfl, hr, h⟩ := mx_rt0_o (show mx_rt0 S M.2.1 _ from h)
    rw [hr] at hret
    exact mx_mono mx_MQ_of (W.vret hx hb hret (fun t ht hWm => ⟨Or.inl ⟨none, rfl, Or.inl ⟨rfl, s, h, mx_endW hV hX hXb hbs hXT hW hS hzz ht hWm⟩⟩, hS.F ht⟩) hS.2.2 hd hlk)
  · obtain rfl : ins = .ireturn := hi
    obtain rfl : len = 1 := of_decide_eq_true hI
    obtain ⟨x, S, rfl, h⟩ := mx_p1_o (show mx_p1 S _ from h)
    obtain ⟨ty, rfl, hM, hn, h⟩ := mx_rt1_o (show mx_rt1 S M.2.1 x _ from h)
    rw [hM] at hret
    exact mx_mono mx_MQ_of (W.zret (v := x) hx hb hret hn (fun t ht hWm => ⟨Or.inl ⟨_, rfl, Or.inr (Or.inl ⟨x, s, rfl, h, mx_endW hV hX hXb hbs hXT hW hS hzz ht hWm⟩)⟩, hS.F ht⟩) hS.2.2 hd hlk)
  · obtain rfl : ins = .areturn := hi
    obtain rfl : len = 1 := of_decide_eq_true hI
    obtain ⟨f, i, S, rfl, h⟩ := mx_rf_o (show mx_rf S _ from h)
    obtain ⟨n, rfl, hM, h⟩ := mx_rt2_o (show mx_rt2 S M.2.1 _ from h)
    rw [hM] at hret
    exact mx_mono mx_MQ_of (W.aret (v := .ref (bs + mx_num f i)) hx hb hret (Or.inl ⟨n, rfl⟩) (Or.inr ⟨_, rfl⟩) (fun t ht hWm => ⟨Or.inl ⟨_, rfl, Or.inr (Or.inr ⟨f, i, s, rfl, h, mx_oS_h hO, mx_endW hV hX hXb hbs hXT hW hS hzz ht hWm⟩)⟩, hS.F ht⟩) hS.2.2 hd hlk)
end
section
variable {p : Program} {l : Launch} {e : Env} {R : Room} {s0 : State} {m : MethodId} {args : Array Value} {below : List Frame} {meth : Method} {c : Code} {D : va_G} {ca : Nat → ClassId} {bs maxL : Nat} {L : mLV} {S : List mAV} {s : mSt} {u : Nat × Nat}
def mx_puC (mi : Nat) : Bool := (mx_mt mi).1.all (fun e => match e.2.2.1 with
  | .invokevirtual _ => mx_pu (e.2.2.2.2.1.headD 0)
  | .invokestatic _ => mx_pu (e.2.2.2.2.1.headD 0)
  | .invokespecial _ => match e.2.2.2.2.1 with
    | [] => true
    | a :: _ => mx_pu a
  | _ => true)
theorem mx_okC_o {mi : Nat} (h : mx_okC mi = true) : mx_cns (mx_mt mi).1 = true ∧ ((mx_mt mi).1.head?.map fun e => e.1) = some 0 ∧ ∀ e0 ∈ (mx_mt mi).1, mx_okE (mx_y mi).cls (mx_y mi).name (mx_b mi) (mx_mL mi) e0 = true ∧ (∀ n, e0.2.2.1 = .invokevirtual n → mx_iv (mx_y mi).cls (.invokevirtual n) e0.2.2.2.2.1 = true) ∧ (∀ n, e0.2.2.1 = .invokestatic n → mx_iv (mx_y mi).cls (.invokestatic n) e0.2.2.2.2.1 = true) ∧ ∀ n a r, e0.2.2.1 = .invokespecial n → e0.2.2.2.2.1 = a :: r → mx_iv (mx_y mi).cls (.invokespecial n) (a :: r) = true := by
  unfold mx_okC at h
  obtain ⟨h1, h⟩ := Bool.and_eq_true_iff.mp h
  obtain ⟨h2, h⟩ := Bool.and_eq_true_iff.mp h
  refine ⟨h1, of_decide_eq_true h2, fun e0 he => ?_⟩
  have h3 := List.all_eq_true.mp h e0 he
  obtain ⟨h4, h5⟩ := Bool.and_eq_true_iff.mp h3
  refine ⟨h4, fun n hn => ?_, fun n hn => ?_, fun n a r hn ha => ?_⟩
  · rw [hn] at h5
    exact h5
  · rw [hn] at h5
    exact h5
  · rw [hn] at h5
    dsimp only at h5
    rw [ha] at h5
    exact h5
theorem mx_lat_t {scr : mSc} {cal : Nat → List mAV → mSt → mPo → (Nat → mSt → Prop) → Prop} {mi : Nat} {post : mPo} {ex : Nat → mSt → Prop} {k : List mEn → mLV → List mAV → mSt → Nat × Nat → Prop} {e0 : mEn} {es : List mEn}
    (hCx : mx_Cx p l R s0 m args meth c true D ca bs scr (mx_y mi).cls (mx_y mi).name (mx_b mi) maxL (mx_mt mi) cal) (hmL : maxL = mx_mL mi) (hRe : R.cells = (mx_mt mi).2.2.1 ∧ R.slots = (mx_mt mi).2.2.2.1) (hret : meth.sig.returnType = (mx_mt mi).2.1) (hlk : meth.locks = false)
    (hMs : ∀ mi, mi < mx_nM → mx_okM mi = true) (hC : mx_okC mi = true) (hpu : mx_pu mi = true) (hpC : mx_puC mi = true)
    (hk : ∀ es L S s u, k es L S s u → mx_Sf (mx_mt mi).1 es → ∀ pc, (∀ e r, es = e :: r → e.1 = pc) → mx_GA p l e R s0 m args below meth c (mx_MQ below (mx_Q true D ca bs scr post ex) args s0 (mx_mt mi).2.2.1 (mx_mt mi).2.2.2.1 (fun q => bs ≤ q)) true D ca bs maxL pc L S s u)
    (hsf : mx_Sf (mx_mt mi).1 (e0 :: es)) (hlat : mx_lat e0.2.2.1 = true) (h : mx_stp true scr cal (mx_mt mi) post ex k e0 es L S s u) : mx_GA p l e R s0 m args below meth c (mx_MQ below (mx_Q true D ca bs scr post ex) args s0 (mx_mt mi).2.2.1 (mx_mt mi).2.2.2.1 (fun q => bs ≤ q)) true D ca bs maxL e0.1 L S s u := by
  subst hmL
  obtain ⟨hcns, -, hall⟩ := mx_okC_o hC
  obtain ⟨hE, hv, hs, hi⟩ := hall e0 hsf.in
  have hnx := mx_nx hcns hsf
  have hpu2 : ∀ n, e0.2.2.1 = .invokevirtual n ∨ e0.2.2.1 = .invokestatic n → mx_pu (e0.2.2.2.2.1.headD 0) = true := fun n h9 => by
    have h8 := List.all_eq_true.mp hpC e0 hsf.in
    rcases h9 with h9 | h9
    · rw [h9] at h8
      exact h8
    · rw [h9] at h8
      exact h8
  have hpu3 : ∀ n a r, e0.2.2.1 = .invokespecial n → e0.2.2.2.2.1 = a :: r → mx_pu a = true := fun n a r h9 h7 => by
    have h8 := List.all_eq_true.mp hpC e0 hsf.in
    rw [h9] at h8
    dsimp only at h8
    rw [h7] at h8
    exact h8
  have hret9 := mx_ret_ok (e := e) (below := below) (k := k) (es := es) (L := L) (S := S) (s := s) (u := u) (post := post) (ex := ex) hCx hRe hret hlk hE
  obtain ⟨hx, hb, hml, hown, hmn, hts, hV, hX, hXb, hbs, hR, hcal, hXT⟩ := hCx
  obtain ⟨pc, cut, ins, len, aux, ic, lc⟩ := e0
  have hd : decode (mx_b mi) pc = .ok (ins, len) := of_decide_eq_true (Bool.and_eq_true_iff.mp hE).1
  have hI := (Bool.and_eq_true_iff.mp hE).2
  cases ins with
  | new n =>
    obtain ⟨z, r, rfl, h⟩ := mx_aq_o (show mx_aq aux _ from h)
    obtain ⟨ci, r, rfl, h⟩ := mx_aq_o (show mx_aq r _ from h)
    cases z with
    | zero => exact False.elim h
    | succ z =>
      have h9 := (mx_pu_o hpu).2
      generalize (mx_mt mi) = M at h h9
      obtain ⟨M1, M2, M3, M4, M5, M6⟩ := M
      obtain rfl : M6 = false := h9
      exact False.elim h
  | newarray n => exact False.elim h
  | anewarray n =>
    obtain ⟨z, r, rfl, h⟩ := mx_aq_o (show mx_aq aux _ from h)
    exact False.elim h
  | aastore =>
    obtain ⟨g, y, S, rfl, h⟩ := mx_rf_o (show mx_rf S _ from h)
    obtain ⟨j, f, i, S, rfl, h⟩ := mx_ix_o (show mx_ix S _ from h)
    obtain ⟨-, h⟩ := mx_eq_o (show mx_eq (mx_fK f) 5 _ from h)
    exact False.elim h
  | putfield n => exact mx_put_ok hx hb hown hmn hts hV hE hnx hsf.tail hk h
  | invokevirtual n =>
    obtain rfl : len = 3 := of_decide_eq_true hI
    exact mx_inv_ok hx hb hml hown hts hV hX hXb hbs hXT hR hMs hcal hd (hv n rfl) hnx hsf.tail hk (fun a r ha => mx_pu_o (by have h9 := hpu2 n (Or.inl rfl); rw [show aux = a :: r from ha] at h9; exact h9)) h
  | invokestatic n =>
    obtain rfl : len = 3 := of_decide_eq_true hI
    exact mx_inv_ok hx hb hml hown hts hV hX hXb hbs hXT hR hMs hcal hd (hs n rfl) hnx hsf.tail hk (fun a r ha => mx_pu_o (by have h9 := hpu2 n (Or.inr rfl); rw [show aux = a :: r from ha] at h9; exact h9)) h
  | invokespecial n =>
    obtain rfl : len = 3 := of_decide_eq_true (Bool.and_eq_true_iff.mp (show (decide (len = 3) && mx_ok0 _ n aux) = true from hI)).1
    cases aux with
    | nil => exact False.elim h
    | cons a r => exact mx_inv_ok hx hb hml hown hts hV hX hXb hbs hXT hR hMs hcal hd (hi n a r rfl rfl) hnx hsf.tail hk (fun a' r' ha => by cases ha; exact mx_pu_o (hpu3 n a r rfl rfl)) h
  | return_ => exact hret9 (Or.inl rfl) h
  | ireturn => exact hret9 (Or.inr (Or.inl rfl)) h
  | areturn => exact hret9 (Or.inr (Or.inr rfl)) h
  | _ => cases hlat
end
def mx_all : Prop := (∀ mi, mi < mx_nM → mx_okM mi = true) ∧ ∀ mi, mi < mx_nM → mx_pu mi = true → mx_okC mi = true ∧ mx_puC mi = true
theorem mx_wt_sl (bs : Nat) : ∀ as : List mAV, (lg_sl (as.map (mx_vv bs))).length = mx_wt as
  | [] => rfl
  | v :: as => by
    have ih := mx_wt_sl bs as
    have e1 : lg_sl ((v :: as).map (mx_vv bs)) = (if (mx_vv bs v).category = 2 then [Slot.val (mx_vv bs v), Slot.second] else [Slot.val (mx_vv bs v)]) ++ lg_sl (as.map (mx_vv bs)) := rfl
    rw [e1, List.length_append, ih, mx_vvc]
    rcases v with x | y | ⟨f, i⟩ | a
    · rfl
    · rfl
    · rfl
    · rfl
theorem mx_pure1 {l : Launch} {D : va_G} {ca : Nat → ClassId} {bs : Nat} {scr : mSc} {d mi : Nat} {as : List mAV} {s : mSt} {post : mPo} {ex : Nat → mSt → Prop} (hall : mx_all) (hmi : mi < mx_nM) (hpu : mx_pu mi = true) (hO : mx_oS s as)
    (hCal : ∀ R : Room, d + 8 ≤ R.frames → 40 * d + 200 ≤ R.locals → mx_Cal l R true D ca bs scr (mx_XW true scr d)) (h : mx_XW true scr (d + 1) mi as s post ex) : mx_CT l true D ca bs scr d mi as s post ex := by
  obtain ⟨hC, hpC⟩ := hall.2 mi hmi hpu
  obtain ⟨hcns, hhd, hE⟩ := mx_okC_o hC
  obtain ⟨o1, o2, o3, o4, o5, -⟩ := mx_okM_o (hall.1 mi hmi)
  obtain ⟨hle, n, h⟩ := mx_eq_o (show mx_eq (Nat.ble (mx_wt as) (mx_mLs.getD mi 0)).toNat 1 _ from h)
  have hle : mx_wt as ≤ mx_mLs.getD mi 0 := Nat.le_of_ble_eq_true (by cases hb9 : Nat.ble (mx_wt as) (mx_mLs.getD mi 0) with
    | true => rfl
    | false => rw [hb9] at hle; cases hle)
  rw [mx_mLs_eq mi hmi] at hle
  refine mx_ofW o5 (fun p e s0 m args below meth c s₁ B hml hv => ?_)
  obtain ⟨rfl, hWS⟩ := hv
  have hts0 := atoms_spec (ws := mx_cw mi :: wg) B.pre
  have hts : ∀ w ∈ wg, w.before _ s0 = true := fun w h => hts0 w (List.mem_cons_of_mem _ h)
  have hown := findClass_of_methodNamed B.named
  have hl := lv_entry (as.map (mx_vv bs)) (n := mx_mL mi) (by rw [mx_wt_sl]; exact hle)
  rw [lg_entry_eq]
  generalize (lg_sl (as.map (mx_vv bs)) ++ List.replicate (mx_mL mi - (lg_sl (as.map (mx_vv bs))).length) Slot.unset).toArray = ls at hl ⊢
  rw [mx_lv_args] at hl
  have hCx : mx_Cx p l (mx_rm d mi) s0 m (as.map (mx_vv bs)).toArray meth c true D ca bs scr (mx_y mi).cls (mx_y mi).name (mx_b mi) (mx_mL mi) (mx_mt mi) (mx_XW true scr d) :=
    ⟨B.exec, B.bytes, hml, hown, (name_of_methodNamed B.named B.method).1, hts, hWS.2.1, hWS.2.2.2.1.1, hWS.2.2.2.1.2, hWS.2.2.1, ⟨Nat.le_refl _, Nat.le_refl _⟩, hCal _ (Nat.le_refl _) (Nat.le_refl _), hWS.2.2.2.2.2⟩
  have hE9 : ∀ e0 ∈ (mx_mt mi).1, mx_okE (mx_y mi).cls (mx_y mi).name (mx_b mi) (mx_mL mi) e0 = true := fun e0 he => (hE e0 he).1
  have hl8 := fun (k : List mEn → mLV → List mAV → mSt → Nat × Nat → Prop) e0 es L S s u hk hsf hlat h => mx_lat_t (below := below) (e := e) (post := post) (ex := ex) (k := k) (e0 := e0) (es := es) (L := L) (S := S) (s := s) (u := u) hCx rfl ⟨rfl, rfl⟩ B.returns B.notSynchronized hall.1 hC hpu hpC hk hsf hlat h
  refine mx_blk_ok hCx hcns hE9 (mx_xq_ok hCx hcns hE9 hl8 n) hl8 _ _ _ _ _ _ _ h ⟨[], rfl⟩ 0 (fun e r he => ?_) s0.heap [] ls hWS.1 va_S.rf hl (mx_oL_args hO) mx_oS_n ⟨Nat.zero_le _, Nat.zero_le _⟩ (fun h => by cases h)
  rw [he] at hhd
  exact Option.some.inj hhd
theorem mx_pure (l : Launch) (D : va_G) (ca : Nat → ClassId) (bs : Nat) (scr : mSc) (hall : mx_all) : ∀ d mi as s post ex, mi < mx_nM → mx_pu mi = true → mx_oS s as → mx_XW true scr (d + 1) mi as s post ex → mx_CT l true D ca bs scr d mi as s post ex := by
  intro d
  induction d with
  | zero => exact fun mi as s post ex hmi hpu hO h => mx_pure1 hall hmi hpu hO (fun R _ _ _ _ _ _ _ _ _ _ h => False.elim h) h
  | succ d ih => exact fun mi as s post ex hmi hpu hO h => mx_pure1 hall hmi hpu hO (fun R h1 h2 mi as s post ex hmi hpu hO h => ⟨d, ih mi as s post ex hmi hpu hO h, by omega, by omega⟩) h
