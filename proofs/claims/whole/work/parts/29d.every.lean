theorem xt_tabl {p : Program} {l : Launch} {S : Spec} {mi : Nat} {e : Env} {s : State} {m : MethodId} {args : Array Value} {below : List Frame} {meth : Method} {c : Code} {s₁ : State} (B : BodyLoose p l (mx_y mi) S (mx_b mi) (mx_mL mi) (mx_mt mi).2.1 e s m args below meth c s₁) (h : (mx_cw mi).before args s = true) : c.exceptionTable.toList.map (fun h => (h.startPc, h.endPc, h.handlerPc, h.catchType)) = mx_hr mi := by
  have hc0 := (Stand.of_body B).code
  unfold mx_cw at h
  split at h
  · rename_i hr
    obtain ⟨meth', c', hm', hc', -, -, -, -, he', -⟩ := Cond.code_spec B.named h
    cases B.method.symm.trans hm'
    cases hc0.symm.trans hc'
    rw [hr]
    have h9 : c.exceptionTable = #[] := Array.isEmpty_iff.mp he'
    rw [h9]
    rfl
  · rename_i a r hr
    obtain ⟨mk, methY, cY, hn, h1, h2, -, -, h5, -⟩ := Cond.codeWith_spec h
    cases B.named.symm.trans hn
    cases B.method.symm.trans h1
    cases hc0.symm.trans h2
    rw [hr]
    exact h5
theorem mx_th_o {b : Bool} {S : List mAV} {P : Prop} (h : mx_th b S P) : b = true ∧ S = [] ∧ P := by
  unfold mx_th at h
  split at h
  · exact ⟨rfl, rfl, h⟩
  · exact False.elim h
theorem mx_okX_o {mi : Nat} (h : mx_okX mi = true) : mx_okC mi = true ∧ mx_xal (mx_mt mi).1 = true ∧ mx_hk (mx_y mi).cls (mx_hr mi) (mx_mt mi).2.2.2.2.1 (mx_hws.getD mi []) = true ∧ ((mx_mt mi).2.2.2.2.2 = true → (mx_y mi).cls = R_Rs ∧ (mx_mt mi).2.2.2.2.1 = []) ∧ ∀ e0 ∈ (mx_mt mi).1, (∀ n, e0.2.2.1 = .invokevirtual n ∨ e0.2.2.1 = .invokestatic n → mx_pu (e0.2.2.2.2.1.headD 0) = true ∨ e0.2.2.2.2.1.getD 7 0 = 0) ∧ ∀ n a r, e0.2.2.1 = .invokespecial n → e0.2.2.2.2.1 = a :: r → mx_pu a = true := by
  unfold mx_okX at h
  obtain ⟨h1, h⟩ := Bool.and_eq_true_iff.mp h
  obtain ⟨h2, h⟩ := Bool.and_eq_true_iff.mp h
  obtain ⟨h3, h⟩ := Bool.and_eq_true_iff.mp h
  obtain ⟨h4, h⟩ := Bool.and_eq_true_iff.mp h
  refine ⟨h1, h2, h3, fun ht => ?_, fun e0 he => ?_⟩
  · rw [ht] at h4
    exact of_decide_eq_true h4
  · have h5 := List.all_eq_true.mp h e0 he
    refine ⟨fun n hn => ?_, fun n a r hn ha => ?_⟩
    · rcases hn with hn | hn
      · rw [hn] at h5
        rcases Bool.or_eq_true_iff.mp h5 with h6 | h6
        · exact Or.inl h6
        · exact Or.inr (of_decide_eq_true h6)
      · rw [hn] at h5
        rcases Bool.or_eq_true_iff.mp h5 with h6 | h6
        · exact Or.inl h6
        · exact Or.inr (of_decide_eq_true h6)
    · rw [hn] at h5
      dsimp only at h5
      rw [ha] at h5
      exact h5
section
variable {p : Program} {l : Launch} {e : Env} {R : Room} {s0 : State} {m : MethodId} {args : Array Value} {below : List Frame} {meth : Method} {c : Code} {D : va_G} {ca : Nat → ClassId} {bs maxL : Nat} {L : mLV} {S : List mAV} {s : mSt} {u : Nat × Nat}
set_option maxHeartbeats 4000000 in
theorem mx_lat_a {scr : mSc} {cal : Nat → List mAV → mSt → mPo → (Nat → mSt → Prop) → Prop} {mi : Nat} {post : mPo} {ex : Nat → mSt → Prop} {k : List mEn → mLV → List mAV → mSt → Nat × Nat → Prop} {e0 : mEn} {es : List mEn}
    (hCx : mx_Cx p l R s0 m args meth c true D ca bs scr (mx_y mi).cls (mx_y mi).name (mx_b mi) maxL (mx_mt mi) cal) (hcalA : mx_CalA l R true D ca bs scr cal) (hmL : maxL = mx_mL mi) (hRe : R.cells = (mx_mt mi).2.2.1 ∧ R.slots = (mx_mt mi).2.2.2.1) (hret : meth.sig.returnType = (mx_mt mi).2.1) (hlk : meth.locks = false)
    (hMs : ∀ mi, mi < mx_nM → mx_okM mi = true) (hXm : mx_okX mi = true) (htr : ∀ e, l.admits e → e.platform.stackTraces = false) (hrm : 8 ≤ R.frames ∧ 200 ≤ R.locals) (hrows : xt_Rw (mx_y mi).cls c.exceptionTable.toList (mx_mt mi).2.2.2.2.1)
    (hk : ∀ es L S s u, k es L S s u → mx_Sf (mx_mt mi).1 es → ∀ pc, (∀ e r, es = e :: r → e.1 = pc) → mx_GA p l e R s0 m args below meth c (mx_MQ below (mx_Q true D ca bs scr post ex) args s0 (mx_mt mi).2.2.1 (mx_mt mi).2.2.2.1 (fun q => bs ≤ q)) true D ca bs maxL pc L S s u)
    (hsf : mx_Sf (mx_mt mi).1 (e0 :: es)) (hlat : mx_lat e0.2.2.1 = true) (h : mx_stp true scr cal (mx_mt mi) post ex k e0 es L S s u) : mx_GA p l e R s0 m args below meth c (mx_MQ below (mx_Q true D ca bs scr post ex) args s0 (mx_mt mi).2.2.1 (mx_mt mi).2.2.2.1 (fun q => bs ≤ q)) true D ca bs maxL e0.1 L S s u := by
  subst hmL
  obtain ⟨hC, hxal, -, hthr, hinv⟩ := mx_okX_o hXm
  obtain ⟨hcns, -, hall⟩ := mx_okC_o hC
  obtain ⟨hE, hv, hs, hi⟩ := hall e0 hsf.in
  obtain ⟨hp2, hp3⟩ := hinv e0 hsf.in
  have hnx := mx_nx hcns hsf
  have hout : (mx_mt mi).2.2.2.2.2 = true → c.exceptionTable.toList = [] := fun ht => by
    rw [(hthr ht).2] at hrows
    cases hl9 : c.exceptionTable.toList with
    | nil => rfl
    | cons x xs =>
      rw [hl9] at hrows
      exact False.elim hrows
  have hret9 := mx_ret_ok (e := e) (below := below) (k := k) (es := es) (L := L) (S := S) (s := s) (u := u) (post := post) (ex := ex) hCx hRe hret hlk hE
  have hlv := mx_leave (p := p) (l := l) (e := e) (s0 := s0) (m := m) (args := args) (below := below) (D := D) (ca := ca) (bs := bs) (scr := scr) (post := post) (ex := ex) hout hlk hRe
  have hCx0 := hCx
  obtain ⟨hx, hb, hml, hown, hmn, hts, hV, hX, hXb, hbs, hR, hcal, hXT⟩ := hCx
  obtain ⟨pc, cut, ins, len, aux, ic, lc⟩ := e0
  have hd : decode (mx_b mi) pc = .ok (ins, len) := of_decide_eq_true (Bool.and_eq_true_iff.mp hE).1
  have hI := (Bool.and_eq_true_iff.mp hE).2
  cases ins with
  | new n =>
    obtain ⟨z, r, rfl, h⟩ := mx_aq_o (show mx_aq aux _ from h)
    obtain ⟨ci, r, rfl, h⟩ := mx_aq_o (show mx_aq r _ from h)
    cases z with
    | zero => exact False.elim h
    | succ z =>
      obtain ⟨ht, hS0, hh⟩ := mx_th_o (show mx_th (mx_mt mi).2.2.2.2.2 S _ from h)
      clear h hret9
      subst hS0
      have h := hh
      obtain ⟨b1, b2, h⟩ := mx_bg_o (show mx_bg (u.1 + 1) (u.2 + 6) (mx_mt mi) (ex ci s) from h)
      have hc := (hthr ht).1
      rw [hc] at hCx0
      exact mx_throw_ok hCx0 htr hrm (hout ht) hlk hRe hcns (fun e1 h1 => by have h9 := (hall e1 h1).1; rw [hc] at h9; exact h9) hxal hsf ⟨b1, b2⟩ h
  | newarray n => exact False.elim h
  | anewarray n =>
    obtain ⟨z, r, rfl, h⟩ := mx_aq_o (show mx_aq aux _ from h)
    exact False.elim h
  | aastore =>
    obtain ⟨g, y, S, rfl, h⟩ := mx_rf_o (show mx_rf S _ from h)
    obtain ⟨j, f, i, S, rfl, h⟩ := mx_ix_o (show mx_ix S _ from h)
    obtain ⟨-, h⟩ := mx_eq_o (show mx_eq (mx_fK f) 5 _ from h)
    exact False.elim h
  | putfield n => exact mx_put_ok hx hb hown hmn hts hV hE hnx hsf.tail hk h
  | invokevirtual n =>
    obtain rfl : len = 3 := of_decide_eq_true hI
    by_cases hp : mx_pu (aux.headD 0) = true
    · exact mx_inv_ok hx hb hml hown hts hV hX hXb hbs hXT hR hMs hcal hd (hv n rfl) hnx hsf.tail hk (fun a r ha => mx_pu_o (by rw [show aux = a :: r from ha] at hp; exact hp)) h
    · exact mx_invx_ok hx hb hml hown hts hV hX hXb hbs hXT hR hMs hcalA (Or.inr hrows) hlv hd (hv n rfl) hnx hsf.tail hk ((hp2 n (Or.inl rfl)).resolve_left hp) (fun n9 h9 => by cases h9) h
  | invokestatic n =>
    obtain rfl : len = 3 := of_decide_eq_true hI
    by_cases hp : mx_pu (aux.headD 0) = true
    · exact mx_inv_ok hx hb hml hown hts hV hX hXb hbs hXT hR hMs hcal hd (hs n rfl) hnx hsf.tail hk (fun a r ha => mx_pu_o (by rw [show aux = a :: r from ha] at hp; exact hp)) h
    · exact mx_invx_ok hx hb hml hown hts hV hX hXb hbs hXT hR hMs hcalA (Or.inr hrows) hlv hd (hs n rfl) hnx hsf.tail hk ((hp2 n (Or.inr rfl)).resolve_left hp) (fun n9 h9 => by cases h9) h
  | invokespecial n =>
    obtain rfl : len = 3 := of_decide_eq_true (Bool.and_eq_true_iff.mp (show (decide (len = 3) && mx_ok0 _ n aux) = true from hI)).1
    cases aux with
    | nil => exact False.elim h
    | cons a r => exact mx_inv_ok hx hb hml hown hts hV hX hXb hbs hXT hR hMs hcal hd (hi n a r rfl rfl) hnx hsf.tail hk (fun a' r' ha => by cases ha; exact mx_pu_o (hp3 n a r rfl rfl)) h
  | return_ => exact hret9 (Or.inl rfl) h
  | ireturn => exact hret9 (Or.inr (Or.inl rfl)) h
  | areturn => exact hret9 (Or.inr (Or.inr rfl)) h
  | _ => cases hlat
end
def mx_allX : Prop := (∀ mi, mi < mx_nM → mx_okM mi = true) ∧ ∀ mi, mi < mx_nM → mx_okX mi = true
theorem mx_full1 {l : Launch} {D : va_G} {ca : Nat → ClassId} {bs : Nat} {scr : mSc} {d mi : Nat} {as : List mAV} {s : mSt} {post : mPo} {ex : Nat → mSt → Prop} (hall : mx_allX) (htr : ∀ e, l.admits e → e.platform.stackTraces = false) (hmi : mi < mx_nM) (hO : mx_oS s as)
    (hCal : ∀ R : Room, d + 8 ≤ R.frames → 40 * d + 200 ≤ R.locals → mx_CalA l R true D ca bs scr (mx_XW true scr d)) (h : mx_XW true scr (d + 1) mi as s post ex) : mx_CT l true D ca bs scr d mi as s post ex := by
  have hXm := hall.2 mi hmi
  obtain ⟨hC, -, hhk, -, -⟩ := mx_okX_o hXm
  obtain ⟨hcns, hhd, hE⟩ := mx_okC_o hC
  obtain ⟨o1, o2, o3, o4, o5, -⟩ := mx_okM_o (hall.1 mi hmi)
  obtain ⟨hle, n, h⟩ := mx_eq_o (show mx_eq (Nat.ble (mx_wt as) (mx_mLs.getD mi 0)).toNat 1 _ from h)
  have hle : mx_wt as ≤ mx_mLs.getD mi 0 := Nat.le_of_ble_eq_true (by cases hb9 : Nat.ble (mx_wt as) (mx_mLs.getD mi 0) with
    | true => rfl
    | false => rw [hb9] at hle; cases hle)
  rw [mx_mLs_eq mi hmi] at hle
  refine mx_ofW o5 (fun p e s0 m args below meth c s₁ B hml hv => ?_)
  obtain ⟨rfl, hWS⟩ := hv
  have hts0 := atoms_spec (ws := mx_cw mi :: wg) B.pre
  have hts : ∀ w ∈ wg, w.before _ s0 = true := fun w h => hts0 w (List.mem_cons_of_mem _ h)
  have hrows := mx_hk_o (xt_tabl B (hts0 _ List.mem_cons_self)) hhk
  have hown := findClass_of_methodNamed B.named
  have hl := lv_entry (as.map (mx_vv bs)) (n := mx_mL mi) (by rw [mx_wt_sl]; exact hle)
  rw [lg_entry_eq]
  generalize (lg_sl (as.map (mx_vv bs)) ++ List.replicate (mx_mL mi - (lg_sl (as.map (mx_vv bs))).length) Slot.unset).toArray = ls at hl ⊢
  rw [mx_lv_args] at hl
  have hcalA := hCal (mx_rm d mi) (Nat.le_refl _) (Nat.le_refl _)
  have hCx : mx_Cx p l (mx_rm d mi) s0 m (as.map (mx_vv bs)).toArray meth c true D ca bs scr (mx_y mi).cls (mx_y mi).name (mx_b mi) (mx_mL mi) (mx_mt mi) (mx_XW true scr d) :=
    ⟨B.exec, B.bytes, hml, hown, (name_of_methodNamed B.named B.method).1, hts, hWS.2.1, hWS.2.2.2.1.1, hWS.2.2.2.1.2, hWS.2.2.1, ⟨Nat.le_refl _, Nat.le_refl _⟩, fun mi as s post ex h1 _ h2 h3 => hcalA mi as s post ex h1 h2 h3, hWS.2.2.2.2.2⟩
  have hE9 : ∀ e0 ∈ (mx_mt mi).1, mx_okE (mx_y mi).cls (mx_y mi).name (mx_b mi) (mx_mL mi) e0 = true := fun e0 he => (hE e0 he).1
  have hl8 := fun (k : List mEn → mLV → List mAV → mSt → Nat × Nat → Prop) e0 es L S s u hk hsf hlat h => mx_lat_a (below := below) (e := e) (post := post) (ex := ex) (k := k) (e0 := e0) (es := es) (L := L) (S := S) (s := s) (u := u) hCx hcalA rfl ⟨rfl, rfl⟩ B.returns B.notSynchronized hall.1 hXm htr ⟨Nat.le_add_left 8 d, Nat.le_add_left 200 (40 * d)⟩ hrows hk hsf hlat h
  refine mx_blk_ok hCx hcns hE9 (mx_xq_ok hCx hcns hE9 hl8 n) hl8 _ _ _ _ _ _ _ h ⟨[], rfl⟩ 0 (fun e r he => ?_) s0.heap [] ls hWS.1 va_S.rf hl (mx_oL_args hO) mx_oS_n ⟨Nat.zero_le _, Nat.zero_le _⟩ (fun h => by cases h)
  rw [he] at hhd
  exact Option.some.inj hhd
theorem mx_full (l : Launch) (D : va_G) (ca : Nat → ClassId) (bs : Nat) (scr : mSc) (hall : mx_allX) (htr : ∀ e, l.admits e → e.platform.stackTraces = false) : ∀ d mi as s post ex, mi < mx_nM → mx_oS s as → mx_XW true scr (d + 1) mi as s post ex → mx_CT l true D ca bs scr d mi as s post ex := by
  intro d
  induction d with
  | zero => exact fun mi as s post ex hmi hO h => mx_full1 hall htr hmi hO (fun R _ _ _ _ _ _ _ _ _ h => False.elim h) h
  | succ d ih => exact fun mi as s post ex hmi hO h => mx_full1 hall htr hmi hO (fun R h1 h2 mi as s post ex hmi hO h => ⟨d, ih mi as s post ex hmi hO h, by omega, by omega⟩) h
