def mx_isR : Instr → Bool
  | .return_ => true
  | .ireturn => true
  | .areturn => true
  | _ => false
theorem mx_oi1 : Cond.instanceMethod Lib.objectInit ∈ wg := wg_in (List.mem_append_right _ (List.mem_of_getElem? (i := 23) (by decide +kernel))) rfl
theorem mx_oi2 : Cond.code Lib.objectInit ⟨#[0xb1]⟩ 1 none ∈ wg := wg_in (List.mem_append_right _ (List.mem_of_getElem? (i := 24) (by decide +kernel))) rfl
section
variable {p : Program} {l : Launch} {e : Env} {R : Room} {s0 : State} {m : MethodId} {args : Array Value} {below : List Frame} {meth : Method} {c : Code} {Q : State → Prop} {D : va_G} {ca : Nat → ClassId} {bs maxL : Nat} {L : mLV} {S : List mAV} {s : mSt} {u : Nat × Nat}
set_option maxHeartbeats 4000000 in
theorem mx_lat_f {scr : mSc} {cal : Nat → List mAV → mSt → mPo → (Nat → mSt → Prop) → Prop} {M : mMt} {post : mPo} {ex : Nat → mSt → Prop} {k : List mEn → mLV → List mAV → mSt → Nat × Nat → Prop} {e0 : mEn} {es : List mEn} {own mn : String} {cc : ByteArray}
    (hCx : mx_Cx p l R s0 m args meth c false D ca bs scr own mn cc maxL M cal) (hcns : mx_cns M.1 = true) (hE : mx_okE own mn cc maxL e0 = true) (hthr : M.2.2.2.2.2 = false) (hrm : 8 ≤ R.frames ∧ 200 ≤ R.locals) (hMs : ∀ mi, mi < mx_nM → mx_okM mi = true)
    (hiv : ∀ n, e0.2.2.1 = .invokevirtual n ∨ e0.2.2.1 = .invokestatic n ∨ e0.2.2.1 = .invokespecial n → (e0.2.2.2.2.1 = [] ∧ e0.2.2.1 = .invokespecial n ∧ Cond.methodLink own n Lib.objectInit ∈ wg) ∨ (mx_iv own e0.2.2.1 e0.2.2.2.2.1 = true ∧ ∀ a r, e0.2.2.2.2.1 = a :: r → mx_pu a = true))
    (hret : mx_isR e0.2.2.1 = true → mx_stp false scr cal M post ex k e0 es L S s u → mx_GA p l e R s0 m args below meth c Q false D ca bs maxL e0.1 L S s u)
    (hk : ∀ es L S s u, k es L S s u → mx_Sf M.1 es → ∀ pc, (∀ e r, es = e :: r → e.1 = pc) → mx_GA p l e R s0 m args below meth c Q false D ca bs maxL pc L S s u)
    (hsf : mx_Sf M.1 (e0 :: es)) (hlat : mx_lat e0.2.2.1 = true) (h : mx_stp false scr cal M post ex k e0 es L S s u) : mx_GA p l e R s0 m args below meth c Q false D ca bs maxL e0.1 L S s u := by
  have hnx := mx_nx hcns hsf
  obtain ⟨hx, hb, hml, hown, hmn, hts, hV, hX, hXb, hbs, hR, hcal, hXT⟩ := hCx
  obtain ⟨pc, cut, ins, len, aux, ic, lc⟩ := e0
  have hd : decode cc pc = .ok (ins, len) := of_decide_eq_true (Bool.and_eq_true_iff.mp hE).1
  have hI := (Bool.and_eq_true_iff.mp hE).2
  cases ins with
  | new n => exact mx_new_ok hx hb hown hts hV hbs hR hthr hE hnx hsf.tail hk h
  | newarray n => exact mx_newa_ok hx hb hts hV hbs hR hE hnx hsf.tail hk h
  | anewarray n => exact mx_newq_ok hx hb hown hts hV hbs hR hE hnx hsf.tail hk h
  | aastore => exact mx_aast_ok hx hb hV hE hnx hsf.tail hk h
  | putfield n => exact mx_put_ok hx hb hown hmn hts hV hE hnx hsf.tail hk h
  | invokevirtual n =>
    obtain rfl : len = 3 := of_decide_eq_true hI
    rcases hiv n (Or.inl rfl) with ⟨-, h9, -⟩ | ⟨hv, hp⟩
    · cases h9
    · exact mx_inv_ok hx hb hml hown hts hV hX hXb hbs hXT hR hMs hcal hd hv hnx hsf.tail hk (fun a r ha => mx_pu_o (hp a r ha)) h
  | invokestatic n =>
    obtain rfl : len = 3 := of_decide_eq_true hI
    rcases hiv n (Or.inr (Or.inl rfl)) with ⟨-, h9, -⟩ | ⟨hv, hp⟩
    · cases h9
    · exact mx_inv_ok hx hb hml hown hts hV hX hXb hbs hXT hR hMs hcal hd hv hnx hsf.tail hk (fun a r ha => mx_pu_o (hp a r ha)) h
  | invokespecial n =>
    obtain rfl : len = 3 := of_decide_eq_true (Bool.and_eq_true_iff.mp (show (decide (len = 3) && mx_ok0 _ n aux) = true from hI)).1
    rcases hiv n (Or.inr (Or.inr rfl)) with ⟨h8, -, hw⟩ | ⟨hv, hp⟩
    · obtain rfl : aux = [] := h8
      obtain ⟨r, S, rfl, h⟩ := mx_r1_o (show mx_r1 S (fun _ S => mx_em S (k es L [] s u)) from h)
      cases S with
      | cons _ _ => exact False.elim h
      | nil =>
        have hkk := hk _ _ _ _ _ (show k es L [] s u from h) hsf.tail _ hnx
        intro H lcs ls hW hS hl hL hO hu hz
        have hgo := hkk H lcs ls hW hS hl hL mx_oS_n hu hz
        rcases r with ⟨f, i⟩ | a
        · exact W.objInit hx hb hown (hts _ hw) (hts _ mx_oi1) (hts _ mx_oi2) (g := F0 m pc ls [.ref (bs + mx_num f i)]) rfl (hl.1.trans hml.symm) (rest := []) rfl hd (by omega) (by show 2 * 0 + 0 + 12 ≤ R.locals; omega) hgo
        · exact W.objInit hx hb hown (hts _ hw) (hts _ mx_oi1) (hts _ mx_oi2) (g := F0 m pc ls [.ref a]) rfl (hl.1.trans hml.symm) (rest := []) rfl hd (by omega) (by show 2 * 0 + 0 + 12 ≤ R.locals; omega) hgo
    · cases aux with
      | nil => cases hv
      | cons a r => exact mx_inv_ok hx hb hml hown hts hV hX hXb hbs hXT hR hMs hcal hd hv hnx hsf.tail hk (fun a' r' ha => mx_pu_o (hp a' r' ha)) h
  | return_ => exact hret rfl h
  | ireturn => exact hret rfl h
  | areturn => exact hret rfl h
  | _ => cases hlat
end
def mx_oiC (mi : Nat) : Bool := (mx_mt mi).1.all (fun e => match e.2.2.1 with
  | .invokespecial n => match e.2.2.2.2.1 with
    | [] => decide (Cond.methodLink (mx_y mi).cls n Lib.objectInit ∈ lw_tbl)
    | _ :: _ => true
  | _ => true)
def mx_allF : Prop := (∀ mi, mi < mx_nM → mx_okM mi = true) ∧ ∀ mi, mi < mx_nM → mx_pu mi = true → mx_okC mi = true ∧ mx_puC mi = true ∧ mx_oiC mi = true
theorem mx_make1 {l : Launch} {D : va_G} {ca : Nat → ClassId} {bs : Nat} {scr : mSc} {d mi : Nat} {as : List mAV} {s : mSt} {post : mPo} {ex : Nat → mSt → Prop} (hall : mx_allF) (hmi : mi < mx_nM) (hpu : mx_pu mi = true) (hO : mx_oS s as)
    (hCal : ∀ R : Room, d + 8 ≤ R.frames → 40 * d + 200 ≤ R.locals → mx_Cal l R false D ca bs scr (mx_XW false scr d)) (h : mx_XW false scr (d + 1) mi as s post ex) : mx_CT l false D ca bs scr d mi as s post ex := by
  obtain ⟨hC, hpC, hoC⟩ := hall.2 mi hmi hpu
  obtain ⟨hcns, hhd, hE⟩ := mx_okC_o hC
  obtain ⟨o1, o2, o3, o4, o5, -⟩ := mx_okM_o (hall.1 mi hmi)
  obtain ⟨hle, n, h⟩ := mx_eq_o (show mx_eq (Nat.ble (mx_wt as) (mx_mLs.getD mi 0)).toNat 1 _ from h)
  have hle : mx_wt as ≤ mx_mLs.getD mi 0 := Nat.le_of_ble_eq_true (by cases hb9 : Nat.ble (mx_wt as) (mx_mLs.getD mi 0) with
    | true => rfl
    | false => rw [hb9] at hle; cases hle)
  rw [mx_mLs_eq mi hmi] at hle
  refine mx_ofW o5 (fun p e s0 m args below meth c s₁ B hml hv => ?_)
  obtain ⟨rfl, hWS⟩ := hv
  have hts0 := atoms_spec (ws := mx_cw mi :: wg) B.pre
  have hts : ∀ w ∈ wg, w.before _ s0 = true := fun w h => hts0 w (List.mem_cons_of_mem _ h)
  have hown := findClass_of_methodNamed B.named
  have hl := lv_entry (as.map (mx_vv bs)) (n := mx_mL mi) (by rw [mx_wt_sl]; exact hle)
  rw [lg_entry_eq]
  generalize (lg_sl (as.map (mx_vv bs)) ++ List.replicate (mx_mL mi - (lg_sl (as.map (mx_vv bs))).length) Slot.unset).toArray = ls at hl ⊢
  rw [mx_lv_args] at hl
  have hCx : mx_Cx p l (mx_rm d mi) s0 m (as.map (mx_vv bs)).toArray meth c false D ca bs scr (mx_y mi).cls (mx_y mi).name (mx_b mi) (mx_mL mi) (mx_mt mi) (mx_XW false scr d) :=
    ⟨B.exec, B.bytes, hml, hown, (name_of_methodNamed B.named B.method).1, hts, hWS.2.1, hWS.2.2.2.1.1, hWS.2.2.2.1.2, hWS.2.2.1, ⟨Nat.le_refl _, Nat.le_refl _⟩, hCal _ (Nat.le_refl _) (Nat.le_refl _), hWS.2.2.2.2.2⟩
  have hE9 : ∀ e0 ∈ (mx_mt mi).1, mx_okE (mx_y mi).cls (mx_y mi).name (mx_b mi) (mx_mL mi) e0 = true := fun e0 he => (hE e0 he).1
  have hl8 := fun (k : List mEn → mLV → List mAV → mSt → Nat × Nat → Prop) (e0 : mEn) (es : List mEn) L S s u hk (hsf : mx_Sf (mx_mt mi).1 (e0 :: es)) hlat h => mx_lat_f (below := below) (e := e) (post := post) (ex := ex) (k := k) (e0 := e0) (es := es) (L := L) (S := S) (s := s) (u := u) (Q := mx_MQ below (mx_Q false D ca bs scr post ex) (as.map (mx_vv bs)).toArray s0 (mx_mt mi).2.2.1 (mx_mt mi).2.2.2.1 (fun q => bs ≤ q)) hCx hcns (hE9 e0 hsf.in) (mx_pu_o hpu).2 ⟨Nat.le_add_left 8 d, Nat.le_add_left 200 (40 * d)⟩ hall.1 (fun n hn => by
    obtain ⟨-, hv, hs, hi⟩ := hE e0 hsf.in
    have hp := List.all_eq_true.mp hpC e0 hsf.in
    have ho := List.all_eq_true.mp hoC e0 hsf.in
    rcases hn with hn | hn | hn
    · rw [hn] at hp ⊢
      refine Or.inr ⟨hv n hn, fun a r ha => ?_⟩
      dsimp only at hp
      rw [ha] at hp
      exact hp
    · rw [hn] at hp ⊢
      refine Or.inr ⟨hs n hn, fun a r ha => ?_⟩
      dsimp only at hp
      rw [ha] at hp
      exact hp
    · rw [hn] at hp ho ⊢
      dsimp only at hp ho
      cases ha : e0.2.2.2.2.1 with
      | nil =>
        rw [ha] at ho
        exact Or.inl ⟨rfl, rfl, wg_in (of_decide_eq_true ho) rfl⟩
      | cons a r =>
        rw [ha] at hp
        refine Or.inr ⟨hi n a r hn ha, fun a' r' h9 => ?_⟩
        cases h9
        exact hp) (fun hr h9 => mx_ret_ok (e := e) (below := below) (k := k) (es := es) (L := L) (S := S) (s := s) (u := u) (post := post) (ex := ex) hCx ⟨rfl, rfl⟩ B.returns B.notSynchronized (hE9 e0 hsf.in) (by
    cases h8 : e0.2.2.1 <;> rw [h8] at hr <;> first | exact Or.inl rfl | exact Or.inr (Or.inl rfl) | exact Or.inr (Or.inr rfl) | cases hr) h9) hk hsf hlat h
  refine mx_blk_ok hCx hcns hE9 (mx_xq_ok hCx hcns hE9 hl8 n) hl8 _ _ _ _ _ _ _ h ⟨[], rfl⟩ 0 (fun e r he => ?_) s0.heap [] ls hWS.1 va_S.rf hl (mx_oL_args hO) mx_oS_n ⟨Nat.zero_le _, Nat.zero_le _⟩ (fun _ => by rw [hWS.2.2.2.2.1 rfl]; rfl)
  rw [he] at hhd
  exact Option.some.inj hhd
theorem mx_make (l : Launch) (D : va_G) (ca : Nat → ClassId) (bs : Nat) (scr : mSc) (hall : mx_allF) : ∀ d mi as s post ex, mi < mx_nM → mx_pu mi = true → mx_oS s as → mx_XW false scr (d + 1) mi as s post ex → mx_CT l false D ca bs scr d mi as s post ex := by
  intro d
  induction d with
  | zero => exact fun mi as s post ex hmi hpu hO h => mx_make1 hall hmi hpu hO (fun R _ _ _ _ _ _ _ _ _ _ h => False.elim h) h
  | succ d ih => exact fun mi as s post ex hmi hpu hO h => mx_make1 hall hmi hpu hO (fun R h1 h2 mi as s post ex hmi hpu hO h => ⟨d, ih mi as s post ex hmi hpu hO h, by omega, by omega⟩) h
