def lw_sm : Cond → Bool
  | .lays .. => true
  | .laysFinal .. => true
  | .instantiable .. => true
  | .arrayClass .. => true
  | .arrayOver .. => true
  | .declares .. => true
  | .castable .. => true
  | .laysStatic .. => true
  | _ => false
def lw_nd : List Cond := cls.flatMap (fun q => .instantiable q.1 q.2.2 :: u_ws q.1 q.2.1 q.2.2) ++ ([.arrayClass .int, .arrayClass .long, .arrayClass .char, .arrayClass .boolean, .arrayOver (.object R_Rl), .arrayOver (.object R_Vs)] ++ (xt_ws.take 6 ++ xt_hs.take 2))
theorem lw_nd_in : lw_nd.all (fun w => decide (w ∈ lw_tbl.filter lw_sm)) = true := by decide +kernel
theorem lw_nd_o {w : Cond} (h : w ∈ lw_nd) : w ∈ lw_tbl := (List.mem_filter.mp (of_decide_eq_true (List.all_eq_true.mp lw_nd_in w h))).1
theorem lw_nr_in : (xt_ws.drop 6 ++ xt_hs.drop 2).all (fun w => decide (w ∈ flatC (Jvm.Cond.and given_1 narrow_1))) = true := by decide +kernel
theorem lw_arr {A : Array Value} {s : State} {ty : FieldType} (h : (Cond.arrayClass ty).before A s = true) (hp : ∀ C, ¬ ty = .object C) : ∃ cA, ArrOfT s cA ty ∧ va_RA s cA ty := by
  obtain ⟨cA, k, comp, h1, h2, h3⟩ := Cond.arrayClass_spec h
  refine ⟨cA, fun N z => ⟨(fun k h => by cases h), k, h2, comp, h3⟩, ?_⟩
  unfold va_RA
  split
  · rename_i C
    exact absurd rfl (hp C)
  · exact h1
theorem lw_arrO {A : Array Value} {s : State} {C : String} (h : (Cond.arrayOver (.object C)).before A s = true) : ∃ cA, ArrOfT s cA (.object C) ∧ va_RA s cA (.object C) := by
  obtain ⟨comp, cA, k, h1, h2, h3, h4, h5⟩ := Cond.arrayOver_spec h
  exact ⟨cA, fun N z => ⟨(fun k h => by cases h), k, h3, comp, h4⟩, k, comp, h3, h4, h1, h5⟩
theorem lw_known {A : Array Value} {s : State} (hts : ∀ w ∈ lw_tbl, w.before A s = true) : ∃ (D : va_G) (ca : Nat → ClassId), va_K D cls (tyl ca) s := by
  have hw : ∀ w ∈ lw_nd, w.before A s = true := fun w h => hts w (lw_nd_o h)
  have hk : ∀ c : Nat, ∃ r : ClassId × (Nat → Nat), ∀ q : vw_C, cls[c]? = some q → u_Kn s q.1 q.2.1 q.2.2 r.1 r.2 := by
    intro c
    cases h : cls[c]? with
    | none => exact ⟨((0 : Nat), fun _ => 0), fun q h => by cases h⟩
    | some q =>
      have hq := List.mem_of_getElem? h
      have hin : ∀ w ∈ Cond.instantiable q.1 q.2.2 :: u_ws q.1 q.2.1 q.2.2, w ∈ lw_nd := fun w hw => List.mem_append_left _ (List.mem_flatMap.mpr ⟨q, hq, hw⟩)
      obtain ⟨cC, iS, h9⟩ := u_known (ws := lw_nd) (args := A) hw (fun w hw => hin w (List.mem_cons_of_mem _ hw)) (hw _ (hin _ List.mem_cons_self))
      exact ⟨(cC, iS), fun q' h' => by cases h'; exact h9⟩
  obtain ⟨a0, f0⟩ := lw_arr (hw (.arrayClass .int) (List.mem_append_right _ (List.mem_append_left _ (by simp)))) (fun C h => by cases h)
  obtain ⟨a1, f1⟩ := lw_arr (hw (.arrayClass .long) (List.mem_append_right _ (List.mem_append_left _ (by simp)))) (fun C h => by cases h)
  obtain ⟨a2, f2⟩ := lw_arr (hw (.arrayClass .char) (List.mem_append_right _ (List.mem_append_left _ (by simp)))) (fun C h => by cases h)
  obtain ⟨a5, f5⟩ := lw_arr (hw (.arrayClass .boolean) (List.mem_append_right _ (List.mem_append_left _ (by simp)))) (fun C h => by cases h)
  obtain ⟨a3, f3⟩ := lw_arrO (hw (.arrayOver (.object R_Rl)) (List.mem_append_right _ (List.mem_append_left _ (by simp))))
  obtain ⟨a4, f4⟩ := lw_arrO (hw (.arrayOver (.object R_Vs)) (List.mem_append_right _ (List.mem_append_left _ (by simp))))
  refine ⟨(fun c => (Classical.choose (hk c)).1, fun c => (Classical.choose (hk c)).2), fun k => match k with | 0 => a0 | 1 => a1 | 2 => a2 | 3 => a3 | 4 => a4 | _ => a5, fun c q hq => Classical.choose_spec (hk c) q hq, fun k q hq => ?_⟩
  match k, hq with
  | 0, hq => cases hq; exact f0
  | 1, hq => cases hq; exact f1
  | 2, hq => cases hq; exact f2
  | 3, hq => cases hq; exact f3
  | 4, hq => cases hq; exact f4
  | 5, hq => cases hq; exact f5
  | _ + 6, hq => cases hq
theorem lw_thrown {A : Array Value} {s : State} (hts : ∀ w ∈ lw_tbl, w.before A s = true) (hg : (Jvm.Cond.and given_1 narrow_1).before A s = true) : xt_T s.heap.size s := by
  intro w hw
  have hf := flat_of_before _ hg
  have h1 : w.before A s = true := by
    have h2 : w ∈ (xt_ws.take 6 ++ xt_hs.take 2) ∨ w ∈ (xt_ws.drop 6 ++ xt_hs.drop 2) := by
      rcases List.mem_append.mp hw with h | h
      · rw [← List.take_append_drop 6 xt_ws] at h
        rcases List.mem_append.mp h with h | h
        · exact Or.inl (List.mem_append_left _ h)
        · exact Or.inr (List.mem_append_left _ h)
      · rw [← List.take_append_drop 2 xt_hs] at h
        rcases List.mem_append.mp h with h | h
        · exact Or.inl (List.mem_append_right _ h)
        · exact Or.inr (List.mem_append_right _ h)
    rcases h2 with h | h
    · exact hts w (lw_nd_o (List.mem_append_right _ (List.mem_append_right _ h)))
    · exact hf w (of_decide_eq_true (List.all_eq_true.mp lw_nr_in w h))
  refine xt_move (u := s) (U := xt_cut s.heap.size s) (State.WarmedH.refl s) (fun q c hq => ?_) w hw h1
  rw [xt_cutAt, if_pos (Array.getElem?_eq_some_iff.mp hq).1]
  exact hq
theorem lw_nest {A : Array Value} {s : State} (hts : ∀ w ∈ lw_tbl, w.before A s = true) : NW s := by
  intro w hw
  have h2 := (List.mem_filter.mp hw).2
  refine va_Nw.of (A := A) ?_ (hts w (List.mem_filter.mp hw).1)
  cases w <;> first | rfl | (simp [isNest] at h2; done)
def mt_Lw_pre : mMt := (cd_Lw_law.take 20, (some .boolean), 2000, 40000, [], false)
def mx_s0 : mSt := (fun _ _ _ => 0, fun _ _ _ => 0, fun _ _ _ => none, 0)
def lw_po : mPo := mx_kI (fun x _ => x = 1)
def lw_q (scr : mSc) (d : Nat) : Nat → mLV → mSt → Nat × Nat → Prop := fun pc L s u => mx_Made s ∧ ∃ n, mx_xq true scr (mx_XW true scr d) mt_Lw_law lw_po (fun _ _ => False) n pc L s u
def lw_Go (scr : mSc) : Prop := ∃ d d', d ≤ 2000 ∧ d' ≤ 2000 ∧ mx_blk false scr (mx_XW false scr d) mt_Lw_pre lw_po (fun _ _ => False) (lw_q scr d') 700 true (cd_Lw_law.take 20) [(0, .inr (.inr (.inr scr.1)))] [] mx_s0 (0, 0)
def lw_i1 (e : mEn) : Bool := match e.2.2.1 with
  | .putfield _ => false
  | .invokevirtual n => mx_iv R_law (.invokevirtual n) e.2.2.2.2.1 && (mx_pu (e.2.2.2.2.1.headD 0) || decide (e.2.2.2.2.1.getD 7 0 = 0))
  | .invokestatic n => mx_iv R_law (.invokestatic n) e.2.2.2.2.1 && (mx_pu (e.2.2.2.2.1.headD 0) || decide (e.2.2.2.2.1.getD 7 0 = 0))
  | .invokespecial n => mx_iv R_law (.invokespecial n) e.2.2.2.2.1 && mx_pu (e.2.2.2.2.1.headD 0)
  | _ => true
def lw_i2 (e : mEn) : Bool := match e.2.2.1 with
  | .invokevirtual _ => mx_pu (e.2.2.2.2.1.headD 0)
  | .invokestatic _ => mx_pu (e.2.2.2.2.1.headD 0)
  | .return_ => false
  | .ireturn => false
  | .areturn => false
  | _ => true
def lw_okL : Prop := mx_cns cd_Lw_law = true ∧ mx_cns (cd_Lw_law.take 20) = true ∧ (∀ e ∈ cd_Lw_law, mx_okE R_law "" code 7 e = true) ∧ (∀ e ∈ cd_Lw_law, lw_i1 e = true) ∧ (∀ e ∈ cd_Lw_law.take 20, lw_i2 e = true)
theorem lw_i1_p {e : mEn} (h : lw_i1 e = true) : ∀ n, ¬ e.2.2.1 = .putfield n := fun n hn => by
  unfold lw_i1 at h
  rw [hn] at h
  cases h
theorem lw_iv_ne {own : String} {ins : Instr} {aux : List Nat} (h : mx_iv own ins aux = true) : ∃ a r, aux = a :: r := by
  cases aux with
  | nil => cases h
  | cons a r => exact ⟨a, r, rfl⟩
theorem lw_i1_o {e : mEn} (h : lw_i1 e = true) : ∀ n, e.2.2.1 = .invokevirtual n ∨ e.2.2.1 = .invokestatic n ∨ (e.2.2.1 = .invokespecial n ∧ ¬ e.2.2.2.2.1 = []) → mx_iv R_law e.2.2.1 e.2.2.2.2.1 = true ∧ ((∀ a r, e.2.2.2.2.1 = a :: r → mx_pu a = true) ∨ (e.2.2.2.2.1.getD 7 0 = 0 ∧ ∀ n, ¬ e.2.2.1 = .invokespecial n)) := by
  intro n hn
  have hd : ∀ a r, e.2.2.2.2.1 = a :: r → e.2.2.2.2.1.headD 0 = a := fun a r h => by rw [h]; rfl
  unfold lw_i1 at h
  rcases hn with hn | hn | ⟨hn, -⟩
  · rw [hn] at h ⊢
    obtain ⟨h1, h2⟩ := Bool.and_eq_true_iff.mp h
    refine ⟨h1, ?_⟩
    rcases Bool.or_eq_true_iff.mp h2 with h2 | h2
    · exact Or.inl (fun a r ha => by rw [hd a r ha] at h2; exact h2)
    · exact Or.inr ⟨of_decide_eq_true h2, fun n h => by cases h⟩
  · rw [hn] at h ⊢
    obtain ⟨h1, h2⟩ := Bool.and_eq_true_iff.mp h
    refine ⟨h1, ?_⟩
    rcases Bool.or_eq_true_iff.mp h2 with h2 | h2
    · exact Or.inl (fun a r ha => by rw [hd a r ha] at h2; exact h2)
    · exact Or.inr ⟨of_decide_eq_true h2, fun n h => by cases h⟩
  · rw [hn] at h ⊢
    obtain ⟨h1, h2⟩ := Bool.and_eq_true_iff.mp h
    exact ⟨h1, Or.inl (fun a r ha => by rw [hd a r ha] at h2; exact h2)⟩
theorem lw_i2_o {e : mEn} (h : lw_i1 e = true) (h2 : lw_i2 e = true) : ∀ n, e.2.2.1 = .invokevirtual n ∨ e.2.2.1 = .invokestatic n ∨ e.2.2.1 = .invokespecial n → mx_iv R_law e.2.2.1 e.2.2.2.2.1 = true ∧ ∀ a r, e.2.2.2.2.1 = a :: r → mx_pu a = true := by
  intro n hn
  have hd : ∀ a r, e.2.2.2.2.1 = a :: r → e.2.2.2.2.1.headD 0 = a := fun a r h => by rw [h]; rfl
  unfold lw_i1 at h
  unfold lw_i2 at h2
  rcases hn with hn | hn | hn
  · rw [hn] at h h2 ⊢
    exact ⟨(Bool.and_eq_true_iff.mp h).1, fun a r ha => by rw [hd a r ha] at h2; exact h2⟩
  · rw [hn] at h h2 ⊢
    exact ⟨(Bool.and_eq_true_iff.mp h).1, fun a r ha => by rw [hd a r ha] at h2; exact h2⟩
  · rw [hn] at h ⊢
    obtain ⟨h1, h3⟩ := Bool.and_eq_true_iff.mp h
    exact ⟨h1, fun a r ha => by rw [hd a r ha] at h3; exact h3⟩
theorem lw_i2_r {e : mEn} (h2 : lw_i2 e = true) : ¬ mx_isR e.2.2.1 = true := by
  intro h
  unfold lw_i2 at h2
  cases h9 : e.2.2.1 <;> rw [h9] at h h2 <;> first | (cases h; done) | (cases h2; done)
set_option maxHeartbeats 4000000 in
theorem lw_of {p : Program} {e : Env} {s : State} {m : MethodId} {below : List Frame} {meth : Method} {c : Code} (l : Launch) {b L : Nat} {xs : Nat → Int32} (hall : mx_allX) (hallF : mx_allF) (hok : lw_okL) (htr : ∀ e, l.admits e → e.platform.stackTraces = false) (hgo : lw_Go (b, L, xs)) (C0 : lw_At p s m meth c b L xs) : W p l e room_1 s m #[Value.ref b] below meth c s.heap [] 0 0 (lw_Z below #[Value.ref b] s) (entryFrame m ([Value.ref b] : List Value).toArray 7) := by
  obtain ⟨hx, hb, hr, hml, hown, hts, hX, hbl, hlk, hgv⟩ := C0
  obtain ⟨k1, k2, k3, k4, k5⟩ := hok
  obtain ⟨d, d', hd, hd', hgo⟩ := hgo
  obtain ⟨D, ca, hK⟩ := lw_known hts
  have hV : mx_VM D ca s := ⟨hK, lw_nest hts, hts _ (lw_nd_o (w := .arrayOver (.object R_Rl)) (List.mem_append_right _ (List.mem_append_left _ (by simp)))), hts _ (lw_nd_o (w := .arrayOver (.object R_Vs)) (List.mem_append_right _ (List.mem_append_left _ (by simp))))⟩
  have hXT := lw_thrown hts hgv
  have hwg : ∀ w ∈ wg, w.before #[Value.ref b] s = true := fun w h => hts w (List.mem_filter.mp h).1
  have hE : ∀ e0 ∈ cd_Lw_law, mx_okE R_law meth.name code 7 e0 = true := fun e0 he => by
    rw [mx_okE_mn (mn' := "") (lw_i1_p (k4 e0 he))]
    exact k3 e0 he
  have hcalF : mx_Cal l room_1 false D ca s.heap.size (b, L, xs) (mx_XW false (b, L, xs) d) := fun mi as t post ex hmi hpu hO h => by
    cases d with
    | zero => exact False.elim h
    | succ d => exact ⟨d, mx_make l D ca _ _ hallF d mi as t post ex hmi hpu hO h, by show d + 9 ≤ 2048; omega, by show 40 * d + 240 ≤ 84000; omega⟩
  have hcalA : mx_CalA l room_1 true D ca s.heap.size (b, L, xs) (mx_XW true (b, L, xs) d') := fun mi as t post ex hmi hO h => by
    cases d' with
    | zero => exact False.elim h
    | succ d => exact ⟨d, mx_full l D ca _ _ hall htr d mi as t post ex hmi hO h, by show d + 9 ≤ 2048; omega, by show 40 * d + 240 ≤ 84000; omega⟩
  have hCt : mx_Cx p l room_1 s m #[Value.ref b] meth c true D ca s.heap.size (b, L, xs) R_law meth.name code 7 mt_Lw_law (mx_XW true (b, L, xs) d') := ⟨hx, hb, hml, hown, rfl, hwg, hV, hX, hbl, Nat.le_refl _, ⟨by show 2000 ≤ 601024; omega, by show 40000 ≤ 7293000; omega⟩, fun mi as s post ex h1 _ h2 h3 => hcalA mi as s post ex h1 h2 h3, hXT⟩
  have hCf : mx_Cx p l room_1 s m #[Value.ref b] meth c false D ca s.heap.size (b, L, xs) R_law meth.name code 7 mt_Lw_pre (mx_XW false (b, L, xs) d) := ⟨hx, hb, hml, hown, rfl, hwg, hV, hX, hbl, Nat.le_refl _, ⟨by show 2000 ≤ 601024; omega, by show 40000 ≤ 7293000; omega⟩, hcalF, hXT⟩
  have hret : ∀ (k : List mEn → mLV → List mAV → mSt → Nat × Nat → Prop) (e0 : mEn) (es : List mEn) (Lc : mLV) (S : List mAV) (t : mSt) (u : Nat × Nat), e0 ∈ cd_Lw_law → mx_isR e0.2.2.1 = true → mx_stp true (b, L, xs) (mx_XW true (b, L, xs) d') mt_Lw_law lw_po (fun _ _ => False) k e0 es Lc S t u → mx_GA p l e room_1 s m #[Value.ref b] below meth c (lw_Z below #[Value.ref b] s) true D ca s.heap.size 7 e0.1 Lc S t u := by
    intro k e0 es Lc S t u he hi h H lcs ls hW hS hl hL hO hu hz
    have hE0 := hE e0 he
    obtain ⟨pc, cut, ins, len, aux, ic, lc⟩ := e0
    have hdd : decode code pc = .ok (ins, len) := of_decide_eq_true (Bool.and_eq_true_iff.mp hE0).1
    have hI := (Bool.and_eq_true_iff.mp hE0).2
    cases ins with
    | return_ =>
      obtain ⟨-, h9, -⟩ := mx_rt0_o (show mx_rt0 S mt_Lw_law.2.1 _ from h)
      cases h9
    | ireturn =>
      obtain rfl : len = 1 := of_decide_eq_true hI
      obtain ⟨x, S, rfl, h⟩ := mx_p1_o (show mx_p1 S _ from h)
      obtain ⟨ty, rfl, hM, hn, h⟩ := mx_rt1_o (show mx_rt1 S mt_Lw_law.2.1 x _ from h)
      obtain rfl : x = 1 := h
      exact va_forget hS.2.2 (W.widen hu.1 hu.2 (lw_ret hx hb hr hlk hdd))
    | areturn =>
      obtain ⟨f, i, S, rfl, h⟩ := mx_rf_o (show mx_rf S _ from h)
      obtain ⟨n, rfl, hM, h⟩ := mx_rt2_o (show mx_rt2 S mt_Lw_law.2.1 _ from h)
      cases hM
    | _ => cases hi
  have hl8 := fun (k : List mEn → mLV → List mAV → mSt → Nat × Nat → Prop) (e0 : mEn) (es : List mEn) Lc S t u hk (hsf : mx_Sf cd_Lw_law (e0 :: es)) hlat h => mx_lat_l (below := below) (e := e) (post := lw_po) (ex := fun _ _ => False) (k := k) (e0 := e0) (es := es) (L := Lc) (S := S) (s := t) (u := u) (Q := lw_Z below #[Value.ref b] s) hCt hcalA k1 (hE e0 hsf.in) rfl rfl hall.1 (lw_i1_o (k4 e0 hsf.in)) (fun hi h9 => hret k e0 es Lc S t u hsf.in hi h9) hk hsf hlat h
  have hsub : ∀ e0 ∈ cd_Lw_law.take 20, e0 ∈ cd_Lw_law := fun e0 h => List.mem_of_mem_take h
  have hl9 := fun (k : List mEn → mLV → List mAV → mSt → Nat × Nat → Prop) (e0 : mEn) (es : List mEn) Lc S t u hk (hsf : mx_Sf (cd_Lw_law.take 20) (e0 :: es)) hlat h => mx_lat_f (below := below) (e := e) (post := lw_po) (ex := fun _ _ => False) (k := k) (e0 := e0) (es := es) (L := Lc) (S := S) (s := t) (u := u) (Q := lw_Z below #[Value.ref b] s) hCf k2 (hE e0 (hsub e0 hsf.in)) rfl ⟨by decide, by decide⟩ hallF.1 (fun n hn => Or.inr (lw_i2_o (k4 e0 (hsub e0 hsf.in)) (k5 e0 hsf.in) n hn)) (fun hi _ => absurd hi (lw_i2_r (k5 e0 hsf.in))) hk hsf hlat h
  have hq : ∀ pc Lc t u, lw_q (b, L, xs) d' pc Lc t u → mx_GA p l e room_1 s m #[Value.ref b] below meth c (lw_Z below #[Value.ref b] s) false D ca s.heap.size 7 pc Lc [] t u := fun pc Lc t u h => by
    obtain ⟨hM, n, h⟩ := h
    exact mx_GA_tf hM (mx_xq_ok hCt k1 hE hl8 n pc Lc t u h)
  have hl := lv_entry ([.inr (.inr (.inr b))].map (mx_vv s.heap.size)) (n := 7) (by rw [mx_wt_sl]; show 1 ≤ 7; omega)
  rw [lg_entry_eq]
  have e9 : ([Value.ref b] : List Value) = [.inr (.inr (.inr b))].map (mx_vv s.heap.size) := rfl
  rw [e9]
  generalize (lg_sl ([.inr (.inr (.inr b))].map (mx_vv s.heap.size)) ++ List.replicate (7 - (lg_sl ([.inr (.inr (.inr b))].map (mx_vv s.heap.size))).length) Slot.unset).toArray = ls at hl ⊢
  rw [mx_lv_args] at hl
  refine mx_blk_ok hCf k2 (fun e0 he => hE e0 (hsub e0 he)) hq hl9 _ _ _ _ _ _ _ hgo ⟨[], rfl⟩ 0 (fun e r he => ?_) s.heap [] ls ⟨?_, Nat.zero_le _, fun h => by cases h⟩ va_S.rf hl ?_ mx_oS_n ⟨Nat.zero_le _, Nat.zero_le _⟩ (fun _ => rfl)
  · cases he
    rfl
  · intro k q hk
    cases hk
  · exact mx_oL_args (s := mx_s0) (vs := [.inr (.inr (.inr b))]) (mx_oS_c (v := .inr (.inr (.inr b))) trivial mx_oS_n)
