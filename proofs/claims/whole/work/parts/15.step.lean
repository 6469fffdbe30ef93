def mx_lat : Instr → Bool
  | .new _ => true
  | .newarray _ => true
  | .anewarray _ => true
  | .aastore => true
  | .putfield _ => true
  | .invokevirtual _ => true
  | .invokestatic _ => true
  | .invokespecial _ => true
  | .return_ => true
  | .ireturn => true
  | .areturn => true
  | _ => false
section
variable {p : Program} {l : Launch} {e : Env} {R : Room} {s0 : State} {m : MethodId} {args : Array Value} {below : List Frame} {meth : Method} {c : Code} {Q : State → Prop} {md : Bool} {D : va_G} {ca : Nat → ClassId} {bs maxL : Nat} {L : mLV} {S : List mAV} {s : mSt} {u : Nat × Nat}
set_option maxHeartbeats 4000000 in
theorem mx_stp_a {scr : mSc} {cal : Nat → List mAV → mSt → mPo → (Nat → mSt → Prop) → Prop} {M : mMt} {post : mPo} {ex : Nat → mSt → Prop} {k : List mEn → mLV → List mAV → mSt → Nat × Nat → Prop} {e0 : mEn} {es : List mEn} {own mn : String} {cc : ByteArray}
    (hx : p.tables.exec = Jvm.exec) (hb : c.code = cc) (hown : s0.vm.findClass own = some m.cls) (hts : ∀ w ∈ wg, w.before args s0 = true) (hV : mx_VM D ca s0) (hX : va_X scr.1 scr.2.1 scr.2.2 s0 s0.heap) (hXb : scr.1 < bs) (hbs : bs ≤ s0.heap.size)
    (hE : mx_okE own mn cc maxL e0 = true) (hnx : ∀ e' r, es = e' :: r → e'.1 = e0.1 + e0.2.2.2.1) (hsf : mx_Sf M.1 es)
    (hk : ∀ es L S s u, k es L S s u → mx_Sf M.1 es → ∀ pc, (∀ e r, es = e :: r → e.1 = pc) → mx_GA p l e R s0 m args below meth c Q md D ca bs maxL pc L S s u)
    (hl8 : mx_lat e0.2.2.1 = true → mx_stp md scr cal M post ex k e0 es L S s u → mx_GA p l e R s0 m args below meth c Q md D ca bs maxL e0.1 L S s u)
    (h : mx_stp md scr cal M post ex k e0 es L S s u) : mx_GA p l e R s0 m args below meth c Q md D ca bs maxL e0.1 L S s u := by
  obtain ⟨pc, cut, ins, len, aux, ic, lc⟩ := e0
  obtain ⟨hd, hI⟩ : decode cc pc = .ok (ins, len) ∧ mx_okI own mn maxL (pc, cut, ins, len, aux, ic, lc) = true := by
    have h9 := Bool.and_eq_true_iff.mp hE
    exact ⟨of_decide_eq_true h9.1, h9.2⟩
  have hn : ∀ e' r, es = e' :: r → e'.1 = pc + len := hnx
  show mx_GA p l e R s0 m args below meth c Q md D ca bs maxL pc L S s u
  cases ins with
  | iconst n =>
    obtain ⟨rfl, hv⟩ : len = 1 ∧ Int32.ofInt n = ic := of_decide_eq_true hI
    have h : k es L (.inl ic :: S) s u := h
    exact mx_g (hk _ _ _ _ _ h hsf _ hn) (fun H lcs ls _ k => lv_iconst hx hb hd hv k) (fun _ h => mx_oS_c trivial h)
  | bipush n =>
    obtain ⟨rfl, hv⟩ : len = 2 ∧ (Int8.ofInt n).toInt32 = ic := of_decide_eq_true hI
    have h : k es L (.inl ic :: S) s u := h
    exact mx_g (hk _ _ _ _ _ h hsf _ hn) (fun H lcs ls _ k => lv_bipush hx hb hd hv k) (fun _ h => mx_oS_c trivial h)
  | sipush n =>
    obtain ⟨rfl, hv⟩ : len = 3 ∧ (Int16.ofInt n).toInt32 = ic := of_decide_eq_true hI
    have h : k es L (.inl ic :: S) s u := h
    exact mx_g (hk _ _ _ _ _ h hsf _ hn) (fun H lcs ls _ k => lv_sipush hx hb hd hv k) (fun _ h => mx_oS_c trivial h)
  | lconst n =>
    obtain ⟨rfl, hv⟩ : len = 1 ∧ Int64.ofNat n.val = lc := of_decide_eq_true hI
    have h : k es L (.inr (.inl lc) :: S) s u := h
    exact mx_g (hk _ _ _ _ _ h hsf _ hn) (fun H lcs ls _ k => lv_lconst hx hb hd hv k) (fun _ h => mx_oS_c trivial h)
  | ldc2_w n =>
    obtain ⟨h1, h2⟩ := Bool.and_eq_true_iff.mp (show (decide (len = 3) && mx_c1 own n lc aux) = true from hI)
    obtain rfl : len = 3 := of_decide_eq_true h1
    have h : k es L (.inr (.inl lc) :: S) s u := h
    exact mx_g (hk _ _ _ _ _ h hsf _ hn) (fun H lcs ls _ k => lv_ldc2 hx hb hown (hts _ (mx_c1_o h2)) hd k) (fun _ h => mx_oS_c trivial h)
  | iload i =>
    obtain rfl : len = 2 := of_decide_eq_true hI
    obtain ⟨x, hv, h⟩ := mx_li_o (show mx_li _ _ from h)
    exact mx_g (hk _ _ _ _ _ h hsf _ hn) (fun H lcs ls hl k => lv_iload hx hb hd (mx_lv hl hv) k) (fun _ h => mx_oS_c trivial h)
  | iload_n i =>
    obtain rfl : len = 1 := of_decide_eq_true hI
    obtain ⟨x, hv, h⟩ := mx_li_o (show mx_li _ _ from h)
    exact mx_g (hk _ _ _ _ _ h hsf _ hn) (fun H lcs ls hl k => lv_iload_n hx hb hd rfl (mx_lv hl hv) k) (fun _ h => mx_oS_c trivial h)
  | lload i =>
    obtain rfl : len = 2 := of_decide_eq_true hI
    obtain ⟨x, hv, h⟩ := mx_ll_o (show mx_ll _ _ from h)
    exact mx_g (hk _ _ _ _ _ h hsf _ hn) (fun H lcs ls hl k => lv_lload hx hb hd (mx_lv hl hv) k) (fun _ h => mx_oS_c trivial h)
  | lload_n i =>
    obtain rfl : len = 1 := of_decide_eq_true hI
    obtain ⟨x, hv, h⟩ := mx_ll_o (show mx_ll _ _ from h)
    exact mx_g (hk _ _ _ _ _ h hsf _ hn) (fun H lcs ls hl k => lv_lload_n hx hb hd rfl (mx_lv hl hv) k) (fun _ h => mx_oS_c trivial h)
  | aload i =>
    obtain rfl : len = 2 := of_decide_eq_true hI
    obtain ⟨r, hv, h⟩ := mx_la_o (show mx_la _ _ from h)
    have ho : mx_oL s L → mx_ok s (.inr (.inr r)) := fun hL => hL _ (mx_lk_mem hv)
    rcases r with ⟨f, j⟩ | a
    · exact mx_g (hk _ _ _ _ _ h hsf _ hn) (fun H lcs ls hl k => lv_aload hx hb hd (mx_lv hl hv) k) (fun hL h => mx_oS_c (ho hL) h)
    · exact mx_g (hk _ _ _ _ _ h hsf _ hn) (fun H lcs ls hl k => lv_aload hx hb hd (mx_lv hl hv) k) (fun hL h => mx_oS_c trivial h)
  | aload_n i =>
    obtain rfl : len = 1 := of_decide_eq_true hI
    obtain ⟨r, hv, h⟩ := mx_la_o (show mx_la _ _ from h)
    have ho : mx_oL s L → mx_ok s (.inr (.inr r)) := fun hL => hL _ (mx_lk_mem hv)
    rcases r with ⟨f, j⟩ | a
    · exact mx_g (hk _ _ _ _ _ h hsf _ hn) (fun H lcs ls hl k => lv_aload_n hx hb hd rfl (mx_lv hl hv) k) (fun hL h => mx_oS_c (ho hL) h)
    · exact mx_g (hk _ _ _ _ _ h hsf _ hn) (fun H lcs ls hl k => lv_aload_n hx hb hd rfl (mx_lv hl hv) k) (fun hL h => mx_oS_c trivial h)
  | istore i =>
    obtain ⟨rfl, hi⟩ : len = 2 ∧ i < maxL := of_decide_eq_true hI
    obtain ⟨x, S, rfl, h⟩ := mx_p1_o (show mx_p1 S _ from h)
    exact mx_gl (hk _ _ _ _ _ h hsf _ hn) (fun H lcs ls hl k => lv_istore hx hb hd hl hi (mx_VL_st1 bs _ (.inl x) L) k) (fun hL _ => mx_oL_st1 trivial hL) (fun h => mx_oS_t h)
  | astore i =>
    obtain ⟨rfl, hi⟩ : len = 2 ∧ i < maxL := of_decide_eq_true hI
    obtain ⟨r, S, rfl, h⟩ := mx_r1_o (show mx_r1 S _ from h)
    rcases r with ⟨f, j⟩ | a
    · exact mx_gl (hk _ _ _ _ _ h hsf _ hn) (fun H lcs ls hl k => lv_astore hx hb hd hl hi (mx_VL_st1 bs _ (.inr (.inr (.inl (f, j)))) L) k) (fun hL hO => mx_oL_st1 (mx_oS_h hO) hL) (fun h => mx_oS_t h)
    · exact mx_gl (hk _ _ _ _ _ h hsf _ hn) (fun H lcs ls hl k => lv_astore hx hb hd hl hi (mx_VL_st1 bs _ (.inr (.inr (.inr a))) L) k) (fun hL hO => mx_oL_st1 trivial hL) (fun h => mx_oS_t h)
  | lstore i =>
    obtain ⟨rfl, hi⟩ : len = 2 ∧ i + 1 < maxL := of_decide_eq_true hI
    obtain ⟨x, S, rfl, h⟩ := mx_q1_o (show mx_q1 S _ from h)
    exact mx_gl (hk _ _ _ _ _ h hsf _ hn) (fun H lcs ls hl k => lv_lstore hx hb hd hl hi (mx_VL_st2 bs _ (.inr (.inl x)) L) k) (fun hL _ => mx_oL_st2 trivial hL) (fun h => mx_oS_t h)
  | istore_n i =>
    obtain ⟨rfl, hi⟩ : len = 1 ∧ i.val < maxL := of_decide_eq_true hI
    obtain ⟨x, S, rfl, h⟩ := mx_p1_o (show mx_p1 S _ from h)
    exact mx_gl (hk _ _ _ _ _ h hsf _ hn) (fun H lcs ls hl k => lv_istore_n hx hb hd rfl hl hi (mx_VL_st1 bs _ (.inl x) L) k) (fun hL _ => mx_oL_st1 trivial hL) (fun h => mx_oS_t h)
  | astore_n i =>
    obtain ⟨rfl, hi⟩ : len = 1 ∧ i.val < maxL := of_decide_eq_true hI
    obtain ⟨r, S, rfl, h⟩ := mx_r1_o (show mx_r1 S _ from h)
    rcases r with ⟨f, j⟩ | a
    · exact mx_gl (hk _ _ _ _ _ h hsf _ hn) (fun H lcs ls hl k => lv_astore_n hx hb hd rfl hl hi (mx_VL_st1 bs _ (.inr (.inr (.inl (f, j)))) L) k) (fun hL hO => mx_oL_st1 (mx_oS_h hO) hL) (fun h => mx_oS_t h)
    · exact mx_gl (hk _ _ _ _ _ h hsf _ hn) (fun H lcs ls hl k => lv_astore_n hx hb hd rfl hl hi (mx_VL_st1 bs _ (.inr (.inr (.inr a))) L) k) (fun hL hO => mx_oL_st1 trivial hL) (fun h => mx_oS_t h)
  | lstore_n i =>
    obtain ⟨rfl, hi⟩ : len = 1 ∧ i.val + 1 < maxL := of_decide_eq_true hI
    obtain ⟨x, S, rfl, h⟩ := mx_q1_o (show mx_q1 S _ from h)
    exact mx_gl (hk _ _ _ _ _ h hsf _ hn) (fun H lcs ls hl k => lv_lstore_n hx hb hd rfl hl hi (mx_VL_st2 bs _ (.inr (.inl x)) L) k) (fun hL _ => mx_oL_st2 trivial hL) (fun h => mx_oS_t h)
  | iinc i n =>
    obtain ⟨rfl, hv, hi⟩ : len = 3 ∧ Int32.ofInt n = ic ∧ i < maxL := of_decide_eq_true hI
    obtain ⟨x, hx2, h⟩ := mx_li_o (show mx_li _ _ from h)
    obtain ⟨j, hj⟩ := List.getElem?_of_mem (List.mem_map.mpr ⟨_, mx_lk_mem hx2, rfl⟩ : (i, mx_vv bs (.inl x)) ∈ mx_VL bs L)
    exact mx_gl (hk _ _ _ _ _ h hsf _ hn) (fun H lcs ls hl k => lv_iinc hx hb hd hl hj (by rw [hv]) hi (mx_VL_st1 bs _ (.inl (x + ic)) L) k) (fun hL _ => mx_oL_st1 trivial hL) (fun h => h)
  | iadd =>
    obtain rfl : len = 1 := of_decide_eq_true hI
    obtain ⟨x, y, S, rfl, h⟩ := mx_p2_o (show mx_p2 S _ from h)
    exact mx_g (hk _ _ _ _ _ h hsf _ hn) (fun H lcs ls _ k => lv_iadd hx hb hd k) (fun _ h => mx_oS_c trivial (mx_oS_t (mx_oS_t h)))
  | isub =>
    obtain rfl : len = 1 := of_decide_eq_true hI
    obtain ⟨x, y, S, rfl, h⟩ := mx_p2_o (show mx_p2 S _ from h)
    exact mx_g (hk _ _ _ _ _ h hsf _ hn) (fun H lcs ls _ k => lv_isub hx hb hd k) (fun _ h => mx_oS_c trivial (mx_oS_t (mx_oS_t h)))
  | imul =>
    obtain rfl : len = 1 := of_decide_eq_true hI
    obtain ⟨x, y, S, rfl, h⟩ := mx_p2_o (show mx_p2 S _ from h)
    exact mx_g (hk _ _ _ _ _ h hsf _ hn) (fun H lcs ls _ k => lv_imul hx hb hd k) (fun _ h => mx_oS_c trivial (mx_oS_t (mx_oS_t h)))
  | iand =>
    obtain rfl : len = 1 := of_decide_eq_true hI
    obtain ⟨x, y, S, rfl, h⟩ := mx_p2_o (show mx_p2 S _ from h)
    exact mx_g (hk _ _ _ _ _ h hsf _ hn) (fun H lcs ls _ k => lv_iand hx hb hd k) (fun _ h => mx_oS_c trivial (mx_oS_t (mx_oS_t h)))
  | ior =>
    obtain rfl : len = 1 := of_decide_eq_true hI
    obtain ⟨x, y, S, rfl, h⟩ := mx_p2_o (show mx_p2 S _ from h)
    exact mx_g (hk _ _ _ _ _ h hsf _ hn) (fun H lcs ls _ k => lv_ior hx hb hd k) (fun _ h => mx_oS_c trivial (mx_oS_t (mx_oS_t h)))
  | ixor =>
    obtain rfl : len = 1 := of_decide_eq_true hI
    obtain ⟨x, y, S, rfl, h⟩ := mx_p2_o (show mx_p2 S _ from h)
    exact mx_g (hk _ _ _ _ _ h hsf _ hn) (fun H lcs ls _ k => lv_ixor hx hb hd k) (fun _ h => mx_oS_c trivial (mx_oS_t (mx_oS_t h)))
  | ishl =>
    obtain rfl : len = 1 := of_decide_eq_true hI
    obtain ⟨x, y, S, rfl, h⟩ := mx_p2_o (show mx_p2 S _ from h)
    exact mx_g (hk _ _ _ _ _ h hsf _ hn) (fun H lcs ls _ k => lv_ishl hx hb hd k) (fun _ h => mx_oS_c trivial (mx_oS_t (mx_oS_t h)))
  | ishr =>
    obtain rfl : len = 1 := of_decide_eq_true hI
    obtain ⟨x, y, S, rfl, h⟩ := mx_p2_o (show mx_p2 S _ from h)
    exact mx_g (hk _ _ _ _ _ h hsf _ hn) (fun H lcs ls _ k => lv_ishr hx hb hd k) (fun _ h => mx_oS_c trivial (mx_oS_t (mx_oS_t h)))
  | idiv =>
    obtain rfl : len = 1 := of_decide_eq_true hI
    obtain ⟨x, y, S, rfl, hne, h⟩ := mx_p2_o (show mx_p2 S _ from h)
    exact mx_g (hk _ _ _ _ _ h hsf _ hn) (fun H lcs ls _ k => lv_idiv hx hb hd hne k) (fun _ h => mx_oS_c trivial (mx_oS_t (mx_oS_t h)))
  | irem =>
    obtain rfl : len = 1 := of_decide_eq_true hI
    obtain ⟨x, y, S, rfl, hne, h⟩ := mx_p2_o (show mx_p2 S _ from h)
    exact mx_g (hk _ _ _ _ _ h hsf _ hn) (fun H lcs ls _ k => lv_irem hx hb hd hne k) (fun _ h => mx_oS_c trivial (mx_oS_t (mx_oS_t h)))
  | ladd =>
    obtain rfl : len = 1 := of_decide_eq_true hI
    obtain ⟨x, y, S, rfl, h⟩ := mx_q2_o (show mx_q2 S _ from h)
    exact mx_g (hk _ _ _ _ _ h hsf _ hn) (fun H lcs ls _ k => lv_ladd hx hb hd k) (fun _ h => mx_oS_c trivial (mx_oS_t (mx_oS_t h)))
  | lsub =>
    obtain rfl : len = 1 := of_decide_eq_true hI
    obtain ⟨x, y, S, rfl, h⟩ := mx_q2_o (show mx_q2 S _ from h)
    exact mx_g (hk _ _ _ _ _ h hsf _ hn) (fun H lcs ls _ k => lv_lsub hx hb hd k) (fun _ h => mx_oS_c trivial (mx_oS_t (mx_oS_t h)))
  | land =>
    obtain rfl : len = 1 := of_decide_eq_true hI
    obtain ⟨x, y, S, rfl, h⟩ := mx_q2_o (show mx_q2 S _ from h)
    exact mx_g (hk _ _ _ _ _ h hsf _ hn) (fun H lcs ls _ k => lv_land hx hb hd k) (fun _ h => mx_oS_c trivial (mx_oS_t (mx_oS_t h)))
  | lor =>
    obtain rfl : len = 1 := of_decide_eq_true hI
    obtain ⟨x, y, S, rfl, h⟩ := mx_q2_o (show mx_q2 S _ from h)
    exact mx_g (hk _ _ _ _ _ h hsf _ hn) (fun H lcs ls _ k => lv_lor hx hb hd k) (fun _ h => mx_oS_c trivial (mx_oS_t (mx_oS_t h)))
  | lxor =>
    obtain rfl : len = 1 := of_decide_eq_true hI
    obtain ⟨x, y, S, rfl, h⟩ := mx_q2_o (show mx_q2 S _ from h)
    exact mx_g (hk _ _ _ _ _ h hsf _ hn) (fun H lcs ls _ k => lv_lxor hx hb hd k) (fun _ h => mx_oS_c trivial (mx_oS_t (mx_oS_t h)))
  | lushr =>
    obtain rfl : len = 1 := of_decide_eq_true hI
    obtain ⟨x, y, S, rfl, h⟩ := mx_qi_o (show mx_qi S _ from h)
    exact mx_g (hk _ _ _ _ _ h hsf _ hn) (fun H lcs ls _ k => lv_lushr hx hb hd rfl k) (fun _ h => mx_oS_c trivial (mx_oS_t (mx_oS_t h)))
  | lshl =>
    obtain rfl : len = 1 := of_decide_eq_true hI
    obtain ⟨x, y, S, rfl, h⟩ := mx_qi_o (show mx_qi S _ from h)
    exact mx_g (hk _ _ _ _ _ h hsf _ hn) (fun H lcs ls _ k => lv_lshl hx hb hd rfl k) (fun _ h => mx_oS_c trivial (mx_oS_t (mx_oS_t h)))
  | i2l =>
    obtain rfl : len = 1 := of_decide_eq_true hI
    obtain ⟨x, S, rfl, h⟩ := mx_p1_o (show mx_p1 S _ from h)
    exact mx_g (hk _ _ _ _ _ h hsf _ hn) (fun H lcs ls _ k => lv_i2l hx hb hd rfl k) (fun _ h => mx_oS_c trivial (mx_oS_t h))
  | i2c =>
    obtain rfl : len = 1 := of_decide_eq_true hI
    obtain ⟨x, S, rfl, h⟩ := mx_p1_o (show mx_p1 S _ from h)
    exact mx_g (hk _ _ _ _ _ h hsf _ hn) (fun H lcs ls _ k => lv_i2c hx hb hd rfl k) (fun _ h => mx_oS_c trivial (mx_oS_t h))
  | l2i =>
    obtain rfl : len = 1 := of_decide_eq_true hI
    obtain ⟨x, S, rfl, h⟩ := mx_q1_o (show mx_q1 S _ from h)
    exact mx_g (hk _ _ _ _ _ h hsf _ hn) (fun H lcs ls _ k => lv_l2i hx hb hd rfl k) (fun _ h => mx_oS_c trivial (mx_oS_t h))
  | lcmp =>
    obtain rfl : len = 1 := of_decide_eq_true hI
    obtain ⟨x, y, S, rfl, h⟩ := mx_q2_o (show mx_q2 S _ from h)
    exact mx_g (hk _ _ _ _ _ h hsf _ hn) (fun H lcs ls _ k => W.lcmp hx hb hd k) (fun _ h => mx_oS_c trivial (mx_oS_t (mx_oS_t h)))
  | dup =>
    obtain rfl : len = 1 := of_decide_eq_true hI
    obtain ⟨v, S, rfl, hc, h⟩ := mx_d1_o (show mx_d1 S (fun v S => k es L (v :: v :: S) s u) from h)
    exact mx_g (hk _ _ _ _ _ h hsf _ hn) (fun H lcs ls _ k => lv_dup hx hb hd ((mx_vvc bs v).trans hc) k) (fun _ h => mx_oS_c (mx_oS_h h) h)
  | dup2 =>
    obtain rfl : len = 1 := of_decide_eq_true hI
    obtain ⟨j, r, S, rfl, h⟩ := mx_d2_o (show mx_d2 S _ from h)
    exact mx_g (hk _ _ _ _ _ h hsf _ hn) (fun H lcs ls _ k => lv_dup2_11 hx hb hd (mx_vvc bs (.inl j)) ((mx_vvc bs (.inr (.inr r))).trans rfl) k) (fun _ h => mx_oS_c trivial (mx_oS_c (mx_oS_h (mx_oS_t h)) h))
  | dup_x1 =>
    obtain rfl : len = 1 := of_decide_eq_true hI
    obtain ⟨j, r, S, rfl, h⟩ := mx_d2_o (show mx_d2 S _ from h)
    exact mx_g (hk _ _ _ _ _ h hsf _ hn) (fun H lcs ls _ k => lv_dup_x1 hx hb hd (mx_vvc bs (.inl j)) ((mx_vvc bs (.inr (.inr r))).trans rfl) k) (fun _ h => mx_oS_c trivial (mx_oS_c (mx_oS_h (mx_oS_t h)) (mx_oS_c trivial (mx_oS_t (mx_oS_t h)))))
  | pop =>
    obtain rfl : len = 1 := of_decide_eq_true hI
    obtain ⟨x, S, rfl, h⟩ := mx_p1_o (show mx_p1 S _ from h)
    exact mx_g (hk _ _ _ _ _ h hsf _ hn) (fun H lcs ls _ k => lv_pop hx hb hd (mx_vvc bs (.inl x)) k) (fun _ h => mx_oS_t h)
  | goto off =>
    obtain ⟨h1, h2⟩ := Bool.and_eq_true_iff.mp (show (decide (len = 3) && mx_lt pc off aux) = true from hI)
    obtain rfl : len = 3 := of_decide_eq_true h1
    obtain ⟨t, rfl, h⟩ := mx_a1_o (show mx_a1 aux _ from h)
    have ht : (pc : Int) + off = (t : Int) := of_decide_eq_true h2
    exact mx_g (hk _ _ _ _ _ h (mx_jp_sf _ _) _ mx_jp_hd) (fun H lcs ls _ k => lv_goto hx hb hd ht k) (fun _ h => h)
  | ifCond cd off =>
    obtain ⟨h1, h2⟩ := Bool.and_eq_true_iff.mp (show (decide (len = 3) && mx_lt pc off aux) = true from hI)
    obtain rfl : len = 3 := of_decide_eq_true h1
    obtain ⟨t, rfl, h⟩ := mx_a1_o (show mx_a1 aux _ from h)
    have ht : (pc : Int) + off = (t : Int) := of_decide_eq_true h2
    obtain ⟨x, S, rfl, h⟩ := mx_p1_o (show mx_p1 S _ from h)
    cases cd with
    | eq =>
      have h := mx_br_o (show mx_br md _ _ _ from h)
      exact mx_g2 ⟨fun q => (hk _ _ _ _ _ (h.1 q) (mx_jp_sf _ _) _ mx_jp_hd), fun q => hk _ _ _ _ _ (h.2 q) hsf _ hn⟩ (fun H lcs ls kt kf => lv_if_eq hx hb hd ht kt kf) (fun h => mx_oS_t h)
    | ne =>
      have h := mx_br_o (show mx_br md _ _ _ from h)
      exact mx_g2 ⟨fun q => hk _ _ _ _ _ (h.1 q) hsf _ hn, fun q => (hk _ _ _ _ _ (h.2 q) (mx_jp_sf _ _) _ mx_jp_hd)⟩ (fun H lcs ls kt kf => lv_if_ne hx hb hd ht kf kt) (fun h => mx_oS_t h)
    | lt =>
      have h := mx_br_o (show mx_br md _ _ _ from h)
      exact mx_g2 ⟨fun q => (hk _ _ _ _ _ (h.1 q) (mx_jp_sf _ _) _ mx_jp_hd), fun q => hk _ _ _ _ _ (h.2 q) hsf _ hn⟩ (fun H lcs ls kt kf => lv_if_lt hx hb hd ht kt kf) (fun h => mx_oS_t h)
    | ge =>
      have h := mx_br_o (show mx_br md _ _ _ from h)
      exact mx_g2 ⟨fun q => (hk _ _ _ _ _ (h.1 q) (mx_jp_sf _ _) _ mx_jp_hd), fun q => hk _ _ _ _ _ (h.2 q) hsf _ hn⟩ (fun H lcs ls kt kf => lv_if_ge hx hb hd ht kt kf) (fun h => mx_oS_t h)
    | gt =>
      have h := mx_br_o (show mx_br md _ _ _ from h)
      exact mx_g2 ⟨fun q => (hk _ _ _ _ _ (h.1 q) (mx_jp_sf _ _) _ mx_jp_hd), fun q => hk _ _ _ _ _ (h.2 q) hsf _ hn⟩ (fun H lcs ls kt kf => lv_if_gt hx hb hd ht kt kf) (fun h => mx_oS_t h)
    | le =>
      have h := mx_br_o (show mx_br md _ _ _ from h)
      exact mx_g2 ⟨fun q => (hk _ _ _ _ _ (h.1 q) (mx_jp_sf _ _) _ mx_jp_hd), fun q => hk _ _ _ _ _ (h.2 q) hsf _ hn⟩ (fun H lcs ls kt kf => lv_if_le hx hb hd ht kt kf) (fun h => mx_oS_t h)
  | if_icmp cd off =>
    obtain ⟨h1, h2⟩ := Bool.and_eq_true_iff.mp (show (decide (len = 3) && mx_lt pc off aux) = true from hI)
    obtain rfl : len = 3 := of_decide_eq_true h1
    obtain ⟨t, rfl, h⟩ := mx_a1_o (show mx_a1 aux _ from h)
    have ht : (pc : Int) + off = (t : Int) := of_decide_eq_true h2
    obtain ⟨x, y, S, rfl, h⟩ := mx_p2_o (show mx_p2 S _ from h)
    cases cd with
    | eq =>
      have h := mx_br_o (show mx_br md _ _ _ from h)
      exact mx_g2 ⟨fun q => (hk _ _ _ _ _ (h.1 q) (mx_jp_sf _ _) _ mx_jp_hd), fun q => hk _ _ _ _ _ (h.2 q) hsf _ hn⟩ (fun H lcs ls kt kf => lv_icmp_eq hx hb hd ht kt kf) (fun h => mx_oS_t (mx_oS_t h))
    | ne =>
      have h := mx_br_o (show mx_br md _ _ _ from h)
      exact mx_g2 ⟨fun q => hk _ _ _ _ _ (h.1 q) hsf _ hn, fun q => (hk _ _ _ _ _ (h.2 q) (mx_jp_sf _ _) _ mx_jp_hd)⟩ (fun H lcs ls kt kf => lv_icmp_ne hx hb hd ht kf kt) (fun h => mx_oS_t (mx_oS_t h))
    | lt =>
      have h := mx_br_o (show mx_br md _ _ _ from h)
      exact mx_g2 ⟨fun q => (hk _ _ _ _ _ (h.1 q) (mx_jp_sf _ _) _ mx_jp_hd), fun q => hk _ _ _ _ _ (h.2 q) hsf _ hn⟩ (fun H lcs ls kt kf => lv_icmp_lt hx hb hd ht kt kf) (fun h => mx_oS_t (mx_oS_t h))
    | ge =>
      have h := mx_br_o (show mx_br md _ _ _ from h)
      exact mx_g2 ⟨fun q => (hk _ _ _ _ _ (h.1 q) (mx_jp_sf _ _) _ mx_jp_hd), fun q => hk _ _ _ _ _ (h.2 q) hsf _ hn⟩ (fun H lcs ls kt kf => lv_icmp_ge hx hb hd ht kt kf) (fun h => mx_oS_t (mx_oS_t h))
    | gt =>
      have h := mx_br_o (show mx_br md _ _ _ from h)
      exact mx_g2 ⟨fun q => (hk _ _ _ _ _ (h.1 q) (mx_jp_sf _ _) _ mx_jp_hd), fun q => hk _ _ _ _ _ (h.2 q) hsf _ hn⟩ (fun H lcs ls kt kf => lv_icmp_gt hx hb hd ht kt kf) (fun h => mx_oS_t (mx_oS_t h))
    | le =>
      have h := mx_br_o (show mx_br md _ _ _ from h)
      exact mx_g2 ⟨fun q => (hk _ _ _ _ _ (h.1 q) (mx_jp_sf _ _) _ mx_jp_hd), fun q => hk _ _ _ _ _ (h.2 q) hsf _ hn⟩ (fun H lcs ls kt kf => lv_icmp_le hx hb hd ht kt kf) (fun h => mx_oS_t (mx_oS_t h))
  | tableswitch d lo hi offs =>
    obtain ⟨h1, h2⟩ := Bool.and_eq_true_iff.mp (show (decide (lo = 0 ∧ hi + 1 = offs.size ∧ hi < 100) && mx_ts pc d offs.toList aux) = true from hI)
    obtain ⟨rfl, hhi, hhi2⟩ := of_decide_eq_true h1
    obtain ⟨td, ts, rfl, h⟩ := mx_aq_o (show mx_aq aux _ from h)
    obtain ⟨x, S, rfl, h⟩ := mx_p1_o (show mx_p1 S _ from h)
    obtain ⟨h3, h4⟩ := Bool.and_eq_true_iff.mp (show (decide ((pc : Int) + d = (td : Int)) && mx_tg pc offs.toList ts) = true from h2)
    have h3 : (pc : Int) + d = (td : Int) := of_decide_eq_true h3
    obtain ⟨hlen, htg⟩ := mx_tg_o h4
    obtain ⟨hin, hout⟩ := mx_sw_o (by simp at hlen; omega) h
    by_cases hx0 : x.toInt < 0
    · refine mx_g (hk _ _ _ _ _ (hout fun n hn e9 => ?_) (mx_jp_sf _ _) _ mx_jp_hd) (fun H lcs ls _ k => lv_tableOut hx hb hd (Or.inl hx0) h3 k) (fun _ h => mx_oS_t h)
      rw [e9, Nat.zero_add, nI_toInt (by simp at hlen; omega)] at hx0
      omega
    · by_cases hx1 : hi < x.toInt
      · refine mx_g (hk _ _ _ _ _ (hout fun n hn e9 => ?_) (mx_jp_sf _ _) _ mx_jp_hd) (fun H lcs ls _ k => lv_tableOut hx hb hd (Or.inr hx1) h3 k) (fun _ h => mx_oS_t h)
        rw [e9, Nat.zero_add, nI_toInt (by simp at hlen; omega)] at hx1
        simp at hlen
        omega
      · have hn9 : x.toInt.toNat < ts.length := by
          simp at hlen
          omega
        have hxe : x = nI (0 + x.toInt.toNat) := by
          rw [Nat.zero_add]
          apply Int32.toInt_inj.mp
          rw [nI_toInt (by simp at hlen; omega)]
          omega
        obtain ⟨o, ho, hto⟩ := htg x.toInt.toNat hn9
        refine mx_g (hk _ _ _ _ _ (hin _ hn9 hxe) (mx_jp_sf _ _) _ mx_jp_hd) (fun H lcs ls _ k => lv_tableIn hx hb hd hx0 hx1 (off := o) ?_ hto k) (fun _ h => mx_oS_t h)
        rw [Int.sub_zero, ← Array.getElem?_toList]
        exact ho
  | arraylength =>
    obtain rfl : len = 1 := of_decide_eq_true hI
    obtain ⟨r, S, rfl, h⟩ := mx_r1_o (show mx_r1 S _ from h)
    rcases r with ⟨f, i⟩ | a
    · obtain ⟨hkd, h⟩ := mx_kn_o (show mx_kn f _ from h)
      intro H lcs ls hW hS hl hL hO hu hz
      have hok := mx_oS_h hO
      obtain ⟨t0, cA, x, ty, ha, ht, hv⟩ := mx_alen (ca := ca) (bs := bs) hkd hok
      refine va_alen hx hb hV.1 hW.1 (mx_num f i) t0 ha ht hv hd ?_
      exact (hk _ _ _ _ _ h hsf _ hn) H lcs ls hW hS hl hL (mx_oS_c trivial (mx_oS_t hO)) hu hz
    · obtain ⟨e9, h9⟩ : a = scr.1 ∧ k es L (.inl (nI scr.2.1) :: S) s u := h
      clear h
      subst e9
      have h := h9
      intro H lcs ls hW hS hl hL hO hu hz
      refine va_slen hx hb hX (Nat.lt_of_lt_of_le hXb hbs) (Nat.not_le.mpr hXb) hS hd ?_
      exact (hk _ _ _ _ _ h hsf _ hn) H lcs ls hW hS hl hL (mx_oS_c trivial (mx_oS_t hO)) hu hz
  | iaload =>
    obtain rfl : len = 1 := of_decide_eq_true hI
    obtain ⟨j, r, S, rfl, h⟩ := mx_d2_o (show mx_d2 S _ from h)
    rcases r with ⟨f, i⟩ | a
    · obtain ⟨hkd, hin, h⟩ := mx_eq_o (show mx_eq (mx_fK f) 1 _ from h)
      intro H lcs ls hW hS hl hL hO hu hz
      have hok := mx_oS_h (mx_oS_t hO)
      refine va_iald hx hb hV.1 hW.1 (mx_num f i) 0 ((mx_at hok).trans (by rw [mx_enc1 hkd])) rfl hin hd ?_
      exact (hk _ _ _ _ _ h hsf _ hn) H lcs ls hW hS hl hL (mx_oS_c trivial (mx_oS_t (mx_oS_t hO))) hu hz
    · obtain ⟨e9, hin, h9⟩ : a = scr.1 ∧ vp_in j scr.2.1 ∧ k es L (.inl (scr.2.2 j.toNatClampNeg) :: S) s u := h
      clear h
      subst e9
      have h := h9
      intro H lcs ls hW hS hl hL hO hu hz
      refine va_sld hx hb hX (Nat.lt_of_lt_of_le hXb hbs) (Nat.not_le.mpr hXb) hS hin hd ?_
      exact (hk _ _ _ _ _ h hsf _ hn) H lcs ls hW hS hl hL (mx_oS_c trivial (mx_oS_t (mx_oS_t hO))) hu hz
  | caload =>
    obtain rfl : len = 1 := of_decide_eq_true hI
    obtain ⟨j, f, i, S, rfl, h⟩ := mx_ix_o (show mx_ix S _ from h)
    obtain ⟨hkd, hin, h⟩ := mx_eq_o (show mx_eq (mx_fK f) 2 _ from h)
    intro H lcs ls hW hS hl hL hO hu hz
    have hok := mx_oS_h (mx_oS_t hO)
    refine va_cald hx hb hV.1 hW.1 (mx_num f i) 2 ((mx_at hok).trans (by rw [mx_enc2 hkd])) rfl hin hd ?_
    exact (hk _ _ _ _ _ h hsf _ hn) H lcs ls hW hS hl hL (mx_oS_c trivial (mx_oS_t (mx_oS_t hO))) hu hz
  | baload =>
    obtain rfl : len = 1 := of_decide_eq_true hI
    obtain ⟨j, f, i, S, rfl, h⟩ := mx_ix_o (show mx_ix S _ from h)
    obtain ⟨hkd, hin, h⟩ := mx_eq_o (show mx_eq (mx_fK f) 3 _ from h)
    intro H lcs ls hW hS hl hL hO hu hz
    have hok := mx_oS_h (mx_oS_t hO)
    refine va_zald hx hb hV.1 hW.1 (mx_num f i) 5 ((mx_at hok).trans (by rw [mx_enc3 hkd])) rfl hin hd ?_
    exact (hk _ _ _ _ _ h hsf _ hn) H lcs ls hW hS hl hL (mx_oS_c trivial (mx_oS_t (mx_oS_t hO))) hu hz
  | laload =>
    obtain rfl : len = 1 := of_decide_eq_true hI
    obtain ⟨j, f, i, S, rfl, h⟩ := mx_ix_o (show mx_ix S _ from h)
    obtain ⟨hkd, hin, h⟩ := mx_eq_o (show mx_eq (mx_fK f) 4 _ from h)
    intro H lcs ls hW hS hl hL hO hu hz
    have hok := mx_oS_h (mx_oS_t hO)
    refine va_lald hx hb hV.1 hW.1 (mx_num f i) 1 ((mx_at hok).trans (by rw [mx_enc4 hkd])) rfl hin hd ?_
    exact (hk _ _ _ _ _ h hsf _ hn) H lcs ls hW hS hl hL (mx_oS_c trivial (mx_oS_t (mx_oS_t hO))) hu hz
  | aaload =>
    obtain rfl : len = 1 := of_decide_eq_true hI
    obtain ⟨j, f, i, S, rfl, h⟩ := mx_ix_o (show mx_ix S _ from h)
    obtain ⟨hkd, hin, h⟩ := mx_eq_o (show mx_eq (mx_fK f) 5 _ from h)
    intro H lcs ls hW hS hl hL hO hu hz
    have hok := mx_oS_h (mx_oS_t hO)
    obtain ⟨y, hy, hyo, h⟩ := mx_gr_o hW (fun hm => hm.2.2 f i _ hok.1 hkd (vp_lt hin)) (fun _ => by rw [mx_t4 f (mx_t0 hok.1) hkd]; exact vp_lt hin) h
    obtain ⟨t0, C, ht0⟩ := mx_tAo ca hkd hok.1
    refine va_aldq hx hb hV.1 hW.1 (mx_num f i) t0 ((mx_at hok).trans (by rw [mx_enc5 hkd])) ht0 hin hd ?_
    refine W.eq (g2 := F0 m (pc + 1) ls (mx_vv bs (.inr (.inr (.inl (mx_fY f, y)))) :: S.map (mx_vv bs))) (congrArg (fun v => F0 m (pc + 1) ls (v :: S.map (mx_vv bs))) (show va_rf ((s.2.2.1 f i j.toNatClampNeg).map (fun y => bs + mx_num (mx_fY f) y)) = _ by rw [hy]; rfl)) ?_
    exact (hk _ _ _ _ _ h hsf _ hn) H lcs ls hW hS hl hL (mx_oS_c hyo (mx_oS_t (mx_oS_t hO))) hu hz
  | iastore =>
    obtain rfl : len = 1 := of_decide_eq_true hI
    obtain ⟨x, S, rfl, h⟩ := mx_p1_o (show mx_p1 S _ from h)
    obtain ⟨j, f, i, S, rfl, h⟩ := mx_ix_o (show mx_ix S _ from h)
    obtain ⟨hkd, hin, h⟩ := mx_eq_o (show mx_eq (mx_fK f) 1 _ from h)
    have h := mx_to_o h
    intro H lcs ls hW hS hl hL hO hu hz
    have hok := mx_oS_h (mx_oS_t (mx_oS_t hO))
    refine va_iast hx hb hV.1 hW.1 mx_D hS (mx_num f i) 0 ((mx_at hok).trans (by rw [mx_enc1 hkd])) rfl hin hd (fun H1 lcs1 hP1 _ hS1 => ?_)
    exact (hk _ _ _ _ _ h hsf _ hn) H1 lcs1 ls (mx_WH_si hW hok (mx_enc1s hkd) hP1) hS1 hl hL (mx_oS_t (mx_oS_t (mx_oS_t hO))) hu hz
  | castore =>
    obtain rfl : len = 1 := of_decide_eq_true hI
    obtain ⟨x, S, rfl, h⟩ := mx_p1_o (show mx_p1 S _ from h)
    obtain ⟨j, f, i, S, rfl, h⟩ := mx_ix_o (show mx_ix S _ from h)
    obtain ⟨hkd, hin, h⟩ := mx_eq_o (show mx_eq (mx_fK f) 2 _ from h)
    have h := mx_to_o h
    intro H lcs ls hW hS hl hL hO hu hz
    have hok := mx_oS_h (mx_oS_t (mx_oS_t hO))
    refine va_cast hx hb hV.1 hW.1 mx_D hS (mx_num f i) 2 ((mx_at hok).trans (by rw [mx_enc2 hkd])) rfl hin hd (fun H1 lcs1 hP1 _ hS1 => ?_)
    exact (hk _ _ _ _ _ h hsf _ hn) H1 lcs1 ls (mx_WH_si hW hok (mx_enc2s hkd) hP1) hS1 hl hL (mx_oS_t (mx_oS_t (mx_oS_t hO))) hu hz
  | bastore =>
    obtain rfl : len = 1 := of_decide_eq_true hI
    obtain ⟨x, S, rfl, h⟩ := mx_p1_o (show mx_p1 S _ from h)
    obtain ⟨j, f, i, S, rfl, h⟩ := mx_ix_o (show mx_ix S _ from h)
    obtain ⟨hkd, hin, h⟩ := mx_eq_o (show mx_eq (mx_fK f) 3 _ from h)
    have h := mx_to_o h
    intro H lcs ls hW hS hl hL hO hu hz
    have hok := mx_oS_h (mx_oS_t (mx_oS_t hO))
    refine va_zast hx hb hV.1 hW.1 mx_D hS (mx_num f i) 5 ((mx_at hok).trans (by rw [mx_enc3 hkd])) rfl hin hd (fun H1 lcs1 hP1 _ hS1 => ?_)
    exact (hk _ _ _ _ _ h hsf _ hn) H1 lcs1 ls (mx_WH_si hW hok (mx_enc3s hkd) hP1) hS1 hl hL (mx_oS_t (mx_oS_t (mx_oS_t hO))) hu hz
  | lastore =>
    obtain rfl : len = 1 := of_decide_eq_true hI
    obtain ⟨x, S, rfl, h⟩ := mx_q1_o (show mx_q1 S _ from h)
    obtain ⟨j, f, i, S, rfl, h⟩ := mx_ix_o (show mx_ix S _ from h)
    obtain ⟨hkd, hin, h⟩ := mx_eq_o (show mx_eq (mx_fK f) 4 _ from h)
    have h := mx_to_o h
    intro H lcs ls hW hS hl hL hO hu hz
    have hok := mx_oS_h (mx_oS_t (mx_oS_t hO))
    refine va_last hx hb hV.1 hW.1 mx_D hS (mx_num f i) 1 ((mx_at hok).trans (by rw [mx_enc4 hkd])) rfl hin hd (fun H1 lcs1 hP1 _ hS1 => ?_)
    exact (hk _ _ _ _ _ h hsf _ hn) H1 lcs1 ls (mx_WH_sl hW hok (mx_enc4s hkd) hP1) hS1 hl hL (mx_oS_t (mx_oS_t (mx_oS_t hO))) hu hz
  | getfield n =>
    obtain ⟨h1, h2⟩ := Bool.and_eq_true_iff.mp (show (decide (len = 3) && mx_fl own n aux) = true from hI)
    obtain rfl : len = 3 := of_decide_eq_true h1
    obtain ⟨ci, j, nest, z, w, r, C, T, N, rfl, hc, hj, hTj, hlk⟩ := mx_fl_o h2
    obtain ⟨f, i, S, rfl, h⟩ := mx_rf_o (show mx_rf S _ from h)
    obtain ⟨hkd, h⟩ := mx_eq_o (show mx_eq (mx_fK f) 0 _ from h)
    obtain ⟨rfl, h⟩ := mx_eq_o (show mx_eq (mx_fX f) ci _ from h)
    intro H lcs ls hW hS hl hL hO hu hz
    have hok := mx_oS_h hO
    obtain ⟨hin, hN⟩ := mx_cin hc
    obtain ⟨v, hv, hvo, h⟩ := mx_get_o (bs := bs) hW hok hkd (by rw [hN]; exact hj) (show mx_get md s f i (mx_fX f) j _ from h)
    have hfs : ((List.range (mx_nF (mx_fX f))).map (mx_fv bs s f i))[j]? = some (mx_vv bs v) := by
      rw [List.getElem?_map, List.getElem?_range (by rw [hN]; exact hj), ← hv]
      rfl
    have hkk := (hk _ _ _ _ _ h hsf _ hn) H lcs ls hW hS hl hL (mx_oS_c hvo (mx_oS_t hO)) hu hz
    rcases hlk with ⟨-, hlk⟩ | ⟨-, hlk⟩
    · exact va_get hx hb hts hin hown hV.1 hW.1 (mx_num f i) ((mx_at hok).trans (by rw [mx_enc0 hkd])) hc j hj (hts _ hlk) (by rw [hTj]; exact fun _ h9 => h9) hfs hd hkk
    · exact va_getN hx hb hts hin hown hV.1 hW.1 (mx_num f i) ((mx_at hok).trans (by rw [mx_enc0 hkd])) hc j hj (va_Nw.use rfl (hV.2.1 _ hlk)) (by rw [hTj]; exact fun _ h9 => h9) hfs hd hkk
  | new a =>
    exact hl8 rfl h
  | newarray a =>
    exact hl8 rfl h
  | anewarray a =>
    exact hl8 rfl h
  | aastore =>
    exact hl8 rfl h
  | putfield a =>
    exact hl8 rfl h
  | invokevirtual a =>
    exact hl8 rfl h
  | invokestatic a =>
    exact hl8 rfl h
  | invokespecial a =>
    exact hl8 rfl h
  | return_ =>
    exact hl8 rfl h
  | ireturn =>
    exact hl8 rfl h
  | areturn =>
    exact hl8 rfl h
  | _ => exact False.elim h
end
