section
variable {p : Program} {l : Launch} {e : Env} {R : Room} {s0 : State} {m : MethodId} {args : Array Value} {below : List Frame} {meth : Method} {c : Code} {D : va_G} {ca : Nat → ClassId} {bs maxL : Nat} {L : mLV} {S : List mAV} {s : mSt} {u : Nat × Nat}
theorem mx_throw_ok {scr : mSc} {cal : Nat → List mAV → mSt → mPo → (Nat → mSt → Prop) → Prop} {M : mMt} {post : mPo} {ex : Nat → mSt → Prop} {es : List mEn} {mn : String} {cc : ByteArray} {pc kk z n len : Nat} {r : List Nat} {cut : Option (List Nat)} {ic : Int32} {lc : Int64}
    (hCx : mx_Cx p l R s0 m args meth c true D ca bs scr R_Rs mn cc maxL M cal) (htr : ∀ e, l.admits e → e.platform.stackTraces = false) (hrm : 8 ≤ R.frames ∧ 200 ≤ R.locals) (hout : c.exceptionTable.toList = []) (hlk : meth.locks = false) (hRe : R.cells = M.2.2.1 ∧ R.slots = M.2.2.2.1)
    (hcns : mx_cns M.1 = true) (hE : ∀ e0 ∈ M.1, mx_okE R_Rs mn cc maxL e0 = true) (hxal : mx_xal M.1 = true) (hsf : mx_Sf M.1 ((pc, cut, .new n, len, (z + 1) :: kk :: r, ic, lc) :: es))
    (hbg : u.1 + 1 ≤ M.2.2.1 ∧ u.2 + 6 ≤ M.2.2.2.1) (h : ex kk s) : mx_GA p l e R s0 m args below meth c (mx_MQ below (mx_Q true D ca bs scr post ex) args s0 M.2.2.1 M.2.2.2.1 (fun q => bs ≤ q)) true D ca bs maxL pc L [] s u := by
  obtain ⟨hx, hb, hml, hown, hmn, hts, hV, hX, hXb, hbs, hR, hcal, hXT⟩ := hCx
  have hx1 : mx_xn1 ((pc, cut, .new n, len, (z + 1) :: kk :: r, ic, lc) :: es) = true := by
    obtain ⟨pre, hpre⟩ := hsf
    rw [hpre] at hxal
    exact mx_xal_o hxal
  have hE0 := hE _ hsf.in
  have hd0 : decode cc pc = .ok (.new n, len) := of_decide_eq_true (Bool.and_eq_true_iff.mp hE0).1
  obtain rfl : len = 3 := by
    have h9 := (Bool.and_eq_true_iff.mp hE0).2
    exact of_decide_eq_true (Bool.and_eq_true_iff.mp h9).1
  match es, hx1, hsf with
  | [], hx1, _ => cases hx1
  | [_], hx1, _ => cases hx1
  | [_, _], hx1, _ => cases hx1
  | (p1, c1, i1, l1, a1, ic1, lc1) :: (p2, c2, i2, l2, a2, ic2, lc2) :: (p3, c3, i3, l3, a3, ic3, lc3) :: rest, hx1, hsf =>
    obtain ⟨hk, rfl, rfl, rfl, rfl⟩ := of_decide_eq_true hx1
    obtain rfl : p1 = pc + 3 := mx_nx hcns hsf _ _ rfl
    have hsf1 := hsf.tail
    have hE1 := hE _ hsf1.in
    have hd1 : decode cc (pc + 3) = .ok (.dup, l1) := of_decide_eq_true (Bool.and_eq_true_iff.mp hE1).1
    obtain rfl : l1 = 1 := of_decide_eq_true (Bool.and_eq_true_iff.mp hE1).2
    obtain rfl : p2 = pc + 3 + 1 := mx_nx hcns hsf1 _ _ rfl
    have hsf2 := hsf1.tail
    have hE2 := hE _ hsf2.in
    have hd2 : decode cc (pc + 4) = .ok (.invokespecial (xt_i kk), l2) := of_decide_eq_true (Bool.and_eq_true_iff.mp hE2).1
    obtain rfl : l2 = 3 := of_decide_eq_true (Bool.and_eq_true_iff.mp (Bool.and_eq_true_iff.mp hE2).2).1
    obtain rfl : p3 = pc + 3 + 1 + 3 := mx_nx hcns hsf2 _ _ rfl
    have hsf3 := hsf2.tail
    have hE3 := hE _ hsf3.in
    have hd3 : decode cc (pc + 7) = .ok (.athrow, l3) := of_decide_eq_true (Bool.and_eq_true_iff.mp hE3).1
    obtain rfl : l3 = 1 := of_decide_eq_true (Bool.and_eq_true_iff.mp hE3).2
    intro H lcs ls hW hS hl hL hO hu hz
    obtain ⟨w1, w2, w3⟩ := xt_wk hk
    refine xt_throw hx hb (hl.1.trans hml.symm) hown hlk hts hXT hbs hS htr hk w1 w2 w3 hd0 hd1 hd2 hd3 (fun y hy => by rw [hout] at hy; cases hy) ⟨by rw [hRe.1]; exact hbg.1, by rw [hRe.2]; exact hbg.2⟩ hrm (fun t a h1 h2 h3 h4 h5 h6 h7 => ?_)
    obtain ⟨cell, q1, q2, q3⟩ := h7
    have hkept : ∀ q, q < H.size → t.heap[q]? = H[q]? := h6
    have hS1 : va_S (fun q => bs ≤ q) s0.heap t.heap lcs := ⟨Nat.le_trans hS.1 h5, fun q g1 g2 => (hkept q (Nat.lt_of_lt_of_le g1 hS.1)).trans (hS.2.1 q g1 g2), hS.2.2⟩
    have hWt : mx_WH true D ca bs s t.heap := ⟨fun k q hq => (hW.1 k q hq).kept (hkept _ (hW.1 k q hq).lt), hW.2.1, hW.2.2⟩
    refine ⟨.threw a, h1, h2, ⟨Or.inr ⟨kk, s, a, rfl, h, mx_endW (md := true) hV hX hXb hbs hXT hWt hS1 (fun h => Bool.noConfusion h) rfl h3, hk, cell, q1, fun k hk9 => ?_, ?_⟩, hS1.1, hS1.2.1⟩, lcs, ⟨h3, h4.mono hbg.1 hbg.2⟩, hS.2.2⟩
    · rw [q2] at hk9
      cases hk9
    · rw [h3.alike.findClass]
      exact q3
end
