theorem mx_okE_mn {own mn mn' : String} {cc : ByteArray} {maxL : Nat} {e : mEn} (hn : ∀ n, ¬ e.2.2.1 = .putfield n) : mx_okE own mn cc maxL e = mx_okE own mn' cc maxL e := by
  obtain ⟨pc, cut, ins, len, aux, ic, lc⟩ := e
  unfold mx_okE
  congr 1
  cases ins <;> first | rfl | exact absurd rfl (hn _)
theorem mx_GA_tf {p : Program} {l : Launch} {e : Env} {R : Room} {s0 : State} {m : MethodId} {args : Array Value} {below : List Frame} {meth : Method} {c : Code} {Q : State → Prop} {D : va_G} {ca : Nat → ClassId} {bs maxL pc : Nat} {L : mLV} {S : List mAV} {s : mSt} {u : Nat × Nat} (hM : mx_Made s) (h : mx_GA p l e R s0 m args below meth c Q true D ca bs maxL pc L S s u) : mx_GA p l e R s0 m args below meth c Q false D ca bs maxL pc L S s u :=
  fun H lcs ls hW hS hl hL hO hu _ => h H lcs ls ⟨hW.1, hW.2.1, fun _ => hM⟩ hS hl hL hO hu (fun h => Bool.noConfusion h)
section
variable {p : Program} {l : Launch} {e : Env} {R : Room} {s0 : State} {m : MethodId} {args : Array Value} {below : List Frame} {meth : Method} {c : Code} {Q : State → Prop} {D : va_G} {ca : Nat → ClassId} {bs maxL : Nat} {L : mLV} {S : List mAV} {s : mSt} {u : Nat × Nat}
set_option maxHeartbeats 4000000 in
theorem mx_lat_l {scr : mSc} {cal : Nat → List mAV → mSt → mPo → (Nat → mSt → Prop) → Prop} {M : mMt} {post : mPo} {ex : Nat → mSt → Prop} {k : List mEn → mLV → List mAV → mSt → Nat × Nat → Prop} {e0 : mEn} {es : List mEn} {own mn : String} {cc : ByteArray}
    (hCx : mx_Cx p l R s0 m args meth c true D ca bs scr own mn cc maxL M cal) (hcalA : mx_CalA l R true D ca bs scr cal) (hcns : mx_cns M.1 = true) (hE : mx_okE own mn cc maxL e0 = true) (hthr : M.2.2.2.2.2 = false) (hh0 : M.2.2.2.2.1 = []) (hMs : ∀ mi, mi < mx_nM → mx_okM mi = true)
    (hiv : ∀ n, e0.2.2.1 = .invokevirtual n ∨ e0.2.2.1 = .invokestatic n ∨ (e0.2.2.1 = .invokespecial n ∧ ¬ e0.2.2.2.2.1 = []) → mx_iv own e0.2.2.1 e0.2.2.2.2.1 = true ∧ ((∀ a r, e0.2.2.2.2.1 = a :: r → mx_pu a = true) ∨ (e0.2.2.2.2.1.getD 7 0 = 0 ∧ ∀ n, ¬ e0.2.2.1 = .invokespecial n)))
    (hret : mx_isR e0.2.2.1 = true → mx_stp true scr cal M post ex k e0 es L S s u → mx_GA p l e R s0 m args below meth c Q true D ca bs maxL e0.1 L S s u)
    (hk : ∀ es L S s u, k es L S s u → mx_Sf M.1 es → ∀ pc, (∀ e r, es = e :: r → e.1 = pc) → mx_GA p l e R s0 m args below meth c Q true D ca bs maxL pc L S s u)
    (hsf : mx_Sf M.1 (e0 :: es)) (hlat : mx_lat e0.2.2.1 = true) (h : mx_stp true scr cal M post ex k e0 es L S s u) : mx_GA p l e R s0 m args below meth c Q true D ca bs maxL e0.1 L S s u := by
  have hnx := mx_nx hcns hsf
  obtain ⟨hx, hb, hml, hown, hmn, hts, hV, hX, hXb, hbs, hR, hcal, hXT⟩ := hCx
  obtain ⟨pc, cut, ins, len, aux, ic, lc⟩ := e0
  have hd : decode cc pc = .ok (ins, len) := of_decide_eq_true (Bool.and_eq_true_iff.mp hE).1
  have hI := (Bool.and_eq_true_iff.mp hE).2
  cases ins with
  | new n =>
    obtain ⟨z, r, rfl, h⟩ := mx_aq_o (show mx_aq aux _ from h)
    obtain ⟨ci, r, rfl, h⟩ := mx_aq_o (show mx_aq r _ from h)
    cases z with
    | zero => exact False.elim h
    | succ z =>
      have h : mx_th M.2.2.2.2.2 S (mx_bg (u.1 + 1) (u.2 + 6) M (ex ci s)) := h
      rw [hthr] at h
      exact False.elim h
  | newarray n => exact False.elim h
  | anewarray n =>
    obtain ⟨z, r, rfl, h⟩ := mx_aq_o (show mx_aq aux _ from h)
    exact False.elim h
  | aastore =>
    obtain ⟨g, y, S, rfl, h⟩ := mx_rf_o (show mx_rf S _ from h)
    obtain ⟨j, f, i, S, rfl, h⟩ := mx_ix_o (show mx_ix S _ from h)
    obtain ⟨-, h⟩ := mx_eq_o (show mx_eq (mx_fK f) 5 _ from h)
    exact False.elim h
  | putfield n => exact mx_put_ok hx hb hown hmn hts hV hE hnx hsf.tail hk h
  | invokevirtual n =>
    obtain rfl : len = 3 := of_decide_eq_true hI
    obtain ⟨hv, hp | ⟨hp, -⟩⟩ := hiv n (Or.inl rfl)
    · exact mx_inv_ok hx hb hml hown hts hV hX hXb hbs hXT hR hMs hcal hd hv hnx hsf.tail hk (fun a r ha => mx_pu_o (hp a r ha)) h
    · exact mx_invx_ok hx hb hml hown hts hV hX hXb hbs hXT hR hMs hcalA (Or.inl hh0) (fun _ _ _ _ _ _ _ _ h9 => by rw [hthr] at h9; cases h9) hd hv hnx hsf.tail hk hp (fun n9 h9 => by cases h9) h
  | invokestatic n =>
    obtain rfl : len = 3 := of_decide_eq_true hI
    obtain ⟨hv, hp | ⟨hp, -⟩⟩ := hiv n (Or.inr (Or.inl rfl))
    · exact mx_inv_ok hx hb hml hown hts hV hX hXb hbs hXT hR hMs hcal hd hv hnx hsf.tail hk (fun a r ha => mx_pu_o (hp a r ha)) h
    · exact mx_invx_ok hx hb hml hown hts hV hX hXb hbs hXT hR hMs hcalA (Or.inl hh0) (fun _ _ _ _ _ _ _ _ h9 => by rw [hthr] at h9; cases h9) hd hv hnx hsf.tail hk hp (fun n9 h9 => by cases h9) h
  | invokespecial n =>
    obtain rfl : len = 3 := of_decide_eq_true (Bool.and_eq_true_iff.mp (show (decide (len = 3) && mx_ok0 _ n aux) = true from hI)).1
    cases aux with
    | nil => exact False.elim h
    | cons a r =>
      obtain ⟨hv, hp | ⟨-, hp⟩⟩ := hiv n (Or.inr (Or.inr ⟨rfl, fun h9 => by cases h9⟩))
      · exact mx_inv_ok hx hb hml hown hts hV hX hXb hbs hXT hR hMs hcal hd hv hnx hsf.tail hk (fun a' r' ha => mx_pu_o (hp a' r' ha)) h
      · exact absurd rfl (hp n)
  | return_ => exact hret rfl h
  | ireturn => exact hret rfl h
  | areturn => exact hret rfl h
  | _ => cases hlat
end
