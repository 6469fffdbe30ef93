theorem mx_s1 : ∀ f, f < mx_fam.length → mx_fX f ≤ 1000 := by decide +kernel
theorem mx_s2 : ∀ f, f < mx_fam.length → mx_fK f = 5 → (mx_fY f = 5 ∧ mx_tA f = 3) ∨ (mx_fY f = 14 ∧ mx_tA f = 4) := by decide +kernel
theorem mx_arI : Cond.arrayClass .int ∈ wg := k_110
theorem mx_arC : Cond.arrayClass .char ∈ wg := k_111
theorem mx_arJ : Cond.arrayClass .long ∈ wg := k_176
theorem mx_arZ : Cond.arrayClass .boolean ∈ wg := k_710
section
variable {p : Program} {l : Launch} {e : Env} {R : Room} {s0 : State} {m : MethodId} {args : Array Value} {below : List Frame} {meth : Method} {c : Code} {Q : State → Prop} {D : va_G} {ca : Nat → ClassId} {bs maxL : Nat} {L : mLV} {S : List mAV} {s : mSt} {u : Nat × Nat}
theorem mx_newa_ok {scr : mSc} {cal : Nat → List mAV → mSt → mPo → (Nat → mSt → Prop) → Prop} {M : mMt} {post : mPo} {ex : Nat → mSt → Prop} {k : List mEn → mLV → List mAV → mSt → Nat × Nat → Prop} {es : List mEn} {own mn : String} {cc : ByteArray} {pc len : Nat} {ty : ArrayType} {cut : Option (List Nat)} {aux : List Nat} {ic : Int32} {lc : Int64}
    (hx : p.tables.exec = Jvm.exec) (hb : c.code = cc) (hts : ∀ w ∈ wg, w.before args s0 = true) (hV : mx_VM D ca s0) (hbs : bs ≤ s0.heap.size) (hR : M.2.2.1 ≤ R.cells ∧ M.2.2.2.1 ≤ R.slots)
    (hE : mx_okE own mn cc maxL (pc, cut, .newarray ty, len, aux, ic, lc) = true) (hnx : ∀ e' r, es = e' :: r → e'.1 = pc + len) (hsf : mx_Sf M.1 es)
    (hk : ∀ es L S s u, k es L S s u → mx_Sf M.1 es → ∀ pc, (∀ e r, es = e :: r → e.1 = pc) → mx_GA p l e R s0 m args below meth c Q false D ca bs maxL pc L S s u)
    (h : mx_stp false scr cal M post ex k (pc, cut, .newarray ty, len, aux, ic, lc) es L S s u) : mx_GA p l e R s0 m args below meth c Q false D ca bs maxL pc L S s u := by
  have h9 := Bool.and_eq_true_iff.mp hE
  have hd : decode cc pc = .ok (.newarray ty, len) := of_decide_eq_true h9.1
  obtain rfl : len = 2 := of_decide_eq_true h9.2
  have h : mx_nw s (fun f i => mx_p1 S (fun n S => mx_eq (mx_fK f) (mx_ty ty) (n = nI (mx_fX f) ∧ mx_bg (u.1 + 1) (u.2 + mx_fX f) M (k es L (.inr (.inr (.inl (f, i))) :: S) (mx_sn s f i) (u.1 + 1, u.2 + mx_fX f))))) := h
  obtain ⟨f, i, hcod, h⟩ := mx_nw_o h
  obtain ⟨n, S, rfl, h⟩ := mx_p1_o h
  obtain ⟨hkd, hn, h⟩ := mx_eq_o h
  obtain ⟨b1, b2, h⟩ := mx_bg_o h
  have hK : s.2.2.2 < mx_KT := mx_Klt (by rw [hcod, hkd]; cases ty <;> decide)
  obtain ⟨hok, hnum⟩ := mx_snok hcod hK
  have hlen := mx_s1 f (mx_t0 hok.1)
  have hn0 : ¬ n < 0 := by rw [hn]; exact nI_pos (by omega)
  have hnN : n.toNatClampNeg = mx_fX f := by rw [hn]; exact nI_clamp (by omega)
  have hbud : u.1 + 1 ≤ R.cells ∧ u.2 + mx_fX f ≤ R.slots := ⟨Nat.le_trans b1 hR.1, Nat.le_trans b2 hR.2⟩
  have hkk := hk _ _ _ _ _ h hsf _ hnx
  intro H lcs ls hW hS hl hL hO hu hz
  have hO := mx_oS_t hO
  cases ty with
  | int =>
    refine va_newa (a0 := (mx_fX f, .inl (fun _ => 0))) (atype := .int) hx hb (hts _ mx_arI) rfl hV.1 hW.1 mx_D hS (fun q hq => Nat.le_trans hbs hq) (fun cA => rfl) hn0 hnN (by show mx_fX f * 4 ≤ _; omega) hbud.1 hbud.2 hd (fun q cA H1 hK1 hP1 hD1 hS1 => ?_)
    have hcA : cA = ca 0 := Option.some.inj ((hK1.2 6 _ rfl).2.symm.trans (hV.1.2 0 _ rfl).2)
    subst hcA
    exact mx_after hcod hK (by rw [mx_enc1 hkd, mx_sni]) hP1 hD1 hS1 hl hL hO hbud (hz rfl) hkk
  | char =>
    refine va_newa (a0 := (mx_fX f, .inl (fun _ => 0))) (atype := .char) hx hb (hts _ mx_arC) rfl hV.1 hW.1 mx_D hS (fun q hq => Nat.le_trans hbs hq) (fun cA => rfl) hn0 hnN (by show mx_fX f * 2 ≤ _; omega) hbud.1 hbud.2 hd (fun q cA H1 hK1 hP1 hD1 hS1 => ?_)
    have hcA : cA = ca 2 := Option.some.inj ((hK1.2 6 _ rfl).2.symm.trans (hV.1.2 2 _ rfl).2)
    subst hcA
    exact mx_after hcod hK (by rw [mx_enc2 hkd, mx_sni]) hP1 hD1 hS1 hl hL hO hbud (hz rfl) hkk
  | boolean =>
    refine va_newa (a0 := (mx_fX f, .inl (fun _ => 0))) (atype := .boolean) hx hb (hts _ mx_arZ) rfl hV.1 hW.1 mx_D hS (fun q hq => Nat.le_trans hbs hq) (fun cA => rfl) hn0 hnN (by show mx_fX f * 1 ≤ _; omega) hbud.1 hbud.2 hd (fun q cA H1 hK1 hP1 hD1 hS1 => ?_)
    have hcA : cA = ca 5 := Option.some.inj ((hK1.2 6 _ rfl).2.symm.trans (hV.1.2 5 _ rfl).2)
    subst hcA
    exact mx_after hcod hK (by rw [mx_enc3 hkd, mx_sni]) hP1 hD1 hS1 hl hL hO hbud (hz rfl) hkk
  | long =>
    refine va_newa (a0 := (mx_fX f, .inr (.inl (fun _ => 0)))) (atype := .long) hx hb (hts _ mx_arJ) rfl hV.1 hW.1 mx_D hS (fun q hq => Nat.le_trans hbs hq) (fun cA => rfl) hn0 hnN (by show mx_fX f * 8 ≤ _; omega) hbud.1 hbud.2 hd (fun q cA H1 hK1 hP1 hD1 hS1 => ?_)
    have hcA : cA = ca 1 := Option.some.inj ((hK1.2 6 _ rfl).2.symm.trans (hV.1.2 1 _ rfl).2)
    subst hcA
    exact mx_after hcod hK (by rw [mx_enc4 hkd, mx_snl]) hP1 hD1 hS1 hl hL hO hbud (hz rfl) hkk
  | _ =>
    exfalso
    rcases mx_t6 f (mx_t0 hok.1) with e9 | e9 | e9 | e9 | e9 | e9 <;> rw [e9] at hkd <;> cases hkd
theorem mx_newq_ok {scr : mSc} {cal : Nat → List mAV → mSt → mPo → (Nat → mSt → Prop) → Prop} {M : mMt} {post : mPo} {ex : Nat → mSt → Prop} {k : List mEn → mLV → List mAV → mSt → Nat × Nat → Prop} {es : List mEn} {own mn : String} {cc : ByteArray} {pc n0 len : Nat} {cut : Option (List Nat)} {aux : List Nat} {ic : Int32} {lc : Int64}
    (hx : p.tables.exec = Jvm.exec) (hb : c.code = cc) (hown : s0.vm.findClass own = some m.cls) (hts : ∀ w ∈ wg, w.before args s0 = true) (hV : mx_VM D ca s0) (hbs : bs ≤ s0.heap.size) (hR : M.2.2.1 ≤ R.cells ∧ M.2.2.2.1 ≤ R.slots)
    (hE : mx_okE own mn cc maxL (pc, cut, .anewarray n0, len, aux, ic, lc) = true) (hnx : ∀ e' r, es = e' :: r → e'.1 = pc + len) (hsf : mx_Sf M.1 es)
    (hk : ∀ es L S s u, k es L S s u → mx_Sf M.1 es → ∀ pc, (∀ e r, es = e :: r → e.1 = pc) → mx_GA p l e R s0 m args below meth c Q false D ca bs maxL pc L S s u)
    (h : mx_stp false scr cal M post ex k (pc, cut, .anewarray n0, len, aux, ic, lc) es L S s u) : mx_GA p l e R s0 m args below meth c Q false D ca bs maxL pc L S s u := by
  have h9 := Bool.and_eq_true_iff.mp hE
  have hd : decode cc pc = .ok (.anewarray n0, len) := of_decide_eq_true h9.1
  obtain ⟨h1, h2⟩ := Bool.and_eq_true_iff.mp (show (decide (len = 3) && mx_ak own n0 aux) = true from h9.2)
  obtain rfl : len = 3 := of_decide_eq_true h1
  obtain ⟨g, r, rfl, h⟩ := mx_aq_o (show mx_aq aux _ from h)
  obtain ⟨C, T, N, hc, w1, hg⟩ := mx_ak_o h2
  have h : mx_nw s (fun f i => mx_p1 S (fun n S => mx_eq (mx_fK f) 5 (mx_eq (mx_fY f) g (n = nI (mx_fX f) ∧ mx_bg (u.1 + 1) (u.2 + mx_fX f) M (k es L (.inr (.inr (.inl (f, i))) :: S) (mx_sn s f i) (u.1 + 1, u.2 + mx_fX f)))))) := h
  obtain ⟨f, i, hcod, h⟩ := mx_nw_o h
  obtain ⟨n, S, rfl, h⟩ := mx_p1_o h
  obtain ⟨hkd, h⟩ := mx_eq_o h
  obtain ⟨hfy, hn, h⟩ := mx_eq_o h
  obtain ⟨b1, b2, h⟩ := mx_bg_o h
  have hK : s.2.2.2 < mx_KT := mx_Klt (by rw [hcod, hkd]; decide)
  obtain ⟨hok, hnum⟩ := mx_snok hcod hK
  have hlen := mx_s1 f (mx_t0 hok.1)
  have hn0 : ¬ n < 0 := by rw [hn]; exact nI_pos (by omega)
  have hnN : n.toNatClampNeg = mx_fX f := by rw [hn]; exact nI_clamp (by omega)
  have hbud : u.1 + 1 ≤ R.cells ∧ u.2 + mx_fX f ≤ R.slots := ⟨Nat.le_trans b1 hR.1, Nat.le_trans b2 hR.2⟩
  have hkk := hk _ _ _ _ _ h hsf _ hnx
  intro H lcs ls hW hS hl hL hO hu hz
  have hO := mx_oS_t hO
  have hover : va_AO C s0 := by
    rcases hg with ⟨-, rfl⟩ | ⟨-, rfl⟩
    · exact hV.2.2.1
    · exact hV.2.2.2
  refine va_newq (C := C) hx hb hown (hts _ w1) hover hV.1 hW.1 mx_D hS (fun q hq => Nat.le_trans hbs hq) hn0 hnN (by omega) hbud.1 hbud.2 hd (fun q cA H1 hK1 hP1 hD1 hS1 => ?_)
  have hcA : cA = ca (mx_tA f) := by
    obtain ⟨_, _, -, -, -, h4⟩ := (hK1.2 6 _ rfl).2
    rcases hg with ⟨hg, rfl⟩ | ⟨hg, rfl⟩
    · rcases mx_s2 f (mx_t0 hok.1) hkd with ⟨q1, q2⟩ | ⟨q1, q2⟩
      · obtain ⟨_, _, -, -, -, h5⟩ := (hV.1.2 3 _ rfl).2
        rw [q2]
        exact Option.some.inj (h4.symm.trans h5)
      · omega
    · rcases mx_s2 f (mx_t0 hok.1) hkd with ⟨q1, q2⟩ | ⟨q1, q2⟩
      · omega
      · obtain ⟨_, _, -, -, -, h5⟩ := (hV.1.2 4 _ rfl).2
        rw [q2]
        exact Option.some.inj (h4.symm.trans h5)
  subst hcA
  exact mx_after hcod hK (by rw [mx_enc5 hkd, mx_snr]; rfl) hP1 hD1 hS1 hl hL hO hbud (hz rfl) hkk
theorem mx_aast_ok {scr : mSc} {cal : Nat → List mAV → mSt → mPo → (Nat → mSt → Prop) → Prop} {M : mMt} {post : mPo} {ex : Nat → mSt → Prop} {k : List mEn → mLV → List mAV → mSt → Nat × Nat → Prop} {es : List mEn} {own mn : String} {cc : ByteArray} {pc len : Nat} {cut : Option (List Nat)} {aux : List Nat} {ic : Int32} {lc : Int64}
    (hx : p.tables.exec = Jvm.exec) (hb : c.code = cc) (hV : mx_VM D ca s0)
    (hE : mx_okE own mn cc maxL (pc, cut, .aastore, len, aux, ic, lc) = true) (hnx : ∀ e' r, es = e' :: r → e'.1 = pc + len) (hsf : mx_Sf M.1 es)
    (hk : ∀ es L S s u, k es L S s u → mx_Sf M.1 es → ∀ pc, (∀ e r, es = e :: r → e.1 = pc) → mx_GA p l e R s0 m args below meth c Q false D ca bs maxL pc L S s u)
    (h : mx_stp false scr cal M post ex k (pc, cut, .aastore, len, aux, ic, lc) es L S s u) : mx_GA p l e R s0 m args below meth c Q false D ca bs maxL pc L S s u := by
  have h9 := Bool.and_eq_true_iff.mp hE
  have hd : decode cc pc = .ok (.aastore, len) := of_decide_eq_true h9.1
  obtain rfl : len = 1 := of_decide_eq_true h9.2
  obtain ⟨g, y, S, rfl, h⟩ := mx_rf_o (show mx_rf S _ from h)
  obtain ⟨j, f, i, S, rfl, h⟩ := mx_ix_o (show mx_ix S _ from h)
  obtain ⟨hkd, h⟩ := mx_eq_o (show mx_eq (mx_fK f) 5 _ from h)
  obtain ⟨-, h⟩ := mx_no_o h
  obtain ⟨hfy, hin, hh⟩ := mx_eq_o h
  clear h
  subst hfy
  have hkk := hk _ _ _ _ _ hh hsf _ hnx
  intro H lcs ls hW hS hl hL hO hu hz
  have hokv := mx_oS_h hO
  have hok := mx_oS_h (mx_oS_t (mx_oS_t hO))
  have fin : ∀ (t0 ci : Nat) (r : vw_C), (tyl ca)[t0]? = some (ca (mx_tA f), FieldType.object r.1) → cls[ci]? = some r → mx_fK (mx_fY f) = 0 → mx_fX (mx_fY f) = ci → W p l e R s0 m args below meth c H lcs u.1 u.2 Q (F0 m pc ls ((Sum.inr (Sum.inr (Sum.inl (mx_fY f, y))) :: Sum.inl j :: Sum.inr (Sum.inr (Sum.inl (f, i))) :: S).map (mx_vv bs))) := fun t0 ci r ht hc h0 h1 => by
    refine va_astq hx hb hV.1 hW.1 mx_D hS (mx_num f i) t0 (mx_num (mx_fY f) y) ci ((mx_at hok).trans (by rw [mx_enc5 hkd])) ht ((mx_at hokv).trans (by rw [mx_enc0 h0, h1])) hc hin hd (fun H1 lcs1 hP1 _ hS1 => ?_)
    exact hkk H1 lcs1 ls (mx_WH_sp hW hok (Or.inl rfl) (mx_enc5p hkd) hP1) hS1 hl hL (mx_oS_t (mx_oS_t (mx_oS_t hO))) hu hz
  rcases mx_s2 f (mx_t0 hok.1) hkd with ⟨q1, q2⟩ | ⟨q1, q2⟩
  · exact fin 3 4 (R_Rl, T_Rl, 13) (by rw [q2]; rfl) rfl (by rw [q1]; rfl) (by rw [q1]; rfl)
  · exact fin 4 5 (R_Vs, T_Vs, 5) (by rw [q2]; rfl) rfl (by rw [q1]; rfl) (by rw [q1]; rfl)
end
