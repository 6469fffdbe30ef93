section
variable {p : Program} {l : Launch} {e : Env} {R : Room} {s0 : State} {m : MethodId} {args : Array Value} {below : List Frame} {meth : Method} {c : Code} {Q : State → Prop} {md : Bool} {D : va_G} {ca : Nat → ClassId} {bs maxL : Nat} {L : mLV} {S : List mAV} {s : mSt} {u : Nat × Nat}
theorem mx_ok_le {s t : mSt} {v : mAV} (h : s.2.2.2 ≤ t.2.2.2) (hv : mx_ok s v) : mx_ok t v := by
  rcases v with x | y | ⟨f, i⟩ | a
  · trivial
  · trivial
  · exact ⟨hv.1, Nat.lt_of_lt_of_le hv.2 h⟩
  · trivial
theorem mx_kc_o {s t : mSt} {mc : Nat} {k : mSt → Prop} (h : mx_kc md s mc k t) : (md = false → t.2.2.2 = s.2.2.2 + mc) ∧ k t := by
  unfold mx_kc at h
  cases md with
  | true => exact ⟨fun q => Bool.noConfusion q, h⟩
  | false =>
    obtain ⟨h1, h2⟩ := mx_eq_o (show mx_eq t.2.2.2 (s.2.2.2 + mc) (k t) from h)
    exact ⟨fun _ => h1, h2⟩
theorem mx_back {scr : mSc} {M : mMt} {k : List mEn → mLV → List mAV → mSt → Nat × Nat → Prop} {es : List mEn} {rk mc ms pc : Nat} {v : Option Value} {t : State} {lcs1 : List Loc} {ls : Array Slot} {H : Heap}
    (hsf : mx_Sf M.1 es) (hnx : ∀ e' r, es = e' :: r → e'.1 = pc)
    (hk : ∀ es L S s u, k es L S s u → mx_Sf M.1 es → ∀ pc, (∀ e r, es = e :: r → e.1 = pc) → mx_GA p l e R s0 m args below meth c Q md D ca bs maxL pc L S s u)
    (hW : mx_WH md D ca bs s H) (hl : lv_has ls maxL (mx_VL bs L)) (hL : mx_oL s L) (hO : mx_oS s S) (hu : u.1 + mc ≤ R.cells ∧ u.2 + ms ≤ R.slots) (hz : md = false → bs + s.2.2.2 = s0.heap.size + u.1)
    (hq : mx_Qv md D ca bs scr (mx_kr rk S (fun S t => mx_kc md s mc (fun t => k es L S t (u.1 + mc, u.2 + ms)) t)) v t) (hS1 : va_S (fun q => bs ≤ q) s0.heap t.heap lcs1) :
    W p l e R s0 m args below meth c t.heap lcs1 (u.1 + mc) (u.2 + ms) Q (F0 m pc ls (v.toList ++ S.map (mx_vv bs))) := by
  have fin : ∀ (S' : List mAV) (t' : mSt), mx_WS md D ca bs scr t' t → (mx_oS t' S → mx_oS t' S') → mx_kc md s mc (fun t => k es L S' t (u.1 + mc, u.2 + ms)) t' → W p l e R s0 m args below meth c t.heap lcs1 (u.1 + mc) (u.2 + ms) Q (F0 m pc ls (S'.map (mx_vv bs))) := fun S' t' hWS hO' h => by
    obtain ⟨hK, h⟩ := mx_kc_o h
    have hle : s.2.2.2 ≤ t'.2.2.2 := by
      cases md with
      | true => rw [(hW.2.2 rfl).1, (hWS.1.2.2 rfl).1]; exact Nat.le_refl _
      | false => rw [hK rfl]; exact Nat.le_add_right _ _
    refine (hk _ _ _ _ _ h hsf _ hnx) t.heap lcs1 ls hWS.1 hS1 hl (fun q hq => mx_ok_le hle (hL q hq)) (hO' (fun q hq => mx_ok_le hle (hO q hq))) hu (fun hm => ?_)
    have h1 := hK hm
    have h2 := hz hm
    show bs + t'.2.2.2 = s0.heap.size + (u.1 + mc)
    omega
  unfold mx_kr at hq
  rcases hq with ⟨rfl, t', h, hWS⟩ | ⟨x, t', rfl, h, hWS⟩ | ⟨f, i, t', rfl, h, hko, hWS⟩
  · match rk, h with
    | 0, h => exact fin S t' hWS (fun h => h) h
    | 1, h => exact False.elim h
    | g + 2, h => exact False.elim h
  · match rk, h with
    | 0, h => exact False.elim h
    | 1, h => exact fin (.inl x :: S) t' hWS (fun h => mx_oS_c trivial h) h
    | g + 2, h => exact False.elim h
  · match rk, h with
    | 0, h => exact False.elim h
    | 1, h => exact False.elim h
    | g + 2, h =>
      obtain ⟨rfl, h⟩ := mx_eq_o (show mx_eq f g _ from h)
      exact fin (.inr (.inr (.inl (f, i))) :: S) t' hWS (fun h => mx_oS_c hko h) h
def mx_Cal (l : Launch) (R : Room) (md : Bool) (D : va_G) (ca : Nat → ClassId) (bs : Nat) (scr : mSc) (cal : Nat → List mAV → mSt → mPo → (Nat → mSt → Prop) → Prop) : Prop := ∀ mi as s post ex, mi < mx_nM → mx_pu mi = true → mx_oS s as → cal mi as s post ex → ∃ d, mx_CT l md D ca bs scr d mi as s post ex ∧ d + 9 ≤ R.frames ∧ 40 * d + 240 ≤ R.locals
theorem mx_okM_o {mi : Nat} (h : mx_okM mi = true) : mx_cw mi ∈ lw_tbl ∧ mx_wd (mx_mw mi 3) (.initialized (mx_y mi).cls) = true ∧ ((mx_y mi).cls ≠ "java/lang/invoke/MethodHandle" ∧ (mx_y mi).cls ≠ "java/lang/invoke/VarHandle" ∧ (parseMethodDescriptor (mx_y mi).desc).map (fun d => d.parameters.length) = some (mx_mw mi 1)) ∧ mx_mL mi ≤ 21 ∧ plainFor (mx_y mi) = true ∧ (mx_mw mi 0 = 0 → mx_wd (mx_mw mi 4) (.instanceMethod (mx_y mi)) = true ∧ mx_wd (mx_mw mi 5) (.selects (mx_y mi).cls (mx_y mi) (mx_y mi)) = true) ∧ (mx_mw mi 0 = 1 → mx_wd (mx_mw mi 4) (.static (mx_y mi)) = true) ∧ (mx_mw mi 0 = 2 → mx_wd (mx_mw mi 4) (.instanceMethod (mx_y mi)) = true ∧ (mx_y mi).name = "<init>" ∧ (mx_mt mi).2.1 = none) := by
  unfold mx_okM at h
  obtain ⟨h1, h⟩ := Bool.and_eq_true_iff.mp h
  obtain ⟨h2, h⟩ := Bool.and_eq_true_iff.mp h
  obtain ⟨h3, h⟩ := Bool.and_eq_true_iff.mp h
  obtain ⟨h4, h⟩ := Bool.and_eq_true_iff.mp h
  obtain ⟨h5, h⟩ := Bool.and_eq_true_iff.mp h
  refine ⟨mx_cz_o h1, h2, of_decide_eq_true h3, of_decide_eq_true h4, h5, fun e => ?_, fun e => ?_, fun e => ?_⟩
  · rw [e] at h
    exact Bool.and_eq_true_iff.mp h
  · rw [e] at h
    exact h
  · rw [e] at h
    obtain ⟨g1, g2⟩ := Bool.and_eq_true_iff.mp h
    exact ⟨g1, of_decide_eq_true g2⟩
set_option maxHeartbeats 4000000 in
theorem mx_inv_ok {scr : mSc} {cal : Nat → List mAV → mSt → mPo → (Nat → mSt → Prop) → Prop} {M : mMt} {ex : Nat → mSt → Prop} {k : List mEn → mLV → List mAV → mSt → Nat × Nat → Prop} {es : List mEn} {own : String} {cc : ByteArray} {pc : Nat} {ins : Instr} {aux : List Nat}
    (hx : p.tables.exec = Jvm.exec) (hb : c.code = cc) (hml : c.maxLocals = maxL) (hown : s0.vm.findClass own = some m.cls) (hts : ∀ w ∈ wg, w.before args s0 = true) (hV : mx_VM D ca s0) (hX : va_X scr.1 scr.2.1 scr.2.2 s0 s0.heap) (hXb : scr.1 < bs) (hbs : bs ≤ s0.heap.size) (hXT : xt_T bs s0) (hR : M.2.2.1 ≤ R.cells ∧ M.2.2.2.1 ≤ R.slots)
    (hMs : ∀ mi, mi < mx_nM → mx_okM mi = true) (hcal : mx_Cal l R md D ca bs scr cal)
    (hd : decode cc pc = .ok (ins, 3)) (hiv : mx_iv own ins aux = true) (hnx : ∀ e' r, es = e' :: r → e'.1 = pc + 3) (hsf : mx_Sf M.1 es)
    (hk : ∀ es L S s u, k es L S s u → mx_Sf M.1 es → ∀ pc, (∀ e r, es = e :: r → e.1 = pc) → mx_GA p l e R s0 m args below meth c Q md D ca bs maxL pc L S s u)
    (hpl : ∀ mi r, aux = mi :: r → mx_hr mi = [] ∧ (mx_mt mi).2.2.2.2.2 = false)
    (h : mx_inv md cal M ex aux es L S s u k pc) : mx_GA p l e R s0 m args below meth c Q md D ca bs maxL pc L S s u := by
  unfold mx_iv at hiv
  split at hiv
  · rename_i mi np rk th mc ms rc nest w r
    obtain ⟨hhr, hth⟩ := hpl _ _ rfl
    have hpu9 : mx_pu mi = true := by
      unfold mx_pu
      rw [hhr, hth]
    obtain ⟨g1, g2⟩ := Bool.and_eq_true_iff.mp hiv
    obtain ⟨g2, g3⟩ := Bool.and_eq_true_iff.mp g2
    obtain ⟨hmi, rfl, rfl, hms0⟩ := of_decide_eq_true g1
    rw [hth] at g2
    have hth0 : th = 0 := by
      cases th with
      | zero => rfl
      | succ n => cases g2
    subst hth0
    obtain ⟨o1, o2, o3, o4, o5, o6, o7, o8⟩ := mx_okM_o (hMs mi hmi)
    have hcw : mx_cw mi = .code (mx_y mi) (mx_b mi) (mx_mL mi) (mx_mt mi).2.1 := by
      unfold mx_cw
      rw [hhr]
    rw [hcw] at o1
    have w0 := wg_in o1 rfl
    have wi := mx_wd_g o2 rfl
    unfold mx_inv at h
    dsimp only at h
    cases hp : mx_pop np [] S with
    | none =>
      rw [hp] at h
      exact False.elim h
    | some q =>
      obtain ⟨as, S'⟩ := q
      rw [hp] at h
      obtain ⟨P, hP1, hP2, hP3⟩ := mx_pop_o hp
      rw [List.append_nil] at hP1
      subst hP1
      subst hP2
      obtain ⟨hw8, h⟩ := mx_eq_o (show mx_eq (Nat.ble (mx_wt S') 8).toNat 1 _ from h)
      have hw8 : mx_wt S' ≤ 8 := Nat.le_of_ble_eq_true (by cases hb9 : Nat.ble (mx_wt S') 8 with
        | true => rfl
        | false => rw [hb9] at hw8; cases hw8)
      intro H lcs ls hW hS hl hL hO hu hz
      have hOa : mx_oS s as := fun v hv => hO v (List.mem_append_left _ (List.mem_reverse.mpr hv))
      have hOs : mx_oS s S' := fun v hv => hO v (List.mem_append_right _ hv)
      have body : ∀ (hc : cal mi as s (mx_kr rk S' (fun S t => mx_kc md s (mx_mt mi).2.2.1 (fun t => k es L S t (u.1 + (mx_mt mi).2.2.1, u.2 + (mx_mt mi).2.2.2.1)) t)) (fun _ _ => False)), u.1 + (mx_mt mi).2.2.1 ≤ R.cells ∧ u.2 + (mx_mt mi).2.2.2.1 ≤ R.slots →
          (rc ≠ 0 → ∃ f i as', as = .inr (.inr (.inl (f, i))) :: as' ∧ mx_fK f = 0 ∧ mx_fX f + 1 = rc) → W p l e R s0 m args below meth c H lcs u.1 u.2 Q (F0 m pc ls ((as.reverse ++ S').map (mx_vv bs))) := fun hc hbud hrcv => by
        refine mx_szW (fun hsz => ?_)
        have hge := mx_ge hbs hW hS
        have hzz : md = false → H.size = bs + s.2.2.2 := fun hm => by
          have h1 := hz hm
          omega
        obtain ⟨d, hCT, hd1, hd2⟩ := hcal mi as s _ _ hmi hpu9 hOa hc
        have met := mx_met (show mx_Mx l (mx_y mi) (mx_cw mi :: wg) (mx_rm d mi) (va_Pc (as.map (mx_vv bs)) (mx_WS md D ca bs scr s)) _ (mx_mt mi).2.2.1 (mx_mt mi).2.2.2.1 (fun q => bs ≤ q) from hCT)
        rw [hcw] at met
        have hroom : (mx_rm d mi).frames + 1 ≤ R.frames ∧ 8 + (mx_mL mi + 11) + (mx_rm d mi).locals ≤ R.locals := by
          constructor
          · show d + 8 + 1 ≤ R.frames
            omega
          · show 8 + (mx_mL mi + 11) + (40 * d + 200) ≤ R.locals
            omega
        have hwr : 2 * (F0 m pc ls ((as.reverse ++ S').map (mx_vv bs))).monitorRoom + ((S'.map (mx_vv bs)).map fun v => v.category).sum ≤ 8 := by
          show 2 * 0 + _ ≤ 8
          rw [mx_wt_o]
          omega
        have hpre := mx_pre (av := as.map (mx_vv bs)) hV hX hXb hbs hXT hW hS hzz
        have fix : CallFix p m c cc maxL s0 args wg own := ⟨hx, hb, hml, hown, hts⟩
        cases ins with
        | invokevirtual n =>
          obtain ⟨k1, k2⟩ := Bool.and_eq_true_iff.mp g3
          obtain ⟨k2, k3⟩ := Bool.and_eq_true_iff.mp k2
          obtain ⟨k4, k5⟩ := of_decide_eq_true k1
          cases rc with
          | zero => cases k2
          | succ ci =>
            obtain ⟨f, i, as', rfl, hf0, hf1⟩ := hrcv (Nat.succ_ne_zero _)
            obtain rfl : mx_fX f = ci := Nat.succ.inj hf1
            obtain ⟨w1, w2⟩ := o6 k4
            have w1 := mx_wd_g w1 rfl
            have w2 := mx_wd_g w2 rfl
            have hok := mx_oS_h hOa
            have k2 : decide ((cls[mx_fX f]?).map (fun q => q.1) = some (mx_y mi).cls) = true := k2
            cases hcl : cls[mx_fX f]? with
            | none =>
              rw [hcl] at k2
              cases (of_decide_eq_true k2)
            | some q =>
              rw [hcl] at k2
              have hqc : q.1 = (mx_y mi).cls := Option.some.inj (of_decide_eq_true k2)
              have hrecv := va_recv hV.1 hW.1 hcl ((mx_at hok).trans (by rw [mx_enc0 hf0]))
              rw [hqc] at hrecv
              have hlen : (as'.map (mx_vv bs)).length = mx_mw mi 1 := by
                rw [List.length_map]
                have h9 : as'.length + 1 = np := hP3
                omega
              have hstk : (F0 m pc ls (((Sum.inr (Sum.inr (Sum.inl (f, i))) :: as').reverse ++ S').map (mx_vv bs))).stack = (as'.map (mx_vv bs)).reverse ++ .ref (bs + mx_num f i) :: S'.map (mx_vv bs) := by
                simp [mx_vv]
              cases nest with
              | zero =>
                have wl := mx_wd_g k3 rfl
                refine mx_call (va_runV (C := (mx_y mi).cls) (b := bs + mx_num f i) (As := as'.map (mx_vv bs)) (rest := S'.map (mx_vv bs)) fix met (cwV (mx_mw mi 1) hts (gV w0 wl w1 w2 wi) rfl rfl rfl ⟨rfl, o3⟩ hroom) ⟨mx_blind, hrecv, hpre⟩ rfl hlen hl.1 hstk hwr hd hbud) hS (fun v t lcs1 hq hS1 => ?_)
                exact mx_back hsf hnx hk hW hl hL hOs hbud hz hq hS1
              | succ ns =>
                have wl := mx_wd_n k3 rfl
                refine mx_call (va_runVN (C := (mx_y mi).cls) (b := bs + mx_num f i) (As := as'.map (mx_vv bs)) (rest := S'.map (mx_vv bs)) fix met ⟨va_cnB (mx_mw mi 1) hts (gy w0) rfl rfl rfl (hV.2.1 _ wl) (hts _ wi) o3 hroom, hts _ w1, hts _ w2⟩ ⟨mx_blind, hrecv, hpre⟩ rfl hlen hl.1 hstk hwr hd hbud) hS (fun v t lcs1 hq hS1 => ?_)
                exact mx_back hsf hnx hk hW hl hL hOs hbud hz hq hS1
        | invokestatic n =>
          obtain ⟨k1, k3⟩ := Bool.and_eq_true_iff.mp g3
          obtain ⟨k4, k5, k6⟩ := of_decide_eq_true k1
          have w1 := mx_wd_g (o7 k4) rfl
          have hlen : (as.map (mx_vv bs)).length = mx_mw mi 1 := by
            rw [List.length_map]
            omega
          have hstk : (F0 m pc ls ((as.reverse ++ S').map (mx_vv bs))).stack = (as.map (mx_vv bs)).reverse ++ S'.map (mx_vv bs) := by
            simp
          cases nest with
          | zero =>
            have wl := mx_wd_g k3 rfl
            refine mx_call (va_runS (As := as.map (mx_vv bs)) (rest := S'.map (mx_vv bs)) fix met (va_cwS (mx_mw mi 1) hts (gS w0 wl w1 wi) rfl rfl rfl o3 hroom) ⟨mx_blind, hpre⟩ rfl hlen hl.1 hstk hwr hd hbud) hS (fun v t lcs1 hq hS1 => ?_)
            exact mx_back hsf hnx hk hW hl hL hOs hbud hz hq hS1
          | succ ns =>
            have wl := mx_wd_n k3 rfl
            refine mx_call (va_runSN (As := as.map (mx_vv bs)) (rest := S'.map (mx_vv bs)) fix met ⟨va_cnB (mx_mw mi 1) hts (gy w0) rfl rfl rfl (hV.2.1 _ wl) (hts _ wi) o3 hroom, hts _ w1, trivial⟩ ⟨mx_blind, hpre⟩ rfl hlen hl.1 hstk hwr hd hbud) hS (fun v t lcs1 hq hS1 => ?_)
            exact mx_back hsf hnx hk hW hl hL hOs hbud hz hq hS1
        | invokespecial n =>
          obtain ⟨k1, k3⟩ := Bool.and_eq_true_iff.mp g3
          obtain ⟨k4, k5, k6⟩ := of_decide_eq_true k1
          obtain ⟨f, i, as', rfl, hf0, hf1⟩ := hrcv k6
          obtain ⟨w1, hnm, hrn⟩ := o8 k4
          have w1 := mx_wd_g w1 rfl
          rw [hrn] at met w0
          have hlen : (as'.map (mx_vv bs)).length = mx_mw mi 1 := by
            rw [List.length_map]
            have h9 : as'.length + 1 = np := hP3
            omega
          have hstk : (F0 m pc ls (((Sum.inr (Sum.inr (Sum.inl (f, i))) :: as').reverse ++ S').map (mx_vv bs))).stack = (as'.map (mx_vv bs)).reverse ++ .ref (bs + mx_num f i) :: S'.map (mx_vv bs) := by
            simp [mx_vv]
          cases nest with
          | zero =>
            have wl := mx_wd_g k3 rfl
            refine mx_call (va_runI (b := bs + mx_num f i) (As := as'.map (mx_vv bs)) (rest := S'.map (mx_vv bs)) fix met (cwI (mx_mw mi 1) hts (gy w0) rfl rfl rfl (hts _ wi) (hts _ wl) (hts _ w1) hnm o3 hroom) ⟨mx_blind, hpre⟩ rfl hlen hl.1 hstk hwr hd hbud) hS (fun v t lcs1 hq hS1 => ?_)
            exact mx_back hsf hnx hk hW hl hL hOs hbud hz hq hS1
          | succ ns =>
            have wl := mx_wd_n k3 rfl
            refine mx_call (va_runIN (b := bs + mx_num f i) (As := as'.map (mx_vv bs)) (rest := S'.map (mx_vv bs)) fix met ⟨va_cnB (mx_mw mi 1) hts (gy w0) rfl rfl rfl (hV.2.1 _ wl) (hts _ wi) o3 hroom, hnm, hts _ w1⟩ ⟨mx_blind, hpre⟩ rfl hlen hl.1 hstk hwr hd hbud) hS (fun v t lcs1 hq hS1 => ?_)
            exact mx_back hsf hnx hk hW hl hL hOs hbud hz hq hS1
        | _ => cases g3
      have hrc9 : ∀ {P : Prop}, mx_rc rc as P → P ∧ (rc ≠ 0 → ∃ f i as', as = .inr (.inr (.inl (f, i))) :: as' ∧ mx_fK f = 0 ∧ mx_fX f + 1 = rc) := fun {P} h9 => by
        cases rc with
        | zero => exact ⟨h9, fun h => absurd rfl h⟩
        | succ ci =>
          obtain ⟨f, i, as', e1, h9⟩ := mx_rf_o (show mx_rf as _ from h9)
          obtain ⟨e2, h9⟩ := mx_eq_o (show mx_eq (mx_fK f) 0 _ from h9)
          obtain ⟨e3, h9⟩ := mx_eq_o (show mx_eq (mx_fX f) ci _ from h9)
          exact ⟨h9, fun _ => ⟨f, i, as', e1, e2, by rw [e3]⟩⟩
      obtain ⟨h, hrcv⟩ := hrc9 h
      generalize hmc : (mx_mt mi).2.2.1 = mc at h body hms0
      generalize hms : (mx_mt mi).2.2.2.1 = ms at h body hms0
      cases mc with
      | zero =>
        have hms1 := hms0 rfl
        subst hms1
        exact body h ⟨hu.1, hu.2⟩ hrcv
      | succ mc =>
        obtain ⟨b1, b2, h⟩ := mx_bg_o (show mx_bg (u.1 + (mc + 1)) (u.2 + ms) M _ from h)
        exact body h ⟨Nat.le_trans b1 hR.1, Nat.le_trans b2 hR.2⟩ hrcv
  · cases hiv
end
