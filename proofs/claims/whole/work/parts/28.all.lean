section
variable {p : Program} {l : Launch} {e : Env} {R : Room} {s0 : State} {m : MethodId} {args : Array Value} {below : List Frame} {meth : Method} {c : Code} {Q : State → Prop} {D : va_G} {ca : Nat → ClassId} {bs maxL : Nat} {L : mLV} {S : List mAV} {s : mSt} {u : Nat × Nat}
set_option maxHeartbeats 4000000 in
theorem mx_invx_ok {scr : mSc} {cal : Nat → List mAV → mSt → mPo → (Nat → mSt → Prop) → Prop} {M : mMt} {ex : Nat → mSt → Prop} {k : List mEn → mLV → List mAV → mSt → Nat × Nat → Prop} {es : List mEn} {own : String} {cc : ByteArray} {pc : Nat} {ins : Instr} {aux : List Nat}
    (hx : p.tables.exec = Jvm.exec) (hb : c.code = cc) (hml : c.maxLocals = maxL) (hown : s0.vm.findClass own = some m.cls) (hts : ∀ w ∈ wg, w.before args s0 = true) (hV : mx_VM D ca s0) (hX : va_X scr.1 scr.2.1 scr.2.2 s0 s0.heap) (hXb : scr.1 < bs) (hbs : bs ≤ s0.heap.size) (hXT : xt_T bs s0) (hR : M.2.2.1 ≤ R.cells ∧ M.2.2.2.1 ≤ R.slots)
    (hMs : ∀ mi, mi < mx_nM → mx_okM mi = true) (hcal : mx_CalA l R true D ca bs scr cal) (hrows : M.2.2.2.2.1 = [] ∨ xt_Rw own c.exceptionTable.toList M.2.2.2.2.1)
    (hlv : ∀ kk u' (x : Addr) (T' : State) (lcs1 : List Loc) (k1 n1 : Nat) (g : JFrame), M.2.2.2.2.2 = true → g.method = m → g.locked = none → g.entered = [] → ex kk u' → mx_WS true D ca bs scr u' T' → mx_Ex kk x T' → va_S (fun q => bs ≤ q) s0.heap T'.heap lcs1 → k1 ≤ R.cells ∧ n1 ≤ R.slots → Stand p l e R s0 m args below meth c T' lcs1 k1 n1 → ∃ t, Steps p.tables e below ((T'.setTop g).pushFrame (.throwing x)) t ∧ Q t)
    (hd : decode cc pc = .ok (ins, 3)) (hiv : mx_iv own ins aux = true) (hnx : ∀ e' r, es = e' :: r → e'.1 = pc + 3) (hsf : mx_Sf M.1 es)
    (hk : ∀ es L S s u, k es L S s u → mx_Sf M.1 es → ∀ pc, (∀ e r, es = e :: r → e.1 = pc) → mx_GA p l e R s0 m args below meth c Q true D ca bs maxL pc L S s u)
    (hn0 : aux.getD 7 0 = 0) (hni : ∀ n, ¬ ins = .invokespecial n)
    (h : mx_inv true cal M ex aux es L S s u k pc) : mx_GA p l e R s0 m args below meth c Q true D ca bs maxL pc L S s u := by
  unfold mx_iv at hiv
  split at hiv
  · rename_i mi np rk th mc ms rc nest w r
    obtain rfl : nest = 0 := hn0
    obtain ⟨g1, g2⟩ := Bool.and_eq_true_iff.mp hiv
    obtain ⟨g2, g3⟩ := Bool.and_eq_true_iff.mp g2
    obtain ⟨hmi, rfl, rfl, hms0⟩ := of_decide_eq_true g1
    have hok := hMs mi hmi
    obtain ⟨o1, o2, o3, o4, o5, o6, o7, o8⟩ := mx_okM_o hok
    unfold mx_inv at h
    dsimp only at h
    cases hp : mx_pop np [] S with
    | none =>
      rw [hp] at h
      exact False.elim h
    | some q =>
      obtain ⟨as, S'⟩ := q
      rw [hp] at h
      obtain ⟨P, hP1, hP2, hP3⟩ := mx_pop_o hp
      rw [List.append_nil] at hP1
      subst hP1
      subst hP2
      obtain ⟨hw8, h⟩ := mx_eq_o (show mx_eq (Nat.ble (mx_wt S') 8).toNat 1 _ from h)
      have hw8 : mx_wt S' ≤ 8 := Nat.le_of_ble_eq_true (by cases hb9 : Nat.ble (mx_wt S') 8 with
        | true => rfl
        | false => rw [hb9] at hw8; cases hw8)
      intro H lcs ls hW hS hl hL hO hu hz
      have hOa : mx_oS s as := fun v hv => hO v (List.mem_append_left _ (List.mem_reverse.mpr hv))
      have hOs : mx_oS s S' := fun v hv => hO v (List.mem_append_right _ hv)
      have body : ∀ (hc : cal mi as s (mx_kr rk S' (fun S t => mx_kc true s (mx_mt mi).2.2.1 (fun t => k es L S t (u.1 + (mx_mt mi).2.2.1, u.2 + (mx_mt mi).2.2.2.1)) t)) (mx_xs M ex th pc (fun h a s => k (mx_jp M.1 h) L [.inr (.inr (.inr a))] s (u.1 + (mx_mt mi).2.2.1, u.2 + (mx_mt mi).2.2.2.1)))), u.1 + (mx_mt mi).2.2.1 ≤ R.cells ∧ u.2 + (mx_mt mi).2.2.2.1 ≤ R.slots →
          (rc ≠ 0 → ∃ f i as', as = .inr (.inr (.inl (f, i))) :: as' ∧ mx_fK f = 0 ∧ mx_fX f + 1 = rc) → W p l e R s0 m args below meth c H lcs u.1 u.2 Q (F0 m pc ls ((as.reverse ++ S').map (mx_vv bs))) := fun hc hbud hrcv => by
        intro T hT X
        cases ins with
        | invokevirtual n =>
          obtain ⟨k1, k2⟩ := Bool.and_eq_true_iff.mp g3
          obtain ⟨k2, k3⟩ := Bool.and_eq_true_iff.mp k2
          obtain ⟨k4, k5⟩ := of_decide_eq_true k1
          cases rc with
          | zero => cases k2
          | succ ci =>
            obtain ⟨f, i, as', rfl, hf0, hf1⟩ := hrcv (Nat.succ_ne_zero _)
            obtain rfl : mx_fX f = ci := Nat.succ.inj hf1
            obtain ⟨w1, w2⟩ := o6 k4
            have w1 := mx_wd_g w1 rfl
            have w2 := mx_wd_g w2 rfl
            have wl := mx_wd_g k3 rfl
            have hokv := mx_oS_h hOa
            have k2 : decide ((cls[mx_fX f]?).map (fun q => q.1) = some (mx_y mi).cls) = true := k2
            cases hcl : cls[mx_fX f]? with
            | none =>
              rw [hcl] at k2
              cases (of_decide_eq_true k2)
            | some q =>
              rw [hcl] at k2
              have hqc : q.1 = (mx_y mi).cls := Option.some.inj (of_decide_eq_true k2)
              obtain ⟨cellB, hcB, hoB, hclB⟩ := va_recv hV.1 hW.1 hcl ((mx_at hokv).trans (by rw [mx_enc0 hf0]))
              rw [hqc] at hclB
              obtain ⟨mk, methM, hnamed, hmethM, hstM, habM⟩ := Cond.instanceMethod_spec (hts _ w1)
              obtain ⟨c2, r2, m2, q1, q2, q3, q4, kP, hkP, hkPi⟩ := Cond.selects_spec (hts _ w2)
              cases hclB.symm.trans q1
              cases (State.methodFound?_of_named hnamed ⟨o3.1, o3.2.1⟩).symm.trans q2
              cases hnamed.symm.trans q3
              have hselP : selectMethod e.platform s0.vm cellB.cls mk = .method mk := by rw [Launch.admits_selectMethod X.admits]; exact q4
              obtain ⟨mk', methY, cY, hn', hmY, -, -, hsig⟩ := xt_meth (hts _ (xt_cwg hok))
              cases hnamed.symm.trans hn'
              cases hmethM.symm.trans hmY
              have hlen : (as'.map (mx_vv bs)).length = methM.sig.parameters.length := by
                have h8 := o3.2.2
                rw [hsig] at h8
                rw [List.length_map]
                have h9 : as'.length + 1 = np := hP3
                have h7 : methM.sig.parameters.length = mx_mw mi 1 := Option.some.inj h8
                omega
              have hstk : (F0 m pc ls (((Sum.inr (Sum.inr (Sum.inl (f, i))) :: as').reverse ++ S').map (mx_vv bs))).stack = (as'.map (mx_vv bs)).reverse ++ .ref (bs + mx_num f i) :: S'.map (mx_vv bs) := by
                simp [mx_vv]
              obtain ⟨vm₁, X₁, hstep₁⟩ := X.invokevirtual hx hown (hts _ wl) hnamed hmethM hstM hkP hkPi ⟨o3.1, o3.2.1⟩ (a := bs + mx_num f i) (cell := cellB) (by rw [hT]; exact hcB) (fun z h => by rw [h] at hoB; cases hoB) hselP hmethM habM hkP hkPi (g := F0 m pc ls (((Sum.inr (Sum.inr (Sum.inl (f, i))) :: as').reverse ++ S').map (mx_vv bs))) rfl (argsL := as'.map (mx_vv bs)) (rest := S'.map (mx_vv bs)) hlen hstk (by rw [hb]; exact hd)
              obtain ⟨t, st, q⟩ := xt_call (T := T) hb hml hown hts hV hX hXb hbs hXT hok hmi hcal hrows hlv hd hnx hsf hk hc hbud hw8 hW hS hl hL hOa hOs hT X₁ hnamed
              exact ⟨t, hstep₁ _ (fun acts => by rw [doInvoke_state]; exact st), q⟩
        | invokestatic n =>
          obtain ⟨k1, k3⟩ := Bool.and_eq_true_iff.mp g3
          obtain ⟨k4, k5, k6⟩ := of_decide_eq_true k1
          have w1 := mx_wd_g (o7 k4) rfl
          have wl := mx_wd_g k3 rfl
          have wi := mx_wd_g o2 rfl
          obtain ⟨mk, methM, cM, hnamed, hmethM, -, -, hsig⟩ := xt_meth (hts _ (xt_cwg hok))
          have hstatic : methM.isStatic = true := Cond.static_spec hnamed hmethM (hts _ w1)
          obtain ⟨kP, hkP, -⟩ := className_of_methodNamed hnamed
          have hinitP : kP.init = .initialized := Cond.initialized_spec (findClass_of_methodNamed hnamed) hkP (hts _ wi)
          have hlen : (as.map (mx_vv bs)).length = methM.sig.parameters.length := by
            have h8 := o3.2.2
            rw [hsig] at h8
            rw [List.length_map]
            have h7 : methM.sig.parameters.length = mx_mw mi 1 := Option.some.inj h8
            omega
          have hstk : (F0 m pc ls ((as.reverse ++ S').map (mx_vv bs))).stack = (as.map (mx_vv bs)).reverse ++ S'.map (mx_vv bs) := by
            simp
          obtain ⟨vm₁, X₁, hstep₁⟩ := X.invokestatic hx hown (hts _ wl) hnamed hmethM hstatic hkP hinitP ⟨o3.1, o3.2.1⟩ (g := F0 m pc ls ((as.reverse ++ S').map (mx_vv bs))) rfl (argsL := as.map (mx_vv bs)) (rest := S'.map (mx_vv bs)) hlen hstk (by rw [hb]; exact hd)
          obtain ⟨t, st, q⟩ := xt_call (T := T) hb hml hown hts hV hX hXb hbs hXT hok hmi hcal hrows hlv hd hnx hsf hk hc hbud hw8 hW hS hl hL hOa hOs hT X₁ hnamed
          exact ⟨t, hstep₁ _ (fun acts => by rw [doInvoke_state]; exact st), q⟩
        | invokespecial n => exact absurd rfl (hni n)
        | _ => cases g3
      have hrc9 : ∀ {P : Prop}, mx_rc rc as P → P ∧ (rc ≠ 0 → ∃ f i as', as = .inr (.inr (.inl (f, i))) :: as' ∧ mx_fK f = 0 ∧ mx_fX f + 1 = rc) := fun {P} h9 => by
        cases rc with
        | zero => exact ⟨h9, fun h => absurd rfl h⟩
        | succ ci =>
          obtain ⟨f, i, as', e1, h9⟩ := mx_rf_o (show mx_rf as _ from h9)
          obtain ⟨e2, h9⟩ := mx_eq_o (show mx_eq (mx_fK f) 0 _ from h9)
          obtain ⟨e3, h9⟩ := mx_eq_o (show mx_eq (mx_fX f) ci _ from h9)
          exact ⟨h9, fun _ => ⟨f, i, as', e1, e2, by rw [e3]⟩⟩
      obtain ⟨h, hrcv⟩ := hrc9 h
      generalize hmc : (mx_mt mi).2.2.1 = mc at h body hms0
      generalize hms : (mx_mt mi).2.2.2.1 = ms at h body hms0
      cases mc with
      | zero =>
        have hms1 := hms0 rfl
        subst hms1
        exact body h ⟨hu.1, hu.2⟩ hrcv
      | succ mc =>
        obtain ⟨b1, b2, h⟩ := mx_bg_o (show mx_bg (u.1 + (mc + 1)) (u.2 + ms) M _ from h)
        exact body h ⟨Nat.le_trans b1 hR.1, Nat.le_trans b2 hR.2⟩ hrcv
  · cases hiv
end
