theorem xt_meth {mi : Nat} {args : Array Value} {s : State} (h : (mx_cw mi).before args s = true) : ∃ mk methY cY, s.methodNamed? (mx_y mi) = some mk ∧ s.vm.method? mk = some methY ∧ methY.code = some cY ∧ cY.maxLocals = mx_mL mi ∧ parseMethodDescriptor (mx_y mi).desc = some methY.sig := by
  unfold mx_cw at h
  split at h
  · obtain ⟨mk, hn⟩ := Cond.code_named h
    obtain ⟨methY, cY, h1, h2, -, h4, -, -, -, h8⟩ := Cond.code_spec hn h
    exact ⟨mk, methY, cY, hn, h1, h2, h4, h8⟩
  · obtain ⟨mk, methY, cY, hn, h1, h2, -, h4, -, -, -, h8⟩ := Cond.codeWith_spec h
    exact ⟨mk, methY, cY, hn, h1, h2, h4, h8⟩
theorem xt_cwg {mi : Nat} (h : mx_okM mi = true) : mx_cw mi ∈ wg := by
  refine wg_in (mx_okM_o h).1 ?_
  unfold mx_cw
  split <;> rfl
def mx_CalA (l : Launch) (R : Room) (md : Bool) (D : va_G) (ca : Nat → ClassId) (bs : Nat) (scr : mSc) (cal : Nat → List mAV → mSt → mPo → (Nat → mSt → Prop) → Prop) : Prop := ∀ mi as s post ex, mi < mx_nM → mx_oS s as → cal mi as s post ex → ∃ d, mx_CT l md D ca bs scr d mi as s post ex ∧ d + 9 ≤ R.frames ∧ 40 * d + 240 ≤ R.locals
section
variable {p : Program} {l : Launch} {e : Env} {R : Room} {s0 : State} {m : MethodId} {args : Array Value} {below : List Frame} {meth : Method} {c : Code} {Q : State → Prop} {D : va_G} {ca : Nat → ClassId} {bs maxL : Nat} {L : mLV} {S : List mAV} {s : mSt} {u : Nat × Nat}
theorem xt_wsAt {mi : Nat} {U : State} {a' : Array Value} (hok : mx_okM mi = true) (hts : ∀ w ∈ wg, w.before args s0 = true) (hW : s0.WarmedH U.vm) : ∀ w ∈ mx_cw mi :: wg, w.before a' U = true := by
  intro w hw
  have h9 : w ∈ wg := by
    rcases List.mem_cons.mp hw with rfl | hw
    · exact xt_cwg hok
    · exact hw
  exact word_at hW (wg_ok h9) (hts w h9)
set_option maxHeartbeats 4000000 in
theorem xt_call {scr : mSc} {cal : Nat → List mAV → mSt → mPo → (Nat → mSt → Prop) → Prop} {M : mMt} {ex : Nat → mSt → Prop} {k : List mEn → mLV → List mAV → mSt → Nat × Nat → Prop} {es : List mEn} {own : String} {cc : ByteArray} {pc mi rk th : Nat} {as S' : List mAV} {ig : Instr} {H : Heap} {lcs : List Loc} {ls : Array Slot} {T : State} {vm₁ : Vm} {mk : MethodId}
    (hb : c.code = cc) (hml : c.maxLocals = maxL) (hown : s0.vm.findClass own = some m.cls) (hts : ∀ w ∈ wg, w.before args s0 = true) (hV : mx_VM D ca s0) (hX : va_X scr.1 scr.2.1 scr.2.2 s0 s0.heap) (hXb : scr.1 < bs) (hbs : bs ≤ s0.heap.size) (hXT : xt_T bs s0)
    (hok : mx_okM mi = true) (hmi : mi < mx_nM) (hcal : mx_CalA l R true D ca bs scr cal) (hrows : M.2.2.2.2.1 = [] ∨ xt_Rw own c.exceptionTable.toList M.2.2.2.2.1)
    (hlv : ∀ kk u' (x : Addr) (T' : State) (lcs1 : List Loc) (k1 n1 : Nat) (g : JFrame), M.2.2.2.2.2 = true → g.method = m → g.locked = none → g.entered = [] → ex kk u' → mx_WS true D ca bs scr u' T' → mx_Ex kk x T' → va_S (fun q => bs ≤ q) s0.heap T'.heap lcs1 → k1 ≤ R.cells ∧ n1 ≤ R.slots → Stand p l e R s0 m args below meth c T' lcs1 k1 n1 → ∃ t, Steps p.tables e below ((T'.setTop g).pushFrame (.throwing x)) t ∧ Q t)
    (hd : decode cc pc = .ok (ig, 3)) (hnx : ∀ e' r, es = e' :: r → e'.1 = pc + 3) (hsf : mx_Sf M.1 es)
    (hk : ∀ es L S s u, k es L S s u → mx_Sf M.1 es → ∀ pc, (∀ e r, es = e :: r → e.1 = pc) → mx_GA p l e R s0 m args below meth c Q true D ca bs maxL pc L S s u)
    (hc : cal mi as s (mx_kr rk S' (fun S t => mx_kc true s (mx_mt mi).2.2.1 (fun t => k es L S t (u.1 + (mx_mt mi).2.2.1, u.2 + (mx_mt mi).2.2.2.1)) t)) (mx_xs M ex th pc (fun h a s => k (mx_jp M.1 h) L [.inr (.inr (.inr a))] s (u.1 + (mx_mt mi).2.2.1, u.2 + (mx_mt mi).2.2.2.1))))
    (hbud : u.1 + (mx_mt mi).2.2.1 ≤ R.cells ∧ u.2 + (mx_mt mi).2.2.2.1 ≤ R.slots) (hw8 : mx_wt S' ≤ 8)
    (hW : mx_WH true D ca bs s H) (hS : va_S (fun q => bs ≤ q) s0.heap H lcs) (hl : lv_has ls maxL (mx_VL bs L)) (hL : mx_oL s L) (hOa : mx_oS s as) (hOs : mx_oS s S')
    (hT : T.heap = H) (X : Stand p l e R s0 m args below meth c (T.setVm vm₁) lcs u.1 u.2) (hn : s0.methodNamed? (mx_y mi) = some mk) :
    ∃ t, Steps p.tables e below (doInvoke e ((T.setVm vm₁).setTop (F0 m pc ls (S'.map (mx_vv bs)))) [] mk (as.map (mx_vv bs)).toArray).1 t ∧ Q t := by
  obtain ⟨d, hCT, hd1, hd2⟩ := hcal mi as s _ _ hmi hOa hc
  obtain ⟨o1, o2, o3, o4, o5, -⟩ := mx_okM_o hok
  have hwsU := fun (a' : Array Value) => xt_wsAt (mi := mi) (U := T.setVm vm₁) (a' := a') hok hts X.warmed
  obtain ⟨mk', methY, cY, hn', hmY, hcY, hmax, -⟩ := xt_meth (hwsU #[] _ List.mem_cons_self)
  have hnU := X.named hn
  cases hnU.symm.trans hn'
  obtain ⟨kY, hkY, -⟩ := className_of_methodNamed hnU
  have hini : kY.init = .initialized := Cond.initialized_spec (args := #[]) (findClass_of_methodNamed hnU) hkY (hwsU #[] _ (List.mem_cons_of_mem _ (mx_wd_g o2 rfl)))
  have hpre := mx_pre (av := as.map (mx_vv bs)) (md := true) hV hX hXb hbs hXT hW hS (fun h => Bool.noConfusion h) (T.setVm vm₁) hT X.warmed
  have hlo : 2 * (F0 m pc ls (S'.map (mx_vv bs))).monitorRoom + ((S'.map (mx_vv bs)).map fun v => v.category).sum + (cY.maxLocals + 11) + (mx_rm d mi).locals ≤ R.locals := by
    rw [mx_wt_o, hmax]
    show 2 * 0 + mx_wt S' + (mx_mL mi + 11) + (40 * d + 200) ≤ R.locals
    omega
  obtain ⟨o, t, T', L9, hL9, X', e1, e2, ⟨hq, hz, hkp⟩, hend⟩ := xt_go (show mx_Mx l (mx_y mi) (mx_cw mi :: wg) (mx_rm d mi) _ _ (mx_mt mi).2.2.1 (mx_mt mi).2.2.2.1 (fun q => bs ≤ q) from hCT) mx_blind rfl rfl (by show d + 8 + 1 ≤ R.frames; omega) X (g := F0 m pc ls (S'.map (mx_vv bs))) rfl (hl.1.trans hml.symm) (by rw [hb]; exact hd) hnU hmY hcY hlo hkY hini (hwsU _) hpre hbud
  have hz : H.size ≤ t.heap.size := by
    rw [← hT]
    exact hz
  have hkp : ∀ q, q < H.size → ¬ bs ≤ q → t.heap[q]? = H[q]? := fun q h1 h2 => by
    rw [← hT] at h1 ⊢
    exact hkp q h1 h2
  have hS1 : va_S (fun q => bs ≤ q) s0.heap t.heap (lcs ++ L9) := ⟨Nat.le_trans hS.1 hz, fun q h1 h2 => (hkp q (Nat.lt_of_lt_of_le h1 hS.1) h2).trans (hS.2.1 q h1 h2), fun q hq => by
    rcases List.mem_append.mp hq with h | h
    · exact hS.2.2 q h
    · exact hL9 q h⟩
  rcases hend with ⟨v, rfl, st⟩ | ⟨x, rfl, st⟩
  · have hv : mx_Qv true D ca bs scr (mx_kr rk S' (fun S t => mx_kc true s (mx_mt mi).2.2.1 (fun t => k es L S t (u.1 + (mx_mt mi).2.2.1, u.2 + (mx_mt mi).2.2.2.1)) t)) v t := by
      rcases hq with ⟨w, hw, hq⟩ | ⟨_, _, _, hw, -⟩
      · cases hw
        exact hq
      · cases hw
    obtain ⟨t2, a1, b1⟩ := mx_back hsf hnx hk hW hl hL hOs hbud (fun h => Bool.noConfusion h) hv hS1 T' e1 X'
    exact ⟨t2, st.trans a1, b1⟩
  · rcases hq with ⟨w, hw, -⟩ | ⟨kk, u', a, hw, hex, hWS, hEx⟩
    · cases hw
    · cases hw
      obtain ⟨hk3, cell, hcell, hobj, hfc⟩ := hEx
      have hWS' : mx_WS true D ca bs scr u' T' := by
        obtain ⟨q1, ⟨qK, qN, qR, qV⟩, q2, ⟨q3, q4⟩, q5, q6⟩ := hWS
        have hvm : t.vm = T'.vm := e2.symm
        have hal : t.vm.Alike T'.vm := by rw [hvm]; exact Vm.Alike.refl _
        have hwr : t.WarmedH T'.vm := by rw [← hvm]; exact State.WarmedH.refl t
        exact ⟨by rw [e1]; exact q1, ⟨va_K.moved hal qK, NW.same hvm qN, va_AO.moved hal qR, va_AO.moved hal qV⟩, by rw [e1]; exact q2, ⟨by rw [e1]; exact va_X.moved hal q3, q4⟩, fun h => Bool.noConfusion h, q6.moved hwr (fun q _ => by rw [e1])⟩
      have hex1 : mx_ex M ex pc kk (fun h a s => k (mx_jp M.1 h) L [.inr (.inr (.inr a))] s (u.1 + (mx_mt mi).2.2.1, u.2 + (mx_mt mi).2.2.2.1)) u' := by
        cases th with
        | zero => exact False.elim hex
        | succ th =>
          obtain ⟨x1, x2, x3⟩ := (show (kk = 1 → _) ∧ (kk = 2 → _) ∧ (kk = 3 → _) from hex)
          rcases hk3 with rfl | rfl | rfl
          · exact x1 rfl
          · exact x2 rfl
          · exact x3 rfl
      unfold mx_ex at hex1
      cases hh : mx_hd M.2.2.2.2.1 pc kk with
      | none =>
        rw [hh] at hex1
        cases hthr : M.2.2.2.2.2 with
        | false =>
          rw [hthr] at hex1
          exact False.elim hex1
        | true =>
          rw [hthr] at hex1
          have hEx' : mx_Ex kk x T' := ⟨hk3, cell, by rw [e1]; exact hcell, hobj, by rw [e2]; exact hfc⟩
          obtain ⟨t2, a1, b1⟩ := hlv kk u' x T' (lcs ++ L9) _ _ (F0 m pc ls (S'.map (mx_vv bs))) hthr rfl rfl rfl hex1 hWS' hEx' (by rw [e1]; exact hS1) hbud X'
          exact ⟨t2, st.trans a1, b1⟩
      | some h =>
        rw [hh] at hex1
        have hrows : xt_Rw own c.exceptionTable.toList M.2.2.2.2.1 := by
          rcases hrows with h0 | h0
          · rw [h0] at hh
            cases hh
          · exact h0
        have hkk := hex1 x
        have hpl : e.platform.magicAccessors = ({} : Platform).magicAccessors := by rw [X.admits.platform]
        have hal := X'.warmed.alike
        have hcl0 : s0.vm.findClass (xt_n kk) = some cell.cls := by
          rw [← hal.findClass, e2]
          exact hfc
        have hk0 : ∃ k, s0.vm.classes[cell.cls]? = some k := by
          obtain ⟨c1, kX, q1, q2, -⟩ := Cond.instantiable_spec (hts _ (xt_wk hk3).2.1)
          cases hcl0.symm.trans q1
          exact ⟨kX, q2⟩
        obtain ⟨vm2, hW2, hF⟩ := xt_find (e := e) (f := F0 m pc ls (S'.map (mx_vv bs))) (a := x) (own := own) hpl hown hts hXT hk3 hcl0 hobj hk0 _ _ h hrows hh ((T'.setTop (F0 m pc ls (S'.map (mx_vv bs)))).pushFrame (.throwing x)) X'.warmed (show T'.heap[x]? = some cell by rw [e1]; exact hcell)
        have X2 := X'.noted hW2
        have hGA := (hk _ _ _ _ _ hkk (mx_jp_sf _ _) _ mx_jp_hd) t.heap (lcs ++ L9) ls hWS.1 hS1 hl (fun q hq => mx_ok_le (by rw [(hW.2.2 rfl).1, (hWS.1.2.2 rfl).1]; exact Nat.le_refl _) (hL q hq)) (mx_oS_c trivial mx_oS_n) hbud (fun h => Bool.noConfusion h)
        obtain ⟨t2, a1, b1⟩ := hGA (T'.setVm vm2) e1 X2
        exact ⟨t2, st.trans (xt_into (meth := meth) X'.here X'.method' X'.code hF a1), b1⟩
end
