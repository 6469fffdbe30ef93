def mx_y (mi : Nat) : MethodName := (mx_ys.getD mi (y_Lw_law, b_Lw_law, 0)).1
def mx_mL (mi : Nat) : Nat := (mx_ys.getD mi (y_Lw_law, b_Lw_law, 0)).2.2
theorem mx_mLs_eq : ∀ mi, mi < mx_nM → mx_mLs.getD mi 0 = mx_mL mi := by decide +kernel
def mx_mw (mi j : Nat) : Nat := (mx_mws.getD mi []).getD j 0
def mx_hr (mi : Nat) : List (Nat × Nat × Nat × Nat) := mx_hrs.getD mi []
def mx_bw : Cond → ByteArray
  | .code _ b _ _ => b
  | .codeWith _ b _ _ _ => b
  | _ => .empty
def mx_b (mi : Nat) : ByteArray := mx_bw (lw_tbl.getD (mx_mw mi 2) .tt)
def mx_cw (mi : Nat) : Cond := match mx_hr mi with
  | [] => .code (mx_y mi) (mx_b mi) (mx_mL mi) (mx_mt mi).2.1
  | a :: r => .codeWith (mx_y mi) (mx_b mi) (mx_mL mi) (mx_mt mi).2.1 (a :: r)
def mx_iv (own : String) (ins : Instr) (aux : List Nat) : Bool := match aux with
  | mi :: np :: rk :: th :: mc :: ms :: rc :: nest :: w :: _ => decide (mi < mx_nM ∧ (mx_mt mi).2.2.1 = mc ∧ (mx_mt mi).2.2.2.1 = ms ∧ (mc = 0 → ms = 0)) && ((match th, (mx_mt mi).2.2.2.2.2 with
    | 0, false => true
    | _ + 1, true => true
    | _, _ => false) && ((match ins with
    | .invokevirtual n => decide (mx_mw mi 0 = 0 ∧ np = mx_mw mi 1 + 1) && ((match rc with
      | 0 => false
      | c + 1 => decide ((cls[c]?).map (fun q => q.1) = some (mx_y mi).cls)) && (match nest with
      | 0 => mx_wd w (.methodLink own n (mx_y mi))
      | _ + 1 => mx_wd w (.methodLinkNest own n (mx_y mi) R_Rs)))
    | .invokestatic n => decide (mx_mw mi 0 = 1 ∧ np = mx_mw mi 1 ∧ rc = 0) && (match nest with
      | 0 => mx_wd w (.methodLink own n (mx_y mi))
      | _ + 1 => mx_wd w (.methodLinkNest own n (mx_y mi) R_Rs))
    | .invokespecial n => decide (mx_mw mi 0 = 2 ∧ np = mx_mw mi 1 + 1 ∧ ¬ rc = 0) && (match nest with
      | 0 => mx_wd w (.methodLink own n (mx_y mi))
      | _ + 1 => mx_wd w (.methodLinkNest own n (mx_y mi) R_Rs))
    | _ => false)))
  | _ => false
def mx_cz (w : Cond) (y : MethodName) (n : Nat) (r : Option FieldType) (hh : List (Nat × Nat × Nat × Nat)) : Bool := match w, hh with
  | .code y' _ n' r', [] => decide (y' = y ∧ n' = n ∧ r' = r)
  | .codeWith y' _ n' r' hh', a :: t => decide (y' = y ∧ n' = n ∧ r' = r ∧ hh' = a :: t)
  | _, _ => false
theorem mx_cz_o {mi : Nat} (h : mx_cz (lw_tbl.getD (mx_mw mi 2) .tt) (mx_y mi) (mx_mL mi) (mx_mt mi).2.1 (mx_hr mi) = true) : mx_cw mi ∈ lw_tbl := by
  have e1 : lw_tbl.getD (mx_mw mi 2) .tt = mx_cw mi := by
    unfold mx_cw mx_b
    generalize lw_tbl.getD (mx_mw mi 2) .tt = w at h
    generalize mx_hr mi = hh at h
    unfold mx_cz at h
    split at h
    · obtain ⟨rfl, rfl, rfl⟩ := of_decide_eq_true h
      rfl
    · obtain ⟨rfl, rfl, rfl, rfl⟩ := of_decide_eq_true h
      rfl
    · cases h
  have e2 : ¬ mx_cw mi = .tt := by
    unfold mx_cw
    split
    · exact fun h => by cases h
    · exact fun h => by cases h
  rw [List.getD_eq_getElem?_getD] at e1
  cases h9 : lw_tbl[mx_mw mi 2]? with
  | none =>
    rw [h9] at e1
    exact absurd e1.symm e2
  | some w =>
    rw [h9] at e1
    have e1 : w = mx_cw mi := e1
    rw [e1] at h9
    exact List.mem_of_getElem? h9
def mx_okM (mi : Nat) : Bool := mx_cz (lw_tbl.getD (mx_mw mi 2) .tt) (mx_y mi) (mx_mL mi) (mx_mt mi).2.1 (mx_hr mi) && (mx_wd (mx_mw mi 3) (.initialized (mx_y mi).cls) && (decide ((mx_y mi).cls ≠ "java/lang/invoke/MethodHandle" ∧ (mx_y mi).cls ≠ "java/lang/invoke/VarHandle" ∧ (parseMethodDescriptor (mx_y mi).desc).map (fun d => d.parameters.length) = some (mx_mw mi 1)) && (decide (mx_mL mi ≤ 21) && (plainFor (mx_y mi) && (match mx_mw mi 0 with
  | 0 => mx_wd (mx_mw mi 4) (.instanceMethod (mx_y mi)) && mx_wd (mx_mw mi 5) (.selects (mx_y mi).cls (mx_y mi) (mx_y mi))
  | 1 => mx_wd (mx_mw mi 4) (.static (mx_y mi))
  | _ => mx_wd (mx_mw mi 4) (.instanceMethod (mx_y mi)) && decide ((mx_y mi).name = "<init>" ∧ (mx_mt mi).2.1 = none))))))
def mx_okC (mi : Nat) : Bool := mx_cns (mx_mt mi).1 && (decide (((mx_mt mi).1.head?.map fun e => e.1) = some 0) && (mx_mt mi).1.all (fun e => mx_okE (mx_y mi).cls (mx_y mi).name (mx_b mi) (mx_mL mi) e && (match e.2.2.1 with
  | .invokevirtual n => mx_iv (mx_y mi).cls (.invokevirtual n) e.2.2.2.2.1
  | .invokestatic n => mx_iv (mx_y mi).cls (.invokestatic n) e.2.2.2.2.1
  | .invokespecial n => match e.2.2.2.2.1 with
    | [] => true
    | a :: r => mx_iv (mx_y mi).cls (.invokespecial n) (a :: r)
  | _ => true)))
def mx_pu (mi : Nat) : Bool := match (mx_mt mi).2.2.2.2.2, mx_hr mi with
  | false, [] => true
  | _, _ => false
theorem mx_pu_o {mi : Nat} (h : mx_pu mi = true) : mx_hr mi = [] ∧ (mx_mt mi).2.2.2.2.2 = false := by
  unfold mx_pu at h
  split at h
  · rename_i h1 h2
    exact ⟨h2, h1⟩
  · cases h
def mx_Ex (kk a : Nat) (t : State) : Prop := (kk = 1 ∨ kk = 2 ∨ kk = 3) ∧ ∃ cell : Cell, t.heap[a]? = some cell ∧ (∀ k, cell.vm ≠ .statics k) ∧ t.vm.findClass (xt_n kk) = some cell.cls
def mx_Qv (md : Bool) (D : va_G) (ca : Nat → ClassId) (bs : Nat) (scr : mSc) (post : mPo) (v : Option Value) (t : State) : Prop :=
  (v = none ∧ ∃ u, post.1 u ∧ mx_WS md D ca bs scr u t) ∨ (∃ x u, v = some (.int x) ∧ post.2.1 x u ∧ mx_WS md D ca bs scr u t) ∨ ∃ f i u, v = some (.ref (bs + mx_num f i)) ∧ post.2.2 f i u ∧ mx_ok u (.inr (.inr (.inl (f, i)))) ∧ mx_WS md D ca bs scr u t
def mx_Q (md : Bool) (D : va_G) (ca : Nat → ClassId) (bs : Nat) (scr : mSc) (post : mPo) (ex : Nat → mSt → Prop) : Array Value → State → Outcome → State → Prop := fun _ st oc t =>
  ((∃ v, oc = .returned v ∧ mx_Qv md D ca bs scr post v t) ∨ ∃ kk u a, oc = .threw a ∧ ex kk u ∧ mx_WS md D ca bs scr u t ∧ mx_Ex kk a t) ∧ va_F (fun q => bs ≤ q) st t
def mx_Mx (l : Launch) (y : MethodName) (ws : List Cond) (rm : Room) (Pc : Array Value → State → Prop) (Qc : Array Value → State → Outcome → State → Prop) (mc ms : Nat) (free : Addr → Prop) : Prop :=
  Free.MetFree l y (headSpec ws rm) Pc (fun _ _ _ _ _ => True) (fun a st o t => Qc a st o t ∧ ∃ L, (st.WarmedH t.vm ∧ st.sameButNew ({ t with vm := st.vm } : State) L mc ms) ∧ ∀ q ∈ L, free q.base)
def mx_rm (d mi : Nat) : Room := { frames := d + 8, cells := (mx_mt mi).2.2.1, slots := (mx_mt mi).2.2.2.1, locals := 40 * d + 200 }
def mx_CT (l : Launch) (md : Bool) (D : va_G) (ca : Nat → ClassId) (bs : Nat) (scr : mSc) (d mi : Nat) (as : List mAV) (s : mSt) (post : mPo) (ex : Nat → mSt → Prop) : Prop :=
  mx_Mx l (mx_y mi) (mx_cw mi :: wg) (mx_rm d mi) (va_Pc (as.map (mx_vv bs)) (mx_WS md D ca bs scr s)) (mx_Q md D ca bs scr post ex) (mx_mt mi).2.2.1 (mx_mt mi).2.2.2.1 (fun q => bs ≤ q)
theorem mx_met {l : Launch} {y : MethodName} {ws : List Cond} {rm : Room} {Pc : Array Value → State → Prop} {mc ms : Nat} {free : Addr → Prop} {md : Bool} {D : va_G} {ca : Nat → ClassId} {bs : Nat} {scr : mSc} {post : mPo} (h : mx_Mx l y ws rm Pc (mx_Q md D ca bs scr post (fun _ _ => False)) mc ms free) : Met l y ws rm Pc (mx_Q md D ca bs scr post (fun _ _ => False)) mc ms free :=
  Free.MetFree.mono h (fun _ _ h => h) (fun _ _ _ _ _ h => h) (fun a s o t _ hq => by
    obtain ⟨hq, L, ⟨h1, h2⟩, hL⟩ := hq
    refine ⟨hq, L, ⟨?_, h1, h2⟩, hL⟩
    rcases hq.1 with ⟨v, hv, -⟩ | ⟨_, _, _, _, h, -⟩
    · exact ⟨v, hv⟩
    · exact h.elim)
theorem mx_blind {md : Bool} {D : va_G} {ca : Nat → ClassId} {bs : Nat} {scr : mSc} {av : List Value} {s : mSt} : FrameBlind (va_Pc av (mx_WS md D ca bs scr s)) := fun a U g mk q => by
  obtain ⟨q0, q1, ⟨qK, qN, qR, qV⟩, q2, ⟨q3, q4⟩, q5, q6⟩ := q
  exact ⟨q0, q1, ⟨va_K.moved (u := U) (U := U.calling g mk a) (Vm.Alike.refl U.vm) qK, NW.same (u := U) (U := U.calling g mk a) rfl qN, va_AO.moved (u := U) (U := U.calling g mk a) (Vm.Alike.refl U.vm) qR, va_AO.moved (u := U) (U := U.calling g mk a) (Vm.Alike.refl U.vm) qV⟩, q2, ⟨va_X.moved (u := U) (U := U.calling g mk a) (Vm.Alike.refl U.vm) q3, q4⟩, q5, xt_T.moved (u := U) (U := U.calling g mk a) (State.WarmedH.refl U) (fun _ _ => rfl) q6⟩
section
variable {p : Program} {l : Launch} {e : Env} {R : Room} {s0 : State} {m : MethodId} {args : Array Value} {below : List Frame} {meth : Method} {c : Code} {Q : State → Prop} {md : Bool} {D : va_G} {ca : Nat → ClassId} {bs maxL : Nat} {scr : mSc} {H : Heap} {lcs : List Loc} {cells slots mc ms : Nat}
theorem mx_pre {av : List Value} {s : mSt} (hV : mx_VM D ca s0) (hX : va_X scr.1 scr.2.1 scr.2.2 s0 s0.heap) (hXb : scr.1 < bs) (hbs : bs ≤ s0.heap.size) (hXT : xt_T bs s0) (hW : mx_WH md D ca bs s H) (hS : va_S (fun q => bs ≤ q) s0.heap H lcs) (hz : md = false → H.size = bs + s.2.2.2) : ∀ U : State, U.heap = H → s0.WarmedH U.vm → va_Pc av (mx_WS md D ca bs scr s) av.toArray U := fun U hU hWm => by
  refine ⟨rfl, by rw [hU]; exact hW, hV.moved hWm, by rw [hU]; exact Nat.le_trans hbs hS.1, ⟨?_, hXb⟩, by rw [hU]; exact hz, hXT.moved hWm (fun q hq => by rw [hU]; exact hS.2.1 q (Nat.lt_of_lt_of_le hq hbs) (Nat.not_le.mpr hq))⟩
  rw [hU]
  exact va_X.moved hWm.alike (hX.kept (hS.2.1 _ (Nat.lt_of_lt_of_le hXb hbs) (Nat.not_le.mpr hXb)))
theorem mx_szW {g : JFrame} (k : H.size ≤ s0.heap.size + cells → W p l e R s0 m args below meth c H lcs cells slots Q g) : W p l e R s0 m args below meth c H lcs cells slots Q g := fun T hT X => k (by rw [← hT]; exact X.heapSize) T hT X
theorem mx_call {post : mPo} {a : Array Value} {pc : Nat} {ls : Array Slot} {st0 rest : List Value} (hr : va_Run p l e R s0 m args below meth c H lcs cells slots mc ms (F0 m pc ls st0) rest (mx_Q md D ca bs scr post (fun _ _ => False) a) (fun q => bs ≤ q)) (hS : va_S (fun q => bs ≤ q) s0.heap H lcs)
    (kk : ∀ (v : Option Value) (t : State) (lcs1 : List Loc), mx_Qv md D ca bs scr post v t → va_S (fun q => bs ≤ q) s0.heap t.heap lcs1 → W p l e R s0 m args below meth c t.heap lcs1 (cells + mc) (slots + ms) Q (F0 m (pc + 3) ls (v.toList ++ rest))) : W p l e R s0 m args below meth c H lcs cells slots Q (F0 m pc ls st0) := by
  intro T hT X
  obtain ⟨v, st₀, t, T', L, h0, X', hL, e1, e2, ⟨hq, hz, hkp⟩, st⟩ := hr T hT X
  rw [h0] at hz hkp
  have hv : mx_Qv md D ca bs scr post v t := by
    rcases hq with ⟨w, hw, hq⟩ | ⟨_, _, _, hw, -⟩
    · cases hw
      exact hq
    · cases hw
  have hS1 : va_S (fun q => bs ≤ q) s0.heap t.heap (lcs ++ L) := ⟨Nat.le_trans hS.1 hz, fun q h1 h2 => (hkp q (Nat.lt_of_lt_of_le h1 hS.1) h2).trans (hS.2.1 q h1 h2), fun q hq => by
    rcases List.mem_append.mp hq with h | h
    · exact hS.2.2 q h
    · exact hL q h⟩
  obtain ⟨t2, a1, b1⟩ := kk v t (lcs ++ L) hv hS1 T' e1 X'
  exact ⟨t2, st t2 a1, b1⟩
end
