theorem mx_WS_same {md : Bool} {D : va_G} {ca : Nat → ClassId} {bs : Nat} {scr : mSc} {s : mSt} {t t' : State} (hh : t'.heap = t.heap) (hv : t'.vm = t.vm) (h : mx_WS md D ca bs scr s t) : mx_WS md D ca bs scr s t' := by
  obtain ⟨q1, ⟨qK, qN, qR, qV⟩, q2, ⟨q3, q4⟩, q5, q6⟩ := h
  have hal : t.vm.Alike t'.vm := by rw [hv]; exact Vm.Alike.refl _
  have hwr : t.WarmedH t'.vm := by rw [hv]; exact State.WarmedH.refl t
  exact ⟨by rw [hh]; exact q1, ⟨va_K.moved hal qK, NW.same hv.symm qN, va_AO.moved hal qR, va_AO.moved hal qV⟩, by rw [hh]; exact q2, ⟨by rw [hh]; exact va_X.moved hal q3, q4⟩, by rw [hh]; exact q5, q6.moved hwr (fun q _ => by rw [hh])⟩
def mx_xn1 : List mEn → Bool
  | (_, _, .new n, _, (_ + 1) :: kk :: _, _, _) :: (_, _, i1, _, _, _, _) :: (_, _, i2, _, _, _, _) :: (_, _, i3, _, _, _, _) :: _ => decide ((kk = 1 ∨ kk = 2 ∨ kk = 3) ∧ n = xt_c kk ∧ i1 = .dup ∧ i2 = .invokespecial (xt_i kk) ∧ i3 = .athrow)
  | (_, _, .new _, _, (_ + 1) :: _, _, _) :: _ => false
  | _ => true
def mx_xal : List mEn → Bool
  | [] => true
  | e :: es => mx_xn1 (e :: es) && mx_xal es
theorem mx_xal_o : ∀ {pre es : List mEn}, mx_xal (pre ++ es) = true → mx_xn1 es = true
  | [], [], _ => rfl
  | [], _ :: _, h => (Bool.and_eq_true_iff.mp h).1
  | _ :: pre, es, h => mx_xal_o (pre := pre) (Bool.and_eq_true_iff.mp h).2
def mx_hk (own : String) : List (Nat × Nat × Nat × Nat) → List (Nat × Nat × Nat × Nat) → List Nat → Bool
  | [], [], _ => true
  | (a, b, h, ct) :: r, (a', b', h', j) :: r', w :: ws => decide (a = a' ∧ b = b' ∧ h = h' ∧ ct ≠ 0 ∧ (j = 1 ∨ j = 2 ∨ j = 3)) && (mx_wd w (.classLink own ct (xt_n j)) && mx_hk own r r' ws)
  | _, _, _ => false
theorem mx_hk_o {own : String} : ∀ {rows : List ExceptionTableEntry} {hh hs : List (Nat × Nat × Nat × Nat)} {ws : List Nat}, rows.map (fun h => (h.startPc, h.endPc, h.handlerPc, h.catchType)) = hh → mx_hk own hh hs ws = true → xt_Rw own rows hs
  | [], [], [], _, _, _ => trivial
  | [], [], _ :: _, _, _, h => by cases h
  | [], _ :: _, _, _, h, _ => by cases h
  | _ :: _, [], _, _, h, _ => by cases h
  | x :: xs, y :: ys, [], _, _, h => by
    obtain ⟨a, b, c, d⟩ := y
    cases h
  | x :: xs, y :: ys, z :: zs, [], _, h => by
    obtain ⟨a, b, c, d⟩ := y
    obtain ⟨a', b', c', d'⟩ := z
    cases h
  | x :: xs, y :: ys, z :: zs, w :: ws, h1, h => by
    obtain ⟨a, b, c, d⟩ := y
    obtain ⟨a', b', c', d'⟩ := z
    obtain ⟨g1, g2⟩ := Bool.and_eq_true_iff.mp (show (decide (a = a' ∧ b = b' ∧ c = c' ∧ d ≠ 0 ∧ (d' = 1 ∨ d' = 2 ∨ d' = 3)) && (mx_wd w (.classLink own d (xt_n d')) && mx_hk own ys zs ws)) = true from h)
    obtain ⟨g2, g3⟩ := Bool.and_eq_true_iff.mp g2
    obtain ⟨e1, e2, e3, e4, e5⟩ := of_decide_eq_true g1
    have h1 : (x.startPc, x.endPc, x.handlerPc, x.catchType) :: xs.map (fun h => (h.startPc, h.endPc, h.handlerPc, h.catchType)) = (a, b, c, d) :: ys := h1
    obtain ⟨h2, h3⟩ := List.cons.inj h1
    cases h2
    exact ⟨e1, e2, e3, e4, e5, mx_wd_g g2 rfl, mx_hk_o h3 g3⟩
def mx_okX (mi : Nat) : Bool := mx_okC mi && (mx_xal (mx_mt mi).1 && (mx_hk (mx_y mi).cls (mx_hr mi) (mx_mt mi).2.2.2.2.1 (mx_hws.getD mi []) && ((!(mx_mt mi).2.2.2.2.2 || (decide ((mx_y mi).cls = R_Rs ∧ (mx_mt mi).2.2.2.2.1 = []))) && (mx_mt mi).1.all (fun e => match e.2.2.1 with
  | .invokevirtual _ => mx_pu (e.2.2.2.2.1.headD 0) || decide (e.2.2.2.2.1.getD 7 0 = 0)
  | .invokestatic _ => mx_pu (e.2.2.2.2.1.headD 0) || decide (e.2.2.2.2.1.getD 7 0 = 0)
  | .invokespecial _ => match e.2.2.2.2.1 with
    | [] => true
    | a :: _ => mx_pu a
  | _ => true))))
section
variable {p : Program} {l : Launch} {e : Env} {R : Room} {s0 : State} {m : MethodId} {args : Array Value} {below : List Frame} {meth : Method} {c : Code} {D : va_G} {ca : Nat → ClassId} {bs maxL : Nat} {L : mLV} {S : List mAV} {s : mSt} {u : Nat × Nat}
theorem mx_leave {scr : mSc} {M : mMt} {post : mPo} {ex : Nat → mSt → Prop} (hout : M.2.2.2.2.2 = true → c.exceptionTable.toList = []) (hlk : meth.locks = false) (hRe : R.cells = M.2.2.1 ∧ R.slots = M.2.2.2.1) :
    ∀ kk u' (x : Addr) (T' : State) (lcs1 : List Loc) (k1 n1 : Nat) (g : JFrame), M.2.2.2.2.2 = true → g.method = m → g.locked = none → g.entered = [] → ex kk u' → mx_WS true D ca bs scr u' T' → mx_Ex kk x T' → va_S (fun q => bs ≤ q) s0.heap T'.heap lcs1 → k1 ≤ R.cells ∧ n1 ≤ R.slots → Stand p l e R s0 m args below meth c T' lcs1 k1 n1 → ∃ t, Steps p.tables e below ((T'.setTop g).pushFrame (.throwing x)) t ∧ mx_MQ below (mx_Q true D ca bs scr post ex) args s0 M.2.2.1 M.2.2.2.1 (fun q => bs ≤ q) t := by
  intro kk u' x T' lcs1 k1 n1 g hthr hg hlc hen hex hWS hEx hS hle X
  obtain ⟨st, hrun, hend, hWm, hsame⟩ := X.leaveThrown x (g := g) hg hlc hen (fun y hy => by rw [hout hthr] at hy; cases hy) hlk
  rw [hRe.1, hRe.2] at hle
  refine ⟨_, st, .threw x, hrun, hend, ⟨Or.inr ⟨kk, u', x, rfl, hex, mx_WS_same (t := T') (t' := T'.setFrames (.throwing x :: below)) rfl rfl hWS, hEx⟩, hS.1, hS.2.1⟩, lcs1, ⟨hWm, hsame.mono hle.1 hle.2⟩, hS.2.2⟩
end
