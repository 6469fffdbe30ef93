def xt_Fd (e : Env) (s : State) (f : JFrame) (a : Addr) (rows : List ExceptionTableEntry) (h : Handler) (vm' : Vm) : Prop := ∀ (Q : Handler → Pre) (E : CtlPost) (d : Bool) (acts : List Action), wp (findHandler.go f a rows) Q E e d acts s ↔ Q h d acts (s.setVm vm')
theorem xt_row {e : Env} {s : State} {f : JFrame} {a : Addr} {x : ExceptionTableEntry} {t : List ExceptionTableEntry} {c : ClassId} {cell : Cell} {Q : Handler → Pre} {E : CtlPost} {d : Bool} {acts : List Action} (hx : covers x f.pc = true) (h0 : x.catchType ≠ 0)
    (hl : s.vm.ClassLinks e.platform f.method.cls x.catchType c) (hcell : s.heap[a]? = some cell) (hobj : ∀ k, cell.vm ≠ .statics k) (hk : ∃ k, s.vm.classes[cell.cls]? = some k) (hc : ∃ k, s.vm.classes[c]? = some k) :
    wp (findHandler.go f a (x :: t)) Q E e d acts s ↔ if s.vm.assignable cell.cls c = true then Q (.found x.handlerPc) d acts (s.setVm (s.vm.noted f.method.cls x.catchType (.cls c))) else wp (findHandler.go f a t) Q E e d acts (s.setVm (s.vm.noted f.method.cls x.catchType (.cls c))) := by
  have hal : s.vm.Alike (s.vm.noted f.method.cls x.catchType (.cls c)) := (Vm.Alike.refl s.vm).noted _ _ _
  obtain ⟨k1, hk1⟩ := hk
  obtain ⟨k2, hk2⟩ := hc
  obtain ⟨j1, hj1, -⟩ := hal.2.2 _ _ hk1
  obtain ⟨j2, hj2, -⟩ := hal.2.2 _ _ hk2
  have has := hal.assignable cell.cls c
  obtain ⟨r1, r2⟩ := (resolveClass_links e.toSetting hl).op (op := VmOp.resolveClass f.method.cls x.catchType) rfl
  simp only [covers] at hx
  by_cases hb : s.vm.assignable cell.cls c = true
  · rw [if_pos hb]
    rw [hb] at has
    simp [findHandler.go, hx, h0, r1, r2, hcell, hobj, hj1, hj2, has, VmOp.dirties, VmOp.acts]
  · rw [if_neg hb]
    rw [Bool.eq_false_iff.mpr hb] at has
    simp [findHandler.go, hx, h0, r1, r2, hcell, hobj, hj1, hj2, has, VmOp.dirties, VmOp.acts]
def xt_Rw (own : String) : List ExceptionTableEntry → List (Nat × Nat × Nat × Nat) → Prop
  | [], [] => True
  | x :: xs, (a, b, h, j) :: hs => x.startPc = a ∧ x.endPc = b ∧ x.handlerPc = h ∧ x.catchType ≠ 0 ∧ (j = 1 ∨ j = 2 ∨ j = 3) ∧ Cond.classLink own x.catchType (xt_n j) ∈ wg ∧ xt_Rw own xs hs
  | _, _ => False
theorem xt_find {e : Env} {s0 : State} {args : Array Value} {f : JFrame} {a : Addr} {cell : Cell} {own : String} {bs kk : Nat} (hpl : e.platform.magicAccessors = ({} : Platform).magicAccessors) (hown : s0.vm.findClass own = some f.method.cls) (hts : ∀ w ∈ wg, w.before args s0 = true) (hXT : xt_T bs s0) (hk : kk = 1 ∨ kk = 2 ∨ kk = 3) (hcl : s0.vm.findClass (xt_n kk) = some cell.cls) (hobj : ∀ k, cell.vm ≠ .statics k) (hk0 : ∃ k, s0.vm.classes[cell.cls]? = some k) :
    ∀ (rows : List ExceptionTableEntry) (hs : List (Nat × Nat × Nat × Nat)) (h : Nat), xt_Rw own rows hs → mx_hd hs f.pc kk = some h → ∀ S : State, s0.WarmedH S.vm → S.heap[a]? = some cell → ∃ vm', s0.WarmedH vm' ∧ xt_Fd e S f a rows (.found h) vm' := by
  intro rows
  induction rows with
  | nil =>
    intro hs h hR hh
    cases hs with
    | nil => cases hh
    | cons y ys => exact False.elim hR
  | cons x xs ih =>
    intro hs h hR hh S hW hcell
    cases hs with
    | nil => exact False.elim hR
    | cons y ys =>
      obtain ⟨ya, yb, yh, yj⟩ := y
      obtain ⟨r1, r2, r3, r4, r5, r6, r7⟩ := (show x.startPc = ya ∧ x.endPc = yb ∧ x.handlerPc = yh ∧ x.catchType ≠ 0 ∧ (yj = 1 ∨ yj = 2 ∨ yj = 3) ∧ Cond.classLink own x.catchType (xt_n yj) ∈ wg ∧ xt_Rw own xs ys from hR)
      unfold mx_hd at hh
      by_cases hcov : covers x f.pc = true
      · obtain ⟨c', hc', hl⟩ := Cond.classLink_spec hown (hts _ r6) e.platform hpl
        obtain ⟨dk, _, _, kt, hd, _, _, _, _, hkt, _, hopen⟩ := hl.here
        have hW1 := hW.noted hd hopen (State.rightAt_cls hl)
        obtain ⟨k0, hk0⟩ := hk0
        obtain ⟨k0', hk0', -⟩ := hW.alike.2.2 _ _ hk0
        obtain ⟨kt', hkt', -⟩ := hW.alike.2.2 _ _ hkt
        have has : S.vm.assignable cell.cls c' = decide (yj = kk) := by
          rw [hW.alike.assignable]
          exact xt_asg hXT r5 hk hc' hcl
        have hcv : (Nat.ble ya f.pc && (Nat.blt f.pc yb && Nat.beq yj kk)) = decide (yj = kk) := by
          simp only [covers, Bool.and_eq_true, decide_eq_true_eq] at hcov
          rw [r1, r2] at hcov
          have g1 : Nat.ble ya f.pc = true := Nat.ble_eq.mpr hcov.1
          have g2 : Nat.blt f.pc yb = true := Nat.ble_eq.mpr hcov.2
          rw [g1, g2]
          cases hb : Nat.beq yj kk with
          | true => simp [Nat.eq_of_beq_eq_true hb]
          | false => simp [Nat.ne_of_beq_eq_false hb]
        rw [hcv] at hh
        by_cases hj : yj = kk
        · rw [decide_eq_true hj] at hh has
          cases hh
          exact ⟨_, hW1, fun Q E d acts => by
            rw [xt_row hcov r4 (hW.classLinks hl) hcell hobj ⟨k0', hk0'⟩ ⟨kt', hkt'⟩, if_pos has, r3]⟩
        · rw [decide_eq_false hj] at hh has
          obtain ⟨vm', hW', hF⟩ := ih ys h r7 hh (S.setVm (S.vm.noted f.method.cls x.catchType (.cls c'))) hW1 hcell
          exact ⟨vm', hW', fun Q E d acts => by
            rw [xt_row hcov r4 (hW.classLinks hl) hcell hobj ⟨k0', hk0'⟩ ⟨kt', hkt'⟩, if_neg (by rw [has]; decide)]
            exact hF Q E d acts⟩
      · have hcov0 : covers x f.pc = false := Bool.eq_false_iff.mpr hcov
        have hcv : (Nat.ble ya f.pc && (Nat.blt f.pc yb && Nat.beq yj kk)) = false := by
          cases hb : (Nat.ble ya f.pc && (Nat.blt f.pc yb && Nat.beq yj kk)) with
          | false => rfl
          | true =>
            obtain ⟨g1, g2⟩ := Bool.and_eq_true_iff.mp hb
            obtain ⟨g2, g3⟩ := Bool.and_eq_true_iff.mp g2
            exact absurd (by
              simp only [covers, Bool.and_eq_true, decide_eq_true_eq]
              rw [r1, r2]
              exact ⟨Nat.ble_eq.mp g1, Nat.ble_eq.mp g2⟩) hcov
        rw [hcv] at hh
        obtain ⟨vm', hW', hF⟩ := ih ys h r7 hh S hW hcell
        exact ⟨vm', hW', fun Q E d acts => by
          rw [W.findHandler_go_skip hcov0]
          exact hF Q E d acts⟩
theorem xt_sfv (u : State) (vm' : Vm) (F G : List Frame) : ((u.setFrames F).setVm vm').setFrames G = (u.setVm vm').setFrames G := by
  show ((u.setVm vm').setFrames F).setFrames G = _
  rw [State.setFrames_setFrames]
theorem xt_into {tb : Tables} {e : Env} {s target : State} {g : JFrame} {c : Code} {below : List Frame} {a : Addr} (h : At s g.method c below) {pc : Nat} {vm' : Vm} {meth : Method} (hm : s.vm.method? g.method = some meth) (hc : meth.code = some c)
    (hfind : xt_Fd e ((s.setTop g).pushFrame (.throwing a)) g a c.exceptionTable.toList (.found pc) vm') (hrest : Steps tb e below ((s.setVm vm').setTop { g with pc := pc, stack := [.ref a] }) target) :
    Steps tb e below ((s.setTop g).pushFrame (.throwing a)) target := by
  obtain ⟨hgo, hw⟩ := h.throwing a
  obtain ⟨g₀, hg⟩ := Option.isSome_iff_exists.mp h.top
  obtain ⟨r, hr⟩ := State.topJava?_eq_some.mp hg
  have hfr := frames_entered h.top (.throwing a : Frame) (g := g)
  have hst : (stepThrowing e ((s.setTop g).pushFrame (.throwing a)) a (.java g :: s.frames.tail)).1 = (((s.setTop g).pushFrame (.throwing a)).setVm vm').setFrames (.java { g with pc := pc, stack := [.ref a] } :: s.frames.tail) := by
    have hf9 : ∀ (Q : Handler → Pre) (E : CtlPost) (d : Bool) (acts : List Action), wp (findHandler g a) Q E e d acts ((s.setTop g).pushFrame (.throwing a)) ↔ Q (.found pc) d acts (((s.setTop g).pushFrame (.throwing a)).setVm vm') := fun Q E d acts => by
      rw [W.findHandler_eq (s := (s.setTop g).pushFrame (.throwing a)) (meth := meth) (code := c) hm hc]
      exact hfind Q E d acts
    generalize (s.setTop g).pushFrame (.throwing a) = S at hf9
    simp only [stepThrowing, searchFrame, vmDo]
    generalize hres : Sem.go _ e false [] S = res
    obtain ⟨as, rfl, -⟩ := Sem.eq_ok_of hres (a := Handler.found pc) (s' := S.setVm vm') (acts' := []) (by simp [hf9 _ _ _ _])
    rfl
  refine Steps.head hgo hw ?_
  rw [stepThread_throwing hfr, hst]
  have hr' : (s.setVm vm').frames = .java g₀ :: r := hr
  rw [State.setTop_of_frames _ hr'] at hrest
  rw [hr, List.tail_cons, State.pushFrame, xt_sfv, State.setTop_of_frames _ hr, xt_sfv]
  exact hrest
