section
variable {p : Program} {l : Launch} {e : Env} {R : Room} {s : State} {m : MethodId} {args : Array Value} {below : List Frame} {meth : Method} {c : Code} {T : State} {locs : List Loc} {cells slots : Nat}
theorem xt_go {y : MethodName} {ws : List Cond} {rm : Room} {Pc : Array Value → State → Prop} {Qc : Array Value → State → Outcome → State → Prop} {mc ms : Nat} {free : Addr → Prop} {a : Array Value} (hM : mx_Mx l y ws rm Pc Qc mc ms free) (hblind : FrameBlind Pc) (hrc : rm.cells = mc) (hrs : rm.slots = ms) (hfr : rm.frames + 1 ≤ R.frames)
    (X : Stand p l e R s m args below meth c T locs cells slots) {g : JFrame} (hg : g.method = m) (hsize : g.locals.size = c.maxLocals) {ig : Instr} {len : Nat} (hdg : decode c.code g.pc = .ok (ig, len))
    {mk : MethodId} (hn : T.methodNamed? y = some mk) {methY : Method} {cY : Code} (hmY : T.vm.method? mk = some methY) (hcY : methY.code = some cY) (hlo : 2 * g.monitorRoom + (g.stack.map fun v => v.category).sum + (cY.maxLocals + 11) + rm.locals ≤ R.locals)
    {kY : Class} (hkY : T.vm.classes[mk.cls]? = some kY) (hini : kY.init = .initialized) (hws : ∀ w ∈ ws, w.before a T = true) (hPc : Pc a T) (hf : cells + mc ≤ R.cells ∧ slots + ms ≤ R.slots) :
    ∃ (o : Outcome) (t T' : State) (L : List Loc), (∀ q ∈ L, free q.base) ∧ Stand p l e R s m args below meth c T' (locs ++ L) (cells + mc) (slots + ms) ∧ T'.heap = t.heap ∧ T'.vm = t.vm ∧ Qc a (T.calling g mk a) o t ∧
      ((∃ v, o = .returned v ∧ Steps p.tables e below (doInvoke e (T.setTop g) [] mk a).1 (T'.setTop { g with pc := g.pc + len, stack := v.toList ++ g.stack })) ∨ ∃ x, o = .threw x ∧ Steps p.tables e below (doInvoke e (T.setTop g) [] mk a).1 ((T'.setTop g).pushFrame (.throwing x))) := by
  have h : At T g.method c below := by rw [hg]; exact X.here
  have happ : (headSpec ws rm).appliesLoose y e.platform (T.calling g mk a) = true :=
    Spec.appliesLoose_calling (g := g) h hdg hn hkY hini (X.room_calling (g := g) (R' := rm) hsize hmY hcY hfr hlo (by rw [hrc]; exact hf.1) (by rw [hrs]; exact hf.2)) (atoms_intro hws)
  have hfs : (T.setTop g).frames = .java g :: below := by
    rw [State.frames_setTop' g h.top, X.tail]
  obtain ⟨o, t, hsteps, hrun, hend, hq, L, ⟨hW, hsame⟩, hL⟩ := Free.Steps.callFree hM p X.admits X.cas X.clock (acts := []) (mid := [.java g]) (below := below) hfs happ (hblind _ _ _ _ hPc) trivial
  rw [hfs] at hend
  cases o with
  | returned v =>
    obtain ⟨T', X', -, -, he⟩ := X.outOf hg hdg (mk := mk) (a := a) hend hW hsame
    exact ⟨_, t, T', L, hL, X', by rw [he]; rfl, by rw [he]; rfl, hq, Or.inl ⟨v, rfl, by rw [← he]; exact hsteps⟩⟩
  | threw x =>
    obtain ⟨T', X', -, -, he⟩ := X.outOfThrown hg (mk := mk) (a := a) hend hW hsame
    exact ⟨_, t, T', L, hL, X', by rw [he]; rfl, by rw [he]; rfl, hq, Or.inr ⟨x, rfl, by rw [← he]; exact hsteps⟩⟩
end
