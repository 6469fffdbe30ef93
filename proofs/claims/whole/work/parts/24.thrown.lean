def xt_wp (kk : Nat) : Nat × Nat × Nat := match kk with
  | 1 => (349, 350, 56)
  | 2 => (416, 417, 57)
  | _ => (442, 443, 58)
theorem xt_wk {kk : Nat} (hk : kk = 1 ∨ kk = 2 ∨ kk = 3) : Cond.classLink R_Rs (xt_c kk) (xt_n kk) ∈ wg ∧ Cond.instantiable (xt_n kk) 6 ∈ wg ∧ Cond.initialized (xt_n kk) ∈ wg := by
  have h : mx_wd (xt_wp kk).1 (.classLink R_Rs (xt_c kk) (xt_n kk)) = true ∧ mx_wd (xt_wp kk).2.1 (.instantiable (xt_n kk) 6) = true ∧ mx_wd (xt_wp kk).2.2 (.initialized (xt_n kk)) = true := by
    rcases hk with rfl | rfl | rfl
    · decide +kernel
    · decide +kernel
    · decide +kernel
  exact ⟨mx_wd_g h.1 rfl, mx_wd_g h.2.1 rfl, mx_wd_g h.2.2 rfl⟩
theorem xt_at {bs kk : Nat} {args : Array Value} {s s' : State} (hk : kk = 1 ∨ kk = 2 ∨ kk = 3) (hts : ∀ w ∈ wg, w.before args s = true) (hXT : xt_T bs s) (hv : s.vm = s'.vm) (hh : ∀ q, q < bs → s'.heap[q]? = s.heap[q]?) : ∀ w ∈ Bundle.ownAtoms0 R_Rs (xt_i kk) (xt_n kk) xt_names, w.before args s' = true := by
  intro w hw
  have hok : xt_okA kk = true := by
    rcases hk with rfl | rfl | rfl
    · exact xt_ok1
    · exact xt_ok2
    · exact xt_ok3
  have h1 := List.all_eq_true.mp hok w hw
  rcases Bool.or_eq_true_iff.mp h1 with h | h
  · obtain ⟨h2, h3⟩ := Bool.and_eq_true_iff.mp h
    have h4 : goodWord w = true := by
      unfold goodWord
      split
      · rfl
      · exact h3
    exact va_tabs (Bool.and_eq_true_iff.mp h3).1 hv (hts w (wg_in (of_decide_eq_true h2) h4))
  · exact hXT.full (by rw [← hv]; exact State.WarmedH.refl s) hh w (of_decide_eq_true h)
section
variable {p : Program} {l : Launch} {e : Env} {R : Room} {s0 : State} {m : MethodId} {args : Array Value} {below : List Frame} {meth : Method} {c : Code} {Q : State → Prop} {H : Heap} {lcs : List Loc} {cells slots : Nat} {bs : Nat}
def xt_Q (s' : State) (H : Heap) (below : List Frame) (kk : Nat) (t : State) : Prop := ∃ a, t.status = .running ∧ Ended t below (.threw a) ∧ s'.WarmedH t.vm ∧ s'.sameButNew ({ t with vm := s'.vm } : State) [] 1 6 ∧ ∃ cell, t.heap[a]? = some cell ∧ cell.vm = .none ∧ s'.vm.findClass (xt_n kk) = some cell.cls
theorem xt_throw {cc : ByteArray} {pc kk : Nat} {ls : Array Slot} (hx : p.tables.exec = Jvm.exec) (hb : c.code = cc) (hls : ls.size = c.maxLocals) (hown : s0.vm.findClass R_Rs = some m.cls) (hlk : meth.locks = false) (hts : ∀ w ∈ wg, w.before args s0 = true) (hXT : xt_T bs s0) (hbs : bs ≤ s0.heap.size) (hS : va_S (fun q => bs ≤ q) s0.heap H lcs)
    (htr : ∀ e, l.admits e → e.platform.stackTraces = false) (hk : kk = 1 ∨ kk = 2 ∨ kk = 3) (hw1 : Cond.classLink R_Rs (xt_c kk) (xt_n kk) ∈ wg) (hw2 : Cond.instantiable (xt_n kk) 6 ∈ wg) (hw3 : Cond.initialized (xt_n kk) ∈ wg)
    (hd1 : decode cc pc = .ok (.new (xt_c kk), 3)) (hd2 : decode cc (pc + 3) = .ok (.dup, 1)) (hd3 : decode cc (pc + 4) = .ok (.invokespecial (xt_i kk), 3)) (hd4 : decode cc (pc + 7) = .ok (.athrow, 1)) (hout : ∀ x ∈ c.exceptionTable.toList, covers x (pc + 7) = false)
    (hcl : cells + 1 ≤ R.cells ∧ slots + 6 ≤ R.slots) (hrm : 8 ≤ R.frames ∧ 200 ≤ R.locals)
    (hQ : ∀ t a, t.status = .running → Ended t below (.threw a) → s0.WarmedH t.vm → s0.sameButNew ({ t with vm := s0.vm } : State) lcs (cells + 1) (slots + 6) → H.size ≤ t.heap.size → (∀ q, q < H.size → t.heap[q]? = H[q]?) → (∃ cell, t.heap[a]? = some cell ∧ cell.vm = .none ∧ s0.vm.findClass (xt_n kk) = some cell.cls) → Q t) : W p l e R s0 m args below meth c H lcs cells slots Q (F0 m pc ls []) := by
  intro T hT X
  have X' := xt_rebase X (by omega) (by omega)
  have hh9 : ∀ q, q < bs → ({ s0 with heap := T.heap, slotsUsed := T.slotsUsed } : State).heap[q]? = s0.heap[q]? := fun q hq => by
    show T.heap[q]? = _
    rw [hT]
    exact hS.2.1 q (Nat.lt_of_lt_of_le hq hbs) (Nat.not_le.mpr hq)
  have hat := xt_at (s' := ({ s0 with heap := T.heap, slotsUsed := T.slotsUsed } : State)) hk hts hXT rfl hh9
  have hsz : ({ s0 with heap := T.heap, slotsUsed := T.slotsUsed } : State).heap.size = H.size := by
    show T.heap.size = _
    rw [hT]
  generalize hs' : ({ s0 with heap := T.heap, slotsUsed := T.slotsUsed } : State) = s' at X' hat hsz
  have hv' : s'.vm = s0.vm := by rw [← hs']
  have hg : ∀ w ∈ wg, w.onTables = true → w.before args s' = true := fun w hw ho => va_tabs ho hv'.symm (hts w hw)
  have K : W p l e { R with cells := R.cells - cells, slots := R.slots - slots } s' m args below meth c H [] 0 0 (xt_Q s' H below kk) (F0 m pc ls []) := by
    refine W.newc hx hb (own := R_Rs) (C := xt_n kk) (n := 6) (by rw [hv']; exact hown) (hg _ hw1 rfl) (hg _ hw2 rfl) (hg _ hw3 rfl) rfl hd1 (by show 0 + 1 ≤ R.cells - cells; omega) (by show 0 + 6 ≤ R.slots - slots; omega) (fun cC kC f1 f2 f3 f4 => ?_)
    refine lv_dup hx hb hd2 rfl ?_
    intro T2 hT2 X2
    have hfit : Bundle.fit (xt_n kk) = true := by
      rcases hk with rfl | rfl | rfl
      · decide
      · decide
      · decide
    obtain ⟨U, st, hrun, hend, hWU, hsame, ce, hce, hoc⟩ := X2.ctorThrow0 hx (htr e X2.admits) (own := R_Rs) (cls := xt_n kk) (names := xt_names) (ic := xt_i kk) (by rw [hv']; exact hown) hfit (by decide) hat (fun x hx => absurd hx List.not_mem_nil)
      (a := H.size) (cX := cC) (kX := kC) f1 f2 (by rw [hT2]; simp [freshCell]) (by rw [hsz]; exact Nat.le_refl _) (g := F0 m (pc + 4) ls [.ref H.size, .ref H.size]) rfl hls rfl rfl (rest := []) rfl (by rw [hb]; exact hd3) (by rw [hb]; exact hd4) hout (by show 2 + 3 < R.frames; omega) (by show 2 * 0 + 1 + (13 * (2 + 1) + 41) ≤ R.locals; omega) hlk
    exact ⟨U, st, H.size, hrun, hend, hWU, hsame, ce, hce, hoc.vm, hoc.cls⟩
  obtain ⟨t, st, a, h1, h2, h3, h4, cell, h5, h6, h7⟩ := K T hT X'
  refine ⟨t, st, hQ t a h1 h2 ?_ ?_ ?_ ?_ ⟨cell, h5, h6, by rw [← hv']; exact h7⟩⟩
  · rw [← hs'] at h3
    exact h3
  · rw [← hs'] at h4
    have e1 := X.same.1
    have e2 : s0.sameButNew ({ t with vm := s0.vm } : State) (lcs ++ []) (cells + 1) (slots + 6) := by
      refine X.same.trans (t := T.setVm s0.vm) ⟨?_, h4.2.1, h4.2.2.1, h4.2.2.2.1, h4.2.2.2.2.1, h4.2.2.2.2.2⟩
      refine h4.1.trans ?_
      generalize ({ t with vm := ({ s0 with heap := T.heap, slotsUsed := T.slotsUsed } : State).vm } : State).frames = F
      rw [e1]
      show ({ s0.setFrames F with heap := t.heap, slotsUsed := t.slotsUsed } : State) = { (s0.setFrames (T.setVm s0.vm).frames).setFrames F with heap := t.heap, slotsUsed := t.slotsUsed }
      rw [State.setFrames_setFrames]
    rw [List.append_nil] at e2
    exact e2
  · have h8 := h4.2.1
    rw [hsz] at h8
    exact h8
  · intro q hq
    have h8 : s'.heap[q]? = H[q]? := by
      rw [← hs']
      show T.heap[q]? = _
      rw [hT]
    have h9 : H[q]? = some H[q] := Array.getElem?_eq_getElem hq
    rw [h9]
    exact h4.old_cell (h8.trans h9)
end
