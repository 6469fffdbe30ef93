def xt_U : String := "java/lang/UnsupportedOperationException"
def xt_A : String := "java/lang/IllegalArgumentException"
def xt_S : String := "java/lang/IllegalStateException"
def xt_n (kk : Nat) : String := match kk with
  | 1 => xt_U
  | 2 => xt_A
  | _ => xt_S
def xt_ws : List Cond := [.declares (Bundle.init0 "java/lang/RuntimeException"), .declares (Bundle.init0 "java/lang/Exception"), .declares (Bundle.init0 Bundle.tN),
  .castable xt_U xt_U, .castable xt_A xt_A, .castable xt_S xt_S,
  .not (.castable xt_A xt_U), .not (.castable xt_S xt_U), .not (.castable xt_U xt_A), .not (.castable xt_S xt_A), .not (.castable xt_U xt_S), .not (.castable xt_A xt_S)]
def xt_hs : List Cond := [.laysStatic Bundle.tN "UNASSIGNED_STACK" Bundle.steD, .laysStatic Bundle.tN "SUPPRESSED_SENTINEL" Bundle.listD, .isRef (.static Bundle.tN "UNASSIGNED_STACK" Bundle.steD), .isRef (.static Bundle.tN "SUPPRESSED_SENTINEL" Bundle.listD)]
def xt_cut (bs : Nat) (U : State) : State := { U with heap := (U.heap.toList.take bs).toArray }
def xt_T (bs : Nat) (U : State) : Prop := ∀ w ∈ xt_ws ++ xt_hs, w.before #[] (xt_cut bs U) = true
theorem xt_tab {A B : Array Value} {u U : State} (hv : u.vm = U.vm) : ∀ w ∈ xt_ws, w.before A u = true → w.before B U = true := by
  intro w hw h
  have go : ∀ a b, (Cond.not (.castable a b)).before A u = true → (Cond.not (.castable a b)).before B U = true := fun a b h => by
    simp only [Cond.before, Cond.holds, Cond.value] at h ⊢
    rw [← hv]
    exact h
  simp only [xt_ws, List.mem_cons, List.not_mem_nil, or_false] at hw
  rcases hw with rfl | rfl | rfl | rfl | rfl | rfl | rfl | rfl | rfl | rfl | rfl | rfl
  · exact va_tabs rfl hv h
  · exact va_tabs rfl hv h
  · exact va_tabs rfl hv h
  · exact va_tabs rfl hv h
  · exact va_tabs rfl hv h
  · exact va_tabs rfl hv h
  all_goals exact go _ _ h
theorem xt_ff {u U : State} (hv : u.vm = U.vm) (a b d : String) : u.fieldFound? a b d = U.fieldFound? a b d := by
  unfold State.fieldFound?
  rw [hv]
theorem xt_ls {A B : Array Value} {u U : State} (hv : u.vm = U.vm) (hh : ∀ (q : Nat) (c : Cell), u.heap[q]? = some c → U.heap[q]? = some c) {o n d : String} (h : (Cond.laysStatic o n d).before A u = true) : (Cond.laysStatic o n d).before B U = true := by
  simp only [Cond.before, Cond.holds, Cond.value] at h ⊢
  rw [← hv, ← xt_ff hv]
  cases h1 : u.vm.findClass o with
  | none => simp [h1] at h
  | some c =>
    cases h2 : u.fieldFound? o n d with
    | none => simp [h1, h2] at h
    | some x =>
      obtain ⟨c', k, i, f⟩ := x
      simp only [h1, h2] at h ⊢
      cases h3 : k.statics with
      | none => simp [h3] at h
      | some a =>
        simp only [h3, Option.bind_some] at h ⊢
        cases h4 : u.heap[a]? with
        | none => simp [h4] at h
        | some cell =>
          rw [h4] at h
          rw [hh a cell h4]
          exact h
theorem xt_rs {A B : Array Value} {u U : State} (hv : u.vm = U.vm) (hh : ∀ (q : Nat) (c : Cell), u.heap[q]? = some c → U.heap[q]? = some c) {o n d : String} (h : (Cond.isRef (.static o n d)).before A u = true) : (Cond.isRef (.static o n d)).before B U = true := by
  have e1 : u.fieldNamed? o n d true = U.fieldNamed? o n d true := by
    unfold State.fieldNamed?
    rw [xt_ff hv]
  simp only [Cond.before, Cond.holds, Cond.value, Term.eval] at h ⊢
  rw [← e1]
  cases h1 : u.fieldNamed? o n d true with
  | none => simp [h1] at h
  | some x =>
    obtain ⟨c, k, i⟩ := x
    simp only [h1, Option.bind_eq_bind, Option.bind_some] at h ⊢
    cases h3 : k.statics with
    | none => simp [h3] at h
    | some a =>
      simp only [h3, Option.bind_some] at h ⊢
      cases h4 : u.heap[a]? with
      | none => simp [h4] at h
      | some cell =>
        rw [h4] at h
        rw [hh a cell h4]
        exact h
theorem xt_keep : ∀ w ∈ xt_ws ++ xt_hs, w.keepsCast = true := by decide +kernel
theorem xt_cutAt {bs q : Nat} {U : State} : (xt_cut bs U).heap[q]? = if q < bs then U.heap[q]? else none := by
  show ((U.heap.toList.take bs).toArray)[q]? = _
  rw [List.getElem?_toArray, List.getElem?_take, Array.getElem?_toList]
theorem xt_move {A B : Array Value} {u U : State} (hW : u.WarmedH U.vm) (hh : ∀ (q : Nat) (c : Cell), u.heap[q]? = some c → U.heap[q]? = some c) : ∀ w ∈ xt_ws ++ xt_hs, w.before A u = true → w.before B U = true := by
  intro w hw h
  have h1 := Cond.before_shiftedCast (State.Shifted.of_warmed hW) w (xt_keep w hw) h
  rcases List.mem_append.mp hw with hw | hw
  · exact xt_tab (u := u.setVm U.vm) (U := U) rfl w hw h1
  · simp only [xt_hs, List.mem_cons, List.not_mem_nil, or_false] at hw
    rcases hw with rfl | rfl | rfl | rfl
    · exact xt_ls (u := u.setVm U.vm) (U := U) rfl hh h1
    · exact xt_ls (u := u.setVm U.vm) (U := U) rfl hh h1
    · exact xt_rs (u := u.setVm U.vm) (U := U) rfl hh h1
    · exact xt_rs (u := u.setVm U.vm) (U := U) rfl hh h1
theorem xt_T.moved {bs : Nat} {u U : State} (hW : u.WarmedH U.vm) (hh : ∀ q, q < bs → U.heap[q]? = u.heap[q]?) (h : xt_T bs u) : xt_T bs U := by
  intro w hw
  have hW9 : (xt_cut bs u).WarmedH (xt_cut bs U).vm := hW
  refine xt_move hW9 (fun q c hq => ?_) w hw (h w hw)
  rw [xt_cutAt] at hq ⊢
  by_cases hlt : q < bs
  · rw [if_pos hlt] at hq ⊢
    rw [hh q hlt]
    exact hq
  · rw [if_neg hlt] at hq
    cases hq
theorem xt_T.full {bs : Nat} {u U : State} {B : Array Value} (hW : u.WarmedH U.vm) (hh : ∀ q, q < bs → U.heap[q]? = u.heap[q]?) (h : xt_T bs u) : ∀ w ∈ xt_ws ++ xt_hs, w.before B U = true := by
  intro w hw
  have hW9 : (xt_cut bs u).WarmedH U.vm := hW
  refine xt_move hW9 (fun q c hq => ?_) w hw (h w hw)
  rw [xt_cutAt] at hq
  by_cases hlt : q < bs
  · rw [if_pos hlt] at hq
    rw [hh q hlt]
    exact hq
  · rw [if_neg hlt] at hq
    cases hq
theorem xt_asg {bs j kk : Nat} {s : State} (hXT : xt_T bs s) (hj : j = 1 ∨ j = 2 ∨ j = 3) (hk : kk = 1 ∨ kk = 2 ∨ kk = 3) {cj ck : ClassId} (h1 : s.vm.findClass (xt_n j) = some cj) (h2 : s.vm.findClass (xt_n kk) = some ck) : s.vm.assignable ck cj = decide (j = kk) := by
  have hf := hXT.full (B := #[]) (State.WarmedH.refl s) (fun _ _ => rfl)
  have pos : ∀ n, (Cond.castable n n).before #[] s = true → ∀ c1 c2, s.vm.findClass n = some c1 → s.vm.findClass n = some c2 → s.vm.assignable c2 c1 = true := fun n h c1 c2 e1 e2 => by
    obtain ⟨c3, c4, q1, q2, q3⟩ := Cond.castable_spec h
    cases e1.symm.trans e2
    cases e1.symm.trans q1
    cases e1.symm.trans q2
    exact q3
  have neg : ∀ n n', (Cond.not (.castable n n')).before #[] s = true → ∀ c1 c2, s.vm.findClass n' = some c1 → s.vm.findClass n = some c2 → s.vm.assignable c2 c1 = false := fun n n' h c1 c2 e1 e2 => by
    have hv := Cond.holds_not_iff.mp h
    simp only [Cond.value, e1, e2] at hv
    exact Option.some.inj hv
  rcases hj with rfl | rfl | rfl <;> rcases hk with rfl | rfl | rfl
  · exact pos _ (hf _ (by decide +kernel)) _ _ h1 h2
  · exact neg _ _ (hf _ (by decide +kernel)) _ _ h1 h2
  · exact neg _ _ (hf _ (by decide +kernel)) _ _ h1 h2
  · exact neg _ _ (hf _ (by decide +kernel)) _ _ h1 h2
  · exact pos _ (hf _ (by decide +kernel)) _ _ h1 h2
  · exact neg _ _ (hf _ (by decide +kernel)) _ _ h1 h2
  · exact neg _ _ (hf _ (by decide +kernel)) _ _ h1 h2
  · exact neg _ _ (hf _ (by decide +kernel)) _ _ h1 h2
  · exact pos _ (hf _ (by decide +kernel)) _ _ h1 h2
