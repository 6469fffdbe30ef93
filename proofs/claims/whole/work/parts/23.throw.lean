section
variable {p : Program} {l : Launch} {e : Env} {R : Room} {s : State} {m : MethodId} {args : Array Value} {below : List Frame} {meth : Method} {c : Code} {T : State} {locs : List Loc} {cells slots : Nat}
theorem xt_rebase (X : Stand p l e R s m args below meth c T locs cells slots) (hc : cells ≤ R.cells) (hs : slots ≤ R.slots) : Stand p l e { R with cells := R.cells - cells, slots := R.slots - slots } { s with heap := T.heap, slotsUsed := T.slotsUsed } m args below meth c T [] 0 0 := by
  refine ⟨X.admits, X.cas, X.clock, X.frames, ?_, X.hears, X.method, X.code, X.here, X.tail, X.warmed, X.limits, X.bytes, ?_⟩
  · have h := X.room
    have h1 := X.heapSize
    have h2 := X.used
    have h3 := X.book
    simp only [State.hasRoom, Bool.and_eq_true, decide_eq_true_eq] at h ⊢
    obtain ⟨⟨⟨⟨r1, r2⟩, r3⟩, r4⟩, r5⟩ := h
    refine ⟨⟨⟨⟨r1, r2⟩, ?_⟩, ?_⟩, h3⟩
    · show T.heap.size + (R.cells - cells) ≤ _
      omega
    · show T.slotsUsed + (R.slots - slots) ≤ _
      omega
  · refine ⟨X.same.1, Nat.le_refl _, Nat.le_refl _, ?_, ?_, fun a c h => ⟨c, h, rfl, rfl, fun _ _ => rfl⟩⟩
    · show T.slotsUsed = T.slotsUsed + ((T.heap.toList.drop T.heap.size).map (·.slots.size)).sum
      rw [List.drop_of_length_le (by simp)]
      rfl
    · show ((T.heap.toList.drop T.heap.size).map (·.slots.size)).sum ≤ 0
      rw [List.drop_of_length_le (by simp)]
      exact Nat.le_refl _
end
def xt_i (kk : Nat) : Nat := match kk with
  | 1 => 59
  | 2 => 66
  | _ => 72
def xt_c (kk : Nat) : Nat := match kk with
  | 1 => 57
  | 2 => 64
  | _ => 70
def xt_names : List String := ["java/lang/RuntimeException", "java/lang/Exception"]
def xt_okA (kk : Nat) : Bool := (Bundle.ownAtoms0 R_Rs (xt_i kk) (xt_n kk) xt_names).all (fun w => (decide (w ∈ lw_tbl) && (w.onTables && w.keeps)) || decide (w ∈ xt_ws ++ xt_hs))
set_option maxRecDepth 100000 in
theorem xt_ok1 : xt_okA 1 = true := by decide +kernel
set_option maxRecDepth 100000 in
theorem xt_ok2 : xt_okA 2 = true := by decide +kernel
set_option maxRecDepth 100000 in
theorem xt_ok3 : xt_okA 3 = true := by decide +kernel
