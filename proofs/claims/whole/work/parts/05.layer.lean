/-! The words of all methods as one list; the words of nest mates go by the state. -/
-- words
def wg : List Cond := lw_tbl.filter goodWord
abbrev wy (y : MethodName) (b : ByteArray) (n : Nat) (r : Option FieldType) : List Cond := Cond.code y b n r :: wg
theorem wg_ok {w : Cond} (h : w ∈ wg) : (w.onTables && w.keeps) = true ∨ ∃ ty, w = .arrayClass ty := good_of_word (List.mem_filter.mp h).2
theorem wg_in {w : Cond} (h : w ∈ lw_tbl) (hg : goodWord w = true) : w ∈ wg := List.mem_filter.mpr ⟨h, hg⟩
theorem gy {y : MethodName} {b : ByteArray} {n : Nat} {r : Option FieldType} (h0 : Cond.code y b n r ∈ wg) : GoodIn wg (wy y b n r) := by
  intro w hw
  rcases List.mem_cons.mp hw with rfl | hw
  · exact ⟨h0, wg_ok h0⟩
  · exact ⟨hw, wg_ok hw⟩
theorem gy4 {y : MethodName} {b : ByteArray} {n : Nat} {r : Option FieldType} (h0 : Cond.code y b n r ∈ wg) (l : List Cond) (hl : ∀ w ∈ l, w ∈ wg) : GoodIn wg (l ++ wy y b n r) := by
  intro w hw
  rcases List.mem_append.mp hw with hw | hw
  · exact ⟨hl w hw, wg_ok (hl w hw)⟩
  · exact gy h0 w hw
def isNest : Cond → Bool
  | .fieldLinkNest .. => true
  | .methodLinkNest .. => true
  | _ => false
def wn : List Cond := lw_tbl.filter isNest
def NW (U : State) : Prop := ∀ w ∈ wn, va_Nw w U
theorem NW.warm {s U : State} (hW : s.WarmedH U.vm) (h : NW s) : NW U := by
  intro w hw
  have h1 := h w hw
  have h2 := (List.mem_filter.mp hw).2
  cases w <;> first | exact va_Nw.warmF hW h1 | exact va_Nw.warmM hW h1 | (simp [isNest] at h2; done)
theorem NW.same {u U : State} (hv : u.vm = U.vm) (h : NW u) : NW U := by
  intro w hw
  have h1 := h w hw
  have h2 := (List.mem_filter.mp hw).2
  refine va_Nw.same ?_ hv h1
  cases w <;> first | rfl | (simp [isNest] at h2; done)
theorem vp_lt {i : Int32} {n : Nat} (h : vp_in i n) : i.toNatClampNeg < n := Nat.not_le.mp fun q => h (Or.inr q)
def tyl (ca : Nat → ClassId) : List (ClassId × FieldType) := [(ca 0, .int), (ca 1, .long), (ca 2, .char), (ca 3, .object "RelationStore$Relation"), (ca 4, .object "RelationStore$Version"), (ca 5, .boolean)]
theorem gV {own C : String} {i : Nat} {y : MethodName} {b : ByteArray} {n : Nat} {r : Option FieldType} (h0 : Cond.code y b n r ∈ wg) (h1 : Cond.methodLink own i y ∈ wg) (h2 : Cond.instanceMethod y ∈ wg) (h3 : Cond.selects C y y ∈ wg) (h4 : Cond.initialized C ∈ wg) : GoodIn wg (wsV own i C y (wy y b n r)) :=
  gy4 h0 [.methodLink own i y, .instanceMethod y, .selects C y y, .initialized C] (List.forall_mem_cons.mpr ⟨h1, List.forall_mem_cons.mpr ⟨h2, List.forall_mem_cons.mpr ⟨h3, List.forall_mem_cons.mpr ⟨h4, fun _ h => absurd h List.not_mem_nil⟩⟩⟩⟩)
theorem gS {own : String} {i : Nat} {y : MethodName} {b : ByteArray} {n : Nat} {r : Option FieldType} (h0 : Cond.code y b n r ∈ wg) (h1 : Cond.methodLink own i y ∈ wg) (h2 : Cond.static y ∈ wg) (h3 : Cond.initialized y.cls ∈ wg) : GoodIn wg (va_wsS own i y (wy y b n r)) :=
  gy4 h0 [.methodLink own i y, .static y, .initialized y.cls] (List.forall_mem_cons.mpr ⟨h1, List.forall_mem_cons.mpr ⟨h2, List.forall_mem_cons.mpr ⟨h3, fun _ h => absurd h List.not_mem_nil⟩⟩⟩)
