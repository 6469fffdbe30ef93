theorem mx_t0 {f i : Nat} (h : i < mx_fC f) : f < mx_fam.length := by
  refine Nat.lt_of_not_le fun hf => ?_
  have e : mx_fC f = 0 := by
    unfold mx_fC
    rw [List.getD_eq_getElem?_getD, List.getElem?_eq_none hf]
    rfl
  omega
theorem mx_t1 : ∀ f, f < mx_fam.length → ∀ i, i < mx_fC f → mx_cod.getD (mx_num f i) (99, 0) = (f, i) ∧ mx_num f i < mx_KT := by decide +kernel
theorem mx_t2 : ∀ q, q < mx_KT → mx_num (mx_cod.getD q (99, 0)).1 (mx_cod.getD q (99, 0)).2 = q ∧ (mx_cod.getD q (99, 0)).2 < mx_fC (mx_cod.getD q (99, 0)).1 := by decide +kernel
def mx_tA (f : Nat) : Nat := match mx_fK f with
  | 1 => 0
  | 2 => 2
  | 3 => 5
  | 4 => 1
  | _ => match mx_fY f with
    | 5 => 3
    | _ => 4
def mx_fv (bs : Nat) (s : mSt) (f i j : Nat) : Value := match mx_fR (mx_fX f) j with
  | 0 => .int (s.1 f i j)
  | g + 1 => va_rf ((s.2.2.1 f i j).map (fun y => bs + mx_num g y))
def mx_enc (ca : Nat → ClassId) (bs : Nat) (s : mSt) (f i : Nat) : va_E := match mx_fK f with
  | 0 => .inr (mx_fX f, (List.range (mx_nF (mx_fX f))).map (mx_fv bs s f i))
  | 4 => .inl (ca (mx_tA f), mx_fX f, .inr (.inl (s.2.1 f i)))
  | 5 => .inl (ca (mx_tA f), mx_fX f, .inr (.inr (.inr (.inr (fun k => (s.2.2.1 f i k).map (fun y => bs + mx_num (mx_fY f) y))))))
  | _ => .inl (ca (mx_tA f), mx_fX f, .inl (s.1 f i))
def mx_ws (ca : Nat → ClassId) (bs : Nat) (s : mSt) : va_W := (List.range s.2.2.2).map (fun q => (bs + q, mx_enc ca bs s (mx_cod.getD q (99, 0)).1 (mx_cod.getD q (99, 0)).2))
section
variable {ca : Nat → ClassId} {bs : Nat} {s s' : mSt} {f i : Nat}
theorem mx_enc0 (h : mx_fK f = 0) : mx_enc ca bs s f i = .inr (mx_fX f, (List.range (mx_nF (mx_fX f))).map (mx_fv bs s f i)) := by
  unfold mx_enc
  rw [h]
  rfl
theorem mx_enc1 (h : mx_fK f = 1) : mx_enc ca bs s f i = .inl (ca 0, mx_fX f, .inl (s.1 f i)) := by
  unfold mx_enc mx_tA
  rw [h]
  rfl
theorem mx_enc2 (h : mx_fK f = 2) : mx_enc ca bs s f i = .inl (ca 2, mx_fX f, .inl (s.1 f i)) := by
  unfold mx_enc mx_tA
  rw [h]
  rfl
theorem mx_enc3 (h : mx_fK f = 3) : mx_enc ca bs s f i = .inl (ca 5, mx_fX f, .inl (s.1 f i)) := by
  unfold mx_enc mx_tA
  rw [h]
  rfl
theorem mx_enc4 (h : mx_fK f = 4) : mx_enc ca bs s f i = .inl (ca 1, mx_fX f, .inr (.inl (s.2.1 f i))) := by
  unfold mx_enc mx_tA
  rw [h]
  rfl
theorem mx_enc5 (h : mx_fK f = 5) : mx_enc ca bs s f i = .inl (ca (mx_tA f), mx_fX f, .inr (.inr (.inr (.inr (fun k => (s.2.2.1 f i k).map (fun y => bs + mx_num (mx_fY f) y)))))) := by
  unfold mx_enc
  rw [h]
  rfl
theorem mx_encC (h1 : s'.1 f i = s.1 f i) (h2 : s'.2.1 f i = s.2.1 f i) (h3 : s'.2.2.1 f i = s.2.2.1 f i) : mx_enc ca bs s' f i = mx_enc ca bs s f i := by
  have e : mx_fv bs s' f i = mx_fv bs s f i := by
    funext j
    unfold mx_fv
    rw [h1, h3]
  unfold mx_enc
  rw [e, h1, h2, h3]
theorem mx_at (h : i < mx_fC f ∧ mx_num f i < s.2.2.2) : (mx_ws ca bs s)[mx_num f i]? = some (bs + mx_num f i, mx_enc ca bs s f i) := by
  have h1 := (mx_t1 f (mx_t0 h.1) i h.1).1
  unfold mx_ws
  rw [List.getElem?_map, List.getElem?_range h.2]
  simp only [Option.map_some, h1]
theorem mx_len : (mx_ws ca bs s).length = s.2.2.2 := by simp [mx_ws]
theorem mx_set (hK : s.2.2.2 ≤ mx_KT) (e : s'.2.2.2 = s.2.2.2) (h : i < mx_fC f ∧ mx_num f i < s.2.2.2) (hn : ∀ f' i', ¬ (f' = f ∧ i' = i) → mx_enc ca bs s' f' i' = mx_enc ca bs s f' i') : (mx_ws ca bs s).set (mx_num f i) (bs + mx_num f i, mx_enc ca bs s' f i) = mx_ws ca bs s' := by
  apply List.ext_getElem?
  intro q
  by_cases hq : q < s.2.2.2
  · rw [List.getElem?_set]
    by_cases hqn : mx_num f i = q
    · subst hqn
      rw [if_pos rfl, if_pos (by rw [mx_len]; exact h.2)]
      exact (mx_at (by rw [e]; exact h)).symm
    · rw [if_neg hqn]
      unfold mx_ws
      rw [List.getElem?_map, List.getElem?_map, List.getElem?_range hq, List.getElem?_range (by rw [e]; exact hq)]
      simp only [Option.map_some]
      rw [hn]
      rintro ⟨h1, h2⟩
      have h3 := (mx_t2 q (by omega)).1
      rw [h1, h2] at h3
      exact hqn h3
  · rw [List.getElem?_eq_none (by rw [List.length_set, mx_len]; omega), List.getElem?_eq_none (by rw [mx_len, e]; omega)]
theorem mx_D : va_D (fun q => bs ≤ q) (mx_ws ca bs s) := by
  have g : ∀ (k : Nat) (q : Nat × va_E), (mx_ws ca bs s)[k]? = some q → q.1 = bs + k := by
    intro k q h
    have hk : k < s.2.2.2 := by rw [← mx_len (ca := ca) (bs := bs)]; exact (List.getElem?_eq_some_iff.mp h).1
    unfold mx_ws at h
    rw [List.getElem?_map, List.getElem?_range hk] at h
    cases h
    rfl
  refine ⟨fun i j p q hi hj e => ?_, fun k q hk => ?_⟩
  · have h1 := g i p hi
    have h2 := g j q hj
    omega
  · have h1 := g k q hk
    show bs ≤ q.1
    omega
end
theorem mx_u3n {α : Type} {F : Nat → Nat → Nat → α} {f i j : Nat} {v : α} {f' i' : Nat} (h : ¬ (f' = f ∧ i' = i)) : mx_u3 F f i j v f' i' = F f' i' := by
  funext z
  unfold mx_u3
  rw [if_neg]
  rintro ⟨a, b, -⟩
  exact h ⟨a, b⟩
theorem mx_u3i {F : Nat → Nat → Nat → Int32} {f i j : Nat} {v : Int32} : mx_u3 F f i j v f i = upd (F f i) j v := by
  funext z
  simp [mx_u3, upd]
theorem mx_u3l {F : Nat → Nat → Nat → Int64} {f i j : Nat} {v : Int64} : mx_u3 F f i j v f i = vp_updL (F f i) j v := by
  funext z
  simp [mx_u3, vp_updL]
theorem mx_u3r {F : Nat → Nat → Nat → Option Nat} {f i j : Nat} {v : Option Nat} : mx_u3 F f i j v f i = va_up (F f i) j v := by
  funext z
  simp [mx_u3, va_up]
theorem mx_u2n {α : Type} {F : Nat → Nat → Nat → α} {f i : Nat} {v : α} {f' i' : Nat} (h : ¬ (f' = f ∧ i' = i)) : mx_u2 F f i v f' i' = F f' i' := by
  funext z
  unfold mx_u2
  rw [if_neg h]
theorem mx_u2s {α : Type} {F : Nat → Nat → Nat → α} {f i : Nat} {v : α} : mx_u2 F f i v f i = fun _ => v := by
  funext z
  simp [mx_u2]
def mx_Made (s : mSt) : Prop := s.2.2.2 = mx_KT ∧ (∀ f i j g, i < mx_fC f → mx_fK f = 0 → ¬ mx_fX f = 3 → mx_fR (mx_fX f) j = g + 1 → s.2.2.1 f i j = some i) ∧ ∀ f i j, i < mx_fC f → mx_fK f = 5 → j < mx_fX f → s.2.2.1 f i j = some j
def mx_WH (md : Bool) (D : va_G) (ca : Nat → ClassId) (bs : Nat) (s : mSt) (H : Heap) : Prop := va_P D cls (mx_ws ca bs s) H ∧ s.2.2.2 ≤ mx_KT ∧ (md = true → mx_Made s)
def mx_VM (D : va_G) (ca : Nat → ClassId) (U : State) : Prop := va_K D cls (tyl ca) U ∧ NW U ∧ va_AO R_Rl U ∧ va_AO R_Vs U
theorem mx_VM.moved {D : va_G} {ca : Nat → ClassId} {u U : State} (hW : u.WarmedH U.vm) (h : mx_VM D ca u) : mx_VM D ca U := ⟨va_K.moved hW.alike h.1, h.2.1.warm hW, va_AO.moved hW.alike h.2.2.1, va_AO.moved hW.alike h.2.2.2⟩
def mx_WS (md : Bool) (D : va_G) (ca : Nat → ClassId) (bs : Nat) (scr : Nat × Nat × (Nat → Int32)) (s : mSt) (U : State) : Prop := mx_WH md D ca bs s U.heap ∧ mx_VM D ca U ∧ bs ≤ U.heap.size ∧ (va_X scr.1 scr.2.1 scr.2.2 U U.heap ∧ scr.1 < bs) ∧ (md = false → U.heap.size = bs + s.2.2.2) ∧ xt_T bs U
theorem mx_t3a : ∀ f, f < mx_fam.length → ∀ j, j < 28 → ∀ g, g < mx_fam.length → (mx_fK f = 0 ∧ ¬ mx_fX f = 3 ∧ mx_fR (mx_fX f) j = g + 1) → mx_fC g = mx_fC f := by decide +kernel
theorem mx_t3b : ∀ f, f < mx_fam.length → mx_fK f = 0 → mx_nF (mx_fX f) ≤ 28 := by decide +kernel
theorem mx_t3 {f j g : Nat} (hf : f < mx_fam.length) (h0 : mx_fK f = 0) (h3 : ¬ mx_fX f = 3) (hj : j < mx_nF (mx_fX f)) (hg : g < mx_fam.length) (hr : mx_fR (mx_fX f) j = g + 1) : mx_fC g = mx_fC f := mx_t3a f hf j (Nat.lt_of_lt_of_le hj (mx_t3b f hf h0)) g hg ⟨h0, h3, hr⟩
theorem mx_t4 : ∀ f, f < mx_fam.length → mx_fK f = 5 → mx_fC (mx_fY f) = mx_fX f := by decide +kernel
theorem mx_t5 : ∀ c, c < 7 → ∀ j, mx_nF c ≤ j → mx_fR c j = 0 := by
  intro c hc j hj
  rcases (show c = 0 ∨ c = 1 ∨ c = 2 ∨ c = 3 ∨ c = 4 ∨ c = 5 ∨ c = 6 by omega) with rfl | rfl | rfl | rfl | rfl | rfl | rfl
  all_goals
    unfold mx_fR
    rw [List.getD_eq_getElem?_getD, List.getElem?_eq_none (by exact hj)]
    rfl
