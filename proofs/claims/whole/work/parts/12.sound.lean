def mx_vv (bs : Nat) : mAV → Value
  | .inl x => .int x
  | .inr (.inl y) => .long y
  | .inr (.inr (.inl (f, i))) => .ref (bs + mx_num f i)
  | .inr (.inr (.inr a)) => .ref a
theorem mx_vvc (bs : Nat) (v : mAV) : (mx_vv bs v).category = mx_cat v := by
  rcases v with x | y | ⟨f, i⟩ | a <;> rfl
def mx_ok (s : mSt) : mAV → Prop
  | .inr (.inr (.inl (f, i))) => i < mx_fC f ∧ mx_num f i < s.2.2.2
  | _ => True
def mx_oS (s : mSt) (S : List mAV) : Prop := ∀ v ∈ S, mx_ok s v
def mx_oL (s : mSt) (L : mLV) : Prop := ∀ q ∈ L, mx_ok s q.2
def mx_VL (bs : Nat) (L : mLV) : List (Nat × Value) := L.map (fun q => (q.1, mx_vv bs q.2))
theorem mx_oS_t {s : mSt} {v : mAV} {S : List mAV} (h : mx_oS s (v :: S)) : mx_oS s S := fun w hw => h w (List.mem_cons_of_mem _ hw)
theorem mx_oS_h {s : mSt} {v : mAV} {S : List mAV} (h : mx_oS s (v :: S)) : mx_ok s v := h v List.mem_cons_self
theorem mx_oS_c {s : mSt} {v : mAV} {S : List mAV} (hv : mx_ok s v) (h : mx_oS s S) : mx_oS s (v :: S) := fun w hw => by
  rcases List.mem_cons.mp hw with rfl | hw
  · exact hv
  · exact h w hw
theorem mx_oS_n {s : mSt} : mx_oS s [] := fun _ h => absurd h List.not_mem_nil
theorem mx_beq (a b : Nat) : (a == b) = Nat.beq a b := by
  cases h : Nat.beq a b with
  | true => simp [Nat.eq_of_beq_eq_true h]
  | false => simp [Nat.ne_of_beq_eq_false h]
theorem mx_lk_mem {i : Nat} {v : mAV} : ∀ {L : mLV}, mx_lk i L = some v → (i, v) ∈ L
  | [], h => by cases h
  | (j, w) :: L, h => by
    unfold mx_lk at h
    cases hb : Nat.beq i j with
    | true =>
      rw [hb] at h
      have e1 := Nat.eq_of_beq_eq_true hb
      cases h
      rw [e1]
      exact List.mem_cons_self
    | false =>
      rw [hb] at h
      exact List.mem_cons_of_mem _ (mx_lk_mem h)
theorem mx_lv {bs : Nat} {ls : Array Slot} {n i : Nat} {v : mAV} {L : mLV} (hl : lv_has ls n (mx_VL bs L)) (h : mx_lk i L = some v) : ls[i]? = some (.val (mx_vv bs v)) := hl.2.2 (i, mx_vv bs v) (List.mem_map.mpr ⟨(i, v), mx_lk_mem h, rfl⟩)
theorem mx_VL_st1 (bs i : Nat) (v : mAV) (L : mLV) : (i, mx_vv bs v) :: (mx_VL bs L).filter (fun q => !(q.1 == i) && !(q.1 + 1 == i && q.2.category == 2)) = mx_VL bs (mx_st1 i v L) := by
  unfold mx_VL mx_st1
  rw [List.map_cons, List.filter_map]
  have e : ((fun q : Nat × Value => !(q.1 == i) && !(q.1 + 1 == i && q.2.category == 2)) ∘ fun q : Nat × mAV => (q.1, mx_vv bs q.2)) = fun q : Nat × mAV => !(Nat.beq q.1 i) && !(Nat.beq (q.1 + 1) i && Nat.beq (mx_cat q.2) 2) := by
    funext q
    simp only [Function.comp, mx_beq, mx_vvc]
  rw [e]
theorem mx_VL_st2 (bs i : Nat) (v : mAV) (L : mLV) : (i, mx_vv bs v) :: (mx_VL bs L).filter (fun q => !(q.1 == i) && (!(q.1 == i + 1) && !(q.1 + 1 == i && q.2.category == 2))) = mx_VL bs (mx_st2 i v L) := by
  unfold mx_VL mx_st2
  rw [List.map_cons, List.filter_map]
  have e : ((fun q : Nat × Value => !(q.1 == i) && (!(q.1 == i + 1) && !(q.1 + 1 == i && q.2.category == 2))) ∘ fun q : Nat × mAV => (q.1, mx_vv bs q.2)) = fun q : Nat × mAV => !(Nat.beq q.1 i) && (!(Nat.beq q.1 (i + 1)) && !(Nat.beq (q.1 + 1) i && Nat.beq (mx_cat q.2) 2)) := by
    funext q
    simp only [Function.comp, mx_beq, mx_vvc]
  rw [e]
theorem mx_oL_st1 {s : mSt} {i : Nat} {v : mAV} {L : mLV} (hv : mx_ok s v) (h : mx_oL s L) : mx_oL s (mx_st1 i v L) := fun q hq => by
  rcases List.mem_cons.mp hq with rfl | hq
  · exact hv
  · exact h q (List.mem_filter.mp hq).1
theorem mx_oL_st2 {s : mSt} {i : Nat} {v : mAV} {L : mLV} (hv : mx_ok s v) (h : mx_oL s L) : mx_oL s (mx_st2 i v L) := fun q hq => by
  rcases List.mem_cons.mp hq with rfl | hq
  · exact hv
  · exact h q (List.mem_filter.mp hq).1
theorem mx_pk_in {L : mLV} {q : Nat × mAV} : ∀ {is : List Nat}, q ∈ mx_pk L is → q ∈ L
  | [], h => absurd h List.not_mem_nil
  | i :: is, h => by
    unfold mx_pk at h
    cases hl : mx_lk i L with
    | none =>
      rw [hl] at h
      exact mx_pk_in h
    | some v =>
      rw [hl] at h
      rcases List.mem_cons.mp h with rfl | h
      · exact mx_lk_mem hl
      · exact mx_pk_in h
theorem mx_lv_pk {bs : Nat} {ls : Array Slot} {n : Nat} {L : mLV} {is : List Nat} (hl : lv_has ls n (mx_VL bs L)) : lv_has ls n (mx_VL bs (mx_pk L is)) := ⟨hl.1, hl.2.1, fun q hq => by
  obtain ⟨x, hx, rfl⟩ := List.mem_map.mp hq
  exact hl.2.2 _ (List.mem_map.mpr ⟨x, mx_pk_in hx, rfl⟩)⟩
theorem mx_lv_args (bs : Nat) : ∀ (vs : List mAV) (i : Nat), lv_args i (vs.map (mx_vv bs)) = mx_VL bs (mx_args i vs)
  | [], _ => rfl
  | v :: vs, i => by
    have ih := mx_lv_args bs vs
    have hc := mx_vvc bs v
    rcases v with x | y | ⟨f, j⟩ | a
    all_goals
      simp only [List.map_cons, lv_args, mx_args, mx_VL, mx_vv, Value.category, mx_cat] at ih ⊢
      simp [ih]
theorem mx_oL_args {s : mSt} : ∀ {vs : List mAV} {i : Nat}, mx_oS s vs → mx_oL s (mx_args i vs)
  | [], _, _ => fun _ h => absurd h List.not_mem_nil
  | v :: vs, i, h => fun q hq => by
    rcases List.mem_cons.mp hq with rfl | hq
    · exact mx_oS_h h
    · exact mx_oL_args (mx_oS_t h) q hq
theorem mx_p1_o {S : List mAV} {k : Int32 → List mAV → Prop} (h : mx_p1 S k) : ∃ x S', S = .inl x :: S' ∧ k x S' := by
  unfold mx_p1 at h
  split at h
  · exact ⟨_, _, rfl, h⟩
  · exact h.elim
theorem mx_p2_o {S : List mAV} {k : Int32 → Int32 → List mAV → Prop} (h : mx_p2 S k) : ∃ x y S', S = .inl y :: .inl x :: S' ∧ k x y S' := by
  unfold mx_p2 at h
  split at h
  · exact ⟨_, _, _, rfl, h⟩
  · exact h.elim
theorem mx_q1_o {S : List mAV} {k : Int64 → List mAV → Prop} (h : mx_q1 S k) : ∃ x S', S = .inr (.inl x) :: S' ∧ k x S' := by
  unfold mx_q1 at h
  split at h
  · exact ⟨_, _, rfl, h⟩
  · exact h.elim
theorem mx_q2_o {S : List mAV} {k : Int64 → Int64 → List mAV → Prop} (h : mx_q2 S k) : ∃ x y S', S = .inr (.inl y) :: .inr (.inl x) :: S' ∧ k x y S' := by
  unfold mx_q2 at h
  split at h
  · exact ⟨_, _, _, rfl, h⟩
  · exact h.elim
theorem mx_qi_o {S : List mAV} {k : Int64 → Int32 → List mAV → Prop} (h : mx_qi S k) : ∃ x y S', S = .inl y :: .inr (.inl x) :: S' ∧ k x y S' := by
  unfold mx_qi at h
  split at h
  · exact ⟨_, _, _, rfl, h⟩
  · exact h.elim
theorem mx_ix_o {S : List mAV} {k : Int32 → Nat → Nat → List mAV → Prop} (h : mx_ix S k) : ∃ j f i S', S = .inl j :: .inr (.inr (.inl (f, i))) :: S' ∧ k j f i S' := by
  unfold mx_ix at h
  split at h
  · exact ⟨_, _, _, _, rfl, h⟩
  · exact h.elim
theorem mx_rf_o {S : List mAV} {k : Nat → Nat → List mAV → Prop} (h : mx_rf S k) : ∃ f i S', S = .inr (.inr (.inl (f, i))) :: S' ∧ k f i S' := by
  unfold mx_rf at h
  split at h
  · exact ⟨_, _, _, rfl, h⟩
  · exact h.elim
theorem mx_br_o {md : Bool} {c A B : Prop} [Decidable c] (h : mx_br md c A B) : (c → A) ∧ (¬ c → B) := by
  unfold mx_br at h
  cases md with
  | true => exact h
  | false =>
    have h : (if c then A else B) := h
    by_cases hc : c
    · rw [if_pos hc] at h
      exact ⟨fun _ => h, fun z => absurd hc z⟩
    · rw [if_neg hc] at h
      exact ⟨fun z => absurd z hc, fun _ => h⟩
theorem mx_to_o {md : Bool} {t : mSt} {k : mSt → Prop} (h : mx_to md t k) : k t := by
  unfold mx_to at h
  cases md with
  | true => exact h t rfl
  | false => exact h
theorem mx_pop_o : ∀ {n : Nat} {acc S as S' : List mAV}, mx_pop n acc S = some (as, S') → ∃ P, as = P ++ acc ∧ S = P.reverse ++ S' ∧ P.length = n
  | 0, acc, S, as, S', h => by
    simp only [mx_pop, Option.some.injEq, Prod.mk.injEq] at h
    exact ⟨[], by simp [h.1], by simp [h.2], rfl⟩
  | n + 1, acc, [], as, S', h => by simp [mx_pop] at h
  | n + 1, acc, v :: S, as, S', h => by
    simp only [mx_pop] at h
    obtain ⟨P, h1, h2, h3⟩ := mx_pop_o h
    exact ⟨P ++ [v], by simp [h1], by simp [h2], by simp [h3]⟩
theorem mx_wt_o (bs : Nat) : ∀ (S : List mAV), ((S.map (mx_vv bs)).map fun v => v.category).sum = mx_wt S
  | [] => rfl
  | v :: S => by
    have ih := mx_wt_o bs S
    simp only [List.map_cons, List.sum_cons, mx_wt, mx_vvc, ih]
theorem mx_li_o {o : Option mAV} {k : Int32 → Prop} (h : mx_li o k) : ∃ x, o = some (.inl x) ∧ k x := by
  unfold mx_li at h
  split at h
  · exact ⟨_, rfl, h⟩
  · exact h.elim
theorem mx_ll_o {o : Option mAV} {k : Int64 → Prop} (h : mx_ll o k) : ∃ x, o = some (.inr (.inl x)) ∧ k x := by
  unfold mx_ll at h
  split at h
  · exact ⟨_, rfl, h⟩
  · exact h.elim
theorem mx_la_o {o : Option mAV} {k : (Nat × Nat) ⊕ Nat → Prop} (h : mx_la o k) : ∃ x, o = some (.inr (.inr x)) ∧ k x := by
  unfold mx_la at h
  split at h
  · exact ⟨_, rfl, h⟩
  · exact h.elim
theorem mx_r1_o {S : List mAV} {k : (Nat × Nat) ⊕ Nat → List mAV → Prop} (h : mx_r1 S k) : ∃ r S', S = .inr (.inr r) :: S' ∧ k r S' := by
  unfold mx_r1 at h
  split at h
  · exact ⟨_, _, rfl, h⟩
  · exact h.elim
theorem mx_d1_o {S : List mAV} {k : mAV → List mAV → Prop} (h : mx_d1 S k) : ∃ v S', S = v :: S' ∧ mx_cat v = 1 ∧ k v S' := by
  unfold mx_d1 at h
  split at h
  · exact ⟨_, _, rfl, rfl, h⟩
  · exact ⟨_, _, rfl, rfl, h⟩
  · exact h.elim
theorem mx_d2_o {S : List mAV} {k : Int32 → (Nat × Nat) ⊕ Nat → List mAV → Prop} (h : mx_d2 S k) : ∃ j r S', S = .inl j :: .inr (.inr r) :: S' ∧ k j r S' := by
  unfold mx_d2 at h
  split at h
  · exact ⟨_, _, _, rfl, h⟩
  · exact h.elim
theorem mx_pf_o {S : List mAV} {k : Int32 → Nat → Nat → List mAV → Prop} {kr : Nat → Nat → Nat → Nat → List mAV → Prop} (h : mx_pf S k kr) : (∃ x f i S', S = .inl x :: .inr (.inr (.inl (f, i))) :: S' ∧ k x f i S') ∨ ∃ g y f i S', S = .inr (.inr (.inl (g, y))) :: .inr (.inr (.inl (f, i))) :: S' ∧ kr g y f i S' := by
  unfold mx_pf at h
  split at h
  · exact Or.inl ⟨_, _, _, _, rfl, h⟩
  · exact Or.inr ⟨_, _, _, _, _, rfl, h⟩
  · exact h.elim
theorem mx_a1_o {aux : List Nat} {k : Nat → Prop} (h : mx_a1 aux k) : ∃ t, aux = [t] ∧ k t := by
  unfold mx_a1 at h
  split at h
  · exact ⟨_, rfl, h⟩
  · exact h.elim
theorem mx_aq_o {aux : List Nat} {k : Nat → List Nat → Prop} (h : mx_aq aux k) : ∃ t r, aux = t :: r ∧ k t r := by
  unfold mx_aq at h
  split at h
  · exact ⟨_, _, rfl, h⟩
  · exact h.elim
theorem mx_a4_o {aux : List Nat} {k : Nat → Nat → Nat → Prop} (h : mx_a4 aux k) : ∃ ci j n z r, aux = ci :: j :: n :: z :: r ∧ k ci j z := by
  unfold mx_a4 at h
  split at h
  · exact ⟨_, _, _, _, _, rfl, h⟩
  · exact h.elim
theorem mx_eq_o {a b : Nat} {P : Prop} (h : mx_eq a b P) : a = b ∧ P := by
  unfold mx_eq at h
  split at h
  · rename_i hb
    exact ⟨Nat.eq_of_beq_eq_true hb, h⟩
  · exact h.elim
theorem mx_kn_o {f : Nat} {P : Prop} (h : mx_kn f P) : ¬ mx_fK f = 0 ∧ P := by
  unfold mx_kn at h
  split at h
  · exact h.elim
  · rename_i hb
    exact ⟨Nat.ne_of_beq_eq_false hb, h⟩
theorem mx_no_o {md : Bool} {P : Prop} (h : mx_no md P) : md = false ∧ P := by
  cases md with
  | true => exact False.elim h
  | false => exact ⟨rfl, h⟩
theorem mx_or_o {md : Bool} {ci : Nat} {P : Prop} (h : mx_or md ci P) : (md = false ∨ ci = 3) ∧ P := by
  unfold mx_or at h
  cases md with
  | false => exact ⟨Or.inl rfl, h⟩
  | true =>
    cases hb : Nat.beq ci 3 with
    | true =>
      rw [hb] at h
      exact ⟨Or.inr (Nat.eq_of_beq_eq_true hb), h⟩
    | false =>
      rw [hb] at h
      exact False.elim h
theorem mx_bg_o {a b : Nat} {M : mMt} {P : Prop} (h : mx_bg a b M P) : a ≤ M.2.2.1 ∧ b ≤ M.2.2.2.1 ∧ P := by
  obtain ⟨h1, h⟩ := mx_eq_o (show mx_eq (Nat.ble a M.2.2.1 && Nat.ble b M.2.2.2.1).toNat 1 P from h)
  cases h2 : Nat.ble a M.2.2.1 with
  | false =>
    rw [h2] at h1
    cases h1
  | true =>
    cases h3 : Nat.ble b M.2.2.2.1 with
    | false =>
      rw [h2, h3] at h1
      cases h1
    | true => exact ⟨Nat.le_of_ble_eq_true h2, Nat.le_of_ble_eq_true h3, h⟩
theorem mx_nw_o {s : mSt} {k : Nat → Nat → Prop} (h : mx_nw s k) : ∃ f i, mx_cod.getD s.2.2.2 (99, 0) = (f, i) ∧ k f i := ⟨(mx_cod.getD s.2.2.2 (99, 0)).1, (mx_cod.getD s.2.2.2 (99, 0)).2, rfl, h⟩
