theorem b_a1 (x : Int32) : (x &&& 1) = 0 ↔ bt x 0 = false := by
  constructor
  · intro h
    have t := congrArg (fun x => bt x 0) h
    simp only [b_and, b_0] at t
    rw [show bt 1 0 = true by decide, Bool.and_true] at t
    exact t
  · intro h
    apply b_ext
    intro i hi
    rw [b_and, b_0]
    cases i with
    | zero => rw [h]; rfl
    | succ i =>
      have h1 : ∀ k, k < 31 → bt (1 : Int32) (k + 1) = false := by decide +kernel
      rw [h1 i (by omega), Bool.and_false]
theorem g_bit_bt {x : Int32} {j : Nat} (hj : j < 32) : g_bit x j ↔ bt x j = true := by
  unfold g_bit
  rw [b_a1, b_sshr j hj x (by omega), if_pos (by omega), Nat.add_zero]
  cases bt x j <;> simp
def RNb (s : mSt) (r : Nat) (N B : Nat → Prop) : Prop := ∀ x, x < 9 → ((s.1 25 0 (9 * r + x) = 1 ∧ N x) ∨ (s.1 25 0 (9 * r + x) = 0 ∧ ¬ N x)) ∧ ((s.1 26 0 (9 * r + x) = 1 ∧ B x) ∨ (s.1 26 0 (9 * r + x) = 0 ∧ ¬ B x))
def F_nr (r f _ j : Nat) : Prop := f = 36 ∨ ((f = 25 ∨ f = 26) ∧ 9 * r ≤ j ∧ j < 9 * r + 9)
theorem RNb_iff {s : mSt} {r : Nat} {N B N' B' : Nat → Prop} (h : RNb s r N B) (h1 : ∀ x, x < 9 → (N x ↔ N' x)) (h2 : ∀ x, x < 9 → (B x ↔ B' x)) : RNb s r N' B' := fun x hx => by
  have h3 := h x hx
  rw [h1 x hx, h2 x hx] at h3
  exact h3
theorem RM_cf_nr {G : gSt} {s t : mSt} {r : Nat} (h : RM_cf G s) (hf : mx_fr (F_nr r) s t) : RM_cf G t := RM_cf_fr h hf (fun h => by rcases h with h | ⟨h | h, -⟩ <;> cases h) (fun h => by rcases h with h | ⟨h | h, -⟩ <;> cases h) (fun f j h1 h2 h => by rcases h with h | ⟨h | h, -⟩ <;> omega)
section
variable {scr : mSc} {d : Nat} {G : gSt} {s : mSt} {r i : Nat} {rl : gRl}
theorem S_Mneed {post : mSt → Prop} {x : Nat} {bar : Bool} {N B : Nat → Prop} (hr : r < 9) (hx : x < 9) (h : RNb s r N B) (hy : ∀ t, RNb t r (fun y => N y ∨ y = x) (fun y => B y ∨ (bar = true ∧ y = x)) → t.1 36 = s.1 36 → mx_fr (F_nr r) s t → post t) : X_Md_need scr (d + 1) s (nI r) (nI x) (bI bar) post := by
  refine w_Md_need ?_
  rw [show (9 : Int32) * nI r = nI (9 * r) from pk_mul 9 r, nI_add, pk_cl (x := nI (9 * r + x)) (9 * r + x)]
  refine ⟨pk_in (9 * r + x) 81 (by omega), fun s1 e1 => ?_⟩
  have v1 : ∀ f i j, s1.1 f i j = if f = 25 ∧ i = 0 ∧ j = 9 * r + x then 1 else s.1 f i j := fun f i j => by
    rw [e1]
    rfl
  have f1 : mx_fr (F_nr r) s s1 := by
    rw [e1]
    exact mx_fr.si (Or.inr ⟨Or.inl rfl, by omega, by omega⟩)
  have n1 : ∀ y, y < 9 → ((s1.1 25 0 (9 * r + y) = 1 ∧ (N y ∨ y = x)) ∨ (s1.1 25 0 (9 * r + y) = 0 ∧ ¬ (N y ∨ y = x))) := fun y hy => by
    rw [v1]
    by_cases e : y = x
    · subst e
      rw [if_pos ⟨rfl, rfl, rfl⟩]
      exact Or.inl ⟨rfl, Or.inr rfl⟩
    · rw [if_neg (by omega)]
      rcases (h y hy).1 with ⟨h1, h2⟩ | ⟨h1, h2⟩
      · exact Or.inl ⟨h1, Or.inl h2⟩
      · exact Or.inr ⟨h1, fun h => h.elim h2 e⟩
  cases bar with
  | false =>
    refine ⟨fun _ => hy s1 (fun y hy => ⟨n1 y hy, ?_⟩) ?_ f1, fun h => absurd rfl h⟩
    · rw [v1, if_neg (by omega)]
      rcases (h y hy).2 with ⟨h1, h2⟩ | ⟨h1, h2⟩
      · exact Or.inl ⟨h1, Or.inl h2⟩
      · exact Or.inr ⟨h1, fun h => h.elim h2 (fun h => by cases h.1)⟩
    · exact funext fun a => funext fun b => by rw [v1, if_neg (by omega)]
  | true =>
    refine ⟨fun h => absurd h (by decide), fun _ => ⟨pk_in (9 * r + x) 81 (by omega), fun s2 e2 => ?_⟩⟩
    have v2 : ∀ f i j, s2.1 f i j = if f = 26 ∧ i = 0 ∧ j = 9 * r + x then 1 else s1.1 f i j := fun f i j => by
      rw [e2]
      rfl
    refine hy s2 (fun y hy => ⟨?_, ?_⟩) ?_ (f1.tr ?_)
    · rw [v2, if_neg (by omega)]
      exact n1 y hy
    · rw [v2]
      by_cases e : y = x
      · subst e
        rw [if_pos ⟨rfl, rfl, rfl⟩]
        exact Or.inl ⟨rfl, Or.inr ⟨rfl, rfl⟩⟩
      · rw [if_neg (by omega), v1, if_neg (by omega)]
        rcases (h y hy).2 with ⟨h1, h2⟩ | ⟨h1, h2⟩
        · exact Or.inl ⟨h1, Or.inl h2⟩
        · exact Or.inr ⟨h1, fun h => h.elim h2 (fun h => e h.2)⟩
    · exact funext fun a => funext fun b => by rw [v2, if_neg (by omega), v1, if_neg (by omega)]
    · rw [e2]
      exact mx_fr.si (Or.inr ⟨Or.inr rfl, by omega, by omega⟩)
theorem S_needOf_32 {post : mSt → Prop} {ex : Nat → mSt → Prop} {bar : Bool} {a2 : Int32} {N B : Nat → Prop} (hrl : (g_rs G)[r]? = some rl) : ∀ (m x : Nat) (s : mSt), x + m = (g_rs G).length → RM_cf G s → RNb s r (fun y => N y ∨ (y < x ∧ bt rl.2.2.2.1 y = true)) (fun y => B y ∨ (bar = true ∧ y < x ∧ bt rl.2.2.2.1 y = true)) → (∀ t, RNb t r (fun y => N y ∨ (y < (g_rs G).length ∧ bt rl.2.2.2.1 y = true)) (fun y => B y ∨ (bar = true ∧ y < (g_rs G).length ∧ bt rl.2.2.2.1 y = true)) → t.1 36 = s.1 36 → mx_fr (F_nr r) s t → post t) → r_Md_needOf_32 scr (d + 1) (nI r) a2 (bI bar) post ex (m + 1) s 84 (nI x) := by
  intro m
  induction m with
  | zero =>
    intro x s hx h hN hy
    have hl := h.1.1
    obtain rfl : x = (g_rs G).length := by omega
    exact w_Md_needOf_32 (pk_le (g_rs G).length (g_rs G).length (fun _ => ⟨fun h => absurd h (by decide), fun _ => hy s hN rfl mx_fr.rf⟩) (fun h => by omega) h.2.1 rfl)
  | succ m ih =>
    intro x s hx h hN hy
    have hl := h.1.1
    obtain ⟨h9, hokr, h24, hlen, hr⟩ := RM_tx h hrl
    refine w_Md_needOf_32 (pk_le (g_rs G).length x (fun h => by omega) (fun _ => ⟨pk_in r 9 h9, ?_⟩) h.2.1 rfl)
    rw [pk_cl (x := nI r) r, hr.2.2.2.1, show nI x + (1 : Int32) = nI (x + 1) from nI_1 x]
    refine g_bit1 (fun hb => ?_) (fun hb => ?_)
    · have hb := (g_bit_bt (by omega)).mp hb
      refine S_Mneed h9 (by omega) hN (fun t ht h36 hf => ?_)
      refine ih (x + 1) t (by omega) (RM_cf_nr h hf) (RNb_iff ht (fun y hy9 => ?_) (fun y hy9 => ?_)) (fun u h1 h2 h3 => hy u h1 (h2.trans h36) (hf.tr h3))
      · constructor
        · rintro ((h | ⟨h1, h2⟩) | rfl)
          · exact Or.inl h
          · exact Or.inr ⟨by omega, h2⟩
          · exact Or.inr ⟨by omega, hb⟩
        · rintro (h | ⟨h1, h2⟩)
          · exact Or.inl (Or.inl h)
          · by_cases e : y = x
            · exact Or.inr e
            · exact Or.inl (Or.inr ⟨by omega, h2⟩)
      · constructor
        · rintro ((h | ⟨h0, h1, h2⟩) | ⟨h0, rfl⟩)
          · exact Or.inl h
          · exact Or.inr ⟨h0, by omega, h2⟩
          · exact Or.inr ⟨h0, by omega, hb⟩
        · rintro (h | ⟨h0, h1, h2⟩)
          · exact Or.inl (Or.inl h)
          · by_cases e : y = x
            · exact Or.inr ⟨h0, e⟩
            · exact Or.inl (Or.inr ⟨h0, by omega, h2⟩)
    · have hb : ¬ bt rl.2.2.2.1 x = true := fun h => hb ((g_bit_bt (by omega)).mpr h)
      refine ih (x + 1) s (by omega) h (RNb_iff hN (fun y hy9 => ?_) (fun y hy9 => ?_)) hy
      · constructor
        · rintro (h | ⟨h1, h2⟩)
          · exact Or.inl h
          · exact Or.inr ⟨by omega, h2⟩
        · rintro (h | ⟨h1, h2⟩)
          · exact Or.inl h
          · by_cases e : y = x
            · rw [e] at h2
              exact absurd h2 hb
            · exact Or.inr ⟨by omega, h2⟩
      · constructor
        · rintro (h | ⟨h0, h1, h2⟩)
          · exact Or.inl h
          · exact Or.inr ⟨h0, by omega, h2⟩
        · rintro (h | ⟨h0, h1, h2⟩)
          · exact Or.inl h
          · by_cases e : y = x
            · rw [e] at h2
              exact absurd h2 hb
            · exact Or.inr ⟨h0, by omega, h2⟩
def RNa (rs : List gRl) (rl : gRl) (s : mSt) (r : Nat) (acc : List gSp) : Prop := RNb s r (fun x => ∃ sp ∈ acc, g_ns rs rl sp x) (fun x => ∃ sp ∈ acc, sp.2.2.2 = true ∧ g_ns rs rl sp x)
theorem g_mem1 {acc : List gSp} {sp : gSp} {p : gSp → Prop} : (∃ q ∈ acc ++ [sp], p q) ↔ (∃ q ∈ acc, p q) ∨ p sp := by
  constructor
  · rintro ⟨q, hq, hp⟩
    rcases List.mem_append.mp hq with hq | hq
    · exact Or.inl ⟨q, hq, hp⟩
    · obtain rfl := List.mem_singleton.mp hq
      exact Or.inr hp
  · rintro (⟨q, hq, hp⟩ | hp)
    · exact ⟨q, List.mem_append_left _ hq, hp⟩
    · exact ⟨sp, List.mem_append_right _ List.mem_cons_self, hp⟩
theorem RNa_1 {acc : List gSp} {sp : gSp} {N : Nat → Prop} (h : RNb s r (fun x => (∃ sp ∈ acc, g_ns (g_rs G) rl sp x) ∨ N x) (fun x => (∃ sp ∈ acc, sp.2.2.2 = true ∧ g_ns (g_rs G) rl sp x) ∨ (sp.2.2.2 = true ∧ N x))) (hN : ∀ x, x < 9 → (N x ↔ g_ns (g_rs G) rl sp x)) : RNa (g_rs G) rl s r (acc ++ [sp]) := RNb_iff h (fun x hx => by rw [g_mem1, hN x hx]) (fun x hx => by rw [g_mem1, hN x hx])
theorem g_ns_T {rs : List gRl} {b : Bool} {x : Nat} : g_ns rs rl (84, 0, 0, b) x ↔ x < rs.length ∧ bt rl.2.2.2.1 x = true := by
  constructor
  · rintro (⟨-, h1, h2⟩ | ⟨h, -⟩ | ⟨h, -⟩)
    · exact ⟨h1, h2⟩
    · exact absurd (show (84 : Int32) = 99 from h) (by decide)
    · exact absurd (show (84 : Int32) = 102 from h) (by decide)
  · exact fun h => Or.inl ⟨rfl, h.1, h.2⟩
theorem g_ns_c {rs : List gRl} {b : Bool} {x y : Nat} : g_ns rs rl (99, 0, y, b) x ↔ x = y := by
  constructor
  · rintro (⟨h, -⟩ | ⟨-, h⟩ | ⟨h, -⟩)
    · exact absurd (show (99 : Int32) = 84 from h) (by decide)
    · exact h
    · exact absurd (show (99 : Int32) = 102 from h) (by decide)
  · exact fun h => Or.inr (Or.inl ⟨rfl, h⟩)
theorem g_ns_f {rs : List gRl} {b : Bool} {x y z : Nat} : g_ns rs rl (102, y, z, b) x ↔ x = y ∨ x = z := by
  constructor
  · rintro (⟨h, -⟩ | ⟨h, -⟩ | ⟨-, h⟩)
    · exact absurd (show (102 : Int32) = 84 from h) (by decide)
    · exact absurd (show (102 : Int32) = 99 from h) (by decide)
    · exact h
  · exact fun h => Or.inr (Or.inr ⟨rfl, h⟩)
theorem S_needOf {post : mSt → Prop} {bar : Bool} {acc : List gSp} {sp : gSp} {j : Nat} (h : RM_cf G s) (hrl : (g_rs G)[r]? = some rl) (hlf : g_leaf (g_rs G) rl i bar = some (sp, j) ∨ ((g_tx rl).length = 0 ∧ sp = (84, 0, 0, bar))) (hi : i ≤ 24) (hN : RNa (g_rs G) rl s r acc) (hy : ∀ t, RNa (g_rs G) rl t r (acc ++ [sp]) → t.1 36 = s.1 36 → mx_fr (F_nr r) s t → post t) : X_Md_needOf scr (d + 3) s (nI r) (nI i) (bI bar) post := by
  obtain ⟨h9, hokr, h24, hlen, hr⟩ := RM_tx h hrl
  have hl := h.1.1
  have hT : sp = (84, 0, 0, bar) → r_Md_needOf_32 scr (d + 2) (nI r) (nI i) (bI bar) post (fun _ _ => False) ((g_rs G).length + 1) s 84 0 := fun e => by
    subst e
    refine S_needOf_32 (d := d + 1) (N := fun x => ∃ sp ∈ acc, g_ns (g_rs G) rl sp x) (B := fun x => ∃ sp ∈ acc, sp.2.2.2 = true ∧ g_ns (g_rs G) rl sp x) hrl (g_rs G).length 0 s (by omega) h (RNb_iff hN (fun y _ => ?_) (fun y _ => ?_)) (fun t ht h36 hf => hy t (RNa_1 (N := fun x => x < (g_rs G).length ∧ bt rl.2.2.2.1 x = true) ht (fun x _ => g_ns_T.symm)) h36 hf)
    · exact ⟨fun h => Or.inl h, fun h => h.elim id (fun h => by omega)⟩
    · exact ⟨fun h => Or.inl h, fun h => h.elim id (fun h => by omega)⟩
  refine w_Md_needOf ⟨(g_rs G).length + 1, pk_in r 9 h9, ?_⟩
  rw [pk_cl (x := nI r) r, show nI i + (1 : Int32) = nI (i + 1) from nI_1 i, show nI i + (2 : Int32) = nI (i + 2) from nI_add i 2]
  refine pk_eq (g_tx rl).length 0 (fun e0 => ⟨fun _ => hT ?_, fun h => absurd rfl h⟩) (fun e0 => ?_) hlen rfl
  · rcases hlf with hlf | hlf
    · have := (g_leaf_ok hlf).2.1
      have := (g_leaf_ok hlf).1
      omega
    · exact hlf.2
  · have hlf : g_leaf (g_rs G) rl i bar = some (sp, j) := by
      rcases hlf with hlf | hlf
      · exact hlf
      · exact absurd hlf.1 e0
    refine S_Mat h hrl (by omega) (fun c hc => ⟨fun e => ?_, fun n1 => ?_⟩) (fun hc => by rw [g_leaf_e hc] at hlf; cases hlf)
    · subst e
      rw [g_leaf_T hc] at hlf
      cases hlf
      exact hT rfl
    · by_cases e99 : c = 99
      · subst e99
        rw [g_leaf_c hc] at hlf
        refine S_Mnamed h hrl (by omega) (fun x hx hxl => ?_) (fun hx => by rw [hx] at hlf; cases hlf)
        rw [hx] at hlf
        have hlf : (if g_sn (g_rs G) rl x = true then some (((99, 0, x, bar) : gSp), i + 2) else none) = some (sp, j) := hlf
        cases hs : g_sn (g_rs G) rl x with
        | false =>
          rw [if_neg (by rw [hs]; decide)] at hlf
          cases hlf
        | true =>
          rw [if_pos hs] at hlf
          cases hlf
          exact S_Mneed h9 (by omega) hN (fun t ht h36 hf => ⟨fun h => absurd h (by decide), fun _ => hy t (RNa_1 ht (fun y _ => g_ns_c.symm)) h36 hf⟩)
      · by_cases e102 : c = 102
        · subst e102
          rw [g_leaf_f hc] at hlf
          refine S_Mnamed h hrl (by omega) (fun x hx hxl => ?_) (fun hx => by rw [hx] at hlf; cases hlf)
          rw [hx] at hlf
          have hlf : (if g_sn (g_rs G) rl x = true then (match g_nm (g_rs G).length (g_tx rl) (i + 2) with
            | none => none
            | some z => some (((102, x, z, bar) : gSp), i + 3)) else none) = some (sp, j) := hlf
          cases hs : g_sn (g_rs G) rl x with
          | false =>
            rw [if_neg (by rw [hs]; decide)] at hlf
            cases hlf
          | true =>
            rw [if_pos hs] at hlf
            refine S_Mneed h9 (by omega) hN (fun t ht h36 hf => ⟨fun _ => S_Mnamed (RM_cf_nr h hf) hrl (by omega) (fun z hz hzl => ?_) (fun hz => by rw [hz] at hlf; cases hlf), fun h => absurd rfl h⟩)
            rw [hz] at hlf
            cases hlf
            refine S_Mneed h9 (by omega) ht (fun u hu h36' hf' => hy u (RNa_1 (N := fun y => y = x ∨ y = z) (RNb_iff hu (fun y _ => ?_) (fun y _ => ?_)) (fun y _ => g_ns_f.symm)) (h36'.trans h36) (hf.tr hf'))
            · exact or_assoc
            · constructor
              · rintro ((h | ⟨h1, h2⟩) | ⟨h1, h2⟩)
                · exact Or.inl h
                · exact Or.inr ⟨h1, Or.inl h2⟩
                · exact Or.inr ⟨h1, Or.inr h2⟩
              · rintro (h | ⟨h1, h2 | h2⟩)
                · exact Or.inl (Or.inl h)
                · exact Or.inl (Or.inr ⟨h1, h2⟩)
                · exact Or.inr ⟨h1, h2⟩
        · rw [g_leaf_0 hc n1 e99 e102] at hlf
          cases hlf
end
