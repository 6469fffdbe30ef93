theorem c_0 {x y : Int64} : lg_cmp x y = 0 ↔ x = y := by
  unfold lg_cmp
  by_cases h : x > y
  · rw [if_pos h]
    refine ⟨fun h9 => absurd h9 (by decide), fun e => ?_⟩
    subst e
    exact absurd h Int64.lt_irrefl
  · rw [if_neg h]
    by_cases e : x = y
    · rw [if_pos e]
      exact ⟨fun _ => e, fun _ => rfl⟩
    · rw [if_neg e]
      exact ⟨fun h9 => absurd h9 (by decide), fun h9 => absurd h9 e⟩
theorem c_bit {x : Int64} {k : Nat} (hk : k < 64) {A B : Prop} (f : lb x k = false → A) (g : lb x k = true → B) : ((lg_cmp ((x.toUInt64 >>> ((nI k).toInt64.toUInt64 &&& Int64.toUInt64 63)).toInt64 &&& (1 : Int64)) (0 : Int64)) = 0 → A) ∧ (¬ (lg_cmp ((x.toUInt64 >>> ((nI k).toInt64.toUInt64 &&& Int64.toUInt64 63)).toInt64 &&& (1 : Int64)) (0 : Int64)) = 0 → B) := by
  rw [c_0, lb_a1, lb_shr x hk, Nat.add_zero]
  refine ⟨f, fun h => g ?_⟩
  cases h9 : lb x k
  · exact absurd h9 h
  · rfl
theorem lb_i32 (x : Int64) {i : Nat} (hi : i < 32) : bt x.toInt32 i = lb x i := by
  unfold bt lb
  rw [Int64.toBitVec_toInt32, BitVec.getLsbD_signExtend, decide_eq_true hi, if_pos (by omega), Bool.true_and]
theorem g_tn_w {l : List gCh} {u : gTp} (h : (g_tn l).1 u = true) : ∃ c ∈ l, c.2 = u := by
  have key : ∀ (l : List gCh) (p : (gTp → Bool) × Nat), (l.foldl g_tn1 p).1 u = true → p.1 u = true ∨ ∃ c ∈ l, c.2 = u := by
    intro l
    induction l with
    | nil => exact fun p h => Or.inl h
    | cons c l ih =>
      intro p h
      rcases ih (g_tn1 p c) h with h1 | ⟨c', h1, h2⟩
      · have h1 : (if c.2 = u then decide (c.1 = 1) else p.1 u) = true := h1
        by_cases e : c.2 = u
        · exact Or.inr ⟨c, List.mem_cons_self, e⟩
        · rw [if_neg e] at h1
          exact Or.inl h1
      · exact Or.inr ⟨c', List.mem_cons_of_mem _ h1, h2⟩
  rcases key l _ h with h1 | h1
  · cases h1
  · exact h1
section
variable {G : gSt} {t : Nat}
theorem g_at_w {u : gTp} (hw : g_wl G) (h : (g_at_t G t).1 u = true) : g_wu G u := by
  obtain ⟨c, h1, rfl⟩ := g_tn_w h
  obtain ⟨e, h2, rfl⟩ := List.mem_map.mp h1
  have h3 := List.mem_of_mem_take h2
  obtain ⟨b, h4, h5⟩ := g_flt (show (e.1, e.2) ∈ g_ev 0 (g_lg G) from h3)
  exact hw.2.1 b h4 _ h5
theorem g_wu_V {o r st a s : Nat} (h : g_wu G (o, r, st, a, s)) : g_Vn (g_rs G) o r := by
  obtain ⟨h1, rl, h2, h3, -⟩ := h
  exact ⟨h1, rl, h2, h3⟩
theorem g_Tw_at (hl : (g_rs G).length ≤ 9) (hw : g_wl G) : g_Tw (g_rs G) (g_at_t G t).1 := by
  intro o r st a s h
  have hu := g_at_w hw h
  refine ⟨g_wu_V hu, ?_⟩
  obtain ⟨h1, rl, h2, h3, h4⟩ := hu
  rcases h4 with ⟨e, h5, h6⟩ | ⟨e, h5, h6⟩ | ⟨e, h5, rl2, h6, h7, h8⟩
  · have e : st = 0 := e
    exact ⟨fun _ => ⟨h5, h6⟩, fun h => by omega, fun h => by omega, by omega⟩
  · have e : st = 1 := e
    exact ⟨fun h => by omega, fun _ => ⟨h5, h6⟩, fun h => by omega, by omega⟩
  · have e : st = 2 := e
    have := g_len_get h6
    exact ⟨fun h => by omega, fun h => by omega, fun _ => ⟨⟨h5, rl2, h6, h7⟩, rl, h2, (g_bit_bt (by show s < 32; have : s < (g_rs G).length := this; omega)).mp h8⟩, by omega⟩
theorem g_Vn_nd {o o' r : Nat} (h : g_Vn (g_rs G) o r) (h' : g_Vn (g_rs G) o' r) (e : o % 4 = o' % 4) : o = o' := by
  obtain ⟨-, rl, h2, h3⟩ := h
  obtain ⟨-, rl', h2', h3'⟩ := h'
  rw [h2] at h2'
  cases h2'
  omega
variable {A : Nat → Int64} {p : (gTp → Bool) × Nat} {o r : Nat}
theorem RC_b0 (hA : RC_tp G A p) (hV : g_Vn (g_rs G) o r) {b : Nat} (hb : b < 8) : lb (A (r * 4 + o % 4)) b = p.1 (o, r, 0, b, 0) := by
  obtain ⟨h1, rl, h2, h3⟩ := hV
  have := hA.1 (o, r, 0, b, 0) ⟨h1, rl, h2, h3, Or.inl ⟨rfl, hb, rfl⟩⟩
  exact this
theorem RC_b1 (hA : RC_tp G A p) (hV : g_Vn (g_rs G) o r) {a : Nat} (ha : a < 12) : lb (A (r * 4 + o % 4)) (8 + a) = p.1 (o, r, 1, a, 0) := by
  obtain ⟨h1, rl, h2, h3⟩ := hV
  have := hA.1 (o, r, 1, a, 0) ⟨h1, rl, h2, h3, Or.inr (Or.inl ⟨rfl, ha, rfl⟩)⟩
  exact this
theorem RC_b2 (hl : (g_rs G).length ≤ 9) (hA : RC_tp G A p) (hp : ∀ u, p.1 u = true → g_wu G u) (hV : g_Vn (g_rs G) o r) {y : Nat} : lb (A (r * 4 + o % 4)) (20 + y) = true ↔ ∃ a s, p.1 (o, r, 2, a, s) = true ∧ y = s * 4 + a % 4 := by
  have hr : r < 9 := by
    obtain ⟨-, rl, h2, -⟩ := hV
    have := g_len_get h2
    omega
  constructor
  · intro h
    obtain ⟨u, hu, h1, h2⟩ := hA.2.1 _ _ (by omega) h
    have h3 := hA.1 u hu
    obtain ⟨o', r', st, a, s⟩ := u
    have h1 : r' * 4 + o' % 4 = r * 4 + o % 4 := h1
    obtain rfl : r' = r := by omega
    obtain rfl : o' = o := g_Vn_nd (g_wu_V hu) hV (by omega)
    have hu2 := hu
    obtain ⟨-, rl, -, -, h4⟩ := hu2
    rw [show g_nd (o', r', st, a, s) = r' * 4 + o' % 4 from rfl, h2, h] at h3
    unfold g_sb at h2
    rcases h4 with ⟨e, h5, h6⟩ | ⟨e, h5, h6⟩ | ⟨e, h5, rl2, h6, h7, h8⟩
    · rw [if_pos e] at h2
      have h2 : a = 20 + y := h2
      have h5 : a < 8 := h5
      omega
    · rw [if_neg (by rw [e]; decide), if_pos e] at h2
      have h2 : 8 + a = 20 + y := h2
      have h5 : a < 12 := h5
      omega
    · rw [if_neg (by rw [e]; decide), if_neg (by rw [e]; decide)] at h2
      have h2 : 20 + (s * 4 + a % 4) = 20 + y := h2
      have e : st = 2 := e
      subst e
      exact ⟨a, s, h3.symm, by omega⟩
  · rintro ⟨a, s, h1, rfl⟩
    have h2 := hA.1 _ (hp _ h1)
    rw [h1] at h2
    exact h2
end
def mC (A : Nat → Int32) (o r : Nat) : Int32 := A (r * 4 + o % 4)
section
variable {scr : mSc} {d : Nat} {G : gSt} {s : mSt} {v o r : Nat} {p : (gTp → Bool) × Nat}
theorem S_tupm_25 {post : Int32 → mSt → Prop} {ex : Nat → mSt → Prop} {a1 : Int32} {S : Int64} (hS : ∀ i, 56 ≤ i → lb S i = false) (h : ∀ w, (∀ b, bt w b = true ↔ (b < 8 ∧ lb S b = true) ∨ ∃ y, y < 36 ∧ lb S (20 + y) = true ∧ bt (s.1 16 v y) b = true) → post w s) : ∀ (m x : Nat) (w : Int32) (z : Int64), x + m = 36 → (∀ i, lb z i = lb S (20 + x + i)) → (∀ b, bt w b = true ↔ (b < 8 ∧ lb S b = true) ∨ ∃ y, y < x ∧ lb S (20 + y) = true ∧ bt (s.1 16 v y) b = true) → r_Vs_tupleMembers_25 scr d v a1 post ex (m + 1) s w z (nI x) := by
  intro m
  induction m with
  | zero =>
    intro x w z hx hz hw
    obtain rfl : x = 36 := by omega
    exact w_Vs_tupleMembers_25 (pk_le 36 36 (fun _ => h w hw) (fun h => by omega))
  | succ m ih =>
    intro x w z hx hz hw
    refine w_Vs_tupleMembers_25 (pk_le 36 x (fun h => by omega) (fun _ => ?_))
    have hz2 : ∀ i, lb ((z.toUInt64 >>> (((1 : Int32)).toInt64.toUInt64 &&& Int64.toUInt64 63)).toInt64) i = lb S (20 + (x + 1) + i) := fun i => by
      have h1 := lb_shr z (k := 1) (by omega) i
      have h2 := hz (1 + i)
      rw [show 20 + x + (1 + i) = 20 + (x + 1) + i by omega] at h2
      exact h1.trans h2
    have h0 := hz 0
    rw [Nat.add_zero] at h0
    rw [show nI x + (1 : Int32) = nI (x + 1) from nI_1 x, pk_cl (x := nI x) x]
    refine ⟨fun e => ?_, fun _ => ⟨fun e => ih (x + 1) w _ (by omega) hz2 (fun b => ?_), fun e => ⟨pk_in x 36 (by omega), ih (x + 1) _ _ (by omega) hz2 (fun b => ?_)⟩⟩⟩
    · have e := c_0.mp e
      refine h w (fun b => ?_)
      rw [hw b]
      refine or_congr_right ⟨fun ⟨y, k1, k2⟩ => ⟨y, by omega, k2⟩, fun ⟨y, k1, k2, k3⟩ => ?_⟩
      by_cases hy : y < x
      · exact ⟨y, hy, k2, k3⟩
      · have := hz (y - x)
        rw [show 20 + x + (y - x) = 20 + y by omega, k2, e, lb_0] at this
        cases this
    · have e := (lb_a1 z).mp (c_0.mp e)
      rw [h0] at e
      rw [hw b]
      refine or_congr_right ⟨fun ⟨y, k1, k2⟩ => ⟨y, by omega, k2⟩, fun ⟨y, k1, k2, k3⟩ => ?_⟩
      by_cases hy : y = x
      · subst hy
        rw [e] at k2
        cases k2
      · exact ⟨y, by omega, k2, k3⟩
    · have e : lb S (20 + x) = true := by
        rw [← h0]
        cases h9 : lb z 0
        · exact absurd (c_0.mpr ((lb_a1 z).mpr h9)) e
        · rfl
      rw [b_or, Bool.or_eq_true, hw b]
      constructor
      · rintro ((k | ⟨y, k1, k2⟩) | k)
        · exact Or.inl k
        · exact Or.inr ⟨y, by omega, k2⟩
        · exact Or.inr ⟨x, by omega, e, k⟩
      · rintro (k | ⟨y, k1, k2, k3⟩)
        · exact Or.inl (Or.inl k)
        · by_cases hy : y = x
          · subst hy
            exact Or.inr k3
          · exact Or.inl (Or.inr ⟨y, by omega, k2, k3⟩)
theorem S_tupm {post : Int32 → mSt → Prop} (hl : (g_rs G).length ≤ 9) (hA : RC_tp G (s.2.1 15 v) p) (hp : ∀ u, p.1 u = true → g_wu G u) (hV : g_Vn (g_rs G) o r) (h : post (g_mk (g_pT p.1 (mC (s.1 16 v)) o r)) s) : X_Vs_tupleMembers scr (d + 1) s v (nI (r * 4 + o % 4)) post := by
  have hr : r < 9 := by
    obtain ⟨-, rl, h2, -⟩ := hV
    have := g_len_get h2
    omega
  have hbig : ∀ i, 56 ≤ i → lb (s.2.1 15 v (r * 4 + o % 4)) i = false := fun i hi => by
    cases h9 : lb (s.2.1 15 v (r * 4 + o % 4)) i with
    | false => rfl
    | true =>
      obtain ⟨u, hu, -, h2⟩ := hA.2.1 _ _ (by omega) h9
      have := g_sb_lt hl hu
      omega
  refine w_Vs_tupleMembers ⟨37, pk_in (r * 4 + o % 4) 36 (by omega), pk_in (r * 4 + o % 4) 36 (by omega), ?_⟩
  rw [pk_cl (x := nI (r * 4 + o % 4)) (r * 4 + o % 4)]
  refine S_tupm_25 hbig (fun w hw => ?_) 36 0 _ _ rfl (fun i => lb_shr _ (k := 20) (by omega) i) (fun b => ?_)
  · rw [g_mk_eq (w := w) (p := g_pT p.1 (mC (s.1 16 v)) o r) (fun b => ?_)]
    · exact h
    · rw [hw b]
      unfold g_pT
      constructor
      · rintro (⟨k1, k2⟩ | ⟨y, k1, k2, k3⟩)
        · rw [RC_b0 hA hV k1] at k2
          exact Or.inl ⟨k1, k2⟩
        · obtain ⟨a, s', e1, e2⟩ := (RC_b2 hl hA hp hV).mp k2
          exact Or.inr ⟨a, s', e1, by unfold mC; rw [← e2]; exact k3⟩
      · rintro (⟨k1, k2⟩ | ⟨a, s', k1, k2⟩)
        · rw [← RC_b0 hA hV k1] at k2
          exact Or.inl ⟨k1, k2⟩
        · have hw2 := hp _ k1
          obtain ⟨-, rl, -, -, h4⟩ := hw2
          rcases h4 with ⟨e, -⟩ | ⟨e, -⟩ | ⟨-, h5, rl2, h6, -⟩
          · exact absurd e (by show ¬ 2 = 0; omega)
          · exact absurd e (by show ¬ 2 = 1; omega)
          · have h7 : s' < (g_rs G).length := g_len_get h6
            exact Or.inr ⟨s' * 4 + a % 4, by omega, (RC_b2 hl hA hp hV).mpr ⟨a, s', k1, rfl⟩, k2⟩
  · rw [b_and, b_255, Bool.and_eq_true, decide_eq_true_eq]
    constructor
    · rintro ⟨k1, k2⟩
      rw [lb_i32 _ (by omega)] at k1
      exact Or.inl ⟨k2, k1⟩
    · rintro (⟨k1, k2⟩ | ⟨y, k1, -⟩)
      · rw [lb_i32 _ (by omega)]
        exact ⟨k2, k1⟩
      · omega
theorem S_objm_12 {post : Int32 → mSt → Prop} {ex : Nat → mSt → Prop} {t x f : Nat} {a3 : Int32} (ht : t < 36) (hx : x < 9) (hf : f < 12) (h : ∀ w, (∀ b, bt w b = true ↔ ∃ a, f ≤ a ∧ a < f + 4 ∧ lb (s.2.1 15 v t) (8 + a) = true ∧ bt (s.1 16 v (x * 4 + a % 4)) b = true) → post w s) : ∀ (m k : Nat) (w : Int32), k + m = 4 → (∀ b, bt w b = true ↔ ∃ a, f ≤ a ∧ a < f + k ∧ lb (s.2.1 15 v t) (8 + a) = true ∧ bt (s.1 16 v (x * 4 + a % 4)) b = true) → r_Vs_objectMembers_12 scr (d + 1) v (nI t) (nI x) a3 post ex (m + 1) s (nI f) w (nI (f + k)) := by
  intro m
  induction m with
  | zero =>
    intro k w hk hw
    obtain rfl : k = 4 := by omega
    refine w_Vs_objectMembers_12 ?_
    rw [show nI f + (4 : Int32) = nI (f + 4) from nI_add f 4]
    exact pk_le (f + 4) (f + 4) (fun _ => h w hw) (fun h => by omega)
  | succ m ih =>
    intro k w hk hw
    refine w_Vs_objectMembers_12 ?_
    rw [show nI f + (4 : Int32) = nI (f + 4) from nI_add f 4, show nI (f + k) + (1 : Int32) = nI (f + (k + 1)) from nI_1 _, show (8 : Int32) + nI (f + k) = nI (8 + (f + k)) from nI_add 8 _, pk_cl (x := nI t) t]
    refine pk_le (f + 4) (f + k) (fun h => by omega) (fun _ => ⟨pk_in t 36 ht, c_bit (by omega) (fun e => ih (k + 1) w (by omega) (fun b => ?_)) (fun e => S_nodeOf (by omega) ⟨pk_in (x * 4 + (f + k) % 4) 36 (by omega), ?_⟩)⟩)
    · rw [hw b]
      refine ⟨fun ⟨a, k1, k2, k3⟩ => ⟨a, k1, by omega, k3⟩, fun ⟨a, k1, k2, k3, k4⟩ => ?_⟩
      by_cases ea : a = f + k
      · subst ea
        rw [e] at k3
        cases k3
      · exact ⟨a, k1, by omega, k3, k4⟩
    · rw [pk_cl (x := nI (x * 4 + (f + k) % 4)) (x * 4 + (f + k) % 4)]
      refine ih (k + 1) _ (by omega) (fun b => ?_)
      rw [b_or, Bool.or_eq_true, hw b]
      constructor
      · rintro (⟨a, k1, k2, k3⟩ | k1)
        · exact ⟨a, k1, by omega, k3⟩
        · exact ⟨f + k, by omega, by omega, e, k1⟩
      · rintro ⟨a, k1, k2, k3, k4⟩
        by_cases ea : a = f + k
        · subst ea
          exact Or.inr k4
        · exact Or.inl ⟨a, k1, by omega, k3, k4⟩
theorem S_objm {post : Int32 → mSt → Prop} {t x : Nat} (hok : ∀ rl ∈ g_rs G, rl.1 < 3) (hl : (g_rs G).length ≤ 9) (hA : RC_tp G (s.2.1 15 v) p) (hp : ∀ u, p.1 u = true → g_wu G u) (hV : g_Vn (g_rs G) o t) (hx : x < (g_rs G).length) (h : post (g_mk (g_pF (g_rs G) p.1 (mC (s.1 16 v)) o t x)) s) : X_Vs_objectMembers scr (d + 2) s v (nI (t * 4 + o % 4)) (nI x) (nI (g_nsp (g_rs G) x)) post := by
  have ht : t < 9 := by
    obtain ⟨-, rl, h2, -⟩ := hV
    have := g_len_get h2
    omega
  have hn : g_nsp (g_rs G) x < 3 := by
    have hxe : (g_rs G)[x]? = some (g_rs G)[x] := List.getElem?_eq_getElem hx
    unfold g_nsp
    rw [hxe]
    exact hok _ (List.mem_of_getElem? hxe)
  refine w_Vs_objectMembers ⟨5, ?_⟩
  rw [show nI (g_nsp (g_rs G) x) * (4 : Int32) = nI (g_nsp (g_rs G) x * 4) from pk_mul _ 4]
  refine S_objm_12 (t := t * 4 + o % 4) (x := x) (f := g_nsp (g_rs G) x * 4) (by omega) (by omega) (by omega) (fun w hw => ?_) 4 0 0 rfl (fun b => ?_)
  · rw [g_mk_eq (w := w) (p := g_pF (g_rs G) p.1 (mC (s.1 16 v)) o t x) (fun b => ?_)]
    · exact h
    · rw [hw b]
      constructor
      · rintro ⟨a, k1, k2, k3, k4⟩
        rw [RC_b1 hA hV (by omega)] at k3
        exact ⟨a, k3, by omega, k4⟩
      · rintro ⟨a, k1, k2, k3⟩
        have hw2 := hp _ k1
        obtain ⟨-, rl, -, -, h4⟩ := hw2
        have ha : a < 12 := by
          rcases h4 with ⟨e, -⟩ | ⟨-, h5, -⟩ | ⟨e, -⟩
          · exact absurd e (by show ¬ 1 = 0; omega)
          · exact h5
          · exact absurd e (by show ¬ 1 = 2; omega)
        rw [← RC_b1 hA hV ha] at k1
        exact ⟨a, by omega, by omega, k1, k3⟩
  · rw [b_0]
    exact ⟨fun h => (by cases h), fun ⟨a, k1, k2, _⟩ => by omega⟩
end
