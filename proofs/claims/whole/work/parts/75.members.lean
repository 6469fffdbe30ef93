noncomputable def g_bs (p : Nat → Prop) : Nat → Nat
  | 0 => 0
  | k + 1 => 2 ^ k * @ite Nat (p k) (Classical.propDecidable _) 1 0 + g_bs p k
theorem g_bs_lt {p : Nat → Prop} : ∀ k, g_bs p k < 2 ^ k
  | 0 => Nat.one_pos
  | k + 1 => by
    have ih := g_bs_lt (p := p) k
    show 2 ^ k * @ite Nat (p k) (Classical.propDecidable _) 1 0 + g_bs p k < 2 ^ (k + 1)
    rw [Nat.pow_succ]
    by_cases h : p k
    · rw [if_pos h]
      omega
    · rw [if_neg h]
      omega
theorem g_bs_t {p : Nat → Prop} : ∀ k b, (g_bs p k).testBit b = true ↔ b < k ∧ p b
  | 0, b => by
    show (0 : Nat).testBit b = true ↔ _
    rw [Nat.zero_testBit]
    exact ⟨fun h => (by cases h), fun h => by omega⟩
  | k + 1, b => by
    show (2 ^ k * @ite Nat (p k) (Classical.propDecidable _) 1 0 + g_bs p k).testBit b = true ↔ _
    rw [Nat.testBit_two_pow_mul_add _ (g_bs_lt k)]
    by_cases hb : b < k
    · rw [if_pos hb, g_bs_t k b]
      exact ⟨fun h => ⟨by omega, h.2⟩, fun h => ⟨hb, h.2⟩⟩
    · rw [if_neg hb]
      by_cases e : b = k
      · subst e
        rw [Nat.sub_self]
        by_cases h : p b
        · rw [if_pos h]
          exact ⟨fun _ => ⟨by omega, h⟩, fun _ => by decide⟩
        · rw [if_neg h]
          exact ⟨fun h => (by cases h), fun h9 => absurd h9.2 h⟩
      · have : ∀ x : Nat, x < 2 → x.testBit (b - k) = false := fun x hx => by
          obtain ⟨y, hy⟩ : ∃ y, b - k = y + 1 := ⟨b - k - 1, by omega⟩
          rw [hy, Nat.testBit_succ, show x / 2 = 0 by omega, Nat.zero_testBit]
        have h2 : @ite Nat (p k) (Classical.propDecidable _) 1 0 < 2 := by
          by_cases h : p k
          · rw [if_pos h]
            omega
          · rw [if_neg h]
            omega
        rw [this _ h2]
        exact ⟨fun h => (by cases h), fun h => by omega⟩
noncomputable def g_mk (p : Nat → Prop) : Int32 := nI (g_bs p 32)
theorem g_mk_b {p : Nat → Prop} {b : Nat} : bt (g_mk p) b = true ↔ b < 32 ∧ p b := by
  show (BitVec.ofNat 32 (g_bs p 32)).getLsbD b = true ↔ _
  rw [BitVec.getLsbD_ofNat, Bool.and_eq_true, decide_eq_true_eq, g_bs_t]
  exact ⟨fun h => h.2, fun h => ⟨h.1, h⟩⟩
theorem g_mk_eq {p : Nat → Prop} {w : Int32} (h : ∀ b, bt w b = true ↔ p b) : w = g_mk p := i_le_as (fun b hb => g_mk_b.mpr ⟨b_lt hb, (h b).mp hb⟩) (fun b hb => (h b).mpr (g_mk_b.mp hb).2)
def g_nsp (rs : List gRl) (x : Nat) : Nat := match rs[x]? with
  | some rl => rl.1
  | none => 0
def g_Vn (rs : List gRl) (o r : Nat) : Prop := o < 12 ∧ ∃ rl, rs[r]? = some rl ∧ rl.1 = o / 4
def g_pT (T : gTp → Bool) (m : Nat → Nat → Int32) (o r b : Nat) : Prop := (b < 8 ∧ T (o, r, 0, b, 0) = true) ∨ ∃ a s, T (o, r, 2, a, s) = true ∧ bt (m a s) b = true
def g_pF (rs : List gRl) (T : gTp → Bool) (m : Nat → Nat → Int32) (o t x b : Nat) : Prop := ∃ a, T (o, t, 1, a, 0) = true ∧ a / 4 = g_nsp rs x ∧ bt (m a x) b = true
noncomputable def g_env (rs : List gRl) (T : gTp → Bool) (m : Nat → Nat → Int32) (o r : Nat) (sp : gSp) : Int32 := if sp.1 = 84 then g_mk (g_pT T m o r) else if sp.1 = 99 then m o sp.2.2.1 else g_mk (g_pF rs T m o sp.2.1 sp.2.2.1)
noncomputable def g_F (rs : List gRl) (T : gTp → Bool) (m : Nat → Nat → Int32) (o r : Nat) : Int32 := match rs[r]? with
  | none => 0
  | some rl => match g_rule rs rl with
    | none => 0
    | some P => P.2 (g_env rs T m o r)
def g_Tw (rs : List gRl) (T : gTp → Bool) : Prop := ∀ o r st a s, T (o, r, st, a, s) = true → g_Vn rs o r ∧ (st = 0 → a < 8 ∧ s = 0) ∧ (st = 1 → a < 12 ∧ s = 0) ∧ (st = 2 → g_Vn rs a s ∧ ∃ rl, rs[r]? = some rl ∧ bt rl.2.2.2.1 s = true) ∧ st < 3
section
variable {rs : List gRl} {T : gTp → Bool} {m m' : Nat → Nat → Int32} {o r : Nat} {rl : gRl} {P : gPr}
theorem g_F_eq (h1 : rs[r]? = some rl) (h2 : g_rule rs rl = some P) : g_F rs T m o r = P.2 (g_env rs T m o r) := by
  unfold g_F
  rw [h1]
  show (match g_rule rs rl with
    | none => 0
    | some P => P.2 (g_env rs T m o r)) = _
  rw [h2]
theorem g_sn_V {x : Nat} (ho : o < 12) (h1 : rs[r]? = some rl) (h2 : rl.1 = o / 4) (h : g_sn rs rl x = true) : g_Vn rs o x := by
  unfold g_sn at h
  have h := of_decide_eq_true h
  cases hx : rs[x]? with
  | none =>
    rw [hx] at h
    cases h
  | some rx =>
    rw [hx] at h
    have h : some rx.1 = some rl.1 := h
    exact ⟨ho, rx, hx, by rw [Option.some.inj h]; exact h2⟩
theorem g_nsp_V {x a : Nat} (ha : a < 12) (hx : x < rs.length) (h : a / 4 = g_nsp rs x) : g_Vn rs a x := by
  have hxe : rs[x]? = some rs[x] := List.getElem?_eq_getElem hx
  refine ⟨ha, rs[x], hxe, ?_⟩
  unfold g_nsp at h
  rw [hxe] at h
  exact h.symm
theorem g_env_le {sp : gSp} (hT : g_Tw rs T) (hV : g_Vn rs o r) (h1 : rs[r]? = some rl) (hlf : g_lf rs rl sp) (hm : ∀ a x, g_Vn rs a x → g_ns rs rl sp x → i_le (m a x) (m' a x)) : i_le (g_env rs T m o r sp) (g_env rs T m' o r sp) := by
  obtain ⟨ho, rl', h2, h3⟩ := hV
  rw [h1] at h2
  cases h2
  unfold g_env
  rcases hlf with ⟨e, -⟩ | ⟨e, -, hx, hs⟩ | ⟨e, -, -, hx⟩
  · rw [if_pos e, if_pos e]
    intro b hb
    obtain ⟨hb1, hb2⟩ := g_mk_b.mp hb
    refine g_mk_b.mpr ⟨hb1, ?_⟩
    rcases hb2 with hb2 | ⟨a, s, k1, k2⟩
    · exact Or.inl hb2
    · obtain ⟨k3, -, -, k4, -⟩ := hT _ _ _ _ _ k1
      obtain ⟨k5, rl2, k6, k7⟩ := k4 rfl
      rw [h1] at k6
      cases k6
      obtain ⟨k8, rls, k9, -⟩ := k5
      exact Or.inr ⟨a, s, k1, hm a s (k4 rfl).1 (Or.inl ⟨e, g_len_get k9, k7⟩) b k2⟩
  · rw [if_neg (by rw [e]; decide), if_pos e, if_neg (by rw [e]; decide), if_pos e]
    exact hm o _ (g_sn_V ho h1 h3 hs) (Or.inr (Or.inl ⟨e, rfl⟩))
  · rw [if_neg (by rw [e]; decide), if_neg (by rw [e]; decide), if_neg (by rw [e]; decide), if_neg (by rw [e]; decide)]
    intro b hb
    obtain ⟨hb1, a, k1, k2, k3⟩ := g_mk_b.mp hb
    obtain ⟨-, -, k5, -⟩ := hT _ _ _ _ _ k1
    exact g_mk_b.mpr ⟨hb1, a, k1, k2, hm a _ (g_nsp_V (k5 rfl).1 hx k2) (Or.inr (Or.inr ⟨e, Or.inr rfl⟩)) b k3⟩
theorem g_F_le (hT : g_Tw rs T) (hV : g_Vn rs o r) (h1 : ∀ a x, g_Vn rs a x → g_N rs r x → i_le (m a x) (m' a x)) (h2 : ∀ a x, g_Vn rs a x → g_B rs r x → m a x = m' a x) : i_le (g_F rs T m o r) (g_F rs T m' o r) := by
  obtain ⟨ho, rl, h3, h4⟩ := hV
  cases hP : g_rule rs rl with
  | none =>
    unfold g_F
    rw [h3]
    show i_le (match g_rule rs rl with
      | none => 0
      | some P => P.2 (g_env rs T m o r)) _
    rw [hP]
    intro b hb
    have hb : bt 0 b = true := hb
    rw [b_0] at hb
    cases hb
  | some P =>
    rw [g_F_eq h3 hP, g_F_eq h3 hP]
    refine (g_rule_ok hP).2.2.2.2.2.1 _ _ (fun sp hs hl => g_env_le hT ⟨ho, rl, h3, h4⟩ h3 hl (fun a x hv hn => h1 a x hv ⟨rl, P, h3, hP, sp, hs, hn⟩)) (fun sp hs hl hb => ?_)
    exact i_le_as (g_env_le hT ⟨ho, rl, h3, h4⟩ h3 hl (fun a x hv hn => by rw [h2 a x hv ⟨rl, P, h3, hP, sp, hs, hb, hn⟩]; exact i_le_rf _)) (g_env_le hT ⟨ho, rl, h3, h4⟩ h3 hl (fun a x hv hn => by rw [h2 a x hv ⟨rl, P, h3, hP, sp, hs, hb, hn⟩]; exact i_le_rf _))
theorem g_F_cg (hT : g_Tw rs T) (hV : g_Vn rs o r) (h1 : ∀ a x, g_Vn rs a x → g_N rs r x → m a x = m' a x) : g_F rs T m o r = g_F rs T m' o r := i_le_as (g_F_le hT hV (fun a x hv hn => by rw [h1 a x hv hn]; exact i_le_rf _) (fun a x hv hb => h1 a x hv (g_B_N hb))) (g_F_le hT hV (fun a x hv hn => by rw [h1 a x hv hn]; exact i_le_rf _) (fun a x hv hb => (h1 a x hv (g_B_N hb)).symm))
theorem g_F_top (hT : g_Tw rs T) (hV : g_Vn rs o r) (h1 : ∀ a x, g_Vn rs a x → i_le (m a x) 255) : i_le (g_F rs T m o r) 255 := by
  obtain ⟨ho, rl, h3, h4⟩ := hV
  cases hP : g_rule rs rl with
  | none =>
    unfold g_F
    rw [h3]
    show i_le (match g_rule rs rl with
      | none => 0
      | some P => P.2 (g_env rs T m o r)) _
    rw [hP]
    intro b hb
    have hb : bt 0 b = true := hb
    rw [b_0] at hb
    cases hb
  | some P =>
    rw [g_F_eq h3 hP]
    refine (g_rule_ok hP).2.2.2.2.2.2 _ _ (fun sp hs hl => ?_)
    unfold g_env
    rcases hl with ⟨e, -⟩ | ⟨e, -, hx, hs⟩ | ⟨e, -, -, hx⟩
    · rw [if_pos e]
      intro b hb
      obtain ⟨hb1, hb2⟩ := g_mk_b.mp hb
      rcases hb2 with hb2 | ⟨a, s, k1, k2⟩
      · rw [b_255]
        exact decide_eq_true hb2.1
      · exact h1 a s ((hT _ _ _ _ _ k1).2.2.2.1 rfl).1 b k2
    · rw [if_neg (by rw [e]; decide), if_pos e]
      exact h1 o _ (g_sn_V ho h3 h4 hs)
    · rw [if_neg (by rw [e]; decide), if_neg (by rw [e]; decide)]
      intro b hb
      obtain ⟨hb1, a, k1, k2, k3⟩ := g_mk_b.mp hb
      exact h1 a _ (g_nsp_V ((hT _ _ _ _ _ k1).2.2.1 rfl).1 hx k2) b k3
end
def g_lsm (rs : List gRl) (T : gTp → Bool) (l : Nat) (m : Nat → Nat → Int32) : Prop := ∀ m' : Nat → Nat → Int32, (∀ o r, g_Vn rs o r → g_lev rs r < l → m' o r = m o r) → (∀ o r, g_Vn rs o r → g_lev rs r = l → i_le (g_F rs T m' o r) (m' o r)) → ∀ o r, g_Vn rs o r → g_lev rs r = l → i_le (m o r) (m' o r)
def g_isM (rs : List gRl) (T : gTp → Bool) (m : Nat → Nat → Int32) : Prop := (∀ o r, g_Vn rs o r → m o r = g_F rs T m o r) ∧ ∀ l, g_lsm rs T l m
theorem g_isM_u {rs : List gRl} {T : gTp → Bool} {m m' : Nat → Nat → Int32} (h : g_isM rs T m) (h' : g_isM rs T m') : ∀ o r, g_Vn rs o r → m o r = m' o r := by
  have key : ∀ l, ∀ o r, g_Vn rs o r → g_lev rs r = l → m o r = m' o r := by
    intro l
    induction l using Nat.strongRecOn with
    | ind l ih =>
      intro o r hV hl
      have low : ∀ o r, g_Vn rs o r → g_lev rs r < l → m' o r = m o r := fun o r hV hl => (ih _ hl o r hV rfl).symm
      exact i_le_as (h.2 l m' low (fun o r hV _ => by rw [← h'.1 o r hV]; exact i_le_rf _) o r hV hl) (h'.2 l m (fun o r hV hl => (low o r hV hl).symm) (fun o r hV _ => by rw [← h.1 o r hV]; exact i_le_rf _) o r hV hl)
  exact fun o r hV => key _ o r hV rfl
def g_mid (rs : List gRl) (T : gTp → Bool) (l : Nat) (m : Nat → Nat → Int32) : Prop := (∀ o r, g_Vn rs o r → g_lev rs r < l → m o r = g_F rs T m o r) ∧ (∀ l', l' ≤ l → g_lsm rs T l' m) ∧ (∀ o r, g_Vn rs o r → g_lev rs r = l → i_le (m o r) (g_F rs T m o r)) ∧ (∀ o r, g_Vn rs o r → l < g_lev rs r → m o r = 0) ∧ ∀ o r, g_Vn rs o r → i_le (m o r) 255
section
variable {rs : List gRl} {T : gTp → Bool} {m m' : Nat → Nat → Int32} {l : Nat}
theorem i_le_0 (x : Int32) : i_le 0 x := fun b hb => by
  rw [b_0] at hb
  cases hb
theorem g_mid_0 (h : ∀ o r, g_Vn rs o r → m o r = 0) : g_mid rs T 0 m := ⟨fun o r _ hl => by omega, fun l' hl' m' _ _ o r hV _ => by rw [h o r hV]; exact i_le_0 _, fun o r hV _ => by rw [h o r hV]; exact i_le_0 _, fun o r hV _ => h o r hV, fun o r hV => by rw [h o r hV]; exact i_le_0 _⟩
theorem g_mid_up (h : g_mid rs T l m) (hf : ∀ o r, g_Vn rs o r → g_lev rs r = l → m o r = g_F rs T m o r) : g_mid rs T (l + 1) m := by
  obtain ⟨h1, h2, h3, h4, h5⟩ := h
  refine ⟨fun o r hV hl => ?_, fun l' hl' => ?_, fun o r hV hl => ?_, fun o r hV hl => h4 o r hV (by omega), h5⟩
  · by_cases e : g_lev rs r = l
    · exact hf o r hV e
    · exact h1 o r hV (by omega)
  · by_cases e : l' = l + 1
    · intro m' _ _ o r hV hl
      rw [h4 o r hV (by omega)]
      exact i_le_0 _
    · exact h2 l' (by omega)
  · rw [h4 o r hV (by omega)]
    exact i_le_0 _
theorem g_mid_M (h : g_mid rs T l m) (hl : ∀ o r, g_Vn rs o r → g_lev rs r < l) : g_isM rs T m := by
  refine ⟨fun o r hV => h.1 o r hV (hl o r hV), fun l' => ?_⟩
  by_cases e : l' ≤ l
  · exact h.2.1 l' e
  · intro m' _ _ o r hV hl'
    have := hl o r hV
    omega
theorem g_mid_1 {o r : Nat} (hg : ¬ g_ring rs) (hT : g_Tw rs T) (h : g_mid rs T l m) (hV : g_Vn rs o r) (hl : g_lev rs r = l) (e1 : m' o r = g_F rs T m o r) (e2 : ∀ a x, g_Vn rs a x → ¬ (a = o ∧ x = r) → m' a x = m a x) : g_mid rs T l m' ∧ ∀ a x, g_Vn rs a x → i_le (m a x) (m' a x) := by
  obtain ⟨h1, h2, h3, h4, h5⟩ := h
  have hsol := (g_lev_ok hg).1
  have up : ∀ a x, g_Vn rs a x → i_le (m a x) (m' a x) := fun a x hv => by
    by_cases e : a = o ∧ x = r
    · obtain ⟨rfl, rfl⟩ := e
      rw [e1]
      exact h3 a x hv hl
    · rw [e2 a x hv e]
      exact i_le_rf _
  have low : ∀ a x, g_Vn rs a x → ¬ g_lev rs x = l → m' a x = m a x := fun a x hv hx => e2 a x hv (fun e => hx (by rw [e.2]; exact hl))
  have Fle : ∀ a x, g_Vn rs a x → g_lev rs x = l → i_le (g_F rs T m a x) (g_F rs T m' a x) := fun a x hv hx => g_F_le hT hv (fun b y hb _ => up b y hb) (fun b y hb hB => (low b y hb (by have := (hsol x y).2 hB; omega)).symm)
  refine ⟨⟨fun a x hv hx => ?_, fun l' hl' => ?_, fun a x hv hx => ?_, fun a x hv hx => ?_, fun a x hv => ?_⟩, up⟩
  · rw [low a x hv (by omega), h1 a x hv hx]
    exact g_F_cg hT hv (fun b y hb hN => (low b y hb (by have := (hsol x y).1 hN; omega)).symm)
  · by_cases e : l' = l
    · subst e
      intro m'' k1 k2 a x hv hx
      have k1' : ∀ a x, g_Vn rs a x → g_lev rs x < l' → m'' a x = m a x := fun a x hv hx => (k1 a x hv hx).trans (low a x hv (by omega))
      have k3 := h2 l' (Nat.le_refl _) m'' k1' k2
      by_cases e3 : a = o ∧ x = r
      · obtain ⟨rfl, rfl⟩ := e3
        rw [e1]
        refine i_le_tr (g_F_le hT hv (fun b y hb hN => ?_) (fun b y hb hB => ?_)) (k2 a x hv hx)
        · by_cases e4 : g_lev rs y = l'
          · exact k3 b y hb e4
          · rw [k1' b y hb (by have := (hsol x y).1 hN; omega)]
            exact i_le_rf _
        · exact (k1' b y hb (by have := (hsol x y).2 hB; omega)).symm
      · rw [e2 a x hv e3]
        exact k3 a x hv hx
    · intro m'' k1 k2 a x hv hx
      rw [low a x hv (by omega)]
      exact h2 l' hl' m'' (fun a x hv hx => (k1 a x hv hx).trans (low a x hv (by omega))) k2 a x hv hx
  · by_cases e3 : a = o ∧ x = r
    · obtain ⟨rfl, rfl⟩ := e3
      rw [e1]
      exact Fle a x hv hx
    · rw [e2 a x hv e3]
      exact i_le_tr (h3 a x hv hx) (Fle a x hv hx)
  · rw [low a x hv (by omega)]
    exact h4 a x hv hx
  · by_cases e3 : a = o ∧ x = r
    · obtain ⟨rfl, rfl⟩ := e3
      rw [e1]
      exact g_F_top hT hv h5
    · rw [e2 a x hv e3]
      exact h5 a x hv
noncomputable def g_size (rs : List gRl) (m : Nat → Nat → Int32) : Nat := g_cnt (fun i => i / 32 < rs.length ∧ bt (m (4 * g_nsp rs (i / 32) + i / 8 % 4) (i / 32)) (i % 8) = true) 288
theorem g_size_le : g_size rs m ≤ 288 := g_cnt_le _
theorem g_nsp_at {r : Nat} (hok : ∀ rl ∈ rs, rl.1 < 3) (hr : r < rs.length) {p : Nat} (hp : p < 4) : g_Vn rs (4 * g_nsp rs r + p) r := by
  have hre : rs[r]? = some rs[r] := List.getElem?_eq_getElem hr
  have h1 : g_nsp rs r = rs[r].1 := by
    unfold g_nsp
    rw [hre]
  have h2 := hok rs[r] (List.mem_of_getElem? hre)
  exact ⟨by omega, rs[r], hre, by omega⟩
theorem g_size_lt {o r : Nat} (hok : ∀ rl ∈ rs, rl.1 < 3) (hl9 : rs.length ≤ 9) (hup : ∀ a x, g_Vn rs a x → i_le (m a x) (m' a x)) (h5 : ∀ a x, g_Vn rs a x → i_le (m' a x) 255) (hV : g_Vn rs o r) (hne : ¬ m o r = m' o r) : g_size rs m < g_size rs m' := by
  obtain ⟨b, hb1, hb2⟩ : ∃ b, bt (m' o r) b = true ∧ ¬ bt (m o r) b = true := by
    by_cases h : ∃ b, bt (m' o r) b = true ∧ ¬ bt (m o r) b = true
    · exact h
    · exfalso
      refine hne (i_le_as (hup o r hV) (fun b hb => ?_))
      by_cases h9 : bt (m o r) b = true
      · exact h9
      · exact absurd ⟨b, hb, h9⟩ h
  have hb8 : b < 8 := by
    have h9 := h5 o r hV b hb1
    rw [b_255] at h9
    exact of_decide_eq_true h9
  obtain ⟨ho, rl, h1, h2⟩ := hV
  have hr := g_len_get h1
  have hns : g_nsp rs r = rl.1 := by
    unfold g_nsp
    rw [h1]
  refine g_cnt_lt 288 (32 * r + 8 * (o % 4) + b) (fun i hi h => ⟨h.1, hup _ _ (g_nsp_at hok h.1 (by omega)) _ h.2⟩) (by omega) ?_ ?_
  · rw [show (32 * r + 8 * (o % 4) + b) / 32 = r by omega, show (32 * r + 8 * (o % 4) + b) / 8 % 4 = o % 4 by omega, show (32 * r + 8 * (o % 4) + b) % 8 = b by omega, show 4 * g_nsp rs r + o % 4 = o by omega]
    exact ⟨hr, hb1⟩
  · rw [show (32 * r + 8 * (o % 4) + b) / 32 = r by omega, show (32 * r + 8 * (o % 4) + b) / 8 % 4 = o % 4 by omega, show (32 * r + 8 * (o % 4) + b) % 8 = b by omega, show 4 * g_nsp rs r + o % 4 = o by omega]
    exact fun h => hb2 h.2
end
