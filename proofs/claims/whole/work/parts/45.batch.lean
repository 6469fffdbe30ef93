theorem q_or (a b : Nat) : nI a ||| nI b = nI (a ||| b) := Int32.toBitVec_inj.mp (by
  rw [Int32.toBitVec_or]
  show BitVec.ofNat 32 a ||| BitVec.ofNat 32 b = BitVec.ofNat 32 (a ||| b)
  rw [BitVec.ofNat_or])
theorem q_pk {x y : Nat} (hx : x < 2 ^ 28) (hy : y < 16) : (nI x <<< ((4 : Int32) &&& 31)) ||| nI y = nI (16 * x + y) := by
  rw [pk_shlN (n := x) ((4 : Int32) &&& 31) 4 (by decide) (by omega), q_or]
  congr 1
  have h := Nat.two_pow_add_eq_or_of_lt (i := 4) (b := y) hy x
  rw [Nat.mul_comm x]
  exact h.symm
def g_bt (G : gSt) : List gCh := G.2.2.2.1
def g_lg (G : gSt) : List (List gCh) := G.2.2.2.2
def g_okC (c : gCh) : Prop := c.1 < 2 ∧ c.2.1 < 12 ∧ c.2.2.1 < 9 ∧ c.2.2.2.1 < 3 ∧ c.2.2.2.2.1 < 12 ∧ c.2.2.2.2.2 < 9
def g_pn (c : gCh) : Nat := 16 * (16 * (16 * (16 * (16 * c.2.2.2.2.2 + c.2.2.2.2.1) + c.2.2.2.1) + c.2.2.1) + c.2.1) + c.1
def g_pk (c : gCh) : Int32 := nI (g_pn c)
theorem g_pn_lt {c : gCh} (h : g_okC c) : g_pn c < 2 ^ 24 := by
  obtain ⟨h1, h2, h3, h4, h5, h6⟩ := h
  unfold g_pn
  omega
theorem g_pk_ne {c : gCh} (h : g_okC c) : ¬ g_pk c = -1 := by
  intro h9
  have h1 := nI_pos (n := g_pn c) (by have := g_pn_lt h; omega)
  rw [show nI (g_pn c) = -1 from h9] at h1
  exact h1 (by decide)
def g_fb (b : List gCh) : List Int32 := b.map g_pk ++ [-1]
def g_fl (l : List (List gCh)) : List Int32 := l.flatMap g_fb
theorem g_fl_a {l : List (List gCh)} {b : List gCh} : g_fl (l ++ [b]) = g_fl l ++ g_fb b := by
  unfold g_fl
  simp
def RC_bt (G : gSt) (s : mSt) : Prop := ((g_bt G).length ≤ 5 ∧ ∀ c ∈ g_bt G, g_okC c) ∧ s.1 0 0 3 = nI (g_bt G).length ∧ ∀ i c, (g_bt G)[i]? = some c → s.1 10 0 i = g_pk c
def RC_lg (G : gSt) (s : mSt) : Prop := ((g_fl (g_lg G)).length ≤ 120 ∧ (∀ b ∈ g_lg G, ¬ b = [] ∧ ∀ c ∈ b, g_okC c)) ∧ s.1 11 0 1 = nI (g_fl (g_lg G)).length ∧ s.1 11 0 2 = nI (g_lg G).length ∧ ∀ j x, (g_fl (g_lg G))[j]? = some x → s.1 12 0 j = x
section
variable {scr : mSc} {d : Nat} {s : mSt} {G : gSt}
theorem S_packed {post : Int32 → mSt → Prop} {a0 : Int32} {c : gCh} (hc : g_okC c) (h0 : a0 = nI c.1) (h : post (g_pk c) s) : X_Rs_packed scr (d + 1) s a0 (nI c.2.1) (nI c.2.2.1) (nI c.2.2.2.1) (nI c.2.2.2.2.1) (nI c.2.2.2.2.2) post := by
  obtain ⟨h1, h2, h3, h4, h5, h6⟩ := hc
  refine w_Rs_packed ?_
  rw [q_pk (by omega) (by omega), q_pk (by omega) (by omega), q_pk (by omega) (by omega), q_pk (by omega) (by omega)]
  have e0 : ∀ y, y < 2 → (nI (16 * (16 * (16 * (16 * c.2.2.2.2.2 + c.2.2.2.2.1) + c.2.2.2.1) + c.2.2.1) + c.2.1) <<< ((4 : Int32) &&& 31)) ||| nI y = nI (16 * (16 * (16 * (16 * (16 * c.2.2.2.2.2 + c.2.2.2.2.1) + c.2.2.2.1) + c.2.2.1) + c.2.1) + y) := fun y hy => q_pk (by omega) (by omega)
  have e1 := e0 0 (by omega)
  have e2 := e0 1 (by omega)
  rw [show (0 : Int32) = nI 0 from rfl, show (1 : Int32) = nI 1 from rfl, e1, e2]
  unfold g_pk g_pn at h
  refine pk_eq c.1 0 (fun h9 => ?_) (fun h9 => ?_) h0 rfl
  · rw [h9] at h
    exact h
  · rw [show c.1 = 1 by omega] at h
    exact h
def F_lg (f _ _ : Nat) : Prop := f = 12
theorem S_commit_w {post : Int32 → mSt → Prop} {ex : Nat → mSt → Prop} {a1 v2 v3 : Int32} {len w : Nat} (hw : w ≤ 5) (hlen : len + w < 120) : ∀ (m i : Nat) (s : mSt), i + m = w → s.1 11 0 1 = nI len → (∀ t, mx_fr F_lg s t → (∀ q, i ≤ q → q < w → t.1 12 0 (len + q) = s.1 10 0 q) → (∀ q, q < len + i → t.1 12 0 q = s.1 12 0 q) → r_Rs_commit_65 scr (d + 1) a1 post ex 1 t v2 v3 (nI w) (nI w)) → r_Rs_commit_65 scr (d + 1) a1 post ex (m + 1) s v2 v3 (nI w) (nI i) := by
  intro m
  induction m with
  | zero =>
    intro i s hi hl h
    obtain rfl : i = w := by omega
    exact h s mx_fr.rf (fun q h1 h2 => by omega) (fun q _ => rfl)
  | succ m ih =>
    intro i s hi hl h
    refine w_Rs_commit_65 (pk_le w i (fun h => by omega) (fun _ => ⟨pk_in i 5 (by omega), ?_⟩))
    rw [pk_cl i]
    refine S_write hl (by omega) ?_
    show r_Rs_commit_65 scr (d + 1) a1 post ex (m + 1) _ v2 v3 (nI w) (nI i + 1)
    rw [show nI i + (1 : Int32) = nI (i + 1) from nI_1 i]
    refine ih (i + 1) _ (by omega) ((mx_si_n (by omega)).trans hl) (fun t h1 h2 h3 => h t (mx_fr.tr (mx_fr.si rfl) h1) (fun q g1 g2 => ?_) (fun q g => ?_))
    · by_cases hq : i + 1 ≤ q
      · rw [h2 q hq g2]
        exact mx_si_n (by omega)
      · obtain rfl : q = i := by omega
        rw [h3 (len + q) (by omega)]
        exact mx_si_s
    · rw [h3 q (by omega)]
      exact mx_si_n (by omega)
end
