def g_fd (c : gCh) (q : Nat) : Nat := match q with
  | 0 => c.1
  | 1 => c.2.1
  | 2 => c.2.2.1
  | 3 => c.2.2.2.1
  | 4 => c.2.2.2.2.1
  | _ => c.2.2.2.2.2
def g_ev : Nat → List (List gCh) → List (gCh × Nat)
  | _, [] => []
  | n, b :: l => b.map (fun c => (c, n + 1)) ++ g_ev (n + 1) l
theorem g_ev_a {b : List gCh} : ∀ {l : List (List gCh)} {n : Nat}, g_ev n (l ++ [b]) = g_ev n l ++ b.map (fun c => (c, n + l.length + 1))
  | [], n => by
    show b.map _ ++ [] = [] ++ b.map _
    simp
  | a :: l, n => by
    show a.map _ ++ g_ev (n + 1) (l ++ [b]) = (a.map _ ++ g_ev (n + 1) l) ++ b.map _
    rw [g_ev_a, List.append_assoc]
    congr 2
    apply List.map_congr_left
    intro c _
    show (c, n + 1 + l.length + 1) = (c, n + (l.length + 1) + 1)
    congr 1
    omega
theorem g_ev_len : ∀ {l : List (List gCh)} {n : Nat}, (g_ev n l).length + l.length = (g_fl l).length
  | [], _ => rfl
  | b :: l, n => by
    have ih := g_ev_len (l := l) (n := n + 1)
    show (b.map _ ++ g_ev (n + 1) l).length + (l.length + 1) = (g_fb b ++ g_fl l).length
    rw [List.length_append, List.length_append, List.length_map, g_fb_len]
    omega
def RM_bt (G : gSt) (s : mSt) : Prop := ((g_bt G).length ≤ 5 ∧ ∀ c ∈ g_bt G, g_okC c) ∧ s.1 18 0 19 = nI (g_bt G).length ∧ ∀ i c, (g_bt G)[i]? = some c → ∀ q, q < 6 → s.1 31 0 (6 * i + q) = nI (g_fd c q)
def RM_e (s : mSt) (k : Nat) (e : gCh × Nat) : Prop := s.1 30 0 k = nI e.2 ∧ ∀ q, q < 6 → s.1 29 0 (6 * k + q) = nI (g_fd e.1 q)
def RM_lg (G : gSt) (s : mSt) : Prop := (g_fl (g_lg G)).length ≤ 120 ∧ s.1 18 0 14 = nI (g_ev 0 (g_lg G)).length ∧ s.1 18 0 17 = nI (g_fl (g_lg G)).length ∧ s.1 18 0 18 = nI (g_lg G).length ∧ ∀ k e, (g_ev 0 (g_lg G))[k]? = some e → RM_e s k e
def F_mm (f _ j : Nat) : Prop := (f = 18 ∧ (j = 1 ∨ j = 14 ∨ j = 17 ∨ j = 18 ∨ j = 19)) ∨ f = 29 ∨ f = 30
section
variable {scr : mSc} {d : Nat} {s : mSt} {G : gSt}
theorem S_Mcommit_104 {post : Int32 → mSt → Prop} {ex : Nat → mSt → Prop} {a1 v2 : Int32} {b ch : Nat} (hb : b ≤ 5) (hch : ch + b ≤ 120) : ∀ (m x : Nat) (s : mSt), x + m = b → s.1 18 0 19 = nI b → s.1 18 0 14 = nI ch → (∀ t, mx_fr (fun f _ _ => f = 30) s t → (∀ q, x ≤ q → q < b → t.1 30 0 (ch + q) = s.1 18 0 18) → (∀ q, q < ch + x → t.1 30 0 q = s.1 30 0 q) → r_Md_commit_104 scr d a1 post ex 1 t v2 (nI b)) → r_Md_commit_104 scr d a1 post ex (m + 1) s v2 (nI x) := by
  intro m
  induction m with
  | zero =>
    intro x s hx h1 h2 h
    obtain rfl : x = b := by omega
    exact h s mx_fr.rf (fun q h1 h2 => by omega) (fun q _ => rfl)
  | succ m ih =>
    intro x s hx h1 h2 h
    refine w_Md_commit_104 (pk_le b x (fun h => by omega) (fun _ => ?_) h1)
    rw [h2, nI_add]
    refine ⟨pk_in (ch + x) 120 (by omega), ?_⟩
    rw [pk_cl (ch + x)]
    intro t e
    subst e
    rw [show nI x + (1 : Int32) = nI (x + 1) from nI_1 x]
    refine ih (x + 1) _ (by omega) ((mx_si_n (by omega)).trans h1) ((mx_si_n (by omega)).trans h2) (fun t g1 g2 g3 => h t (mx_fr.tr (mx_fr.si rfl) g1) (fun q p1 p2 => ?_) (fun q p => ?_))
    · by_cases hq : x + 1 ≤ q
      · rw [g2 q hq p2]
        exact mx_si_n (by omega)
      · obtain rfl : q = x := by omega
        rw [g3 (ch + q) (by omega)]
        exact mx_si_s
    · rw [g3 q (by omega)]
      exact mx_si_n (by omega)
theorem S_Mcommit_65 {post : Int32 → mSt → Prop} {ex : Nat → mSt → Prop} {a1 v2 : Int32} {b ch k : Nat} (hb : b ≤ 5) (hch : ch + b ≤ 120) : ∀ (m x : Nat) (s : mSt), x + m = 6 * b → s.1 18 0 19 = nI b → s.1 18 0 14 = nI ch → (∀ t, mx_fr (fun f _ _ => f = 29) s t → (∀ q, x ≤ q → q < 6 * b → t.1 29 0 (6 * ch + q) = s.1 31 0 q) → (∀ q, q < 6 * ch + x → t.1 29 0 q = s.1 29 0 q) → r_Md_commit_104 scr d a1 post ex k t v2 0) → r_Md_commit_65 scr d a1 post ex (k + m + 1) s v2 (nI x) := by
  intro m
  induction m with
  | zero =>
    intro x s hx h1 h2 h
    obtain rfl : x = 6 * b := by omega
    refine w_Md_commit_65 ?_
    rw [h1, show (6 : Int32) * nI b = nI (6 * b) from pk_mul 6 b]
    exact pk_le (6 * b) (6 * b) (fun _ => h s mx_fr.rf (fun q h1 h2 => by omega) (fun q _ => rfl)) (fun h => by omega)
  | succ m ih =>
    intro x s hx h1 h2 h
    refine w_Md_commit_65 ?_
    rw [h1, h2, show (6 : Int32) * nI b = nI (6 * b) from pk_mul 6 b, show (6 : Int32) * nI ch = nI (6 * ch) from pk_mul 6 ch, nI_add]
    refine pk_le (6 * b) x (fun h => by omega) (fun _ => ⟨pk_in x 30 (by omega), pk_in (6 * ch + x) 720 (by omega), ?_⟩)
    rw [pk_cl (6 * ch + x), pk_cl x]
    intro t e
    subst e
    rw [show nI x + (1 : Int32) = nI (x + 1) from nI_1 x]
    refine ih (x + 1) _ (by omega) ((mx_si_n (by omega)).trans h1) ((mx_si_n (by omega)).trans h2) (fun t g1 g2 g3 => h t (mx_fr.tr (mx_fr.si rfl) g1) (fun q p1 p2 => ?_) (fun q p => ?_))
    · by_cases hq : x + 1 ≤ q
      · rw [g2 q hq p2]
        exact mx_si_n (by omega)
      · obtain rfl : q = x := by omega
        rw [g3 (6 * ch + q) (by omega)]
        exact mx_si_s
    · rw [g3 q (by omega)]
      exact mx_si_n (by omega)
theorem RM_bt_nil {t : mSt} (h : t.1 18 0 19 = 0) (hG : g_bt G = []) : RM_bt G t := by
  unfold RM_bt
  rw [hG]
  exact ⟨⟨Nat.zero_le _, fun c h => by cases h⟩, h, fun i c h => by cases h⟩
theorem RM_lg_fr {P : Nat → Nat → Nat → Prop} {t : mSt} (h : RM_lg G s) (hf : mx_fr P s t) (h1 : ¬ P 18 0 14) (h2 : ¬ P 18 0 17) (h3 : ¬ P 18 0 18) (h4 : ∀ j, ¬ P 29 0 j) (h5 : ∀ j, ¬ P 30 0 j) : RM_lg G t := by
  obtain ⟨hk, ha, hb, hc, hr⟩ := h
  exact ⟨hk, (hf.1 _ _ _ h1).trans ha, (hf.1 _ _ _ h2).trans hb, (hf.1 _ _ _ h3).trans hc, fun k e he => ⟨(hf.1 _ _ _ (h5 _)).trans (hr k e he).1, fun q hq => (hf.1 _ _ _ (h4 _)).trans ((hr k e he).2 q hq)⟩⟩
end
