def RMe (s : mSt) (M : Nat → Prop) : Prop := ∀ x, x < 108 → (s.1 37 0 x = 1 ∧ M x) ∨ (s.1 37 0 x = 0 ∧ ¬ M x)
def F_37 (f _ _ : Nat) : Prop := f = 37
def RN37 (G : gSt) (s : mSt) (p : (gTp → Bool) × Nat) (U : Nat → gTp) : Prop := RM_lg G s ∧ RM_pl G s p U
def g_x (u : gTp) : Nat := 9 * u.1 + u.2.1
def g_y (u : gTp) : Nat := 9 * u.2.2.2.1 + u.2.2.2.2
section
variable {scr : mSc} {d : Nat} {G : gSt} {s : mSt} {o r n1 : Nat} {p : (gTp → Bool) × Nat} {U : Nat → gTp} {post : Int32 → mSt → Prop} {ex : Nat → mSt → Prop} {a1 a4 a5 : Int32}
theorem RN37_fr {t : mSt} (h : RN37 G s p U) (hf : mx_fr F_37 s t) : RN37 G t p U := ⟨RM_lg_fr h.1 hf (fun h => by cases h) (fun h => by cases h) (fun h => by cases h) (fun j h => by cases h) (fun j h => by cases h), RM_pl_fr h.2 hf (fun h => by cases h) (fun j h => by cases h)⟩
theorem RMe_c {M : Nat → Prop} {x : Nat} {A B : Prop} (h : RMe s M) (hx : x < 108) (f : ¬ M x → A) (g : M x → B) : (s.1 37 0 x = 0 → A) ∧ (¬ s.1 37 0 x = 0 → B) := by
  rcases h x hx with ⟨h1, h2⟩ | ⟨h1, h2⟩
  · rw [h1]
    exact ⟨fun h => absurd h (by decide), fun _ => g h2⟩
  · rw [h1]
    exact ⟨fun _ => f h2, fun h => absurd rfl h⟩
set_option maxHeartbeats 4000000 in
theorem N_tup {M : Nat → Prop} {k v7 K F : Nat} {v6 : Int32} (hl9 : (g_rs G).length ≤ 9) (hp2 : p.2 ≤ 120) (hp : ∀ u, p.1 u = true → g_wu G u) (h : RN37 G s p U) (hM : RMe s M) (hk : k < p.2) (ho : o < 12) (hr : r < 9) (hF : K + 4 ≤ F) (hs : ¬ ((U k).2.2.1 = 2 ∧ (g_x (U k) = 9 * o + r ∨ M (g_x (U k))) ∧ ¬ M (g_y (U k))) → ∀ F', K ≤ F' → r_Md_nested_95 scr d a1 (nI o) (nI r) a4 a5 post ex F' s v6 (nI v7) (nI (k + 1))) (hc : (U k).2.2.1 = 2 → (g_x (U k) = 9 * o + r ∨ M (g_x (U k))) → ¬ M (g_y (U k)) → g_y (U k) < 108 → ∀ F', K ≤ F' → r_Md_nested_95 scr d a1 (nI o) (nI r) a4 a5 post ex F' (mx_si s 37 0 (g_y (U k)) 1) 1 (nI v7) (nI (k + 1))) : r_Md_nested_95 scr d a1 (nI o) (nI r) a4 a5 post ex F s v6 (nI v7) (nI k) := by
  obtain ⟨hl, hU⟩ := h
  obtain ⟨F, rfl⟩ : ∃ F', F = F' + 4 := ⟨F - 4, by omega⟩
  obtain ⟨kk, r1, rb, f1, f2, f3, f4, f5⟩ := RM_u hl hU hk
  have hwu := RM_uw hp hU hk
  generalize hu : U k = u at hwu f1 f2 f3 f4 f5 hs hc
  obtain ⟨o', r', st, a, s'⟩ := u
  have f1 : s.1 29 0 (6 * kk + 1) = nI o' := f1
  have f2 : s.1 29 0 (6 * kk + 2) = nI r' := f2
  have f3 : s.1 29 0 (6 * kk + 3) = nI st := f3
  have f4 : s.1 29 0 (6 * kk + 4) = nI a := f4
  have f5 : s.1 29 0 (6 * kk + 5) = nI s' := f5
  obtain ⟨w1, rl, w2, w3, w4⟩ := hwu
  have w1 : o' < 12 := w1
  have w2' : r' < (g_rs G).length := g_len_get w2
  have hst : st < 3 ∧ a < 12 ∧ s' < 9 := by
    rcases w4 with ⟨e, h5, h6⟩ | ⟨e, h5, h6⟩ | ⟨e, h5, rl2, h6, -⟩
    · have e : st = 0 := e
      have h5 : a < 8 := h5
      have h6 : s' = 0 := h6
      omega
    · have e : st = 1 := e
      have h5 : a < 12 := h5
      have h6 : s' = 0 := h6
      omega
    · have e : st = 2 := e
      have h5 : a < 12 := h5
      have h6 : s' < (g_rs G).length := g_len_get h6
      omega
  obtain ⟨b1, b2, b3⟩ := hst
  have i1 : vp_in (nI (6 * kk + 1)) 720 := pk_in (6 * kk + 1) 720 (by omega)
  have i2 : vp_in (nI (6 * kk + 2)) 720 := pk_in (6 * kk + 2) 720 (by omega)
  have i3 : vp_in (nI (6 * kk + 3)) 720 := pk_in (6 * kk + 3) 720 (by omega)
  have i4 : vp_in (nI (6 * kk + 4)) 720 := pk_in (6 * kk + 4) 720 (by omega)
  have i5 : vp_in (nI (6 * kk + 5)) 720 := pk_in (6 * kk + 5) 720 (by omega)
  have ix : vp_in (nI (9 * o' + r')) 108 := pk_in (9 * o' + r') 108 (by omega)
  have iy : vp_in (nI (9 * a + s')) 108 := pk_in (9 * a + s') 108 (by omega)
  have hs : ¬ (st = 2 ∧ (9 * o' + r' = 9 * o + r ∨ M (9 * o' + r')) ∧ ¬ M (9 * a + s')) → ∀ F', K ≤ F' → r_Md_nested_95 scr d a1 (nI o) (nI r) a4 a5 post ex F' s v6 (nI v7) (nI (k + 1)) := hs
  have hc : st = 2 → (9 * o' + r' = 9 * o + r ∨ M (9 * o' + r')) → ¬ M (9 * a + s') → 9 * a + s' < 108 → ∀ F', K ≤ F' → r_Md_nested_95 scr d a1 (nI o) (nI r) a4 a5 post ex F' (mx_si s 37 0 (9 * a + s') 1) 1 (nI v7) (nI (k + 1)) := hc
  have hk1 : nI k + (1 : Int32) = nI (k + 1) := nI_1 k
  have j245 : ∀ (v9 v10 v11 : Int32) (F' : Nat), K ≤ F' → ¬ (st = 2 ∧ (9 * o' + r' = 9 * o + r ∨ M (9 * o' + r')) ∧ ¬ M (9 * a + s')) → r_Md_nested_245 scr d a1 (nI o) (nI r) a4 a5 post ex (F' + 1) s v6 (nI v7) (nI k) v9 v10 v11 := fun v9 v10 v11 F' hF' hno => w_Md_nested_245 (by rw [hk1]; exact hs hno F' hF')
  have j172 : (9 * o' + r' = 9 * o + r ∨ M (9 * o' + r')) → r_Md_nested_172 scr d a1 (nI o) (nI r) a4 a5 post ex (F + 3) s v6 (nI v7) (nI k) (nI (6 * kk)) := fun hb => by
    refine w_Md_nested_172 ?_
    rw [show nI (6 * kk) + (3 : Int32) = nI (6 * kk + 3) from nI_add _ 3, show nI (6 * kk) + (4 : Int32) = nI (6 * kk + 4) from nI_add _ 4, show nI (6 * kk) + (5 : Int32) = nI (6 * kk + 5) from nI_add _ 5, pk_cl (x := nI (6 * kk + 3)) (6 * kk + 3), pk_cl (x := nI (6 * kk + 4)) (6 * kk + 4), pk_cl (x := nI (6 * kk + 5)) (6 * kk + 5), f3, f4, f5, show (9 : Int32) * nI a = nI (9 * a) from pk_mul 9 a, nI_add, pk_cl (x := nI (9 * a + s')) (9 * a + s')]
    refine ⟨i4, i5, i3, pk_eq st 2 (fun e => ⟨fun h => absurd h (by decide), fun _ => ⟨iy, RMe_c hM (by omega) (fun n => w_Md_nested_234 ⟨iy, fun t et => ?_⟩) (fun y => j245 _ _ _ (F + 1) (by omega) (fun h => h.2.2 y))⟩⟩) (fun e => j245 _ _ _ (F + 1) (by omega) (fun h => e h.1))⟩
    rw [pk_cl (x := nI (9 * a + s')) (9 * a + s')] at et
    have et : t = mx_si s 37 0 (9 * a + s') 1 := et
    subst et
    refine w_Md_nested_245 ?_
    rw [hk1]
    exact hc e hb n (by omega) F (by omega)
  refine w_Md_nested_95 (pk_le p.2 k (fun h => by omega) (fun _ => ⟨pk_in k 120 (by omega), ?_⟩) hU.1 rfl)
  rw [pk_cl (x := nI k) k, r1, show (6 : Int32) * nI kk = nI (6 * kk) from pk_mul 6 kk, show nI (6 * kk) + (1 : Int32) = nI (6 * kk + 1) from nI_add _ 1, show nI (6 * kk) + (2 : Int32) = nI (6 * kk + 2) from nI_add _ 2, show nI (6 * kk) + (3 : Int32) = nI (6 * kk + 3) from nI_add _ 3, show nI (6 * kk) + (4 : Int32) = nI (6 * kk + 4) from nI_add _ 4, show nI (6 * kk) + (5 : Int32) = nI (6 * kk + 5) from nI_add _ 5, pk_cl (x := nI (6 * kk + 1)) (6 * kk + 1), pk_cl (x := nI (6 * kk + 2)) (6 * kk + 2), pk_cl (x := nI (6 * kk + 3)) (6 * kk + 3), pk_cl (x := nI (6 * kk + 4)) (6 * kk + 4), pk_cl (x := nI (6 * kk + 5)) (6 * kk + 5), f1, f2, f3, f4, f5, show (9 : Int32) * nI o' = nI (9 * o') from pk_mul 9 o', nI_add, pk_cl (x := nI (9 * o' + r')) (9 * o' + r')]
  have notb : ¬ (9 * o' + r' = 9 * o + r) → ¬ M (9 * o' + r') → ∀ v11 : Int32, ((nI st = (2 : Int32) → (((0 : Int32) = 0 → r_Md_nested_245 scr d a1 (nI o) (nI r) a4 a5 post ex (F + 3) s v6 (nI v7) (nI k) (nI (6 * kk)) (0 : Int32) v11) ∧ (¬ (0 : Int32) = 0 → (vp_in v11 108 ∧ (((s.1 37 0 v11.toNatClampNeg) = 0 → r_Md_nested_234 scr d a1 (nI o) (nI r) a4 a5 post ex (F + 3) s v6 (nI v7) (nI k) (nI (6 * kk)) (0 : Int32) v11) ∧ (¬ (s.1 37 0 v11.toNatClampNeg) = 0 → r_Md_nested_245 scr d a1 (nI o) (nI r) a4 a5 post ex (F + 3) s v6 (nI v7) (nI k) (nI (6 * kk)) (0 : Int32) v11)))))) ∧ (¬ nI st = (2 : Int32) → r_Md_nested_245 scr d a1 (nI o) (nI r) a4 a5 post ex (F + 3) s v6 (nI v7) (nI k) (nI (6 * kk)) (0 : Int32) v11)) := fun hx hm v11 => by
    have hno : ¬ (st = 2 ∧ (9 * o' + r' = 9 * o + r ∨ M (9 * o' + r')) ∧ ¬ M (9 * a + s')) := fun h => h.2.1.elim hx hm
    exact ⟨fun _ => ⟨fun _ => j245 _ _ _ (F + 2) (by omega) hno, fun h => absurd rfl h⟩, fun _ => j245 _ _ _ (F + 2) (by omega) hno⟩
  refine ⟨i1, pk_eq o' o (fun e1 => ⟨i2, pk_eq r' r (fun e2 => j172 (Or.inl (by rw [e1, e2]))) (fun e2 => ⟨i1, i2, ix, RMe_c hM (by omega) (fun n => ⟨i4, i5, i3, notb (by omega) n _⟩) (fun y => j172 (Or.inr y))⟩)⟩) (fun e1 => ⟨i1, i2, ix, RMe_c hM (by omega) (fun n => ⟨i4, i5, i3, notb (by omega) n _⟩) (fun y => j172 (Or.inr y))⟩)⟩
noncomputable def g_cM (M : Nat → Prop) : Nat := g_cnt M 108
theorem S_nest_95 {M0 : Nat → Prop} {v7 K : Nat} (hv7 : v7 < 2 ^ 20) (hl9 : (g_rs G).length ≤ 9) (hp2 : p.2 ≤ 120) (hp : ∀ u, p.1 u = true → g_wu G u) (ho : o < 12) (hr : r < 9) : ∀ (m k : Nat) (s : mSt) (M : Nat → Prop) (g : Bool) (F : Nat), k + m = p.2 → K + 4 * m + 1 ≤ F → RN37 G s p U → RMe s M → (∀ x, M x → g_far (g_E p.1) (9 * o + r) x) → (∀ x, M0 x → M x) → (g = true → g_cM M0 < g_cM M) → (g = false → (∀ x, M x → M0 x) ∧ ∀ i, i < k → (U i).2.2.1 = 2 → (g_x (U i) = 9 * o + r ∨ M (g_x (U i))) → M (g_y (U i))) → (∀ (t : mSt) (M : Nat → Prop) (g : Bool) (F : Nat), K ≤ F → RN37 G t p U → RMe t M → (∀ x, M x → g_far (g_E p.1) (9 * o + r) x) → g_cM M0 ≤ g_cM M → (g = true → g_cM M0 < g_cM M) → (g = false → ∀ i, i < p.2 → (U i).2.2.1 = 2 → (g_x (U i) = 9 * o + r ∨ M (g_x (U i))) → M (g_y (U i))) → mx_fr F_37 s t → r_Md_nested_77 scr d a1 (nI o) (nI r) a4 a5 post ex F t (bI g) (nI (v7 + 1))) → r_Md_nested_95 scr d a1 (nI o) (nI r) a4 a5 post ex F s (bI g) (nI v7) (nI k) := by
  intro m
  induction m with
  | zero =>
    intro k s M g F hk hF h hM hsd hsub hgt hgf hy
    obtain ⟨F, rfl⟩ : ∃ F', F = F' + 1 := ⟨F - 1, by omega⟩
    obtain rfl : k = p.2 := by omega
    refine w_Md_nested_95 (pk_le p.2 p.2 (fun _ => ?_) (fun h => by omega) h.2.1 rfl)
    rw [show nI v7 + (1 : Int32) = nI (v7 + 1) from nI_1 v7]
    exact hy s M g F (by omega) h hM hsd (g_cnt_mono 108 (fun x _ hx => hsub x hx)) hgt (fun e => (hgf e).2) mx_fr.rf
  | succ m ih =>
    intro k s M g F hk hF h hM hsd hsub hgt hgf hy
    have hwu := RM_uw hp h.2 (show k < p.2 by omega)
    refine N_tup (K := K + 4 * m + 1) hl9 hp2 hp h hM (by omega) ho hr (by omega) (fun hno F' hF' => ?_) (fun e2 hb hnm hy9 F' hF' => ?_)
    · refine ih (k + 1) s M g F' (by omega) hF' h hM hsd hsub hgt (fun e => ⟨(hgf e).1, fun i hi k1 k2 => ?_⟩) hy
      by_cases ei : i = k
      · subst ei
        by_cases hM9 : M (g_y (U i))
        · exact hM9
        · exact absurd ⟨k1, k2, hM9⟩ hno
      · exact (hgf e).2 i (by omega) k1 k2
    · have e1 : (1 : Int32) = bI true := rfl
      rw [e1]
      have hf : mx_fr F_37 s (mx_si s 37 0 (g_y (U k)) (bI true)) := mx_fr.si rfl
      have hlt : g_cM M < g_cM (fun x => M x ∨ x = g_y (U k)) := g_cnt_lt 108 (g_y (U k)) (fun x _ hx => Or.inl hx) hy9 (Or.inr rfl) hnm
      have hle : g_cM M0 ≤ g_cM M := g_cnt_mono 108 (fun x _ hx => hsub x hx)
      refine ih (k + 1) _ (fun x => M x ∨ x = g_y (U k)) true F' (by omega) hF' (RN37_fr h hf) (fun x hx => ?_) (fun x hx => ?_) (fun x hx => Or.inl (hsub x hx)) (fun _ => by omega) (fun h => by cases h) (fun t M' g' F'' a b c d' e' f' g'' h' => hy t M' g' F'' a b c d' e' f' g'' (hf.tr h'))
      · by_cases ex : x = g_y (U k)
        · subst ex
          rw [mx_si_s]
          exact Or.inl ⟨rfl, Or.inr rfl⟩
        · rw [mx_si_n (by omega)]
          rcases hM x hx with ⟨h1, h2⟩ | ⟨h1, h2⟩
          · exact Or.inl ⟨h1, Or.inl h2⟩
          · exact Or.inr ⟨h1, fun h => h.elim h2 ex⟩
      · rcases hx with hx | rfl
        · exact hsd x hx
        · have hstep : g_E p.1 (g_x (U k)) (g_y (U k)) := by
            have hT : p.1 (U k) = true := (h.2.2.2.2 (U k)).mpr ⟨k, by omega, rfl⟩
            generalize U k = u at hT e2 hwu
            obtain ⟨o', r', st, a, s'⟩ := u
            have e2 : st = 2 := e2
            subst e2
            obtain ⟨-, rl, w2, -, w4⟩ := hwu
            have w2' : r' < (g_rs G).length := g_len_get w2
            have hs9 : s' < 9 := by
              rcases w4 with ⟨e, -⟩ | ⟨e, -⟩ | ⟨-, -, rl2, h6, -⟩
              · exact absurd e (by show ¬ 2 = 0; omega)
              · exact absurd e (by show ¬ 2 = 1; omega)
              · have : s' < (g_rs G).length := g_len_get h6
                omega
            show p.1 ((9 * o' + r') / 9, (9 * o' + r') % 9, 2, (9 * a + s') / 9, (9 * a + s') % 9) = true
            rw [show (9 * o' + r') / 9 = o' by omega, show (9 * o' + r') % 9 = r' by omega, show (9 * a + s') / 9 = a by omega, show (9 * a + s') % 9 = s' by omega]
            exact hT
          rcases hb with hb | hb
          · rw [hb] at hstep
            exact g_far_1 hstep
          · exact g_far_t (hsd _ hb) (g_far_1 hstep)
theorem S_nest_77 {x1 : Nat} (hx1 : x1 < 108) (ha : (9 : Int32) * a4 + a5 = nI x1) (hl9 : (g_rs G).length ≤ 9) (hp2 : p.2 ≤ 120) (hp : ∀ u, p.1 u = true → g_wu G u) (ho : o < 12) (hr : r < 9) : ∀ (m k : Nat) (s : mSt) (M : Nat → Prop) (g : Bool) (F : Nat), k + m = 120 → 482 * m + 1 ≤ F → RN37 G s p U → RMe s M → (∀ x, M x → g_far (g_E p.1) (9 * o + r) x) → (g = true → k ≤ g_cM M) → (g = false → ∀ i, i < p.2 → (U i).2.2.1 = 2 → (g_x (U i) = 9 * o + r ∨ M (g_x (U i))) → M (g_y (U i))) → (∀ t, g_far (g_E p.1) (9 * o + r) x1 → mx_fr F_37 s t → post 1 t) → (∀ t, ¬ g_far (g_E p.1) (9 * o + r) x1 → mx_fr F_37 s t → post 0 t) → r_Md_nested_77 scr d a1 (nI o) (nI r) a4 a5 post ex F s (bI g) (nI k) := by
  have fin : ∀ (s : mSt) (M : Nat → Prop), RN37 G s p U → RMe s M → (∀ x, M x → g_far (g_E p.1) (9 * o + r) x) → (∀ i, i < p.2 → (U i).2.2.1 = 2 → (g_x (U i) = 9 * o + r ∨ M (g_x (U i))) → M (g_y (U i))) → (g_far (g_E p.1) (9 * o + r) x1 → post 1 s) → (¬ g_far (g_E p.1) (9 * o + r) x1 → post 0 s) → (vp_in (((9 : Int32) * a4) + a5) 108 ∧ (mx_nr .boolean (s.1 37 0 ((((9 : Int32) * a4) + a5)).toNatClampNeg) ∧ post (s.1 37 0 ((((9 : Int32) * a4) + a5)).toNatClampNeg) s)) := by
    intro s M h hM hsd hcl hy hn
    rw [ha]
    refine ⟨pk_in x1 108 hx1, ?_⟩
    rw [pk_cl (x := nI x1) x1]
    rcases hM x1 hx1 with ⟨h1, h2⟩ | ⟨h1, h2⟩
    · rw [h1]
      exact ⟨rfl, hy (hsd _ h2)⟩
    · rw [h1]
      refine ⟨rfl, hn (fun hf => h2 ?_)⟩
      refine hf (fun a b => (a = 9 * o + r ∨ M a) → M b) (fun a b he hb => ?_) (fun a b c k1 k2 ha => k2 (Or.inr (k1 ha))) (Or.inl rfl)
      obtain ⟨i, hi, e⟩ := (h.2.2.2.2 _).mp he
      have h3 := hcl i hi (by rw [e])
      have hx : g_x (U i) = a := by
        rw [e]
        show 9 * (a / 9) + a % 9 = a
        omega
      have hy : g_y (U i) = b := by
        rw [e]
        show 9 * (b / 9) + b % 9 = b
        omega
      rw [hx, hy] at h3
      exact h3 hb
  intro m
  induction m with
  | zero =>
    intro k s M g F hk hF h hM hsd hgt hgf hy hn
    obtain ⟨F, rfl⟩ : ∃ F', F = F' + 1 := ⟨F - 1, by omega⟩
    have hgff : g = false := by
      cases g with
      | false => rfl
      | true =>
        have h1 := hgt rfl
        have h2 : g_cM M ≤ 108 := g_cnt_le _
        omega
    exact w_Md_nested_77 (pk_le 120 k (fun _ => fin s M h hM hsd (hgf hgff) (fun e => hy s e mx_fr.rf) (fun e => hn s e mx_fr.rf)) (fun h => by omega))
  | succ m ih =>
    intro k s M g F hk hF h hM hsd hgt hgf hy hn
    obtain ⟨F, rfl⟩ : ∃ F', F = F' + 1 := ⟨F - 1, by omega⟩
    refine w_Md_nested_77 (pk_le 120 k (fun h => by omega) (fun _ => ?_))
    cases g with
    | false => exact ⟨fun _ => fin s M h hM hsd (hgf rfl) (fun e => hy s e mx_fr.rf) (fun e => hn s e mx_fr.rf), fun h => absurd rfl h⟩
    | true =>
      refine ⟨fun h => absurd h (by decide), fun _ => ?_⟩
      have h1 := hgt rfl
      have hk20 : k < 2 ^ 20 := by omega
      have hF2 : 482 * m + 1 + 4 * p.2 + 1 ≤ F := by omega
      generalize hKK : 482 * m + 1 = KK at ih hF2
      exact S_nest_95 (M0 := M) (K := KK) hk20 hl9 hp2 hp ho hr p.2 0 s M false F (Nat.zero_add _) hF2 h hM hsd (fun _ hx => hx) (fun h => by cases h) (fun _ => ⟨fun _ hx => hx, fun i hi => by omega⟩) (fun t M' g' F' hF' k1 k2 k3 k4 k5 k6 k7 => ih (k + 1) t M' g' F' (by omega) hF' k1 k2 k3 (fun e => by have := k5 e; omega) k6 (fun u e f => hy u e (k7.tr f)) (fun u e f => hn u e (k7.tr f)))
theorem S_nest_50 {K : Nat} {a2 a3 : Int32} : ∀ (m x : Nat) (s : mSt), x + m = 108 → (∀ q, q < x → s.1 37 0 q = 0) → (∀ t, (∀ q, q < 108 → t.1 37 0 q = 0) → mx_fr F_37 s t → r_Md_nested_77 scr d a1 a2 a3 a4 a5 post ex K t 1 0) → r_Md_nested_50 scr d a1 a2 a3 a4 a5 post ex (K + m + 1) s (nI x) := by
  intro m
  induction m with
  | zero =>
    intro x s hx hz hy
    obtain rfl : x = 108 := by omega
    exact w_Md_nested_50 (pk_le 108 108 (fun _ => hy s hz mx_fr.rf) (fun h => by omega))
  | succ m ih =>
    intro x s hx hz hy
    refine w_Md_nested_50 (pk_le 108 x (fun h => by omega) (fun _ => ⟨pk_in x 108 (by omega), fun t e => ?_⟩))
    rw [pk_cl (x := nI x) x] at e
    have hf : mx_fr F_37 s t := by
      rw [e]
      exact mx_fr.si rfl
    rw [show nI x + (1 : Int32) = nI (x + 1) from nI_1 x]
    refine ih (x + 1) t (by omega) (fun q hq => ?_) (fun u h1 h2 => hy u h1 (hf.tr h2))
    by_cases e2 : q = x
    · subst e2
      rw [e, mx_si_s]
      rfl
    · rw [e, mx_si_n (by omega)]
      exact hz q (by omega)
def F_ne (f _ j : Nat) : Prop := f = 32 ∨ f = 37 ∨ (f = 18 ∧ j = 21)
theorem S_nest_42 {t o' r' : Nat} (hw : g_wl G) (hoke : g_oke G) (hl9 : (g_rs G).length ≤ 9) (h : RM_lg G s) (ht : t ≤ (g_lg G).length) (ho : o < 12) (hr : r < 9) (ho' : o' < 12) (hr' : r' < 9) (hy : ∀ u, g_far (g_E (g_at_t G t).1) (9 * o + r) (9 * o' + r') → mx_fr F_ne s u → post 1 u) (hn : ∀ u, ¬ g_far (g_E (g_at_t G t).1) (9 * o + r) (9 * o' + r') → mx_fr F_ne s u → post 0 u) : r_Md_nested_42 scr (d + 2) (nI t) (nI o) (nI r) (nI o') (nI r') post ex (((482 * 120 + 1) + 108 + 1) + 1) s := by
  have hp2 : (g_at_t G t).2 ≤ 120 := by
    have h1 : (g_at_t G t).2 ≤ (g_pf G (g_ec G t)).length := g_tn_le
    have h2 : (g_pf G (g_ec G t)).length ≤ g_ec G t := g_pf_len
    have h3 := g_ec_le (G := G) (t := t)
    have h4 := g_ev_len (l := g_lg G) (n := 0)
    have h5 := h.1
    omega
  refine w_Md_nested_42 (S_play hoke h ht (fun s1 U hU f1 => S_nest_50 108 0 s1 rfl (fun q hq => by omega) (fun s2 z2 f2 => ?_)))
  have f1' : mx_fr F_ne s s1 := f1.mono (fun f i j h => by unfold F_pl at h; unfold F_ne; omega)
  have hlg1 : RM_lg G s1 := RM_lg_fr h f1 (fun h => by unfold F_pl at h; omega) (fun h => by unfold F_pl at h; omega) (fun h => by unfold F_pl at h; omega) (fun j h => by unfold F_pl at h; omega) (fun j h => by unfold F_pl at h; omega)
  have fm : ∀ {a b : mSt}, mx_fr F_37 a b → mx_fr F_ne a b := fun hf => hf.mono (fun f i j h => by unfold F_37 at h; unfold F_ne; omega)
  have e1 : (1 : Int32) = bI true := rfl
  rw [e1]
  exact S_nest_77 (x1 := 9 * o' + r') (by omega) (by rw [show (9 : Int32) * nI o' = nI (9 * o') from pk_mul 9 o', nI_add]) hl9 hp2 (fun u hu => g_at_w hw hu) ho hr 120 0 s2 (fun _ => False) true _ rfl (Nat.le_refl _) (RN37_fr ⟨hlg1, hU⟩ f2) (fun x hx => Or.inr ⟨z2 x hx, id⟩) (fun x hx => hx.elim) (fun _ => Nat.zero_le _) (fun h => by cases h) (fun u hu fu => hy u hu ((f1'.tr (fm f2)).tr (fm fu))) (fun u hu fu => hn u hu ((f1'.tr (fm f2)).tr (fm fu)))
end
