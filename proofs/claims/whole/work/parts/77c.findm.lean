section
variable {scr : mSc} {d : Nat} {G : gSt} {s : mSt} {l : Nat} {p : (gTp → Bool) × Nat} {U : Nat → gTp}
def RX (G : gSt) (s : mSt) (p : (gTp → Bool) × Nat) (U : Nat → gTp) : Prop := RM_cf G s ∧ RM_lg G s ∧ RM_pl G s p U ∧ ∀ r, r < 9 → s.1 28 0 r = nI (g_lev (g_rs G) r)
def F_fm (f _ _ : Nat) : Prop := f = 33 ∨ f = 34 ∨ f = 35
theorem RX_fr {t : mSt} (h : RX G s p U) (hf : mx_fr F_fm s t) : RX G t p U := ⟨RM_cf_fr h.1 hf (fun h => by rcases h with h | h | h <;> cases h) (fun h => by rcases h with h | h | h <;> cases h) (fun f j h1 h2 h => by rcases h with h | h | h <;> omega), RM_lg_fr h.2.1 hf (fun h => by rcases h with h | h | h <;> cases h) (fun h => by rcases h with h | h | h <;> cases h) (fun h => by rcases h with h | h | h <;> cases h) (fun j h => by rcases h with h | h | h <;> cases h) (fun j h => by rcases h with h | h | h <;> cases h), RM_pl_fr h.2.2.1 hf (fun h => by rcases h with h | h | h <;> cases h) (fun j h => by rcases h with h | h | h <;> cases h), fun r hr => (hf.1 28 0 r (fun h => by rcases h with h | h | h <;> cases h)).trans (h.2.2.2 r hr)⟩
theorem g_nV {a1 a2 : Int32} {o r : Nat} (ho : o < 12) (hr : r < 9) (hl : (g_rs G).length ≤ 9) (h : ∀ o' r' rl, ¬ g_node G (nI o) (nI r) o' r' rl) : ¬ g_Vn (g_rs G) o r := by
  rintro ⟨-, rl, h2, h3⟩
  exact h o r rl ⟨ho, rfl, h2, rfl, h3⟩
theorem S_fm_56 {post : mSt → Prop} {ex : Nat → mSt → Prop} {a1 : Int32} {m0 : Nat → Nat → Int32} {k K : Nat} (hk : k < 2 ^ 20) (hl2 : l < 2 ^ 20) (hac : g_acc (g_rs G)) (hp2 : p.2 ≤ 120) (hT : g_Tw (g_rs G) p.1) (hp : ∀ u, p.1 u = true → g_wu G u) : ∀ (m x : Nat) (s : mSt) (g : Bool), x + m = 108 → RX G s p U → g_way (g_rs G) p.1 l m0 (mM (s.1 33 0)) g (fun a y => 9 * a + y < x) → (∀ t g, g_way (g_rs G) p.1 l m0 (mM (t.1 33 0)) g (fun a y => 9 * a + y < 108) → RX G t p U → mx_fr F_fm s t → r_Md_findMembers_39 scr (d + 4) a1 post ex K t (nI l) (bI g) (nI (k + 1))) → r_Md_findMembers_56 scr (d + 4) a1 post ex (K + m + 1) s (nI l) (bI g) (nI k) (nI x) := by
  intro m
  induction m with
  | zero =>
    intro x s g hx h hw hy
    obtain rfl : x = 108 := by omega
    refine w_Md_findMembers_56 (pk_le 108 108 (fun _ => ?_) (fun h => by omega))
    rw [show nI k + (1 : Int32) = nI (k + 1) from nI_1 k]
    exact hy s g hw h mx_fr.rf
  | succ m ih =>
    intro x s g hx h hw hy
    have hl9 := h.1.1.1
    have hok3 : ∀ rl ∈ g_rs G, rl.1 < 3 := fun rl hrl => (h.1.1.2 rl hrl).1
    have hlx := g_lev_le hac.2 (x % 9)
    refine w_Md_findMembers_56 (pk_le 108 x (fun h => by omega) (fun hxl => ⟨by decide, by decide, ?_⟩))
    rw [show nI x + (1 : Int32) = nI (x + 1) from nI_1 x, show nI x / (9 : Int32) = nI (x / 9) from pk_div (d := 9) (by omega) (by omega) (by omega), show nI x - nI (x / 9) * (9 : Int32) = nI (x % 9) from by
      rw [← show nI x / (9 : Int32) = nI (x / 9) from pk_div (d := 9) (by omega) (by omega) (by omega)]
      exact pk_rem (d := 9) (by omega) (by omega) (by omega), pk_cl (x := nI x) x, pk_cl (x := nI (x % 9)) (x % 9)]
    have skip : (g_Vn (g_rs G) (x / 9) (x % 9) → ¬ g_lev (g_rs G) (x % 9) = l) → r_Md_findMembers_56 scr (d + 4) a1 post ex (K + m + 1) s (nI l) (bI g) (nI k) (nI (x + 1)) := fun hno => by
      refine ih (x + 1) s g (by omega) h ⟨hw.1, hw.2.1, hw.2.2.1, fun h9 => ⟨(hw.2.2.2 h9).1, fun a y hD hv hy9 => ?_⟩⟩ hy
      by_cases e2 : 9 * a + y = x
      · have hy2 : y < 9 := by
          obtain ⟨-, rl, h8, -⟩ := hv
          have := g_len_get h8
          omega
        obtain rfl : a = x / 9 := by omega
        obtain rfl : y = x % 9 := by omega
        exact absurd hy9 (hno hv)
      · exact (hw.2.2.2 h9).2 a y (by omega) hv hy9
    refine S_isOf (d := d + 2) h.1 (fun h1 => ⟨fun _ => skip (fun hv => absurd hv (g_nV (a1 := a1) (a2 := a1) (by omega) (by omega) hl9 h1)), fun h => absurd rfl h⟩) (fun o' r' rl hnd => ⟨fun h => absurd h (by decide), fun _ => ⟨pk_in (x % 9) 9 (by omega), ?_⟩⟩)
    obtain ⟨n1, n2, n3, n4, n5⟩ := hnd
    have hr' := g_len_get n3
    obtain rfl : x / 9 = o' := g_eqI (by omega) (by omega) n2
    obtain rfl : x % 9 = r' := g_eqI (by omega) (by omega) n4
    have hV : g_Vn (g_rs G) (x / 9) (x % 9) := ⟨n1, rl, n3, n5⟩
    refine pk_eq (g_lev (g_rs G) (x % 9)) l (fun e => ⟨by decide, ?_⟩) (fun e => skip (fun _ => e)) (h.2.2.2 (x % 9) (by omega)) rfl
    obtain ⟨P, hP⟩ := hac.1 _ _ n3
    refine S_worked (A := s.1 33 0) (U := U) hp2 hp ⟨h.1, h.2.1, h.2.2.1, rfl⟩ n3 n1 hP (fun t ht hf => ?_)
    have e33 : t.1 33 0 = s.1 33 0 := ht.2.2.2
    have hft : mx_fr F_fm s t := hf.mono (fun f i j h => Or.inr h)
    have hx9 : 9 * (x / 9) + x % 9 = x := by omega
    have hin : vp_in (nI x) 108 := pk_in x 108 (by omega)
    have hDD : ∀ a y, g_Vn (g_rs G) a y → (9 * a + y < x + 1 ↔ 9 * a + y < x ∨ (a = x / 9 ∧ y = x % 9)) := fun a y hv => by
      have hy2 : y < 9 := by
        obtain ⟨-, rl, h8, -⟩ := hv
        have := g_len_get h8
        omega
      omega
    have fix : ∀ m2 g2, g_way (g_rs G) p.1 l m0 m2 g2 (fun a y => 9 * a + y < x ∨ (a = x / 9 ∧ y = x % 9)) → g_way (g_rs G) p.1 l m0 m2 g2 (fun a y => 9 * a + y < x + 1) := fun m2 g2 hh => ⟨hh.1, hh.2.1, hh.2.2.1, fun h9 => ⟨(hh.2.2.2 h9).1, fun a y hD hv => (hh.2.2.2 h9).2 a y ((hDD a y hv).mp hD) hv⟩⟩
    have step : ∀ (u : mSt), u = mx_si t 33 0 x (g_F (g_rs G) p.1 (mM (s.1 33 0)) (x / 9) (x % 9)) → ∀ g', (g_way (g_rs G) p.1 l m0 (mM (u.1 33 0)) g' (fun a y => 9 * a + y < x ∨ (a = x / 9 ∧ y = x % 9))) → r_Md_findMembers_56 scr (d + 4) a1 post ex (K + m + 1) u (nI l) (bI g') (nI k) (nI (x + 1)) := fun u eu g' hg' => by
      have hfu : mx_fr F_fm s u := by
        refine hft.tr ?_
        rw [eu]
        exact mx_fr.si (Or.inl rfl)
      exact ih (x + 1) u g' (by omega) (RX_fr h hfu) (fix _ _ hg') (fun w g1 k1 k2 k3 => hy w g1 k1 k2 (hfu.tr k3))
    have upd : ∀ (u : mSt), u = mx_si t 33 0 x (g_F (g_rs G) p.1 (mM (s.1 33 0)) (x / 9) (x % 9)) → mM (u.1 33 0) (x / 9) (x % 9) = g_F (g_rs G) p.1 (mM (s.1 33 0)) (x / 9) (x % 9) ∧ ∀ a y, g_Vn (g_rs G) a y → ¬ (a = x / 9 ∧ y = x % 9) → mM (u.1 33 0) a y = mM (s.1 33 0) a y := fun u eu => by
      refine ⟨?_, fun a y hv hn => ?_⟩
      · show u.1 33 0 (9 * (x / 9) + x % 9) = _
        rw [hx9, eu, mx_si_s]
      · have hy2 : y < 9 := by
          obtain ⟨-, rl, h8, -⟩ := hv
          have := g_len_get h8
          omega
        show u.1 33 0 (9 * a + y) = s.1 33 0 (9 * a + y)
        rw [eu, mx_si_n (by omega), e33]
    have hm1 : mM (s.1 33 0) (x / 9) (x % 9) = s.1 33 0 x := by
      show s.1 33 0 (9 * (x / 9) + x % 9) = _
      rw [hx9]
    rw [e33]
    have way := fun (u : mSt) (eu : u = mx_si t 33 0 x (g_F (g_rs G) p.1 (mM (s.1 33 0)) (x / 9) (x % 9))) => g_way_1 (m2 := mM (u.1 33 0)) hac.2 hT hok3 hl9 hw hV e (upd u eu).1 (upd u eu).2
    cases g with
    | true =>
      refine ⟨fun h => absurd h (by decide), fun _ => ⟨hin, fun u eu => step u eu true ?_⟩⟩
      by_cases e9 : mM (s.1 33 0) (x / 9) (x % 9) = g_F (g_rs G) p.1 (mM (s.1 33 0)) (x / 9) (x % 9)
      · exact (way u eu).1 e9
      · exact (way u eu).2 e9
    | false =>
      refine ⟨fun _ => ⟨hin, fun e9 => ⟨hin, fun u eu => step u eu false ((way u eu).1 (hm1.trans e9.symm))⟩, fun e9 => ⟨hin, fun u eu => step u eu true ((way u eu).2 (fun h => e9 (h.symm.trans hm1)))⟩⟩, fun h => absurd rfl h⟩
theorem S_fm_39 {post : mSt → Prop} {ex : Nat → mSt → Prop} {a1 : Int32} {K : Nat} (hl2 : l < 2 ^ 20) (hac : g_acc (g_rs G)) (hp2 : p.2 ≤ 120) (hT : g_Tw (g_rs G) p.1) (hp : ∀ u, p.1 u = true → g_wu G u) : ∀ (m k : Nat) (s : mSt) (g : Bool) (F : Nat), k + m = 400 → K + m * 110 + 1 ≤ F → RX G s p U → g_mid (g_rs G) p.1 l (mM (s.1 33 0)) → (g = true → k ≤ g_size (g_rs G) (mM (s.1 33 0))) → (g = false → ∀ o r, g_Vn (g_rs G) o r → g_lev (g_rs G) r = l → mM (s.1 33 0) o r = g_F (g_rs G) p.1 (mM (s.1 33 0)) o r) → (∀ t F, K ≤ F → g_mid (g_rs G) p.1 (l + 1) (mM (t.1 33 0)) → RX G t p U → mx_fr F_fm s t → r_Md_findMembers_28 scr (d + 4) a1 post ex F t (nI (l + 1))) → r_Md_findMembers_39 scr (d + 4) a1 post ex F s (nI l) (bI g) (nI k) := by
  intro m
  induction m with
  | zero =>
    intro k s g F hk hF h hmid hgt hgf hy
    obtain ⟨F, rfl⟩ : ∃ F', F = F' + 1 := ⟨F - 1, by omega⟩
    have hf : g = false := by
      cases g with
      | false => rfl
      | true =>
        have h1 := hgt rfl
        have h2 := g_size_le (rs := g_rs G) (m := mM (s.1 33 0))
        omega
    refine w_Md_findMembers_39 (pk_le 400 k (fun _ => ?_) (fun h => by omega))
    rw [show nI l + (1 : Int32) = nI (l + 1) from nI_1 l]
    exact hy s F (by omega) (g_mid_up hmid (hgf hf)) h mx_fr.rf
  | succ m ih =>
    intro k s g F hk hF h hmid hgt hgf hy
    obtain ⟨F, rfl⟩ : ∃ F', F = F' + 1 := ⟨F - 1, by omega⟩
    cases g with
    | false =>
      refine w_Md_findMembers_39 (pk_le 400 k (fun h => by omega) (fun _ => ⟨fun _ => ?_, fun h => absurd rfl h⟩))
      rw [show nI l + (1 : Int32) = nI (l + 1) from nI_1 l]
      exact hy s F (by omega) (g_mid_up hmid (hgf rfl)) h mx_fr.rf
    | true =>
      refine w_Md_findMembers_39 (pk_le 400 k (fun h => by omega) (fun _ => ⟨fun h => absurd h (by decide), fun _ => ?_⟩))
      obtain ⟨F, rfl⟩ : ∃ F', F = F' + 108 + 1 := ⟨F - 109, by omega⟩
      have h1 := hgt rfl
      refine S_fm_56 (m0 := mM (s.1 33 0)) (by omega) hl2 hac hp2 hT hp 108 0 s false rfl h ⟨hmid, Nat.le_refl _, fun h => (by cases h), fun _ => ⟨fun _ _ _ => rfl, fun a y hy => by omega⟩⟩ (fun t g' k1 k2 k3 => ih (k + 1) t g' F (by omega) (by omega) k2 k1.1 (fun e => ?_) (fun e o r hV hl => ?_) (fun u F' hF' j1 j2 j3 => hy u F' hF' j1 j2 (k3.tr j3)))
      · have := k1.2.2.1 e
        omega
      · refine (k1.2.2.2 e).2 o r ?_ hV hl
        obtain ⟨h8, rl, h9, -⟩ := hV
        have := g_len_get h9
        have := h.1.1.1
        omega
theorem S_fm_28 {post : mSt → Prop} {ex : Nat → mSt → Prop} {a1 : Int32} (hac : g_acc (g_rs G)) (hp2 : p.2 ≤ 120) (hT : g_Tw (g_rs G) p.1) (hp : ∀ u, p.1 u = true → g_wu G u) : ∀ (m l : Nat) (s : mSt) (F : Nat), l + m = 10 → m * 44002 + 1 ≤ F → RX G s p U → g_mid (g_rs G) p.1 l (mM (s.1 33 0)) → (∀ t, g_isM (g_rs G) p.1 (mM (t.1 33 0)) → RX G t p U → mx_fr F_fm s t → post t) → r_Md_findMembers_28 scr (d + 4) a1 post ex F s (nI l) := by
  intro m
  induction m with
  | zero =>
    intro l s F hl hF h hmid hy
    obtain ⟨F, rfl⟩ : ∃ F', F = F' + 1 := ⟨F - 1, by omega⟩
    obtain rfl : l = 10 := by omega
    refine w_Md_findMembers_28 (pk_lt 9 10 (fun _ => hy s (g_mid_M hmid (fun o r hV => ?_)) h mx_fr.rf) (fun h => by omega))
    obtain ⟨-, rl, h9, -⟩ := hV
    have := g_lev_lt hac.2 (g_len_get h9)
    have := h.1.1.1
    omega
  | succ m ih =>
    intro l s F hl hF h hmid hy
    obtain ⟨F, rfl⟩ : ∃ F', F = F' + 1 := ⟨F - 1, by omega⟩
    refine w_Md_findMembers_28 (pk_lt 9 l (fun h => by omega) (fun _ => ?_))
    exact S_fm_39 (K := m * 44002 + 1) (by omega) hac hp2 hT hp 400 0 s true F rfl (by omega) h hmid (fun _ => Nat.zero_le _) (fun h => by cases h) (fun t F' hF' k1 k2 k3 => ih (l + 1) t F' (by omega) hF' k2 k1 (fun u j1 j2 j3 => hy u j1 j2 (k3.tr j3)))
theorem S_fm_7 {post : mSt → Prop} {ex : Nat → mSt → Prop} {a1 : Int32} {K : Nat} : ∀ (m x : Nat) (s : mSt), x + m = 108 → (∀ q, q < x → s.1 33 0 q = 0) → (∀ t, (∀ q, q < 108 → t.1 33 0 q = 0) → mx_fr F_fm s t → r_Md_findMembers_28 scr d a1 post ex K t 0) → r_Md_findMembers_7 scr d a1 post ex (K + m + 1) s (nI x) := by
  intro m
  induction m with
  | zero =>
    intro x s hx hz hy
    obtain rfl : x = 108 := by omega
    exact w_Md_findMembers_7 (pk_le 108 108 (fun _ => hy s hz mx_fr.rf) (fun h => by omega))
  | succ m ih =>
    intro x s hx hz hy
    refine w_Md_findMembers_7 (pk_le 108 x (fun h => by omega) (fun _ => ⟨pk_in x 108 (by omega), fun t e => ?_⟩))
    rw [pk_cl (x := nI x) x] at e
    have hf : mx_fr F_fm s t := by
      rw [e]
      exact mx_fr.si (Or.inl rfl)
    rw [show nI x + (1 : Int32) = nI (x + 1) from nI_1 x]
    refine ih (x + 1) t (by omega) (fun q hq => ?_) (fun u h1 h2 => hy u h1 (hf.tr h2))
    by_cases e2 : q = x
    · subst e2
      rw [e, mx_si_s]
    · rw [e, mx_si_n (by omega)]
      exact hz q (by omega)
def RMx' (G : gSt) (s : mSt) : Prop := RM_cf G s ∧ RM_lg G s ∧ ∀ r, r < 9 → s.1 28 0 r = nI (g_lev (g_rs G) r)
def F_fa (f _ j : Nat) : Prop := f = 32 ∨ f = 33 ∨ f = 34 ∨ f = 35 ∨ (f = 18 ∧ j = 21)
theorem RM_cf_fa {t : mSt} {Q : Nat → Nat → Nat → Prop} (h : RMx' G s) (hf : mx_fr Q s t) (hQ : ∀ f i j, Q f i j → 32 ≤ f ∨ (f = 18 ∧ (j = 1 ∨ j = 21))) : RMx' G t := ⟨RM_cf_fr h.1 hf (fun h => by have := hQ _ _ _ h; omega) (fun h => by have := hQ _ _ _ h; omega) (fun f j h1 h2 h => by have := hQ _ _ _ h; omega), RM_lg_fr h.2.1 hf (fun h => by have := hQ _ _ _ h; omega) (fun h => by have := hQ _ _ _ h; omega) (fun h => by have := hQ _ _ _ h; omega) (fun j h => by have := hQ _ _ _ h; omega) (fun j h => by have := hQ _ _ _ h; omega), fun r hr => (hf.1 28 0 r (fun h => by have := hQ _ _ _ h; omega)).trans (h.2.2 r hr)⟩
theorem S_findMembers {post : mSt → Prop} {t : Nat} (hac : g_acc (g_rs G)) (hw : g_wl G) (hoke : g_oke G) (h : RMx' G s) (ht : t ≤ (g_lg G).length) (hy : ∀ u, g_isM (g_rs G) (g_at_t G t).1 (mM (u.1 33 0)) → RMx' G u → mx_fr F_fa s u → post u) : X_Md_findMembers scr (d + 5) s (nI t) post := by
  have hl9 := h.1.1.1
  have hp2 : (g_at_t G t).2 ≤ 120 := by
    have h1 : (g_at_t G t).2 ≤ (g_pf G (g_ec G t)).length := g_tn_le
    have h2 : (g_pf G (g_ec G t)).length ≤ g_ec G t := g_pf_len
    have h3 := g_ec_le (G := G) (t := t)
    have h4 := g_ev_len (l := g_lg G) (n := 0)
    have h5 := h.2.1.1
    omega
  refine w_Md_findMembers ⟨(10 * 44002 + 1) + 108 + 1, S_play (d := d + 2) hoke h.2.1 ht (fun s1 U hU f1 => ?_)⟩
  have h1 : RMx' G s1 := RM_cf_fa h f1 (fun f i j h => by unfold F_pl at h; omega)
  have f1' : mx_fr F_fa s s1 := f1.mono (fun f i j h => by unfold F_pl at h; unfold F_fa; omega)
  refine S_fm_7 108 0 s1 rfl (fun q hq => by omega) (fun s2 z2 f2 => ?_)
  have f2' : mx_fr F_fa s1 s2 := f2.mono (fun f i j h => by unfold F_fm at h; unfold F_fa; omega)
  refine S_fm_28 (U := U) hac hp2 (g_Tw_at hl9 hw) (fun u hu => g_at_w hw hu) 10 0 s2 _ rfl (Nat.le_refl _) (RX_fr ⟨h1.1, h1.2.1, hU, h1.2.2⟩ f2) (g_mid_0 (fun o r hV => ?_)) (fun u k1 k2 k3 => ?_)
  · obtain ⟨h8, rl, h9, -⟩ := hV
    have := g_len_get h9
    exact z2 _ (by omega)
  · have f3 : mx_fr F_fa s2 u := k3.mono (fun f i j h => by unfold F_fm at h; unfold F_fa; omega)
    have fu := (f1'.tr f2').tr f3
    exact hy u k1 (RM_cf_fa h fu (fun f i j h => by unfold F_fa at h; omega)) fu
end
