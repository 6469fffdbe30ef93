section
variable {scr : mSc} {d : Nat} {G : gSt} {s : mSt} {v r l : Nat} {p : (gTp → Bool) × Nat} {rl : gRl}
def RS (G : gSt) (s : mSt) (v : Nat) (p : (gTp → Bool) × Nat) : Prop := RC_cf G s ∧ RTa G s ∧ RL s (g_rs G).length (g_lev (g_rs G)) ∧ RC_tp G (s.2.1 15 v) p
def F_mv (v f i _ : Nat) : Prop := i = v ∧ (f = 16 ∨ f = 17)
theorem RS_fr {t : mSt} (h : RS G s v p) (hf : mx_fr (F_mv v) s t) : RS G t v p := by
  obtain ⟨h1, h2, h3, h4⟩ := h
  refine ⟨RC_cf_fr h1 hf (fun h => by have := h.2; omega) (fun h => by have := h.2; omega) (fun i j _ h => by have := h.2; omega) (fun i j h => by have := h.2; omega), RTa_fr h2 hf (fun r j _ h => by have := h.2; omega) (fun f r j h1 h => by have := h.2; omega), fun r hr => (hf.1 _ _ _ (fun h => by have := h.2; omega)).trans (h3 r hr), ?_⟩
  rw [show t.2.1 15 v = s.2.1 15 v from funext fun j => hf.2.1 15 v j (fun h => by have := h.2; omega)]
  exact h4
theorem mC_up {A A' : Nat → Int32} {o r : Nat} {w : Int32} (hV : g_Vn (g_rs G) o r) (h1 : A' (r * 4 + o % 4) = w) (h2 : ∀ j, ¬ j = r * 4 + o % 4 → A' j = A j) : mC A' o r = w ∧ ∀ a x, g_Vn (g_rs G) a x → ¬ (a = o ∧ x = r) → mC A' a x = mC A a x := by
  refine ⟨h1, fun a x hx hn => h2 _ (fun e => hn ?_)⟩
  obtain rfl : x = r := by omega
  exact ⟨g_Vn_nd hx hV (by omega), rfl⟩
def g_way (rs : List gRl) (T : gTp → Bool) (l : Nat) (m m' : Nat → Nat → Int32) (g : Bool) (D : Nat → Nat → Prop) : Prop := g_mid rs T l m' ∧ g_size rs m ≤ g_size rs m' ∧ (g = true → g_size rs m < g_size rs m') ∧ (g = false → (∀ o r, g_Vn rs o r → m' o r = m o r) ∧ ∀ o r, D o r → g_Vn rs o r → g_lev rs r = l → m' o r = g_F rs T m' o r)
theorem g_size_mono {rs : List gRl} {m m' : Nat → Nat → Int32} (hok : ∀ rl ∈ rs, rl.1 < 3) (hup : ∀ a x, g_Vn rs a x → i_le (m a x) (m' a x)) : g_size rs m ≤ g_size rs m' := g_cnt_mono 288 (fun i hi h => ⟨h.1, hup _ _ (g_nsp_at hok h.1 (by omega)) _ h.2⟩)
theorem g_way_1 {rs : List gRl} {T : gTp → Bool} {m m1 m2 : Nat → Nat → Int32} {g : Bool} {D : Nat → Nat → Prop} {o r : Nat} (hg : ¬ g_ring rs) (hT : g_Tw rs T) (hok : ∀ rl ∈ rs, rl.1 < 3) (hl9 : rs.length ≤ 9) (h : g_way rs T l m m1 g D) (hV : g_Vn rs o r) (hl : g_lev rs r = l) (e1 : m2 o r = g_F rs T m1 o r) (e2 : ∀ a x, g_Vn rs a x → ¬ (a = o ∧ x = r) → m2 a x = m1 a x) :
    (m1 o r = g_F rs T m1 o r → g_way rs T l m m2 g (fun a x => D a x ∨ (a = o ∧ x = r))) ∧ (¬ m1 o r = g_F rs T m1 o r → g_way rs T l m m2 true (fun a x => D a x ∨ (a = o ∧ x = r))) := by
  obtain ⟨h1, h2, h3, h4⟩ := h
  obtain ⟨k1, k2⟩ := g_mid_1 hg hT h1 hV hl e1 e2
  have k3 := g_size_mono hok k2
  refine ⟨fun e => ⟨k1, by omega, fun hg1 => by have := h3 hg1; omega, fun hg0 => ?_⟩, fun e => ?_⟩
  · have same : ∀ a x, g_Vn rs a x → m2 a x = m1 a x := fun a x hv => by
      by_cases h9 : a = o ∧ x = r
      · obtain ⟨rfl, rfl⟩ := h9
        rw [e1, e]
      · exact e2 a x hv h9
    obtain ⟨j1, j2⟩ := h4 hg0
    refine ⟨fun a x hv => (same a x hv).trans (j1 a x hv), fun a x hD hv hx => ?_⟩
    rw [same a x hv, g_F_cg (m := m2) (m' := m1) hT hv (fun b y hb _ => same b y hb)]
    rcases hD with hD | ⟨rfl, rfl⟩
    · exact j2 a x hD hv hx
    · exact e
  · have hne : ¬ m1 o r = m2 o r := by
      rw [e1]
      exact e
    have := g_size_lt hok hl9 k2 (fun a x hv => k1.2.2.2.2 a x hv) hV hne
    exact ⟨k1, by omega, fun _ => by omega, fun h => by cases h⟩
theorem S_grow_5 {post : Int32 → mSt → Prop} {ex : Nat → mSt → Prop} {m0 : Nat → Nat → Int32} {D : Nat → Nat → Prop} (hg : ¬ g_ring (g_rs G)) (hT : g_Tw (g_rs G) p.1) (hp : ∀ u, p.1 u = true → g_wu G u) (hrl : (g_rs G)[r]? = some rl) (hlev : g_lev (g_rs G) r = l) : ∀ (m q : Nat) (s : mSt) (c g : Bool), q + m = 4 → RS G s v p → g_way (g_rs G) p.1 l m0 (mC (s.1 16 v)) (g || c) (fun a x => D a x ∨ (x = r ∧ a % 4 < q)) → (∀ t c, g_way (g_rs G) p.1 l m0 (mC (t.1 16 v)) (g || c) (fun a x => D a x ∨ x = r) → RS G t v p → mx_fr (F_mv v) s t → post (bI c) t) → r_Vs_grow_5 scr (d + 4) v (nI r) post ex (m + 1) s (bI c) (nI q) := by
  intro m
  induction m with
  | zero =>
    intro q s c g hq h hw hy
    obtain rfl : q = 4 := by omega
    refine w_Vs_grow_5 (pk_le 4 4 (fun _ => ⟨by cases c <;> rfl, hy s c ?_ h mx_fr.rf⟩) (fun h => by omega))
    obtain ⟨w1, w2, w3, w4⟩ := hw
    exact ⟨w1, w2, w3, fun h9 => ⟨(w4 h9).1, fun a x hD => (w4 h9).2 a x (hD.imp id (fun e => ⟨e, by omega⟩))⟩⟩
  | succ m ih =>
    intro q s c g hq h hw hy
    have hl9 := h.1.1.1
    have hr9 : r < 9 := by have := g_len_get hrl; omega
    have hok3 : ∀ rl ∈ g_rs G, rl.1 < 3 := fun rl hrl => (h.1.1.2 rl hrl).1
    have h3 := hok3 rl (List.mem_of_getElem? hrl)
    have ho4 : (4 * rl.1 + q) % 4 = q := by omega
    have hV : g_Vn (g_rs G) (4 * rl.1 + q) r := ⟨by omega, rl, hrl, by omega⟩
    refine w_Vs_grow_5 (pk_le 4 q (fun h => by omega) (fun _ => S_nodeOf (by omega) ?_))
    rw [show nI q + (1 : Int32) = nI (q + 1) from nI_1 q]
    have e4 : q % 4 = q := by omega
    rw [e4]
    have hwork := S_work (scr := scr) (d := d) (post := fun r4 s3 => (vp_in (nI (r * 4 + q)) 36 ∧ ((r4 = (s3.1 16 v (nI (r * 4 + q)).toNatClampNeg) → r_Vs_grow_5 scr (d + 4) v (nI r) post ex (m + 1) s3 (bI c) (nI (q + 1))) ∧ (¬ r4 = (s3.1 16 v (nI (r * 4 + q)).toNatClampNeg) → (vp_in (nI (r * 4 + q)) 36 ∧ ∀ s5, s5 = mx_si s3 16 v (nI (r * 4 + q)).toNatClampNeg r4 → r_Vs_grow_5 scr (d + 4) v (nI r) post ex (m + 1) s5 (1 : Int32) (nI (q + 1))))))) (o := 4 * rl.1 + q) hp hrl (by omega) (by omega) h.1 (h.2.1 r rl hrl) h.2.2.2
    rw [ho4] at hwork
    refine hwork (fun t hf => ?_)
    have hin : vp_in (nI (r * 4 + q)) 36 := pk_in (r * 4 + q) 36 (by omega)
    have e16 : t.1 16 v = s.1 16 v := funext fun j => hf.1 16 v j (fun h => by cases h.1)
    have hfm : mx_fr (F_mv v) s t := hf.mono (fun f i j h => ⟨h.2, Or.inr h.1⟩)
    have hD : ∀ a x, g_Vn (g_rs G) a x → (D a x ∨ (x = r ∧ a % 4 < q + 1) ↔ (D a x ∨ (x = r ∧ a % 4 < q)) ∨ (a = 4 * rl.1 + q ∧ x = r)) := fun a x hv => by
      constructor
      · rintro (h | ⟨rfl, h2⟩)
        · exact Or.inl (Or.inl h)
        · by_cases e : a % 4 = q
          · exact Or.inr ⟨g_Vn_nd hv hV (by omega), rfl⟩
          · exact Or.inl (Or.inr ⟨rfl, by omega⟩)
      · rintro ((h | ⟨h1, h2⟩) | ⟨rfl, h2⟩)
        · exact Or.inl h
        · exact Or.inr ⟨h1, by omega⟩
        · exact Or.inr ⟨h2, by omega⟩
    have fix : ∀ m2 g2, g_way (g_rs G) p.1 l m0 m2 g2 (fun a x => (D a x ∨ (x = r ∧ a % 4 < q)) ∨ (a = 4 * rl.1 + q ∧ x = r)) → g_way (g_rs G) p.1 l m0 m2 g2 (fun a x => D a x ∨ (x = r ∧ a % 4 < q + 1)) := fun m2 g2 hh => ⟨hh.1, hh.2.1, hh.2.2.1, fun h9 => ⟨(hh.2.2.2 h9).1, fun a x hDD hv => (hh.2.2.2 h9).2 a x ((hD a x hv).mp hDD) hv⟩⟩
    rw [pk_cl (x := nI (r * 4 + q)) (r * 4 + q), e16]
    refine ⟨hin, fun e => ?_, fun e => ⟨hin, fun u eu => ?_⟩⟩
    · have hw2 := (g_way_1 (m2 := mC (s.1 16 v)) hg hT hok3 hl9 hw hV hlev (by show s.1 16 v (r * 4 + (4 * rl.1 + q) % 4) = _; rw [ho4, e]) (fun _ _ _ _ => rfl)).1 (by show s.1 16 v (r * 4 + (4 * rl.1 + q) % 4) = _; rw [ho4, e])
      refine ih (q + 1) t c g (by omega) (RS_fr h hfm) ?_ (fun w c' g1 g2 g3 => hy w c' g1 g2 (hfm.tr g3))
      rw [e16]
      exact fix _ _ hw2
    · have hup := mC_up (A := s.1 16 v) (A' := u.1 16 v) (w := g_F (g_rs G) p.1 (mC (s.1 16 v)) (4 * rl.1 + q) r) hV (by rw [eu, ho4, mx_si_s]) (fun j hj => by rw [eu, mx_si_n (by rw [ho4] at hj; omega), e16])
      have hw2 := (g_way_1 (m2 := mC (u.1 16 v)) hg hT hok3 hl9 hw hV hlev hup.1 hup.2).2 (fun h9 => e (by rw [← h9]; show s.1 16 v (r * 4 + (4 * rl.1 + q) % 4) = _; rw [ho4]))
      have hfu : mx_fr (F_mv v) s u := by
        refine hfm.tr ?_
        rw [eu]
        exact mx_fr.si ⟨rfl, Or.inl rfl⟩
      have e1 : (1 : Int32) = bI true := rfl
      rw [e1]
      refine ih (q + 1) u true g (by omega) (RS_fr h hfu) ?_ (fun w c' g1 g2 g3 => hy w c' g1 g2 (hfu.tr g3))
      rw [Bool.or_true]
      exact fix _ _ hw2
end
