theorem g_kept {L K t : Nat} (hL : L < 2 ^ 30) (hK : K < 2 ^ 30) (ht : t < 2 ^ 30) {A B : Prop} {x y z : Int32} (hx : x = nI L) (hy : y = nI K) (hz : z = nI t) (f : L < t + K → A) (g : t + K ≤ L → B) : (x - y < z → A) ∧ (¬ x - y < z → B) := by
  subst hx
  subst hy
  subst hz
  have e1 := pk_sub_toInt hL hK
  have e2 : (nI t).toInt = t := nI_toInt (by omega)
  refine ⟨fun h => f ?_, fun h => g ?_⟩
  · have h1 := Int32.lt_iff_toInt_lt.mp h
    omega
  · refine Nat.le_of_not_lt fun h9 => h (Int32.lt_iff_toInt_lt.mpr ?_)
    omega
def g_okK (G : gSt) : Prop := 1 ≤ G.1 ∧ G.1 ≤ 8
def F_mo (f _ j : Nat) : Prop := f = 18 ∧ j = 1
section
variable {scr : mSc} {d : Nat} {s : mSt} {G : gSt}
theorem g_lgl (h : (g_fl (g_lg G)).length ≤ 120) : (g_lg G).length ≤ 120 := by
  have := g_ev_len (l := g_lg G) (n := 0)
  omega
theorem S_refuse {post : mSt → Prop} {ex : Nat → mSt → Prop} {a1 a2 : Int32} (h : RC_lg G s) (hk : s.1 0 0 0 = nI G.1) (hK : g_okK G) (e2 : (a1 = 0 ∨ ∀ t, t ≤ (g_lg G).length → ¬ a2 = nI t) → ex 2 s) (e3 : ∀ t, ¬ a1 = 0 → t ≤ (g_lg G).length → a2 = nI t → t + G.1 ≤ (g_lg G).length → ex 3 s)
    (hy : ∀ t, ¬ a1 = 0 → t ≤ (g_lg G).length → a2 = nI t → (g_lg G).length < t + G.1 → post s) : X_Rs_refuseUnless scr (d + 1) s a1 a2 ex post := by
  have hl := g_lgl h.1.1
  have hm := h.2.2.1
  refine w_Rs_refuseUnless ⟨fun h0 => e2 (Or.inl h0), fun h0 => ⟨fun hn => e2 (Or.inr (fun t ht e => ?_)), fun hp => ?_⟩⟩
  · rw [e] at hn
    exact nI_pos (by omega) hn
  obtain ⟨t, ht, rfl⟩ := nI_of hp
  refine pk_le t (g_lg G).length (fun htl => ?_) (fun htl => e2 (Or.inr (fun t' ht' e => ?_))) rfl hm
  · exact g_kept (by omega) (by have := hK.2; omega) (by omega) hm hk rfl (fun h9 => hy t h0 htl rfl h9) (fun h9 => e3 t h0 htl rfl h9)
  · have := (nI_eq ht (by omega)).mp e
    omega
theorem S_fail {post : Int32 → mSt → Prop} {a1 : Int32} (h : ∀ t, t = mx_si s 18 0 1 a1 → post 0 t) : X_Md_fail scr (d + 1) s a1 post := w_Md_fail (fun t e => ⟨rfl, h t e⟩)
theorem S_isFine {post : Int32 → mSt → Prop} {a1 a2 : Int32} (h : RM_lg G s) (hk : s.1 18 0 0 = nI G.1) (hK : g_okK G) (e1 : ∀ u, (a2 = 0 ∨ ∀ t, t ≤ (g_lg G).length → ¬ a1 = nI t) → u.1 18 0 1 = 1 → mx_fr F_mo s u → post 0 u) (e2 : ∀ u t, ¬ a2 = 0 → t ≤ (g_lg G).length → a1 = nI t → t + G.1 ≤ (g_lg G).length → u.1 18 0 1 = 2 → mx_fr F_mo s u → post 0 u)
    (hy : ∀ u t, ¬ a2 = 0 → t ≤ (g_lg G).length → a1 = nI t → (g_lg G).length < t + G.1 → u.1 18 0 1 = 0 → mx_fr F_mo s u → post 1 u) : X_Md_isFine scr (d + 2) s a1 a2 post := by
  have hl := g_lgl h.1
  refine w_Md_isFine (fun s1 i1 => ?_)
  have f1 : mx_fr F_mo s s1 := by
    rw [i1]
    exact mx_fr.si ⟨rfl, rfl⟩
  have hm : s1.1 18 0 18 = nI (g_lg G).length := (f1.1 18 0 18 (fun h => by cases h.2)).trans h.2.2.2.1
  have hk1 : s1.1 18 0 0 = nI G.1 := (f1.1 18 0 0 (fun h => by cases h.2)).trans hk
  have go : ∀ (v : Int32) (u : mSt), u = mx_si s1 18 0 1 v → u.1 18 0 1 = v ∧ mx_fr F_mo s u := fun v u e => by
    refine ⟨by rw [e]; exact mx_si_s, f1.tr ?_⟩
    rw [e]
    exact mx_fr.si ⟨rfl, rfl⟩
  have no : (a2 = 0 ∨ ∀ t, t ≤ (g_lg G).length → ¬ a1 = nI t) → X_Md_fail scr (d + 1) s1 (1 : Int32) (fun r s2 => (mx_nr .boolean r ∧ post r s2)) := fun hc => S_fail (fun u e => ⟨rfl, e1 u hc (go 1 u e).1 (go 1 u e).2⟩)
  refine ⟨fun hn => no (Or.inr (fun t ht e => ?_)), fun hp => ?_⟩
  · rw [e] at hn
    exact nI_pos (by omega) hn
  obtain ⟨t, ht, rfl⟩ := nI_of hp
  refine pk_lt (g_lg G).length t (fun htl => no (Or.inr (fun t' ht' e => ?_))) (fun htl => ⟨fun h0 => no (Or.inl h0), fun h0 => ?_⟩) hm rfl
  · have := (nI_eq ht (by omega)).mp e
    omega
  · exact g_kept (by omega) (by have := hK.2; omega) (by omega) hm hk1 rfl (fun h9 => ⟨rfl, hy s1 t h0 htl rfl h9 (by rw [i1]; exact mx_si_s) f1⟩) (fun h9 => S_fail (fun u e => ⟨fun _ => ⟨rfl, e2 u t h0 htl rfl h9 (go 2 u e).1 (go 2 u e).2⟩, fun h => absurd rfl h⟩))
end
