def mx_fr (P : Nat → Nat → Nat → Prop) (s t : mSt) : Prop := (∀ f i j, ¬ P f i j → t.1 f i j = s.1 f i j) ∧ (∀ f i j, ¬ P f i j → t.2.1 f i j = s.2.1 f i j) ∧ (∀ f i j, ¬ P f i j → t.2.2.1 f i j = s.2.2.1 f i j) ∧ t.2.2.2 = s.2.2.2
theorem mx_u3_s {α : Type} {F : Nat → Nat → Nat → α} {f i j : Nat} {v : α} : mx_u3 F f i j v f i j = v := if_pos ⟨rfl, rfl, rfl⟩
theorem mx_u3_n {α : Type} {F : Nat → Nat → Nat → α} {f i j f' i' j' : Nat} {v : α} (h : ¬ (f' = f ∧ i' = i ∧ j' = j)) : mx_u3 F f i j v f' i' j' = F f' i' j' := if_neg h
section
variable {P Q : Nat → Nat → Nat → Prop} {s t u : mSt} {f i j : Nat}
theorem mx_fr.rf : mx_fr P s s := ⟨fun _ _ _ _ => rfl, fun _ _ _ _ => rfl, fun _ _ _ _ => rfl, rfl⟩
theorem mx_fr.tr (h1 : mx_fr P s t) (h2 : mx_fr P t u) : mx_fr P s u := ⟨fun f i j h => (h2.1 f i j h).trans (h1.1 f i j h), fun f i j h => (h2.2.1 f i j h).trans (h1.2.1 f i j h), fun f i j h => (h2.2.2.1 f i j h).trans (h1.2.2.1 f i j h), h2.2.2.2.trans h1.2.2.2⟩
theorem mx_fr.mono (h : mx_fr P s t) (hP : ∀ f i j, P f i j → Q f i j) : mx_fr Q s t := ⟨fun f i j h9 => h.1 f i j (fun q => h9 (hP f i j q)), fun f i j h9 => h.2.1 f i j (fun q => h9 (hP f i j q)), fun f i j h9 => h.2.2.1 f i j (fun q => h9 (hP f i j q)), h.2.2.2⟩
theorem mx_fr.si {v : Int32} (h : P f i j) : mx_fr P s (mx_si s f i j v) := ⟨fun f' i' j' h9 => mx_u3_n (fun ⟨a, b, c⟩ => h9 (by rw [a, b, c]; exact h)), fun _ _ _ _ => rfl, fun _ _ _ _ => rfl, rfl⟩
theorem mx_fr.sl {v : Int64} (h : P f i j) : mx_fr P s (mx_sl s f i j v) := ⟨fun _ _ _ _ => rfl, fun f' i' j' h9 => mx_u3_n (fun ⟨a, b, c⟩ => h9 (by rw [a, b, c]; exact h)), fun _ _ _ _ => rfl, rfl⟩
theorem mx_fr.sp {v : Nat} (h : P f i j) : mx_fr P s (mx_sp s f i j v) := ⟨fun _ _ _ _ => rfl, fun _ _ _ _ => rfl, fun f' i' j' h9 => mx_u3_n (fun ⟨a, b, c⟩ => h9 (by rw [a, b, c]; exact h)), rfl⟩
theorem mx_si_s {v : Int32} : (mx_si s f i j v).1 f i j = v := mx_u3_s
theorem mx_si_n {v : Int32} {f' i' j' : Nat} (h : ¬ (f' = f ∧ i' = i ∧ j' = j)) : (mx_si s f i j v).1 f' i' j' = s.1 f' i' j' := mx_u3_n h
theorem mx_sl_s {v : Int64} : (mx_sl s f i j v).2.1 f i j = v := mx_u3_s
theorem mx_sl_n {v : Int64} {f' i' j' : Nat} (h : ¬ (f' = f ∧ i' = i ∧ j' = j)) : (mx_sl s f i j v).2.1 f' i' j' = s.2.1 f' i' j' := mx_u3_n h
end
section
variable {scr : mSc} {d : Nat} {s : mSt}
def F_forget (f i j : Nat) : Prop := (f = 0 ∧ i = 0 ∧ j = 3) ∨ (f = 14 ∧ i < 8 ∧ j = 0)
theorem S_forget_7 {post : mSt → Prop} {ex : Nat → mSt → Prop} : ∀ (m v : Nat) (s : mSt), v + m = 8 → (∀ t, mx_fr F_forget s t → (∀ w, v ≤ w → w < 8 → t.1 14 w 0 = -1) → (∀ w, w < v → t.1 14 w 0 = s.1 14 w 0) → t.1 0 0 3 = s.1 0 0 3 → post t) → r_Rs_forget_7 scr d post ex (m + 1) s (nI v) := by
  intro m
  induction m with
  | zero =>
    intro v s hv h
    obtain rfl : v = 8 := by omega
    exact w_Rs_forget_7 (pk_le 8 8 (fun _ => h s mx_fr.rf (fun w h1 h2 => by omega) (fun w _ => rfl) rfl) (fun h => by omega))
  | succ m ih =>
    intro v s hv h
    refine w_Rs_forget_7 (pk_le 8 v (fun h => by omega) (fun _ => ⟨pk_in v 8 (by omega), fun t ht => ?_⟩))
    rw [pk_cl v] at ht
    subst ht
    rw [show nI v + (1 : Int32) = nI (v + 1) from nI_1 v]
    refine ih (v + 1) _ (by omega) (fun t h1 h2 h3 h4 => h t (mx_fr.tr (mx_fr.si (Or.inr ⟨rfl, by omega, rfl⟩)) h1) (fun w g1 g2 => ?_) (fun w g => ?_) ?_)
    · by_cases hw : v + 1 ≤ w
      · exact h2 w hw g2
      · obtain rfl : w = v := by omega
        rw [h3 w (by omega)]
        exact mx_si_s
    · rw [h3 w (by omega)]
      exact mx_si_n (by omega)
    · rw [h4]
      exact mx_si_n (by omega)
theorem S_forget {post : mSt → Prop} (h : ∀ t, mx_fr F_forget s t → t.1 0 0 3 = 0 → (∀ w, w < 8 → t.1 14 w 0 = -1) → post t) : X_Rs_forget scr (d + 1) s post := by
  refine w_Rs_forget ⟨9, fun t ht => ?_⟩
  subst ht
  refine S_forget_7 8 0 _ rfl (fun t h1 h2 h3 h4 => h t (mx_fr.tr (mx_fr.si (Or.inl ⟨rfl, rfl, rfl⟩)) h1) ?_ (fun w hw => h2 w (Nat.zero_le _) hw))
  rw [h4]
  exact mx_si_s
theorem S_crash {post : mSt → Prop} (h : ∀ t, mx_fr F_forget s t → t.1 0 0 3 = 0 → (∀ w, w < 8 → t.1 14 w 0 = -1) → post t) : X_Rs_crash scr (d + 2) s post := w_Rs_crash (S_forget h)
def lg_mk (R : Nat → Int32) : Nat → Nat
  | 0 => 0
  | p + 1 => lg_mk R p + (if R p = -1 then 1 else 0)
theorem lg_mk_le {R : Nat → Int32} : ∀ p, lg_mk R p ≤ p
  | 0 => Nat.le_refl _
  | p + 1 => by
    have := lg_mk_le (R := R) p
    unfold lg_mk
    split <;> omega
def lg_at (R : Nat → Int32) (len tok p : Nat) : Prop := p ≤ len ∧ (p = len ∨ tok ≤ lg_mk R p) ∧ ∀ q, q < p → lg_mk R q < tok
theorem S_lengthAt_4 {post : Int32 → mSt → Prop} {ex : Nat → mSt → Prop} {len tok : Nat} (hl : s.1 11 0 1 = nI len) (hlen : len ≤ 120) (htok : tok < 2 ^ 30) : ∀ (m p : Nat), p + m = len → (∀ q, q < p → lg_mk (s.1 12 0) q < tok) → (∀ p, lg_at (s.1 12 0) len tok p → post (nI p) s) → r_Lg_lengthAt_4 scr d (nI tok) post ex (m + 1) s (nI (lg_mk (s.1 12 0) p)) (nI p) := by
  intro m
  induction m with
  | zero =>
    intro p hp hq h
    exact w_Lg_lengthAt_4 (pk_le len p (fun _ => h p ⟨by omega, Or.inl (by omega), hq⟩) (fun h => by omega) hl)
  | succ m ih =>
    intro p hp hq h
    have hm := lg_mk_le (R := s.1 12 0) p
    refine w_Lg_lengthAt_4 (pk_le len p (fun h => by omega) (fun _ => pk_le tok (lg_mk (s.1 12 0) p) (fun h9 => h p ⟨by omega, Or.inr h9, hq⟩) (fun h9 => ⟨pk_in p 120 (by omega), ?_⟩)) hl)
    rw [pk_cl p, show nI p + (1 : Int32) = nI (p + 1) from nI_1 p]
    have hq2 : ∀ q, q < p + 1 → lg_mk (s.1 12 0) q < tok := fun q hqp => by
      by_cases e : q = p
      · subst e
        exact h9
      · exact hq q (by omega)
    have ih := ih (p + 1) (by omega) hq2 h
    refine ⟨fun hR => ?_, fun hR => ?_⟩
    · have e : lg_mk (s.1 12 0) (p + 1) = lg_mk (s.1 12 0) p + 1 := by
        show _ + (if _ then 1 else 0) = _
        rw [if_pos hR]
      rw [e] at ih
      rw [show nI (lg_mk (s.1 12 0) p) + (1 : Int32) = nI (lg_mk (s.1 12 0) p + 1) from nI_1 _]
      exact ih
    · have e : lg_mk (s.1 12 0) (p + 1) = lg_mk (s.1 12 0) p := by
        show _ + (if _ then 1 else 0) = _
        rw [if_neg hR]
        rfl
      rw [e] at ih
      exact ih
theorem S_lengthAt {post : Int32 → mSt → Prop} {len tok : Nat} (hl : s.1 11 0 1 = nI len) (hlen : len ≤ 120) (htok : tok < 2 ^ 30) (h : ∀ p, lg_at (s.1 12 0) len tok p → post (nI p) s) : X_Lg_lengthAt scr (d + 1) s (nI tok) post := w_Lg_lengthAt ⟨len + 1, S_lengthAt_4 hl hlen htok len 0 (by omega) (fun q hq => by omega) h⟩
theorem S_write {post : mSt → Prop} {len k : Nat} {x : Int32} (hl : s.1 11 0 1 = nI len) (hk : len + k < 120) (h : post (mx_si s 12 0 (len + k) x)) : X_Lg_write scr (d + 1) s (nI k) x post := by
  refine w_Lg_write ?_
  rw [hl, nI_add len k]
  refine pk_le 120 (len + k) (fun h => by omega) (fun _ => ⟨pk_in (len + k) 120 hk, fun t ht => ?_⟩)
  rw [pk_cl (len + k)] at ht
  subst ht
  exact h
end
