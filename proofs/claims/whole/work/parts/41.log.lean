def lg_cn (R : Nat → Int32) : Nat → Nat
  | 0 => 0
  | p + 1 => lg_cn R p + (if R p = -1 then 0 else 1)
theorem lg_mk_c {R : Nat → Int32} : ∀ p, lg_mk R p + lg_cn R p = p
  | 0 => rfl
  | p + 1 => by
    have := lg_mk_c (R := R) p
    unfold lg_mk lg_cn
    split <;> omega
theorem lg_mk_mono {R : Nat → Int32} {p q : Nat} (h : p ≤ q) : lg_mk R p ≤ lg_mk R q := by
  induction h with
  | refl => exact Nat.le_refl _
  | step _ ih => exact Nat.le_trans ih (Nat.le_add_right _ _)
theorem lg_cn_mono {R : Nat → Int32} {p q : Nat} (h : p ≤ q) : lg_cn R p ≤ lg_cn R q := by
  induction h with
  | refl => exact Nat.le_refl _
  | step _ ih => exact Nat.le_trans ih (Nat.le_add_right _ _)
theorem lg_mk_1 {R : Nat → Int32} {p : Nat} (h : R p = -1) : lg_mk R (p + 1) = lg_mk R p + 1 := by
  show _ + (if _ then 1 else 0) = _
  rw [if_pos h]
theorem lg_mk_0 {R : Nat → Int32} {p : Nat} (h : ¬ R p = -1) : lg_mk R (p + 1) = lg_mk R p := by
  show _ + (if _ then 1 else 0) = _
  rw [if_neg h]
  rfl
theorem lg_cn_1 {R : Nat → Int32} {p : Nat} (h : R p = -1) : lg_cn R (p + 1) = lg_cn R p := by
  show _ + (if _ then 0 else 1) = _
  rw [if_pos h]
  rfl
theorem lg_cn_0 {R : Nat → Int32} {p : Nat} (h : ¬ R p = -1) : lg_cn R (p + 1) = lg_cn R p + 1 := by
  show _ + (if _ then 0 else 1) = _
  rw [if_neg h]
section
variable {scr : mSc} {d : Nat} {s : mSt}
theorem S_hasRoomFor {post : Int32 → mSt → Prop} {len m : Nat} (hl : s.1 11 0 1 = nI len) (hlen : len ≤ 120) (hm : m < 2 ^ 30) (h0 : 120 < len + m → post 0 s) (h1 : len + m ≤ 120 → post 1 s) : X_Lg_hasRoomFor scr (d + 1) s (nI m) post := by
  refine w_Lg_hasRoomFor ?_
  rw [hl, show (120 : Int32) - nI len = nI (120 - len) from pk_sub hlen]
  exact pk_lt (120 - len) m (fun h => ⟨rfl, h0 (by omega)⟩) (fun h => ⟨rfl, h1 (by omega)⟩)
theorem S_mark {post : mSt → Prop} {len k : Nat} (hl : s.1 11 0 1 = nI len) (hk : len + k < 120) (h : post (mx_si (mx_si (mx_si s 12 0 (len + k) (-1)) 11 0 1 (nI (len + k + 1))) 11 0 2 (s.1 11 0 2 + 1))) : X_Lg_mark scr (d + 2) s (nI k) post := by
  refine w_Lg_mark (S_write hl hk (fun t ht t' ht' => ?_))
  subst ht
  subst ht'
  rw [mx_si_n (show ¬ (11 = 12 ∧ 0 = 0 ∧ 1 = len + k) by omega), hl, mx_si_n (show ¬ (11 = 11 ∧ 0 = 0 ∧ 2 = 1) by omega), mx_si_n (show ¬ (11 = 12 ∧ 0 = 0 ∧ 2 = len + k) by omega), show nI k + (1 : Int32) = nI (k + 1) from nI_1 k, nI_add]
  exact h
theorem S_marksBefore_4 {post : Int32 → mSt → Prop} {ex : Nat → mSt → Prop} {p : Nat} (hp : p ≤ 120) (h : post (nI (lg_mk (s.1 12 0) p)) s) : ∀ (m x : Nat), x + m = p → r_Lg_marksBefore_4 scr d (nI p) post ex (m + 1) s (nI (lg_mk (s.1 12 0) x)) (nI x) := by
  intro m
  induction m with
  | zero =>
    intro x hx
    obtain rfl : x = p := by omega
    exact w_Lg_marksBefore_4 (pk_le x x (fun _ => h) (fun h => by omega))
  | succ m ih =>
    intro x hx
    refine w_Lg_marksBefore_4 (pk_le p x (fun h => by omega) (fun _ => ⟨pk_in x 120 (by omega), ?_⟩))
    have ih := ih (x + 1) (by omega)
    rw [pk_cl x, show nI x + (1 : Int32) = nI (x + 1) from nI_1 x]
    refine ⟨fun hR => ?_, fun hR => ?_⟩
    · rw [lg_mk_1 hR] at ih
      rw [show nI (lg_mk (s.1 12 0) x) + (1 : Int32) = nI (lg_mk (s.1 12 0) x + 1) from nI_1 _]
      exact ih
    · rw [lg_mk_0 hR] at ih
      exact ih
theorem S_marksBefore {post : Int32 → mSt → Prop} {p : Nat} (hp : p ≤ 120) (h : post (nI (lg_mk (s.1 12 0) p)) s) : X_Lg_marksBefore scr (d + 1) s (nI p) post := w_Lg_marksBefore ⟨p + 1, S_marksBefore_4 hp h p 0 (by omega)⟩
theorem S_placeOf_f {post : Int32 → mSt → Prop} {ex : Nat → mSt → Prop} {a1 a2 : Int32} {len q : Nat} (hl : s.1 11 0 1 = nI len) (hlen : len ≤ 120) (hq : q < len) (hR : ¬ s.1 12 0 q = -1) (h : post (nI q) s) : ∀ (m x k : Nat), q ≤ x + m → x ≤ q → lg_cn (s.1 12 0) x + k = lg_cn (s.1 12 0) q → r_Lg_placeOf_9 scr d a1 a2 post ex (m + 1) s (nI k) (nI x) := by
  have hl1 : s.1 11 0 1 - (1 : Int32) = nI (len - 1) := by
    rw [hl]
    exact pk_sub (b := 1) (by omega)
  have hk30 : ∀ x k, lg_cn (s.1 12 0) x + k = lg_cn (s.1 12 0) q → k < 2 ^ 30 := fun x k hk => by
    have := lg_mk_c (R := s.1 12 0) q
    omega
  have fin : ∀ (n k : Nat), lg_cn (s.1 12 0) q + k = lg_cn (s.1 12 0) q → r_Lg_placeOf_9 scr d a1 a2 post ex (n + 1) s (nI k) (nI q) := by
    intro n k hk
    obtain rfl : k = 0 := by omega
    refine w_Lg_placeOf_9 ?_
    rw [hl1, pk_cl q]
    exact pk_le (len - 1) q (fun _ => h) (fun _ => pk_lt 0 0 (fun h => by omega) (fun _ => ⟨pk_in q 120 (by omega), fun h9 => absurd h9 hR, fun _ => h⟩))
  intro m
  induction m with
  | zero =>
    intro x k hx hxq hk
    obtain rfl : x = q := by omega
    exact fin 0 k hk
  | succ m ih =>
    intro x k hx hxq hk
    by_cases e : x = q
    · subst e
      exact fin (m + 1) k hk
    have hkk := hk30 x k hk
    refine w_Lg_placeOf_9 ?_
    rw [hl1, pk_cl x, show nI x + (1 : Int32) = nI (x + 1) from nI_1 x]
    have go1 : s.1 12 0 x = -1 → r_Lg_placeOf_9 scr d a1 a2 post ex (m + 1) s (nI k) (nI (x + 1)) := fun h9 => ih (x + 1) k (by omega) (by omega) (by rw [lg_cn_1 h9]; exact hk)
    refine pk_le (len - 1) x (fun h => by omega) (fun _ => pk_lt 0 k (fun h0 => ⟨pk_in x 120 (by omega), go1, fun h9 => ?_⟩) (fun h0 => ⟨pk_in x 120 (by omega), fun h9 => ⟨pk_in x 120 (by omega), fun h8 => go1 h8, fun h8 => absurd h9 h8⟩, fun h9 => ?_⟩))
    · obtain ⟨k, rfl⟩ : ∃ j, k = j + 1 := ⟨k - 1, by omega⟩
      rw [pk_m1]
      exact ih (x + 1) k (by omega) (by omega) (by rw [lg_cn_0 h9]; omega)
    · have h1 := lg_cn_mono (R := s.1 12 0) (show x + 1 ≤ q by omega)
      rw [lg_cn_0 h9] at h1
      omega
theorem S_placeOf {post : Int32 → mSt → Prop} {len tok k : Nat} (hl : s.1 11 0 1 = nI len) (hlen : len ≤ 120) (htok : tok < 2 ^ 30) (h : ∀ p, lg_at (s.1 12 0) len tok p → ∃ q, p ≤ q ∧ q < len ∧ (¬ s.1 12 0 q = -1) ∧ lg_cn (s.1 12 0) p + k = lg_cn (s.1 12 0) q ∧ post (nI q) s) : X_Lg_placeOf scr (d + 2) s (nI tok) (nI k) post := by
  refine w_Lg_placeOf ⟨121, S_lengthAt hl hlen htok (fun p hp => ?_)⟩
  obtain ⟨q, h1, h2, h3, h4, h5⟩ := h p hp
  exact S_placeOf_f hl hlen h2 h3 h5 120 p k (by omega) h1 h4
end
