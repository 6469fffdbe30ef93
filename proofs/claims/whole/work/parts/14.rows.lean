def mx_wd (n : Nat) (w : Cond) : Bool := decide (lw_tbl[n]? = some w)
theorem mx_wd_g {n : Nat} {w : Cond} (h : mx_wd n w = true) (hg : goodWord w = true) : w ∈ wg := wg_in (List.mem_of_getElem? (of_decide_eq_true h)) hg
theorem mx_wd_n {n : Nat} {w : Cond} (h : mx_wd n w = true) (hg : isNest w = true) : w ∈ wn := List.mem_filter.mpr ⟨List.mem_of_getElem? (of_decide_eq_true h), hg⟩
def mx_lt (pc : Nat) (off : Int) (aux : List Nat) : Bool := match aux with
  | [t] => decide ((pc : Int) + off = (t : Int))
  | _ => false
def mx_tg (pc : Nat) : List Int → List Nat → Bool
  | [], [] => true
  | o :: os, t :: ts => decide ((pc : Int) + o = (t : Int)) && mx_tg pc os ts
  | _, _ => false
def mx_fl (own : String) (idx : Nat) (aux : List Nat) : Bool := match aux with
  | ci :: j :: nest :: _ :: n :: _ => match cls[ci]? with
    | some (C, T, N) => decide (j < N) && (decide ((T j).1 = C) && (match nest with
      | 0 => mx_wd n (.fieldLink own idx C (T j).2.1 (T j).2.2.1)
      | _ + 1 => mx_wd n (.fieldLinkNest own idx C (T j).2.1 (T j).2.2.1 R_Rs)))
    | none => false
  | _ => false
def mx_fw (own mn : String) (aux : List Nat) : Bool := match aux with
  | ci :: j :: nest :: z :: _ => match cls[ci]? with
    | some (C, T, _) => (match mx_fR ci j, z with
      | 0, 0 => decide ((T j).2.2.1 = "I")
      | 0, _ + 1 => decide ((T j).2.2.1 = "Z")
      | _ + 1, _ => match parseFieldDescriptor (T j).2.2.1 with
        | some (.object _) => true
        | some (.array _) => true
        | _ => false) && (match (T j).2.2.2 with
      | true => decide (mn = "<init>") && (decide (own = C) && decide (nest = 0))
      | false => true)
    | none => false
  | _ => false
def mx_ts (pc : Nat) (d : Int) (offs : List Int) (aux : List Nat) : Bool := match aux with
  | t :: ts => decide ((pc : Int) + d = (t : Int)) && mx_tg pc offs ts
  | [] => false
theorem mx_tg_o {pc : Nat} : ∀ {offs : List Int} {ts : List Nat}, mx_tg pc offs ts = true → offs.length = ts.length ∧ ∀ n (hn : n < ts.length), ∃ o, offs[n]? = some o ∧ (pc : Int) + o = ((ts[n] : Nat) : Int)
  | [], [], _ => ⟨rfl, fun n hn => absurd hn (Nat.not_lt_zero n)⟩
  | [], _ :: _, h => by cases h
  | _ :: _, [], h => by cases h
  | o :: os, t :: ts, h => by
    obtain ⟨h1, h2⟩ := Bool.and_eq_true_iff.mp (show (decide ((pc : Int) + o = (t : Int)) && mx_tg pc os ts) = true from h)
    obtain ⟨h3, h4⟩ := mx_tg_o h2
    refine ⟨by simp [h3], fun n hn => ?_⟩
    cases n with
    | zero => exact ⟨o, rfl, of_decide_eq_true h1⟩
    | succ n => exact h4 n (by simpa using hn)
theorem mx_sw_o {x : Int32} {K : Nat → Prop} {d : Prop} : ∀ {ts : List Nat} {j : Nat}, j + ts.length < 2 ^ 31 → mx_sw x j ts K d → (∀ n (hn : n < ts.length), x = nI (j + n) → K ts[n]) ∧ ((∀ n, n < ts.length → ¬ x = nI (j + n)) → d)
  | [], _, _, h => ⟨fun n hn => absurd hn (Nat.not_lt_zero n), fun _ => h⟩
  | t :: ts, j, hb, h => by
    have hb1 : j + 1 + ts.length < 2 ^ 31 := by simp at hb; omega
    obtain ⟨h1, h2⟩ := (show (x = nI j → K t) ∧ (¬ x = nI j → mx_sw x (j + 1) ts K d) from h)
    refine ⟨fun n hn hx => ?_, fun hall => ?_⟩
    · by_cases h0 : x = nI j
      · cases n with
        | zero => exact h1 h0
        | succ n =>
          have hn : n + 1 < ts.length + 1 := by simpa using hn
          have h9 := (nI_eq (by omega) (by omega)).mp (h0.symm.trans hx)
          omega
      · cases n with
        | zero => exact absurd hx h0
        | succ n => exact (mx_sw_o hb1 (h2 h0)).1 n (by simpa using hn) (by rw [hx]; congr 1; omega)
    · have h0 : ¬ x = nI j := hall 0 (by simp)
      exact (mx_sw_o hb1 (h2 h0)).2 (fun n hn => by
        have h9 := hall (n + 1) (by simpa using hn)
        rw [show j + 1 + n = j + (n + 1) by omega]
        exact h9)
def mx_nk (own : String) (n : Nat) (aux : List Nat) : Bool := match aux with
  | 0 :: ci :: w1 :: w2 :: w3 :: _ => match cls[ci]? with
    | some (C, _, N) => mx_wd w1 (.classLink own n C) && (mx_wd w2 (.instantiable C N) && mx_wd w3 (.initialized C))
    | none => false
  | (_ + 1) :: _ => true
  | _ => false
theorem mx_nk_o {own : String} {n ci : Nat} {r : List Nat} (h : mx_nk own n (0 :: ci :: r) = true) : ∃ C T N, cls[ci]? = some (C, T, N) ∧ Cond.classLink own n C ∈ wg ∧ Cond.instantiable C N ∈ wg ∧ Cond.initialized C ∈ wg := by
  match r, h with
  | [], h => cases h
  | [_], h => cases h
  | [_, _], h => cases h
  | w1 :: w2 :: w3 :: r, h =>
    unfold mx_nk at h
    dsimp only at h
    split at h
    · rename_i C T N hc
      obtain ⟨h1, h2⟩ := Bool.and_eq_true_iff.mp h
      obtain ⟨h2, h3⟩ := Bool.and_eq_true_iff.mp h2
      exact ⟨C, T, N, hc, mx_wd_g h1 rfl, mx_wd_g h2 rfl, mx_wd_g h3 rfl⟩
    · cases h
def mx_ak (own : String) (n : Nat) (aux : List Nat) : Bool := match aux with
  | g :: w :: _ => match cls[mx_fX g]? with
    | some (C, _, _) => mx_wd w (.classLink own n C) && (decide (g = 5 ∧ C = R_Rl) || decide (g = 14 ∧ C = R_Vs))
    | none => false
  | _ => false
theorem mx_ak_o {own : String} {n g : Nat} {r : List Nat} (h : mx_ak own n (g :: r) = true) : ∃ C T N, cls[mx_fX g]? = some (C, T, N) ∧ Cond.classLink own n C ∈ wg ∧ ((g = 5 ∧ C = R_Rl) ∨ (g = 14 ∧ C = R_Vs)) := by
  match r, h with
  | [], h => cases h
  | w :: r, h =>
    unfold mx_ak at h
    dsimp only at h
    split at h
    · rename_i C T N hc
      obtain ⟨h1, h2⟩ := Bool.and_eq_true_iff.mp h
      refine ⟨C, T, N, hc, mx_wd_g h1 rfl, ?_⟩
      rcases Bool.or_eq_true_iff.mp h2 with h3 | h3
      · exact Or.inl (of_decide_eq_true h3)
      · exact Or.inr (of_decide_eq_true h3)
    · cases h
def mx_ok0 (own : String) (n : Nat) (aux : List Nat) : Bool := match aux with
  | [] => decide (Cond.methodLink own n Lib.objectInit ∈ lw_tbl) || decide (own = R_Rs ∧ (n = 59 ∨ n = 66 ∨ n = 72))
  | _ :: _ => true
def mx_c1 (own : String) (n : Nat) (lc : Int64) (aux : List Nat) : Bool := match aux with
  | [w] => mx_wd w (.constantLong own n lc)
  | _ => false
theorem mx_c1_o {own : String} {n : Nat} {lc : Int64} {aux : List Nat} (h : mx_c1 own n lc aux = true) : Cond.constantLong own n lc ∈ wg := by
  unfold mx_c1 at h
  split at h
  · exact mx_wd_g h rfl
  · cases h
def mx_okI (own mn : String) (maxL : Nat) (e : mEn) : Bool := match e with
  | (pc, _, ins, len, aux, ic, lc) => match ins with
    | .iconst n => decide (len = 1 ∧ Int32.ofInt n = ic)
    | .bipush n => decide (len = 2 ∧ (Int8.ofInt n).toInt32 = ic)
    | .sipush n => decide (len = 3 ∧ (Int16.ofInt n).toInt32 = ic)
    | .lconst n => decide (len = 1 ∧ Int64.ofNat n.val = lc)
    | .ldc2_w n => decide (len = 3) && mx_c1 own n lc aux
    | .iload _ => decide (len = 2)
    | .lload _ => decide (len = 2)
    | .aload _ => decide (len = 2)
    | .iload_n _ => decide (len = 1)
    | .lload_n _ => decide (len = 1)
    | .aload_n _ => decide (len = 1)
    | .istore i => decide (len = 2 ∧ i < maxL)
    | .lstore i => decide (len = 2 ∧ i + 1 < maxL)
    | .astore i => decide (len = 2 ∧ i < maxL)
    | .istore_n i => decide (len = 1 ∧ i.val < maxL)
    | .lstore_n i => decide (len = 1 ∧ i.val + 1 < maxL)
    | .astore_n i => decide (len = 1 ∧ i.val < maxL)
    | .iinc i n => decide (len = 3 ∧ Int32.ofInt n = ic ∧ i < maxL)
    | .goto off => decide (len = 3) && mx_lt pc off aux
    | .ifCond _ off => decide (len = 3) && mx_lt pc off aux
    | .if_icmp _ off => decide (len = 3) && mx_lt pc off aux
    | .tableswitch d lo hi offs => decide (lo = 0 ∧ hi + 1 = offs.size ∧ hi < 100) && mx_ts pc d offs.toList aux
    | .getfield n => decide (len = 3) && mx_fl own n aux
    | .putfield n => decide (len = 3) && (mx_fl own n aux && mx_fw own mn aux)
    | .anewarray n => decide (len = 3) && mx_ak own n aux
    | .new n => decide (len = 3) && mx_nk own n aux
    | .invokevirtual _ => decide (len = 3)
    | .invokestatic _ => decide (len = 3)
    | .invokespecial n => decide (len = 3) && mx_ok0 own n aux
    | .newarray _ => decide (len = 2)
    | _ => decide (len = 1)
def mx_okE (own mn : String) (cc : ByteArray) (maxL : Nat) (e : mEn) : Bool := decide (decode cc e.1 = .ok (e.2.2.1, e.2.2.2.1)) && mx_okI own mn maxL e
def mx_cns : List mEn → Bool
  | [] => true
  | [_] => true
  | a :: b :: r => Nat.beq b.1 (a.1 + a.2.2.2.1) && mx_cns (b :: r)
def mx_Sf (C es : List mEn) : Prop := ∃ pre, C = pre ++ es
theorem mx_Sf.in {C es : List mEn} {e : mEn} (h : mx_Sf C (e :: es)) : e ∈ C := by
  obtain ⟨pre, rfl⟩ := h
  simp
theorem mx_Sf.tail {C es : List mEn} {e : mEn} (h : mx_Sf C (e :: es)) : mx_Sf C es := by
  obtain ⟨pre, rfl⟩ := h
  exact ⟨pre ++ [e], by simp⟩
theorem mx_cns_t : ∀ {pre es : List mEn}, mx_cns (pre ++ es) = true → mx_cns es = true
  | [], _, h => h
  | [a], [], _ => rfl
  | [a], b :: r, h => by
    have h : (Nat.beq b.1 (a.1 + a.2.2.2.1) && mx_cns (b :: r)) = true := h
    exact (Bool.and_eq_true_iff.mp h).2
  | a :: b :: pre, es, h => by
    have h : (Nat.beq b.1 (a.1 + a.2.2.2.1) && mx_cns (b :: (pre ++ es))) = true := h
    exact mx_cns_t (pre := b :: pre) (Bool.and_eq_true_iff.mp h).2
theorem mx_nx {C es : List mEn} {e : mEn} (hc : mx_cns C = true) (h : mx_Sf C (e :: es)) : ∀ e' r, es = e' :: r → e'.1 = e.1 + e.2.2.2.1 := by
  obtain ⟨pre, rfl⟩ := h
  intro e' r he
  subst he
  have h1 := mx_cns_t hc
  have h1 : (Nat.beq e'.1 (e.1 + e.2.2.2.1) && mx_cns (e' :: r)) = true := h1
  exact Nat.eq_of_beq_eq_true (Bool.and_eq_true_iff.mp h1).1
theorem mx_jp_sf (C : List mEn) (t : Nat) : mx_Sf C (mx_jp C t) := ⟨C.takeWhile (fun e => !(Nat.beq e.1 t)), (List.takeWhile_append_dropWhile).symm⟩
theorem mx_jp_hd {C : List mEn} {t : Nat} : ∀ e r, mx_jp C t = e :: r → e.1 = t := by
  induction C with
  | nil =>
    intro e r h
    cases h
  | cons a C ih =>
    intro e r h
    unfold mx_jp at h ih
    rw [List.dropWhile_cons] at h
    cases hb : Nat.beq a.1 t with
    | true =>
      rw [hb] at h
      cases h
      exact Nat.eq_of_beq_eq_true hb
    | false =>
      rw [hb] at h
      exact ih e r h
def mx_GA (p : Program) (l : Launch) (e : Env) (R : Room) (s0 : State) (m : MethodId) (args : Array Value) (below : List Frame) (meth : Method) (c : Code) (Q : State → Prop) (md : Bool) (D : va_G) (ca : Nat → ClassId) (bs maxL : Nat) (pc : Nat) (L : mLV) (S : List mAV) (s : mSt) (u : Nat × Nat) : Prop :=
  ∀ (H : Heap) (lcs : List Loc) (ls : Array Slot), mx_WH md D ca bs s H → va_S (fun q => bs ≤ q) s0.heap H lcs → lv_has ls maxL (mx_VL bs L) → mx_oL s L → mx_oS s S → (u.1 ≤ R.cells ∧ u.2 ≤ R.slots) → (md = false → bs + s.2.2.2 = s0.heap.size + u.1) → W p l e R s0 m args below meth c H lcs u.1 u.2 Q (F0 m pc ls (S.map (mx_vv bs)))
section
variable {p : Program} {l : Launch} {e : Env} {R : Room} {s0 : State} {m : MethodId} {args : Array Value} {below : List Frame} {meth : Method} {c : Code} {Q : State → Prop} {md : Bool} {D : va_G} {ca : Nat → ClassId} {bs maxL : Nat} {pc pc' : Nat} {L L' : mLV} {S S' : List mAV} {s : mSt} {u : Nat × Nat}
theorem mx_g (h : mx_GA p l e R s0 m args below meth c Q md D ca bs maxL pc' L S' s u) (hr : ∀ H lcs ls, lv_has ls maxL (mx_VL bs L) → W p l e R s0 m args below meth c H lcs u.1 u.2 Q (F0 m pc' ls (S'.map (mx_vv bs))) → W p l e R s0 m args below meth c H lcs u.1 u.2 Q (F0 m pc ls (S.map (mx_vv bs)))) (ho : mx_oL s L → mx_oS s S → mx_oS s S') : mx_GA p l e R s0 m args below meth c Q md D ca bs maxL pc L S s u := fun H lcs ls hW hS hl hL hO hu hz => hr H lcs ls hl (h H lcs ls hW hS hl hL (ho hL hO) hu hz)
theorem mx_gl (h : mx_GA p l e R s0 m args below meth c Q md D ca bs maxL pc' L' S' s u) (hr : ∀ H lcs ls, lv_has ls maxL (mx_VL bs L) → (∀ ls', lv_has ls' maxL (mx_VL bs L') → W p l e R s0 m args below meth c H lcs u.1 u.2 Q (F0 m pc' ls' (S'.map (mx_vv bs)))) → W p l e R s0 m args below meth c H lcs u.1 u.2 Q (F0 m pc ls (S.map (mx_vv bs)))) (hL : mx_oL s L → mx_oS s S → mx_oL s L') (hO : mx_oS s S → mx_oS s S') : mx_GA p l e R s0 m args below meth c Q md D ca bs maxL pc L S s u := fun H lcs ls hW hS hl hL0 hO0 hu hz => hr H lcs ls hl (fun ls' hl' => h H lcs ls' hW hS hl' (hL hL0 hO0) (hO hO0) hu hz)
theorem mx_g2 {C : Prop} {pt pf : Nat} (h : (C → mx_GA p l e R s0 m args below meth c Q md D ca bs maxL pt L S' s u) ∧ (¬ C → mx_GA p l e R s0 m args below meth c Q md D ca bs maxL pf L S' s u)) (hr : ∀ H lcs ls, (C → W p l e R s0 m args below meth c H lcs u.1 u.2 Q (F0 m pt ls (S'.map (mx_vv bs)))) → (¬ C → W p l e R s0 m args below meth c H lcs u.1 u.2 Q (F0 m pf ls (S'.map (mx_vv bs)))) → W p l e R s0 m args below meth c H lcs u.1 u.2 Q (F0 m pc ls (S.map (mx_vv bs)))) (hO : mx_oS s S → mx_oS s S') : mx_GA p l e R s0 m args below meth c Q md D ca bs maxL pc L S s u := fun H lcs ls hW hS hl hL0 hO0 hu hz => hr H lcs ls (fun hc => h.1 hc H lcs ls hW hS hl hL0 (hO hO0) hu hz) (fun hc => h.2 hc H lcs ls hW hS hl hL0 (hO hO0) hu hz)
end
theorem mx_t6 : ∀ f, f < mx_fam.length → mx_fK f = 0 ∨ mx_fK f = 1 ∨ mx_fK f = 2 ∨ mx_fK f = 3 ∨ mx_fK f = 4 ∨ mx_fK f = 5 := by decide +kernel
theorem mx_t7 : ∀ f, f < mx_fam.length → mx_fK f = 5 → mx_tA f = 3 ∨ mx_tA f = 4 := by decide +kernel
theorem mx_t8 : ∀ f, f < mx_fam.length → mx_fK f = 0 → mx_fX f < 7 := by decide +kernel
theorem mx_t9 : ∀ c, c < 7 → ∀ j, j < mx_nF c → mx_fR c j ≤ mx_fam.length := by decide +kernel
theorem mx_cin {ci : Nat} {C : String} {T : u_T} {N : Nat} (h : cls[ci]? = some (C, T, N)) : (∀ w ∈ u_ws C T N, w ∈ wg) ∧ mx_nF ci = N := by
  match ci, h with
  | 0, h => cases h; exact ⟨in_Rs, rfl⟩
  | 1, h => cases h; exact ⟨in_Cf, rfl⟩
  | 2, h => cases h; exact ⟨in_Lg, rfl⟩
  | 3, h => cases h; exact ⟨in_Rd, rfl⟩
  | 4, h => cases h; exact ⟨in_Rl, rfl⟩
  | 5, h => cases h; exact ⟨in_Vs, rfl⟩
  | 6, h => cases h; exact ⟨in_Md, rfl⟩
  | n + 7, h => cases h
theorem mx_tAo (ca : Nat → ClassId) {f i : Nat} (h : mx_fK f = 5) (hi : i < mx_fC f) : ∃ (t0 : Nat) (C : String), (tyl ca)[t0]? = some (ca (mx_tA f), FieldType.object C) := by
  rcases mx_t7 f (mx_t0 hi) h with e | e
  · exact ⟨3, _, by rw [e]; rfl⟩
  · exact ⟨4, _, by rw [e]; rfl⟩
section
variable {md : Bool} {D : va_G} {ca : Nat → ClassId} {bs : Nat} {s : mSt} {H H1 : Heap} {f i j : Nat}
theorem mx_alen (h : ¬ mx_fK f = 0) (hok : i < mx_fC f ∧ mx_num f i < s.2.2.2) : ∃ (t0 : Nat) (cA : ClassId) (x : vp_A) (ty : FieldType), (mx_ws ca bs s)[mx_num f i]? = some (bs + mx_num f i, .inl (cA, x)) ∧ (tyl ca)[t0]? = some (cA, ty) ∧ Int32.ofNat x.1 = nI (mx_fX f) := by
  have ha := mx_at (ca := ca) (bs := bs) hok
  rcases mx_t6 f (mx_t0 hok.1) with e | e | e | e | e | e
  · exact absurd e h
  · exact ⟨0, _, _, _, ha.trans (by rw [mx_enc1 e]), rfl, rfl⟩
  · exact ⟨2, _, _, _, ha.trans (by rw [mx_enc2 e]), rfl, rfl⟩
  · exact ⟨5, _, _, _, ha.trans (by rw [mx_enc3 e]), rfl, rfl⟩
  · exact ⟨1, _, _, _, ha.trans (by rw [mx_enc4 e]), rfl, rfl⟩
  · obtain ⟨t0, C, ht⟩ := mx_tAo ca e hok.1
    exact ⟨t0, _, _, _, ha.trans (by rw [mx_enc5 e]), ht, rfl⟩
theorem mx_okT (hm : mx_Made s) {g y : Nat} (h : y < mx_fC g) : mx_ok s (.inr (.inr (.inl (g, y)))) := ⟨h, by rw [hm.1]; exact (mx_t1 g (mx_t0 h) y h).2⟩
theorem mx_al_o {g : Nat} {r : Option Nat} {k : mAV → Prop} (h : mx_al s g r k) : ∃ y, r = some y ∧ mx_ok s (.inr (.inr (.inl (g, y)))) ∧ k (.inr (.inr (.inl (g, y)))) := by
  unfold mx_al at h
  cases r with
  | none => exact False.elim h
  | some y =>
    dsimp only at h
    split at h
    · rename_i hb
      obtain ⟨h1, h2⟩ := Bool.and_eq_true_iff.mp hb
      exact ⟨y, rfl, ⟨Nat.le_of_ble_eq_true h1, Nat.le_of_ble_eq_true h2⟩, h⟩
    · exact False.elim h
theorem mx_gr_o {g : Nat} {r : Option Nat} {k : mAV → Prop} (hW : mx_WH md D ca bs s H) (hm : mx_Made s → r = some i) (hi : mx_Made s → i < mx_fC g) (h : mx_gr md s g i r k) : ∃ y, r = some y ∧ mx_ok s (.inr (.inr (.inl (g, y)))) ∧ k (.inr (.inr (.inl (g, y)))) := by
  cases md with
  | true => exact ⟨i, hm (hW.2.2 rfl), mx_okT (hW.2.2 rfl) (hi (hW.2.2 rfl)), h⟩
  | false => exact mx_al_o h
theorem mx_get_o {k : mAV → Prop} (hW : mx_WH md D ca bs s H) (hok : i < mx_fC f ∧ mx_num f i < s.2.2.2) (h0 : mx_fK f = 0) (hj : j < mx_nF (mx_fX f)) (h : mx_get md s f i (mx_fX f) j k) : ∃ v, mx_fv bs s f i j = mx_vv bs v ∧ mx_ok s v ∧ k v := by
  have hf := mx_t0 hok.1
  unfold mx_get at h
  cases hr : mx_fR (mx_fX f) j with
  | zero =>
    rw [hr] at h
    exact ⟨.inl (s.1 f i j), by unfold mx_fv; rw [hr]; rfl, trivial, h⟩
  | succ g =>
    rw [hr] at h
    have hg : g < mx_fam.length := by
      have h9 := mx_t9 _ (mx_t8 f hf h0) j hj
      omega
    have fin : ∀ y, s.2.2.1 f i j = some y → mx_fv bs s f i j = mx_vv bs (.inr (.inr (.inl (g, y)))) := fun y hy => by
      unfold mx_fv
      rw [hr, hy]
      rfl
    cases md with
    | false =>
      obtain ⟨y, hy, hyo, h⟩ := mx_al_o (show mx_al s g (s.2.2.1 f i j) k from h)
      exact ⟨_, fin y hy, hyo, h⟩
    | true =>
      cases hb : Nat.beq (mx_fX f) 3 with
      | true =>
        rw [hb] at h
        obtain ⟨y, hy, hyl, h⟩ := (show ∃ y, s.2.2.1 f i j = some y ∧ y < mx_fC g ∧ k (.inr (.inr (.inl (g, y)))) from h)
        exact ⟨_, fin y hy, mx_okT (hW.2.2 rfl) hyl, h⟩
      | false =>
        rw [hb] at h
        have h3 : ¬ mx_fX f = 3 := Nat.ne_of_beq_eq_false hb
        obtain ⟨y, hy, hyo, h⟩ := mx_gr_o hW (fun hm => hm.2.1 f i j g hok.1 h0 h3 hr) (fun _ => by rw [mx_t3 hf h0 h3 hj hg hr]; exact hok.1) (show mx_gr true s g i (s.2.2.1 f i j) k from h)
        exact ⟨_, fin y hy, hyo, h⟩
theorem mx_enc1s {v : Int32} (h : mx_fK f = 1) : mx_enc ca bs (mx_si s f i j v) f i = .inl (ca 0, mx_fX f, .inl (upd (s.1 f i) j v)) := by
  rw [mx_enc1 h]
  show Sum.inl (ca 0, mx_fX f, Sum.inl (mx_u3 s.1 f i j v f i)) = _
  rw [mx_u3i]
theorem mx_enc2s {v : Int32} (h : mx_fK f = 2) : mx_enc ca bs (mx_si s f i j v) f i = .inl (ca 2, mx_fX f, .inl (upd (s.1 f i) j v)) := by
  rw [mx_enc2 h]
  show Sum.inl (ca 2, mx_fX f, Sum.inl (mx_u3 s.1 f i j v f i)) = _
  rw [mx_u3i]
theorem mx_enc3s {v : Int32} (h : mx_fK f = 3) : mx_enc ca bs (mx_si s f i j v) f i = .inl (ca 5, mx_fX f, .inl (upd (s.1 f i) j v)) := by
  rw [mx_enc3 h]
  show Sum.inl (ca 5, mx_fX f, Sum.inl (mx_u3 s.1 f i j v f i)) = _
  rw [mx_u3i]
theorem mx_enc4s {v : Int64} (h : mx_fK f = 4) : mx_enc ca bs (mx_sl s f i j v) f i = .inl (ca 1, mx_fX f, .inr (.inl (vp_updL (s.2.1 f i) j v))) := by
  rw [mx_enc4 h]
  show Sum.inl (ca 1, mx_fX f, Sum.inr (Sum.inl (mx_u3 s.2.1 f i j v f i))) = _
  rw [mx_u3l]
theorem mx_WH_si {v : Int32} {E : va_E} (hW : mx_WH md D ca bs s H) (hok : i < mx_fC f ∧ mx_num f i < s.2.2.2) (he : mx_enc ca bs (mx_si s f i j v) f i = E) (hP : va_P D cls ((mx_ws ca bs s).set (mx_num f i) (bs + mx_num f i, E)) H1) : mx_WH md D ca bs (mx_si s f i j v) H1 := by
  rw [← he, mx_set (s' := mx_si s f i j v) hW.2.1 rfl hok (fun f' i' h => mx_encC (mx_u3n h) rfl rfl)] at hP
  exact ⟨hP, hW.2.1, hW.2.2⟩
theorem mx_WH_sl {v : Int64} {E : va_E} (hW : mx_WH md D ca bs s H) (hok : i < mx_fC f ∧ mx_num f i < s.2.2.2) (he : mx_enc ca bs (mx_sl s f i j v) f i = E) (hP : va_P D cls ((mx_ws ca bs s).set (mx_num f i) (bs + mx_num f i, E)) H1) : mx_WH md D ca bs (mx_sl s f i j v) H1 := by
  rw [← he, mx_set (s' := mx_sl s f i j v) hW.2.1 rfl hok (fun f' i' h => mx_encC rfl (mx_u3n h) rfl)] at hP
  exact ⟨hP, hW.2.1, hW.2.2⟩
theorem mx_fl_o {own : String} {idx : Nat} {aux : List Nat} (h : mx_fl own idx aux = true) : ∃ ci j nest z w r C T N, aux = ci :: j :: nest :: z :: w :: r ∧ cls[ci]? = some (C, T, N) ∧ j < N ∧ (T j).1 = C ∧ ((nest = 0 ∧ Cond.fieldLink own idx C (T j).2.1 (T j).2.2.1 ∈ wg) ∨ (¬ nest = 0 ∧ Cond.fieldLinkNest own idx C (T j).2.1 (T j).2.2.1 R_Rs ∈ wn)) := by
  unfold mx_fl at h
  split at h
  · rename_i ci j nest z w r
    split at h
    · rename_i C T N hc
      obtain ⟨h1, h2⟩ := Bool.and_eq_true_iff.mp h
      obtain ⟨h3, h4⟩ := Bool.and_eq_true_iff.mp h2
      refine ⟨ci, j, nest, z, w, r, C, T, N, rfl, hc, of_decide_eq_true h1, of_decide_eq_true h3, ?_⟩
      cases nest with
      | zero => exact Or.inl ⟨rfl, mx_wd_g h4 rfl⟩
      | succ n => exact Or.inr ⟨Nat.succ_ne_zero n, mx_wd_n h4 rfl⟩
    · cases h
  · cases h
end
