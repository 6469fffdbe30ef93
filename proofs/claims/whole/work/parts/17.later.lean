section
variable {p : Program} {l : Launch} {e : Env} {R : Room} {s0 : State} {m : MethodId} {args : Array Value} {below : List Frame} {meth : Method} {c : Code} {Q : State → Prop} {md : Bool} {D : va_G} {ca : Nat → ClassId} {bs maxL : Nat} {L : mLV} {S : List mAV} {s : mSt} {u : Nat × Nat}
theorem mx_fvn {j j' : Nat} {f i : Nat} {v : Int32} (h : ¬ j' = j) : mx_fv bs (mx_si s f i j v) f i j' = mx_fv bs s f i j' := by
  unfold mx_fv
  have e1 : (mx_si s f i j v).1 f i j' = s.1 f i j' := by
    show mx_u3 s.1 f i j v f i j' = _
    unfold mx_u3
    rw [if_neg (fun h9 => h h9.2.2)]
  rw [e1]
  rfl
theorem mx_fvnp {j j' y : Nat} {f i : Nat} (h : ¬ j' = j) : mx_fv bs (mx_sp s f i j y) f i j' = mx_fv bs s f i j' := by
  unfold mx_fv
  have e1 : (mx_sp s f i j y).2.2.1 f i j' = s.2.2.1 f i j' := by
    show mx_u3 s.2.2.1 f i j (some y) f i j' = _
    unfold mx_u3
    rw [if_neg (fun h9 => h h9.2.2)]
  rw [e1]
  rfl
theorem mx_setf {n j : Nat} {F G : Nat → Value} {v : Value} (hj : j < n) (hv : G j = v) (hn : ∀ j', ¬ j' = j → G j' = F j') : (List.range n).map G = ((List.range n).map F).set j v := by
  apply List.ext_getElem?
  intro q
  rw [List.getElem?_set]
  by_cases hq : j = q
  · subst hq
    rw [if_pos rfl, if_pos (by simp [hj]), List.getElem?_map, List.getElem?_range hj]
    simp [hv]
  · rw [if_neg hq]
    by_cases hl : q < n
    · rw [List.getElem?_map, List.getElem?_map, List.getElem?_range hl]
      simp [hn q (fun h => hq h.symm)]
    · rw [List.getElem?_eq_none (by simp; omega), List.getElem?_eq_none (by simp; omega)]
theorem mx_enc0s {f i j : Nat} {v : Int32} (h : mx_fK f = 0) (hr : mx_fR (mx_fX f) j = 0) (hj : j < mx_nF (mx_fX f)) : mx_enc ca bs (mx_si s f i j v) f i = .inr (mx_fX f, ((List.range (mx_nF (mx_fX f))).map (mx_fv bs s f i)).set j (.int v)) := by
  rw [mx_enc0 h, mx_setf (F := mx_fv bs s f i) (v := .int v) hj ?_ (fun j' h' => mx_fvn h')]
  unfold mx_fv
  rw [hr]
  show Value.int (mx_u3 s.1 f i j v f i j) = _
  simp [mx_u3]
theorem mx_enc0p {f i j g y : Nat} (h : mx_fK f = 0) (hr : mx_fR (mx_fX f) j = g + 1) (hj : j < mx_nF (mx_fX f)) : mx_enc ca bs (mx_sp s f i j y) f i = .inr (mx_fX f, ((List.range (mx_nF (mx_fX f))).map (mx_fv bs s f i)).set j (.ref (bs + mx_num g y))) := by
  rw [mx_enc0 h, mx_setf (F := mx_fv bs s f i) (v := .ref (bs + mx_num g y)) hj ?_ (fun j' h' => mx_fvnp h')]
  unfold mx_fv
  rw [hr]
  show va_rf ((mx_u3 s.2.2.1 f i j (some y) f i j).map _) = _
  simp [mx_u3, va_rf]
theorem mx_enc5p {f i j y : Nat} (h : mx_fK f = 5) : mx_enc ca bs (mx_sp s f i j y) f i = .inl (ca (mx_tA f), mx_fX f, .inr (.inr (.inr (.inr (va_up (fun k => (s.2.2.1 f i k).map (fun y => bs + mx_num (mx_fY f) y)) j (some (bs + mx_num (mx_fY f) y))))))) := by
  rw [mx_enc5 h]
  have e1 : (fun k => ((mx_sp s f i j y).2.2.1 f i k).map (fun y => bs + mx_num (mx_fY f) y)) = va_up (fun k => (s.2.2.1 f i k).map (fun y => bs + mx_num (mx_fY f) y)) j (some (bs + mx_num (mx_fY f) y)) := by
    funext z
    show (mx_u3 s.2.2.1 f i j (some y) f i z).map _ = _
    unfold mx_u3 va_up
    by_cases hz : z = j
    · simp [hz]
    · simp [hz]
  rw [e1]
theorem mx_WH_sp {f i j y : Nat} {E : va_E} {H H1 : Heap} (hW : mx_WH md D ca bs s H) (hok : i < mx_fC f ∧ mx_num f i < s.2.2.2) (hmd : md = false ∨ mx_fK f = 0 ∧ mx_fX f = 3) (he : mx_enc ca bs (mx_sp s f i j y) f i = E) (hP : va_P D cls ((mx_ws ca bs s).set (mx_num f i) (bs + mx_num f i, E)) H1) : mx_WH md D ca bs (mx_sp s f i j y) H1 := by
  rw [← he, mx_set (s' := mx_sp s f i j y) hW.2.1 rfl hok (fun f' i' h => mx_encC rfl rfl (mx_u3n h))] at hP
  refine ⟨hP, hW.2.1, fun hm => ?_⟩
  rcases hmd with h | ⟨h0, h3⟩
  · rw [h] at hm
    cases hm
  · obtain ⟨m1, m2, m3⟩ := hW.2.2 hm
    refine ⟨m1, fun f' i' j' g hi hk hx hr => ?_, fun f' i' j' hi hk hx => ?_⟩
    · have e1 : (mx_sp s f i j y).2.2.1 f' i' = s.2.2.1 f' i' := mx_u3n (fun h9 => hx (by rw [h9.1]; exact h3))
      rw [e1]
      exact m2 f' i' j' g hi hk hx hr
    · have e1 : (mx_sp s f i j y).2.2.1 f' i' = s.2.2.1 f' i' := mx_u3n (fun h9 => by rw [h9.1, h0] at hk; cases hk)
      rw [e1]
      exact m3 f' i' j' hi hk hx
theorem mx_tyf {ci : Nat} {C : String} {T : u_T} {N : Nat} (h : cls[ci]? = some (C, T, N)) : ∃ ty0 : Nat → FieldType, (∀ k, k < N → parseFieldDescriptor (T k).2.2.1 = some (ty0 k)) ∧ ∀ a, a < N → ∀ b, b < N → a ≠ b → (T a).2.1 ≠ (T b).2.1 := by
  match ci, h with
  | 0, h => cases h; exact ⟨_, tk_Rs, nm_Rs⟩
  | 1, h => cases h; exact ⟨_, tk_Cf, nm_Cf⟩
  | 2, h => cases h; exact ⟨_, tk_Lg, nm_Lg⟩
  | 3, h => cases h; exact ⟨_, tk_Rd, nm_Rd⟩
  | 4, h => cases h; exact ⟨_, tk_Rl, nm_Rl⟩
  | 5, h => cases h; exact ⟨_, tk_Vs, nm_Vs⟩
  | 6, h => cases h; exact ⟨_, tk_Md, nm_Md⟩
  | n + 7, h => cases h
theorem mx_putr {cc : ByteArray} {own mn : String} {pc n ci j nest z w : Nat} {r : List Nat} {C : String} {T : u_T} {N : Nat} {H : Heap} {lcs : List Loc} {ls : Array Slot} {f i : Nat} {v : Value} {ty : FieldType} {rest : List Value}
    (hx : p.tables.exec = Jvm.exec) (hb : c.code = cc) (hown : s0.vm.findClass own = some m.cls) (hmn : meth.name = mn) (hts : ∀ w ∈ wg, w.before args s0 = true) (hV : mx_VM D ca s0) (hd : decode cc pc = .ok (.putfield n, 3))
    (hc : cls[ci]? = some (C, T, N)) (hj : j < N) (hTj : (T j).1 = C) (hlk : (nest = 0 ∧ Cond.fieldLink own n C (T j).2.1 (T j).2.2.1 ∈ wg) ∨ (¬ nest = 0 ∧ Cond.fieldLinkNest own n C (T j).2.1 (T j).2.2.1 R_Rs ∈ wn))
    (hfw : mx_fw own mn (ci :: j :: nest :: z :: w :: r) = true) (hW : mx_WH md D ca bs s H) (hS : va_S (fun q => bs ≤ q) s0.heap H lcs) (hok : i < mx_fC f ∧ mx_num f i < s.2.2.2) (h0 : mx_fK f = 0) (h1 : mx_fX f = ci)
    (hty : parseFieldDescriptor (T j).2.2.1 = some ty) (hn : narrow ty v = v) (hfit : fits ty v = true)
    (kk : ∀ (H1 : Heap) (lcs1 : List Loc), va_P D cls ((mx_ws ca bs s).set (mx_num f i) (bs + mx_num f i, .inr (ci, ((List.range (mx_nF ci)).map (mx_fv bs s f i)).set j v))) H1 → va_S (fun q => bs ≤ q) s0.heap H1 lcs1 → W p l e R s0 m args below meth c H1 lcs1 u.1 u.2 Q (F0 m (pc + 3) ls rest)) : W p l e R s0 m args below meth c H lcs u.1 u.2 Q (F0 m pc ls (v :: .ref (bs + mx_num f i) :: rest)) := by
  subst h1
  obtain ⟨hin, hN⟩ := mx_cin hc
  obtain ⟨ty0, ht0, hnm⟩ := mx_tyf hc
  have hat : (mx_ws ca bs s)[mx_num f i]? = some (bs + mx_num f i, .inr (mx_fX f, (List.range (mx_nF (mx_fX f))).map (mx_fv bs s f i))) := (mx_at hok).trans (by rw [mx_enc0 h0])
  have hl : j < ((List.range (mx_nF (mx_fX f))).map (mx_fv bs s f i)).length := by simp; rw [hN]; exact hj
  have hsame : ∀ x, s0.fieldFound? (T j).1 (T j).2.1 (T j).2.2.1 = some x → s0.fieldFound? C (T j).2.1 (T j).2.2.1 = some x := by rw [hTj]; exact fun _ h9 => h9
  unfold mx_fw at hfw
  dsimp only at hfw
  rw [hc] at hfw
  dsimp only at hfw
  have hfw2 := (Bool.and_eq_true_iff.mp hfw).2
  cases hfin : (T j).2.2.2 with
  | false =>
    rcases hlk with ⟨-, hlk⟩ | ⟨-, hlk⟩
    · exact va_put hx hb hts hin ty0 ht0 hnm hown hV.1 hW.1 mx_D hS (mx_num f i) hat hc j hj (hts _ hlk) hsame hfin hty hn hfit hl hd (fun H1 lcs1 hP1 _ hS1 => kk H1 lcs1 hP1 hS1)
    · exact va_putN hx hb hts hin ty0 ht0 hnm hown hV.1 hW.1 mx_D hS (mx_num f i) hat hc j hj (va_Nw.use rfl (hV.2.1 _ hlk)) hsame hfin hty hn hfit hl hd (fun H1 lcs1 hP1 _ hS1 => kk H1 lcs1 hP1 hS1)
  | true =>
    rw [hfin] at hfw2
    obtain ⟨g1, g2⟩ := Bool.and_eq_true_iff.mp hfw2
    obtain ⟨g2, g3⟩ := Bool.and_eq_true_iff.mp g2
    have g1 : mn = "<init>" := of_decide_eq_true g1
    have g2 : own = C := of_decide_eq_true g2
    have g3 : nest = 0 := of_decide_eq_true g3
    rcases hlk with ⟨-, hlk⟩ | ⟨h9, hlk⟩
    · exact va_putF hx hb hts hin ty0 ht0 hnm hown hV.1 hW.1 mx_D hS (mx_num f i) hat hc j hj (hts _ hlk) hsame hfin (hmn.trans g1) (hTj.trans g2.symm) hty hn hfit hl hd (fun H1 lcs1 hP1 _ hS1 => kk H1 lcs1 hP1 hS1)
    · exact absurd g3 h9
end
