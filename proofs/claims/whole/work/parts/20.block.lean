def mx_MQ (below : List Frame) (Qc : Array Value → State → Outcome → State → Prop) (a : Array Value) (s : State) (mc ms : Nat) (free : Addr → Prop) : State → Prop := fun t =>
  ∃ o, t.status = .running ∧ Ended t below o ∧ Qc a s o t ∧ ∃ L, (s.WarmedH t.vm ∧ s.sameButNew ({ t with vm := s.vm } : State) L mc ms) ∧ ∀ q ∈ L, free q.base
theorem mx_mono {p : Program} {l : Launch} {e : Env} {R : Room} {s : State} {m : MethodId} {args : Array Value} {below : List Frame} {meth : Method} {c : Code} {H : Heap} {locs : List Loc} {cells slots : Nat} {Q Q' : State → Prop} {g : JFrame} (h : ∀ t, Q t → Q' t) (k : W p l e R s m args below meth c H locs cells slots Q g) : W p l e R s m args below meth c H locs cells slots Q' g := fun T hT X => by
  obtain ⟨t, a, b⟩ := k T hT X
  exact ⟨t, a, h t b⟩
theorem mx_MQ_of {below : List Frame} {Qc : Array Value → State → Outcome → State → Prop} {a : Array Value} {s : State} {mc ms : Nat} {free : Addr → Prop} : ∀ t, MQ below Qc a s mc ms free t → mx_MQ below Qc a s mc ms free t := fun t h => by
  obtain ⟨o, h1, h2, h3, L, ⟨-, h4, h5⟩, h6⟩ := h
  exact ⟨o, h1, h2, h3, L, ⟨h4, h5⟩, h6⟩
theorem mx_ofW {l : Launch} {mi : Nat} {rm : Room} {Pc : Array Value → State → Prop} {Qc : Array Value → State → Outcome → State → Prop} {mc ms : Nat} {free : Addr → Prop} (hy : plainFor (mx_y mi) = true)
    (body : ∀ p e s m args below meth c s₁, BodyLoose p l (mx_y mi) (headSpec (mx_cw mi :: wg) rm) (mx_b mi) (mx_mL mi) (mx_mt mi).2.1 e s m args below meth c s₁ → c.maxLocals = mx_mL mi → Pc args s →
      W p l e (headSpec (mx_cw mi :: wg) rm).room s m args below meth c s.heap [] 0 0 (mx_MQ below Qc args s mc ms free) (entryFrame m args (mx_mL mi))) : mx_Mx l (mx_y mi) (mx_cw mi :: wg) rm Pc Qc mc ms free := by
  refine Free.MetFree.of_bodySF (code := mx_b mi) (maxLocals := mx_mL mi) (ret := (mx_mt mi).2.1) hy ?_ ?_
  · intro args s m h hn
    have h0 := atoms_spec (ws := mx_cw mi :: wg) h _ List.mem_cons_self
    unfold mx_cw at h0
    split at h0
    · obtain ⟨meth, c, h1, h2, h3, h4, h5, h6, -, -⟩ := Cond.code_spec hn h0
      exact ⟨meth, c, h1, h2, h3, h4, h5, h6⟩
    · obtain ⟨m9, meth, c, hn9, h1, h2, h3, h4, -, h5, h6, -⟩ := Cond.codeWith_spec h0
      cases hn.symm.trans hn9
      exact ⟨meth, c, h1, h2, h3, h4, h5, h6⟩
  · intro p e s m args below meth c s₁ B hml hP _
    have hh0 : s₁.heap = s.heap := by rw [B.state]; rfl
    obtain ⟨t, a1, o, b1, b2, b3⟩ := body p e s m args below meth c s₁ B hml hP s₁ hh0 (Stand.of_body B)
    exact ⟨t, o, a1, b1, b2, ⟨b3.1, b3.2⟩⟩
section
variable {p : Program} {l : Launch} {e : Env} {R : Room} {s0 : State} {m : MethodId} {args : Array Value} {below : List Frame} {meth : Method} {c : Code} {Q : State → Prop} {md : Bool} {D : va_G} {ca : Nat → ClassId} {bs maxL : Nat} {L : mLV} {S : List mAV} {s : mSt} {u : Nat × Nat}
def mx_Cx (p : Program) (l : Launch) (R : Room) (s0 : State) (m : MethodId) (args : Array Value) (meth : Method) (c : Code) (md : Bool) (D : va_G) (ca : Nat → ClassId) (bs : Nat) (scr : mSc) (own mn : String) (cc : ByteArray) (maxL : Nat) (M : mMt) (cal : Nat → List mAV → mSt → mPo → (Nat → mSt → Prop) → Prop) : Prop :=
  p.tables.exec = Jvm.exec ∧ c.code = cc ∧ c.maxLocals = maxL ∧ s0.vm.findClass own = some m.cls ∧ meth.name = mn ∧ (∀ w ∈ wg, w.before args s0 = true) ∧ mx_VM D ca s0 ∧ va_X scr.1 scr.2.1 scr.2.2 s0 s0.heap ∧ scr.1 < bs ∧ bs ≤ s0.heap.size ∧ (M.2.2.1 ≤ R.cells ∧ M.2.2.2.1 ≤ R.slots) ∧ mx_Cal l R md D ca bs scr cal ∧ xt_T bs s0
theorem mx_blk_ok {scr : mSc} {own mn : String} {cc : ByteArray} {M : mMt} {cal : Nat → List mAV → mSt → mPo → (Nat → mSt → Prop) → Prop} {post : mPo} {ex : Nat → mSt → Prop} {q : Nat → mLV → mSt → Nat × Nat → Prop}
    (hCx : mx_Cx p l R s0 m args meth c md D ca bs scr own mn cc maxL M cal) (hcns : mx_cns M.1 = true) (hE : ∀ e0 ∈ M.1, mx_okE own mn cc maxL e0 = true)
    (hq : ∀ pc L s u, q pc L s u → mx_GA p l e R s0 m args below meth c Q md D ca bs maxL pc L [] s u)
    (hl8 : ∀ (k : List mEn → mLV → List mAV → mSt → Nat × Nat → Prop) e0 es L S s u, (∀ es L S s u, k es L S s u → mx_Sf M.1 es → ∀ pc, (∀ e r, es = e :: r → e.1 = pc) → mx_GA p l e R s0 m args below meth c Q md D ca bs maxL pc L S s u) → mx_Sf M.1 (e0 :: es) → mx_lat e0.2.2.1 = true → mx_stp md scr cal M post ex k e0 es L S s u → mx_GA p l e R s0 m args below meth c Q md D ca bs maxL e0.1 L S s u) :
    ∀ n b es L S s u, mx_blk md scr cal M post ex q n b es L S s u → mx_Sf M.1 es → ∀ pc, (∀ e r, es = e :: r → e.1 = pc) → mx_GA p l e R s0 m args below meth c Q md D ca bs maxL pc L S s u := by
  obtain ⟨hx, hb, hml, hown, hmn, hts, hV, hX, hXb, hbs, hR, hcal, hXT⟩ := hCx
  intro n
  induction n with
  | zero => exact fun _ _ _ _ _ _ h => False.elim h
  | succ n ih =>
    intro b es L S s u h hsf pc hpc
    cases es with
    | nil => exact False.elim h
    | cons e0 es =>
      obtain rfl : e0.1 = pc := hpc _ _ rfl
      have step : mx_stp md scr cal M post ex (mx_blk md scr cal M post ex q n false) e0 es L S s u → mx_GA p l e R s0 m args below meth c Q md D ca bs maxL e0.1 L S s u := fun h => mx_stp_a hx hb hown hts hV hX hXb hbs (hE e0 hsf.in) (mx_nx hcns hsf) hsf.tail (fun es L S s u h => ih false es L S s u h) (fun hlat h => hl8 _ e0 es L S s u (fun es L S s u h => ih false es L S s u h) hsf hlat h) h
      unfold mx_blk at h
      cases b with
      | true => exact step h
      | false =>
        dsimp only at h
        cases hc : e0.2.1 with
        | none =>
          rw [hc] at h
          exact step h
        | some lv =>
          rw [hc] at h
          cases S with
          | cons _ _ => exact False.elim h
          | nil =>
            intro H lcs ls hW hS hl hL hO hu hz
            exact hq _ _ _ _ h H lcs ls hW hS (mx_lv_pk hl) (fun x hx => hL x (mx_pk_in hx)) mx_oS_n hu hz
theorem mx_xq_ok {scr : mSc} {own mn : String} {cc : ByteArray} {M : mMt} {cal : Nat → List mAV → mSt → mPo → (Nat → mSt → Prop) → Prop} {post : mPo} {ex : Nat → mSt → Prop}
    (hCx : mx_Cx p l R s0 m args meth c md D ca bs scr own mn cc maxL M cal) (hcns : mx_cns M.1 = true) (hE : ∀ e0 ∈ M.1, mx_okE own mn cc maxL e0 = true)
    (hl8 : ∀ (k : List mEn → mLV → List mAV → mSt → Nat × Nat → Prop) e0 es L S s u, (∀ es L S s u, k es L S s u → mx_Sf M.1 es → ∀ pc, (∀ e r, es = e :: r → e.1 = pc) → mx_GA p l e R s0 m args below meth c Q md D ca bs maxL pc L S s u) → mx_Sf M.1 (e0 :: es) → mx_lat e0.2.2.1 = true → mx_stp md scr cal M post ex k e0 es L S s u → mx_GA p l e R s0 m args below meth c Q md D ca bs maxL e0.1 L S s u) :
    ∀ n pc L s u, mx_xq md scr cal M post ex n pc L s u → mx_GA p l e R s0 m args below meth c Q md D ca bs maxL pc L [] s u := by
  intro n
  induction n with
  | zero => exact fun _ _ _ _ h => False.elim h
  | succ n ih => exact fun pc L s u h => mx_blk_ok hCx hcns hE ih hl8 _ _ _ _ _ _ _ h (mx_jp_sf _ _) _ mx_jp_hd
end
