section
variable {p : Program} {l : Launch} {e : Env} {R : Room} {s0 : State} {m : MethodId} {args : Array Value} {below : List Frame} {meth : Method} {c : Code} {Q : State → Prop} {md : Bool} {D : va_G} {ca : Nat → ClassId} {bs maxL : Nat} {L : mLV} {S : List mAV} {s : mSt} {u : Nat × Nat}
theorem mx_ge {H : Heap} {lcs : List Loc} (hbs : bs ≤ s0.heap.size) (hW : mx_WH md D ca bs s H) (hS : va_S (fun q => bs ≤ q) s0.heap H lcs) : bs + s.2.2.2 ≤ H.size := by
  by_cases h0 : s.2.2.2 = 0
  · have h1 := hS.1
    omega
  · have hq : s.2.2.2 - 1 < s.2.2.2 := by omega
    have h1 : (mx_ws ca bs s)[s.2.2.2 - 1]? = some (bs + (s.2.2.2 - 1), mx_enc ca bs s (mx_cod.getD (s.2.2.2 - 1) (99, 0)).1 (mx_cod.getD (s.2.2.2 - 1) (99, 0)).2) := by
      unfold mx_ws
      rw [List.getElem?_map, List.getElem?_range hq]
      rfl
    have h2 := (hW.1 _ _ h1).lt
    have h2 : bs + (s.2.2.2 - 1) < H.size := h2
    omega
theorem mx_okI_put {own mn : String} {maxL n len pc : Nat} {cut : Option (List Nat)} {aux : List Nat} {ic : Int32} {lc : Int64} (h : mx_okI own mn maxL (pc, cut, .putfield n, len, aux, ic, lc) = true) : len = 3 ∧ mx_fl own n aux = true ∧ mx_fw own mn aux = true := by
  obtain ⟨h1, h2⟩ := Bool.and_eq_true_iff.mp (show (decide (len = 3) && (mx_fl own n aux && mx_fw own mn aux)) = true from h)
  exact ⟨of_decide_eq_true h1, Bool.and_eq_true_iff.mp h2⟩
theorem mx_fz {x : Int32} (h : narrow .boolean (.int x) = .int x) : fits .boolean (.int x) = true := by
  have h1 : x &&& 1 = x := Value.int.inj h
  obtain ⟨j, hj, e9⟩ := pk_andE x (m := 1) 1 (by decide)
  rw [h1] at e9
  rw [e9]
  rcases (show j = 0 ∨ j = 1 by omega) with rfl | rfl
  · decide
  · decide
set_option maxHeartbeats 4000000 in
theorem mx_put_ok {scr : mSc} {cal : Nat → List mAV → mSt → mPo → (Nat → mSt → Prop) → Prop} {M : mMt} {post : mPo} {ex : Nat → mSt → Prop} {k : List mEn → mLV → List mAV → mSt → Nat × Nat → Prop} {es : List mEn} {own mn : String} {cc : ByteArray} {pc n len : Nat} {cut : Option (List Nat)} {aux : List Nat} {ic : Int32} {lc : Int64}
    (hx : p.tables.exec = Jvm.exec) (hb : c.code = cc) (hown : s0.vm.findClass own = some m.cls) (hmn : meth.name = mn) (hts : ∀ w ∈ wg, w.before args s0 = true) (hV : mx_VM D ca s0)
    (hE : mx_okE own mn cc maxL (pc, cut, .putfield n, len, aux, ic, lc) = true) (hnx : ∀ e' r, es = e' :: r → e'.1 = pc + len) (hsf : mx_Sf M.1 es)
    (hk : ∀ es L S s u, k es L S s u → mx_Sf M.1 es → ∀ pc, (∀ e r, es = e :: r → e.1 = pc) → mx_GA p l e R s0 m args below meth c Q md D ca bs maxL pc L S s u)
    (h : mx_stp md scr cal M post ex k (pc, cut, .putfield n, len, aux, ic, lc) es L S s u) : mx_GA p l e R s0 m args below meth c Q md D ca bs maxL pc L S s u := by
  have h9 := Bool.and_eq_true_iff.mp hE
  have hd : decode cc pc = .ok (.putfield n, len) := of_decide_eq_true h9.1
  obtain ⟨rfl, hfl, hfw⟩ := mx_okI_put h9.2
  obtain ⟨ci, j, nest, z, w, r, C, T, N, rfl, hc, hj, hTj, hlk⟩ := mx_fl_o hfl
  obtain ⟨hin, hN⟩ := mx_cin hc
  have hty := hfw
  unfold mx_fw at hty
  dsimp only at hty
  rw [hc] at hty
  dsimp only at hty
  have hty := (Bool.and_eq_true_iff.mp hty).1
  rcases mx_pf_o (show mx_pf S _ _ from h) with ⟨x, f, i, S, rfl, h⟩ | ⟨g, y, f, i, S, rfl, h⟩
  · obtain ⟨h0, h⟩ := mx_eq_o (show mx_eq (mx_fK f) 0 _ from h)
    obtain ⟨h1, h⟩ := mx_eq_o (show mx_eq (mx_fX f) ci _ from h)
    obtain ⟨hr, h⟩ := mx_eq_o (show mx_eq (mx_fR ci j) 0 _ from h)
    rw [hr] at hty
    intro H lcs ls hW hS hl hL hO hu hz
    have hok := mx_oS_h (mx_oS_t hO)
    have fin : ∀ ty, parseFieldDescriptor (T j).2.2.1 = some ty → narrow ty (.int x) = .int x → fits ty (.int x) = true → k es L S (mx_si s f i j x) u → W p l e R s0 m args below meth c H lcs u.1 u.2 Q (F0 m pc ls ((Sum.inl x :: Sum.inr (Sum.inr (Sum.inl (f, i))) :: S).map (mx_vv bs))) := fun ty hp hn hf hh => by
      refine mx_putr (v := .int x) hx hb hown hmn hts hV hd hc hj hTj hlk hfw hW hS hok h0 h1 hp hn hf (fun H1 lcs1 hP1 hS1 => ?_)
      subst h1
      exact (hk _ _ _ _ _ hh hsf _ hnx) H1 lcs1 ls (mx_WH_si hW hok (mx_enc0s h0 hr (by rw [hN]; exact hj)) hP1) hS1 hl hL (mx_oS_t (mx_oS_t hO)) hu hz
    cases z with
    | zero =>
      have e1 : (T j).2.2.1 = "I" := of_decide_eq_true hty
      exact fin .int (by rw [e1]; rfl) rfl rfl (mx_to_o h)
    | succ z =>
      have e1 : (T j).2.2.1 = "Z" := of_decide_eq_true hty
      obtain ⟨hnr, h⟩ := (show narrow .boolean (.int x) = .int x ∧ _ from h)
      exact fin .boolean (by rw [e1]; rfl) hnr (mx_fz hnr) (mx_to_o h)
  · obtain ⟨h0, h⟩ := mx_eq_o (show mx_eq (mx_fK f) 0 _ from h)
    obtain ⟨h1, h⟩ := mx_eq_o (show mx_eq (mx_fX f) ci _ from h)
    obtain ⟨hr, h⟩ := mx_eq_o (show mx_eq (mx_fR ci j) (g + 1) _ from h)
    obtain ⟨hm, h⟩ := mx_or_o (show mx_or md ci _ from h)
    have hh := mx_to_o h
    rw [hr] at hty
    intro H lcs ls hW hS hl hL hO hu hz
    have hok := mx_oS_h (mx_oS_t hO)
    have fin : ∀ ty, parseFieldDescriptor (T j).2.2.1 = some ty → narrow ty (.ref (bs + mx_num g y)) = .ref (bs + mx_num g y) → fits ty (.ref (bs + mx_num g y)) = true → W p l e R s0 m args below meth c H lcs u.1 u.2 Q (F0 m pc ls ((Sum.inr (Sum.inr (Sum.inl (g, y))) :: Sum.inr (Sum.inr (Sum.inl (f, i))) :: S).map (mx_vv bs))) := fun ty hp hn hf => by
      refine mx_putr (v := .ref (bs + mx_num g y)) hx hb hown hmn hts hV hd hc hj hTj hlk hfw hW hS hok h0 h1 hp hn hf (fun H1 lcs1 hP1 hS1 => ?_)
      subst h1
      exact (hk _ _ _ _ _ hh hsf _ hnx) H1 lcs1 ls (mx_WH_sp hW hok (hm.imp id (fun q => ⟨h0, q⟩)) (mx_enc0p h0 hr (by rw [hN]; exact hj)) hP1) hS1 hl hL (mx_oS_t (mx_oS_t hO)) hu hz
    dsimp only at hty
    split at hty
    · rename_i hp
      exact fin _ hp rfl rfl
    · rename_i hp
      exact fin _ hp rfl rfl
    · cases hty
end
