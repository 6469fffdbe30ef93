def g_node (G : gSt) (a1 a2 : Int32) (o r : Nat) (rl : gRl) : Prop := o < 12 ∧ a1 = nI o ∧ (g_rs G)[r]? = some rl ∧ a2 = nI r ∧ rl.1 = o / 4
theorem g_rng {x : Int32} {n : Nat} {A B : Prop} {N : Int32} (hN : N = nI n) (hn : n < 2 ^ 30) (f : (∀ j, j < n → ¬ x = nI j) → A) (g : ∀ j, j < n → x = nI j → B) : (x < 0 → A) ∧ (¬ x < 0 → ((N ≤ x → A) ∧ (¬ N ≤ x → B))) := by
  subst hN
  refine ⟨fun h => f (fun j hj e => ?_), fun h0 => ?_⟩
  · rw [e] at h
    exact nI_pos (by omega) h
  obtain ⟨j, hj, rfl⟩ := nI_of h0
  refine pk_le n j (fun h => f (fun i hi e => ?_)) (fun h => g j h rfl)
  have := (nI_eq (by omega) (by omega)).mp e
  omega
section
variable {scr : mSc} {d : Nat} {s : mSt} {G : gSt}
theorem S_isObject {post : Int32 → mSt → Prop} {a0 : Int32} (hn : (∀ j, j < 12 → ¬ a0 = nI j) → post 0 s) (hy : ∀ j, j < 12 → a0 = nI j → post 1 s) : X_Rs_isObject scr (d + 1) s a0 post := w_Rs_isObject (g_rng (n := 12) rfl (by omega) (fun h => ⟨rfl, hn h⟩) (fun j hj e => ⟨rfl, hy j hj e⟩))
theorem S_isUser {post : Int32 → mSt → Prop} {a0 : Int32} (hn : (∀ j, j < 8 → ¬ a0 = nI j) → post 0 s) (hy : ∀ j, j < 8 → a0 = nI j → post 1 s) : X_Rs_isUser scr (d + 1) s a0 post := w_Rs_isUser (g_rng (n := 8) rfl (by omega) (fun h => ⟨rfl, hn h⟩) (fun j hj e => ⟨rfl, hy j hj e⟩))
theorem S_isRelation {post : Int32 → mSt → Prop} {a1 : Int32} (h : RC_cf G s) (hn : (∀ j, j < (g_rs G).length → ¬ a1 = nI j) → post 0 s) (hy : ∀ j, j < (g_rs G).length → a1 = nI j → post 1 s) : X_Cf_isRelation scr (d + 1) s a1 post := w_Cf_isRelation (g_rng h.2.1 (by have := h.1.1; omega) (fun h => ⟨rfl, hn h⟩) (fun j hj e => ⟨rfl, hy j hj e⟩))
theorem S_MisRelation {post : Int32 → mSt → Prop} {a1 : Int32} (h : RM_cf G s) (hn : (∀ j, j < (g_rs G).length → ¬ a1 = nI j) → post 0 s) (hy : ∀ j, j < (g_rs G).length → a1 = nI j → post 1 s) : X_Md_isRelation scr (d + 1) s a1 post := w_Md_isRelation (g_rng h.2.1 (by have := h.1.1; omega) (fun h => ⟨rfl, hn h⟩) (fun j hj e => ⟨rfl, hy j hj e⟩))
theorem g_div4 {o : Nat} (h : o < 12) : nI o / (4 : Int32) = nI (o / 4) := pk_div (d := 4) (by omega) (by omega) (by omega)
theorem g_nodeN1 {a1 a2 : Int32} (h : ∀ j, j < 12 → ¬ a1 = nI j) : ∀ o r rl, ¬ g_node G a1 a2 o r rl := fun o r rl h9 => h o h9.1 h9.2.1
theorem g_nodeN2 {a1 a2 : Int32} (h : ∀ j, j < (g_rs G).length → ¬ a2 = nI j) : ∀ o r rl, ¬ g_node G a1 a2 o r rl := fun o r rl h9 => h r (g_len_get h9.2.2.1) h9.2.2.2.1
theorem g_nodeN3 {o r : Nat} {rl : gRl} (hl : (g_rs G).length ≤ 9) (ho : o < 12) (hr : (g_rs G)[r]? = some rl) (h : ¬ rl.1 = o / 4) : ∀ o' r' rl', ¬ g_node G (nI o) (nI r) o' r' rl' := fun o' r' rl' h9 => by
  obtain ⟨h1, h2, h3, h4, h5⟩ := h9
  have hr1 := g_len_get hr
  have hr2 := g_len_get h3
  obtain rfl := (nI_eq (by omega) (by omega)).mp h2
  obtain rfl := (nI_eq (by omega) (by omega)).mp h4
  rw [hr] at h3
  cases h3
  exact h h5
theorem S_isNode {post : Int32 → mSt → Prop} {a1 a2 : Int32} (h : RC_cf G s) (hn : (∀ o r rl, ¬ g_node G a1 a2 o r rl) → post 0 s) (hy : ∀ o r rl, g_node G a1 a2 o r rl → post 1 s) : X_Cf_isNode scr (d + 2) s a1 a2 post := by
  refine w_Cf_isNode (S_isObject (fun h1 => ⟨fun _ => ⟨rfl, hn (g_nodeN1 h1)⟩, fun h => absurd rfl h⟩) (fun o ho e1 => ⟨fun h => absurd h (by decide), fun _ => S_isRelation h (fun h1 => ⟨fun _ => ⟨rfl, hn (g_nodeN2 h1)⟩, fun h => absurd rfl h⟩) (fun r hr e2 => ⟨fun h => absurd h (by decide), fun _ => ?_⟩)⟩))
  subst e1
  subst e2
  have hl := h.1.1
  refine ⟨pk_in r 9 (by omega), by decide, ?_⟩
  rw [pk_cl r, g_div4 ho]
  cases hrl : (g_rs G)[r]? with
  | none =>
    have := List.getElem?_eq_none_iff.mp hrl
    omega
  | some rl =>
    have hok := h.1.2 rl (List.mem_of_getElem? hrl)
    refine pk_eq rl.1 (o / 4) (fun e => ⟨rfl, hy o r rl ⟨ho, rfl, hrl, rfl, e⟩⟩) (fun e => ⟨rfl, hn (g_nodeN3 hl ho hrl e)⟩) (h.2.2.2.1 r rl hrl).1 rfl (by have := hok.1; omega) (by omega)
theorem S_isOf {post : Int32 → mSt → Prop} {a1 a2 : Int32} (h : RM_cf G s) (hn : (∀ o r rl, ¬ g_node G a1 a2 o r rl) → post 0 s) (hy : ∀ o r rl, g_node G a1 a2 o r rl → post 1 s) : X_Md_isOf scr (d + 2) s a1 a2 post := by
  refine w_Md_isOf (g_rng (n := 12) rfl (by omega) (fun h1 => ⟨rfl, hn (g_nodeN1 h1)⟩) (fun o ho e1 => S_MisRelation h (fun h1 => ⟨fun _ => ⟨rfl, hn (g_nodeN2 h1)⟩, fun h => absurd rfl h⟩) (fun r hr e2 => ⟨fun h => absurd h (by decide), fun _ => ?_⟩)))
  subst e1
  subst e2
  have hl := h.1.1
  refine ⟨pk_in r 9 (by omega), by decide, ?_⟩
  rw [pk_cl r, g_div4 ho]
  cases hrl : (g_rs G)[r]? with
  | none =>
    have := List.getElem?_eq_none_iff.mp hrl
    omega
  | some rl =>
    have hok := h.1.2 rl (List.mem_of_getElem? hrl)
    refine pk_eq rl.1 (o / 4) (fun e => ⟨rfl, hy o r rl ⟨ho, rfl, hrl, rfl, e⟩⟩) (fun e => ⟨rfl, hn (g_nodeN3 hl ho hrl e)⟩) (h.2.2.2 r rl hrl).1 rfl (by have := hok.1; omega) (by omega)
def g_bit (x : Int32) (j : Nat) : Prop := ¬ (x >>> (nI j &&& 31)) &&& (1 : Int32) = 0
theorem S_hasBit {post : Int32 → mSt → Prop} {a0 : Int32} {j : Nat} (hn : ¬ g_bit a0 j → post 0 s) (hy : g_bit a0 j → post 1 s) : X_Rs_hasBit scr (d + 1) s a0 (nI j) post := w_Rs_hasBit ⟨fun h => ⟨rfl, hn (fun h9 => h9 h)⟩, fun h => ⟨rfl, hy h⟩⟩
theorem g_b01 (x : Int32) : x &&& (1 : Int32) = 0 ∨ x &&& (1 : Int32) = 1 := by
  have h1 : (x &&& (1 : Int32)).toBitVec = x.toBitVec &&& 1#32 := rfl
  have h2 : x.toBitVec &&& 1#32 = 0#32 ∨ x.toBitVec &&& 1#32 = 1#32 := by
    have h3 : (x.toBitVec &&& 1#32).toNat = x.toBitVec.toNat % 2 := by
      rw [BitVec.toNat_and]
      exact Nat.and_two_pow_sub_one_eq_mod _ 1
    have h4 := Nat.mod_lt x.toBitVec.toNat (show 0 < 2 by omega)
    rcases Nat.lt_or_ge (x.toBitVec.toNat % 2) 1 with h5 | h5
    · exact Or.inl (BitVec.eq_of_toNat_eq (by rw [h3]; show _ = 0; omega))
    · exact Or.inr (BitVec.eq_of_toNat_eq (by rw [h3]; show _ = 1; omega))
  rcases h2 with h2 | h2
  · exact Or.inl (Int32.toBitVec_inj.mp (h1.trans h2))
  · exact Or.inr (Int32.toBitVec_inj.mp (h1.trans h2))
theorem g_bit1 {x : Int32} {j : Nat} {A B : Prop} (f : g_bit x j → A) (g : ¬ g_bit x j → B) : ((x >>> (nI j &&& 31)) &&& (1 : Int32) = 1 → A) ∧ (¬ (x >>> (nI j &&& 31)) &&& (1 : Int32) = 1 → B) := by
  refine ⟨fun h => f (fun h9 => ?_), fun h => g (fun h9 => ?_)⟩
  · rw [h] at h9
    exact absurd h9 (by decide)
  · rcases g_b01 (x >>> (nI j &&& 31)) with h1 | h1
    · exact h9 h1
    · exact h h1
end
