section
variable {scr : mSc} {d : Nat} {G : gSt} {s : mSt} {r i : Nat} {rl : gRl} {acc : List gSp}
theorem S_isOp {post : Int32 → mSt → Prop} {c : Int32} (hy : g_op c = true → post 1 s) (hn : g_op c = false → post 0 s) : X_Rd_isOperator scr (d + 1) s c post := by
  refine w_Rd_isOperator ⟨fun e => ⟨rfl, hy (by rw [e]; rfl)⟩, fun n1 => ⟨fun e => ⟨rfl, hy (by rw [e]; rfl)⟩, fun n2 => ⟨fun e => ⟨rfl, hy (by rw [e]; rfl)⟩, fun n3 => ⟨rfl, hn ?_⟩⟩⟩⟩
  unfold g_op
  rw [decide_eq_false n1, decide_eq_false n2, decide_eq_false n3]
  rfl
theorem g_loop_1 {tx : List Int32} {part : Nat → Bool → Option (gPr × Nat)} {bar : Bool} {m : Nat} {P : gPr} {j : Nat} : g_loop tx part bar (m + 1) P j = match tx[j]? with
    | none => some (P, j)
    | some c => if g_op c = true then (match part (j + 1) (bar || decide (c = 45)) with
      | none => none
      | some q => g_loop tx part bar m (g_cmb c P q.1) q.2) else some (P, j) := rfl
theorem g_op_v {c : Int32} (h : g_op c = true) : vp_nar .char c = c := by
  rcases g_op_3 h with rfl | rfl | rfl <;> rfl
set_option maxHeartbeats 4000000 in
theorem S_readLoop {part : Nat → Bool → Option (gPr × Nat)} {δ : Nat} {bar : Bool} {post : Int32 → mSt → Prop} {ex : Nat → mSt → Prop} (hok : g_okE (g_rs G) rl part) (hp : ZE scr d G r rl part (fun s b post => X_Rd_readPart scr (d + 4) s (nI δ) b post)) : ∀ (m : Nat) (s : mSt) (P : gPr) (j : Nat), (g_tx rl).length ≤ j + m → j ≤ (g_tx rl).length → (acc ++ P.1).length ≤ j → RD G r rl s j (acc ++ P.1) (acc ++ P.1) → (∀ P' j' t, g_loop (g_tx rl) part bar m P j = some (P', j') → RD G r rl t j' (acc ++ P'.1) (acc ++ P'.1) → mx_fr (F_rd r) s t → post 1 t) → (∀ t, g_loop (g_tx rl) part bar m P j = none → mx_fr (F_rd r) s t → post 0 t) → r_Rd_readExpression_11 scr (d + 4) (nI δ) (bI bar) post ex (m + 1) s := by
  intro m
  induction m with
  | zero =>
    intro s P j hm hj hacc h hy hn
    obtain ⟨hr9, hokr, hl9, hr⟩ := RD_tx h
    have h24 : (g_tx rl).length ≤ 24 := hokr.2.2.1
    exact w_Rd_readExpression_11 ⟨r, h.2.2.2.1, hr9, pk_le (g_tx rl).length j (fun _ => ⟨rfl, hy P j s rfl h mx_fr.rf⟩) (fun h => by omega) hr.2.2.2.2.1 h.2.2.2.2.2.1⟩
  | succ m ih =>
    intro s P j hm hj hacc h hy hn
    obtain ⟨hr9, hokr, hl9, hr⟩ := RD_tx h
    have h24 : (g_tx rl).length ≤ 24 := hokr.2.2.1
    have hat := h.2.2.2.2.2.1
    refine w_Rd_readExpression_11 ⟨r, h.2.2.2.1, hr9, pk_le (g_tx rl).length j (fun h9 => ⟨rfl, hy P j s ?_ h mx_fr.rf⟩) (fun h9 => ⟨r, h.2.2.2.1, hr9, pk_in j 24 (by omega) hat, ?_⟩) hr.2.2.2.2.1 hat⟩
    · rw [g_loop_1, List.getElem?_eq_none_iff.mpr h9]
    obtain ⟨c, hc⟩ : ∃ c, (g_tx rl)[j]? = some c := ⟨_, List.getElem?_eq_getElem h9⟩
    have hcc : s.1 6 r (s.1 3 0 3).toNatClampNeg = c := by
      rw [pk_cl j hat]
      exact hr.2.2.2.2.2 j _ hc
    rw [hcc]
    have hgl : g_loop (g_tx rl) part bar (m + 1) P j = if g_op c = true then (match part (j + 1) (bar || decide (c = 45)) with
      | none => none
      | some q => g_loop (g_tx rl) part bar m (g_cmb c P q.1) q.2) else some (P, j) := by
      rw [g_loop_1, hc]
    refine S_isOp (fun hop => ⟨fun h => absurd h (by decide), fun _ => ⟨r, h.2.2.2.1, hr9, pk_in j 24 (by omega) hat, ?_⟩⟩) (fun hop => ⟨fun _ => ⟨rfl, hy P j s ?_ h mx_fr.rf⟩, fun h => absurd rfl h⟩)
    · rw [hcc]
      intro s6 e6
      rw [hat, show nI j + (1 : Int32) = nI (j + 1) from nI_1 j] at e6
      have h6 : RD G r rl s6 (j + 1) (acc ++ P.1) (acc ++ P.1) := by
        rw [e6]
        exact RD_at h
      have hf6 : mx_fr (F_rd r) s s6 := by
        rw [e6]
        exact mx_fr.si (Or.inl rfl)
      rw [if_pos hop] at hgl
      have go : ∀ b : Int32, b = bI (bar || decide (c = 45)) → X_Rd_readPart scr (d + 4) s6 (nI δ) b (fun r8 s7 => ((r8 = 0 → (mx_nr .boolean (0 : Int32) ∧ post (0 : Int32) s7)) ∧ (¬ r8 = 0 → (∃ y9, s7.2.2.1 3 0 2 = some y9 ∧ y9 < 9 ∧ X_Rl_addStep scr (d + 4) s7 y9 c (0 : Int32) (0 : Int32) (fun s10 => r_Rd_readExpression_11 scr (d + 4) (nI δ) (bI bar) post ex (m + 1) s10))))) := by
        intro b hb
        subst hb
        refine hp s6 (j + 1) (acc ++ P.1) _ _ h6 (by omega) (by omega) (fun Q k t hQ ht hf => ⟨fun h => absurd h (by decide), fun _ => ⟨r, ht.2.2.2.1, hr9, ?_⟩⟩) (fun t hQ hf => ⟨fun _ => ⟨rfl, hn t (by rw [hgl, hQ]) (hf6.tr hf)⟩, fun h => absurd rfl h⟩)
        obtain ⟨k1, k2, k3, k4⟩ := hok _ _ _ _ hQ
        have hlen : ((acc ++ P.1) ++ Q.1).length < k := by
          rw [List.length_append]
          omega
        refine S_addStep (f := 0) (x := 0) (b := true) ht (by omega) (g_op_v hop) (fun t2 ht2 hf2 => ?_)
        have eA : ((acc ++ P.1) ++ Q.1) ++ [(c, 0, 0, true)] = acc ++ (g_cmb c P Q).1 := by
          show _ = acc ++ (P.1 ++ (Q.1 ++ [_]))
          rw [List.append_assoc, List.append_assoc]
        have ht3 := RD_op (b := true) hop ht2
        rw [eA] at ht3
        refine ih t2 (g_cmb c P Q) k (by omega) k2 ?_ ht3 (fun P' j' u hu hru hfu => hy P' j' u (by rw [hgl, hQ]; exact hu) hru (((hf6.tr hf).tr hf2).tr hfu)) (fun u hu hfu => hn u (by rw [hgl, hQ]; exact hu) (((hf6.tr hf).tr hf2).tr hfu))
        rw [← eA, g_len1]
        omega
      refine ⟨fun hb => ⟨fun e45 => go 1 ?_, fun e45 => go 0 ?_⟩, fun hb => go 1 ?_⟩
      · rw [decide_eq_true e45, Bool.or_true]
        rfl
      · have : bar = false := by
          cases bar
          · rfl
          · exact absurd hb (by decide)
        rw [decide_eq_false e45, this]
        rfl
      · have : bar = true := by
          cases bar
          · exact absurd rfl hb
          · rfl
        rw [this]
        rfl
    · rw [hgl, if_neg (by rw [hop]; decide)]
end
