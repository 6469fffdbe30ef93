section
variable {scr : mSc} {d : Nat} {G : gSt} {s : mSt} {r i : Nat} {rl : gRl} {acc : List gSp}
def ZE (scr : mSc) (d : Nat) (G : gSt) (r : Nat) (rl : gRl) (E : Nat → Bool → Option (gPr × Nat)) (X : mSt → Int32 → (Int32 → mSt → Prop) → Prop) : Prop := ∀ (s : mSt) (i : Nat) (acc : List gSp) (bar : Bool) (post : Int32 → mSt → Prop), RD G r rl s i acc acc → acc.length ≤ i → i ≤ (g_tx rl).length → (∀ P j t, E i bar = some (P, j) → RD G r rl t j (acc ++ P.1) (acc ++ P.1) → mx_fr (F_rd r) s t → post 1 t) → (∀ t, E i bar = none → mx_fr (F_rd r) s t → post 0 t) → X s (bI bar) post
theorem S_readPart {E : Nat → Bool → Option (gPr × Nat)} {δ : Nat} (hok : g_okE (g_rs G) rl E) (hδ : δ ≤ 5) (h5 : δ = 5 → ∀ i b, E i b = none) (hE : δ < 5 → ZE scr d G r rl E (fun s b post => X_Rd_readExpression scr (d + 3) s (nI (δ + 1)) b post)) : ZE scr d G r rl (g_part (g_rs G) rl E) (fun s b post => X_Rd_readPart scr (d + 4) s (nI δ) b post) := by
  intro s i acc bar post h hacc hil hy hn
  obtain ⟨hr9, hokr, hl9, hr⟩ := RD_tx h
  have h24 : (g_tx rl).length ≤ 24 := hokr.2.2.1
  refine w_Rd_readPart (S_next h (by omega) (fun c t hc ht hf => ?_) (fun hc => ?_))
  · have hi := g_len_get hc
    have lf1 : ∀ sp j u, g_leaf (g_rs G) rl i bar = some (sp, j) → RD G r rl u j (acc ++ [sp]) (acc ++ [sp]) → mx_fr (F_rd r) t u → mx_nr .boolean 1 ∧ post 1 u := fun sp j u hl hu hfu => ⟨rfl, hy ([sp], fun env => env sp) j u (g_part_l hl) hu (hf.tr hfu)⟩
    refine ⟨fun e => ?_, fun n1 => ⟨fun e => ?_, fun n2 => ⟨fun e => ?_, fun n3 => ⟨fun e => ?_, fun n4 => ?_⟩⟩⟩⟩
    · subst e
      exact S_readTuples ht (by omega) (fun u hu hfu => lf1 _ _ u (g_leaf_T hc) hu hfu)
    · subst e
      exact S_readSame ht (by omega) (by omega) hc lf1 (fun u hl hfu => ⟨rfl, hn u (g_part_n hl (by rw [hc]; decide)) (hf.tr hfu)⟩)
    · subst e
      exact S_readFrom ht (by omega) (by omega) hc lf1 (fun u hl hfu => ⟨rfl, hn u (g_part_n hl (by rw [hc]; decide)) (hf.tr hfu)⟩)
    · subst e
      refine pk_le 5 δ (fun h9 => ⟨rfl, hn t ?_ hf⟩) (fun h9 => ?_)
      · rw [g_part_p hc, h5 (by omega)]
      · rw [show nI δ + (1 : Int32) = nI (δ + 1) from nI_1 δ]
        refine hE h9 t (i + 1) acc bar _ ht (by omega) (by omega) (fun P j u hP hu hfu => ⟨fun h => absurd h (by decide), fun _ => ?_⟩) (fun u hP hfu => ⟨fun _ => ⟨rfl, hn u (by rw [g_part_p hc, hP]) (hf.tr hfu)⟩, fun h => absurd rfl h⟩)
        obtain ⟨k1, k2, k3, k4⟩ := hok _ _ _ _ hP
        refine S_next hu (by omega) (fun c2 w hc2 hw hfw => ⟨fun e2 => ⟨rfl, hy P (j + 1) w ?_ hw ((hf.tr hfu).tr hfw)⟩, fun e2 => ⟨rfl, hn w ?_ ((hf.tr hfu).tr hfw)⟩⟩) (fun hc2 => ⟨fun h => absurd h (by decide), fun _ => ⟨rfl, hn u ?_ (hf.tr hfu)⟩⟩)
        · subst e2
          rw [g_part_p hc, hP]
          show (if _ then _ else none) = _
          rw [if_pos hc2]
        · rw [g_part_p hc, hP]
          show (if _ then _ else none) = _
          rw [if_neg (by rw [hc2]; intro h; cases h; exact e2 rfl)]
        · rw [g_part_p hc, hP]
          show (if _ then _ else none) = _
          rw [if_neg (by rw [hc2]; intro h; cases h)]
    · exact ⟨rfl, hn t (g_part_n (g_leaf_0 hc n1 n2 n3) (by rw [hc]; intro h; cases h; exact n4 rfl)) hf⟩
  · exact ⟨fun h => absurd h (by decide), fun _ => ⟨fun h => absurd h (by decide), fun _ => ⟨fun h => absurd h (by decide), fun _ => ⟨fun h => absurd h (by decide), fun _ => ⟨rfl, hn s (g_part_n (g_leaf_e hc) (by rw [hc]; intro h; cases h)) mx_fr.rf⟩⟩⟩⟩⟩
end
