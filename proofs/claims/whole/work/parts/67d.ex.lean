section
variable {scr : mSc} {d : Nat} {G : gSt} {s : mSt} {r i : Nat} {rl : gRl} {acc : List gSp}
theorem S_readEx {D : Nat} : ∀ δ, δ + D = 5 → ZE scr (d + 2 * D) G r rl (g_ex (g_rs G) rl (D + 1)) (fun s b post => X_Rd_readExpression scr (d + 2 * D + 5) s (nI δ) b post) := by
  induction D with
  | zero =>
    intro δ hδ s i acc bar post h hacc hil hy hn
    have hpart := S_readPart (scr := scr) (d := d) (G := G) (r := r) (rl := rl) (E := g_ex (g_rs G) rl 0) (δ := δ) (g_ex_ok 0) (by omega) (fun _ _ _ => rfl) (fun h => by omega)
    have hok := g_part_ok (rs := g_rs G) (rl := rl) (g_ex_ok 0)
    have e : g_ex (g_rs G) rl (0 + 1) i bar = match g_part (g_rs G) rl (g_ex (g_rs G) rl 0) i bar with
      | none => none
      | some q => g_loop (g_tx rl) (g_part (g_rs G) rl (g_ex (g_rs G) rl 0)) bar 24 q.1 q.2 := rfl
    rw [e] at hy hn
    refine w_Rd_readExpression ⟨25, hpart s i acc bar _ h hacc hil (fun P j t hP ht hf => ⟨fun h => absurd h (by decide), fun _ => ?_⟩) (fun t hP hf => ⟨fun _ => ⟨rfl, hn t (by rw [hP]) hf⟩, fun h => absurd rfl h⟩)⟩
    obtain ⟨k1, k2, k3, k4⟩ := hok _ _ _ _ hP
    have h24 : (g_tx rl).length ≤ 24 := (RD_tx h).2.1.2.2.1
    rw [hP] at hy hn
    exact S_readLoop hok hpart 24 t P j (by omega) k2 (by rw [List.length_append]; omega) ht (fun P' j' u hu hru hfu => hy P' j' u hu hru (hf.tr hfu)) (fun u hu hfu => hn u hu (hf.tr hfu))
  | succ D ih =>
    intro δ hδ s i acc bar post h hacc hil hy hn
    have hpart := S_readPart (scr := scr) (d := d + 2 * (D + 1)) (G := G) (r := r) (rl := rl) (E := g_ex (g_rs G) rl (D + 1)) (δ := δ) (g_ex_ok _) (by omega) (fun h => by omega) (fun _ => ih (δ + 1) (by omega))
    have hok := g_part_ok (rs := g_rs G) (rl := rl) (g_ex_ok (D + 1))
    have e : g_ex (g_rs G) rl (D + 1 + 1) i bar = match g_part (g_rs G) rl (g_ex (g_rs G) rl (D + 1)) i bar with
      | none => none
      | some q => g_loop (g_tx rl) (g_part (g_rs G) rl (g_ex (g_rs G) rl (D + 1))) bar 24 q.1 q.2 := rfl
    rw [e] at hy hn
    refine w_Rd_readExpression ⟨25, hpart s i acc bar _ h hacc hil (fun P j t hP ht hf => ⟨fun h => absurd h (by decide), fun _ => ?_⟩) (fun t hP hf => ⟨fun _ => ⟨rfl, hn t (by rw [hP]) hf⟩, fun h => absurd rfl h⟩)⟩
    obtain ⟨k1, k2, k3, k4⟩ := hok _ _ _ _ hP
    have h24 : (g_tx rl).length ≤ 24 := (RD_tx h).2.1.2.2.1
    rw [hP] at hy hn
    exact S_readLoop hok hpart 24 t P j (by omega) k2 (by rw [List.length_append]; omega) ht (fun P' j' u hu hru hfu => hy P' j' u hu hru (hf.tr hfu)) (fun u hu hfu => hn u hu (hf.tr hfu))
end
