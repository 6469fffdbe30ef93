section
variable {scr : mSc} {d : Nat} {s : mSt}
theorem S_bitCount {post : Int32 → mSt → Prop} {x : Int64} (h : post (nI (pc x)) s) : X_Lo_bitCount scr (d + 1) s x post := by
  rw [← bc_all x] at h
  exact w_Lo_bitCount h
theorem S_size_4 {post : Int32 → mSt → Prop} {ex : Nat → mSt → Prop} {v : Nat} (h : post (nI (pc_s (s.2.1 15 v) 36)) s) : ∀ (m x : Nat), x + m = 36 → r_Vs_size_4 scr (d + 1) v post ex (m + 1) s (nI (pc_s (s.2.1 15 v) x)) (nI x) := by
  intro m
  induction m with
  | zero =>
    intro x hx
    obtain rfl : x = 36 := by omega
    exact w_Vs_size_4 (pk_le 36 36 (fun _ => h) (fun h => by omega))
  | succ m ih =>
    intro x hx
    refine w_Vs_size_4 (pk_le 36 x (fun h => by omega) (fun _ => ⟨pk_in x 36 (by omega), S_bitCount ?_⟩))
    have ih := ih (x + 1) (by omega)
    show r_Vs_size_4 scr (d + 1) v post ex (m + 1) s (nI (pc_s (s.2.1 15 v) x) + nI (pc (s.2.1 15 v (nI x).toNatClampNeg))) (nI x + 1)
    rw [show nI x + (1 : Int32) = nI (x + 1) from nI_1 x, pk_cl x, nI_add]
    exact ih
theorem S_size {post : Int32 → mSt → Prop} {v : Nat} (h : post (nI (pc_s (s.2.1 15 v) 36)) s) : X_Vs_size scr (d + 2) s v post := w_Vs_size ⟨37, S_size_4 h 36 0 rfl⟩
end
