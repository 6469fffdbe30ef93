def hor : List Nat → Nat
  | [] => 0
  | b :: l => 256 * hor l + b
def h_ok (l : List Nat) : Prop := ∀ b ∈ l, b < 256
theorem h_ok_t {b : Nat} {l : List Nat} (h : h_ok (b :: l)) : b < 256 ∧ h_ok l := ⟨h b List.mem_cons_self, fun c hc => h c (List.mem_cons_of_mem _ hc)⟩
theorem hA1 : ∀ l : List Nat, h_ok l → hor l / 2 &&& hor (l.map (fun _ => 85)) = hor (l.map (fun b => b / 2 &&& 85))
  | [], _ => rfl
  | b :: l, h => by
    obtain ⟨h1, h2⟩ := h_ok_t h
    have ih := hA1 l h2
    show (256 * hor l + b) / 2 &&& (256 * hor (l.map (fun _ => 85)) + 85) = 256 * hor (l.map (fun b => b / 2 &&& 85)) + (b / 2 &&& 85)
    rw [show (256 * hor l + b) / 2 = 256 * (hor l / 2) + (b / 2 + 128 * (hor l % 2)) by omega, bc_and (by omega) (by omega), ih, bc_t1 b h1 _ (by omega)]
theorem hA2 : ∀ l : List Nat, h_ok l → hor l &&& hor (l.map (fun _ => 51)) = hor (l.map (fun b => b &&& 51))
  | [], _ => rfl
  | b :: l, h => by
    obtain ⟨h1, h2⟩ := h_ok_t h
    have ih := hA2 l h2
    show (256 * hor l + b) &&& (256 * hor (l.map (fun _ => 51)) + 51) = 256 * hor (l.map (fun b => b &&& 51)) + (b &&& 51)
    rw [bc_and h1 (by omega), ih]
theorem hA3 : ∀ l : List Nat, h_ok l → hor l / 4 &&& hor (l.map (fun _ => 51)) = hor (l.map (fun b => b / 4 &&& 51))
  | [], _ => rfl
  | b :: l, h => by
    obtain ⟨h1, h2⟩ := h_ok_t h
    have ih := hA3 l h2
    show (256 * hor l + b) / 4 &&& (256 * hor (l.map (fun _ => 51)) + 51) = 256 * hor (l.map (fun b => b / 4 &&& 51)) + (b / 4 &&& 51)
    rw [show (256 * hor l + b) / 4 = 256 * (hor l / 4) + (b / 4 + 64 * (hor l % 4)) by omega, bc_and (by omega) (by omega), ih, bc_t3 b h1 _ (by omega)]
theorem h_m16 : ∀ l : List Nat, h_ok l → hor (l.map bc_z) % 16 < 5
  | [], _ => by decide
  | b :: l, h => by
    have := bc_t4 b (h_ok_t h).1
    show (256 * hor (l.map bc_z) + bc_z b) % 16 < 5
    omega
theorem hA4 : ∀ l : List Nat, h_ok l → (hor (l.map bc_z) + hor (l.map bc_z) / 16) &&& hor (l.map (fun _ => 15)) = hor (l.map (fun b => pcN b 8))
  | [], _ => rfl
  | b :: l, h => by
    obtain ⟨h1, h2⟩ := h_ok_t h
    have ih := hA4 l h2
    have t := bc_t4 b h1
    have u := h_m16 l h2
    show ((256 * hor (l.map bc_z) + bc_z b) + (256 * hor (l.map bc_z) + bc_z b) / 16) &&& (256 * hor (l.map (fun _ => 15)) + 15) = 256 * hor (l.map (fun b => pcN b 8)) + pcN b 8
    rw [show (256 * hor (l.map bc_z) + bc_z b) + (256 * hor (l.map bc_z) + bc_z b) / 16 = 256 * (hor (l.map bc_z) + hor (l.map bc_z) / 16) + (bc_z b + (bc_z b / 16 + 16 * (hor (l.map bc_z) % 16))) by omega, bc_and (by omega) (by omega), ih, bc_t5 b h1 _ u]
theorem hA5 : ∀ l : List Nat, h_ok l → hor (l.map (fun b => b / 2 &&& 85)) ≤ hor l ∧ hor l - hor (l.map (fun b => b / 2 &&& 85)) = hor (l.map bc_y)
  | [], _ => ⟨Nat.le_refl _, rfl⟩
  | b :: l, h => by
    obtain ⟨h1, h2⟩ := h_ok_t h
    obtain ⟨i1, i2⟩ := hA5 l h2
    have t := bc_t2 b h1
    have e : bc_y b = b - (b / 2 &&& 85) := rfl
    refine ⟨?_, ?_⟩
    · show 256 * hor (l.map (fun b => b / 2 &&& 85)) + (b / 2 &&& 85) ≤ 256 * hor l + b
      omega
    · show 256 * hor l + b - (256 * hor (l.map (fun b => b / 2 &&& 85)) + (b / 2 &&& 85)) = 256 * hor (l.map bc_y) + bc_y b
      omega
theorem hA6 : ∀ l : List Nat, hor ((l.map bc_y).map (fun b => b &&& 51)) + hor ((l.map bc_y).map (fun b => b / 4 &&& 51)) = hor (l.map bc_z)
  | [] => rfl
  | b :: l => by
    have ih := hA6 l
    have e : bc_z b = (bc_y b &&& 51) + (bc_y b / 4 &&& 51) := rfl
    show 256 * hor ((l.map bc_y).map (fun b => b &&& 51)) + (bc_y b &&& 51) + (256 * hor ((l.map bc_y).map (fun b => b / 4 &&& 51)) + (bc_y b / 4 &&& 51)) = 256 * hor (l.map bc_z) + bc_z b
    omega
theorem h_ok_y : ∀ l, h_ok l → h_ok (l.map bc_y) := fun l h b hb => by
  obtain ⟨c, hc, rfl⟩ := List.mem_map.mp hb
  exact Nat.lt_of_le_of_lt (Nat.sub_le _ _) (h c hc)
theorem h_map {l : List Nat} {f : Nat → Nat} {m : Nat} : (l.map f).map (fun _ => m) = l.map (fun _ => m) := by
  rw [List.map_map]
  rfl
theorem h_pc : ∀ l, h_ok l → pcN (hor l) (8 * l.length) = (l.map (fun b => pcN b 8)).sum
  | [], _ => rfl
  | b :: l, h => by
    obtain ⟨h1, h2⟩ := h_ok_t h
    have ih := h_pc l h2
    show pcN (256 * hor l + b) (8 * (l.length + 1)) = pcN b 8 + (l.map (fun b => pcN b 8)).sum
    rw [show 8 * (l.length + 1) = 8 + 8 * l.length by omega, pcN_c h1, ih]
def dg : Nat → Nat → List Nat
  | 0, _ => []
  | n + 1, X => X % 256 :: dg n (X / 256)
theorem dg_ok : ∀ n X, h_ok (dg n X)
  | 0, _ => fun b h => by cases h
  | n + 1, X => fun b h => by
    rcases List.mem_cons.mp h with rfl | h
    · exact Nat.mod_lt _ (by omega)
    · exact dg_ok n (X / 256) b h
theorem dg_hor : ∀ n X, hor (dg n X) = X % 256 ^ n
  | 0, X => by
    show 0 = X % 1
    omega
  | n + 1, X => by
    show 256 * hor (dg n (X / 256)) + X % 256 = _
    rw [dg_hor n, Nat.pow_succ, Nat.mul_comm (256 ^ n) 256, Nat.mod_mul]
    omega
theorem dg_len : ∀ n X, (dg n X).length = n
  | 0, _ => rfl
  | n + 1, X => congrArg (· + 1) (dg_len n (X / 256))
theorem h_div {A B C : Nat} (h : A < C) : (A + C * B) / C = B := by
  rw [Nat.add_mul_div_left _ _ (by omega), Nat.div_eq_of_lt h, Nat.zero_add]
