theorem h_8 {l : List Nat} (h : l.length = 8) : ∃ b0 b1 b2 b3 b4 b5 b6 b7, l = [b0, b1, b2, b3, b4, b5, b6, b7] := by
  match l, h with
  | [b0, b1, b2, b3, b4, b5, b6, b7], _ => exact ⟨b0, b1, b2, b3, b4, b5, b6, b7, rfl⟩
theorem h_z8 {z0 z1 z2 z3 z4 z5 z6 z7 : Nat} (t0 : z0 ≤ 68) (t1 : z1 ≤ 68) (t2 : z2 ≤ 68) (t3 : z3 ≤ 68) (t4 : z4 ≤ 68) (t5 : z5 ≤ 68) (t6 : z6 ≤ 68) (t7 : z7 ≤ 68) : 256 * (256 * (256 * (256 * (256 * (256 * (256 * (256 * 0 + z7) + z6) + z5) + z4) + z3) + z2) + z1) + z0 ≤ 4919131752989213764 := by omega
theorem h_zb {l : List Nat} (hl : l.length = 8) (hok : h_ok l) : hor (l.map bc_z) ≤ 4919131752989213764 := by
  obtain ⟨b0, b1, b2, b3, b4, b5, b6, b7, rfl⟩ := h_8 hl
  have t : ∀ b ∈ [b0, b1, b2, b3, b4, b5, b6, b7], bc_z b ≤ 68 := fun b hb => (bc_t4 b (hok b hb)).1
  simp only [List.forall_mem_cons] at t
  obtain ⟨t0, t1, t2, t3, t4, t5, t6, t7, -⟩ := t
  exact h_z8 t0 t1 t2 t3 t4 t5 t6 t7
theorem h_q8 {q0 q1 q2 q3 q4 q5 q6 q7 : Nat} : 256 * (256 * (256 * (256 * (256 * (256 * (256 * (256 * 0 + q7) + q6) + q5) + q4) + q3) + q2) + q1) + q0 = q0 + 256 * q1 + 65536 * q2 + 16777216 * q3 + 4294967296 * q4 + 1099511627776 * q5 + 281474976710656 * q6 + 72057594037927936 * q7 := by omega
set_option maxHeartbeats 4000000 in
theorem bc_all (x : Int64) : (bc6 (bc5 (bc4 (bc3 (bc2 (bc1 x)))))).toInt32 &&& 127 = nI (pc x) := by
  have hX := uN_lt x
  obtain ⟨l, hl, hok, hx⟩ : ∃ l, l.length = 8 ∧ h_ok l ∧ uN x = hor l := ⟨dg 8 (uN x), dg_len 8 _, dg_ok 8 _, by rw [dg_hor, Nat.mod_eq_of_lt (by exact hX)]⟩
  have hpc : pc x = (l.map (fun b => pcN b 8)).sum := by
    show pc_n x 64 = _
    have h9 := h_pc l hok
    rw [hl] at h9
    rw [pcN_uN, hx]
    exact h9
  have c5 : uN (6148914691236517205 : Int64) = hor (l.map (fun _ => 85)) := by
    obtain ⟨b0, b1, b2, b3, b4, b5, b6, b7, rfl⟩ := h_8 hl
    exact (by decide +kernel : uN (6148914691236517205 : Int64) = hor [85, 85, 85, 85, 85, 85, 85, 85])
  have c3 : uN (3689348814741910323 : Int64) = hor (l.map (fun _ => 51)) := by
    obtain ⟨b0, b1, b2, b3, b4, b5, b6, b7, rfl⟩ := h_8 hl
    exact (by decide +kernel : uN (3689348814741910323 : Int64) = hor [51, 51, 51, 51, 51, 51, 51, 51])
  have c1 : uN (1085102592571150095 : Int64) = hor (l.map (fun _ => 15)) := by
    obtain ⟨b0, b1, b2, b3, b4, b5, b6, b7, rfl⟩ := h_8 hl
    exact (by decide +kernel : uN (1085102592571150095 : Int64) = hor [15, 15, 15, 15, 15, 15, 15, 15])
  have bnd : ∀ l, h_ok l → hor l < 256 ^ l.length := by
    intro l
    induction l with
    | nil => exact fun _ => Nat.one_pos
    | cons b l ih =>
      intro h
      have h1 := h_ok_t h
      have h2 := ih h1.2
      show 256 * hor l + b < 256 ^ (l.length + 1)
      rw [Nat.pow_succ]
      omega
  have zok : ∀ f : Nat → Nat, (∀ b, b < 256 → f b < 256) → hor (l.map f) < 18446744073709551616 := fun f hf => by
    have h9 := bnd (l.map f) (fun b hb => by
      obtain ⟨c, hc, rfl⟩ := List.mem_map.mp hb
      exact hf c (hok c hc))
    rw [List.length_map, hl] at h9
    exact h9
  have hA := hA5 l hok
  have e1 : uN (bc1 x) = hor (l.map bc_y) := by
    have s1 : uN ((x.toUInt64 >>> (((1 : Int32)).toInt64.toUInt64 &&& Int64.toUInt64 63)).toInt64 &&& (6148914691236517205 : Int64)) = hor (l.map (fun b => b / 2 &&& 85)) := by
      rw [uN_and, show uN (x.toUInt64 >>> (((1 : Int32)).toInt64.toUInt64 &&& Int64.toUInt64 63)).toInt64 = uN x / 2 from uN_sk x (k := 1) (by omega), hx, c5, hA1 l hok]
    unfold bc1
    rw [uN_sub (by rw [s1, hx]; exact hA.1), s1, hx]
    exact hA.2
  have e2 : uN (bc2 (bc1 x)) = hor (l.map bc_z) := by
    have hy := h_ok_y l hok
    have k2 := hA2 _ hy
    have k3 := hA3 _ hy
    rw [h_map] at k2 k3
    unfold bc2
    rw [uN_add, uN_and, uN_and, show uN ((bc1 x).toUInt64 >>> (((2 : Int32)).toInt64.toUInt64 &&& Int64.toUInt64 63)).toInt64 = uN (bc1 x) / 4 from uN_sk (bc1 x) (k := 2) (by omega), e1, c3, k2, k3, hA6, Nat.mod_eq_of_lt (zok bc_z (fun b hb => by have := bc_t4 b hb; omega))]
  have e3 : uN (bc3 (bc2 (bc1 x))) = hor (l.map (fun b => pcN b 8)) := by
    have hz := zok bc_z (fun b hb => by have := bc_t4 b hb; omega)
    have hz2 : hor (l.map bc_z) + hor (l.map bc_z) / 16 < 18446744073709551616 := by
      have h9 := h_zb hl hok
      clear e1 e2 hA zok bnd c1 c3 c5 hpc hx hX hz
      omega
    unfold bc3
    rw [uN_and, uN_add, show uN ((bc2 (bc1 x)).toUInt64 >>> (((4 : Int32)).toInt64.toUInt64 &&& Int64.toUInt64 63)).toInt64 = uN (bc2 (bc1 x)) / 16 from uN_sk (bc2 (bc1 x)) (k := 4) (by omega), e2, Nat.mod_eq_of_lt hz2, c1, hA4 l hok]
  obtain ⟨b0, b1, b2, b3, b4, b5, b6, b7, rfl⟩ := h_8 hl
  have t : ∀ b ∈ [b0, b1, b2, b3, b4, b5, b6, b7], pcN b 8 ≤ 8 := fun b hb => bc_t6 b (hok b hb)
  simp only [List.forall_mem_cons] at t
  obtain ⟨t0, t1, t2, t3, t4, t5, t6, t7, -⟩ := t
  have hQ : uN (bc3 (bc2 (bc1 x))) = pcN b0 8 + 256 * pcN b1 8 + 65536 * pcN b2 8 + 16777216 * pcN b3 8 + 4294967296 * pcN b4 8 + 1099511627776 * pcN b5 8 + 281474976710656 * pcN b6 8 + 72057594037927936 * pcN b7 8 := by
    rw [e3]
    exact h_q8
  obtain ⟨f2, f3, f4, f5⟩ := h_fin t0 t1 t2 t3 t4 t5 t6 t7 hQ rfl rfl rfl
  have e4 : uN (bc4 (bc3 (bc2 (bc1 x)))) = uN (bc3 (bc2 (bc1 x))) + uN (bc3 (bc2 (bc1 x))) / 256 := by
    unfold bc4
    rw [uN_add, show uN ((bc3 (bc2 (bc1 x))).toUInt64 >>> (((8 : Int32)).toInt64.toUInt64 &&& Int64.toUInt64 63)).toInt64 = uN (bc3 (bc2 (bc1 x))) / 256 from uN_sk _ (k := 8) (by omega), Nat.mod_eq_of_lt (Nat.lt_trans f2 (by decide))]
  rw [← e4] at f3 f4 f5
  have e5 : uN (bc5 (bc4 (bc3 (bc2 (bc1 x))))) = uN (bc4 (bc3 (bc2 (bc1 x)))) + uN (bc4 (bc3 (bc2 (bc1 x)))) / 65536 := by
    unfold bc5
    rw [uN_add, show uN ((bc4 (bc3 (bc2 (bc1 x)))).toUInt64 >>> (((16 : Int32)).toInt64.toUInt64 &&& Int64.toUInt64 63)).toInt64 = uN (bc4 (bc3 (bc2 (bc1 x)))) / 65536 from uN_sk _ (k := 16) (by omega), Nat.mod_eq_of_lt (Nat.lt_trans f3 (by decide))]
  rw [← e5] at f4 f5
  have e6 : uN (bc6 (bc5 (bc4 (bc3 (bc2 (bc1 x)))))) = uN (bc5 (bc4 (bc3 (bc2 (bc1 x))))) + uN (bc5 (bc4 (bc3 (bc2 (bc1 x))))) / 4294967296 := by
    unfold bc6
    rw [uN_add, show uN ((bc5 (bc4 (bc3 (bc2 (bc1 x))))).toUInt64 >>> (((32 : Int32)).toInt64.toUInt64 &&& Int64.toUInt64 63)).toInt64 = uN (bc5 (bc4 (bc3 (bc2 (bc1 x))))) / 4294967296 from uN_sk _ (k := 32) (by omega), Nat.mod_eq_of_lt (Nat.lt_trans f4 (by decide))]
  rw [← e6] at f5
  rw [uN_127, f5, hpc]
  congr 1
