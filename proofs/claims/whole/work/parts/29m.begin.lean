def lw_k (scr : mSc) : Int32 := if scr.2.1 = 0 then 0 else scr.2.2 0
theorem lw_mdC : ∀ f, f < mx_fam.length → mx_fK f = 0 → mx_fX f < 7 := by decide +kernel
theorem lw_md0 : ∀ f, f < mx_fam.length → mx_fK f = 0 → mx_fX f = 3 ∨ ∀ i, i < mx_fC f → ∀ j, j < 28 → mx_fR (mx_fX f) j = 0 ∨ mx_lu none mx_rl_Z f i j = some i := by decide +kernel
theorem lw_md5 : ∀ f, f < mx_fam.length → ∀ i, i < mx_fC f → mx_fK f = 5 → ∀ j, j < mx_fX f → mx_lu none mx_rl_Z f i j = some j := by decide +kernel
theorem lw_made {il : List (Nat × Nat × Nat × Int32)} : mx_Made (mx_as il mx_rl_Z 107) := by
  refine ⟨rfl, fun f i j g hi h0 h3 hr => ?_, fun f i j hi h5 hj => lw_md5 f (mx_t0 hi) i hi h5 j hj⟩
  have hf := mx_t0 hi
  refine (((lw_md0 f hf h0).resolve_left h3) i hi j ?_).resolve_left (by omega)
  refine Nat.lt_of_not_le fun hj => ?_
  have h9 := mx_t5 (mx_fX f) (lw_mdC f hf h0) j (Nat.le_trans (mx_t3b f hf h0) hj)
  omega
section
variable {scr : mSc} {d n : Nat} {post : mPo} {ex : Nat → mSt → Prop} {s : mSt}
theorem mx_P_cell (hL : scr.2.1 ≤ 3585) (h : post.2.1 (lw_k scr) s) : mx_XW false scr (d + 1) 30 [.inr (.inr (.inr scr.1)), .inl 0] s post ex := by
  refine ⟨0, rfl, ?_⟩
  show if nI scr.2.1 ≤ 0 then post.2.1 0 s else (scr.1 = scr.1 ∧ vp_in 0 scr.2.1 ∧ post.2.1 (scr.2.2 (0 : Int32).toNatClampNeg) s)
  by_cases h0 : scr.2.1 = 0
  · rw [if_pos (by rw [h0]; decide)]
    unfold lw_k at h
    rw [if_pos h0] at h
    exact h
  · rw [if_neg (nI_nle (by omega) (by omega))]
    unfold lw_k at h
    rw [if_neg h0] at h
    exact ⟨rfl, mx_vi (fun h9 => h9.elim (fun h => by cases h) (fun h => h0 (Nat.le_zero.mp h))), h⟩
set_option maxRecDepth 100000 in
theorem lw_S {q : Nat → mLV → mSt → Nat × Nat → Prop} (hL : scr.2.1 ≤ 3585) (h : q 33 [(0, .inr (.inr (.inr scr.1))), (1, .inr (.inr (.inl (0, 0)))), (2, .inr (.inr (.inl (18, 0)))), (3, .inr (.inr (.inl (38, 0)))), (4, .inl 1)] (mx_as (mx_il_Z (lw_k scr)) mx_rl_Z 107) (107, 3727)) : mx_blk false scr (mx_XW false scr (d + 3)) mt_Lw_pre lw_po (fun _ _ => False) q (n + 20) true (cd_Lw_law.take 20) [(0, .inr (.inr (.inr scr.1)))] [] mx_s0 (0, 0) := by
  have e9 : mx_sn (mx_as (mx_il_Z (lw_k scr)) mx_rl_Z 106) 38 0 = mx_as (mx_il_Z (lw_k scr)) mx_rl_Z 107 := mx_En rfl rfl (by decide +kernel)
  rw [← e9] at h
  exact mx_P_cell hL (mx_P_Rs (mx_En (s := mx_s0) (il := []) (rl := []) (N := 0) rfl rfl rfl) (mx_P_cell hL (mx_P_Md (y := lw_k scr) (mx_En (f := 18) (i := 0) rfl rfl (by decide +kernel)) ⟨rfl, h⟩)))
theorem lw_Go_of (hL : scr.2.1 ≤ 3585) (hd : d ≤ 2000) (h : ∃ n, mx_xq true scr (mx_XW true scr d) mt_Lw_law lw_po (fun _ _ => False) n 33 [(0, .inr (.inr (.inr scr.1))), (1, .inr (.inr (.inl (0, 0)))), (2, .inr (.inr (.inl (18, 0)))), (3, .inr (.inr (.inl (38, 0)))), (4, .inl 1)] (mx_as (mx_il_Z (lw_k scr)) mx_rl_Z 107) (107, 3727)) : lw_Go scr := ⟨3, d, by omega, hd, lw_S (d := 0) (n := 680) hL ⟨lw_made, h⟩⟩
end
