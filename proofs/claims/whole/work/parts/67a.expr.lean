section
variable {rs : List gRl} {rl : gRl} {i : Nat} {bar : Bool} {c : Int32}
theorem g_leaf_T (hc : (g_tx rl)[i]? = some 84) : g_leaf rs rl i bar = some ((84, 0, 0, bar), i + 1) := by
  unfold g_leaf
  rw [hc]
  rfl
theorem g_leaf_c (hc : (g_tx rl)[i]? = some 99) : g_leaf rs rl i bar = match g_nm rs.length (g_tx rl) (i + 1) with
      | none => none
      | some x => if g_sn rs rl x = true then some ((99, 0, x, bar), i + 2) else none := by
  unfold g_leaf
  rw [hc]
  rfl
theorem g_leaf_f (hc : (g_tx rl)[i]? = some 102) : g_leaf rs rl i bar = match g_nm rs.length (g_tx rl) (i + 1) with
      | none => none
      | some t => if g_sn rs rl t = true then (match g_nm rs.length (g_tx rl) (i + 2) with
        | none => none
        | some x => some ((102, t, x, bar), i + 3)) else none := by
  unfold g_leaf
  rw [hc]
  rfl
theorem g_leaf_e (hc : (g_tx rl)[i]? = none) : g_leaf rs rl i bar = none := by
  unfold g_leaf
  rw [hc]
theorem g_leaf_0 (hc : (g_tx rl)[i]? = some c) (h1 : ¬ c = 84) (h2 : ¬ c = 99) (h3 : ¬ c = 102) : g_leaf rs rl i bar = none := by
  unfold g_leaf
  rw [hc]
  show (if c = 84 then _ else if c = 99 then _ else if c = 102 then _ else none) = none
  rw [if_neg h1, if_neg h2, if_neg h3]
theorem g_part_l {E : Nat → Bool → Option (gPr × Nat)} {sp : gSp} {j : Nat} (h : g_leaf rs rl i bar = some (sp, j)) : g_part rs rl E i bar = some (([sp], fun env => env sp), j) := by
  unfold g_part
  rw [h]
theorem g_part_n {E : Nat → Bool → Option (gPr × Nat)} (h : g_leaf rs rl i bar = none) (h2 : ¬ (g_tx rl)[i]? = some 40) : g_part rs rl E i bar = none := by
  unfold g_part
  rw [h]
  show (if _ then _ else none) = none
  rw [if_neg h2]
theorem g_part_p {E : Nat → Bool → Option (gPr × Nat)} (h2 : (g_tx rl)[i]? = some 40) : g_part rs rl E i bar = match E (i + 1) bar with
    | some q => if (g_tx rl)[q.2]? = some 41 then some (q.1, q.2 + 1) else none
    | none => none := by
  unfold g_part
  rw [g_leaf_0 h2 (by decide) (by decide) (by decide)]
  show (if _ then _ else none) = _
  rw [if_pos h2]
  rfl
end
section
variable {scr : mSc} {d : Nat} {G : gSt} {s : mSt} {r i : Nat} {rl : gRl} {acc : List gSp}
theorem S_readSame {post : Int32 → mSt → Prop} {bar : Bool} (h : RD G r rl s (i + 1) acc acc) (hl : acc.length < 24) (hi : i + 1 ≤ 24) (hc : (g_tx rl)[i]? = some 99) (hy : ∀ sp j t, g_leaf (g_rs G) rl i bar = some (sp, j) → RD G r rl t j (acc ++ [sp]) (acc ++ [sp]) → mx_fr (F_rd r) s t → post 1 t) (hn : ∀ t, g_leaf (g_rs G) rl i bar = none → mx_fr (F_rd r) s t → post 0 t) : X_Rd_readSame scr (d + 3) s (bI bar) post := by
  obtain ⟨hr9, hok, hl9, hr⟩ := RD_tx h
  refine w_Rd_readSame (S_readName h hi (fun x t hx hxl _ ht hf => S_own ht hxl (fun hs => ⟨fun h => absurd h (by decide), fun _ => ⟨r, ht.2.2.2.1, hr9, ?_⟩⟩) (fun hs => ⟨fun _ => ⟨rfl, hn t ?_ hf⟩, fun h => absurd rfl h⟩)) (fun t k hx ht hk hf => S_own_n ⟨fun _ => ⟨rfl, hn t ?_ hf⟩, fun h => absurd rfl h⟩))
  · have hlf : g_leaf (g_rs G) rl i bar = some ((99, 0, x, bar), i + 2) := by
      rw [g_leaf_c hc, hx]
      show (if _ then _ else none) = _
      rw [if_pos hs]
    refine S_need (sp := (99, 0, x, bar)) ht rfl (fun y hy => ?_) (fun t1 ht1 hf1 => ⟨r, ht1.2.2.2.1, hr9, S_addStep (f := 0) (b := bar) ht1 hl rfl (fun t2 ht2 hf2 => ⟨rfl, hy _ _ t2 hlf ht2 ((hf.tr hf1).tr hf2)⟩)⟩)
    rw [g_mk2 x (by omega) y hy, decide_eq_true_eq]
    constructor
    · exact fun h => Or.inr (Or.inl ⟨rfl, h⟩)
    · rintro (⟨h, -⟩ | ⟨-, h⟩ | ⟨h, -⟩)
      · exact absurd (show (99 : Int32) = 84 from h) (by decide)
      · exact h
      · exact absurd (show (99 : Int32) = 102 from h) (by decide)
  · rw [g_leaf_c hc, hx]
    show (if _ then _ else none) = _
    rw [if_neg (by rw [hs]; decide)]
  · rw [g_leaf_c hc, hx]
theorem S_readFrom {post : Int32 → mSt → Prop} {bar : Bool} (h : RD G r rl s (i + 1) acc acc) (hl : acc.length < 24) (hi : i + 1 ≤ 24) (hc : (g_tx rl)[i]? = some 102) (hy : ∀ sp j t, g_leaf (g_rs G) rl i bar = some (sp, j) → RD G r rl t j (acc ++ [sp]) (acc ++ [sp]) → mx_fr (F_rd r) s t → post 1 t) (hn : ∀ t, g_leaf (g_rs G) rl i bar = none → mx_fr (F_rd r) s t → post 0 t) : X_Rd_readFrom scr (d + 3) s (bI bar) post := by
  obtain ⟨hr9, hok, hl9, hr⟩ := RD_tx h
  have no : ∀ t, g_nm (g_rs G).length (g_tx rl) (i + 1) = none → mx_fr (F_rd r) s t → post 0 t := fun t hx hf => hn t (by rw [g_leaf_f hc, hx]) hf
  refine w_Rd_readFrom (S_readName h hi (fun y t hyx hyl hi2 ht hf => S_readName ht hi2 (fun x t1 hx hxl _ ht1 hf1 => S_own ht1 hyl (fun hs => ⟨fun h => absurd h (by decide), fun _ => ⟨fun _ => ⟨r, ht1.2.2.2.1, hr9, ?_⟩, fun h => absurd (Int32.not_lt.mp (nI_pos (by omega))) h⟩⟩) (fun hs => ⟨fun _ => ⟨rfl, hn t1 ?_ (hf.tr hf1)⟩, fun h => absurd rfl h⟩)) (fun t1 k hx ht1 hk hf1 => S_own ht1 hyl (fun hs => ⟨fun h => absurd h (by decide), fun _ => ⟨fun h => absurd h (by decide), fun _ => ⟨rfl, hn t1 ?_ (hf.tr hf1)⟩⟩⟩) (fun hs => ⟨fun _ => ⟨rfl, hn t1 ?_ (hf.tr hf1)⟩, fun h => absurd rfl h⟩))) (fun t k hx ht hk hf => S_readName ht hk (fun _ t1 _ _ _ _ hf1 => S_own_n ⟨fun _ => ⟨rfl, no t1 hx (hf.tr hf1)⟩, fun h => absurd rfl h⟩) (fun t1 _ _ _ _ hf1 => S_own_n ⟨fun _ => ⟨rfl, no t1 hx (hf.tr hf1)⟩, fun h => absurd rfl h⟩)))
  · have hlf : g_leaf (g_rs G) rl i bar = some ((102, y, x, bar), i + 3) := by
      rw [g_leaf_f hc, hyx]
      show (if _ then _ else none) = _
      rw [if_pos hs, hx]
    refine S_need (sp := (102, y, x, bar)) ht1 rfl (fun z hz => ?_) (fun t2 ht2 hf2 => ⟨r, ht2.2.2.2.1, hr9, S_addStep (b := bar) ht2 hl rfl (fun t3 ht3 hf3 => ⟨rfl, hy _ _ t3 hlf ht3 (((hf.tr hf1).tr hf2).tr hf3)⟩)⟩)
    rw [b_or, g_mk2 y (by omega) z hz, g_mk2 x (by omega) z hz, Bool.or_eq_true, decide_eq_true_eq, decide_eq_true_eq]
    constructor
    · exact fun h => Or.inr (Or.inr ⟨rfl, h⟩)
    · rintro (⟨h, -⟩ | ⟨h, -⟩ | ⟨-, h⟩)
      · exact absurd (show (102 : Int32) = 84 from h) (by decide)
      · exact absurd (show (102 : Int32) = 99 from h) (by decide)
      · exact h
  · rw [g_leaf_f hc, hyx]
    show (if _ then _ else none) = _
    rw [if_neg (by rw [hs]; decide)]
  · rw [g_leaf_f hc, hyx]
    show (if _ then _ else none) = _
    rw [if_pos hs, hx]
  · rw [g_leaf_f hc, hyx]
    show (if _ then _ else none) = _
    rw [if_neg (by rw [hs]; decide)]
end
