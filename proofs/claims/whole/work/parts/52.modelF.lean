/-! ===== the model: sheets, whole ===== -/
/-- n rows from i on of sheet s, by lanes and sizes -/
def pu_fd (L S : Nat → Int32) (s i n : Int32) : Int32 := if L s.toNatClampNeg = -1 then 1 else if 0 ≤ i ∧ 0 ≤ n ∧ i ≤ S s.toNatClampNeg - n then 0 else 2
theorem fd_pu {M : z_M} {s i n : Int32} : z_fd M s i n = pu_fd (fun s => M.1 2 s 1) (fun s => M.1 2 s 2) s i n := rfl
/-- the model's sheets are these: lanes, sizes, items -/
def z_Sm (L S : Nat → Int32) (I : Nat → Nat → Int32) (M : z_M) : Prop := ∀ s, s < 8 → M.1 53 0 s = (if L s = -1 then 0 else 1) ∧ (¬ L s = -1 → M.1 51 0 s = L s ∧ M.1 52 0 s = S s ∧ (0 ≤ L s ∧ L s ≤ 2) ∧ 0 ≤ S s ∧ S s ≤ 40) ∧ ∀ j, j < 40 → M.1 54 0 (40 * s + j) = I s j
/-- of the model nothing else has changed -/
def z_Fm (J L : List Nat) (M M' : z_M) : Prop := M'.2 = M.2 ∧ (∀ k, k ≠ 46 → k ∉ L → M'.1 k = M.1 k) ∧ ∀ j, j ∉ J → M'.1 46 0 j = M.1 46 0 j
theorem z_Fm.refl {J L : List Nat} {M : z_M} : z_Fm J L M M := ⟨rfl, fun _ _ _ => rfl, fun _ _ => rfl⟩
theorem z_Fm.trans {J L : List Nat} {M M1 M2 : z_M} (h : z_Fm J L M M1) (h2 : z_Fm J L M1 M2) : z_Fm J L M M2 := ⟨h2.1.trans h.1, fun k hk hl => (h2.2.1 k hk hl).trans (h.2.1 k hk hl), fun j hj => (h2.2.2 j hj).trans (h.2.2 j hj)⟩
theorem z_Fm.mono {J L J' L' : List Nat} {M M1 : z_M} (h : z_Fm J L M M1) (hJ : ∀ j ∈ J, j ∈ J') (hL : ∀ k ∈ L, k ∈ L') : z_Fm J' L' M M1 := ⟨h.1, fun k hk hl => h.2.1 k hk (fun w => hl (hL k w)), fun j hj => h.2.2 j (fun w => hj (hJ j w))⟩
theorem z_Fm.s {J L : List Nat} {M M1 : z_M} {k i j : Nat} {v : Int32} (h : z_Fm J L M M1) (hk : k ∈ L) (h46 : k ≠ 46) : z_Fm J L M (z_s M1 k i j v) := by
  refine ⟨h.1, fun k' h1 h2 => ?_, fun j' hj => ?_⟩
  · rw [← h.2.1 k' h1 h2]
    funext a b
    exact if_neg (c := k' = k ∧ a = i ∧ b = j) (fun w => h2 (by rw [w.1]; exact hk))
  · rw [← h.2.2 j' hj]
    exact if_neg (c := 46 = k ∧ 0 = i ∧ j' = j) (fun w => h46 w.1.symm)
theorem z_Fm.sr {J L : List Nat} {M M1 : z_M} {k i : Nat} {f : Nat → Int32} (h : z_Fm J L M M1) (hk : k ∈ L) (h46 : k ≠ 46) : z_Fm J L M (z_sr M1 k i f) := by
  refine ⟨h.1, fun k' h1 h2 => ?_, fun j' hj => ?_⟩
  · rw [← h.2.1 k' h1 h2]
    funext a b
    exact if_neg (c := k' = k ∧ a = i) (fun w => h2 (by rw [w.1]; exact hk))
  · rw [← h.2.2 j' hj]
    exact if_neg (c := 46 = k ∧ 0 = i) (fun w => h46 w.1.symm)
theorem z_Fm.s46 {J L : List Nat} {M M1 : z_M} {j : Nat} {v : Int32} (h : z_Fm J L M M1) (hj : j ∈ J) : z_Fm J L M (z_s M1 46 0 j v) := by
  refine ⟨h.1, fun k' h1 h2 => ?_, fun j' hj' => ?_⟩
  · rw [← h.2.1 k' h1 h2]
    funext a b
    exact if_neg (c := k' = 46 ∧ a = 0 ∧ b = j) (fun w => h1 w.1)
  · rw [← h.2.2 j' hj']
    exact if_neg (c := 46 = 46 ∧ 0 = 0 ∧ j' = j) (fun w => hj' (by rw [w.2.2]; exact hj))
theorem z_Fr.m {L J : List Nat} {M M' : z_M} (h : z_Fr L M M') (h46 : 46 ∉ L) : z_Fm J L M M' := ⟨h.1, fun k _ hl => h.2 k hl, fun j _ => by rw [h.2 46 h46]⟩
theorem z_Sm.fr {L S : Nat → Int32} {I : Nat → Nat → Int32} {J K : List Nat} {M M' : z_M} (h : z_Sm L S I M) (hF : z_Fm J K M M') (h1 : 51 ∉ K) (h2 : 52 ∉ K) (h3 : 53 ∉ K) (h4 : 54 ∉ K) : z_Sm L S I M' := by
  intro s hs
  rw [hF.2.1 51 (by decide) h1, hF.2.1 52 (by decide) h2, hF.2.1 53 (by decide) h3, hF.2.1 54 (by decide) h4]
  exact h s hs
theorem nw_fm {J K : List Nat} {M M' : z_M} (h : z_Fm J K M M') (h47 : 47 ∉ K) : z_nw M' = z_nw M := by
  show M'.1 47 (M'.2.2 46 0).toNat = M.1 47 (M.2.2 46 0).toNat
  rw [h.1, h.2.1 47 (by decide) h47]
theorem holds_iff {i n z : Int32} (h0 : 0 ≤ i) (h1 : 0 ≤ n) (h2 : 0 ≤ z) (h3 : z ≤ 40) : i.toInt64 + n.toInt64 ≤ z.toInt64 ↔ i ≤ z - n := by
  obtain ⟨a, ha, ea⟩ := nI_of (x := i) (Int32.not_lt.mpr h0)
  obtain ⟨c, hc, ec⟩ := nI_of (x := n) (Int32.not_lt.mpr h1)
  obtain ⟨w, hw, ew⟩ := nI_of (x := z) (Int32.not_lt.mpr h2)
  subst ea ec ew
  have hw40 : w ≤ 40 := by
    have := (nI_leI (b := 40) hw (by omega)).mp h3
    exact this
  rw [nI_l ha, nI_l hc, nI_l hw, lN_add, pk_lLE (by omega) (by omega), Int32.le_iff_toInt_le, Int32.toInt_sub, nI_toInt ha, nI_toInt hc, nI_toInt hw]
  have e : ((w : Int) - (c : Int)).bmod (2 ^ 32) = (w : Int) - c := by
    apply Int.bmod_eq_of_le
    · omega
    · omega
  rw [e]
  omega
theorem lcmp_gt {x y : Int64} : (0 : Int32) < lg_cmp x y ↔ ¬ x ≤ y := by
  unfold lg_cmp
  by_cases h : x > y
  · rw [if_pos h]
    exact ⟨fun _ w => absurd h (Int64.not_lt.mpr w), fun _ => by decide⟩
  · rw [if_neg h]
    have h2 : x ≤ y := Int64.not_lt.mp h
    refine ⟨fun w => ?_, fun w => absurd h2 w⟩
    exfalso
    by_cases e : x = y
    · rw [if_pos e] at w
      exact absurd w (by decide)
    · rw [if_neg e] at w
      exact absurd w (by decide)
theorem hX10_holds {X : z_Cx} (M : z_M) {L S : Nat → Int32} {I : Nat → Nat → Int32} (hS : z_Sm L S I M) (s : Nat) (hs : s < 8) (hl : ¬ L s = -1) (i n : Int32) : z_Con X 0 mX10_holds [zr 46 0, zi (nI s), zi i, zi n] M (fun r M' => M' = M ∧ r = if 0 ≤ i ∧ 0 ≤ n ∧ i ≤ S s - n then 1 else 0) := by
  obtain ⟨_, e2, _, b1, b2⟩ := (hS s hs).2.1 hl
  refine z_mg KX10_holds [] 40 (by decide +kernel) rfl ?_
  refine ⟨fun h => ?_, fun h => ?_⟩
  · exact ⟨Or.inl rfl, rfl, by grind⟩
  · refine ⟨fun h1 => ?_, fun h1 => ?_⟩
    · exact ⟨Or.inl rfl, rfl, by grind⟩
    · refine ⟨vp_in_nI (by omega) (by omega), ?_⟩
      have hi := holds_iff (i := i) (n := n) (z := S s) (Int32.not_lt.mp h) (Int32.not_lt.mp h1) b1 b2
      refine ⟨fun h2 => ?_, fun h2 => ?_⟩ <;> rw [nI_clamp (by omega), e2, lcmp_gt] at h2
      · refine ⟨Or.inl rfl, rfl, ?_⟩
        rw [if_neg (fun w => h2 (hi.mpr w.2.2))]
      · refine ⟨Or.inr rfl, rfl, ?_⟩
        rw [if_pos ⟨Int32.not_lt.mp h, Int32.not_lt.mp h1, hi.mp (Classical.not_not.mp h2)⟩]
theorem ixs (s x : Nat) : 40 * nI s + nI x = nI (40 * s + x) := by
  show nI 40 * nI s + nI x = _
  rw [pk_mul, nI_add]
theorem hX10_item {X : z_Cx} (M : z_M) {L S : Nat → Int32} {I : Nat → Nat → Int32} (hS : z_Sm L S I M) (s x : Nat) (hs : s < 8) (hx : x < 40) : z_Con X 0 mX10_item [zr 46 0, zi (nI s), zi (nI x)] M (fun r M' => M' = M ∧ r = I s x) := by
  refine z_mg KX10_item [] 40 (by decide +kernel) rfl ?_
  refine ⟨by rw [ixs]; exact vp_in_nI (by omega) (by omega), rfl, ?_⟩
  rw [ixs, nI_clamp (by omega)]
  exact (hS s hs).2.2 x hx
def pu_up (f : Nat → Int32) (s : Nat) (v : Int32) : Nat → Int32 := fun x => if x = s then v else f x
def pu_up2 (f : Nat → Nat → Int32) (s : Nat) (v : Nat → Int32) : Nat → Nat → Int32 := fun x => if x = s then v else f x
theorem lX10_sheet {X : z_Cx} (M : z_M) (s : Nat) (hs : s < 8) (l n : Int32) {R : Int32 → z_M → Prop} (hk : ∀ Mc, z_Fm [] [54] M Mc → (∀ x, Mc.1 54 0 x = if 40 * s ≤ x ∧ x < 40 * s + 40 then 0 else M.1 54 0 x) → R n (z_s Mc 46 0 7 0)) : ∀ (u t : Nat) (Mc : z_M), t + u = 40 → z_Fm [] [54] M Mc → (∀ x, Mc.1 54 0 x = if 40 * s ≤ x ∧ x < 40 * s + t then 0 else M.1 54 0 x) → z_Run X 2 mX10_sheet R 62 [(0, zr 46 0), (1, zi (nI s)), (2, zi l), (3, zi n), (4, zi (nI t))] [] Mc := by
  intro u
  induction u with
  | zero =>
    intro t Mc ht hF hx
    have e : t = 40 := by omega
    subst e
    refine z_go_run KX10_sheet [(62, [0, 1, 2, 3, 4])] 60 ?_
    refine ⟨fun h => ?_, fun h => absurd (by decide) h⟩
    refine z_uW (hX10_through Mc n) (by decide) ?_
    exact hk Mc hF hx
  | succ u ih =>
    intro t Mc ht hF hx
    refine z_go_run KX10_sheet [(62, [0, 1, 2, 3, 4])] 60 ?_
    refine ⟨fun h => absurd h (nI_ge (b := 40) (by omega) (by omega)), fun h => ?_⟩
    refine ⟨by rw [ixs]; exact vp_in_nI (by omega) (by omega), ?_⟩
    show z_Run X 2 _ _ 62 [(0, zr 46 0), (1, zi (nI s)), (2, zi l), (3, zi n), (4, zi (nI t + 1))] [] (z_s Mc 54 0 (40 * nI s + nI t).toNatClampNeg 0)
    rw [ixs, nI_clamp (by omega), nI_1]
    refine ih (t + 1) _ (by omega) (hF.s (by decide) (by decide)) (fun x => ?_)
    rw [z_gs, hx x]
    by_cases e : x = 40 * s + t
    · rw [if_pos ⟨rfl, rfl, e⟩, if_pos (by omega)]
    · rw [if_neg (fun w => e w.2.2)]
      by_cases e2 : 40 * s ≤ x ∧ x < 40 * s + t
      · rw [if_pos e2, if_pos (by omega)]
      · rw [if_neg e2, if_neg (by omega)]
theorem s_of {s : Int32} (h : 0 ≤ s ∧ s ≤ 7) : ∃ x, x < 8 ∧ s = nI x ∧ s.toNatClampNeg = x := by
  obtain ⟨x, hx, e⟩ := nI_of2 (M := 7) (n := 7) (by decide) (Int32.not_lt.mpr h.1) h.2
  exact ⟨x, by omega, e, by rw [e]; exact nI_clamp (by omega)⟩
theorem hX10_sheet {X : z_Cx} (M : z_M) {L S : Nat → Int32} {I : Nat → Nat → Int32} (hS : z_Sm L S I M) (s l n : Int32) : z_Con X 2 mX10_sheet [zr 46 0, zi s, zi l, zi n] M (fun r M' =>
    if 0 ≤ s ∧ s ≤ 7 ∧ 0 ≤ l ∧ l ≤ 2 ∧ n ≤ 40 then (if n < 0 then r = -1000014 ∧ M' = z_s M 46 0 7 4 else r = n ∧ z_Fm [7] [51, 52, 53, 54] M M' ∧ M'.1 46 0 7 = 0 ∧ z_Sm (pu_up L s.toNatClampNeg l) (pu_up S s.toNatClampNeg n) (pu_up2 I s.toNatClampNeg (fun _ => 0)) M') else r = -1000001 ∧ M' = M) := by
  refine z_mg KX10_sheet [(62, [0, 1, 2, 3, 4])] 60 (by decide +kernel) rfl ?_
  refine z_uR (hX10_isSheet M s) (by decide) ?_
  refine ⟨fun h => ?_, fun h => ?_⟩
  · exact (if_neg (by grind)).mpr ⟨rfl, rfl⟩
  · refine z_uR (hX10_inI M l 0 2 (by decide) (by decide)) (by decide) ?_
    refine ⟨fun h2 => ?_, fun h2 => ?_⟩
    · exact (if_neg (by grind)).mpr ⟨rfl, rfl⟩
    · refine ⟨fun h3 => ?_, fun h3 => ?_⟩
      · have hv : 0 ≤ s ∧ s ≤ 7 ∧ 0 ≤ l ∧ l ≤ 2 ∧ n ≤ 40 := by grind
        refine ⟨fun h4 => ?_, fun h4 => ?_⟩
        · obtain ⟨x, hx, e1, e2⟩ := s_of (s := s) ⟨hv.1, hv.2.1⟩
          have hnn : ¬ n < 0 := Int32.not_lt.mpr h4
          subst e1
          refine ⟨vp_in_nI (by omega) (by omega), vp_in_nI (by omega) (by omega), vp_in_nI (by omega) (by omega), Or.inr rfl, ?_⟩
          rw [e2]
          refine lX10_sheet _ x hx l n (fun Mc hF hy => ?_) 40 0 _ (by omega) z_Fm.refl (fun y => ?_)
          · refine (if_pos hv).mpr ((if_neg hnn).mpr ⟨rfl, ?_, ?_, ?_⟩)
            · have hF2 : z_Fm [7] [51, 52, 53, 54] (z_s (z_s (z_s M 51 0 x l) 52 0 x n) 53 0 x 1) Mc := hF.mono (by decide) (by decide)
              exact (((((z_Fm.refl).s (by decide) (by decide)).s (by decide) (by decide)).s (by decide) (by decide)).trans hF2).s46 (by decide)
            · rw [z_gs, if_pos ⟨rfl, rfl, rfl⟩]
            · intro s' hs'
              have a1 : (z_s Mc 46 0 7 0).1 53 0 s' = if s' = x then 1 else M.1 53 0 s' := by
                rw [z_gs, if_neg (by omega), hF.2.1 53 (by decide) (by decide), z_gs]
                by_cases e : s' = x
                · rw [if_pos ⟨rfl, rfl, e⟩, if_pos e]
                · rw [if_neg (fun w => e w.2.2), if_neg e, z_gs, if_neg (by omega), z_gs, if_neg (by omega)]
              have a2 : (z_s Mc 46 0 7 0).1 52 0 s' = if s' = x then n else M.1 52 0 s' := by
                rw [z_gs, if_neg (by omega), hF.2.1 52 (by decide) (by decide), z_gs, if_neg (by omega), z_gs]
                by_cases e : s' = x
                · rw [if_pos ⟨rfl, rfl, e⟩, if_pos e]
                · rw [if_neg (fun w => e w.2.2), if_neg e, z_gs, if_neg (by omega)]
              have a3 : (z_s Mc 46 0 7 0).1 51 0 s' = if s' = x then l else M.1 51 0 s' := by
                rw [z_gs, if_neg (by omega), hF.2.1 51 (by decide) (by decide), z_gs, if_neg (by omega), z_gs, if_neg (by omega), z_gs]
                by_cases e : s' = x
                · rw [if_pos ⟨rfl, rfl, e⟩, if_pos e]
                · rw [if_neg (fun w => e w.2.2), if_neg e]
              have a4 : ∀ j, (z_s Mc 46 0 7 0).1 54 0 j = if 40 * x ≤ j ∧ j < 40 * x + 40 then 0 else M.1 54 0 j := by
                intro j
                have e3 : (z_s (z_s (z_s M 51 0 x l) 52 0 x n) 53 0 x 1).1 54 0 j = M.1 54 0 j := by rw [z_gs, if_neg (by omega), z_gs, if_neg (by omega), z_gs, if_neg (by omega)]
                rw [z_gs, if_neg (by omega), hy j, e3]
              obtain ⟨b1, b2, b3⟩ := hS s' hs'
              rw [a1, a2, a3]
              unfold pu_up pu_up2
              by_cases e : s' = x
              · rw [if_pos e, if_pos e, if_pos e, if_pos e, if_pos e, if_pos e, if_neg (by grind)]
                refine ⟨rfl, fun _ => ⟨rfl, rfl, ⟨hv.2.2.1, hv.2.2.2.1⟩, h4, hv.2.2.2.2⟩, fun j hj => ?_⟩
                rw [a4, if_pos (by omega)]
              · rw [if_neg e, if_neg e, if_neg e, if_neg e, if_neg e, if_neg e]
                refine ⟨b1, b2, fun j hj => ?_⟩
                rw [a4, if_neg (by omega)]
                exact b3 j hj
          · rw [if_neg (by omega)]
        · refine z_uW (hX10_found M 4) (by decide) ?_
          exact (if_pos hv).mpr ((if_pos (by grind)).mpr ⟨rfl, rfl⟩)
      · exact (if_neg (by grind)).mpr ⟨rfl, rfl⟩
