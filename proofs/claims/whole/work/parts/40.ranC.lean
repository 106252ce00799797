/-! ===== the class: image, restore, what was run ===== -/
/-- image: the class's memory behind it -/
theorem hX9_image {X : z_Cx} (M : z_M) (k : Int32) (hb : M.1 6 0 0 = 0 ∨ M.1 6 0 0 = 1) (hb2 : M.1 21 0 3 = 0 ∨ M.1 21 0 3 = 1) : z_Con X 1 mX9_image [zr 0 0, zi k] M (fun v M' => (¬ (0 ≤ k ∧ k ≤ 1) ∧ v = -1000001 ∧ M' = M) ∨ ((0 ≤ k ∧ k ≤ 1) ∧ M.1 6 0 0 = 0 ∧ v = -1000002 ∧ M' = M) ∨ ((0 ≤ k ∧ k ≤ 1) ∧ ¬ M.1 6 0 0 = 0 ∧ v = 1 ∧ ∃ M1, z_Bc M M1 (k.toNatClampNeg + 2) 0 21 ∧ z_Br M1 M' (k.toNatClampNeg + 1) 0 7)) := by
  refine z_mg KX9_image [] 60 (by decide +kernel) rfl ?_
  refine z_uR (hX9_within k 0 1 M) (by decide) ?_
  refine ⟨fun h => ?_, fun h => ?_⟩
  · have hk : 0 ≤ k ∧ k ≤ 1 := by grind
    refine ⟨fun h2 => ?_, fun h2 => ?_⟩
    · refine ⟨vin_le hk.1 hk.2 (by decide), ?_⟩
      refine z_use (hX2_become M (k.toNatClampNeg + 2) 0 (by omega) hb) (by decide) (fun _ M1 hB => ?_)
      refine ⟨vin_le hk.1 hk.2 (by decide), ?_⟩
      have e21 : M1.1 21 0 3 = M.1 21 0 3 := by rw [hB.2.1 21 0 (by omega)]
      refine z_use (hX6_become M1 (k.toNatClampNeg + 1) 0 (by omega) (by rw [e21]; exact hb2)) (by decide) (fun _ M2 hR => ?_)
      exact Or.inr (Or.inr ⟨hk, h2, rfl, M1, hB, hR⟩)
    · exact Or.inr (Or.inl ⟨hk, h2, rfl, rfl⟩)
  · exact Or.inl ⟨by grind, rfl, rfl⟩
theorem hX9_restore {X : z_Cx} (M : z_M) (k : Int32) (hb : ∀ j, j < 2 → M.1 6 (j + 2) 0 = 0 ∨ M.1 6 (j + 2) 0 = 1) (hb2 : ∀ j, j < 2 → M.1 21 (j + 1) 3 = 0 ∨ M.1 21 (j + 1) 3 = 1) : z_Con X 1 mX9_restore [zr 0 0, zi k] M (fun v M' => (¬ (0 ≤ k ∧ k ≤ 1) ∧ v = -1000001 ∧ M' = M) ∨ ((0 ≤ k ∧ k ≤ 1) ∧ M.1 6 (k.toNatClampNeg + 2) 0 = 0 ∧ v = -1000002 ∧ M' = M) ∨ ((0 ≤ k ∧ k ≤ 1) ∧ ¬ M.1 6 (k.toNatClampNeg + 2) 0 = 0 ∧ v = 1 ∧ ∃ M1, z_Bc M M1 0 (k.toNatClampNeg + 2) 21 ∧ z_Br M1 M' 0 (k.toNatClampNeg + 1) 7)) := by
  refine z_mg KX9_restore [] 60 (by decide +kernel) rfl ?_
  refine z_uR (hX9_within k 0 1 M) (by decide) ?_
  refine ⟨fun h => ?_, fun h => ?_⟩
  · have hk : 0 ≤ k ∧ k ≤ 1 := by grind
    obtain ⟨kN, hkN, ekN⟩ := nI_of2 (x := k) (M := 1) (n := 1) (by decide) (Int32.not_lt.mpr hk.1) hk.2
    have ekc : k.toNatClampNeg = kN := by rw [ekN]; exact nI_clamp (by omega)
    refine ⟨vin_le hk.1 hk.2 (by decide), ?_⟩
    refine ⟨fun h2 => ?_, fun h2 => ?_⟩
    · refine ⟨vin_le hk.1 hk.2 (by decide), ?_⟩
      refine z_use (hX2_become M 0 (k.toNatClampNeg + 2) (by omega) (by rw [ekc]; exact hb kN (by omega))) (by decide) (fun _ M1 hB => ?_)
      refine ⟨vin_le hk.1 hk.2 (by decide), ?_⟩
      have e21 : M1.1 21 (k.toNatClampNeg + 1) 3 = M.1 21 (k.toNatClampNeg + 1) 3 := by rw [hB.2.1 21 (k.toNatClampNeg + 1) (by omega)]
      refine z_use (hX6_become M1 0 (k.toNatClampNeg + 1) (by omega) (by rw [e21, ekc]; exact hb2 kN (by omega))) (by decide) (fun _ M2 hR => ?_)
      exact Or.inr (Or.inr ⟨hk, h2, rfl, M1, hB, hR⟩)
    · exact Or.inr (Or.inl ⟨hk, h2, rfl, rfl⟩)
  · exact Or.inl ⟨by grind, rfl, rfl⟩
theorem hX6_told {X : z_Cx} (M : z_M) (w r m : Nat) (hw : w < 7) (hr : r < 4) (hm : m < 12) : z_Con X 0 mX6_told [zr 21 0, zi (nI w), zi (nI r), zi (nI m)] M (fun v M' => M' = M ∧ v = M.1 23 w (12 * r + m)) := by
  have ei : nI r * 12 + nI m = nI (12 * r + m) := by
    rcases (show r = 0 ∨ r = 1 ∨ r = 2 ∨ r = 3 by omega) with e | e | e | e <;> subst e
    · rw [show nI 0 * 12 = nI 0 by decide, nI_add]
    · rw [show nI 1 * 12 = nI 12 by decide, nI_add]
    · rw [show nI 2 * 12 = nI 24 by decide, nI_add]
    · rw [show nI 3 * 12 = nI 36 by decide, nI_add]
  have ew : (nI w).toNatClampNeg = w := nI_clamp (by omega)
  refine z_mg KX6_told [] 60 (by decide +kernel) rfl ?_
  refine ⟨vp_in_nI hw (by omega), by rw [ei]; exact vp_in_nI (by omega) (by omega), rfl, ?_⟩
  show M.1 23 ((nI w).toNatClampNeg + 7 * 0) (nI r * 12 + nI m).toNatClampNeg = _
  rw [ew, ei, nI_clamp (by omega)]
  rfl
/-- the kind of a step: told of rows f what (runner's mile) -/
def pu_kind (f : Nat → Nat → Int32) (r m : Nat) : Int32 := if f 6 (12 * r + m) = 0 then (if f 3 (12 * r + m) = 1 then 3 else 1) else if f 4 (12 * r + m) = 1 then 4 else if 0 < m ∧ f 1 (12 * r + (m - 1)) < f 1 (12 * r + m) then 5 else 2
theorem hX6_kindOf {X : z_Cx} (M : z_M) (r m : Nat) (hr : r < 4) (hm : m < 12) : z_Con X 1 mX6_kindOf [zr 21 0, zi (nI r), zi (nI m)] M (fun v M' => M' = M ∧ v = pu_kind (M.1 23) r m) := by
  refine z_mg KX6_kindOf [] 80 (by decide +kernel) rfl ?_
  refine z_uR (hX6_told M 6 r m (by omega) hr hm) (by decide) ?_
  unfold pu_kind
  refine ⟨fun h => ?_, fun h => ?_⟩
  · refine z_uR (hX6_told M 4 r m (by omega) hr hm) (by decide) ?_
    refine ⟨fun h2 => ?_, fun h2 => ?_⟩
    · refine ⟨fun h3 => ?_, fun h3 => ?_⟩
      · have hm0 : ¬ 0 < m := by
          intro w
          exact absurd h3 (nI_nle w (by omega))
        refine ⟨fun _ => ?_, fun h4 => absurd rfl h4⟩
        exact ⟨rfl, by rw [if_neg h, if_neg h2, if_neg (fun w => hm0 w.1)]⟩
      · have hm0 : 0 < m := by
          rcases Nat.eq_zero_or_pos m with e | e
          · exact absurd (by rw [e]; decide) h3
          · exact e
        refine z_uR (hX6_told M 1 r m (by omega) hr hm) (by decide) ?_
        have hp := hX6_told (X := X) M 1 r (m - 1) (by omega) hr (by omega)
        rw [← nI_pred (m - 1), show m - 1 + 1 = m by omega] at hp
        refine z_uR hp (by decide) ?_
        refine ⟨fun h4 => ?_, fun h4 => ?_⟩
        · refine ⟨fun _ => ?_, fun h5 => absurd rfl h5⟩
          exact ⟨rfl, by rw [if_neg h, if_neg h2, if_neg (fun w => absurd w.2 (Int32.not_lt.mpr h4))]⟩
        · refine ⟨fun h5 => absurd h5 (by decide), fun _ => ?_⟩
          exact ⟨rfl, by rw [if_neg h, if_neg h2, if_pos ⟨hm0, Int32.not_le.mp h4⟩]⟩
    · exact ⟨rfl, by rw [if_neg h, if_pos h2]⟩
  · refine z_uR (hX6_told M 3 r m (by omega) hr hm) (by decide) ?_
    refine ⟨fun h2 => ?_, fun h2 => ?_⟩
    · exact ⟨rfl, by rw [if_pos h, if_neg h2]⟩
    · exact ⟨rfl, by rw [if_pos h, if_pos h2]⟩
theorem hX9_kind {X : z_Cx} (M : z_M) (nm nr nb : Nat) (hW : z_Wc M nm nr nb) (ru mi : Int32) : z_Con X 2 mX9_kind [zr 0 0, zi ru, zi mi] M (fun v M' => M' = M ∧ ((¬ (pu_ru nr ru ∧ pu_ru nm mi) ∧ v = -1000001) ∨ (pu_ru nr ru ∧ pu_ru nm mi ∧ M.1 21 0 3 = 0 ∧ v = -1000002) ∨ (¬ M.1 21 0 3 = 0 ∧ ∃ r m, r < nr ∧ ru = nI r ∧ m < nm ∧ mi = nI m ∧ v = pu_kind (M.1 23) r m))) := by
  have w4 := hW.2.2.2.1
  have w5 := hW.2.2.2.2.1
  refine z_mg KX9_kind [] 80 (by decide +kernel) rfl ?_
  refine z_uR (hX2_hasRunner M 0 ru) (by decide) ?_
  refine ⟨fun h => ?_, fun h => ?_⟩ <;> rw [hW.2.1] at h
  · exact ⟨rfl, Or.inl ⟨fun w => absurd w.1 (by unfold pu_ru; grind), rfl⟩⟩
  · have hru : pu_ru nr ru := by unfold pu_ru; grind
    obtain ⟨r, hr, er⟩ := ru_of (by omega) hru
    refine z_uR (hX2_hasMile M 0 mi) (by decide) ?_
    refine ⟨fun h2 => ?_, fun h2 => ?_⟩ <;> rw [hW.1] at h2
    · have hmi : pu_ru nm mi := by unfold pu_ru; grind
      obtain ⟨m, hm, em⟩ := ru_of (by omega) hmi
      refine ⟨fun h3 => ?_, fun h3 => ?_⟩
      · exact ⟨rfl, Or.inr (Or.inl ⟨hru, hmi, h3, rfl⟩)⟩
      · subst er
        subst em
        refine z_uR (hX6_kindOf M r m (by omega) (by omega)) (by decide) ?_
        exact ⟨rfl, Or.inr (Or.inr ⟨h3, r, m, hr, rfl, hm, rfl, rfl⟩)⟩
    · exact ⟨rfl, Or.inl ⟨fun w => absurd w.2 (by unfold pu_ru; grind), rfl⟩⟩
