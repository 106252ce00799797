/-! ===== the class: hour ===== -/
theorem hX9_hour {X : z_Cx} (M : z_M) (nm nr nb : Nat) (hW : z_Wc M nm nr nb) (hS : z_WS M) (ru s i n wh : Int32) : z_Con X 5 mX9_hour [zr 0 0, zi ru, zi s, zi i, zi n, zi wh] M (fun v M' =>
    (¬ (pu_ru nr ru ∧ (0 ≤ s ∧ s ≤ 7) ∧ (1 ≤ n ∧ n ≤ 24) ∧ 0 ≤ wh ∧ wh ≤ 1) ∧ v = -1000001 ∧ M' = M) ∨
    (pu_ru nr ru ∧ (0 ≤ s ∧ s ≤ 7) ∧ (1 ≤ n ∧ n ≤ 24) ∧ (0 ≤ wh ∧ wh ≤ 1) ∧ ¬ z_fd M s i (n + 2) = 0 ∧ v = -1000010 - z_fd M s i (n + 2) ∧ M' = z_s M 0 0 10 (z_fd M s i (n + 2))) ∨
    ((0 ≤ s ∧ s ≤ 7) ∧ (0 ≤ wh ∧ wh ≤ 1) ∧ z_fd M s i (n + 2) = 0 ∧ ∃ r x c, r < nr ∧ ru = nI r ∧ i = nI x ∧ 1 ≤ c ∧ c ≤ 24 ∧ n = nI c ∧ x + (c + 2) ≤ 40 ∧ ((pu_iw (M.1 3 s.toNatClampNeg) 0 20 x (c + 2) = false ∧ v = -1000001 ∧ M' = M) ∨ (pu_iw (M.1 3 s.toNatClampNeg) 0 20 x (c + 2) = true ∧ v = pu_hour (fun h => pu_Th (z_cv M 0) (M.1 3 s.toNatClampNeg) nm nb r (x + h)) c wh ∧ z_Fr z_kA0 M M' ∧ M'.1 0 0 10 = 0)))) := by
  have w5 := hW.2.2.2.2.1
  refine z_mg KX9_hour [] 90 (by decide +kernel) rfl ?_
  refine z_uR (hX2_hasRunner M 0 ru) (by decide) ?_
  refine ⟨fun h => ?_, fun h => ?_⟩ <;> rw [hW.2.1] at h
  · exact Or.inl ⟨fun w => absurd w.1 (by unfold pu_ru; grind), rfl, rfl⟩
  · have hru : pu_ru nr ru := by unfold pu_ru; grind
    obtain ⟨r, hr, er⟩ := ru_of (by omega) hru
    refine z_uR (hX9_within s 0 7 M) (by decide) ?_
    refine ⟨fun h2 => ?_, fun h2 => ?_⟩
    · have hs : 0 ≤ s ∧ s ≤ 7 := by grind
      refine z_uR (hX9_within n 1 24 M) (by decide) ?_
      refine ⟨fun h3 => ?_, fun h3 => ?_⟩
      · exact Or.inl ⟨fun w => absurd w.2.2.1 (by grind), rfl, rfl⟩
      · have hn : 1 ≤ n ∧ n ≤ 24 := by grind
        refine z_uR (hX9_within wh 0 1 M) (by decide) ?_
        refine ⟨fun h4 => ?_, fun h4 => ?_⟩
        · have hwh : 0 ≤ wh ∧ wh ≤ 1 := by grind
          refine z_uR (hX9_findingAt M s i (n + 2) hs.1 hs.2) (by decide) ?_
          refine ⟨fun h5 => ?_, fun h5 => ?_⟩
          · obtain ⟨c, hc, ec⟩ := nI_of (x := n) (Int32.not_lt.mpr (Int32.le_trans (by decide) hn.1))
            subst ec
            have hc1 : 1 ≤ c := (nI_leI (a := 1) (by omega) hc).mp hn.1
            have hc24 : c ≤ 24 := (nI_leI (b := 24) hc (by omega)).mp hn.2
            have e2 : nI c + 2 = nI (c + 2) := nI_add c 2
            obtain ⟨sN, hsN, esN⟩ := nI_of2 (x := s) (M := 7) (n := 7) (by decide) (Int32.not_lt.mpr hs.1) hs.2
            have hSz := hS sN (by omega)
            have esc : s.toNatClampNeg = sN := by rw [esN]; exact nI_clamp (by omega)
            obtain ⟨x, ex, hx⟩ := fd_ok (c := c + 2) h5 e2 (by omega) (by rw [esc]; exact ⟨hSz.2.2.2, hSz.2.2.1⟩)
            subst ex
            subst er
            have hi := hX9_itemsWithin (X := X) M s.toNatClampNeg x (c + 2) 0 20 hx
            rw [← e2] at hi
            refine ⟨vin_le hs.1 hs.2 (by decide), ?_⟩
            refine z_uR hi (by decide) ?_
            refine ⟨fun h6 => ?_, fun h6 => ?_⟩
            · have hiw : pu_iw (M.1 3 s.toNatClampNeg) 0 20 x (c + 2) = true := by
                cases hv : pu_iw (M.1 3 s.toNatClampNeg) 0 20 x (c + 2) with
                | true => rfl
                | false => rw [hv] at h6; exact absurd rfl h6
              refine ⟨vin_le hs.1 hs.2 (by decide), ?_⟩
              refine z_use (hX9_bestHour M nm nr nb r s.toNatClampNeg x c hW hr hx wh) (by decide) (fun v M1 g => ?_)
              refine z_uW (hX9_foundNothing M1 v) (by decide) ?_
              refine Or.inr (Or.inr ⟨hs, hwh, h5, r, x, c, hr, rfl, rfl, hc1, hc24, rfl, hx, Or.inr ⟨hiw, g.2, (g.1.mono (by decide)).s (by decide), ?_⟩⟩)
              rw [z_gs, if_pos ⟨rfl, rfl, rfl⟩]
            · have hiw : pu_iw (M.1 3 s.toNatClampNeg) 0 20 x (c + 2) = false := by
                cases hv : pu_iw (M.1 3 s.toNatClampNeg) 0 20 x (c + 2) with
                | false => rfl
                | true => rw [hv] at h6; exact absurd h6 (by decide)
              exact Or.inr (Or.inr ⟨hs, hwh, h5, r, x, c, hr, rfl, rfl, hc1, hc24, rfl, hx, Or.inl ⟨hiw, rfl, rfl⟩⟩)
          · refine z_uW (hX9_found M (z_fd M s i (n + 2))) (by decide) ?_
            exact Or.inr (Or.inl ⟨hru, hs, hn, hwh, h5, rfl, rfl⟩)
        · exact Or.inl ⟨fun w => absurd w.2.2.2 (by grind), rfl, rfl⟩
    · exact Or.inl ⟨fun w => absurd w.2.1 (by grind), rfl, rfl⟩
