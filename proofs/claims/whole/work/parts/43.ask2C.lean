/-! ===== the class: ask ===== -/
/-- a step's numbers: seconds, mile, pace wanted, what is left -/
def pu_size (k se mi pa le : Int32) : Int32 := if k = 1 then se - le else if k = 2 then se + (mi + pa) else if k = 3 then se - le - 1 else if k = 4 then 2 * (se + (mi + pa)) else se + (mi + pa + 100)
def pu_sizeT (k : Int32) : List Int32 := if k = 1 then [13, 10] else if k = 2 then [11, 10, 21, 20] else if k = 3 then [14, 13, 10] else if k = 4 then [12, 11, 10, 21, 20] else [11, 10, 22, 21, 20]
def pu_mark (k se mi pa le : Int32) : Int32 := if k = 1 then mi + (se - le) else if k = 2 then mi + pa else if k = 3 then -(mi + (se - le - 1)) else if k = 4 then mi + pa else mi + pa + 100
def pu_markT (k : Int32) : List Int32 := if k = 1 then [23, 20, 13, 10] else if k = 2 then [21, 20] else if k = 3 then [24, 23, 20, 14, 13, 10] else if k = 4 then [21, 20] else [22, 21, 20]
theorem hX8_size {X : z_Cx} (M : z_M) (hT : z_Tc M []) (hk : M.1 44 0 2 = 1 ∨ M.1 44 0 2 = 2 ∨ M.1 44 0 2 = 3 ∨ M.1 44 0 2 = 4 ∨ M.1 44 0 2 = 5) : z_Con X 6 mX8_size [zr 44 0] M (fun v M' => v = pu_size (M.1 44 0 2) (M.1 44 0 4) (M.1 44 0 3) (M.1 44 0 5) (M.1 44 0 6) ∧ z_Tc M' (pu_sizeT (M.1 44 0 2)) ∧ z_Fx M M') := by
  have h06 : 0 ≤ M.1 44 0 2 ∧ M.1 44 0 2 ≤ 5 := by rcases hk with e | e | e | e | e <;> rw [e] <;> decide
  refine z_mg (KX8_size (X := X)) [] 60 (by decide +kernel) rfl ?_
  refine z_uR (hX9_withinI (M.1 44 0 2) 0 5 M h06) (by decide) ?_
  refine ⟨fun w => absurd w (by decide), fun _ => ?_⟩
  refine ⟨vin_le (n := 6) h06.1 h06.2 (by decide), ?_⟩
  rcases hk with e | e | e | e | e <;> rw [e]
  · refine z_use (a13 M [] 0 (by decide) hT trivial (by decide) (by decide)) (by decide) (fun v M1 h1 => ?_)
    exact ⟨h1.1, h1.2.1, h1.2.2⟩
  · refine z_use (a11_2 M [] 0 (by decide) hT e (by decide) (by decide)) (by decide) (fun v M1 h1 => ?_)
    exact ⟨h1.1, h1.2.1, h1.2.2⟩
  · refine z_use (a14 M [] 0 (by decide) hT trivial (by decide) (by decide)) (by decide) (fun v M1 h1 => ?_)
    exact ⟨h1.1, h1.2.1, h1.2.2⟩
  · refine z_use (a12 M [] 0 (by decide) hT e (by decide) (by decide)) (by decide) (fun v M1 h1 => ?_)
    exact ⟨h1.1, h1.2.1, h1.2.2⟩
  · refine z_use (a11_5 M [] 0 (by decide) hT e (by decide) (by decide)) (by decide) (fun v M1 h1 => ?_)
    exact ⟨h1.1, h1.2.1, h1.2.2⟩
theorem hX8_mark {X : z_Cx} (M : z_M) (hT : z_Tc M []) (hk : M.1 44 0 2 = 1 ∨ M.1 44 0 2 = 2 ∨ M.1 44 0 2 = 3 ∨ M.1 44 0 2 = 4 ∨ M.1 44 0 2 = 5) : z_Con X 6 mX8_mark [zr 44 0] M (fun v M' => v = pu_mark (M.1 44 0 2) (M.1 44 0 4) (M.1 44 0 3) (M.1 44 0 5) (M.1 44 0 6) ∧ z_Tc M' (pu_markT (M.1 44 0 2)) ∧ z_Fx M M') := by
  have h06 : 0 ≤ M.1 44 0 2 ∧ M.1 44 0 2 ≤ 5 := by rcases hk with e | e | e | e | e <;> rw [e] <;> decide
  refine z_mg (KX8_mark (X := X)) [] 60 (by decide +kernel) rfl ?_
  refine z_uR (hX9_withinI (M.1 44 0 2) 0 5 M h06) (by decide) ?_
  refine ⟨fun w => absurd w (by decide), fun _ => ?_⟩
  refine ⟨vin_le (n := 6) h06.1 h06.2 (by decide), ?_⟩
  rcases hk with e | e | e | e | e <;> rw [e]
  · refine z_use (a23_1 M [] 0 (by decide) hT e (by decide) (by decide)) (by decide) (fun v M1 h1 => ?_)
    exact ⟨h1.1, h1.2.1, h1.2.2⟩
  · refine z_use (a21 M [] 0 (by decide) hT trivial (by decide) (by decide)) (by decide) (fun v M1 h1 => ?_)
    exact ⟨h1.1, h1.2.1, h1.2.2⟩
  · refine z_use (a24 M [] 0 (by decide) hT e (by decide) (by decide)) (by decide) (fun v M1 h1 => ?_)
    exact ⟨h1.1, h1.2.1, h1.2.2⟩
  · refine z_use (a21 M [] 0 (by decide) hT trivial (by decide) (by decide)) (by decide) (fun v M1 h1 => ?_)
    exact ⟨h1.1, h1.2.1, h1.2.2⟩
  · refine z_use (a22 M [] 0 (by decide) hT trivial (by decide) (by decide)) (by decide) (fun v M1 h1 => ?_)
    exact ⟨h1.1, h1.2.1, h1.2.2⟩
/-- a step taken: the memory behind it -/
def z_tA (M : z_M) (r m : Nat) : z_M := z_s (z_s (z_s (z_s (z_s (z_s M 44 0 1 0) 44 0 2 (pu_kind (M.1 23) r m)) 44 0 3 (nI m)) 44 0 4 (M.1 23 0 (12 * r + m))) 44 0 5 (M.1 23 1 (12 * r + m))) 44 0 6 (M.1 23 2 (12 * r + m))
theorem hX8_take {X : z_Cx} (M : z_M) (r m : Nat) (hr : r < 4) (hm : m < 12) : z_Con X 2 mX8_take [zr 44 0, zr 21 0, zi (nI r), zi (nI m)] M (fun _ M' => M' = z_tA M r m) := by
  refine z_mg KX8_take [] 80 (by decide +kernel) rfl ?_
  refine z_uR (hX6_kindOf _ r m hr hm) (by decide) ?_
  refine z_uR (hX6_told _ 0 r m (by omega) hr hm) (by decide) ?_
  refine z_uR (hX6_told _ 1 r m (by omega) hr hm) (by decide) ?_
  refine z_uR (hX6_told _ 2 r m (by omega) hr hm) (by decide) ?_
  exact rfl
theorem hX9_ask {X : z_Cx} (M : z_M) (nm nr nb : Nat) (hW : z_Wc M nm nr nb) (ru mi wh : Int32) : z_Con X 7 mX9_ask [zr 0 0, zi ru, zi mi, zi wh] M (fun v M' => (¬ (pu_ru nr ru ∧ pu_ru nm mi ∧ 0 ≤ wh ∧ wh ≤ 1) ∧ v = -1000001 ∧ M' = M) ∨ (pu_ru nr ru ∧ pu_ru nm mi ∧ (0 ≤ wh ∧ wh ≤ 1) ∧ M.1 21 0 3 = 0 ∧ v = -1000002 ∧ M' = M) ∨ (¬ M.1 21 0 3 = 0 ∧ (0 ≤ wh ∧ wh ≤ 1) ∧ ∃ r m, r < nr ∧ ru = nI r ∧ m < nm ∧ mi = nI m ∧ z_Fr [44, 45] M M' ∧ v = (if wh = 0 then pu_size else pu_mark) (pu_kind (M.1 23) r m) (M.1 23 0 (12 * r + m)) (nI m) (M.1 23 1 (12 * r + m)) (M.1 23 2 (12 * r + m)) ∧ z_Tc M' ((if wh = 0 then pu_sizeT else pu_markT) (pu_kind (M.1 23) r m)))) := by
  have w4 := hW.2.2.2.1
  have w5 := hW.2.2.2.2.1
  refine z_mg KX9_ask [] 80 (by decide +kernel) rfl ?_
  refine z_uR (hX2_hasRunner M 0 ru) (by decide) ?_
  refine ⟨fun h => ?_, fun h => ?_⟩ <;> rw [hW.2.1] at h
  · exact Or.inl ⟨fun w => absurd w.1 (by unfold pu_ru; grind), rfl, rfl⟩
  · have hru : pu_ru nr ru := by unfold pu_ru; grind
    obtain ⟨r, hr, er⟩ := ru_of (by omega) hru
    refine z_uR (hX2_hasMile M 0 mi) (by decide) ?_
    refine ⟨fun h2 => ?_, fun h2 => ?_⟩ <;> rw [hW.1] at h2
    · exact Or.inl ⟨fun w => absurd w.2.1 (by unfold pu_ru; grind), rfl, rfl⟩
    · have hmi : pu_ru nm mi := by unfold pu_ru; grind
      obtain ⟨m, hm, em⟩ := ru_of (by omega) hmi
      refine z_uR (hX9_within wh 0 1 M) (by decide) ?_
      refine ⟨fun h4 => ?_, fun h4 => ?_⟩
      · have hwh : 0 ≤ wh ∧ wh ≤ 1 := by grind
        refine ⟨fun h3 => ?_, fun h3 => ?_⟩
        · subst er
          subst em
          refine z_uV (hX8_take M r m (by omega) (by omega)) (by decide) (fun _ => ?_)
          have hT : z_Tc (z_tA M r m) [] := ⟨by decide, rfl, fun j hj => absurd hj (Nat.not_lt_zero j)⟩
          have hF : z_Fr [44, 45] M (z_tA M r m) := (((((z_Fr.refl.s (by decide)).s (by decide)).s (by decide)).s (by decide)).s (by decide)).s (by decide)
          have hK := kind_in (M.1 23) r m
          have fr : ∀ M', z_Fx (z_tA M r m) M' → z_Fr [44, 45] M M' := fun M' hx => ⟨hx.1.trans hF.1, fun k hk => (hx.2.1 k (fun w => hk (by rw [w]; decide)) (fun w => hk (by rw [w]; decide))).trans (hF.2 k hk)⟩
          refine ⟨fun h5 => ?_, fun h5 => ?_⟩
          · refine z_use (hX8_mark (z_tA M r m) hT hK) (by decide) (fun v M2 g => ?_)
            refine Or.inr (Or.inr ⟨h3, hwh, r, m, hr, rfl, hm, rfl, fr M2 g.2.2, ?_, ?_⟩)
            · rw [if_neg h5]; exact g.1
            · rw [if_neg h5]; exact g.2.1
          · refine z_use (hX8_size (z_tA M r m) hT hK) (by decide) (fun v M2 g => ?_)
            refine Or.inr (Or.inr ⟨h3, hwh, r, m, hr, rfl, hm, rfl, fr M2 g.2.2, ?_, ?_⟩)
            · rw [if_pos h5]; exact g.1
            · rw [if_pos h5]; exact g.2.1
        · exact Or.inr (Or.inl ⟨hru, hmi, hwh, h3, rfl, rfl⟩)
      · exact Or.inl ⟨fun w => absurd w.2.2 (by grind), rfl, rfl⟩
