/-! ===== the class: ran, place, as, ask ===== -/
theorem hX9_withinI {X : z_Cx} (v lo hi : Int32) (M : z_M) (h : lo ≤ v ∧ v ≤ hi) : z_Con X 0 mX9_within [zi v, zi lo, zi hi] M (fun r M' => M' = M ∧ r = 1) := by
  have h1 := hX9_within (X := X) v lo hi M
  rw [if_pos h] at h1
  exact h1
/-- the nearest kind that a kind is, too -/
def pu_ne (a : Int32) : Int32 := if a = 3 then 1 else if a = 4 ∨ a = 5 then 2 else 0
theorem z_six {a : Int32} (h : 0 ≤ a ∧ a ≤ 5) : a = 0 ∨ a = 1 ∨ a = 2 ∨ a = 3 ∨ a = 4 ∨ a = 5 := by
  obtain ⟨j, hj, e⟩ := nI_of2 (x := a) (M := 5) (n := 5) (by decide) (Int32.not_lt.mpr h.1) h.2
  subst e
  rcases (show j = 0 ∨ j = 1 ∨ j = 2 ∨ j = 3 ∨ j = 4 ∨ j = 5 by omega) with e | e | e | e | e | e <;> subst e
  · exact Or.inl rfl
  · exact Or.inr (Or.inl rfl)
  · exact Or.inr (Or.inr (Or.inl rfl))
  · exact Or.inr (Or.inr (Or.inr (Or.inl rfl)))
  · exact Or.inr (Or.inr (Or.inr (Or.inr (Or.inl rfl))))
  · exact Or.inr (Or.inr (Or.inr (Or.inr (Or.inr rfl))))
theorem z_nev {X : z_Cx} {a : Int32} (h : 0 ≤ a ∧ a ≤ 5) : z_sv X 1 a.toNatClampNeg = pu_ne a ∧ (0 ≤ pu_ne a ∧ pu_ne a ≤ 5) := by
  rcases z_six h with e | e | e | e | e | e <;> subst e <;> exact ⟨rfl, by decide⟩
def pu_is (kind : Int32) : Nat → Int32 → Int32
  | 0, a => if a = kind then 1 else 0
  | u + 1, a => if a = kind then 1 else pu_is kind u (pu_ne a)
theorem lX8_isOne {X : z_Cx} (M : z_M) (told kind : Int32) : ∀ (u t : Nat) (a : Int32), t + u = 3 → (0 ≤ a ∧ a ≤ 5) → z_Run X 1 mX8_isOne (fun r M' => M' = M ∧ r = pu_is kind u a) 4 [(0, zi told), (1, zi kind), (2, zi a), (3, zi (nI t))] [] M := by
  intro u
  induction u with
  | zero =>
    intro t a ht ha
    have e : t = 3 := by omega
    subst e
    refine z_go_run (KX8_isOne (X := X)) [(4, [0, 1, 2, 3])] 60 ?_
    refine ⟨fun _ => ?_, fun w => absurd (by decide) w⟩
    refine ⟨fun h => ?_, fun h => ?_⟩
    · exact ⟨Or.inl rfl, rfl, (if_neg h).symm⟩
    · exact ⟨Or.inr rfl, rfl, (if_pos h).symm⟩
  | succ u ih =>
    intro t a ht ha
    refine z_go_run (KX8_isOne (X := X)) [(4, [0, 1, 2, 3])] 60 ?_
    refine ⟨fun w => absurd w (nI_ge (a := t) (b := 3) (by omega) (by omega)), fun _ => ?_⟩
    refine ⟨fun h => ?_, fun h => ?_⟩
    · refine ⟨fun w => absurd h w, fun _ => ?_⟩
      exact ⟨Or.inr rfl, rfl, (if_pos h).symm⟩
    · refine z_uR (hX9_withinI a 0 5 M ha) (by decide) ?_
      refine ⟨fun w => absurd w (by decide), fun _ => ?_⟩
      refine ⟨vin_le (n := 6) ha.1 ha.2 (by decide), ?_⟩
      have hn := z_nev (X := X) ha
      have h1 := ih (t + 1) (pu_ne a) (by omega) hn.2
      rw [← nI_1 t, ← hn.1] at h1
      have e : pu_is kind (u + 1) a = pu_is kind u (z_sv X 1 a.toNatClampNeg) := by
        rw [hn.1]
        exact if_neg h
      rw [e]
      exact h1
theorem hX8_isOne {X : z_Cx} (M : z_M) (told kind : Int32) (h : 0 ≤ told ∧ told ≤ 5) : z_Con X 1 mX8_isOne [zi told, zi kind] M (fun r M' => M' = M ∧ r = pu_is kind 3 told) := by
  refine z_mg (KX8_isOne (X := X)) [(4, [0, 1, 2, 3])] 60 (by decide +kernel) rfl ?_
  exact lX8_isOne M told kind 3 0 told rfl h
theorem kind_in (f : Nat → Nat → Int32) (r m : Nat) : pu_kind f r m = 1 ∨ pu_kind f r m = 2 ∨ pu_kind f r m = 3 ∨ pu_kind f r m = 4 ∨ pu_kind f r m = 5 := by
  unfold pu_kind
  split
  · split
    · exact Or.inr (Or.inr (Or.inl rfl))
    · exact Or.inl rfl
  · split
    · exact Or.inr (Or.inr (Or.inr (Or.inl rfl)))
    · split
      · exact Or.inr (Or.inr (Or.inr (Or.inr rfl)))
      · exact Or.inr (Or.inl rfl)
theorem kind_06 (f : Nat → Nat → Int32) (r m : Nat) : 0 ≤ pu_kind f r m ∧ pu_kind f r m ≤ 5 := by
  rcases kind_in f r m with e | e | e | e | e <;> rw [e] <;> decide
theorem hX9_ran {X : z_Cx} (M : z_M) (nm nr nb : Nat) (hW : z_Wc M nm nr nb) (ru mi wh : Int32) : z_Con X 2 mX9_ran [zr 0 0, zi ru, zi mi, zi wh] M (fun v M' => M' = M ∧ ((¬ (pu_ru nr ru ∧ pu_ru nm mi ∧ 0 ≤ wh ∧ wh ≤ 5) ∧ v = -1000001) ∨ (pu_ru nr ru ∧ pu_ru nm mi ∧ (0 ≤ wh ∧ wh ≤ 5) ∧ M.1 21 0 3 = 0 ∧ v = -1000002) ∨ (¬ M.1 21 0 3 = 0 ∧ ∃ r m w, r < nr ∧ ru = nI r ∧ m < nm ∧ mi = nI m ∧ w ≤ 5 ∧ wh = nI w ∧ v = M.1 23 w (12 * r + m)))) := by
  have w4 := hW.2.2.2.1
  have w5 := hW.2.2.2.2.1
  refine z_mg KX9_ran [] 80 (by decide +kernel) rfl ?_
  refine z_uR (hX2_hasRunner M 0 ru) (by decide) ?_
  refine ⟨fun h => ?_, fun h => ?_⟩ <;> rw [hW.2.1] at h
  · exact ⟨rfl, Or.inl ⟨fun w => absurd w.1 (by unfold pu_ru; grind), rfl⟩⟩
  · have hru : pu_ru nr ru := by unfold pu_ru; grind
    obtain ⟨r, hr, er⟩ := ru_of (by omega) hru
    refine z_uR (hX2_hasMile M 0 mi) (by decide) ?_
    refine ⟨fun h2 => ?_, fun h2 => ?_⟩ <;> rw [hW.1] at h2
    · exact ⟨rfl, Or.inl ⟨fun w => absurd w.2.1 (by unfold pu_ru; grind), rfl⟩⟩
    · have hmi : pu_ru nm mi := by unfold pu_ru; grind
      obtain ⟨m, hm, em⟩ := ru_of (by omega) hmi
      refine z_uR (hX9_within wh 0 5 M) (by decide) ?_
      refine ⟨fun h4 => ?_, fun h4 => ?_⟩
      · have hwh : 0 ≤ wh ∧ wh ≤ 5 := by grind
        obtain ⟨w, hw, ew⟩ := nI_of2 (x := wh) (M := 5) (n := 5) (by decide) (Int32.not_lt.mpr hwh.1) hwh.2
        refine ⟨fun h3 => ?_, fun h3 => ?_⟩
        · exact ⟨rfl, Or.inr (Or.inl ⟨hru, hmi, hwh, h3, rfl⟩)⟩
        · subst er
          subst em
          subst ew
          refine z_uR (hX6_told M w r m (by omega) (by omega) (by omega)) (by decide) ?_
          exact ⟨rfl, Or.inr (Or.inr ⟨h3, r, m, w, hr, rfl, hm, rfl, hw, rfl, rfl⟩)⟩
      · exact ⟨rfl, Or.inl ⟨fun w => absurd w.2.2 (by grind), rfl⟩⟩
theorem hX9_place {X : z_Cx} (M : z_M) (nm nr nb : Nat) (hW : z_Wc M nm nr nb) (ru : Int32) : z_Con X 2 mX9_place [zr 0 0, zi ru] M (fun v M' => M' = M ∧ ((¬ pu_ru nr ru ∧ v = -1000001) ∨ (pu_ru nr ru ∧ M.1 21 0 3 = 0 ∧ v = -1000002) ∨ (¬ M.1 21 0 3 = 0 ∧ ∃ r, r < nr ∧ ru = nI r ∧ v = M.1 24 0 r))) := by
  have w5 := hW.2.2.2.2.1
  refine z_mg KX9_place [] 80 (by decide +kernel) rfl ?_
  refine z_uR (hX2_hasRunner M 0 ru) (by decide) ?_
  refine ⟨fun h => ?_, fun h => ?_⟩ <;> rw [hW.2.1] at h
  · have hru : pu_ru nr ru := by unfold pu_ru; grind
    obtain ⟨r, hr, er⟩ := ru_of (by omega) hru
    refine ⟨fun h3 => ?_, fun h3 => ?_⟩
    · exact ⟨rfl, Or.inr (Or.inl ⟨hru, h3, rfl⟩)⟩
    · subst er
      refine ⟨vp_in_nI (by omega) (by omega), rfl, Or.inr (Or.inr ⟨h3, r, hr, rfl, ?_⟩)⟩
      rw [nI_clamp (n := r) (by omega)]
  · exact ⟨rfl, Or.inl ⟨fun w => absurd w (by unfold pu_ru; grind), rfl⟩⟩
theorem hX9_as {X : z_Cx} (M : z_M) (nm nr nb : Nat) (hW : z_Wc M nm nr nb) (ru mi kd : Int32) : z_Con X 2 mX9_as [zr 0 0, zi ru, zi mi, zi kd] M (fun v M' => (¬ (pu_ru nr ru ∧ pu_ru nm mi ∧ 0 ≤ kd ∧ kd ≤ 5) ∧ v = -1000001 ∧ M' = M) ∨ (pu_ru nr ru ∧ pu_ru nm mi ∧ (0 ≤ kd ∧ kd ≤ 5) ∧ M.1 21 0 3 = 0 ∧ v = -1000002 ∧ M' = M) ∨ (¬ M.1 21 0 3 = 0 ∧ (0 ≤ kd ∧ kd ≤ 5) ∧ ∃ r m, r < nr ∧ ru = nI r ∧ m < nm ∧ mi = nI m ∧ ((pu_is kd 3 (pu_kind (M.1 23) r m) = 0 ∧ v = -1000013 ∧ M' = z_s M 0 0 10 3) ∨ (¬ pu_is kd 3 (pu_kind (M.1 23) r m) = 0 ∧ v = M.1 23 0 (12 * r + m) ∧ M' = z_s M 0 0 10 0)))) := by
  have w4 := hW.2.2.2.1
  have w5 := hW.2.2.2.2.1
  refine z_mg KX9_as [] 80 (by decide +kernel) rfl ?_
  refine z_uR (hX2_hasRunner M 0 ru) (by decide) ?_
  refine ⟨fun h => ?_, fun h => ?_⟩ <;> rw [hW.2.1] at h
  · exact Or.inl ⟨fun w => absurd w.1 (by unfold pu_ru; grind), rfl, rfl⟩
  · have hru : pu_ru nr ru := by unfold pu_ru; grind
    obtain ⟨r, hr, er⟩ := ru_of (by omega) hru
    refine z_uR (hX2_hasMile M 0 mi) (by decide) ?_
    refine ⟨fun h2 => ?_, fun h2 => ?_⟩ <;> rw [hW.1] at h2
    · exact Or.inl ⟨fun w => absurd w.2.1 (by unfold pu_ru; grind), rfl, rfl⟩
    · have hmi : pu_ru nm mi := by unfold pu_ru; grind
      obtain ⟨m, hm, em⟩ := ru_of (by omega) hmi
      refine z_uR (hX9_within kd 0 5 M) (by decide) ?_
      refine ⟨fun h4 => ?_, fun h4 => ?_⟩
      · have hkd : 0 ≤ kd ∧ kd ≤ 5 := by grind
        refine ⟨fun h3 => ?_, fun h3 => ?_⟩
        · subst er
          subst em
          refine z_uR (hX6_kindOf M r m (by omega) (by omega)) (by decide) ?_
          refine z_uR (hX8_isOne M (pu_kind (M.1 23) r m) kd (kind_06 _ r m)) (by decide) ?_
          refine ⟨fun h5 => ?_, fun h5 => ?_⟩
          · refine z_uR (hX6_told M 0 r m (by omega) (by omega) (by omega)) (by decide) ?_
            refine z_uW (hX9_foundNothing M _) (by decide) ?_
            exact Or.inr (Or.inr ⟨h3, hkd, r, m, hr, rfl, hm, rfl, Or.inr ⟨h5, rfl, rfl⟩⟩)
          · refine z_uW (hX9_found M 3) (by decide) ?_
            exact Or.inr (Or.inr ⟨h3, hkd, r, m, hr, rfl, hm, rfl, Or.inl ⟨h5, rfl, rfl⟩⟩)
        · exact Or.inr (Or.inl ⟨hru, hmi, hkd, h3, rfl, rfl⟩)
      · exact Or.inl ⟨fun w => absurd w.2.2 (by grind), rfl, rfl⟩
