/-! ===== the model: what a race was ===== -/
/-- places: by time, of like ones by numbers -/
def pu_rank (T : Nat → Int32) (nr r : Nat) : Int32 := pu_sum (fun o => if T o < T r ∨ (T o = T r ∧ o < r) then 1 else 0) nr
/-- a row N of the model has the race of these rows and places -/
def z_RR (V : Nat → Nat → Int32) (nm nr : Nat) (rows : Nat → Nat → Int32) (pl : Nat → Int32) (N : Nat → Int32) : Prop :=
  (∀ r, r < nr → ∀ m, m < nm → (∀ w, w < 6 → N (191 + 72 * r + 6 * m + w) = rows w (12 * r + m)) ∧ rows 6 (12 * r + m) = (if V 3 r < pu_need V 0 m (rows 1 (12 * r + m)) (rows 3 (12 * r + m)) then 1 else 0) ∧ (rows 3 (12 * r + m) = 0 ∨ rows 3 (12 * r + m) = 1)) ∧
  ∀ r, r < nr → pl r = pu_rank (fun o => rows 5 (12 * o + (nm - 1))) nr r
/-- the same, if there was a race -/
def z_Rf (V : Nat → Nat → Int32) (nm nr : Nat) (fl : Int32) (rows : Nat → Nat → Int32) (pl : Nat → Int32) (N : Nat → Int32) : Prop := N 190 = fl ∧ (fl = 0 ∨ fl = 1) ∧ (¬ fl = 0 → z_RR V nm nr rows pl N)
theorem ixa (r m w : Nat) : 191 + 72 * nI r + 6 * nI m + nI w = nI (191 + 72 * r + 6 * m + w) := by
  show nI 191 + nI 72 * nI r + nI 6 * nI m + nI w = _
  rw [pk_mul, pk_mul, nI_add, nI_add, nI_add]
theorem hX10_ranOf {X : z_Cx} (M : z_M) (r m w : Nat) (hr : r < 4) (hm : m < 12) (hw : w < 6) : z_Con X 0 mX10_ranOf [zr 46 0, zi (nI r), zi (nI m), zi (nI w)] M (fun v M' => M' = M ∧ v = z_nw M (191 + 72 * r + 6 * m + w)) := by
  refine z_mg KX10_ranOf [] 40 (by decide +kernel) rfl ?_
  refine ⟨by rw [ixa]; exact vp_in_nI (by omega) (by omega), rfl, ?_⟩
  rw [ixa, nI_clamp (by omega)]
theorem hX10_ranR {X : z_Cx} (M : z_M) {V : Nat → Nat → Int32} {nm nr nb : Nat} (hN : z_CR V nm nr nb (z_nw M)) {rows : Nat → Nat → Int32} {pl : Nat → Int32} (hR : z_RR V nm nr rows pl (z_nw M)) (r m w : Nat) (hr : r < nr) (hm : m < nm) (hw : w < 6) : z_Con X 0 mX10_ranOf [zr 46 0, zi (nI r), zi (nI m), zi (nI w)] M (fun v M' => M' = M ∧ v = rows w (12 * r + m)) :=
  (hX10_ranOf M r m w (by have := hN.1.2.1; omega) (by have := hN.1.1; omega) hw).to ((hR.1 r hr m hm).1 w hw)
theorem hX10_ran {X : z_Cx} (M : z_M) {V : Nat → Nat → Int32} {nm nr nb : Nat} (hN : z_CR V nm nr nb (z_nw M)) {fl : Int32} {rows : Nat → Nat → Int32} {pl : Nat → Int32} (hR : z_Rf V nm nr fl rows pl (z_nw M)) (ru mi wh : Int32) : z_Con X 2 mX10_ran [zr 46 0, zi ru, zi mi, zi wh] M (fun v M' => M' = M ∧ ((¬ (pu_ru nr ru ∧ pu_ru nm mi ∧ 0 ≤ wh ∧ wh ≤ 5) ∧ v = -1000001) ∨ (pu_ru nr ru ∧ pu_ru nm mi ∧ (0 ≤ wh ∧ wh ≤ 5) ∧ fl = 0 ∧ v = -1000002) ∨ (¬ fl = 0 ∧ ∃ r m w, r < nr ∧ ru = nI r ∧ m < nm ∧ mi = nI m ∧ w ≤ 5 ∧ wh = nI w ∧ v = rows w (12 * r + m)))) := by
  have h12 := hN.1.1
  have h4 := hN.1.2.1
  have efl : M.1 47 (M.2.2 46 0).toNat 190 = fl := hR.1
  refine z_mg KX10_ran [] 60 (by decide +kernel) rfl ?_
  refine z_uR (hX10_isRunner M hN ru) (by decide) ?_
  refine ⟨fun h => ⟨rfl, Or.inl ⟨fun w => absurd w.1 (by unfold pu_ru; grind), rfl⟩⟩, fun h => ?_⟩
  have hru : pu_ru nr ru := by unfold pu_ru; grind
  refine z_uR (hX10_isMile M hN mi) (by decide) ?_
  refine ⟨fun h => ⟨rfl, Or.inl ⟨fun w => absurd w.2.1 (by unfold pu_ru; grind), rfl⟩⟩, fun h2 => ?_⟩
  have hmi : pu_ru nm mi := by unfold pu_ru; grind
  refine z_uR (hX10_inI M wh 0 5 (by decide) (by decide)) (by decide) ?_
  refine ⟨fun h3 => ?_, fun h3 => ⟨rfl, Or.inl ⟨fun w => absurd w.2.2 (by grind), rfl⟩⟩⟩
  have hwh : 0 ≤ wh ∧ wh ≤ 5 := by grind
  obtain ⟨r, hr, er⟩ := ru_of (by omega) hru
  obtain ⟨m, hm, em⟩ := ru_of (by omega) hmi
  obtain ⟨w, hw, ew⟩ := nI_of2 (x := wh) (M := 5) (n := 5) (by decide) (Int32.not_lt.mpr hwh.1) hwh.2
  subst er em ew
  refine ⟨vin (by decide) (by decide), ?_⟩
  refine ⟨fun h5 => ?_, fun h5 => ?_⟩
  · refine ⟨rfl, Or.inr (Or.inl ⟨hru, hmi, hwh, ?_, rfl⟩)⟩
    exact hR.2.1.resolve_right (fun w => h5 (efl.trans w))
  · have h6 : ¬ fl = 0 := by
      rw [← efl]
      intro w
      rw [show M.1 47 (M.2.2 46 0).toNat (190 : Int32).toNatClampNeg = M.1 47 (M.2.2 46 0).toNat 190 from rfl, w] at h5
      exact absurd h5 (by decide)
    refine z_uR (hX10_ranR M hN (hR.2.2 h6) r m w hr hm (by omega)) (by decide) ?_
    exact ⟨rfl, Or.inr (Or.inr ⟨h6, r, m, w, hr, rfl, hm, rfl, hw, rfl, rfl⟩)⟩
theorem lX10_place {X : z_Cx} (M : z_M) {V : Nat → Nat → Int32} {nm nr nb : Nat} (hN : z_CR V nm nr nb (z_nw M)) {rows : Nat → Nat → Int32} {pl : Nat → Int32} (hR : z_RR V nm nr rows pl (z_nw M)) (r : Nat) (hr : r < nr) (h1 : 1 ≤ nm) : ∀ (u t : Nat), t + u = nr → z_Run X 2 mX10_place (fun v M' => M' = M ∧ v = pl r) 43 [(0, zr 46 0), (1, zi (nI r)), (2, zi (rows 5 (12 * r + (nm - 1)))), (3, zi (pu_rank (fun o => rows 5 (12 * o + (nm - 1))) t r)), (4, zi (nI t))] [] M := by
  have h12 := hN.1.1
  have h4 := hN.1.2.1
  have em : nI nm - 1 = nI (nm - 1) := pk_sub (b := 1) h1
  intro u
  induction u with
  | zero =>
    intro t ht
    have e : t = nr := by omega
    subst e
    refine z_go_run KX10_place [(43, [0, 1, 2, 3, 4])] 60 ?_
    refine z_uR (hX10_runners M hN) (by decide) ?_
    exact ⟨fun h => ⟨rfl, (hR.2 r hr).symm⟩, fun h => absurd (Int32.le_refl _) h⟩
  | succ u ih =>
    intro t ht
    have nx : ∀ x : Int32, x = pu_rank (fun o => rows 5 (12 * o + (nm - 1))) (t + 1) r → z_Run X 2 mX10_place (fun v M' => M' = M ∧ v = pl r) 43 [(0, zr 46 0), (1, zi (nI r)), (2, zi (rows 5 (12 * r + (nm - 1)))), (3, zi x), (4, zi (nI t + 1))] [] M := by
      intro x hx
      rw [hx, nI_1]
      exact ih (t + 1) (by omega)
    have es : pu_rank (fun o => rows 5 (12 * o + (nm - 1))) (t + 1) r = pu_rank (fun o => rows 5 (12 * o + (nm - 1))) t r + (if rows 5 (12 * t + (nm - 1)) < rows 5 (12 * r + (nm - 1)) ∨ (rows 5 (12 * t + (nm - 1)) = rows 5 (12 * r + (nm - 1)) ∧ t < r) then 1 else 0) := rfl
    refine z_go_run KX10_place [(43, [0, 1, 2, 3, 4])] 60 ?_
    refine z_uR (hX10_runners M hN) (by decide) ?_
    refine ⟨fun h => absurd h (nI_ge (by omega) (by omega)), fun h => ?_⟩
    refine z_uR (hX10_miles M hN) (by decide) ?_
    have hc : z_Con X 0 mX10_ranOf [zr 46 0, zi (nI t), zi (nI nm - 1), zi (nI 5)] M (fun v M' => M' = M ∧ v = rows 5 (12 * t + (nm - 1))) := by
      rw [em]
      exact hX10_ranR M hN hR t (nm - 1) 5 (by omega) (by omega) (by decide)
    refine z_uR hc (by decide) ?_
    refine ⟨fun h2 => ?_, fun h2 => ?_⟩
    · exact nx _ (by rw [es, if_pos (Or.inl h2)])
    · refine ⟨fun h3 => ?_, fun h3 => ?_⟩
      · exact nx _ (by rw [es, if_neg (fun w => w.elim h2 (fun w => h3 w.1))])
      · refine ⟨fun h5 => ?_, fun h5 => ?_⟩
        · refine nx _ ?_
          rw [es, if_neg (fun w => w.elim h2 (fun w => absurd h5 (nI_ge w.2 (by omega))))]
        · refine nx _ ?_
          rw [es, if_pos (Or.inr ⟨h3, by
            rcases Nat.lt_or_ge t r with w | w
            · exact w
            · exact absurd (nI_le w (by omega)) h5⟩)]
theorem hX10_place {X : z_Cx} (M : z_M) {V : Nat → Nat → Int32} {nm nr nb : Nat} (hN : z_CR V nm nr nb (z_nw M)) {fl : Int32} {rows : Nat → Nat → Int32} {pl : Nat → Int32} (hR : z_Rf V nm nr fl rows pl (z_nw M)) (ru : Int32) : z_Con X 2 mX10_place [zr 46 0, zi ru] M (fun v M' => M' = M ∧ ((¬ pu_ru nr ru ∧ v = -1000001) ∨ (pu_ru nr ru ∧ fl = 0 ∧ v = -1000002) ∨ (¬ fl = 0 ∧ ∃ r, r < nr ∧ ru = nI r ∧ v = pl r))) := by
  have h12 := hN.1.1
  have h4 := hN.1.2.1
  have efl : M.1 47 (M.2.2 46 0).toNat 190 = fl := hR.1
  refine z_mg KX10_place [(43, [0, 1, 2, 3, 4])] 60 (by decide +kernel) rfl ?_
  refine z_uR (hX10_isRunner M hN ru) (by decide) ?_
  refine ⟨fun h => ?_, fun h => ⟨rfl, Or.inl ⟨by unfold pu_ru; grind, rfl⟩⟩⟩
  have hru : pu_ru nr ru := by unfold pu_ru; grind
  obtain ⟨r, hr, er⟩ := ru_of (by omega) hru
  subst er
  have h1 : 1 ≤ nm := hN.1.2.2.2.2.2.2.2 (by omega)
  have em : nI nm - 1 = nI (nm - 1) := pk_sub (b := 1) h1
  refine ⟨vin (by decide) (by decide), ?_⟩
  refine ⟨fun h5 => ?_, fun h5 => ?_⟩
  · have h6 : ¬ fl = 0 := fun w => h5 (efl.trans w)
    refine z_uR (hX10_miles M hN) (by decide) ?_
    have hc : z_Con X 0 mX10_ranOf [zr 46 0, zi (nI r), zi (nI nm - 1), zi (nI 5)] M (fun v M' => M' = M ∧ v = rows 5 (12 * r + (nm - 1))) := by
      rw [em]
      exact hX10_ranR M hN (hR.2.2 h6) r (nm - 1) 5 (by omega) (by omega) (by decide)
    refine z_uR hc (by decide) ?_
    refine z_Run.post (lX10_place (X := X) M hN (hR.2.2 h6) r hr h1 nr 0 (by omega)) ?_
    rintro v M' ⟨rfl, rfl⟩
    exact ⟨rfl, Or.inr (Or.inr ⟨h6, r, hr, rfl, rfl⟩)⟩
  · exact ⟨rfl, Or.inr (Or.inl ⟨hru, efl.symm.trans h5, rfl⟩)⟩
theorem hX10_isStep {X : z_Cx} (M : z_M) {V : Nat → Nat → Int32} {nm nr nb : Nat} (hN : z_CR V nm nr nb (z_nw M)) (ru mi : Int32) : z_Con X 2 mX10_isStep [zr 46 0, zi ru, zi mi] M (fun v M' => M' = M ∧ v = if (0 ≤ ru ∧ ru ≤ nI nr - 1) ∧ 0 ≤ mi ∧ mi ≤ nI nm - 1 then 1 else 0) := by
  refine z_mg KX10_isStep [] 60 (by decide +kernel) rfl ?_
  refine z_uR (hX10_isRunner M hN ru) (by decide) ?_
  refine ⟨fun h => ⟨Or.inl rfl, rfl, by grind⟩, fun h => ?_⟩
  refine z_uR (hX10_isMile M hN mi) (by decide) ?_
  refine ⟨fun h2 => ⟨Or.inl rfl, rfl, by grind⟩, fun h2 => ⟨Or.inr rfl, rfl, by grind⟩⟩
theorem hX10_kindOf {X : z_Cx} (M : z_M) {V : Nat → Nat → Int32} {nm nr nb : Nat} (hN : z_CR V nm nr nb (z_nw M)) (h0 : z_H0 M) {rows : Nat → Nat → Int32} {pl : Nat → Int32} (hR : z_RR V nm nr rows pl (z_nw M)) (r m : Nat) (hr : r < nr) (hm : m < nm) : z_Con X 1 mX10_kindOf [zr 46 0, zi (nI r), zi (nI m)] M (fun v M' => M' = M ∧ v = pu_kind rows r m) := by
  have h12 := hN.1.1
  have h4 := hN.1.2.1
  have e0 : z_hm M m = 0 := h0 (m / 4) (by omega)
  obtain ⟨_, e6, e3⟩ := hR.1 r hr m hm
  refine z_mg KX10_kindOf [(26, [0, 1, 2, 3, 4])] 80 (by decide +kernel) rfl ?_
  refine z_uR (hX10_ranR M hN hR r m 1 hr hm (by decide)) (by decide) ?_
  refine z_uR (hX10_ranR M hN hR r m 3 hr hm (by decide)) (by decide) ?_
  have go : z_Run X 1 mX10_kindOf (fun v M' => M' = M ∧ v = pu_kind rows r m) 26 [(0, zr 46 0), (1, zi (nI r)), (2, zi (nI m)), (3, zi (rows 1 (12 * r + m))), (4, zi (rows 3 (12 * r + m)))] [] M := by
    refine z_go_run KX10_kindOf [] 80 ?_
    refine z_uR (hX10_needOf M hN m hm _ _) (by decide) ?_
    rw [e0]
    refine z_uR (hX10_line0 M hN r hr) (by decide) ?_
    unfold pu_kind
    refine ⟨fun h => ?_, fun h => ?_⟩
    · have e6' : rows 6 (12 * r + m) = 1 := by rw [e6, if_pos h]
      rw [e6', if_neg (by decide)]
      refine z_uR (hX10_ranR M hN hR r m 4 hr hm (by decide)) (by decide) ?_
      refine ⟨fun h1 => ?_, fun h1 => ?_⟩
      · rw [if_neg h1]
        refine ⟨fun h2 => ?_, fun h2 => ?_⟩
        · rw [if_neg (fun w => absurd h2 (nI_nle w.1 (by omega)))]
          exact ⟨rfl, rfl⟩
        · have hm0 : 0 < m := by
            rcases Nat.eq_zero_or_pos m with w | w
            · subst w
              exact absurd (by decide) h2
            · exact w
          have em : nI m - 1 = nI (m - 1) := pk_sub (b := 1) hm0
          have hc : z_Con X 0 mX10_ranOf [zr 46 0, zi (nI r), zi (nI m - 1), zi (nI 1)] M (fun v M' => M' = M ∧ v = rows 1 (12 * r + (m - 1))) := by
            rw [em]
            exact hX10_ranR M hN hR r (m - 1) 1 hr (by omega) (by decide)
          refine z_uR hc (by decide) ?_
          refine ⟨fun h3 => ?_, fun h3 => ?_⟩
          · exact ⟨rfl, by rw [if_neg (fun w => absurd w.2 (Int32.not_lt.mpr h3))]⟩
          · exact ⟨rfl, by rw [if_pos ⟨hm0, Int32.not_le.mp h3⟩]⟩
      · exact ⟨rfl, by rw [if_pos h1]⟩
    · have e6' : rows 6 (12 * r + m) = 0 := by rw [e6, if_neg h]
      rw [e6', if_pos rfl]
      refine ⟨fun h1 => ?_, fun h1 => ?_⟩
      · rw [h1]
        exact ⟨rfl, rfl⟩
      · rw [e3.resolve_left h1]
        exact ⟨rfl, rfl⟩
  refine ⟨fun h => ?_, fun h => ?_⟩
  · rw [e3.resolve_right h] at go
    exact go
  · rw [show rows 3 (12 * r + m) = 1 from h] at go
    exact go
theorem hX10_kind {X : z_Cx} (M : z_M) {V : Nat → Nat → Int32} {nm nr nb : Nat} (hN : z_CR V nm nr nb (z_nw M)) (h0 : z_H0 M) {fl : Int32} {rows : Nat → Nat → Int32} {pl : Nat → Int32} (hR : z_Rf V nm nr fl rows pl (z_nw M)) (ru mi : Int32) : z_Con X 3 mX10_kind [zr 46 0, zi ru, zi mi] M (fun v M' => M' = M ∧ ((¬ (pu_ru nr ru ∧ pu_ru nm mi) ∧ v = -1000001) ∨ (pu_ru nr ru ∧ pu_ru nm mi ∧ fl = 0 ∧ v = -1000002) ∨ (¬ fl = 0 ∧ ∃ r m, r < nr ∧ ru = nI r ∧ m < nm ∧ mi = nI m ∧ v = pu_kind rows r m))) := by
  have h12 := hN.1.1
  have h4 := hN.1.2.1
  have efl : M.1 47 (M.2.2 46 0).toNat 190 = fl := hR.1
  refine z_mg KX10_kind [] 60 (by decide +kernel) rfl ?_
  refine z_uR (hX10_isStep M hN ru mi) (by decide) ?_
  refine ⟨fun h => ?_, fun h => ⟨rfl, Or.inl ⟨by unfold pu_ru; grind, rfl⟩⟩⟩
  have hh : (0 ≤ ru ∧ ru ≤ nI nr - 1) ∧ 0 ≤ mi ∧ mi ≤ nI nm - 1 := by grind
  obtain ⟨r, hr, er⟩ := ru_of (by omega) (show pu_ru nr ru from hh.1)
  obtain ⟨m, hm, em⟩ := ru_of (by omega) (show pu_ru nm mi from hh.2)
  subst er em
  refine ⟨vin (by decide) (by decide), ?_⟩
  refine ⟨fun h5 => ?_, fun h5 => ?_⟩
  · exact ⟨rfl, Or.inr (Or.inl ⟨hh.1, hh.2, hR.2.1.resolve_right (fun w => h5 (efl.trans w)), rfl⟩)⟩
  · have h6 : ¬ fl = 0 := by
      have h7 : M.1 47 (M.2.2 46 0).toNat 190 = 1 := h5
      rw [efl] at h7
      rw [h7]
      decide
    refine z_uR (hX10_kindOf M hN h0 (hR.2.2 h6) r m hr hm) (by decide) ?_
    exact ⟨rfl, Or.inr (Or.inr ⟨h6, r, m, hr, rfl, hm, rfl, rfl⟩)⟩
theorem hX10_isOf {X : z_Cx} (M : z_M) (k o : Int32) : z_Con X 0 mX10_isOf [zi k, zi o] M (fun v M' => M' = M ∧ v = if o = 0 ∨ o = k ∨ (o = 1 ∧ k = 3) ∨ (o = 2 ∧ (k = 4 ∨ k = 5)) then 1 else 0) := by
  refine z_mg KX10_isOf [] 60 (by decide +kernel) rfl ?_
  refine ⟨fun h => ⟨Or.inr rfl, rfl, by rw [if_pos (Or.inl h)]⟩, fun h => ?_⟩
  refine ⟨fun h1 => ⟨Or.inr rfl, rfl, by rw [if_pos (Or.inr (Or.inl h1))]⟩, fun h1 => ?_⟩
  refine ⟨fun h2 => ?_, fun h2 => ?_⟩
  · refine ⟨fun h3 => ⟨Or.inl rfl, rfl, by grind⟩, fun h3 => ?_⟩
    refine ⟨fun h5 => ⟨Or.inr rfl, rfl, by grind⟩, fun h5 => ?_⟩
    exact ⟨fun h6 => ⟨Or.inl rfl, rfl, by grind⟩, fun h6 => ⟨Or.inr rfl, rfl, by grind⟩⟩
  · refine ⟨fun h3 => ⟨Or.inr rfl, rfl, by grind⟩, fun h3 => ?_⟩
    refine ⟨fun h4 => ⟨Or.inl rfl, rfl, by grind⟩, fun h4 => ?_⟩
    refine ⟨fun h5 => ⟨Or.inr rfl, rfl, by grind⟩, fun h5 => ?_⟩
    exact ⟨fun h6 => ⟨Or.inl rfl, rfl, by grind⟩, fun h6 => ⟨Or.inr rfl, rfl, by grind⟩⟩
theorem is_of {k o : Int32} (hk : k = 1 ∨ k = 2 ∨ k = 3 ∨ k = 4 ∨ k = 5) (ho : 0 ≤ o ∧ o ≤ 5) : (if o = 0 ∨ o = k ∨ (o = 1 ∧ k = 3) ∨ (o = 2 ∧ (k = 4 ∨ k = 5)) then (1 : Int32) else 0) = pu_is o 3 k := by
  rcases hk with e | e | e | e | e <;> subst e <;> rcases z_six ho with e | e | e | e | e | e <;> subst e <;> decide
theorem hX10_as {X : z_Cx} (M : z_M) {V : Nat → Nat → Int32} {nm nr nb : Nat} (hN : z_CR V nm nr nb (z_nw M)) (h0 : z_H0 M) {fl : Int32} {rows : Nat → Nat → Int32} {pl : Nat → Int32} (hR : z_Rf V nm nr fl rows pl (z_nw M)) (ru mi kd : Int32) : z_Con X 3 mX10_as [zr 46 0, zi ru, zi mi, zi kd] M (fun v M' => (¬ (pu_ru nr ru ∧ pu_ru nm mi ∧ 0 ≤ kd ∧ kd ≤ 5) ∧ v = -1000001 ∧ M' = M) ∨ (pu_ru nr ru ∧ pu_ru nm mi ∧ (0 ≤ kd ∧ kd ≤ 5) ∧ fl = 0 ∧ v = -1000002 ∧ M' = M) ∨ (¬ fl = 0 ∧ (0 ≤ kd ∧ kd ≤ 5) ∧ ∃ r m, r < nr ∧ ru = nI r ∧ m < nm ∧ mi = nI m ∧ ((pu_is kd 3 (pu_kind rows r m) = 0 ∧ v = -1000013 ∧ M' = z_s M 46 0 7 3) ∨ (¬ pu_is kd 3 (pu_kind rows r m) = 0 ∧ v = rows 0 (12 * r + m) ∧ M' = z_s M 46 0 7 0)))) := by
  have h12 := hN.1.1
  have h4 := hN.1.2.1
  have efl : M.1 47 (M.2.2 46 0).toNat 190 = fl := hR.1
  refine z_mg KX10_as [] 60 (by decide +kernel) rfl ?_
  refine z_uR (hX10_isStep M hN ru mi) (by decide) ?_
  refine ⟨fun h => Or.inl ⟨by unfold pu_ru; grind, rfl, rfl⟩, fun h => ?_⟩
  have hh : (0 ≤ ru ∧ ru ≤ nI nr - 1) ∧ 0 ≤ mi ∧ mi ≤ nI nm - 1 := by grind
  refine z_uR (hX10_inI M kd 0 5 (by decide) (by decide)) (by decide) ?_
  refine ⟨fun h2 => ?_, fun h2 => Or.inl ⟨by grind, rfl, rfl⟩⟩
  have hkd : 0 ≤ kd ∧ kd ≤ 5 := by grind
  obtain ⟨r, hr, er⟩ := ru_of (by omega) (show pu_ru nr ru from hh.1)
  obtain ⟨m, hm, em⟩ := ru_of (by omega) (show pu_ru nm mi from hh.2)
  subst er em
  refine ⟨vin (by decide) (by decide), ?_⟩
  refine ⟨fun h5 => ?_, fun h5 => ?_⟩
  · have h6 : ¬ fl = 0 := fun w => h5 (efl.trans w)
    refine z_uR (hX10_kindOf M hN h0 (hR.2.2 h6) r m hr hm) (by decide) ?_
    refine z_uRe (hX10_isOf M _ kd) (is_of (kind_in rows r m) hkd) (by decide) ?_
    refine ⟨fun h7 => ?_, fun h7 => ?_⟩
    · refine z_uW (hX10_found M 3) (by decide) ?_
      exact Or.inr (Or.inr ⟨h6, hkd, r, m, hr, rfl, hm, rfl, Or.inl ⟨h7, rfl, rfl⟩⟩)
    · refine z_uR (hX10_ranR M hN (hR.2.2 h6) r m 0 hr hm (by decide)) (by decide) ?_
      refine z_uW (hX10_through M _) (by decide) ?_
      exact Or.inr (Or.inr ⟨h6, hkd, r, m, hr, rfl, hm, rfl, Or.inr ⟨h7, rfl, rfl⟩⟩)
  · exact Or.inr (Or.inl ⟨hh.1, hh.2, hkd, efl.symm.trans h5, rfl, rfl⟩)
