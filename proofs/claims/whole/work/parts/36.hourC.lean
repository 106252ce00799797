/-! ===== the class: line, hour ===== -/
/-- a place of a sheet by its number -/
theorem fd_ok {M : z_M} {s i n : Int32} {c : Nat} (h : z_fd M s i n = 0) (hn : n = nI c) (hc : c ≤ 40) (hs : M.1 2 s.toNatClampNeg 2 ≤ 40 ∧ 0 ≤ M.1 2 s.toNatClampNeg 2) : ∃ x, i = nI x ∧ x + c ≤ 40 := by
  unfold z_fd at h
  by_cases e1 : M.1 2 s.toNatClampNeg 1 = -1
  · rw [if_pos e1] at h; exact absurd h (by decide)
  · rw [if_neg e1] at h
    by_cases e2 : 0 ≤ i ∧ 0 ≤ n ∧ i ≤ M.1 2 s.toNatClampNeg 2 - n
    · obtain ⟨h0, h1, h2⟩ := e2
      obtain ⟨x, hx, ex⟩ := nI_of (x := i) (Int32.not_lt.mpr h0)
      obtain ⟨z, hz, ez⟩ := nI_of (x := M.1 2 s.toNatClampNeg 2) (Int32.not_lt.mpr hs.2)
      subst ex
      refine ⟨x, rfl, ?_⟩
      rw [ez] at h2 hs
      rw [hn] at h2
      have hz40 : z ≤ 40 := (nI_leI (b := 40) hz (by omega)).mp hs.1
      rw [Int32.le_iff_toInt_le] at h2
      have e3 : (nI z - nI c).toInt = (z : Int) - (c : Int) := by
        have a1 := nI_toInt (n := z) (by omega)
        have a2 := nI_toInt (n := c) (by omega)
        rw [Int32.toInt_sub, a1, a2]
        exact Int.bmod_eq_of_le (by omega) (by omega)
      rw [e3, nI_toInt hx] at h2
      omega
    · rw [if_neg e2] at h
      exact absurd h (by decide)
def z_kA0 : List Nat := [0, 30, 33, 35, 37, 38, 40, 41]
/-- what line asks: 0 state, 1 bad, 2 a finding, 3 an answer -/
theorem hX9_line {X : z_Cx} (M : z_M) (nm nr nb : Nat) (hW : z_Wc M nm nr nb) (hS : z_WS M) (ru s i : Int32) : z_Con X 5 mX9_line [zr 0 0, zi ru, zi s, zi i] M (fun v M' =>
    (M.1 6 0 0 = 0 ∧ v = -1000002 ∧ M' = M) ∨ (¬ M.1 6 0 0 = 0 ∧ ¬ ((0 ≤ s ∧ s ≤ 7) ∧ pu_ru nr ru) ∧ v = -1000001 ∧ M' = M) ∨
    (¬ M.1 6 0 0 = 0 ∧ (0 ≤ s ∧ s ≤ 7) ∧ pu_ru nr ru ∧ ¬ z_fd M s i (nI nm) = 0 ∧ v = -1000010 - z_fd M s i (nI nm) ∧ M' = z_s M 0 0 10 (z_fd M s i (nI nm))) ∨
    (¬ M.1 6 0 0 = 0 ∧ (0 ≤ s ∧ s ≤ 7) ∧ z_fd M s i (nI nm) = 0 ∧ ∃ r x, r < nr ∧ ru = nI r ∧ i = nI x ∧ x + nm ≤ 40 ∧ v = pu_ll (pu_nd (z_cv M 0) (fun _ => 0) 0 nb) (M.1 12 0 r) (M.1 11 0 r) (fun t => pu_ptt (M.1 3 s.toNatClampNeg (x + t)) 31 0) nm 51 10 ∧ z_Fr z_kA0 M M' ∧ M'.1 0 0 10 = 0)) := by
  have w1 := hW.1
  have w4 := hW.2.2.2.1
  have w5 := hW.2.2.2.2.1
  refine z_mg KX9_line [] 80 (by decide +kernel) rfl ?_
  refine ⟨fun h0 => ?_, fun h0 => ?_⟩
  · refine z_uR (hX9_within s 0 7 M) (by decide) ?_
    refine ⟨fun h => ?_, fun h => ?_⟩
    · exact Or.inr (Or.inl ⟨h0, fun w => absurd w.1 (by grind), rfl, rfl⟩)
    · have hs : 0 ≤ s ∧ s ≤ 7 := by grind
      refine z_uR (hX2_hasRunner M 0 ru) (by decide) ?_
      refine ⟨fun h2 => ?_, fun h2 => ?_⟩ <;> rw [hW.2.1] at h2
      · have hru : pu_ru nr ru := by unfold pu_ru; grind
        obtain ⟨r, hr, er⟩ := ru_of (by omega) hru
        have hf := hX9_findingAt (X := X) M s i (M.1 6 0 1) hs.1 hs.2
        refine z_uR hf (by decide) ?_
        rw [w1]
        refine ⟨fun h3 => ?_, fun h3 => ?_⟩
        · have h3' : z_fd M s i (nI nm) = 0 := h3
          obtain ⟨sN, hsN, esN⟩ := nI_of2 (x := s) (M := 7) (n := 7) (by decide) (Int32.not_lt.mpr hs.1) hs.2
          have hSz := hS sN (by omega)
          have esc : s.toNatClampNeg = sN := by rw [esN]; exact nI_clamp (by omega)
          obtain ⟨x, ex, hx⟩ := fd_ok (c := nm) h3' rfl (by omega) (by rw [esc]; exact ⟨hSz.2.2.2, hSz.2.2.1⟩)
          subst ex
          subst er
          refine ⟨vin_le hs.1 hs.2 (by decide), ?_⟩
          refine z_use (hX9_leastLine M s.toNatClampNeg x r nm nr nb hW hr hx) (by decide) (fun v M1 hv => ?_)
          refine z_uW (hX9_foundNothing M1 v) (by decide) ?_
          refine Or.inr (Or.inr (Or.inr ⟨h0, hs, h3', r, x, hr, rfl, rfl, hx, hv.2, (hv.1.mono (by decide)).s (by decide), ?_⟩))
          rw [z_gs, if_pos ⟨rfl, rfl, rfl⟩]
        · refine z_uW (hX9_found M (z_fd M s i (nI nm))) (by decide) ?_
          exact Or.inr (Or.inr (Or.inl ⟨h0, hs, hru, h3, rfl, rfl⟩))
      · exact Or.inr (Or.inl ⟨h0, fun w => absurd w.2 (by unfold pu_ru; grind), rfl, rfl⟩)
  · exact Or.inl ⟨h0, rfl, rfl⟩
/-- BEST of a runner without rabbits, with the heats of a row from y on -/
def pu_Th (V : Nat → Nat → Int32) (f : Nat → Int32) (nm nb r y : Nat) : Int32 := pu_G (pu_C V (fun a => f (y + a / 4)) 0 nb (V 3 r) (V 5 r)) (V 4 r) nm nm (V 4 r).toNatClampNeg
def pu_bh (T : Nat → Int32) : Nat → Int32 × Nat
  | 0 => (1000000000, 0)
  | h + 1 => if T h < (pu_bh T h).1 then (T h, h) else pu_bh T h
def pu_hour (T : Nat → Int32) (c : Nat) (what : Int32) : Int32 := if 1000000000 ≤ (pu_bh T c).1 then -1000000 else if what = 0 then nI (pu_bh T c).2 else (pu_bh T c).1
theorem z_d4 {a : Nat} (h : a < 12) : nI a / 4 = nI (a / 4) := by
  rcases (show a = 0 ∨ a = 1 ∨ a = 2 ∨ a = 3 ∨ a = 4 ∨ a = 5 ∨ a = 6 ∨ a = 7 ∨ a = 8 ∨ a = 9 ∨ a = 10 ∨ a = 11 by omega) with e | e | e | e | e | e | e | e | e | e | e | e <;> subst e <;> decide
theorem mh_eq {M : z_M} {s y a : Nat} (hy : y + 2 ≤ 39) (ha : a < 12) : pu_mh M s (nI y) a = M.1 3 s (y + a / 4) := by
  unfold pu_mh
  rw [z_d4 ha, nI_add, if_pos ⟨nI_pos' (by omega), nI_le (b := 39) (by omega) (by omega)⟩, nI_clamp (by omega)]
theorem lX9_bestHour {X : z_Cx} (M : z_M) (nm nr nb r s x c : Nat) (hW : z_Wc M nm nr nb) (hr : r < nr) (hx : x + (c + 2) ≤ 40) (what : Int32) : ∀ (u t : Nat) (Mc : z_M), t + u = c → z_Fr z_kA M Mc → z_Run X 4 mX9_bestHour (fun v M' => z_Fr z_kA M M' ∧ v = pu_hour (fun h => pu_Th (z_cv M 0) (M.1 3 s) nm nb r (x + h)) c what) 10 [(0, zr 0 0), (1, zi (nI r)), (2, zr 2 s), (3, zi (nI x)), (4, zi (nI c)), (5, zi what), (6, zi (pu_bh (fun h => pu_Th (z_cv M 0) (M.1 3 s) nm nb r (x + h)) t).1), (7, zi (nI (pu_bh (fun h => pu_Th (z_cv M 0) (M.1 3 s) nm nb r (x + h)) t).2)), (8, zi (nI t))] [] Mc := by
  intro u
  induction u with
  | zero =>
    intro t Mc ht hF
    have et : t = c := by omega
    subst et
    refine z_go_run KX9_bestHour [(10, [0, 1, 2, 3, 4, 5, 6, 7, 8])] 80 ?_
    refine ⟨fun h => ?_, fun h => ?_⟩
    · refine ⟨fun h2 => ?_, fun h2 => ?_⟩
      · refine ⟨fun h3 => ?_, fun h3 => ?_⟩
        · exact ⟨hF, by unfold pu_hour; rw [if_neg (Int32.not_le.mpr h2), if_neg h3]⟩
        · exact ⟨hF, by unfold pu_hour; rw [if_neg (Int32.not_le.mpr h2), if_pos h3]⟩
      · exact ⟨hF, by unfold pu_hour; rw [if_pos (Int32.not_lt.mp h2)]⟩
    · exact absurd (Int32.le_refl _) h
  | succ u ih =>
    intro t Mc ht hF
    obtain ⟨w1, w2, w3, w4, w5, w6, w7, w8, w9, w10, w11⟩ := hW.fr hF
    have ecv : z_cv Mc 0 = z_cv M 0 := z_cvF hF z_kA_cv
    have e3 : Mc.1 3 = M.1 3 := hF.2 3 (by decide)
    refine z_go_run KX9_bestHour [(10, [0, 1, 2, 3, 4, 5, 6, 7, 8])] 80 ?_
    refine ⟨fun h => ?_, fun h => ?_⟩
    · exact absurd h (nI_ge (by omega) (by omega))
    · obtain ⟨n, hn, en⟩ := w9 r hr
      refine z_use (gX0_faceHour Mc 0 r s nm nb (nI x + nI t) (by omega) w4 w6 w3 w1) (by decide) (fun _ M1 hF1 => ?_)
      refine z_use (hX0_leastTime M1 n nm hn w4 hF1.2.1 (by rw [hF1.2.2.1]; exact en) (fun k hk => by rw [hF1.1.2 31 (by decide)]; exact w8 k hk)) (by decide) (fun v M2 hv => ?_)
      obtain ⟨hv1, hv2⟩ := hv
      obtain ⟨a1, a2, a3, a4⟩ := z_al hF1 en w8 hv2
      have hF2 : z_Fr z_kA M M2 := hF.trans a3
      have eT : v = pu_Th (z_cv M 0) (M.1 3 s) nm nb r (x + t) := by
        have hc : ∀ a, a < nm → ∀ b, b < 31 → M1.1 35 a b = pu_C (z_cv M 0) (fun a => M.1 3 s (x + t + a / 4)) 0 nb (z_cv M 0 3 r) (z_cv M 0 5 r) a b := by
          intro a ha b hb
          rw [hF1.2.2.2.2.2 a ha b hb, ← ecv]
          unfold pu_C pu_nd
          rw [nI_add, mh_eq (by omega) (by omega), e3]
          rfl
        rw [hv1, G_cg hc nm (Nat.le_refl nm), hF1.2.2.1]
        unfold pu_Th
        rw [show Mc.1 11 0 r = z_cv M 0 4 r from by rw [← ecv]; rfl]
        rw [show (z_cv M 0 4 r).toNatClampNeg = n from by rw [← ecv, show z_cv Mc 0 4 r = nI n from en, nI_clamp (n := n) (by omega)]]
      rw [eT]
      refine ⟨fun h2 => ?_, fun h2 => ?_⟩
      · have h3 := ih (t + 1) M2 (by omega) hF2
        rw [← nI_1 t, show pu_bh (fun h => pu_Th (z_cv M 0) (M.1 3 s) nm nb r (x + h)) (t + 1) = pu_bh (fun h => pu_Th (z_cv M 0) (M.1 3 s) nm nb r (x + h)) t from if_neg (Int32.not_lt.mpr h2)] at h3
        exact h3
      · have h3 := ih (t + 1) M2 (by omega) hF2
        rw [← nI_1 t, show pu_bh (fun h => pu_Th (z_cv M 0) (M.1 3 s) nm nb r (x + h)) (t + 1) = (pu_Th (z_cv M 0) (M.1 3 s) nm nb r (x + t), t) from if_pos (Int32.not_le.mp h2)] at h3
        exact h3
theorem hX9_bestHour {X : z_Cx} (M : z_M) (nm nr nb r s x c : Nat) (hW : z_Wc M nm nr nb) (hr : r < nr) (hx : x + (c + 2) ≤ 40) (what : Int32) : z_Con X 4 mX9_bestHour [zr 0 0, zi (nI r), zr 2 s, zi (nI x), zi (nI c), zi what] M (fun v M' => z_Fr z_kA M M' ∧ v = pu_hour (fun h => pu_Th (z_cv M 0) (M.1 3 s) nm nb r (x + h)) c what) := by
  refine z_mg KX9_bestHour [(10, [0, 1, 2, 3, 4, 5, 6, 7, 8])] 80 (by decide +kernel) rfl ?_
  exact lX9_bestHour M nm nr nb r s x c hW hr hx what c 0 M (by omega) z_Fr.refl
