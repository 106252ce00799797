/-! ===== the class: best, even, early, stays ===== -/
/-- the class's memory is as it must be for what a course tells -/
def z_Wc (M : z_M) (nm nr nb : Nat) : Prop := M.1 6 0 1 = nI nm ∧ M.1 6 0 5 = nI nr ∧ M.1 6 0 14 = nI nb ∧ nm ≤ 12 ∧ nr ≤ 4 ∧ nb ≤ 5 ∧ (nr = 0 ∨ 1 ≤ nm) ∧ (∀ k, k < 31 → M.1 31 0 k = pu_sec k) ∧ (∀ r, r < nr → ∃ n, n ≤ 99 ∧ M.1 11 0 r = nI n) ∧ (∀ b, b < nb → ∃ p, p < 31 ∧ M.1 18 0 b = nI (10 + p)) ∧ ∀ b, b < nb → ∃ t, t ≤ 12 ∧ M.1 19 0 b = nI t
/-- what the class alone writes -/
abbrev z_kA : List Nat := [30, 33, 35, 37, 38, 40, 41]
def pu_Cr (V : Nat → Nat → Int32) (set : Int32) (nb r : Nat) : Nat → Nat → Int32 := pu_C V (fun _ => 0) set nb (V 3 r) (V 5 r)
def pu_T (V : Nat → Nat → Int32) (set : Int32) (nm nb r : Nat) : Int32 := pu_G (pu_Cr V set nb r) (V 4 r) nm nm (V 4 r).toNatClampNeg
def pu_ru (nr : Nat) (ru : Int32) : Prop := 0 ≤ ru ∧ ru ≤ nI nr - 1
def pu_se (nb : Nat) (set : Int32) : Prop := 0 ≤ set ∧ set ≤ 1 <<< (nI nb &&& 31) - 1
theorem ru_of {nr : Nat} {ru : Int32} (hn : nr ≤ 12) (h : pu_ru nr ru) : ∃ r, r < nr ∧ ru = nI r := by
  obtain ⟨j, hj, e⟩ := nI_of (x := ru) (Int32.not_lt.mpr h.1)
  subst e
  refine ⟨j, ?_, rfl⟩
  cases nr with
  | zero => exact absurd (Int32.le_trans h.1 h.2) (by decide)
  | succ n =>
    have h2 := h.2
    rw [nI_pred, nI_leI hj (by omega)] at h2
    omega
theorem z_al {M M1 M2 : z_M} {r n nm nb : Nat} {set : Int32} {mh : Nat → Int32} (hF : z_Fc M M1 0 r nm nb set mh) (hst : M.1 11 0 r = nI n) (hs : ∀ k, k < 31 → M.1 31 0 k = pu_sec k) (hv : z_Sv M1 M2 n nm 0) : z_Lt M2 n nm ∧ (∀ a, a < nm → ∀ b, b < 31 → M2.1 35 a b = pu_C (z_cv M 0) mh set nb (M.1 10 0 r) (M.1 12 0 r) a b) ∧ z_Fr z_kA M M2 ∧ M2.1 30 0 9 = M.1 11 0 r := by
  refine ⟨hv.lt hF.2.1 (by rw [hF.2.2.1]; exact hst) (fun k hk => by rw [hF.1.2 31 (by decide)]; exact hs k hk), fun a ha b hb => by rw [hv.1.2 35 (by decide)]; exact hF.2.2.2.2.2 a ha b hb, (hF.1.mono (by decide)).trans (hv.1.mono (by decide)), by rw [hv.1.2 30 (by decide)]; exact hF.2.2.1⟩
def pu_best (V : Nat → Nat → Int32) (nm nb r : Nat) (set k : Int32) : Int32 := if 1000000000 ≤ pu_T V set nm nb r ∨ nI nm ≤ k then -1000000 else if k < 0 then pu_T V set nm nb r else nI (10 + (pu_pb (pu_Cr V set nb r) (V 4 r) nm (k.toNatClampNeg + 1)).1)
theorem hX9_best {X : z_Cx} (M : z_M) (nm nr nb : Nat) (hW : z_Wc M nm nr nb) (ru set k : Int32) : z_Con X 4 mX9_best [zr 0 0, zi ru, zi set, zi k] M (fun v M' => z_Fr z_kA M M' ∧ ((¬ (pu_ru nr ru ∧ pu_se nb set ∧ -1 ≤ k) ∧ v = -1000001) ∨ (∃ r, r < nr ∧ ru = nI r ∧ pu_se nb set ∧ -1 ≤ k ∧ v = pu_best (z_cv M 0) nm nb r set k))) := by
  obtain ⟨w1, w2, w3, w4, w5, w6, w7, w8, w9, w10, w11⟩ := hW
  refine z_mg KX9_best [] 80 (by decide +kernel) rfl ?_
  refine z_uR (hX2_hasRunner M 0 ru) (by decide) ?_
  refine ⟨fun h => ?_, fun h => ?_⟩ <;> rw [w2] at h
  · exact ⟨z_Fr.refl, Or.inl ⟨fun w => absurd w.1 (by unfold pu_ru; grind), rfl⟩⟩
  · have hru : pu_ru nr ru := by unfold pu_ru; grind
    obtain ⟨r, hr, er⟩ := ru_of (by omega) hru
    refine z_uR (hX2_hasRabbits M 0 set) (by decide) ?_
    refine ⟨fun h2 => ?_, fun h2 => ?_⟩ <;> rw [w3] at h2
    · exact ⟨z_Fr.refl, Or.inl ⟨fun w => absurd w.2.1 (by unfold pu_se; grind), rfl⟩⟩
    · have hse : pu_se nb set := by unfold pu_se; grind
      refine ⟨fun h3 => ?_, fun h3 => ?_⟩
      · subst er
        obtain ⟨n, hn, en⟩ := w9 r hr
        refine z_use (gX0_face M 0 r nm nb set (by omega) w4 w6 w3 w1) (by decide) (fun _ M1 hF => ?_)
        refine z_use (hX0_leastTime M1 n nm hn w4 hF.2.1 (by rw [hF.2.2.1]; exact en) (fun k hk => by rw [hF.1.2 31 (by decide)]; exact w8 k hk)) (by decide) (fun v M2 hv => ?_)
        obtain ⟨hv1, hv2⟩ := hv
        obtain ⟨a1, a2, a3, a4⟩ := z_al hF en w8 hv2
        have eT : v = pu_T (z_cv M 0) set nm nb r := by
          rw [hv1, G_cg hF.2.2.2.2.2 nm (Nat.le_refl nm), hF.2.2.1]
          unfold pu_T
          rw [show z_cv M 0 4 r = nI n from en, nI_clamp (n := n) (by omega), ← en]
          rfl
        rw [eT]
        have e6 : M2.1 6 0 1 = nI nm := by rw [a3.2 6 (by decide)]; exact w1
        refine ⟨fun h4 => ?_, fun h4 => ?_⟩
        · exact ⟨a3, Or.inr ⟨r, hr, rfl, hse, h3, by unfold pu_best; rw [if_pos (Or.inl h4)]⟩⟩
        · refine ⟨fun h5 => ?_, fun h5 => ?_⟩ <;> rw [e6] at h5
          · refine ⟨fun h6 => ?_, fun h6 => ?_⟩
            · obtain ⟨j, hj, ej⟩ := nI_of (x := k) (Int32.not_lt.mpr h6)
              subst ej
              have hjn : j < nm := by rw [nI_ltI hj (by omega)] at h5; exact h5
              refine z_uR (hX0_paceOfBest M2 n nm j hn hjn w4 a1) (by decide) ?_
              refine ⟨a3, Or.inr ⟨r, hr, rfl, hse, h3, ?_⟩⟩
              unfold pu_best
              rw [if_neg (fun w => w.elim h4 (fun w => absurd h5 (Int32.not_lt.mpr w))), if_neg (Int32.not_lt.mpr h6), nI_clamp hj, pb_cg a2 (j + 1) (by omega), a4]
              rfl
            · refine ⟨a3, Or.inr ⟨r, hr, rfl, hse, h3, ?_⟩⟩
              unfold pu_best
              rw [if_neg (fun w => w.elim h4 (fun w => absurd h5 (Int32.not_lt.mpr w))), if_pos (Int32.not_le.mp h6)]
          · exact ⟨a3, Or.inr ⟨r, hr, rfl, hse, h3, by unfold pu_best; rw [if_pos (Or.inr (Int32.not_lt.mp h5))]⟩⟩
      · exact ⟨z_Fr.refl, Or.inl ⟨fun w => absurd w.2.2 h3, rfl⟩⟩
def pu_even (V : Nat → Nat → Int32) (nm nb r : Nat) (set what : Int32) : Int32 := if pu_ev (pu_Cr V set nb r) (V 4 r) nm 31 = 0 then -1000000 else if what = 0 then pu_ev (pu_Cr V set nb r) (V 4 r) nm 31 else nI nm * (12000 / pu_ev (pu_Cr V set nb r) (V 4 r) nm 31)
theorem ev_pace {C : Nat → Nat → Int32} {st : Int32} {nm : Nat} : ∀ n, n ≤ 31 → pu_ev C st nm n = 0 ∨ 10 ≤ pu_ev C st nm n := by
  intro n
  induction n with
  | zero => intro _; exact Or.inl rfl
  | succ n ih =>
    intro hn
    unfold pu_ev
    split
    · exact Or.inr (nI_le (a := 10) (by omega) (by omega))
    · exact ih (by omega)
theorem hX9_even {X : z_Cx} (M : z_M) (nm nr nb : Nat) (hW : z_Wc M nm nr nb) (ru set what : Int32) : z_Con X 4 mX9_even [zr 0 0, zi ru, zi set, zi what] M (fun v M' => z_Fr z_kA M M' ∧ ((¬ (pu_ru nr ru ∧ pu_se nb set ∧ 0 ≤ what ∧ what ≤ 1) ∧ v = -1000001) ∨ (∃ r, r < nr ∧ ru = nI r ∧ pu_se nb set ∧ 0 ≤ what ∧ what ≤ 1 ∧ v = pu_even (z_cv M 0) nm nb r set what))) := by
  obtain ⟨w1, w2, w3, w4, w5, w6, w7, w8, w9, w10, w11⟩ := hW
  refine z_mg KX9_even [] 80 (by decide +kernel) rfl ?_
  refine z_uR (hX2_hasRunner M 0 ru) (by decide) ?_
  refine ⟨fun h => ?_, fun h => ?_⟩ <;> rw [w2] at h
  · exact ⟨z_Fr.refl, Or.inl ⟨fun w => absurd w.1 (by unfold pu_ru; grind), rfl⟩⟩
  · have hru : pu_ru nr ru := by unfold pu_ru; grind
    obtain ⟨r, hr, er⟩ := ru_of (by omega) hru
    refine z_uR (hX2_hasRabbits M 0 set) (by decide) ?_
    refine ⟨fun h2 => ?_, fun h2 => ?_⟩ <;> rw [w3] at h2
    · exact ⟨z_Fr.refl, Or.inl ⟨fun w => absurd w.2.1 (by unfold pu_se; grind), rfl⟩⟩
    · have hse : pu_se nb set := by unfold pu_se; grind
      refine z_uR (hX9_within what 0 1 M) (by decide) ?_
      refine ⟨fun h3 => ?_, fun h3 => ?_⟩
      · have hw : 0 ≤ what ∧ what ≤ 1 := by grind
        subst er
        refine z_use (gX0_face M 0 r nm nb set (by omega) w4 w6 w3 w1) (by decide) (fun _ M1 hF => ?_)
        refine z_uR (hX0_evenPace M1 nm w4 hF.2.1) (by decide) ?_
        have eE : pu_ev (M1.1 35) (M1.1 30 0 9) nm 31 = pu_ev (pu_Cr (z_cv M 0) set nb r) (z_cv M 0 4 r) nm 31 := by
          rw [ev_cg hF.2.2.2.2.2 31 (Nat.le_refl 31), hF.2.2.1]
          rfl
        rw [eE]
        have a3 : z_Fr z_kA M M1 := hF.1.mono (by decide)
        have e6 : M1.1 6 0 1 = nI nm := by rw [a3.2 6 (by decide)]; exact w1
        refine ⟨fun h4 => ?_, fun h4 => ?_⟩
        · refine ⟨fun h5 => ?_, fun h5 => ?_⟩
          · have h10 : 10 ≤ pu_ev (pu_Cr (z_cv M 0) set nb r) (z_cv M 0 4 r) nm 31 := (ev_pace 31 (Nat.le_refl 31)).resolve_left h4
            refine z_uR (hX9_secondsI _ M1 h10) (by decide) ?_
            refine ⟨a3, Or.inr ⟨r, hr, rfl, hse, hw.1, hw.2, ?_⟩⟩
            rw [e6]
            unfold pu_even
            rw [if_neg h4, if_neg h5]
          · refine ⟨a3, Or.inr ⟨r, hr, rfl, hse, hw.1, hw.2, ?_⟩⟩
            unfold pu_even
            rw [if_neg h4, if_pos h5]
        · exact ⟨a3, Or.inr ⟨r, hr, rfl, hse, hw.1, hw.2, by unfold pu_even; rw [if_pos h4]⟩⟩
      · exact ⟨z_Fr.refl, Or.inl ⟨fun w => absurd w.2.2 (by grind), rfl⟩⟩
