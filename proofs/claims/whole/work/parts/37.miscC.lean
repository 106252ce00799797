/-! ===== the class: set, drop, copy, feed, need, trace, count, status, fault ===== -/
def pu_cut (lane v : Int32) : Int32 := if lane = 0 then v.toInt8.toInt32 else if lane = 1 then v.toInt16.toInt32 else v
theorem hX9_set {X : z_Cx} (M : z_M) (hS : z_WS M) (s i v : Int32) : z_Con X 2 mX9_set [zr 0 0, zi s, zi i, zi v] M (fun r M' =>
    (¬ (0 ≤ s ∧ s ≤ 7) ∧ r = -1000001 ∧ M' = M) ∨ ((0 ≤ s ∧ s ≤ 7) ∧ ¬ z_fd M s i 1 = 0 ∧ r = -1000010 - z_fd M s i 1 ∧ M' = z_s M 0 0 10 (z_fd M s i 1)) ∨
    ((0 ≤ s ∧ s ≤ 7) ∧ z_fd M s i 1 = 0 ∧ ∃ x, x < 40 ∧ i = nI x ∧ r = pu_cut (M.1 2 s.toNatClampNeg 1) v ∧ M' = z_s (z_s M 3 s.toNatClampNeg x (pu_cut (M.1 2 s.toNatClampNeg 1) v)) 0 0 10 0)) := by
  refine z_mg KX9_set [] 80 (by decide +kernel) rfl ?_
  refine z_uR (hX9_within s 0 7 M) (by decide) ?_
  refine ⟨fun h => ?_, fun h => ?_⟩
  · have hs : 0 ≤ s ∧ s ≤ 7 := by grind
    refine z_uR (hX9_findingAt M s i 1 hs.1 hs.2) (by decide) ?_
    refine ⟨fun h3 => ?_, fun h3 => ?_⟩
    · obtain ⟨sN, hsN, esN⟩ := nI_of2 (x := s) (M := 7) (n := 7) (by decide) (Int32.not_lt.mpr hs.1) hs.2
      have hSz := hS sN (by omega)
      have esc : s.toNatClampNeg = sN := by rw [esN]; exact nI_clamp (by omega)
      obtain ⟨x, ex, hx⟩ := fd_ok (c := 1) h3 rfl (by omega) (by rw [esc]; exact ⟨hSz.2.2.2, hSz.2.2.1⟩)
      subst ex
      refine ⟨vin_le hs.1 hs.2 (by decide), ?_⟩
      have hp := hX7_put (X := X) s.toNatClampNeg M (nI x) v
      rw [if_pos (show 0 ≤ nI x ∧ nI x ≤ 39 from ⟨nI_pos' (by omega), nI_le (b := 39) (by omega) (by omega)⟩), nI_clamp (n := x) (by omega)] at hp
      refine z_uW hp (by decide) ?_
      refine z_uW (hX9_foundNothing _ _) (by decide) ?_
      exact Or.inr (Or.inr ⟨hs, h3, x, by omega, rfl, rfl, rfl⟩)
    · refine z_uW (hX9_found M (z_fd M s i 1)) (by decide) ?_
      exact Or.inr (Or.inl ⟨hs, h3, rfl, rfl⟩)
  · exact Or.inl ⟨by grind, rfl, rfl⟩
theorem hX9_drop {X : z_Cx} (M : z_M) (s : Int32) : z_Con X 2 mX9_drop [zr 0 0, zi s] M (fun r M' =>
    (¬ (0 ≤ s ∧ s ≤ 7) ∧ r = -1000001 ∧ M' = M) ∨ ((0 ≤ s ∧ s ≤ 7) ∧ M.1 2 s.toNatClampNeg 1 = -1 ∧ r = -1000011 ∧ M' = z_s M 0 0 10 1) ∨
    ((0 ≤ s ∧ s ≤ 7) ∧ ¬ M.1 2 s.toNatClampNeg 1 = -1 ∧ r = M.1 2 s.toNatClampNeg 2 ∧ M' = z_s (z_s (z_s M 2 s.toNatClampNeg 1 (-1)) 2 s.toNatClampNeg 2 0) 0 0 10 0)) := by
  refine z_mg KX9_drop [] 80 (by decide +kernel) rfl ?_
  refine z_uR (hX9_within s 0 7 M) (by decide) ?_
  refine ⟨fun h => ?_, fun h => ?_⟩
  · have hs : 0 ≤ s ∧ s ≤ 7 := by grind
    refine ⟨vin_le hs.1 hs.2 (by decide), ?_⟩
    refine z_uR (hX7_isMissing s.toNatClampNeg M) (by decide) ?_
    refine ⟨fun h2 => ?_, fun h2 => ?_⟩
    · refine ⟨vin_le hs.1 hs.2 (by decide), vin_le hs.1 hs.2 (by decide), ?_⟩
      refine z_uV (hX7_end s.toNatClampNeg M) (by decide) (fun _ => ?_)
      refine z_uW (hX9_foundNothing _ _) (by decide) ?_
      exact Or.inr (Or.inr ⟨hs, by grind, rfl, rfl⟩)
    · refine z_uW (hX9_found M 1) (by decide) ?_
      exact Or.inr (Or.inl ⟨hs, by grind, rfl, rfl⟩)
  · exact Or.inl ⟨by grind, rfl, rfl⟩
/-- n rows from i on are in sheet s -/
def pu_in (M : z_M) (s i n : Int32) : Prop := 0 ≤ i ∧ 0 ≤ n ∧ i ≤ M.1 2 s.toNatClampNeg 2 - n
theorem fd_in {M : z_M} {s i n : Int32} (h : pu_in M s i n) (hs : M.1 2 s.toNatClampNeg 2 ≤ 40 ∧ 0 ≤ M.1 2 s.toNatClampNeg 2) : ∃ x c, i = nI x ∧ n = nI c ∧ x + c ≤ 40 := by
  obtain ⟨h0, h1, h2⟩ := h
  obtain ⟨x, hx, ex⟩ := nI_of (x := i) (Int32.not_lt.mpr h0)
  obtain ⟨c, hc, ec⟩ := nI_of (x := n) (Int32.not_lt.mpr h1)
  obtain ⟨z, hz, ez⟩ := nI_of (x := M.1 2 s.toNatClampNeg 2) (Int32.not_lt.mpr hs.2)
  subst ex
  subst ec
  refine ⟨x, c, rfl, rfl, ?_⟩
  rw [ez] at h2 hs
  have hz40 : z ≤ 40 := (nI_leI (b := 40) hz (by omega)).mp hs.1
  rw [Int32.le_iff_toInt_le] at h2
  have e3 : (nI z - nI c).toInt = (z : Int) - (c : Int) := by
    have a1 := nI_toInt (n := z) (by omega)
    have a2 := nI_toInt (n := c) (by omega)
    rw [Int32.toInt_sub, a1, a2]
    exact Int.bmod_eq_of_le (by omega) (by omega)
  rw [e3, nI_toInt hx] at h2
  omega
theorem hX9_copy {X : z_Cx} (M : z_M) (hS : z_WS M) (a i b j n : Int32) : z_Con X 1 mX9_copy [zr 0 0, zi a, zi i, zi b, zi j, zi n] M (fun r M' =>
    (¬ ((0 ≤ a ∧ a ≤ 7) ∧ 0 ≤ b ∧ b ≤ 7) ∧ r = -1000001 ∧ M' = M) ∨
    (((0 ≤ a ∧ a ≤ 7) ∧ 0 ≤ b ∧ b ≤ 7) ∧ (M.1 2 a.toNatClampNeg 1 = -1 ∨ M.1 2 b.toNatClampNeg 1 = -1) ∧ r = -1000011 ∧ M' = z_s M 0 0 10 1) ∨
    (((0 ≤ a ∧ a ≤ 7) ∧ 0 ≤ b ∧ b ≤ 7) ∧ ¬ (M.1 2 a.toNatClampNeg 1 = -1 ∨ M.1 2 b.toNatClampNeg 1 = -1) ∧ ¬ M.1 2 a.toNatClampNeg 1 = M.1 2 b.toNatClampNeg 1 ∧ r = -1000015 ∧ M' = z_s M 0 0 10 5) ∨
    (((0 ≤ a ∧ a ≤ 7) ∧ 0 ≤ b ∧ b ≤ 7) ∧ ¬ (M.1 2 a.toNatClampNeg 1 = -1 ∨ M.1 2 b.toNatClampNeg 1 = -1) ∧ M.1 2 a.toNatClampNeg 1 = M.1 2 b.toNatClampNeg 1 ∧ ¬ (pu_in M a i n ∧ pu_in M b j n) ∧ r = -1000012 ∧ M' = z_s M 0 0 10 2) ∨
    (((0 ≤ a ∧ a ≤ 7) ∧ 0 ≤ b ∧ b ≤ 7) ∧ ¬ (M.1 2 a.toNatClampNeg 1 = -1 ∨ M.1 2 b.toNatClampNeg 1 = -1) ∧ M.1 2 a.toNatClampNeg 1 = M.1 2 b.toNatClampNeg 1 ∧ pu_in M a i n ∧ pu_in M b j n ∧ ∃ x y c, i = nI x ∧ j = nI y ∧ n = nI c ∧ x + c ≤ 40 ∧ y + c ≤ 40 ∧ r = n ∧ M' = z_s (z_sr M 3 b.toNatClampNeg (va_cpy (M.1 3 a.toNatClampNeg) (M.1 3 b.toNatClampNeg) x y c)) 0 0 10 0)) := by
  refine z_mg KX9_copy [] 80 (by decide +kernel) rfl ?_
  refine z_uR (hX9_within a 0 7 M) (by decide) ?_
  refine ⟨fun h => ?_, fun h => ?_⟩
  · exact Or.inl ⟨by grind, rfl, rfl⟩
  · have ha : 0 ≤ a ∧ a ≤ 7 := by grind
    refine z_uR (hX9_within b 0 7 M) (by decide) ?_
    refine ⟨fun h => ?_, fun h => ?_⟩
    · have hb : 0 ≤ b ∧ b ≤ 7 := by grind
      refine ⟨vin_le ha.1 ha.2 (by decide), vin_le hb.1 hb.2 (by decide), ?_⟩
      have nul : ∀ {P : Prop}, (M.1 2 a.toNatClampNeg 1 = -1 ∨ M.1 2 b.toNatClampNeg 1 = -1) → True := fun _ => trivial
      refine z_uR (hX7_isMissing a.toNatClampNeg M) (by decide) ?_
      refine ⟨fun h2 => ?_, fun h2 => ?_⟩
      · refine z_uW (hX9_found M 1) (by decide) ?_
        exact Or.inr (Or.inl ⟨⟨ha, hb⟩, Or.inl (by grind), rfl, rfl⟩)
      · refine z_uR (hX7_isMissing b.toNatClampNeg M) (by decide) ?_
        refine ⟨fun h3 => ?_, fun h3 => ?_⟩
        · have hm : ¬ (M.1 2 a.toNatClampNeg 1 = -1 ∨ M.1 2 b.toNatClampNeg 1 = -1) := by grind
          refine ⟨fun h4 => ?_, fun h4 => ?_⟩
          · refine z_uR (hX7_reaches a.toNatClampNeg M i n) (by decide) ?_
            refine ⟨fun h5 => ?_, fun h5 => ?_⟩
            · refine z_uW (hX9_found M 2) (by decide) ?_
              exact Or.inr (Or.inr (Or.inr (Or.inl ⟨⟨ha, hb⟩, hm, h4, fun w => absurd w.1 (by unfold pu_in; grind), rfl, rfl⟩)))
            · have h5' : pu_in M a i n := by unfold pu_in; grind
              refine z_uR (hX7_reaches b.toNatClampNeg M j n) (by decide) ?_
              refine ⟨fun h6 => ?_, fun h6 => ?_⟩
              · have h6' : pu_in M b j n := by unfold pu_in; grind
                obtain ⟨aN, haN, eaN⟩ := nI_of2 (x := a) (M := 7) (n := 7) (by decide) (Int32.not_lt.mpr ha.1) ha.2
                obtain ⟨bN, hbN, ebN⟩ := nI_of2 (x := b) (M := 7) (n := 7) (by decide) (Int32.not_lt.mpr hb.1) hb.2
                have eac : a.toNatClampNeg = aN := by rw [eaN]; exact nI_clamp (by omega)
                have ebc : b.toNatClampNeg = bN := by rw [ebN]; exact nI_clamp (by omega)
                obtain ⟨x, c, ex, ec, hxc⟩ := fd_in h5' (by rw [eac]; exact ⟨(hS aN (by omega)).2.2.2, (hS aN (by omega)).2.2.1⟩)
                obtain ⟨y, c', ey, ec', hyc⟩ := fd_in h6' (by rw [ebc]; exact ⟨(hS bN (by omega)).2.2.2, (hS bN (by omega)).2.2.1⟩)
                have ecc : c = c' := (nI_eq (by omega) (by omega)).mp (ec.symm.trans ec')
                subst ecc
                subst ex
                subst ey
                subst ec
                have ex' : (nI x).toNatClampNeg = x := nI_clamp (by omega)
                have ey' : (nI y).toNatClampNeg = y := nI_clamp (by omega)
                have ec2 : (nI c).toNatClampNeg = c := nI_clamp (by omega)
                refine ⟨⟨nI_pos (by omega), nI_pos (by omega), nI_pos (by omega), by rw [ex', ec2]; exact hxc, by rw [ey', ec2]; exact hyc⟩, ?_⟩
                refine z_uW (hX9_foundNothing _ _) (by decide) ?_
                refine Or.inr (Or.inr (Or.inr (Or.inr ⟨⟨ha, hb⟩, hm, h4, h5', h6', x, y, c, rfl, rfl, rfl, hxc, hyc, rfl, ?_⟩)))
                rw [ex', ey', ec2]
              · refine z_uW (hX9_found M 2) (by decide) ?_
                exact Or.inr (Or.inr (Or.inr (Or.inl ⟨⟨ha, hb⟩, hm, h4, fun w => absurd w.2 (by unfold pu_in; grind), rfl, rfl⟩)))
          · refine z_uW (hX9_found M 5) (by decide) ?_
            exact Or.inr (Or.inr (Or.inl ⟨⟨ha, hb⟩, hm, h4, rfl, rfl⟩))
        · refine z_uW (hX9_found M 1) (by decide) ?_
          exact Or.inr (Or.inl ⟨⟨ha, hb⟩, Or.inr (by grind), rfl, rfl⟩)
    · exact Or.inl ⟨by grind, rfl, rfl⟩
theorem hX9_status {X : z_Cx} (M : z_M) : z_Con X 0 mX9_status [zr 0 0] M (fun r M' => M' = M ∧ r = M.1 0 0 10) := by
  refine z_mg KX9_status [] 20 (by decide +kernel) rfl ?_
  exact ⟨rfl, rfl⟩
theorem hX9_fault {X : z_Cx} (M : z_M) : z_Con X 0 mX9_fault [zr 0 0] M (fun r M' => M' = M ∧ r = M.1 4 0 3) := by
  refine z_mg KX9_fault [] 20 (by decide +kernel) rfl ?_
  exact ⟨rfl, rfl⟩
theorem hX9_need {X : z_Cx} (M : z_M) (nm : Nat) (hm : M.1 6 0 1 = nI nm) (hn : nm ≤ 12) (m p b : Int32) : z_Con X 2 mX9_need [zr 0 0, zi m, zi p, zi b] M (fun r M' => M' = M ∧ ((¬ (pu_ru nm m ∧ (10 ≤ p ∧ p ≤ 40) ∧ 0 ≤ b ∧ b ≤ 1) ∧ r = -1000001) ∨ (pu_ru nm m ∧ (10 ≤ p ∧ p ≤ 40) ∧ 0 ≤ b ∧ b ≤ 1 ∧ r = pu_need (z_cv M 0) 0 m.toNatClampNeg p b))) := by
  refine z_mg KX9_need [] 60 (by decide +kernel) rfl ?_
  refine z_uR (hX2_hasMile M 0 m) (by decide) ?_
  refine ⟨fun h => ?_, fun h => ?_⟩ <;> rw [hm] at h
  · exact ⟨rfl, Or.inl ⟨fun w => absurd w.1 (by unfold pu_ru; grind), rfl⟩⟩
  · have hru : pu_ru nm m := by unfold pu_ru; grind
    obtain ⟨r, hr, er⟩ := ru_of (by omega) hru
    refine z_uR (hX9_isPace p M) (by decide) ?_
    refine ⟨fun h2 => ?_, fun h2 => ?_⟩
    · exact ⟨rfl, Or.inl ⟨fun w => absurd w.2.1 (by grind), rfl⟩⟩
    · have hp : 10 ≤ p ∧ p ≤ 40 := by grind
      refine z_uR (hX9_within b 0 1 M) (by decide) ?_
      have hvin : vp_in m 12 := by rw [er]; exact vp_in_nI (by omega) (by omega)
      refine ⟨fun h3 => ?_, fun h3 => ?_⟩
      · have hb : 0 ≤ b ∧ b ≤ 1 := by grind
        refine ⟨fun h4 => ?_, fun h4 => ?_⟩
        · refine z_uR (hX2_needOf M 0 m p 0 0 hvin) (by decide) ?_
          have eb : b = 0 := by grind
          exact ⟨rfl, Or.inr ⟨hru, hp, hb.1, hb.2, by rw [eb]⟩⟩
        · refine z_uR (hX2_needOf M 0 m p 1 0 hvin) (by decide) ?_
          exact ⟨rfl, Or.inr ⟨hru, hp, hb.1, hb.2, by rw [h4]⟩⟩
      · exact ⟨rfl, Or.inl ⟨fun w => absurd w.2.2 (by grind), rfl⟩⟩
theorem hX9_trace {X : z_Cx} (M : z_M) (n : Nat) (hn : n ≤ 16) (ht : M.1 44 0 1 = nI n) (i : Int32) : z_Con X 1 mX9_trace [zr 0 0, zi i] M (fun r M' => M' = M ∧ ((¬ pu_ru n i ∧ r = -1000000) ∨ (∃ x, x < n ∧ i = nI x ∧ r = M.1 45 0 x))) := by
  refine z_mg KX9_trace [] 60 (by decide +kernel) rfl ?_
  refine z_uR (hX9_within i 0 (M.1 44 0 1 - 1) M) (by decide) ?_
  refine ⟨fun h => ?_, fun h => ?_⟩ <;> rw [ht] at h
  · exact ⟨rfl, Or.inl ⟨fun w => absurd w (by unfold pu_ru; grind), rfl⟩⟩
  · have hru : pu_ru n i := by unfold pu_ru; grind
    obtain ⟨j, hj, e⟩ := nI_of (x := i) (Int32.not_lt.mpr hru.1)
    subst e
    have hjn : j < n := by
      cases n with
      | zero => exact absurd (Int32.le_trans hru.1 hru.2) (by decide)
      | succ n =>
        have h2 := hru.2
        rw [nI_pred, nI_leI hj (by omega)] at h2
        omega
    refine ⟨vp_in_nI (by omega) (by omega), rfl, Or.inr ⟨j, hjn, rfl, ?_⟩⟩
    rw [nI_clamp hj]
