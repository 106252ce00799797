/-! ===== the class: early, stays, hired ===== -/
def pu_early (V : Nat → Nat → Int32) (nm nb r : Nat) (d : Int32) : Int32 :=
  if 1000000000 ≤ pu_T V 0 nm nb r then -1000000 else
  if 1000000000 ≤ pu_lf (pu_Cr V 0 nb r) (V 4 r) nm ((if 40 < nI (10 + (pu_pb (pu_Cr V 0 nb r) (V 4 r) nm 1).1) + d then 40 else nI (10 + (pu_pb (pu_Cr V 0 nb r) (V 4 r) nm 1).1) + d) - 10).toNatClampNeg then -1000000 else
  pu_lf (pu_Cr V 0 nb r) (V 4 r) nm ((if 40 < nI (10 + (pu_pb (pu_Cr V 0 nb r) (V 4 r) nm 1).1) + d then 40 else nI (10 + (pu_pb (pu_Cr V 0 nb r) (V 4 r) nm 1).1) + d) - 10).toNatClampNeg - pu_T V 0 nm nb r
theorem pb_lt {C : Nat → Nat → Int32} {st : Int32} {nm : Nat} : ∀ t, (pu_pb C st nm t).1 < 31 := by
  intro t
  induction t with
  | zero => exact Nat.zero_lt_succ 30
  | succ t ih =>
    unfold pu_pb
    split
    · exact ih
    · exact fp_lt 31 0 rfl
/-- a pace of 10 to 40 by its number -/
theorem pace_of {x : Int32} (h : 10 ≤ x ∧ x ≤ 40) : ∃ b, b < 31 ∧ x = nI (10 + b) ∧ (x - 10).toNatClampNeg = b := by
  obtain ⟨j, hj, e⟩ := nI_of (x := x) (Int32.not_lt.mpr (Int32.le_trans (by decide) h.1))
  subst e
  have h1 : 10 ≤ j := (nI_leI (a := 10) (by omega) hj).mp h.1
  have h2 : j ≤ 40 := (nI_leI (b := 40) hj (by omega)).mp h.2
  refine ⟨j - 10, by omega, by rw [show 10 + (j - 10) = j by omega], ?_⟩
  have := (z_10 (b := j - 10) (by omega)).2
  rw [show 10 + (j - 10) = j by omega] at this
  exact this
theorem hX9_early {X : z_Cx} (M : z_M) (nm nr nb : Nat) (hW : z_Wc M nm nr nb) (ru d : Int32) : z_Con X 4 mX9_early [zr 0 0, zi ru, zi d] M (fun v M' => z_Fr z_kA M M' ∧ ((¬ (pu_ru nr ru ∧ 1 ≤ d ∧ d ≤ 20) ∧ v = -1000001) ∨ (∃ r, r < nr ∧ ru = nI r ∧ 1 ≤ d ∧ d ≤ 20 ∧ v = pu_early (z_cv M 0) nm nb r d))) := by
  obtain ⟨w1, w2, w3, w4, w5, w6, w7, w8, w9, w10, w11⟩ := hW
  refine z_mg KX9_early [] 80 (by decide +kernel) rfl ?_
  refine z_uR (hX2_hasRunner M 0 ru) (by decide) ?_
  refine ⟨fun h => ?_, fun h => ?_⟩ <;> rw [w2] at h
  · exact ⟨z_Fr.refl, Or.inl ⟨fun w => absurd w.1 (by unfold pu_ru; grind), rfl⟩⟩
  · have hru : pu_ru nr ru := by unfold pu_ru; grind
    obtain ⟨r, hr, er⟩ := ru_of (by omega) hru
    have h1 : 1 ≤ nm := by omega
    refine z_uR (hX9_within d 1 20 M) (by decide) ?_
    refine ⟨fun h3 => ?_, fun h3 => ?_⟩
    · have hd : 1 ≤ d ∧ d ≤ 20 := by grind
      subst er
      obtain ⟨n, hn, en⟩ := w9 r hr
      refine z_use (gX0_face M 0 r nm nb 0 (by omega) w4 w6 w3 w1) (by decide) (fun _ M1 hF => ?_)
      refine z_use (hX0_leastTime M1 n nm hn w4 hF.2.1 (by rw [hF.2.2.1]; exact en) (fun k hk => by rw [hF.1.2 31 (by decide)]; exact w8 k hk)) (by decide) (fun v M2 hv => ?_)
      obtain ⟨hv1, hv2⟩ := hv
      obtain ⟨a1, a2, a3, a4⟩ := z_al hF en w8 hv2
      have eT : v = pu_T (z_cv M 0) 0 nm nb r := by
        rw [hv1, G_cg hF.2.2.2.2.2 nm (Nat.le_refl nm), hF.2.2.1]
        unfold pu_T
        rw [show z_cv M 0 4 r = nI n from en, nI_clamp (n := n) (by omega), ← en]
        rfl
      rw [eT]
      refine ⟨fun h4 => ?_, fun h4 => ?_⟩
      · refine z_uR (hX0_paceOfBest M2 n nm 0 hn h1 w4 a1) (by decide) ?_
        have ep : pu_pb (M2.1 35) (M2.1 30 0 9) nm (0 + 1) = pu_pb (pu_Cr (z_cv M 0) 0 nb r) (z_cv M 0 4 r) nm 1 := by
          rw [pb_cg a2 (0 + 1) (by omega), a4]
          rfl
        rw [ep]
        have hpb := pb_lt (C := pu_Cr (z_cv M 0) 0 nb r) (st := z_cv M 0 4 r) (nm := nm) 1
        generalize hq : (pu_pb (pu_Cr (z_cv M 0) 0 nb r) (z_cv M 0 4 r) nm 1).1 = b0 at hpb ⊢
        obtain ⟨b, hb, eb, ebn⟩ := pace_of (x := if 40 < nI (10 + b0) + d then 40 else nI (10 + b0) + d) (by
          have hb1 := (z_10 hpb).1
          grind)
        have hcc := hX0_leastFrom (X := X) M2 n nm b hn h1 w4 hb a1
        rw [← eb] at hcc
        refine z_uR hcc (by decide) ?_
        have el : pu_lf (M2.1 35) (M2.1 30 0 9) nm b = pu_lf (pu_Cr (z_cv M 0) 0 nb r) (z_cv M 0 4 r) nm b := by
          rw [lf_cg a2 h1 hb, a4]
          rfl
        rw [el]
        refine ⟨fun h5 => ?_, fun h5 => ?_⟩
        · refine ⟨a3, Or.inr ⟨r, hr, rfl, hd.1, hd.2, ?_⟩⟩
          unfold pu_early
          rw [if_neg (Int32.not_le.mpr h4), hq, ebn, if_neg (Int32.not_le.mpr h5)]
        · refine ⟨a3, Or.inr ⟨r, hr, rfl, hd.1, hd.2, ?_⟩⟩
          unfold pu_early
          rw [if_neg (Int32.not_le.mpr h4), hq, ebn, if_pos (Int32.not_lt.mp h5)]
      · exact ⟨a3, Or.inr ⟨r, hr, rfl, hd.1, hd.2, by unfold pu_early; rw [if_pos (Int32.not_lt.mp h4)]⟩⟩
    · exact ⟨z_Fr.refl, Or.inl ⟨fun w => absurd w.2 (by grind), rfl⟩⟩
/-- how far a rabbit goes here -/
def pu_till (V : Nat → Nat → Int32) (nm b : Nat) : Int32 := if nI nm < V 12 b then nI nm else V 12 b
def pu_stays (V : Nat → Nat → Int32) (nm nb r b : Nat) : Int32 :=
  if pu_lae (pu_Cr V 0 nb r) (V 4 r) (V 11 b - 10).toNatClampNeg (pu_till V nm b).toNatClampNeg < 0 then -1000000 else
  if 1000000000 ≤ pu_G (pu_Cr V 0 nb r) (V 4 r) nm (nm - (pu_till V nm b).toNatClampNeg) (pu_lae (pu_Cr V 0 nb r) (V 4 r) (V 11 b - 10).toNatClampNeg (pu_till V nm b).toNatClampNeg).toNatClampNeg then -1000000 else
  pu_till V nm b * (12000 / V 11 b) + pu_G (pu_Cr V 0 nb r) (V 4 r) nm (nm - (pu_till V nm b).toNatClampNeg) (pu_lae (pu_Cr V 0 nb r) (V 4 r) (V 11 b - 10).toNatClampNeg (pu_till V nm b).toNatClampNeg).toNatClampNeg
theorem lae_left {C : Nat → Nat → Int32} {st : Int32} {n b : Nat} (hs : st = nI n) (hn : n ≤ 99) : ∀ t, ¬ pu_lae C st b t < 0 → ∃ l, l ≤ n ∧ pu_lae C st b t = nI l := by
  intro t
  cases t with
  | zero => intro _; exact ⟨n, Nat.le_refl n, hs⟩
  | succ t =>
    intro h
    unfold pu_lae at h ⊢
    by_cases e : pu_lae C st b t < 0
    · rw [if_pos e] at h
      exact absurd e h
    · rw [if_neg e] at h ⊢
      exact lb_cases hs hn h
theorem hX9_stays {X : z_Cx} (M : z_M) (nm nr nb : Nat) (hW : z_Wc M nm nr nb) (ru rb : Int32) : z_Con X 4 mX9_stays [zr 0 0, zi ru, zi rb] M (fun v M' => z_Fr z_kA M M' ∧ ((¬ (pu_ru nr ru ∧ pu_ru nb rb) ∧ v = -1000001) ∨ (∃ r b, r < nr ∧ ru = nI r ∧ b < nb ∧ rb = nI b ∧ v = pu_stays (z_cv M 0) nm nb r b))) := by
  obtain ⟨w1, w2, w3, w4, w5, w6, w7, w8, w9, w10, w11⟩ := hW
  refine z_mg KX9_stays [] 80 (by decide +kernel) rfl ?_
  refine z_uR (hX2_hasRunner M 0 ru) (by decide) ?_
  refine ⟨fun h => ?_, fun h => ?_⟩ <;> rw [w2] at h
  · exact ⟨z_Fr.refl, Or.inl ⟨fun w => absurd w.1 (by unfold pu_ru; grind), rfl⟩⟩
  · have hru : pu_ru nr ru := by unfold pu_ru; grind
    obtain ⟨r, hr, er⟩ := ru_of (by omega) hru
    have h1 : 1 ≤ nm := by omega
    refine z_uR (hX9_within rb 0 (M.1 6 0 14 - 1) M) (by decide) ?_
    refine ⟨fun h3 => ?_, fun h3 => ?_⟩ <;> rw [w3] at h3
    · have hrb : pu_ru nb rb := by unfold pu_ru; grind
      obtain ⟨b, hb, eb⟩ := ru_of (by omega) hrb
      subst er
      subst eb
      have ebn : (nI b).toNatClampNeg = b := nI_clamp (by omega)
      obtain ⟨n, hn, en⟩ := w9 r hr
      obtain ⟨pp, hpp, epp⟩ := w10 b hb
      obtain ⟨tt, htt, ett⟩ := w11 b hb
      have e11 : z_cv M 0 11 b = nI (10 + pp) := epp
      have epn : (z_cv M 0 11 b - 10).toNatClampNeg = pp := by rw [e11]; exact (z_10 hpp).2
      have etl : ∃ T, T ≤ nm ∧ pu_till (z_cv M 0) nm b = nI T := by
        unfold pu_till
        rw [show z_cv M 0 12 b = nI tt from ett]
        by_cases e : nI nm < nI tt
        · rw [if_pos e]; exact ⟨nm, Nat.le_refl nm, rfl⟩
        · rw [if_neg e]
          refine ⟨tt, ?_, rfl⟩
          rw [nI_ltI (by omega) (by omega)] at e
          omega
      obtain ⟨T, hT, eT⟩ := etl
      refine z_use (gX0_face M 0 r nm nb 0 (by omega) w4 w6 w3 w1) (by decide) (fun _ M1 hF => ?_)
      have f6 : M1.1 6 0 1 = nI nm := by rw [hF.1.2 6 (by decide)]; exact w1
      have f18 : M1.1 18 0 b = nI (10 + pp) := by rw [hF.1.2 18 (by decide)]; exact epp
      have f19 : M1.1 19 = M.1 19 := hF.1.2 19 (by decide)
      refine ⟨vp_in_nI (by omega) (by omega), ?_⟩
      refine ⟨vp_in_nI (by omega) (by omega), ?_⟩
      rw [ebn, f6, f18, f19, show (if nI nm < M.1 19 0 b then nI nm else M.1 19 0 b) = nI T from eT]
      refine z_uR (hX0_leftAfterEven M1 pp T nm hpp hT w4 hF.2.1) (by decide) ?_
      have eL : pu_lae (M1.1 35) (M1.1 30 0 9) pp T = pu_lae (pu_Cr (z_cv M 0) 0 nb r) (z_cv M 0 4 r) pp T := by
        rw [lae_cg hF.2.2.2.2.2 hpp T hT, hF.2.2.1]
        rfl
      rw [eL]
      have eTn : (nI T).toNatClampNeg = T := nI_clamp (by omega)
      refine ⟨fun h4 => ?_, fun h4 => ?_⟩
      · obtain ⟨l, hl, el⟩ := lae_left (C := pu_Cr (z_cv M 0) 0 nb r) (st := z_cv M 0 4 r) (b := pp) en hn T (Int32.not_lt.mpr h4)
        refine z_use (hX0_solve M1 n nm hn w4 hF.2.1 (by rw [hF.2.2.1]; exact en) (fun k hk => by rw [hF.1.2 31 (by decide)]; exact w8 k hk)) (by decide) (fun _ M2 hv2 => ?_)
        obtain ⟨a1, a2, a3, a4⟩ := z_al hF en w8 hv2
        have eln : (nI l).toNatClampNeg = l := nI_clamp (by omega)
        refine ⟨vp_in_nI (by omega) (by omega), by rw [el]; exact vp_in_nI (by omega) (by omega), ?_⟩
        rw [eTn, el, eln]
        have eG : M2.1 40 T l = pu_G (pu_Cr (z_cv M 0) 0 nb r) (z_cv M 0 4 r) nm (nm - T) l := by
          rw [a1.2.2.2 T hT l hl, G_cg a2 (nm - T) (by omega), a4]
          rfl
        rw [eG]
        refine ⟨fun h5 => ?_, fun h5 => ?_⟩
        · have g18 : M2.1 18 0 (nI b).toNatClampNeg = nI (10 + pp) := by rw [ebn, a3.2 18 (by decide)]; exact epp
          refine ⟨vp_in_nI (by omega) (by omega), ?_⟩
          rw [g18]
          refine z_uR (hX9_secondsI _ M2 (z_10 hpp).1.1) (by decide) ?_
          refine ⟨a3, Or.inr ⟨r, b, hr, rfl, hb, rfl, ?_⟩⟩
          unfold pu_stays
          rw [epn, eT, eTn, if_neg (Int32.not_lt.mpr h4), el, eln, if_neg (Int32.not_le.mpr h5), e11]
        · refine ⟨a3, Or.inr ⟨r, b, hr, rfl, hb, rfl, ?_⟩⟩
          unfold pu_stays
          rw [epn, eT, eTn, if_neg (Int32.not_lt.mpr h4), el, eln, if_pos (Int32.not_lt.mp h5)]
      · refine ⟨hF.1.mono (by decide), Or.inr ⟨r, b, hr, rfl, hb, rfl, ?_⟩⟩
        unfold pu_stays
        rw [epn, eT, eTn, if_pos (Int32.not_le.mp h4)]
    · exact ⟨z_Fr.refl, Or.inl ⟨fun w => absurd w.2 (by unfold pu_ru; grind), rfl⟩⟩
