/-! ===== parts of a record: the model ===== -/
theorem lX10_parts3 {X : z_Cx} (M : z_M) (s x : Nat) (r1 r2 r3 wh sum : Int32) (G : Nat) (hG : 1 ≤ G) {R : Int32 → z_M → Prop} (hk : R (if wh = 0 then sum / nI G else 24 / nI G) (z_s M 46 0 7 0)) : ∀ (u y z : Nat), y ≤ u → z < 2 ^ 31 → y < 2 ^ 31 → Nat.gcd z y = G → z_Run X 3 mX10_parts R 228 [(0, zr 46 0), (1, zi r1), (2, zi r2), (3, zi r3), (4, zi wh), (5, zi sum), (6, zi (nI z)), (7, zi (nI y))] [] M := by
  have fin : ∀ z, z < 2 ^ 31 → Nat.gcd z 0 = G → z_Run X 3 mX10_parts R 228 [(0, zr 46 0), (1, zi r1), (2, zi r2), (3, zi r3), (4, zi wh), (5, zi sum), (6, zi (nI z)), (7, zi (nI 0))] [] M := by
    intro z hz hg
    rw [Nat.gcd_zero_right] at hg
    subst hg
    refine z_go_run KX10_parts [(228, [0, 1, 2, 3, 4, 5, 6, 7])] 60 ?_
    refine ⟨fun _ => ?_, fun w => absurd rfl w⟩
    refine ⟨fun h => ?_, fun h => ?_⟩
    · refine ⟨nI_ne0 (by omega) hz, ?_⟩
      refine z_uW (hX10_through M _) (by decide) ?_
      rw [if_neg h] at hk
      exact hk
    · refine ⟨nI_ne0 (by omega) hz, ?_⟩
      refine z_uW (hX10_through M _) (by decide) ?_
      rw [if_pos h] at hk
      exact hk
  intro u
  induction u with
  | zero =>
    intro y z h1 h2 h3 hg
    have e : y = 0 := by omega
    subst e
    exact fin z h2 hg
  | succ u ih =>
    intro y z h1 h2 h3 hg
    rcases Nat.eq_zero_or_pos y with e | e
    · subst e
      exact fin z h2 hg
    · have hne : ¬ nI y = 0 := nI_ne0 e h3
      have hm := Nat.mod_lt z e
      refine z_go_run KX10_parts [(228, [0, 1, 2, 3, 4, 5, 6, 7])] 60 ?_
      refine ⟨fun w => absurd w hne, fun _ => ?_⟩
      refine ⟨hne, ?_⟩
      have h6 := ih (z % y) y (by omega) h3 (by omega) (by rw [← hg, Nat.gcd_comm y (z % y), ← Nat.gcd_rec y z, Nat.gcd_comm])
      show z_Run X 3 _ _ 228 _ [] M
      exact z_Run.eq h6 (by rw [← nI_rem h2 e h3]) rfl
theorem lX10_parts2 {X : z_Cx} (M : z_M) {L S : Nat → Int32} {I : Nat → Nat → Int32} (hS : z_Sm L S I M) (s x h : Nat) (hs : s < 8) (hx : x + 16 ≤ 40) (hh : h < 4) (wh : Int32) {R : Int32 → z_M → Prop} (hk : z_Run X 3 mX10_parts R 209 [(0, zr 46 0), (1, zi (nI s)), (2, zi (nI x)), (3, zi (nI h)), (4, zi wh), (5, zi (pu_po (I s) x h 16))] [] M) : ∀ (u t : Nat), t + u = 16 → z_Run X 3 mX10_parts R 110 [(0, zr 46 0), (1, zi (nI s)), (2, zi (nI x)), (3, zi (nI h)), (4, zi wh), (5, zi (pu_po (I s) x h t)), (6, zi (nI t))] [] M := by
  intro u
  induction u with
  | zero =>
    intro t ht
    have e : t = 16 := by omega
    subst e
    refine z_go_run KX10_parts [(110, [0, 1, 2, 3, 4, 5, 6]), (209, [0, 1, 2, 3, 4, 5])] 60 ?_
    exact ⟨fun _ => hk, fun w => absurd (by decide) w⟩
  | succ u ih =>
    intro t ht
    have ht16 : t < 16 := by omega
    obtain ⟨p1, p2, p3, p4, p5⟩ := po_a h hh t ht16
    have pp := po_p t ht16
    have es : pu_po (I s) x h (t + 1) = pu_po (I s) x h t + pu_pt (I s) x h t := rfl
    have nx : ∀ y : Int32, y = pu_po (I s) x h (t + 1) → z_Run X 3 mX10_parts R 110 [(0, zr 46 0), (1, zi (nI s)), (2, zi (nI x)), (3, zi (nI h)), (4, zi wh), (5, zi y), (6, zi (nI t + 1))] [] M := by
      intro y hy
      rw [hy, nI_1]
      exact ih (t + 1) (by omega)
    refine z_go_run KX10_parts [(110, [0, 1, 2, 3, 4, 5, 6]), (170, [0, 1, 2, 3, 4, 5, 6]), (209, [0, 1, 2, 3, 4, 5])] 60 ?_
    refine ⟨fun w => absurd w (nI_ge (b := 16) (by omega) (by omega)), fun _ => ?_⟩
    refine ⟨fun g => ?_, fun g => ?_⟩
    · refine nx _ ?_
      rw [es]
      unfold pu_pt
      rw [if_neg (fun w => g (p2.mpr w)), Int32.add_zero]
    · have g2 := p2.mp g
      have g3 := p5 g2
      have go : z_Run X 3 mX10_parts R 170 [(0, zr 46 0), (1, zi (nI s)), (2, zi (nI x)), (3, zi (nI h)), (4, zi wh), (5, zi (pu_po (I s) x h t)), (6, zi (nI t))] [zi (pu_or (pu_pop t))] M := by
        refine z_go_run KX10_parts [(110, [0, 1, 2, 3, 4, 5, 6])] 60 ?_
        have hc1 : z_Con X 0 mX10_item [zr 46 0, zi (nI s), zi (nI x + nI t)] M (fun r M' => M' = M ∧ r = I s (x + t)) := by
          rw [nI_add]
          exact hX10_item M hS s (x + t) hs (by omega)
        have hc2 : z_Con X 0 mX10_item [zr 46 0, zi (nI s), zi (nI x + (nI t ||| (1 <<< (nI h &&& 31))))] M (fun r M' => M' = M ∧ r = I s (x + (t ||| 2 ^ h))) := by
          rw [p3, nI_add]
          exact hX10_item M hS s (x + (t ||| 2 ^ h)) hs (by omega)
        refine z_uR hc1 (by decide) ?_
        refine z_uR hc2 (by decide) ?_
        refine nx _ ?_
        rw [es]
        unfold pu_pt
        rw [if_pos g2]
      refine ⟨fun g4 => ?_, fun g4 => ?_⟩
      · have g5 : pu_pop t = 0 := by
          have g6 : nI (pu_pop t) = nI 0 := by rw [← pp]; exact g4
          exact (nI_eq (by omega) (by omega)).mp g6
        have e : pu_or (pu_pop t) = 6 := by unfold pu_or; rw [if_pos (Or.inl g5)]
        rw [e] at go
        exact go
      · have g5 : ¬ pu_pop t = 0 := by
          intro w
          apply g4
          show _ = nI 0
          rw [← w]
          exact pp
        refine ⟨fun g6 => ?_, fun g6 => ?_⟩
        · have g7 : ¬ pu_pop t = 3 := by
            intro w
            apply g6
            show _ = nI 3
            rw [← w]
            exact pp
          have e : pu_or (pu_pop t) = 2 := by unfold pu_or; rw [if_neg (fun w => w.elim g5 g7)]
          rw [e] at go
          exact go
        · have g7 : pu_pop t = 3 := by
            have g8 : nI (pu_pop t) = nI 3 := by rw [← pp]; exact g6
            exact (nI_eq (by omega) (by omega)).mp g8
          have e : pu_or (pu_pop t) = 6 := by unfold pu_or; rw [if_pos (Or.inr g7)]
          rw [e] at go
          exact go
theorem lX10_parts1 {X : z_Cx} (M : z_M) {L S : Nat → Int32} {I : Nat → Nat → Int32} (hS : z_Sm L S I M) (s x h : Nat) (hs : s < 8) (hx : x + 16 ≤ 40) (hh : h < 4) (wh : Int32) : ∀ (u t : Nat), t + u = 16 → pu_iw (I s) 0 99999 x t = true → z_Run X 3 mX10_parts (fun v M' => (pu_iw (I s) 0 99999 x 16 = false ∧ v = -1000001 ∧ M' = M) ∨ (pu_iw (I s) 0 99999 x 16 = true ∧ v = pu_parts (I s) x h wh ∧ M' = z_s M 46 0 7 0)) 68 [(0, zr 46 0), (1, zi (nI s)), (2, zi (nI x)), (3, zi (nI h)), (4, zi wh), (5, zi (nI t))] [] M := by
  intro u
  induction u with
  | zero =>
    intro t ht hw
    have e : t = 16 := by omega
    subst e
    refine z_go_run KX10_parts [(68, [0, 1, 2, 3, 4, 5]), (110, [0, 1, 2, 3, 4, 5, 6])] 60 ?_
    refine ⟨fun _ => ?_, fun w => absurd (by decide) w⟩
    refine lX10_parts2 M hS s x h hs hx hh wh ?_ 16 0 (by omega)
    have bd := po_bd (f := I s) (x := x) (h := h) hh (iw_at 16 hw) 16 (Nat.le_refl 16)
    have ab := abs_nI (x := pu_po (I s) x h 16) bd.1 bd.2
    have g24 := gcd24 (pu_po (I s) x h 16).toInt.natAbs
    have go := lX10_parts3 (X := X) (R := fun v M' => (pu_iw (I s) 0 99999 x 16 = false ∧ v = -1000001 ∧ M' = M) ∨ (pu_iw (I s) 0 99999 x 16 = true ∧ v = pu_parts (I s) x h wh ∧ M' = z_s M 46 0 7 0)) M s x (nI s) (nI x) (nI h) wh (pu_po (I s) x h 16) (Nat.gcd (pu_po (I s) x h 16).toInt.natAbs 24) g24.1 (Or.inr ⟨hw, rfl, rfl⟩) 24 24 (pu_po (I s) x h 16).toInt.natAbs (by omega) (by omega) (by omega) rfl
    refine z_go_run KX10_parts [(228, [0, 1, 2, 3, 4, 5, 6, 7])] 60 ?_
    refine ⟨fun g => ?_, fun g => ?_⟩
    · rw [← ab.1 g] at go
      exact go
    · rw [← (ab.2.1 (Int32.not_le.mp g)).1] at go
      exact go
  | succ u ih =>
    intro t ht hw
    refine z_go_run KX10_parts [(68, [0, 1, 2, 3, 4, 5])] 60 ?_
    refine ⟨fun w => absurd w (nI_ge (b := 16) (by omega) (by omega)), fun _ => ?_⟩
    have hcn : z_Con X 0 mX10_item [zr 46 0, zi (nI s), zi (nI x + nI t)] M (fun r M' => M' = M ∧ r = I s (x + t)) := by
      rw [nI_add]
      exact hX10_item M hS s (x + t) hs (by omega)
    refine z_uR hcn (by decide) ?_
    refine z_uR (hX10_inI M (I s (x + t)) 0 99999 (by decide) (by decide)) (by decide) ?_
    have es : pu_iw (I s) 0 99999 x (t + 1) = (pu_iw (I s) 0 99999 x t && decide (0 ≤ I s (x + t) ∧ I s (x + t) ≤ 99999)) := rfl
    refine ⟨fun g => ?_, fun g => ?_⟩
    · have h3 := ih (t + 1) (by omega) (by rw [es, hw, Bool.true_and]; exact decide_eq_true (by grind))
      rw [← nI_1] at h3
      exact h3
    · have h1 : pu_iw (I s) 0 99999 x (t + 1) = false := by rw [es, hw, Bool.true_and]; exact decide_eq_false (by grind)
      have h2 := iw_false h1 u
      rw [show t + 1 + u = 16 by omega] at h2
      exact Or.inl ⟨h2, rfl, rfl⟩
theorem hX10_parts {X : z_Cx} (M : z_M) {L S : Nat → Int32} {I : Nat → Nat → Int32} (hS : z_Sm L S I M) (s i he wh : Int32) : z_Con X 3 mX10_parts [zr 46 0, zi s, zi i, zi he, zi wh] M (fun v M' =>
    (¬ ((0 ≤ s ∧ s ≤ 7) ∧ (0 ≤ he ∧ he ≤ 3) ∧ 0 ≤ wh ∧ wh ≤ 1) ∧ v = -1000001 ∧ M' = M) ∨
    ((0 ≤ s ∧ s ≤ 7) ∧ (0 ≤ he ∧ he ≤ 3) ∧ (0 ≤ wh ∧ wh ≤ 1) ∧ ¬ pu_fd L S s i 16 = 0 ∧ v = -1000010 - pu_fd L S s i 16 ∧ M' = z_s M 46 0 7 (pu_fd L S s i 16)) ∨
    ((0 ≤ s ∧ s ≤ 7) ∧ (0 ≤ wh ∧ wh ≤ 1) ∧ pu_fd L S s i 16 = 0 ∧ ∃ x h, i = nI x ∧ x + 16 ≤ 40 ∧ h < 4 ∧ he = nI h ∧ ((pu_iw (I s.toNatClampNeg) 0 99999 x 16 = false ∧ v = -1000001 ∧ M' = M) ∨ (pu_iw (I s.toNatClampNeg) 0 99999 x 16 = true ∧ v = pu_parts (I s.toNatClampNeg) x h wh ∧ M' = z_s M 46 0 7 0)))) := by
  refine z_mg KX10_parts [(68, [0, 1, 2, 3, 4, 5])] 90 (by decide +kernel) rfl ?_
  refine z_uR (hX10_isSheet M s) (by decide) ?_
  refine ⟨fun h1 => Or.inl ⟨by grind, rfl, rfl⟩, fun h1 => ?_⟩
  have hv : 0 ≤ s ∧ s ≤ 7 := by grind
  refine z_uR (hX10_inI M he 0 3 (by decide) (by decide)) (by decide) ?_
  refine ⟨fun h1 => Or.inl ⟨by grind, rfl, rfl⟩, fun h2 => ?_⟩
  have hhe : 0 ≤ he ∧ he ≤ 3 := by grind
  refine z_uR (hX10_inI M wh 0 1 (by decide) (by decide)) (by decide) ?_
  refine ⟨fun h3 => ?_, fun h1 => Or.inl ⟨by grind, rfl, rfl⟩⟩
  have hw : 0 ≤ wh ∧ wh ≤ 1 := by grind
  obtain ⟨s', hs, es, es2⟩ := s_of hv
  obtain ⟨h', hh, eh⟩ := nI_of2 (x := he) (M := 3) (n := 3) (by decide) (Int32.not_lt.mpr hhe.1) hhe.2
  subst es eh
  have ht := Sm_there hS hs
  unfold pu_fd
  rw [es2]
  refine ⟨vp_in_nI (by omega) (by omega), ?_⟩
  rw [es2]
  refine ⟨fun h5 => ?_, fun h5 => ?_⟩
  · have hl : ¬ L s' = -1 := fun w => h5 (ht.mpr w)
    obtain ⟨b1, b2, b3, b4⟩ := (hS s' hs).2.1 hl
    refine z_uR (hX10_holds M hS s' hs hl i 16) (by decide) ?_
    refine ⟨fun h6 => ?_, fun h6 => ?_⟩
    · have g1 : 0 ≤ i ∧ 0 ≤ (16 : Int32) ∧ i ≤ S s' - 16 := by grind
      obtain ⟨x, c2, ex, ec2, hxc⟩ := in_of g1 b4
      have ecc : c2 = 16 := ((nI_eq (a := 16) (by omega) (by omega)).mp ec2).symm
      subst ecc
      subst ex
      refine z_Run.post (lX10_parts1 (X := X) M hS s' x h' hs hxc (by omega) wh 16 0 (by omega) rfl) ?_
      rintro v M' w
      refine Or.inr (Or.inr ⟨hv, hw, ?_, x, h', rfl, hxc, by omega, rfl, w⟩)
      rw [if_neg hl, if_pos g1]
    · refine z_uW (hX10_found M 2) (by decide) ?_
      have e : (if L s' = -1 then 1 else if 0 ≤ i ∧ 0 ≤ (16 : Int32) ∧ i ≤ S s' - 16 then 0 else 2) = (2 : Int32) := by rw [if_neg hl, if_neg (by grind)]
      rw [e]
      exact Or.inr (Or.inl ⟨hv, hhe, hw, by decide, rfl, rfl⟩)
  · refine z_uW (hX10_found M 1) (by decide) ?_
    rw [if_pos (ht.mp h5)]
    exact Or.inr (Or.inl ⟨hv, hhe, hw, by decide, rfl, rfl⟩)
