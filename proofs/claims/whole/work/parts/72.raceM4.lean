/-! ===== the model's race, from its call on ===== -/
theorem lX10_race2 {X : z_Cx} (M : z_M) {V : Nat → Nat → Int32} {nm nr nb : Nat} (hN : z_CR V nm nr nb (z_nw M)) {L S : Nat → Int32} {I : Nat → Nat → Int32} (hS : z_Sm L S I M) {s x : Nat} {sd : Int32} (hs : s < 8) (hx : x + nr ≤ 40) {R : Int32 → z_M → Prop} (hk : ∀ Mc, z_Fm [] [56, 59] M Mc → (∀ r, r < nr → Mc.1 56 0 r = I s (x + r)) → (∀ r, Mc.1 59 0 r = if r < nr then 1 else M.1 59 0 r) → z_Run X 4 mX10_race R 148 [(0, zr 46 0), (3, zi sd)] [] Mc) : ∀ (u t : Nat) (Mc : z_M), t + u = nr → z_Fm [] [56, 59] M Mc → (∀ r, r < t → Mc.1 56 0 r = I s (x + r)) → (∀ r, Mc.1 59 0 r = if r < t then 1 else M.1 59 0 r) → z_Run X 4 mX10_race R 109 [(0, zr 46 0), (1, zi (nI s)), (2, zi (nI x)), (3, zi sd), (4, zi (nI t))] [] Mc := by
  have h4 := hN.1.2.1
  intro u
  induction u with
  | zero =>
    intro t Mc ht hF h1 h2
    have e : t = nr := by omega
    subst e
    have hNc : z_CR V nm t nb (z_nw Mc) := by rw [nw_fm hF (by decide)]; exact hN
    refine z_go_run KX10_race [(109, [0, 1, 2, 3, 4]), (148, [0, 3])] 80 ?_
    refine z_uR (hX10_runners Mc hNc) (by decide) ?_
    exact ⟨fun _ => hk Mc hF h1 h2, fun h => absurd (Int32.le_refl _) h⟩
  | succ u ih =>
    intro t Mc ht hF h1 h2
    have hNc : z_CR V nm nr nb (z_nw Mc) := by rw [nw_fm hF (by decide)]; exact hN
    have et : (nI t).toNatClampNeg = t := nI_clamp (by omega)
    have vt : vp_in (nI t) 4 := vp_in_nI (by omega) (by omega)
    refine z_go_run KX10_race [(109, [0, 1, 2, 3, 4]), (148, [0, 3])] 80 ?_
    refine z_uR (hX10_runners Mc hNc) (by decide) ?_
    refine ⟨fun h => absurd h (nI_ge (by omega) (by omega)), fun h => ?_⟩
    have hc : z_Con X 0 mX10_item [zr 46 0, zi (nI s), zi (nI x + nI t)] Mc (fun r M' => M' = Mc ∧ r = I s (x + t)) := by
      rw [nI_add]
      exact hX10_item Mc (hS.fr hF (by decide) (by decide) (by decide) (by decide)) s (x + t) hs (by omega)
    refine z_uR hc (by decide) ?_
    refine ⟨vt, vt, Or.inr rfl, ?_⟩
    rw [et]
    have h3 := ih (t + 1) (z_s (z_s Mc 56 0 t (I s (x + t))) 59 0 t 1) (by omega) ((hF.s (by decide) (by decide)).s (by decide) (by decide)) (fun r hr => by
      rw [z_gs, if_neg (by omega), z_gs]
      by_cases e : r = t
      · rw [if_pos ⟨rfl, rfl, e⟩, e]
      · rw [if_neg (fun w => e w.2.2)]
        exact h1 r (by omega)) (fun r => by
      rw [z_gs]
      by_cases e : r = t
      · rw [if_pos ⟨rfl, rfl, e⟩, if_pos (by omega)]
      · rw [if_neg (fun w => e w.2.2), z_gs, if_neg (by omega), h2 r]
        by_cases w : r < t
        · rw [if_pos w, if_pos (by omega)]
        · rw [if_neg w, if_neg (by omega)])
    rw [← nI_1] at h3
    exact h3
theorem lX10_race1 {X : z_Cx} (M : z_M) {V : Nat → Nat → Int32} {nm nr nb : Nat} (hN : z_CR V nm nr nb (z_nw M)) (h0 : z_H0 M) {L S : Nat → Int32} {I : Nat → Nat → Int32} (hS : z_Sm L S I M) {s x seed : Nat} (hs : s < 8) (hx : x + nr ≤ 40) (hsd : seed ≤ 999999) (h1 : 1 ≤ nr) : ∀ (u t : Nat), t + u = nr → pu_iw (I s) 10 40 x t = true → z_Run X 4 mX10_race (fun v M' => (pu_iw (I s) 10 40 x nr = false ∧ v = -1000001 ∧ M' = M) ∨ (pu_iw (I s) 10 40 x nr = true ∧ v = nI (pu_win (pu_rs V nr seed (fun r => I s (x + r)) nm).2.1 nr) ∧ z_Rn V nm nr seed (fun r => I s (x + r)) M M')) 69 [(0, zr 46 0), (1, zi (nI s)), (2, zi (nI x)), (3, zi (nI seed)), (4, zi (nI t))] [] M := by
  have h4 := hN.1.2.1
  intro u
  induction u with
  | zero =>
    intro t ht hw
    have e : t = nr := by omega
    subst e
    refine z_go_run KX10_race [(69, [0, 1, 2, 3, 4]), (109, [0, 1, 2, 3, 4])] 80 ?_
    refine z_uR (hX10_runners M hN) (by decide) ?_
    refine ⟨fun _ => ?_, fun h => absurd (Int32.le_refl _) h⟩
    refine z_use (hX10_startRace M) (by decide) (fun _ M1 k => ?_)
    obtain ⟨k1, k2⟩ := k
    have hN1 : z_CR V nm t nb (z_nw M1) := by rw [nw_fm k1 (by decide)]; exact hN
    refine lX10_race2 (I := I) M1 hN1 (hS.fr k1 (by decide) (by decide) (by decide) (by decide)) hs hx (fun M2 g1 g2 g3 => ?_) t 0 M1 (by omega) z_Fm.refl (fun r hr => absurd hr (Nat.not_lt_zero r)) (fun r => by rw [if_neg (Nat.not_lt_zero r)])
    have n2 : z_nw M2 = z_nw M := by rw [nw_fm g1 (by decide), nw_fm k1 (by decide)]
    have hN2 : z_CR V nm t nb (z_nw M2) := by rw [n2]; exact hN
    have h02 : z_H0 M2 := (h0.fm k1 (by decide)).fm g1 (by decide)
    have f02 : z_Fm [] [56, 57, 58, 59] M M2 := (k1.mono (by decide) (by decide)).trans (g1.mono (by decide) (by decide))
    refine z_go_run KX10_race [(155, [0, 3, 4, 6])] 80 ?_
    have h3 := lX10_raceM (X := X) (P0 := fun r => I s (x + r)) M M2 hN2 h02 f02 hsd (iw_at t hw) (fun r hr => by rw [g3 r, (k2 r hr).2.2]) h1 nm 0 M2 (by omega) z_Fm.refl (fun r hr => by
      refine ⟨?_, ?_, g2 r hr⟩
      · rw [g1.2.1 57 (by decide) (by decide), (k2 r (by omega)).1]
        exact (hN.2.2.1 r hr).2.1
      · rw [g1.2.1 58 (by decide) (by decide), (k2 r (by omega)).2.1]
        rfl) (fun y hy => rfl) (fun r hr m' hm' => absurd hm' (Nat.not_lt_zero m'))
    have el : lN (pu_rs V t seed (fun r => I s (x + r)) 0).2.2.2 = (nI seed).toInt64 := by
      rw [nI_l (by omega)]
      rfl
    rw [el] at h3
    refine z_Run.post h3 ?_
    rintro v M' ⟨e1, e2⟩
    exact Or.inr ⟨hw, e1, e2⟩
  | succ u ih =>
    intro t ht hw
    refine z_go_run KX10_race [(69, [0, 1, 2, 3, 4]), (109, [0, 1, 2, 3, 4])] 80 ?_
    refine z_uR (hX10_runners M hN) (by decide) ?_
    refine ⟨fun h => absurd h (nI_ge (by omega) (by omega)), fun h => ?_⟩
    have hc : z_Con X 0 mX10_item [zr 46 0, zi (nI s), zi (nI x + nI t)] M (fun r M' => M' = M ∧ r = I s (x + t)) := by
      rw [nI_add]
      exact hX10_item M hS s (x + t) hs (by omega)
    refine z_uR hc (by decide) ?_
    refine z_uR (hX10_isPace M (I s (x + t))) (by decide) ?_
    have es : pu_iw (I s) 10 40 x (t + 1) = (pu_iw (I s) 10 40 x t && decide (10 ≤ I s (x + t) ∧ I s (x + t) ≤ 40)) := rfl
    refine ⟨fun g => ?_, fun g => ?_⟩
    · have h3 := ih (t + 1) (by omega) (by rw [es, hw, Bool.true_and]; exact decide_eq_true (by grind))
      rw [← nI_1] at h3
      exact h3
    · have h1 : pu_iw (I s) 10 40 x (t + 1) = false := by rw [es, hw, Bool.true_and]; exact decide_eq_false (by grind)
      have h2 := iw_false h1 u
      rw [show t + 1 + u = nr by omega] at h2
      exact Or.inl ⟨h2, rfl, rfl⟩
theorem hX10_race {X : z_Cx} (M : z_M) {V : Nat → Nat → Int32} {nm nr nb : Nat} (hN : z_CR V nm nr nb (z_nw M)) (h0 : z_H0 M) {L S : Nat → Int32} {I : Nat → Nat → Int32} (hS : z_Sm L S I M) (s i sd : Int32) : z_Con X 4 mX10_race [zr 46 0, zi s, zi i, zi sd] M (fun v M' =>
    (¬ ((0 ≤ s ∧ s ≤ 7) ∧ 0 ≤ sd ∧ sd ≤ 999999) ∧ v = -1000001 ∧ M' = M) ∨
    (((0 ≤ s ∧ s ≤ 7) ∧ 0 ≤ sd ∧ sd ≤ 999999) ∧ nm = 0 ∧ v = -1000002 ∧ M' = M) ∨
    (((0 ≤ s ∧ s ≤ 7) ∧ 0 ≤ sd ∧ sd ≤ 999999) ∧ ¬ nm = 0 ∧ ¬ pu_fd L S s i (nI nr) = 0 ∧ v = -1000010 - pu_fd L S s i (nI nr) ∧ M' = z_s M 46 0 7 (pu_fd L S s i (nI nr))) ∨
    (((0 ≤ s ∧ s ≤ 7) ∧ 0 ≤ sd ∧ sd ≤ 999999) ∧ ¬ nm = 0 ∧ pu_fd L S s i (nI nr) = 0 ∧ ∃ x seed, i = nI x ∧ x + nr ≤ 40 ∧ sd = nI seed ∧ seed ≤ 999999 ∧ ((pu_iw (I s.toNatClampNeg) 10 40 x nr = false ∧ v = -1000001 ∧ M' = M) ∨ (pu_iw (I s.toNatClampNeg) 10 40 x nr = true ∧ v = nI (pu_win (pu_rs V nr seed (fun r => I s.toNatClampNeg (x + r)) nm).2.1 nr) ∧ z_Rn V nm nr seed (fun r => I s.toNatClampNeg (x + r)) M M')))) := by
  have h12 := hN.1.1
  have h4 := hN.1.2.1
  refine z_mg KX10_race [(69, [0, 1, 2, 3, 4])] 80 (by decide +kernel) rfl ?_
  refine z_uR (hX10_isSheet M s) (by decide) ?_
  refine ⟨fun h1 => Or.inl ⟨by grind, rfl, rfl⟩, fun h1 => ?_⟩
  have hv : 0 ≤ s ∧ s ≤ 7 := by grind
  refine z_uR (hX10_inI M sd 0 999999 (by decide) (by decide)) (by decide) ?_
  refine ⟨fun h2 => ?_, fun h2 => Or.inl ⟨by grind, rfl, rfl⟩⟩
  have hsd : 0 ≤ sd ∧ sd ≤ 999999 := by grind
  refine z_uR (hX10_miles M hN) (by decide) ?_
  refine ⟨fun h3 => ?_, fun h3 => Or.inr (Or.inl ⟨⟨hv, hsd⟩, by
    rcases Nat.eq_zero_or_pos nm with w | w
    · exact w
    · exact absurd h3 (nI_ne0 w (by omega)), rfl, rfl⟩)⟩
  have hn0 : ¬ nm = 0 := fun w => h3 (by rw [w]; rfl)
  have h1r : 1 ≤ nr := hN.1.2.2.2.2.2.2.1 (by omega)
  obtain ⟨s', hs, es, es2⟩ := s_of hv
  obtain ⟨seed, hse, ese⟩ := nI_of2 (x := sd) (M := 999999) (n := 999999) (by decide) (Int32.not_lt.mpr hsd.1) hsd.2
  subst es ese
  have ht := Sm_there hS hs
  unfold pu_fd
  rw [es2]
  refine ⟨vp_in_nI (by omega) (by omega), ?_⟩
  rw [es2]
  refine ⟨fun h5 => ?_, fun h5 => ?_⟩
  · have hl : ¬ L s' = -1 := fun w => h5 (ht.mpr w)
    obtain ⟨b1, b2, b3, b4⟩ := (hS s' hs).2.1 hl
    refine z_uR (hX10_runners M hN) (by decide) ?_
    refine z_uR (hX10_holds M hS s' hs hl i (nI nr)) (by decide) ?_
    refine ⟨fun h6 => ?_, fun h6 => ?_⟩
    · have g1 : 0 ≤ i ∧ 0 ≤ nI nr ∧ i ≤ S s' - nI nr := by grind
      obtain ⟨x, c2, ex, ec2, hxc⟩ := in_of g1 b4
      have ecc : c2 = nr := ((nI_eq (by omega) (by omega)).mp ec2).symm
      subst ecc
      subst ex
      refine z_Run.post (lX10_race1 (X := X) M hN h0 hS hs hxc hse h1r c2 0 (by omega) rfl) ?_
      rintro v M' w
      refine Or.inr (Or.inr (Or.inr ⟨⟨hv, hsd⟩, hn0, ?_, x, seed, rfl, hxc, rfl, hse, w⟩))
      rw [if_neg hl, if_pos g1]
    · refine z_uW (hX10_found M 2) (by decide) ?_
      have e : (if L s' = -1 then 1 else if 0 ≤ i ∧ 0 ≤ nI nr ∧ i ≤ S s' - nI nr then 0 else 2) = (2 : Int32) := by rw [if_neg hl, if_neg (by grind)]
      rw [e]
      exact Or.inr (Or.inr (Or.inl ⟨⟨hv, hsd⟩, hn0, by decide, rfl, rfl⟩))
  · refine z_uW (hX10_found M 1) (by decide) ?_
    rw [if_pos (ht.mp h5)]
    exact Or.inr (Or.inr (Or.inl ⟨⟨hv, hsd⟩, hn0, by decide, rfl, rfl⟩))
/-! the rule of feeling -/
theorem lX10_felt {X : z_Cx} (M : z_M) {V : Nat → Nat → Int32} {nm nr nb : Nat} (hN : z_CR V nm nr nb (z_nw M)) (h0 : z_H0 M) {r : Nat} (hr : r < nr) {p0 lo hi : Int32} (hp0 : 10 ≤ p0 ∧ p0 ≤ 40) : ∀ (u m : Nat) (Mc : z_M), m + u = nm → z_Fm [24, 25] [56, 57, 58, 59] M Mc → Mc.1 57 0 r = (pu_fs V r p0 lo hi m).1 → Mc.1 58 0 r = (pu_fs V r p0 lo hi m).2.1 → Mc.1 56 0 r = (pu_fs V r p0 lo hi m).2.2 → z_Run X 3 mX10_feltTime (fun v M' => z_Fm [24, 25] [56, 57, 58, 59] M M' ∧ v = (pu_fs V r p0 lo hi nm).2.1) 14 [(0, zr 46 0), (1, zi (nI r)), (2, zi p0), (3, zi lo), (4, zi hi), (5, zi (nI m))] [] Mc := by
  have h4 := hN.1.2.1
  have h12 := hN.1.1
  have er : (nI r).toNatClampNeg = r := nI_clamp (by omega)
  have vr : vp_in (nI r) 4 := vp_in_nI (by omega) (by omega)
  intro u
  induction u with
  | zero =>
    intro m Mc ht hF e57 e58 e56
    have e : m = nm := by omega
    subst e
    have hNc : z_CR V m nr nb (z_nw Mc) := by rw [nw_fm hF (by decide)]; exact hN
    refine z_go_run KX10_feltTime [(14, [0, 1, 2, 3, 4, 5])] 80 ?_
    refine z_uR (hX10_miles Mc hNc) (by decide) ?_
    refine ⟨fun _ => ?_, fun h => absurd (Int32.le_refl _) h⟩
    exact ⟨vr, hF, by rw [er]; exact e58⟩
  | succ u ih =>
    intro m Mc ht hF e57 e58 e56
    have hNc : z_CR V nm nr nb (z_nw Mc) := by rw [nw_fm hF (by decide)]; exact hN
    have e57' : Mc.1 57 0 (nI r).toNatClampNeg = (pu_fs V r p0 lo hi m).1 := by rw [er]; exact e57
    have e56' : Mc.1 56 0 (nI r).toNatClampNeg = (pu_fs V r p0 lo hi m).2.2 := by rw [er]; exact e56
    have ok := fs_ok (p0 := p0) (lo := lo) (hi := hi) (store_bd hN hr).1 m (by omega)
    have go : ∀ d : Int32, d = (if (pu_fs V r p0 lo hi m).1 < lo then -1 else if hi < (pu_fs V r p0 lo hi m).1 then 1 else 0) → z_Run X 3 mX10_feltTime (fun v M' => z_Fm [24, 25] [56, 57, 58, 59] M M' ∧ v = (pu_fs V r p0 lo hi nm).2.1) 53 [(0, zr 46 0), (1, zi (nI r)), (2, zi p0), (3, zi lo), (4, zi hi), (5, zi (nI m))] [zi d] Mc := by
      intro d ed
      refine z_go_run KX10_feltTime [(14, [0, 1, 2, 3, 4, 5])] 80 ?_
      refine ⟨vr, ?_⟩
      rw [e56']
      refine z_uR (hX10_brought Mc _) (by decide) ?_
      refine ⟨vr, ?_⟩
      rw [er]
      have fp : z_Fm [24, 25] [56, 57, 58, 59] Mc (z_s Mc 56 0 r (pu_cl ((pu_fs V r p0 lo hi m).2.2 + d))) := (z_Fm.refl).s (by decide) (by decide)
      have hN1 : z_CR V nm nr nb (z_nw (z_s Mc 56 0 r (pu_cl ((pu_fs V r p0 lo hi m).2.2 + d)))) := by rw [nw_fm fp (by decide)]; exact hNc
      have h01 : z_H0 (z_s Mc 56 0 r (pu_cl ((pu_fs V r p0 lo hi m).2.2 + d))) := (h0.fm hF (by decide)).fm fp (by decide)
      refine z_uV (hX10_goMile (z_s Mc 56 0 r (pu_cl ((pu_fs V r p0 lo hi m).2.2 + d))) hN1 h01 r m hr (by omega) (pu_cl ((pu_fs V r p0 lo hi m).2.2 + d)) 0 (pu_fs V r p0 lo hi m).1 (by rw [z_gs, if_neg (by omega)]; exact e57) (by rw [z_gs, if_pos ⟨rfl, rfl, rfl⟩]) ok.1 (cl_bd _)) (by decide) (fun _ => ?_)
      refine ⟨vr, vr, ?_⟩
      rw [er]
      have g24 : (z_gm V r m (pu_cl ((pu_fs V r p0 lo hi m).2.2 + d)) 0 (pu_fs V r p0 lo hi m).1 (z_s Mc 56 0 r (pu_cl ((pu_fs V r p0 lo hi m).2.2 + d)))).1 46 0 24 = pu_s1 V r m (pu_cl ((pu_fs V r p0 lo hi m).2.2 + d)) 0 (pu_fs V r p0 lo hi m).1 := by unfold z_gm; rw [z_gs, if_pos ⟨rfl, rfl, rfl⟩]
      have g58 : (z_gm V r m (pu_cl ((pu_fs V r p0 lo hi m).2.2 + d)) 0 (pu_fs V r p0 lo hi m).1 (z_s Mc 56 0 r (pu_cl ((pu_fs V r p0 lo hi m).2.2 + d)))).1 58 0 r = (pu_fs V r p0 lo hi m).2.1 := by unfold z_gm; rw [z_gs, if_neg (by omega), z_gs, if_neg (by omega), z_gs, if_neg (by omega), z_gs, if_neg (by omega)]; exact e58
      rw [g24, g58]
      have h3 := ih (m + 1) (z_s (z_gm V r m (pu_cl ((pu_fs V r p0 lo hi m).2.2 + d)) 0 (pu_fs V r p0 lo hi m).1 (z_s Mc 56 0 r (pu_cl ((pu_fs V r p0 lo hi m).2.2 + d)))) 58 0 r ((pu_fs V r p0 lo hi m).2.1 + pu_s1 V r m (pu_cl ((pu_fs V r p0 lo hi m).2.2 + d)) 0 (pu_fs V r p0 lo hi m).1)) (by omega) (by
        unfold z_gm
        exact ((((((hF.trans fp)).s46 (by decide)).s (by decide) (by decide)).s46 (by decide)).s (by decide) (by decide))) (by
        show _ = (pu_fn V r m lo hi (pu_fs V r p0 lo hi m)).1
        rw [fn_1, ← ed, z_gs, if_neg (by omega)]
        unfold z_gm
        rw [z_gs, if_neg (by omega), z_gs, if_pos ⟨rfl, rfl, rfl⟩]) (by
        show _ = (pu_fn V r m lo hi (pu_fs V r p0 lo hi m)).2.1
        rw [fn_2, ← ed, z_gs, if_pos ⟨rfl, rfl, rfl⟩]) (by
        show _ = (pu_fn V r m lo hi (pu_fs V r p0 lo hi m)).2.2
        rw [fn_3, ← ed, z_gs, if_neg (by omega)]
        unfold z_gm
        rw [z_gs, if_neg (by omega), z_gs, if_neg (by omega), z_gs, if_neg (by omega), z_gs, if_pos ⟨rfl, rfl, rfl⟩])
      rw [← nI_1] at h3
      exact h3
    refine z_go_run KX10_feltTime [(14, [0, 1, 2, 3, 4, 5]), (53, [0, 1, 2, 3, 4, 5])] 80 ?_
    refine z_uR (hX10_miles Mc hNc) (by decide) ?_
    refine ⟨fun h => absurd h (nI_ge (by omega) (by omega)), fun h => ?_⟩
    refine ⟨vr, ?_⟩
    rw [e57']
    refine ⟨fun g => ?_, fun g => ?_⟩
    · refine ⟨fun g2 => go 0 (by rw [if_neg (Int32.not_lt.mpr g), if_neg (Int32.not_lt.mpr g2)]), fun g2 => go 1 (by rw [if_neg (Int32.not_lt.mpr g), if_pos (Int32.not_le.mp g2)])⟩
    · exact go (-1) (by rw [if_pos (Int32.not_le.mp g)])
theorem hX10_felt {X : z_Cx} (M : z_M) {V : Nat → Nat → Int32} {nm nr nb : Nat} (hN : z_CR V nm nr nb (z_nw M)) (h0 : z_H0 M) {r : Nat} (hr : r < nr) (p0 lo hi : Int32) (hp0 : 10 ≤ p0 ∧ p0 ≤ 40) : z_Con X 3 mX10_feltTime [zr 46 0, zi (nI r), zi p0, zi lo, zi hi] M (fun v M' => z_Fm [24, 25] [56, 57, 58, 59] M M' ∧ v = (pu_fs V r p0 lo hi nm).2.1) := by
  have h4 := hN.1.2.1
  refine z_mg KX10_feltTime [(14, [0, 1, 2, 3, 4, 5])] 80 (by decide +kernel) rfl ?_
  refine z_use (hX10_startRace M) (by decide) (fun _ M1 k => ?_)
  obtain ⟨k1, k2⟩ := k
  refine ⟨vp_in_nI (by omega) (by omega), ?_⟩
  rw [nI_clamp (by omega)]
  refine lX10_felt M hN h0 hr hp0 nm 0 _ (by omega) ((k1.mono (by decide) (by decide)).s (by decide) (by decide)) ?_ ?_ ?_
  · rw [z_gs, if_neg (by omega), (k2 r (by omega)).1]
    exact (hN.2.2.1 r hr).2.1
  · rw [z_gs, if_neg (by omega), (k2 r (by omega)).2.1]
    rfl
  · rw [z_gs, if_pos ⟨rfl, rfl, rfl⟩]
    rfl
theorem ix10m {t : Nat} (ht : t < 100) : 10 * (nI t / 10) = nI (t / 10 * 10) ∧ 10 * (nI t - nI t / 10 * 10) = nI (t % 10 * 10) := by
  obtain ⟨e1, e2⟩ := ix10 ht
  exact ⟨by rw [Int32.mul_comm]; exact e1, by rw [Int32.mul_comm]; exact e2⟩
theorem lX10_feeling {X : z_Cx} (M : z_M) {V : Nat → Nat → Int32} {nm nr nb : Nat} (hN : z_CR V nm nr nb (z_nw M)) (h0 : z_H0 M) {r : Nat} (hr : r < nr) (p0 wh : Int32) (hp0 : 10 ≤ p0 ∧ p0 ≤ 40) : ∀ (u t : Nat) (Mc : z_M), t + u = 100 → z_Fm [24, 25] [56, 57, 58, 59] M Mc → z_Run X 4 mX10_feeling (fun v M' => z_Fm [24, 25] [56, 57, 58, 59] M M' ∧ v = pu_feel 100000000 V nm r p0 wh) 38 [(0, zr 46 0), (1, zi (nI r)), (2, zi p0), (3, zi wh), (4, zi (pu_bst 100000000 (fun t => (pu_fs V r p0 (nI (t / 10 * 10)) (nI (t % 10 * 10)) nm).2.1) t).2), (5, zi (pu_bst 100000000 (fun t => (pu_fs V r p0 (nI (t / 10 * 10)) (nI (t % 10 * 10)) nm).2.1) t).1), (6, zi (nI t))] [] Mc := by
  intro u
  induction u with
  | zero =>
    intro t Mc ht hF
    have e : t = 100 := by omega
    subst e
    refine z_go_run KX10_feeling [(38, [0, 1, 2, 3, 4, 5, 6])] 80 ?_
    refine ⟨fun _ => ?_, fun h => absurd (by decide) h⟩
    exact ⟨fun g => ⟨hF, by unfold pu_feel; rw [if_neg g]⟩, fun g => ⟨hF, by unfold pu_feel; rw [if_pos g]⟩⟩
  | succ u ih =>
    intro t Mc ht hF
    have hNc : z_CR V nm nr nb (z_nw Mc) := by rw [nw_fm hF (by decide)]; exact hN
    obtain ⟨x1, x2⟩ := ix10m (show t < 100 by omega)
    refine z_go_run KX10_feeling [(38, [0, 1, 2, 3, 4, 5, 6])] 80 ?_
    refine ⟨fun h => absurd h (nI_ge (b := 100) (by omega) (by omega)), fun h => ?_⟩
    refine ⟨by decide, by decide, ?_⟩
    have hc : z_Con X 3 mX10_feltTime [zr 46 0, zi (nI r), zi p0, zi (10 * (nI t / 10)), zi (10 * (nI t - nI t / 10 * 10))] Mc (fun v M' => z_Fm [24, 25] [56, 57, 58, 59] Mc M' ∧ v = (pu_fs V r p0 (nI (t / 10 * 10)) (nI (t % 10 * 10)) nm).2.1) := by
      rw [x2, x1]
      exact hX10_felt Mc hNc (h0.fm hF (by decide)) hr p0 _ _ hp0
    refine z_use hc (by decide) (fun v M1 k => ?_)
    obtain ⟨k1, k2⟩ := k
    subst k2
    have es : pu_bst 100000000 (fun t => (pu_fs V r p0 (nI (t / 10 * 10)) (nI (t % 10 * 10)) nm).2.1) (t + 1) = if (pu_fs V r p0 (nI (t / 10 * 10)) (nI (t % 10 * 10)) nm).2.1 < (pu_bst 100000000 (fun t => (pu_fs V r p0 (nI (t / 10 * 10)) (nI (t % 10 * 10)) nm).2.1) t).1 then ((pu_fs V r p0 (nI (t / 10 * 10)) (nI (t % 10 * 10)) nm).2.1, nI t) else pu_bst 100000000 (fun t => (pu_fs V r p0 (nI (t / 10 * 10)) (nI (t % 10 * 10)) nm).2.1) t := by
      conv => lhs; unfold pu_bst
    have h3 := ih (t + 1) M1 (by omega) (hF.trans k1)
    rw [← nI_1, es] at h3
    refine ⟨fun g => ?_, fun g => ?_⟩
    · refine ⟨fun _ => ?_, fun w => absurd g w⟩
      rw [if_neg (Int32.not_lt.mpr g)] at h3
      exact h3
    · refine ⟨fun w => absurd w g, fun _ => ?_⟩
      rw [if_pos (Int32.not_le.mp g)] at h3
      exact h3
theorem bst_eq {T : Nat → Int32} (hT : ∀ t, 0 ≤ T t ∧ T t ≤ 14400) : ∀ n, 1 ≤ n → pu_bst 100000000 T n = pu_bst 1000000000 T n := by
  intro n
  induction n with
  | zero => intro h; omega
  | succ n ih =>
    intro _
    conv => lhs; unfold pu_bst
    conv => rhs; unfold pu_bst
    rcases Nat.eq_zero_or_pos n with e | e
    · subst e
      have h := hT 0
      show (if T 0 < 100000000 then (T 0, nI 0) else (100000000, 0)) = (if T 0 < 1000000000 then (T 0, nI 0) else (1000000000, 0))
      rw [if_pos (by grind), if_pos (by grind)]
    · rw [ih e]
theorem feel_eq {V : Nat → Nat → Int32} {nm r : Nat} {p0 wh : Int32} (hnm : nm ≤ 12) (hs : 1 ≤ V 4 r) : pu_feel 100000000 V nm r p0 wh = pu_feel 1000000000 V nm r p0 wh := by
  have hb : nI (1200 * nm) ≤ 14400 := nI_le (b := 14400) (by omega) (by omega)
  have e := bst_eq (T := fun t => (pu_fs V r p0 (nI (t / 10 * 10)) (nI (t % 10 * 10)) nm).2.1) (fun t => ⟨(fs_ok hs nm hnm).2.1, Int32.le_trans (fs_ok hs nm hnm).2.2 hb⟩) 100 (by omega)
  unfold pu_feel
  rw [e]
theorem hX10_feeling {X : z_Cx} (M : z_M) {V : Nat → Nat → Int32} {nm nr nb : Nat} (hN : z_CR V nm nr nb (z_nw M)) (h0 : z_H0 M) (ru p0 wh : Int32) : z_Con X 4 mX10_feeling [zr 46 0, zi ru, zi p0, zi wh] M (fun v M' => z_Fm [24, 25] [56, 57, 58, 59] M M' ∧ ((¬ (pu_ru nr ru ∧ (10 ≤ p0 ∧ p0 ≤ 40) ∧ 0 ≤ wh ∧ wh ≤ 1) ∧ v = -1000001) ∨ (∃ r, r < nr ∧ ru = nI r ∧ (10 ≤ p0 ∧ p0 ≤ 40) ∧ 0 ≤ wh ∧ wh ≤ 1 ∧ v = pu_feel 1000000000 V nm r p0 wh))) := by
  have h12 := hN.1.1
  have h4 := hN.1.2.1
  refine z_mg KX10_feeling [(38, [0, 1, 2, 3, 4, 5, 6])] 80 (by decide +kernel) rfl ?_
  refine z_uR (hX10_isRunner M hN ru) (by decide) ?_
  refine ⟨fun h => ⟨z_Fm.refl, Or.inl ⟨fun w => absurd w.1 (by unfold pu_ru; grind), rfl⟩⟩, fun h => ?_⟩
  have hru : pu_ru nr ru := by unfold pu_ru; grind
  obtain ⟨r, hr, er⟩ := ru_of (by omega) hru
  subst er
  refine z_uR (hX10_isPace M p0) (by decide) ?_
  refine ⟨fun h2 => ⟨z_Fm.refl, Or.inl ⟨fun w => absurd w.2.1 (by grind), rfl⟩⟩, fun h2 => ?_⟩
  have hp : 10 ≤ p0 ∧ p0 ≤ 40 := by grind
  refine z_uR (hX10_inI M wh 0 1 (by decide) (by decide)) (by decide) ?_
  refine ⟨fun h3 => ?_, fun h3 => ⟨z_Fm.refl, Or.inl ⟨fun w => absurd w.2.2 (by grind), rfl⟩⟩⟩
  have hw : 0 ≤ wh ∧ wh ≤ 1 := by grind
  refine z_Run.post (lX10_feeling (X := X) M hN h0 hr p0 wh hp 100 0 M (by omega) z_Fm.refl) ?_
  rintro v M' ⟨e1, e2⟩
  rw [feel_eq h12 (store_bd hN hr).1] at e2
  exact ⟨e1, Or.inr ⟨r, hr, rfl, hp, hw.1, hw.2, e2⟩⟩
