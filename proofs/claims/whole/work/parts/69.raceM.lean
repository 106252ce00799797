/-! ===== the model's race, its pieces ===== -/
theorem z_H0.fm {J K : List Nat} {M M' : z_M} (h : z_H0 M) (hF : z_Fm J K M M') (h55 : 55 ∉ K) : z_H0 M' := by
  intro k hk
  rw [hF.2.1 55 (by decide) h55]
  exact h k hk
def z_gm (V : Nat → Nat → Int32) (r m : Nat) (p b l : Int32) (M : z_M) : z_M := z_s (z_s (z_s M 46 0 25 (if pu_gl V r m p b l < 0 then 1 else 0)) 57 0 r (pu_l1 V r m p b l)) 46 0 24 (pu_s1 V r m p b l)
theorem hX10_goMile {X : z_Cx} (M : z_M) {V : Nat → Nat → Int32} {nm nr nb : Nat} (hN : z_CR V nm nr nb (z_nw M)) (h0 : z_H0 M) (r m : Nat) (hr : r < nr) (hm : m < nm) (p b l : Int32) (el : M.1 57 0 r = l) (ep : M.1 56 0 r = p) (hl : 0 ≤ l ∧ l ≤ V 4 r) (hp : 10 ≤ p ∧ p ≤ 40) : z_Con X 2 mX10_goMile [zr 46 0, zi (nI r), zi (nI m), zi b] M (fun _ M' => M' = z_gm V r m p b l M) := by
  have h12 := hN.1.1
  have h4 := hN.1.2.1
  have er : (nI r).toNatClampNeg = r := nI_clamp (by omega)
  have e0 : z_hm M m = 0 := h0 (m / 4) (by omega)
  have vr : vp_in (nI r) 4 := vp_in_nI (by omega) (by omega)
  have el' : M.1 57 0 (nI r).toNatClampNeg = l := by rw [er]; exact el
  have ep' : M.1 56 0 (nI r).toNatClampNeg = p := by rw [er]; exact ep
  -- behind what is left
  have fin : ∀ (Mc : z_M), Mc = z_s (z_s M 46 0 25 (if pu_gl V r m p b l < 0 then 1 else 0)) 57 0 r (pu_l1 V r m p b l) → z_Run X 2 mX10_goMile (fun _ M' => M' = z_gm V r m p b l M) 64 [(0, zr 46 0), (1, zi (nI r)), (2, zi (nI m))] [] Mc := by
    intro Mc eM
    have f1 : z_Fm [25] [57] M Mc := by
      rw [eM]
      exact ((z_Fm.refl).s46 (by decide)).s (by decide) (by decide)
    have n1 := nw_fm f1 (by decide)
    have hNc : z_CR V nm nr nb (z_nw Mc) := by rw [n1]; exact hN
    have h0c := h0.fm f1 (by decide)
    have e25 : Mc.1 46 0 25 = (if pu_gl V r m p b l < 0 then 1 else 0) := by rw [eM, z_gs, if_neg (by omega), z_gs, if_pos ⟨rfl, rfl, rfl⟩]
    have e56 : Mc.1 56 0 (nI r).toNatClampNeg = p := by rw [f1.2.1 56 (by decide) (by decide)]; exact ep'
    refine z_go_run KX10_goMile [] 60 ?_
    refine ⟨fun h => ?_, fun h => ?_⟩ <;> rw [e25] at h
    · have hg : ¬ pu_gl V r m p b l < 0 := by
        intro w
        rw [if_pos w] at h
        exact absurd h (by decide)
      refine ⟨vr, ?_⟩
      refine z_uRe (hX10_secondsBy Mc (Mc.1 56 0 (nI r).toNatClampNeg) (by rw [e56]; exact hp.1)) (g := pu_s1 V r m p b l) (by unfold pu_s1; rw [if_neg hg, e56]) (by decide) ?_
      rw [eM]
      rfl
    · have hg : pu_gl V r m p b l < 0 := by
        apply Classical.byContradiction
        intro w
        rw [if_neg w] at h
        exact h rfl
      refine z_uR (hX10_easyPace Mc hNc r m hr hm (h0c (m / 4) (by omega))) (by decide) ?_
      refine z_uRe (hX10_secondsBy Mc (pu_easy V m (V 3 r) 30) (easy_bd 30 (Nat.le_refl 30)).1) (g := pu_s1 V r m p b l) (by unfold pu_s1; rw [if_pos hg]) (by decide) ?_
      rw [eM]
      rfl
  refine z_mg KX10_goMile [(64, [0, 1, 2])] 60 (by decide +kernel) rfl ?_
  refine ⟨vr, vr, ?_⟩
  refine z_uR (hX10_needOf M hN m hm (M.1 56 0 (nI r).toNatClampNeg) b) (by decide) ?_
  refine z_uR (hX10_line0 M hN r hr) (by decide) ?_
  have hlb : z_Con X 1 mX10_leftBehind [zr 46 0, zi (nI r), zi (M.1 57 0 (nI r).toNatClampNeg), zi (pu_need V (z_hm M m) m (M.1 56 0 (nI r).toNatClampNeg) b), zi (V 3 r)] M (fun v M' => M' = M ∧ v = pu_gl V r m p b l) := by
    rw [el', ep']
    have := hX10_leftB (X := X) M hN h0.h r hr m hm p b (V 3 r) l hp hl.1 hl.2 (line_bd hN hr)
    rw [e0] at this ⊢
    exact this
  refine z_uR hlb (by decide) ?_
  refine ⟨fun g => ?_, fun g => ?_⟩
  · have hg : ¬ pu_gl V r m p b l < 0 := Int32.not_lt.mpr g
    have q25 : (z_s M 46 0 25 0).1 46 0 25 = 0 := by rw [z_gs, if_pos ⟨rfl, rfl, rfl⟩]
    refine ⟨Or.inl rfl, ?_⟩
    refine ⟨fun _ => ?_, fun w => absurd q25 w⟩
    refine ⟨vr, ?_⟩
    refine fin _ ?_
    rw [er, if_neg hg]
    unfold pu_l1
    rw [if_neg hg]
  · have hg : pu_gl V r m p b l < 0 := Int32.not_le.mp g
    have q25 : (z_s M 46 0 25 1).1 46 0 25 = 1 := by rw [z_gs, if_pos ⟨rfl, rfl, rfl⟩]
    refine ⟨Or.inr rfl, ?_⟩
    refine ⟨fun w => absurd (q25.symm.trans w) (by decide), fun _ => ?_⟩
    refine ⟨vr, ?_⟩
    refine fin _ ?_
    rw [er, if_pos hg]
    unfold pu_l1
    rw [if_pos hg]
theorem lX10_startRace {X : z_Cx} (M : z_M) : ∀ (u t : Nat) (Mc : z_M), t + u = 4 → z_Fm [] [57, 58, 59] M Mc → (∀ r, r < t → Mc.1 57 0 r = z_nw M (36 + 4 * r + 1) ∧ Mc.1 58 0 r = 0 ∧ Mc.1 59 0 r = 0) → z_Run X 1 mX10_startRace (fun _ M' => z_Fm [] [57, 58, 59] M M' ∧ ∀ r, r < 4 → M'.1 57 0 r = z_nw M (36 + 4 * r + 1) ∧ M'.1 58 0 r = 0 ∧ M'.1 59 0 r = 0) 2 [(0, zr 46 0), (1, zi (nI t))] [] Mc := by
  intro u
  induction u with
  | zero =>
    intro t Mc ht hF h1
    have e : t = 4 := by omega
    subst e
    refine z_go_run KX10_startRace [(2, [0, 1])] 60 ?_
    exact ⟨fun _ => ⟨hF, h1⟩, fun h => absurd (by decide) h⟩
  | succ u ih =>
    intro t Mc ht hF h1
    have vr : vp_in (nI t) 4 := vp_in_nI (by omega) (by omega)
    refine z_go_run KX10_startRace [(2, [0, 1])] 60 ?_
    refine ⟨fun h => absurd h (nI_ge (b := 4) (by omega) (by omega)), fun h => ?_⟩
    refine z_uRe (hX10_ofRunner Mc t 1 (by omega) (by decide)) (g := z_nw M (36 + 4 * t + 1)) (by rw [nw_fm hF (by decide)]) (by decide) ?_
    refine ⟨vr, vr, vr, Or.inl rfl, ?_⟩
    rw [nI_clamp (by omega)]
    have h3 := ih (t + 1) (z_s (z_s (z_s Mc 57 0 t (z_nw M (36 + 4 * t + 1))) 58 0 t 0) 59 0 t 0) (by omega) (((hF.s (by decide) (by decide)).s (by decide) (by decide)).s (by decide) (by decide)) (fun r hr => by
      by_cases e : r = t
      · subst e
        refine ⟨?_, ?_, ?_⟩
        · rw [z_gs, if_neg (by omega), z_gs, if_neg (by omega), z_gs, if_pos ⟨rfl, rfl, rfl⟩]
        · rw [z_gs, if_neg (by omega), z_gs, if_pos ⟨rfl, rfl, rfl⟩]
        · rw [z_gs, if_pos ⟨rfl, rfl, rfl⟩]
      · obtain ⟨a1, a2, a3⟩ := h1 r (by omega)
        refine ⟨?_, ?_, ?_⟩
        · rw [z_gs, if_neg (by omega), z_gs, if_neg (by omega), z_gs, if_neg (fun w => e w.2.2)]; exact a1
        · rw [z_gs, if_neg (by omega), z_gs, if_neg (fun w => e w.2.2), z_gs, if_neg (by omega)]; exact a2
        · rw [z_gs, if_neg (fun w => e w.2.2), z_gs, if_neg (by omega), z_gs, if_neg (by omega)]; exact a3)
    rw [← nI_1] at h3
    exact h3
theorem hX10_startRace {X : z_Cx} (M : z_M) : z_Con X 1 mX10_startRace [zr 46 0] M (fun _ M' => z_Fm [] [57, 58, 59] M M' ∧ ∀ r, r < 4 → M'.1 57 0 r = z_nw M (36 + 4 * r + 1) ∧ M'.1 58 0 r = 0 ∧ M'.1 59 0 r = 0) := by
  refine z_mg KX10_startRace [(2, [0, 1])] 60 (by decide +kernel) rfl ?_
  exact lX10_startRace M 4 0 M (by omega) z_Fm.refl (fun r hr => absurd hr (Nat.not_lt_zero r))
/-- shelter among those who run -/
def pu_Sm (U T P : Nat → Int32) (r : Nat) : Nat → Bool
  | 0 => false
  | o + 1 => pu_Sm U T P r o || decide (¬ U o = 0 ∧ o ≠ r ∧ 1 ≤ T r - T o ∧ T r - T o ≤ 5 ∧ P r ≤ P o)
theorem lX10_isSheltered {X : z_Cx} (M : z_M) (r : Nat) (hr : r < 4) : ∀ (u t : Nat), t + u = 4 → z_Run X 1 mX10_isSheltered (fun v M' => M' = M ∧ v = pu_b2 (pu_Sm (M.1 59 0) (M.1 58 0) (M.1 56 0) r 4)) 4 [(0, zr 46 0), (1, zi (nI r)), (2, zi (pu_b2 (pu_Sm (M.1 59 0) (M.1 58 0) (M.1 56 0) r t))), (3, zi (nI t))] [] M := by
  have er : (nI r).toNatClampNeg = r := nI_clamp (by omega)
  have vr : vp_in (nI r) 4 := vp_in_nI (by omega) (by omega)
  intro u
  induction u with
  | zero =>
    intro t ht
    have e : t = 4 := by omega
    subst e
    refine z_go_run KX10_isSheltered [(4, [0, 1, 2, 3])] 60 ?_
    exact ⟨fun _ => ⟨b2_01 _, rfl, rfl⟩, fun h => absurd (by decide) h⟩
  | succ u ih =>
    intro t ht
    have et : (nI t).toNatClampNeg = t := nI_clamp (by omega)
    have vt : vp_in (nI t) 4 := vp_in_nI (by omega) (by omega)
    have es : pu_Sm (M.1 59 0) (M.1 58 0) (M.1 56 0) r (t + 1) = (pu_Sm (M.1 59 0) (M.1 58 0) (M.1 56 0) r t || decide (¬ M.1 59 0 t = 0 ∧ t ≠ r ∧ 1 ≤ M.1 58 0 r - M.1 58 0 t ∧ M.1 58 0 r - M.1 58 0 t ≤ 5 ∧ M.1 56 0 r ≤ M.1 56 0 t)) := rfl
    have nx : ∀ x : Int32, x = pu_b2 (pu_Sm (M.1 59 0) (M.1 58 0) (M.1 56 0) r (t + 1)) → z_Run X 1 mX10_isSheltered (fun v M' => M' = M ∧ v = pu_b2 (pu_Sm (M.1 59 0) (M.1 58 0) (M.1 56 0) r 4)) 4 [(0, zr 46 0), (1, zi (nI r)), (2, zi x), (3, zi (nI t + 1))] [] M := by
      intro x hx
      rw [hx, nI_1]
      exact ih (t + 1) (by omega)
    refine z_go_run KX10_isSheltered [(4, [0, 1, 2, 3])] 60 ?_
    refine ⟨fun h => absurd h (nI_ge (b := 4) (by omega) (by omega)), fun h => ?_⟩
    refine ⟨fun h1 => ?_, fun h1 => ?_⟩
    · refine nx 1 ?_
      have : pu_Sm (M.1 59 0) (M.1 58 0) (M.1 56 0) r t = true := by
        cases hb : pu_Sm (M.1 59 0) (M.1 58 0) (M.1 56 0) r t with
        | true => rfl
        | false => rw [hb] at h1; exact absurd rfl h1
      rw [es, this]
      rfl
    · have hf : pu_Sm (M.1 59 0) (M.1 58 0) (M.1 56 0) r t = false := by
        cases hb : pu_Sm (M.1 59 0) (M.1 58 0) (M.1 56 0) r t with
        | false => rfl
        | true => rw [hb] at h1; exact absurd h1 (by decide)
      have no : ¬ (¬ M.1 59 0 t = 0 ∧ t ≠ r ∧ 1 ≤ M.1 58 0 r - M.1 58 0 t ∧ M.1 58 0 r - M.1 58 0 t ≤ 5 ∧ M.1 56 0 r ≤ M.1 56 0 t) → (0 : Int32) = pu_b2 (pu_Sm (M.1 59 0) (M.1 58 0) (M.1 56 0) r (t + 1)) := by
        intro w
        rw [es, hf, Bool.false_or, decide_eq_false w]
        rfl
      refine ⟨vt, ?_⟩
      rw [et]
      refine ⟨fun h2 => nx 0 (no (fun w => w.1 h2)), fun h2 => ?_⟩
      refine ⟨fun h3 => nx 0 (no (fun w => w.2.1 ((nI_eq (by omega) (by omega)).mp h3))), fun h3 => ?_⟩
      refine ⟨vr, vt, ?_⟩
      rw [er, et]
      refine z_uR (hX10_inI M (M.1 58 0 r - M.1 58 0 t) 1 5 (by decide) (by decide)) (by decide) ?_
      refine ⟨fun h4 => nx 0 (no (fun w => ?_)), fun h4 => ?_⟩
      · rw [if_pos ⟨w.2.2.1, w.2.2.2.1⟩] at h4
        exact absurd h4 (by decide)
      · have h5 : 1 ≤ M.1 58 0 r - M.1 58 0 t ∧ M.1 58 0 r - M.1 58 0 t ≤ 5 := by
          apply Classical.byContradiction
          intro w
          rw [if_neg w] at h4
          exact h4 rfl
        refine ⟨vt, vr, ?_⟩
        rw [er, et]
        refine ⟨fun h6 => nx 0 (no (fun w => absurd h6 (Int32.not_lt.mpr w.2.2.2.2))), fun h6 => nx 1 ?_⟩
        rw [es, hf, Bool.false_or, decide_eq_true ⟨h2, fun w => h3 (by rw [w]), h5.1, h5.2, Int32.not_lt.mp h6⟩]
        rfl
theorem hX10_isSheltered {X : z_Cx} (M : z_M) (r : Nat) (hr : r < 4) : z_Con X 1 mX10_isSheltered [zr 46 0, zi (nI r)] M (fun v M' => M' = M ∧ v = pu_b2 (pu_Sm (M.1 59 0) (M.1 58 0) (M.1 56 0) r 4)) := by
  refine z_mg KX10_isSheltered [(4, [0, 1, 2, 3])] 60 (by decide +kernel) rfl ?_
  exact lX10_isSheltered M r hr 4 0 (by omega)
theorem lX10_findShelters {X : z_Cx} (M : z_M) : ∀ (u t : Nat) (Mc : z_M), t + u = 4 → z_Fm [] [60] M Mc → (∀ r, r < t → Mc.1 60 0 r = if M.1 59 0 r = 0 then 0 else pu_b2 (pu_Sm (M.1 59 0) (M.1 58 0) (M.1 56 0) r 4)) → z_Run X 2 mX10_findShelters (fun _ M' => z_Fm [] [60] M M' ∧ ∀ r, r < 4 → M'.1 60 0 r = if M.1 59 0 r = 0 then 0 else pu_b2 (pu_Sm (M.1 59 0) (M.1 58 0) (M.1 56 0) r 4)) 2 [(0, zr 46 0), (1, zi (nI t))] [] Mc := by
  intro u
  induction u with
  | zero =>
    intro t Mc ht hF h1
    have e : t = 4 := by omega
    subst e
    refine z_go_run KX10_findShelters [(2, [0, 1])] 60 ?_
    exact ⟨fun _ => ⟨hF, h1⟩, fun h => absurd (by decide) h⟩
  | succ u ih =>
    intro t Mc ht hF h1
    have et : (nI t).toNatClampNeg = t := nI_clamp (by omega)
    have vt : vp_in (nI t) 4 := vp_in_nI (by omega) (by omega)
    have nx : ∀ x : Int32, x = (if M.1 59 0 t = 0 then 0 else pu_b2 (pu_Sm (M.1 59 0) (M.1 58 0) (M.1 56 0) t 4)) → z_Run X 2 mX10_findShelters (fun _ M' => z_Fm [] [60] M M' ∧ ∀ r, r < 4 → M'.1 60 0 r = if M.1 59 0 r = 0 then 0 else pu_b2 (pu_Sm (M.1 59 0) (M.1 58 0) (M.1 56 0) r 4)) 2 [(0, zr 46 0), (1, zi (nI t + 1))] [] (z_s Mc 60 0 t x) := by
      intro x hx
      rw [nI_1]
      refine ih (t + 1) _ (by omega) (hF.s (by decide) (by decide)) (fun r hr => ?_)
      rw [z_gs]
      by_cases e : r = t
      · rw [if_pos ⟨rfl, rfl, e⟩, e, hx]
      · rw [if_neg (fun w => e w.2.2)]
        exact h1 r (by omega)
    have e59 : Mc.1 59 0 = M.1 59 0 := by rw [hF.2.1 59 (by decide) (by decide)]
    have e58 : Mc.1 58 0 = M.1 58 0 := by rw [hF.2.1 58 (by decide) (by decide)]
    have e56 : Mc.1 56 0 = M.1 56 0 := by rw [hF.2.1 56 (by decide) (by decide)]
    refine z_go_run KX10_findShelters [(2, [0, 1])] 60 ?_
    refine ⟨fun h => absurd h (nI_ge (b := 4) (by omega) (by omega)), fun h => ?_⟩
    refine ⟨vt, ?_⟩
    rw [et, e59]
    refine ⟨fun g => ?_, fun g => ?_⟩
    · refine ⟨vt, Or.inl rfl, ?_⟩
      rw [et]
      exact nx 0 (by rw [if_pos g])
    · refine z_uRe (hX10_isSheltered Mc t (by omega)) (g := pu_b2 (pu_Sm (M.1 59 0) (M.1 58 0) (M.1 56 0) t 4)) (by rw [e59, e58, e56]) (by decide) ?_
      refine ⟨fun g2 => ?_, fun g2 => ?_⟩
      · refine ⟨vt, Or.inl rfl, ?_⟩
        rw [et]
        exact nx 0 (by rw [if_neg g, g2])
      · refine ⟨vt, Or.inr rfl, ?_⟩
        rw [et]
        exact nx 1 (by rw [if_neg g, (b2_01 _).resolve_left g2])
theorem hX10_findShelters {X : z_Cx} (M : z_M) : z_Con X 2 mX10_findShelters [zr 46 0] M (fun _ M' => z_Fm [] [60] M M' ∧ ∀ r, r < 4 → M'.1 60 0 r = if M.1 59 0 r = 0 then 0 else pu_b2 (pu_Sm (M.1 59 0) (M.1 58 0) (M.1 56 0) r 4)) := by
  refine z_mg KX10_findShelters [(2, [0, 1])] 60 (by decide +kernel) rfl ?_
  exact lX10_findShelters M 4 0 M (by omega) z_Fm.refl (fun r hr => absurd hr (Nat.not_lt_zero r))
def pu_ml (U T : Nat → Int32) : Nat → Int32
  | 0 => 100000000
  | n + 1 => if ¬ U n = 0 ∧ T n < pu_ml U T n then T n else pu_ml U T n
theorem lX10_leastTime {X : z_Cx} (M : z_M) : ∀ (u t : Nat), t + u = 4 → z_Run X 0 mX10_leastTime (fun v M' => M' = M ∧ v = pu_ml (M.1 59 0) (M.1 58 0) 4) 5 [(0, zr 46 0), (1, zi (pu_ml (M.1 59 0) (M.1 58 0) t)), (2, zi (nI t))] [] M := by
  intro u
  induction u with
  | zero =>
    intro t ht
    have e : t = 4 := by omega
    subst e
    refine z_go_run KX10_leastTime [(5, [0, 1, 2])] 60 ?_
    exact ⟨fun _ => ⟨rfl, rfl⟩, fun h => absurd (by decide) h⟩
  | succ u ih =>
    intro t ht
    have et : (nI t).toNatClampNeg = t := nI_clamp (by omega)
    have vt : vp_in (nI t) 4 := vp_in_nI (by omega) (by omega)
    have es : pu_ml (M.1 59 0) (M.1 58 0) (t + 1) = if ¬ M.1 59 0 t = 0 ∧ M.1 58 0 t < pu_ml (M.1 59 0) (M.1 58 0) t then M.1 58 0 t else pu_ml (M.1 59 0) (M.1 58 0) t := by conv => lhs; unfold pu_ml
    have nx : ∀ x : Int32, x = pu_ml (M.1 59 0) (M.1 58 0) (t + 1) → z_Run X 0 mX10_leastTime (fun v M' => M' = M ∧ v = pu_ml (M.1 59 0) (M.1 58 0) 4) 5 [(0, zr 46 0), (1, zi x), (2, zi (nI t + 1))] [] M := by
      intro x hx
      rw [hx, nI_1]
      exact ih (t + 1) (by omega)
    refine z_go_run KX10_leastTime [(5, [0, 1, 2])] 60 ?_
    refine ⟨fun h => absurd h (nI_ge (b := 4) (by omega) (by omega)), fun h => ?_⟩
    refine ⟨vt, ?_⟩
    rw [et]
    refine ⟨fun g => nx _ (by rw [es, if_neg (fun w => w.1 g)]), fun g => ?_⟩
    refine ⟨vt, ?_⟩
    rw [et]
    refine ⟨fun g2 => nx _ (by rw [es, if_neg (fun w => absurd w.2 (Int32.not_lt.mpr g2))]), fun g2 => ?_⟩
    refine ⟨vt, ?_⟩
    rw [et]
    exact nx _ (by rw [es, if_pos ⟨g, Int32.not_le.mp g2⟩])
theorem hX10_leastTime {X : z_Cx} (M : z_M) : z_Con X 0 mX10_leastTime [zr 46 0] M (fun v M' => M' = M ∧ v = pu_ml (M.1 59 0) (M.1 58 0) 4) := by
  refine z_mg KX10_leastTime [(5, [0, 1, 2])] 60 (by decide +kernel) rfl ?_
  exact lX10_leastTime M 4 0 (by omega)
theorem cl_id {p : Int32} (h : 10 ≤ p ∧ p ≤ 40) : pu_cl p = p := by
  unfold pu_cl
  grind
theorem ixu (r k w : Nat) : 52 + 30 * nI r + 5 * nI k + nI w = nI (52 + 30 * r + 5 * k + w) := by
  show nI 52 + nI 30 * nI r + nI 5 * nI k + nI w = _
  rw [pk_mul, pk_mul, nI_add, nI_add, nI_add]
theorem lX10_paceByRules {X : z_Cx} (M : z_M) {V : Nat → Nat → Int32} {nm nr nb : Nat} (hN : z_CR V nm nr nb (z_nw M)) (r m c : Nat) (hr : r < nr) (hc : c ≤ 6) (ec : V 6 r = nI c) (least p : Int32) (ep : M.1 56 0 r = p) (hp : 10 ≤ p ∧ p ≤ 40) : ∀ (u t : Nat), t + u = c → z_Run X 1 mX10_paceByRules (fun v M' => M' = M ∧ v = pu_cl (p + pu_st V r m (M.1 57 0 r) (M.1 58 0 r - least) u t)) 3 [(0, zr 46 0), (1, zi (nI r)), (2, zi (nI m)), (3, zi least), (4, zi (nI t))] [] M := by
  have h4 := hN.1.2.1
  have er : (nI r).toNatClampNeg = r := nI_clamp (by omega)
  have vr : vp_in (nI r) 4 := vp_in_nI (by omega) (by omega)
  intro u
  induction u with
  | zero =>
    intro t ht
    have e : t = c := by omega
    subst e
    refine z_go_run KX10_paceByRules [(3, [0, 1, 2, 3, 4])] 80 ?_
    refine z_uRe (hX10_rules0 M hN r hr) ec (by decide) ?_
    refine ⟨fun _ => ?_, fun h => absurd (Int32.le_refl _) h⟩
    refine ⟨vr, rfl, ?_⟩
    rw [er, ep]
    show p = pu_cl (p + 0)
    rw [Int32.add_zero, cl_id hp]
  | succ u ih =>
    intro t ht
    have hlt : nI t < V 6 r := by rw [ec]; exact nI_lt (by omega) (by omega)
    obtain ⟨n0, n1, n2, n3, _, _⟩ := hN.2.2.2.1 r hr t (by omega) hlt
    have ix : ∀ w, w < 5 → (52 + 30 * nI r + 5 * nI t + nI w).toNatClampNeg = 52 + 30 * r + 5 * t + w ∧ vp_in (52 + 30 * nI r + 5 * nI t + nI w) 479 := by
      intro w hw
      rw [ixu]
      exact ⟨nI_clamp (by omega), vp_in_nI (by omega) (by omega)⟩
    have a0 : M.1 47 (M.2.2 46 0).toNat (52 + 30 * nI r + 5 * nI t + 0).toNatClampNeg = V 7 (6 * r + t) := by rw [show (52 + 30 * nI r + 5 * nI t + 0).toNatClampNeg = 52 + 30 * r + 5 * t + 0 from (ix 0 (by omega)).1]; exact n0
    have a1 : M.1 47 (M.2.2 46 0).toNat (52 + 30 * nI r + 5 * nI t + 1).toNatClampNeg = V 8 (6 * r + t) := by rw [show (52 + 30 * nI r + 5 * nI t + 1).toNatClampNeg = 52 + 30 * r + 5 * t + 1 from (ix 1 (by omega)).1]; exact n1
    have a2 : M.1 47 (M.2.2 46 0).toNat (52 + 30 * nI r + 5 * nI t + 2).toNatClampNeg = V 9 (6 * r + t) := by rw [show (52 + 30 * nI r + 5 * nI t + 2).toNatClampNeg = 52 + 30 * r + 5 * t + 2 from (ix 2 (by omega)).1]; exact n2
    have a3 : V 10 (6 * r + t) = (if M.1 47 (M.2.2 46 0).toNat (52 + 30 * nI r + 5 * nI t + 3).toNatClampNeg = 1 then M.1 47 (M.2.2 46 0).toNat (52 + 30 * nI r + 5 * nI t + 4).toNatClampNeg else -M.1 47 (M.2.2 46 0).toNat (52 + 30 * nI r + 5 * nI t + 4).toNatClampNeg) := by
      rw [show (52 + 30 * nI r + 5 * nI t + 3).toNatClampNeg = 52 + 30 * r + 5 * t + 3 from (ix 3 (by omega)).1, show (52 + 30 * nI r + 5 * nI t + 4).toNatClampNeg = 52 + 30 * r + 5 * t + 4 from (ix 4 (by omega)).1]
      exact n3
    have v0 : vp_in (52 + 30 * nI r + 5 * nI t + 0) 479 := (ix 0 (by omega)).2
    have v1 : vp_in (52 + 30 * nI r + 5 * nI t + 1) 479 := (ix 1 (by omega)).2
    have v2 : vp_in (52 + 30 * nI r + 5 * nI t + 2) 479 := (ix 2 (by omega)).2
    have v3 : vp_in (52 + 30 * nI r + 5 * nI t + 3) 479 := (ix 3 (by omega)).2
    have v4 : vp_in (52 + 30 * nI r + 5 * nI t + 4) 479 := (ix 4 (by omega)).2
    -- it holds, or not
    have go2 : ∀ (h : Int32), h = pu_b2 (pu_hd V r m t (M.1 57 0 r) (M.1 58 0 r - least)) → z_Run X 1 mX10_paceByRules (fun v M' => M' = M ∧ v = pu_cl (p + pu_st V r m (M.1 57 0 r) (M.1 58 0 r - least) (u + 1) t)) 127 [(0, zr 46 0), (1, zi (nI r)), (2, zi (nI m)), (3, zi least), (4, zi (nI t)), (5, zi (52 + 30 * nI r + 5 * nI t))] [zi h] M := by
      intro h eh
      refine z_go_run KX10_paceByRules [(3, [0, 1, 2, 3, 4])] 80 ?_
      cases hb : pu_hd V r m t (M.1 57 0 r) (M.1 58 0 r - least) with
      | false =>
        have e2 : pu_st V r m (M.1 57 0 r) (M.1 58 0 r - least) (u + 1) t = pu_st V r m (M.1 57 0 r) (M.1 58 0 r - least) u (t + 1) := by
          show (if pu_hd V r m t (M.1 57 0 r) (M.1 58 0 r - least) = true then _ else _) = _
          rw [if_neg (by rw [hb]; decide)]
        rw [e2, eh, hb]
        refine ⟨fun _ => ?_, fun w => absurd rfl w⟩
        have h3 := ih (t + 1) (by omega)
        rw [← nI_1] at h3
        exact h3
      | true =>
        have e2 : pu_st V r m (M.1 57 0 r) (M.1 58 0 r - least) (u + 1) t = V 10 (6 * r + t) := by
          show (if pu_hd V r m t (M.1 57 0 r) (M.1 58 0 r - least) = true then _ else _) = _
          rw [if_pos hb]
        rw [e2, eh, hb]
        refine ⟨fun w => absurd w (by decide), fun _ => ?_⟩
        refine ⟨vr, v3, ?_⟩
        rw [er, ep]
        refine ⟨fun g => ?_, fun g => ?_⟩
        · refine ⟨v4, ?_⟩
          refine z_uR (hX10_brought M _) (by decide) ?_
          exact ⟨rfl, by rw [a3, if_neg g]; rfl⟩
        · refine ⟨v4, ?_⟩
          refine z_uR (hX10_brought M _) (by decide) ?_
          exact ⟨rfl, by rw [a3, if_pos g]; rfl⟩
    have go : ∀ felt : Int32, felt = (if V 7 (6 * r + t) = 0 then M.1 57 0 r else if V 7 (6 * r + t) = 1 then M.1 58 0 r - least else nI m) → z_Run X 1 mX10_paceByRules (fun v M' => M' = M ∧ v = pu_cl (p + pu_st V r m (M.1 57 0 r) (M.1 58 0 r - least) (u + 1) t)) 71 [(0, zr 46 0), (1, zi (nI r)), (2, zi (nI m)), (3, zi least), (4, zi (nI t)), (5, zi (52 + 30 * nI r + 5 * nI t))] [zi felt] M := by
      intro felt ef
      have hh : pu_hd V r m t (M.1 57 0 r) (M.1 58 0 r - least) = (if V 8 (6 * r + t) = 1 then decide (V 9 (6 * r + t) < felt) else decide (felt < V 9 (6 * r + t))) := by rw [ef]; rfl
      refine z_go_run KX10_paceByRules [(127, [0, 1, 2, 3, 4, 5])] 80 ?_
      refine ⟨v1, ?_⟩
      rw [a1]
      refine ⟨fun g => ?_, fun g => ?_⟩
      · rw [if_neg g] at hh
        refine ⟨v2, ?_⟩
        rw [a2]
        refine ⟨fun g2 => go2 0 (by rw [hh, decide_eq_false (Int32.not_lt.mpr g2)]; rfl), fun g2 => go2 1 (by rw [hh, decide_eq_true (Int32.not_le.mp g2)]; rfl)⟩
      · rw [if_pos g] at hh
        refine ⟨v2, ?_⟩
        rw [a2]
        refine ⟨fun g2 => go2 0 (by rw [hh, decide_eq_false (Int32.not_lt.mpr g2)]; rfl), fun g2 => go2 1 (by rw [hh, decide_eq_true (Int32.not_le.mp g2)]; rfl)⟩
    refine z_go_run KX10_paceByRules [(3, [0, 1, 2, 3, 4]), (71, [0, 1, 2, 3, 4, 5])] 80 ?_
    refine z_uRe (hX10_rules0 M hN r hr) ec (by decide) ?_
    refine ⟨fun h => absurd h (nI_ge (by omega) (by omega)), fun h => ?_⟩
    refine ⟨v0, ?_⟩
    rw [a0]
    refine ⟨fun g => ?_, fun g => ?_⟩
    · refine ⟨fun g2 => ?_, fun g2 => ?_⟩
      · exact go _ (by rw [if_neg g, if_neg g2])
      · refine ⟨vr, ?_⟩
        rw [er]
        exact go _ (by rw [if_neg g, if_pos g2])
    · refine ⟨vr, ?_⟩
      rw [er]
      exact go _ (by rw [if_pos g])
theorem hX10_paceByRules {X : z_Cx} (M : z_M) {V : Nat → Nat → Int32} {nm nr nb : Nat} (hN : z_CR V nm nr nb (z_nw M)) (r m : Nat) (hr : r < nr) (least p : Int32) (ep : M.1 56 0 r = p) (hp : 10 ≤ p ∧ p ≤ 40) : z_Con X 1 mX10_paceByRules [zr 46 0, zi (nI r), zi (nI m), zi least] M (fun v M' => M' = M ∧ v = pu_cl (p + pu_st V r m (M.1 57 0 r) (M.1 58 0 r - least) (V 6 r).toNatClampNeg 0)) := by
  obtain ⟨c, hc, ec⟩ := (hN.2.2.1 r hr).2.2.2.2.2.2.2
  refine z_mg KX10_paceByRules [(3, [0, 1, 2, 3, 4])] 80 (by decide +kernel) rfl ?_
  have h := lX10_paceByRules (X := X) M hN r m c hr hc ec least p ep hp c 0 (by omega)
  rw [ec, nI_clamp (by omega)]
  exact h
