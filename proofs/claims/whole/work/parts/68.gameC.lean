/-! ===== the class: games ===== -/
def pu_pl (plan : Int32) (e : Prop) [Decidable e] : Int32 := if plan = 1 then (if e then 3 else -2) else if plan = 2 then (if e then -2 else 3) else if plan = 3 then 1 else 0
def pu_ab (a b : Nat) : Nat → Nat := fun j => if j = 0 then a else b
def pu_gp (V : Nat → Nat → Int32) (ρ : Nat → Nat) (pl : Nat → Int32) (nm m : Nat) : Nat → Int32 := fun j => pu_cl (pu_easy V 0 (V 3 (ρ j)) 30 + pu_pl (pl j) (m < nm / 2))
def pu_gn (V : Nat → Nat → Int32) (ρ : Nat → Nat) (m : Nat) (P : Nat → Int32) (σ : (Nat → Int32) × (Nat → Int32)) : (Nat → Int32) × (Nat → Int32) := (fun j => pu_l1 V (ρ j) m (P j) (pu_b2 (pu_S1 σ.2 P j 2)) (σ.1 j), fun j => σ.2 j + pu_s1 V (ρ j) m (P j) (pu_b2 (pu_S1 σ.2 P j 2)) (σ.1 j))
def pu_gs (V : Nat → Nat → Int32) (ρ : Nat → Nat) (pl : Nat → Int32) (nm : Nat) : Nat → (Nat → Int32) × (Nat → Int32)
  | 0 => (fun j => V 4 (ρ j), fun _ => 0)
  | m + 1 => pu_gn V ρ m (pu_gp V ρ pl nm m) (pu_gs V ρ pl nm m)
theorem gn_1 {V : Nat → Nat → Int32} {ρ : Nat → Nat} {m j : Nat} {P : Nat → Int32} {σ : (Nat → Int32) × (Nat → Int32)} : (pu_gn V ρ m P σ).1 j = pu_l1 V (ρ j) m (P j) (pu_b2 (pu_S1 σ.2 P j 2)) (σ.1 j) := by unfold pu_gn; dsimp only
theorem gn_2 {V : Nat → Nat → Int32} {ρ : Nat → Nat} {m j : Nat} {P : Nat → Int32} {σ : (Nat → Int32) × (Nat → Int32)} : (pu_gn V ρ m P σ).2 j = σ.2 j + pu_s1 V (ρ j) m (P j) (pu_b2 (pu_S1 σ.2 P j 2)) (σ.1 j) := by unfold pu_gn; dsimp only
theorem gs_ok {V : Nat → Nat → Int32} {ρ : Nat → Nat} {pl : Nat → Int32} {nm : Nat} (hs : ∀ j, j < 2 → 1 ≤ V 4 (ρ j)) : ∀ m, m ≤ 12 → ∀ j, j < 2 → (0 ≤ (pu_gs V ρ pl nm m).1 j ∧ (pu_gs V ρ pl nm m).1 j ≤ V 4 (ρ j)) ∧ 0 ≤ (pu_gs V ρ pl nm m).2 j ∧ (pu_gs V ρ pl nm m).2 j ≤ nI (1200 * m) := by
  intro m
  induction m with
  | zero =>
    intro _ j hj
    refine ⟨⟨?_, Int32.le_refl _⟩, Int32.le_refl _, Int32.le_refl _⟩
    have := hs j hj
    show 0 ≤ V 4 (ρ j)
    grind
  | succ m ih =>
    intro hm j hj
    obtain ⟨_, i2⟩ := ih (by omega) j hj
    have e : nI (1200 * (m + 1)) = nI (1200 * m) + 1200 := by rw [show 1200 * (m + 1) = 1200 * m + 1200 by omega, ← nI_add]; rfl
    have hb : nI (1200 * m) ≤ 14400 := nI_le (b := 14400) (by omega) (by omega)
    show (0 ≤ (pu_gn V ρ m (pu_gp V ρ pl nm m) (pu_gs V ρ pl nm m)).1 j ∧ (pu_gn V ρ m (pu_gp V ρ pl nm m) (pu_gs V ρ pl nm m)).1 j ≤ V 4 (ρ j)) ∧ 0 ≤ (pu_gn V ρ m (pu_gp V ρ pl nm m) (pu_gs V ρ pl nm m)).2 j ∧ (pu_gn V ρ m (pu_gp V ρ pl nm m) (pu_gs V ρ pl nm m)).2 j ≤ nI (1200 * (m + 1))
    rw [gn_1, gn_2, e]
    exact ⟨l1_bd (hs j hj), add_bd i2.1 i2.2 hb (s1_bd (cl_bd _))⟩
theorem hX4_stepByPlan {X : z_Cx} (M : z_M) (pl : Int32) (e : Prop) [Decidable e] : z_Con X 0 mX4_stepByPlan [zi pl, zi (if e then 1 else 0)] M (fun v M' => M' = M ∧ v = pu_pl pl e) := by
  have e01 : (if e then (1 : Int32) else 0) = 0 ↔ ¬ e := by
    by_cases h : e
    · rw [if_pos h]; exact ⟨fun w => absurd w (by decide), fun w => absurd h w⟩
    · rw [if_neg h]; exact ⟨fun _ => h, fun _ => rfl⟩
  refine z_mg KX4_stepByPlan [] 60 (by decide +kernel) rfl ?_
  unfold pu_pl
  refine ⟨fun h => ?_, fun h1 => ⟨fun h => ?_, fun h2 => ⟨fun h => ?_, fun h3 => ?_⟩⟩⟩
  · rw [if_pos h]
    exact ⟨fun g => ⟨rfl, by rw [if_neg (e01.mp g)]⟩, fun g => ⟨rfl, by rw [if_pos (Classical.not_not.mp (fun w => g (e01.mpr w)))]⟩⟩
  · rw [if_neg h1, if_pos h]
    exact ⟨fun g => ⟨rfl, by rw [if_neg (e01.mp g)]⟩, fun g => ⟨rfl, by rw [if_pos (Classical.not_not.mp (fun w => g (e01.mpr w)))]⟩⟩
  · rw [if_neg h1, if_neg h2, if_pos h]
    exact ⟨rfl, rfl⟩
  · rw [if_neg h1, if_neg h2, if_neg h3]
    exact ⟨rfl, rfl⟩
theorem hJ6_compare {X : z_Cx} (M : z_M) (x y : Int32) : z_Con X 0 mJ6_compare_7cf53 [zi x, zi y] M (fun v M' => M' = M ∧ v = if x < y then -1 else if x = y then 0 else 1) := by
  refine z_mg KJ6_compare_7cf53 [] 60 (by decide +kernel) rfl ?_
  refine ⟨fun h => ?_, fun h => ?_⟩
  · rw [if_neg (Int32.not_lt.mpr h)]
    exact ⟨fun g => ⟨rfl, by rw [if_neg g]⟩, fun g => ⟨rfl, by rw [if_pos g]⟩⟩
  · exact ⟨rfl, by rw [if_pos (Int32.not_le.mp h)]⟩
/-- how a game ends: 1 where the first wins -/
def pu_sc (V : Nat → Nat → Int32) (a b nm : Nat) (pa pb : Int32) : Int32 := if (pu_gs V (pu_ab a b) (fun j => if j = 0 then pa else pb) nm nm).2 1 < (pu_gs V (pu_ab a b) (fun j => if j = 0 then pa else pb) nm nm).2 0 then -1 else if (pu_gs V (pu_ab a b) (fun j => if j = 0 then pa else pb) nm nm).2 1 = (pu_gs V (pu_ab a b) (fun j => if j = 0 then pa else pb) nm nm).2 0 then 0 else 1
theorem lX4_play {X : z_Cx} (M : z_M) {V : Nat → Nat → Int32} (hV : z_cv M 0 = V) {nm a b : Nat} {pa pb : Int32} (hnm : nm ≤ 12) (hm : M.1 6 0 1 = nI nm) (hs : ∀ j, j < 2 → 1 ≤ V 4 (pu_ab a b j)) (hr : M.1 27 1 1 = nI 2) : ∀ (u m : Nat) (Mc : z_M) (p0 p1 : Int32), m + u = nm → z_Fr [29] M Mc → z_Bd V a Mc 4 ((pu_gs V (pu_ab a b) (fun j => if j = 0 then pa else pb) nm m).1 0) ((pu_gs V (pu_ab a b) (fun j => if j = 0 then pa else pb) nm m).2 0) p0 → z_Bd V b Mc 5 ((pu_gs V (pu_ab a b) (fun j => if j = 0 then pa else pb) nm m).1 1) ((pu_gs V (pu_ab a b) (fun j => if j = 0 then pa else pb) nm m).2 1) p1 → z_Run X 4 mX4_play (fun v M' => z_Fr [29] M M' ∧ v = pu_sc V a b nm pa pb) 75 [(0, zr 42 0), (1, zr 6 0), (4, zi pa), (5, zi pb), (6, zr 29 4), (7, zr 29 5), (8, zi (pu_easy V 0 (V 3 a) 30)), (9, zi (pu_easy V 0 (V 3 b) 30)), (10, zi (nI m))] [] Mc := by
  have e2 : nI nm / 2 = nI (nm / 2) := nI_divN (b := 2) (by omega) (by omega) (by omega)
  intro u
  induction u with
  | zero =>
    intro m Mc p0 p1 ht hF hA hB
    have e : m = nm := by omega
    subst e
    refine z_go_run KX4_play [(75, [0, 1, 4, 5, 6, 7, 8, 9, 10])] 60 ?_
    refine ⟨fun _ => ?_, fun h => ?_⟩
    · refine z_uRe (hJ6_compare Mc (Mc.1 29 5 4) (Mc.1 29 4 4)) (g := pu_sc V a b m pa pb) ?_ (by decide) ?_
      · rw [hA.2.2.2.2.1, hB.2.2.2.2.1]
        rfl
      · exact ⟨hF, rfl⟩
    · rw [hF.2 6 (by decide), hm] at h
      exact absurd (Int32.le_refl _) h
  | succ u ih =>
    intro m Mc p0 p1 ht hF hA hB
    have hmc : Mc.1 6 0 1 = nI nm := by rw [hF.2 6 (by decide)]; exact hm
    have go : ∀ e : Int32, e = (if m < nm / 2 then 1 else 0) → z_Run X 4 mX4_play (fun v M' => z_Fr [29] M M' ∧ v = pu_sc V a b nm pa pb) 100 [(0, zr 42 0), (1, zr 6 0), (4, zi pa), (5, zi pb), (6, zr 29 4), (7, zr 29 5), (8, zi (pu_easy V 0 (V 3 a) 30)), (9, zi (pu_easy V 0 (V 3 b) 30)), (10, zi (nI m))] [zi e] Mc := by
      intro e ee
      subst ee
      refine z_go_run KX4_play [(75, [0, 1, 4, 5, 6, 7, 8, 9, 10])] 60 ?_
      refine z_uR (hX4_stepByPlan Mc pa (m < nm / 2)) (by decide) ?_
      refine z_uRe (hX9_asPace _ Mc) (g := pu_gp V (pu_ab a b) (fun j => if j = 0 then pa else pb) nm m 0) rfl (by decide) ?_
      have hF1 : z_Fr [29] M (z_s Mc 29 4 5 (pu_gp V (pu_ab a b) (fun j => if j = 0 then pa else pb) nm m 0)) := hF.s (by decide)
      refine z_uR (hX4_stepByPlan _ pb (m < nm / 2)) (by decide) ?_
      refine z_uRe (hX9_asPace _ _) (g := pu_gp V (pu_ab a b) (fun j => if j = 0 then pa else pb) nm m 1) rfl (by decide) ?_
      have hF2 : z_Fr [29] M (z_s (z_s Mc 29 4 5 (pu_gp V (pu_ab a b) (fun j => if j = 0 then pa else pb) nm m 0)) 29 5 5 (pu_gp V (pu_ab a b) (fun j => if j = 0 then pa else pb) nm m 1)) := hF1.s (by decide)
      have hV2 : z_cv (z_s (z_s Mc 29 4 5 (pu_gp V (pu_ab a b) (fun j => if j = 0 then pa else pb) nm m 0)) 29 5 5 (pu_gp V (pu_ab a b) (fun j => if j = 0 then pa else pb) nm m 1)) 0 = V := by rw [z_cvF hF2 no29]; exact hV
      have hFd : z_Fd V (pu_ab a b) 2 1 (z_s (z_s Mc 29 4 5 (pu_gp V (pu_ab a b) (fun j => if j = 0 then pa else pb) nm m 0)) 29 5 5 (pu_gp V (pu_ab a b) (fun j => if j = 0 then pa else pb) nm m 1)) (pu_gs V (pu_ab a b) (fun j => if j = 0 then pa else pb) nm m).1 (pu_gs V (pu_ab a b) (fun j => if j = 0 then pa else pb) nm m).2 (pu_gp V (pu_ab a b) (fun j => if j = 0 then pa else pb) nm m) := by
        intro j hj
        rcases (show j = 0 ∨ j = 1 by omega) with w | w
        · subst w
          exact (hA.s5).so (by decide)
        · subst w
          exact (hB.so (by decide)).s5
      refine z_use (hX3_runMile _ hV2 (by decide) (show m < 12 by omega) (by rw [hF2.2 27 (by decide)]; exact hr) (fun j hj => (cl_bd _).1) hs hFd) (by decide) (fun _ M1 k => ?_)
      obtain ⟨k1, k2⟩ := k
      have h3 := ih (m + 1) M1 _ _ (by omega) (hF2.trans k1) (by
        show z_Bd V a M1 4 ((pu_gn V (pu_ab a b) m (pu_gp V (pu_ab a b) (fun j => if j = 0 then pa else pb) nm m) (pu_gs V (pu_ab a b) (fun j => if j = 0 then pa else pb) nm m)).1 0) ((pu_gn V (pu_ab a b) m (pu_gp V (pu_ab a b) (fun j => if j = 0 then pa else pb) nm m) (pu_gs V (pu_ab a b) (fun j => if j = 0 then pa else pb) nm m)).2 0) _
        rw [gn_1, gn_2]
        exact (k2 0 (by decide)).1) (by
        show z_Bd V b M1 5 ((pu_gn V (pu_ab a b) m (pu_gp V (pu_ab a b) (fun j => if j = 0 then pa else pb) nm m) (pu_gs V (pu_ab a b) (fun j => if j = 0 then pa else pb) nm m)).1 1) ((pu_gn V (pu_ab a b) m (pu_gp V (pu_ab a b) (fun j => if j = 0 then pa else pb) nm m) (pu_gs V (pu_ab a b) (fun j => if j = 0 then pa else pb) nm m)).2 1) _
        rw [gn_1, gn_2]
        exact (k2 1 (by decide)).1)
      rw [← nI_1] at h3
      exact h3
    refine z_go_run KX4_play [(75, [0, 1, 4, 5, 6, 7, 8, 9, 10]), (100, [0, 1, 4, 5, 6, 7, 8, 9, 10])] 60 ?_
    refine ⟨fun h => ?_, fun h => ?_⟩
    · rw [hmc] at h
      exact absurd h (nI_ge (by omega) (by omega))
    · refine ⟨by decide, ?_⟩
      refine ⟨fun g => ?_, fun g => ?_⟩ <;> rw [hmc, e2, nI_leI (by omega) (by omega)] at g
      · exact go 0 (by rw [if_neg (by omega)])
      · exact go 1 (by rw [if_pos (by omega)])
theorem hX4_play {X : z_Cx} (M : z_M) {V : Nat → Nat → Int32} (hV : z_cv M 0 = V) {nm a b : Nat} (pa pb : Int32) (hnm : nm ≤ 12) (hm : M.1 6 0 1 = nI nm) (ha : a < 4) (hb : b < 4) (hs : ∀ j, j < 2 → 1 ≤ V 4 (pu_ab a b j)) : z_Con X 4 mX4_play [zr 42 0, zr 6 0, zi (nI a), zi (nI b), zi pa, zi pb] M (fun v M' => z_Fr [27, 29] M M' ∧ v = pu_sc V a b nm pa pb) := by
  refine z_mg KX4_play [(75, [0, 1, 4, 5, 6, 7, 8, 9, 10])] 60 (by decide +kernel) rfl ?_
  refine ⟨vin (by decide) (by decide), vin (by decide) (by decide), ?_⟩
  have f0 : z_Fr [27, 29] M (z_s M 27 1 1 2) := (z_Fr.refl).s (by decide)
  refine z_use (hX1_start (z_s M 27 1 1 2) 4 a ha 10) (by decide) (fun _ M1 k => ?_)
  obtain ⟨k1, k2, k3⟩ := k
  refine z_use (hX1_start M1 5 b hb 10) (by decide) (fun _ M2 g => ?_)
  obtain ⟨g1, g2, g3⟩ := g
  have cv0 : z_cv (z_s M 27 1 1 2) 0 = V := by
    rw [← hV]
    refine z_cv_c (fun k h1 h2 => ?_)
    rw [f0.2 k (fun w => by
      rcases List.mem_cons.mp w with w | w
      · omega
      · have : k = 29 := List.mem_singleton.mp w
        omega)]
  have cv1 : z_cv M1 0 = V := by rw [z_cvF k3.fr no29]; exact cv0
  have cv2 : z_cv M2 0 = V := by rw [z_cvF g3.fr no29]; exact cv1
  rw [cv0] at k1
  rw [cv1] at g1
  have ea : (z_s M 27 1 1 2).1 11 0 a = V 4 a := by rw [← cv0]; rfl
  have eb : M1.1 11 0 b = V 4 b := by rw [← cv1]; rfl
  rw [ea] at k1
  rw [eb] at g1
  have k1' : z_Bd V a M2 4 (V 4 a) 0 10 := g3.bd (by decide) k1
  refine z_uRe (hX2_easyPace M2 0 0 (M2.1 29 4 0) (vin (by decide) (by decide))) (g := pu_easy V 0 (V 3 a) 30) (by rw [cv2, k1'.1]; rfl) (by decide) ?_
  refine z_uRe (hX2_easyPace M2 0 0 (M2.1 29 5 0) (vin (by decide) (by decide))) (g := pu_easy V 0 (V 3 b) 30) (by rw [cv2, g1.1]; rfl) (by decide) ?_
  have hr2 : M2.1 27 1 1 = nI 2 := by
    rw [g3.fr.2 27 (by decide), k3.fr.2 27 (by decide), z_gs, if_pos ⟨rfl, rfl, rfl⟩]
    rfl
  have hm2 : M2.1 6 0 1 = nI nm := by rw [g3.fr.2 6 (by decide), k3.fr.2 6 (by decide), f0.2 6 (by decide)]; exact hm
  refine z_Run.post (lX4_play (X := X) M2 cv2 (a := a) (b := b) (pa := pa) (pb := pb) hnm hm2 hs hr2 nm 0 M2 10 10 (by omega) z_Fr.refl k1' g1) ?_
  rintro v M' ⟨e1, e2⟩
  exact ⟨((f0.trans (k3.fr.mono (by decide))).trans (g3.fr.mono (by decide))).trans (e1.mono (by decide)), e2⟩
theorem two_s {V : Nat → Nat → Int32} {n a b : Nat} (hs : ∀ r, r < n → 1 ≤ V 4 r) (ha : a < n) (hb : b < n) : ∀ j, j < 2 → 1 ≤ V 4 (pu_ab a b j) := by
  intro j _
  unfold pu_ab
  split
  · exact hs a ha
  · exact hs b hb
/-- the scores of all plans -/
def pu_ss (V : Nat → Nat → Int32) (a b nm : Nat) : Nat → Int32 := fun k => pu_sc V a b nm (nI (k / 4)) (nI (k % 4))
theorem ixq {t : Nat} (ht : t < 16) : nI t / 4 = nI (t / 4) ∧ nI t - nI t / 4 * 4 = nI (t % 4) := ⟨nI_divN (b := 4) (by omega) (by omega) (by omega), nI_rem (b := 4) (by omega) (by omega) (by omega)⟩
theorem lX4_playAll {X : z_Cx} (M : z_M) {V : Nat → Nat → Int32} (hV : z_cv M 0 = V) {nm a b : Nat} (hnm : nm ≤ 12) (hm : M.1 6 0 1 = nI nm) (ha : a < 4) (hb : b < 4) (hs : ∀ j, j < 2 → 1 ≤ V 4 (pu_ab a b j)) : ∀ (u t : Nat) (Mc : z_M), t + u = 16 → z_Fr [27, 29, 43] M Mc → (∀ k, k < t → Mc.1 43 0 k = pu_ss V a b nm k) → z_Run X 5 mX4_playAll (fun _ M' => z_Fr [27, 29, 43] M M' ∧ ∀ k, k < 16 → M'.1 43 0 k = pu_ss V a b nm k) 3 [(0, zr 42 0), (1, zr 6 0), (2, zi (nI a)), (3, zi (nI b)), (4, zi (nI t))] [] Mc := by
  have no3 : ∀ k, 7 ≤ k → k ≤ 20 → k ∉ [27, 29, 43] := fun k _ h w => by
    rcases List.mem_cons.mp w with w | w
    · omega
    · rcases List.mem_cons.mp w with w | w
      · omega
      · have : k = 43 := List.mem_singleton.mp w
        omega
  intro u
  induction u with
  | zero =>
    intro t Mc ht hF h1
    have e : t = 16 := by omega
    subst e
    refine z_go_run KX4_playAll [(3, [0, 1, 2, 3, 4])] 60 ?_
    exact ⟨fun _ => ⟨hF, h1⟩, fun h => absurd (by decide) h⟩
  | succ u ih =>
    intro t Mc ht hF h1
    obtain ⟨x1, x2⟩ := ixq (show t < 16 by omega)
    refine z_go_run KX4_playAll [(3, [0, 1, 2, 3, 4])] 60 ?_
    refine ⟨fun h => absurd h (nI_ge (b := 16) (by omega) (by omega)), fun h => ?_⟩
    refine ⟨by decide, by decide, ?_⟩
    have hc : z_Con X 4 mX4_play [zr 42 0, zr 6 0, zi (nI a), zi (nI b), zi (nI t / 4), zi (nI t - nI t / 4 * 4)] Mc (fun v M' => z_Fr [27, 29] Mc M' ∧ v = pu_ss V a b nm t) := by
      rw [x2, x1]
      exact hX4_play Mc (by rw [z_cvF hF no3]; exact hV) (nI (t / 4)) (nI (t % 4)) hnm (by rw [hF.2 6 (by decide)]; exact hm) ha hb hs
    refine z_use hc (by decide) (fun v M1 k => ?_)
    obtain ⟨k1, k2⟩ := k
    subst k2
    refine ⟨vp_in_nI (by omega) (by omega), ?_⟩
    rw [nI_clamp (by omega)]
    have h3 := ih (t + 1) (z_s M1 43 0 t (pu_ss V a b nm t)) (by omega) ((hF.trans (k1.mono (by decide))).s (by decide)) (fun k hk => by
      rw [z_gs]
      by_cases e : k = t
      · rw [if_pos ⟨rfl, rfl, e⟩, e]
      · rw [if_neg (fun w => e w.2.2), k1.2 43 (by decide)]
        exact h1 k (by omega))
    rw [← nI_1] at h3
    exact h3
theorem hX4_playAll {X : z_Cx} (M : z_M) {V : Nat → Nat → Int32} (hV : z_cv M 0 = V) {nm a b : Nat} (hnm : nm ≤ 12) (hm : M.1 6 0 1 = nI nm) (ha : a < 4) (hb : b < 4) (hs : ∀ j, j < 2 → 1 ≤ V 4 (pu_ab a b j)) : z_Con X 5 mX4_playAll [zr 42 0, zr 6 0, zi (nI a), zi (nI b)] M (fun _ M' => z_Fr [27, 29, 43] M M' ∧ ∀ k, k < 16 → M'.1 43 0 k = pu_ss V a b nm k) := by
  refine z_mg KX4_playAll [(3, [0, 1, 2, 3, 4])] 60 (by decide +kernel) rfl ?_
  exact lX4_playAll M hV hnm hm ha hb hs 16 0 M (by omega) z_Fr.refl (fun k hk => absurd hk (Nat.not_lt_zero k))
/-- neither does better by another plan: those below t -/
def pu_re (S : Nat → Int32) (k : Nat) : Nat → Bool
  | 0 => true
  | o + 1 => pu_re S k o && decide (¬ S k < S (4 * o + k % 4) ∧ ¬ S (4 * (k / 4) + o) < S k)
theorem re_false {S : Nat → Int32} {k t : Nat} (h : pu_re S k t = false) : ∀ u, pu_re S k (t + u) = false := by
  intro u
  induction u with
  | zero => exact h
  | succ u ih => show (pu_re S k (t + u) && _) = false; rw [ih]; rfl
theorem lX4_restsAt {X : z_Cx} (M : z_M) {S : Nat → Int32} (hS : ∀ k, k < 16 → M.1 43 0 k = S k) (k : Nat) (hk : k < 16) : ∀ (u t : Nat), t + u = 4 → pu_re S k t = true → z_Run X 0 mX4_restsAt (fun v M' => M' = M ∧ v = pu_b2 (pu_re S k 4)) 19 [(0, zr 42 0), (1, zi (nI k)), (2, zi (nI (k / 4))), (3, zi (nI (k % 4))), (4, zi (S k)), (5, zi (nI t))] [] M := by
  intro u
  induction u with
  | zero =>
    intro t ht hf
    have e : t = 4 := by omega
    subst e
    refine z_go_run KX4_restsAt [(19, [0, 1, 2, 3, 4, 5])] 60 ?_
    exact ⟨fun _ => ⟨Or.inr rfl, rfl, by rw [hf]; rfl⟩, fun h => absurd (by decide) h⟩
  | succ u ih =>
    intro t ht hf
    have es : pu_re S k (t + 1) = (pu_re S k t && decide (¬ S k < S (4 * t + k % 4) ∧ ¬ S (4 * (k / 4) + t) < S k)) := rfl
    have i1 : nI t * 4 + nI (k % 4) = nI (4 * t + k % 4) := by
      show nI t * nI 4 + nI (k % 4) = _
      rw [pk_mul, nI_add, Nat.mul_comm]
    have i2 : nI (k / 4) * 4 + nI t = nI (4 * (k / 4) + t) := by
      show nI (k / 4) * nI 4 + nI t = _
      rw [pk_mul, nI_add, Nat.mul_comm]
    have no : ¬ (¬ S k < S (4 * t + k % 4) ∧ ¬ S (4 * (k / 4) + t) < S k) → pu_re S k 4 = false := by
      intro w
      have h1 : pu_re S k (t + 1) = false := by rw [es, hf, Bool.true_and]; exact decide_eq_false w
      have h2 := re_false h1 u
      rw [show t + 1 + u = 4 by omega] at h2
      exact h2
    refine z_go_run KX4_restsAt [(19, [0, 1, 2, 3, 4, 5])] 60 ?_
    refine ⟨fun h => absurd h (nI_ge (b := 4) (by omega) (by omega)), fun h => ?_⟩
    refine ⟨by rw [i1]; exact vp_in_nI (by omega) (by omega), ?_⟩
    have e1 : M.1 43 0 (nI t * 4 + nI (k % 4)).toNatClampNeg = S (4 * t + k % 4) := by rw [i1, nI_clamp (by omega)]; exact hS _ (by omega)
    have e2 : M.1 43 0 (nI (k / 4) * 4 + nI t).toNatClampNeg = S (4 * (k / 4) + t) := by rw [i2, nI_clamp (by omega)]; exact hS _ (by omega)
    rw [e1]
    refine ⟨fun g => ?_, fun g => ?_⟩
    · exact ⟨Or.inl rfl, rfl, by rw [no (fun w => w.1 g)]; rfl⟩
    · refine ⟨by rw [i2]; exact vp_in_nI (by omega) (by omega), ?_⟩
      rw [e2]
      refine ⟨fun g2 => ?_, fun g2 => ?_⟩
      · have h3 := ih (t + 1) (by omega) (by rw [es, hf, Bool.true_and]; exact decide_eq_true ⟨g, Int32.not_lt.mpr g2⟩)
        rw [← nI_1] at h3
        exact h3
      · exact ⟨Or.inl rfl, rfl, by rw [no (fun w => w.2 (Int32.not_le.mp g2))]; rfl⟩
theorem hX4_restsAt {X : z_Cx} (M : z_M) {S : Nat → Int32} (hS : ∀ k, k < 16 → M.1 43 0 k = S k) (k : Nat) (hk : k < 16) : z_Con X 0 mX4_restsAt [zr 42 0, zi (nI k)] M (fun v M' => M' = M ∧ v = pu_b2 (pu_re S k 4)) := by
  obtain ⟨x1, x2⟩ := ixq hk
  refine z_mg KX4_restsAt [(19, [0, 1, 2, 3, 4, 5])] 60 (by decide +kernel) rfl ?_
  refine ⟨by decide, by decide, vp_in_nI (by omega) (by omega), ?_⟩
  show z_Run X 0 _ _ 19 [(0, zr 42 0), (1, zi (nI k)), (2, zi (nI k / 4)), (3, zi (nI k - nI k / 4 * 4)), (4, zi (M.1 43 0 (nI k).toNatClampNeg)), (5, zi 0)] [] M
  rw [x2, x1, nI_clamp (by omega), hS k hk]
  exact lX4_restsAt M hS k hk 4 0 (by omega) rfl
/-- the i-th that rests, from k on, n were seen -/
def pu_rt (Q : Nat → Bool) (i : Int32) : Nat → Nat → Nat → Int32
  | 0, _, n => if i < 0 then nI n else -1000000
  | u + 1, k, n => if Q k = true then (if nI n = i then nI k else pu_rt Q i u (k + 1) (n + 1)) else pu_rt Q i u (k + 1) n
theorem lX9_rests {X : z_Cx} (M : z_M) {S : Nat → Int32} (hS : ∀ k, k < 16 → M.1 43 0 k = S k) (r1 r2 i : Int32) : ∀ (u k n : Nat), k + u = 16 → n ≤ k → z_Run X 6 mX9_rests (fun v M' => M' = M ∧ v = pu_rt (fun k => pu_re S k 4) i u k n) 54 [(0, zr 0 0), (1, zi r1), (2, zi r2), (3, zi i), (4, zi (nI n)), (5, zi (nI k))] [] M := by
  intro u
  induction u with
  | zero =>
    intro k n hk hn
    have e : k = 16 := by omega
    subst e
    refine z_go_run KX9_rests [(54, [0, 1, 2, 3, 4, 5])] 60 ?_
    refine ⟨fun _ => ?_, fun h => absurd (by decide) h⟩
    exact ⟨fun g => ⟨rfl, by show _ = (if i < 0 then nI n else -1000000); rw [if_neg (Int32.not_lt.mpr g)]⟩, fun g => ⟨rfl, by show _ = (if i < 0 then nI n else -1000000); rw [if_pos (Int32.not_le.mp g)]⟩⟩
  | succ u ih =>
    intro k n hk hn
    refine z_go_run KX9_rests [(54, [0, 1, 2, 3, 4, 5])] 60 ?_
    refine ⟨fun h => absurd h (nI_ge (b := 16) (by omega) (by omega)), fun h => ?_⟩
    refine z_uR (hX4_restsAt M hS k (by omega)) (by decide) ?_
    cases hq : pu_re S k 4 with
    | false =>
      have e2 : pu_rt (fun k => pu_re S k 4) i (u + 1) k n = pu_rt (fun k => pu_re S k 4) i u (k + 1) n := if_neg (by show ¬ pu_re S k 4 = true; rw [hq]; decide)
      rw [e2]
      refine ⟨fun _ => ?_, fun w => absurd rfl w⟩
      have h3 := ih (k + 1) n (by omega) (by omega)
      rw [← nI_1 k] at h3
      exact h3
    | true =>
      have e2 : pu_rt (fun k => pu_re S k 4) i (u + 1) k n = if nI n = i then nI k else pu_rt (fun k => pu_re S k 4) i u (k + 1) (n + 1) := if_pos hq
      rw [e2]
      refine ⟨fun w => absurd w (by decide), fun _ => ?_⟩
      refine ⟨fun g => ?_, fun g => ?_⟩
      · rw [if_neg g]
        have h3 := ih (k + 1) (n + 1) (by omega) (by omega)
        rw [← nI_1 k, ← nI_1 n] at h3
        exact h3
      · exact ⟨rfl, by rw [if_pos g]⟩
theorem hX9_rests {X : z_Cx} (M : z_M) {V : Nat → Nat → Int32} (hV : z_cv M 0 = V) {nm n : Nat} (hn : n ≤ 4) (hnm : nm ≤ 12) (hnr : M.1 6 0 5 = nI n) (hm : M.1 6 0 1 = nI nm) (hs : ∀ r, r < n → 1 ≤ V 4 r) (ra rb i : Int32) : z_Con X 6 mX9_rests [zr 0 0, zi ra, zi rb, zi i] M (fun v M' => z_Fr [27, 29, 43] M M' ∧ ((¬ (pu_ru n ra ∧ pu_ru n rb ∧ ¬ ra = rb ∧ -1 ≤ i) ∧ v = -1000001) ∨ (∃ a b, a < n ∧ ra = nI a ∧ b < n ∧ rb = nI b ∧ ¬ a = b ∧ -1 ≤ i ∧ v = pu_rt (fun k => pu_re (pu_ss V a b nm) k 4) i 16 0 0))) := by
  refine z_mg KX9_rests [(54, [0, 1, 2, 3, 4, 5])] 60 (by decide +kernel) rfl ?_
  refine z_uR (hX2_hasRunner M 0 ra) (by decide) ?_
  refine ⟨fun h => ?_, fun h => ?_⟩ <;> rw [hnr] at h
  · exact ⟨z_Fr.refl, Or.inl ⟨fun w => absurd w.1 (by unfold pu_ru; grind), rfl⟩⟩
  have hra : pu_ru n ra := by unfold pu_ru; grind
  refine z_uR (hX2_hasRunner M 0 rb) (by decide) ?_
  refine ⟨fun h2 => ?_, fun h2 => ?_⟩ <;> rw [hnr] at h2
  · exact ⟨z_Fr.refl, Or.inl ⟨fun w => absurd w.2.1 (by unfold pu_ru; grind), rfl⟩⟩
  have hrb : pu_ru n rb := by unfold pu_ru; grind
  refine ⟨fun h3 => ⟨z_Fr.refl, Or.inl ⟨fun w => w.2.2.1 h3, rfl⟩⟩, fun h3 => ?_⟩
  refine ⟨fun h4 => ?_, fun h4 => ⟨z_Fr.refl, Or.inl ⟨fun w => h4 w.2.2.2, rfl⟩⟩⟩
  obtain ⟨a, ha, ea⟩ := ru_of (by omega) hra
  obtain ⟨b, hb, eb⟩ := ru_of (by omega) hrb
  subst ea eb
  refine z_use (hX4_playAll M hV hnm hm (by omega) (by omega) (two_s hs ha hb)) (by decide) (fun _ M1 k => ?_)
  refine z_Run.post (lX9_rests (X := X) M1 k.2 (nI a) (nI b) i 16 0 0 (by omega) (Nat.le_refl 0)) ?_
  rintro v M' ⟨rfl, e2⟩
  exact ⟨k.1, Or.inr ⟨a, b, ha, rfl, hb, rfl, fun w => h3 (by rw [w]), h4, e2⟩⟩
theorem hX9_wins {X : z_Cx} (M : z_M) {V : Nat → Nat → Int32} (hV : z_cv M 0 = V) {nm n : Nat} (hn : n ≤ 4) (hnm : nm ≤ 12) (hnr : M.1 6 0 5 = nI n) (hm : M.1 6 0 1 = nI nm) (hs : ∀ r, r < n → 1 ≤ V 4 r) (ra rb pa pb : Int32) : z_Con X 5 mX9_wins [zr 0 0, zi ra, zi rb, zi pa, zi pb] M (fun v M' => z_Fr [27, 29] M M' ∧ ((¬ (pu_ru n ra ∧ pu_ru n rb ∧ ¬ ra = rb ∧ (0 ≤ pa ∧ pa ≤ 3) ∧ 0 ≤ pb ∧ pb ≤ 3) ∧ v = -1000001) ∨ (∃ a b, a < n ∧ ra = nI a ∧ b < n ∧ rb = nI b ∧ ¬ a = b ∧ (0 ≤ pa ∧ pa ≤ 3) ∧ (0 ≤ pb ∧ pb ≤ 3) ∧ v = if 0 < pu_sc V a b nm pa pb then 0 else if pu_sc V a b nm pa pb < 0 then 1 else -1000000))) := by
  refine z_mg KX9_wins [] 60 (by decide +kernel) rfl ?_
  refine z_uR (hX2_hasRunner M 0 ra) (by decide) ?_
  refine ⟨fun h => ?_, fun h => ?_⟩ <;> rw [hnr] at h
  · exact ⟨z_Fr.refl, Or.inl ⟨fun w => absurd w.1 (by unfold pu_ru; grind), rfl⟩⟩
  have hra : pu_ru n ra := by unfold pu_ru; grind
  refine z_uR (hX2_hasRunner M 0 rb) (by decide) ?_
  refine ⟨fun h2 => ?_, fun h2 => ?_⟩ <;> rw [hnr] at h2
  · exact ⟨z_Fr.refl, Or.inl ⟨fun w => absurd w.2.1 (by unfold pu_ru; grind), rfl⟩⟩
  have hrb : pu_ru n rb := by unfold pu_ru; grind
  refine ⟨fun h3 => ?_, fun h3 => ⟨z_Fr.refl, Or.inl ⟨fun w => w.2.2.1 h3, rfl⟩⟩⟩
  refine z_uR (hX9_within pa 0 3 M) (by decide) ?_
  refine ⟨fun h4 => ⟨z_Fr.refl, Or.inl ⟨fun w => absurd w.2.2.2.1 (by grind), rfl⟩⟩, fun h4 => ?_⟩
  have hpa : 0 ≤ pa ∧ pa ≤ 3 := by grind
  refine z_uR (hX9_within pb 0 3 M) (by decide) ?_
  refine ⟨fun h5 => ?_, fun h5 => ⟨z_Fr.refl, Or.inl ⟨fun w => absurd w.2.2.2.2 (by grind), rfl⟩⟩⟩
  have hpb : 0 ≤ pb ∧ pb ≤ 3 := by grind
  obtain ⟨a, ha, ea⟩ := ru_of (by omega) hra
  obtain ⟨b, hb, eb⟩ := ru_of (by omega) hrb
  subst ea eb
  refine z_use (hX4_play M hV pa pb hnm hm (by omega) (by omega) (two_s hs ha hb)) (by decide) (fun v M1 k => ?_)
  obtain ⟨k1, k2⟩ := k
  subst k2
  have fin : ∀ v : Int32, v = (if 0 < pu_sc V a b nm pa pb then 0 else if pu_sc V a b nm pa pb < 0 then 1 else -1000000) → z_Fr [27, 29] M M1 ∧ ((¬ (pu_ru n (nI a) ∧ pu_ru n (nI b) ∧ ¬ nI a = nI b ∧ (0 ≤ pa ∧ pa ≤ 3) ∧ 0 ≤ pb ∧ pb ≤ 3) ∧ v = -1000001) ∨ (∃ a' b', a' < n ∧ nI a = nI a' ∧ b' < n ∧ nI b = nI b' ∧ ¬ a' = b' ∧ (0 ≤ pa ∧ pa ≤ 3) ∧ (0 ≤ pb ∧ pb ≤ 3) ∧ v = if 0 < pu_sc V a' b' nm pa pb then 0 else if pu_sc V a' b' nm pa pb < 0 then 1 else -1000000)) :=
    fun v hv => ⟨k1, Or.inr ⟨a, b, ha, rfl, hb, rfl, fun w => h3 (by rw [w]), hpa, hpb, hv⟩⟩
  refine ⟨fun g => ?_, fun g => ?_⟩
  · refine ⟨fun g2 => ?_, fun g2 => ?_⟩
    · have q := fin (-1000000) (by rw [if_neg (Int32.not_lt.mpr g), if_neg (Int32.not_lt.mpr g2)])
      exact ⟨q.1, q.2⟩
    · have q := fin (1) (by rw [if_neg (Int32.not_lt.mpr g), if_pos (Int32.not_le.mp g2)])
      exact ⟨q.1, q.2⟩
  · have q := fin (0) (by rw [if_pos (Int32.not_le.mp g)])
    exact ⟨q.1, q.2⟩
