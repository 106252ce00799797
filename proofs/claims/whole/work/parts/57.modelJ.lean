/-! ===== the model: images, counts ===== -/
theorem ixk (k x : Nat) : 479 * nI k + nI x = nI (479 * k + x) := by
  show nI 479 * nI k + nI x = _
  rw [pk_mul, nI_add]
theorem k_of {k : Int32} (h : 0 ≤ k ∧ k ≤ 1) : ∃ x, x < 2 ∧ k = nI x ∧ k.toNatClampNeg = x := by
  obtain ⟨x, hx, e⟩ := nI_of2 (M := 1) (n := 1) (by decide) (Int32.not_lt.mpr h.1) h.2
  exact ⟨x, by omega, e, by rw [e]; exact nI_clamp (by omega)⟩
theorem lX10_image {X : z_Cx} (M : z_M) (k : Nat) (hk : k < 2) : ∀ (u t : Nat) (Mc : z_M), t + u = 479 → z_Fm [] [48] M Mc → (∀ x, Mc.1 48 0 x = if 479 * k ≤ x ∧ x < 479 * k + t then z_nw M (x - 479 * k) else M.1 48 0 x) → z_Run X 1 mX10_image (fun v M' => v = 1 ∧ z_Fm [] [48, 49] M M' ∧ (∀ x, M'.1 48 0 x = if 479 * k ≤ x ∧ x < 479 * k + 479 then z_nw M (x - 479 * k) else M.1 48 0 x) ∧ ∀ j, M'.1 49 0 j = if j = k then 1 else M.1 49 0 j) 25 [(0, zr 46 0), (1, zi (nI k)), (2, zi (nI t))] [] Mc := by
  intro u
  induction u with
  | zero =>
    intro t Mc ht hF hx
    have e : t = 479 := by omega
    subst e
    refine z_go_run KX10_image [(25, [0, 1, 2])] 60 ?_
    refine ⟨fun h => ?_, fun h => absurd (by decide) h⟩
    refine ⟨vp_in_nI (by omega) (by omega), Or.inr rfl, rfl, ?_, fun x => ?_, fun j => ?_⟩
    · exact (hF.mono (by decide) (by decide)).s (by decide) (by decide)
    · rw [z_gs, if_neg (by omega)]
      exact hx x
    · rw [z_gs, nI_clamp (by omega)]
      by_cases e : j = k
      · rw [if_pos ⟨rfl, rfl, e⟩, if_pos e]
      · rw [if_neg (fun w => e w.2.2), if_neg e, hF.2.1 49 (by decide) (by decide)]
  | succ u ih =>
    intro t Mc ht hF hx
    refine z_go_run KX10_image [(25, [0, 1, 2])] 60 ?_
    refine ⟨fun h => absurd h (nI_ge (b := 479) (by omega) (by omega)), fun h => ?_⟩
    refine ⟨vp_in_nI (by omega) (by omega), by rw [ixk]; exact vp_in_nI (by omega) (by omega), ?_⟩
    show z_Run X 1 _ _ 25 [(0, zr 46 0), (1, zi (nI k)), (2, zi (nI t + 1))] [] (z_s Mc 48 0 (479 * nI k + nI t).toNatClampNeg (z_nw Mc (nI t).toNatClampNeg))
    rw [ixk, nI_clamp (by omega), nI_clamp (n := t) (by omega), nI_1, nw_fm hF (by decide)]
    refine ih (t + 1) _ (by omega) (hF.s (by decide) (by decide)) (fun x => ?_)
    rw [z_gs, hx x]
    by_cases e : x = 479 * k + t
    · rw [if_pos ⟨rfl, rfl, e⟩, if_pos (by omega), show x - 479 * k = t by omega]
    · rw [if_neg (fun w => e w.2.2)]
      by_cases e2 : 479 * k ≤ x ∧ x < 479 * k + t
      · rw [if_pos e2, if_pos (by omega)]
      · rw [if_neg e2, if_neg (by omega)]
theorem hX10_image {X : z_Cx} (M : z_M) {V : Nat → Nat → Int32} {nm nr nb : Nat} (hN : z_CR V nm nr nb (z_nw M)) (k : Int32) : z_Con X 1 mX10_image [zr 46 0, zi k] M (fun v M' => (¬ (0 ≤ k ∧ k ≤ 1) ∧ v = -1000001 ∧ M' = M) ∨ ((0 ≤ k ∧ k ≤ 1) ∧ nm = 0 ∧ v = -1000002 ∧ M' = M) ∨ ((0 ≤ k ∧ k ≤ 1) ∧ ¬ nm = 0 ∧ v = 1 ∧ z_Fm [] [48, 49] M M' ∧ (∀ x, M'.1 48 0 x = if 479 * k.toNatClampNeg ≤ x ∧ x < 479 * k.toNatClampNeg + 479 then z_nw M (x - 479 * k.toNatClampNeg) else M.1 48 0 x) ∧ ∀ j, M'.1 49 0 j = if j = k.toNatClampNeg then 1 else M.1 49 0 j)) := by
  have h12 := hN.1.1
  refine z_mg KX10_image [(25, [0, 1, 2])] 60 (by decide +kernel) rfl ?_
  refine z_uR (hX10_inI M k 0 1 (by decide) (by decide)) (by decide) ?_
  refine ⟨fun h => ?_, fun h => Or.inl ⟨by grind, rfl, rfl⟩⟩
  have hk : 0 ≤ k ∧ k ≤ 1 := by grind
  refine z_uR (hX10_miles M hN) (by decide) ?_
  refine ⟨fun h1 => ?_, fun h1 => ?_⟩
  · obtain ⟨x, hx, ex, ex2⟩ := k_of hk
    subst ex
    refine z_Run.post (lX10_image (X := X) M x hx 479 0 M (by omega) z_Fm.refl (fun y => by rw [if_neg (by omega)])) ?_
    rintro v M' ⟨e1, e2, e3, e4⟩
    rw [ex2]
    exact Or.inr (Or.inr ⟨hk, fun w => h1 (by rw [w]; rfl), e1, e2, e3, e4⟩)
  · refine Or.inr (Or.inl ⟨hk, ?_, rfl, rfl⟩)
    rcases Nat.eq_zero_or_pos nm with w | w
    · exact w
    · exact absurd h1 (nI_ne0 w (by omega))
theorem nw_s {M : z_M} {x : Nat} {v : Int32} : z_nw (z_s M 47 (M.2.2 46 0).toNat x v) = fun y => if y = x then v else z_nw M y := by
  funext y
  by_cases e : y = x
  · rw [if_pos e]
    exact if_pos (c := 47 = 47 ∧ (M.2.2 46 0).toNat = (M.2.2 46 0).toNat ∧ y = x) ⟨rfl, rfl, e⟩
  · rw [if_neg e]
    exact if_neg (c := 47 = 47 ∧ (M.2.2 46 0).toNat = (M.2.2 46 0).toNat ∧ y = x) (fun w => e w.2.2)
theorem lX10_restore {X : z_Cx} (M : z_M) (k : Nat) (hk : k < 2) : ∀ (u t : Nat) (Mc : z_M), t + u = 479 → z_Fm [] [47] M Mc → (∀ x, x < t → z_nw Mc x = M.1 48 0 (479 * k + x)) → z_Run X 1 mX10_restore (fun v M' => v = 1 ∧ z_Fm [] [47] M M' ∧ ∀ x, x < 479 → z_nw M' x = M.1 48 0 (479 * k + x)) 27 [(0, zr 46 0), (1, zi (nI k)), (2, zi (nI t))] [] Mc := by
  intro u
  induction u with
  | zero =>
    intro t Mc ht hF hx
    have e : t = 479 := by omega
    subst e
    refine z_go_run KX10_restore [(27, [0, 1, 2])] 60 ?_
    exact ⟨fun h => ⟨rfl, hF, hx⟩, fun h => absurd (by decide) h⟩
  | succ u ih =>
    intro t Mc ht hF hx
    refine z_go_run KX10_restore [(27, [0, 1, 2])] 60 ?_
    refine ⟨fun h => absurd h (nI_ge (b := 479) (by omega) (by omega)), fun h => ?_⟩
    refine ⟨by rw [ixk]; exact vp_in_nI (by omega) (by omega), vp_in_nI (by omega) (by omega), ?_⟩
    show z_Run X 1 _ _ 27 [(0, zr 46 0), (1, zi (nI k)), (2, zi (nI t + 1))] [] (z_s Mc 47 (Mc.2.2 46 0).toNat (nI t).toNatClampNeg (Mc.1 48 0 (479 * nI k + nI t).toNatClampNeg))
    rw [ixk, nI_clamp (n := 479 * k + t) (by omega), nI_clamp (n := t) (by omega), nI_1, hF.2.1 48 (by decide) (by decide)]
    refine ih (t + 1) _ (by omega) (hF.s (by decide) (by decide)) (fun x hx2 => ?_)
    rw [nw_s]
    dsimp only
    by_cases e : x = t
    · rw [if_pos e, e]
    · rw [if_neg e]
      exact hx x (by omega)
theorem hX10_restore {X : z_Cx} (M : z_M) (k : Int32) : z_Con X 1 mX10_restore [zr 46 0, zi k] M (fun v M' => (¬ (0 ≤ k ∧ k ≤ 1) ∧ v = -1000001 ∧ M' = M) ∨ ((0 ≤ k ∧ k ≤ 1) ∧ M.1 49 0 k.toNatClampNeg = 0 ∧ v = -1000002 ∧ M' = M) ∨ ((0 ≤ k ∧ k ≤ 1) ∧ ¬ M.1 49 0 k.toNatClampNeg = 0 ∧ v = 1 ∧ z_Fm [] [47] M M' ∧ ∀ x, x < 479 → z_nw M' x = M.1 48 0 (479 * k.toNatClampNeg + x))) := by
  refine z_mg KX10_restore [(27, [0, 1, 2])] 60 (by decide +kernel) rfl ?_
  refine z_uR (hX10_inI M k 0 1 (by decide) (by decide)) (by decide) ?_
  refine ⟨fun h => ?_, fun h => Or.inl ⟨by grind, rfl, rfl⟩⟩
  have hk : 0 ≤ k ∧ k ≤ 1 := by grind
  obtain ⟨x, hx, ex, ex2⟩ := k_of hk
  subst ex
  refine ⟨vp_in_nI (by omega) (by omega), ?_⟩
  refine ⟨fun h1 => ?_, fun h1 => Or.inr (Or.inl ⟨hk, h1, rfl, rfl⟩)⟩
  rw [ex2] at h1 ⊢
  refine z_Run.post (lX10_restore (X := X) M x hx 479 0 M (by omega) z_Fm.refl (fun y hy => absurd hy (Nat.not_lt_zero y))) ?_
  rintro v M' ⟨e1, e2, e3⟩
  exact Or.inr (Or.inr ⟨hk, h1, e1, e2, e3⟩)
def pu_cnt (L : Nat → Int32) (V : Nat → Nat → Int32) (nm nr nb len : Nat) (fl x : Int32) : Int32 := if x = 0 then pu_sum (fun s => if L s = -1 then 0 else 1) 8 else if x = 1 then nI nm else if x = 2 then nI nr else if x = 3 then nI nb else if x = 4 then pu_sum (V 6) nr else if x = 5 then nI len else if x = 6 then fl else -1000001
theorem lX10_count0 {X : z_Cx} (M : z_M) {L S : Nat → Int32} {I : Nat → Nat → Int32} (hS : z_Sm L S I M) (x : Int32) : ∀ (u t : Nat), t + u = 8 → z_Run X 1 mX10_count (fun v M' => M' = M ∧ v = pu_sum (fun s => if L s = -1 then 0 else 1) 8) 46 [(0, zr 46 0), (1, zi x), (2, zi (pu_sum (fun s => if L s = -1 then 0 else 1) t)), (3, zi (nI t))] [] M := by
  intro u
  induction u with
  | zero =>
    intro t ht
    have e : t = 8 := by omega
    subst e
    refine z_go_run KX10_count [(46, [0, 1, 2, 3])] 60 ?_
    exact ⟨fun h => ⟨rfl, rfl⟩, fun h => absurd (by decide) h⟩
  | succ u ih =>
    intro t ht
    have es : pu_sum (fun s => if L s = -1 then 0 else 1) (t + 1) = pu_sum (fun s => if L s = -1 then 0 else 1) t + (if L t = -1 then 0 else 1) := rfl
    have tt := Sm_there hS (show t < 8 by omega)
    have nx : ∀ y : Int32, y = pu_sum (fun s => if L s = -1 then 0 else 1) (t + 1) → z_Run X 1 mX10_count (fun v M' => M' = M ∧ v = pu_sum (fun s => if L s = -1 then 0 else 1) 8) 46 [(0, zr 46 0), (1, zi x), (2, zi y), (3, zi (nI t + 1))] [] M := by
      intro y hy
      rw [hy, nI_1]
      exact ih (t + 1) (by omega)
    refine z_go_run KX10_count [(46, [0, 1, 2, 3])] 60 ?_
    refine ⟨fun h => absurd h (nI_ge (b := 8) (by omega) (by omega)), fun h => ?_⟩
    refine ⟨vp_in_nI (by omega) (by omega), ?_⟩
    rw [nI_clamp (by omega)]
    refine ⟨fun h1 => nx _ ?_, fun h1 => nx _ ?_⟩
    · rw [es, if_pos (tt.mp h1)]
    · rw [es, if_neg (fun w => h1 (tt.mpr w))]
theorem lX10_count4 {X : z_Cx} (M : z_M) {V : Nat → Nat → Int32} {nm nr nb : Nat} (hN : z_CR V nm nr nb (z_nw M)) (x : Int32) : ∀ (u t : Nat), t + u = nr → z_Run X 1 mX10_count (fun v M' => M' = M ∧ v = pu_sum (V 6) nr) 94 [(0, zr 46 0), (1, zi x), (2, zi (pu_sum (V 6) t)), (3, zi (nI t))] [] M := by
  have h4 := hN.1.2.1
  intro u
  induction u with
  | zero =>
    intro t ht
    have e : t = nr := by omega
    subst e
    refine z_go_run KX10_count [(94, [0, 1, 2, 3])] 60 ?_
    refine z_uR (hX10_runners M hN) (by decide) ?_
    exact ⟨fun h => ⟨rfl, rfl⟩, fun h => absurd (Int32.le_refl _) h⟩
  | succ u ih =>
    intro t ht
    refine z_go_run KX10_count [(94, [0, 1, 2, 3])] 60 ?_
    refine z_uR (hX10_runners M hN) (by decide) ?_
    refine ⟨fun h => absurd h (nI_ge (by omega) (by omega)), fun h => ?_⟩
    refine z_uR (hX10_rules0 M hN t (by omega)) (by decide) ?_
    have h3 := ih (t + 1) (by omega)
    rw [← nI_1] at h3
    exact h3
theorem hX10_count {X : z_Cx} (M : z_M) {L S : Nat → Int32} {I : Nat → Nat → Int32} (hS : z_Sm L S I M) {V : Nat → Nat → Int32} {nm nr nb : Nat} (hN : z_CR V nm nr nb (z_nw M)) {len : Nat} (hl : M.1 46 0 5 = nI len) {fl : Int32} (hf : z_nw M 190 = fl) (x : Int32) : z_Con X 1 mX10_count [zr 46 0, zi x] M (fun v M' => M' = M ∧ v = pu_cnt L V nm nr nb len fl x) := by
  refine z_mg KX10_count [(46, [0, 1, 2, 3]), (94, [0, 1, 2, 3])] 60 (by decide +kernel) rfl ?_
  unfold pu_cnt
  refine ⟨fun h => ?_, fun h0 => ⟨fun h => ?_, fun h1 => ⟨fun h => ?_, fun h2 => ⟨fun h => ?_, fun h3 => ⟨fun h => ?_, fun h4 => ⟨fun h => ?_, fun h5 => ⟨fun h => ?_, fun h6 => ?_⟩⟩⟩⟩⟩⟩⟩
  · rw [if_pos h]
    exact lX10_count0 M hS x 8 0 (by omega)
  · rw [if_neg h0, if_pos h]
    refine z_uR (hX10_miles M hN) (by decide) ?_
    exact ⟨rfl, rfl⟩
  · rw [if_neg h0, if_neg h1, if_pos h]
    refine z_uR (hX10_runners M hN) (by decide) ?_
    exact ⟨rfl, rfl⟩
  · rw [if_neg h0, if_neg h1, if_neg h2, if_pos h]
    refine z_uR (hX10_rabbits M hN) (by decide) ?_
    exact ⟨rfl, rfl⟩
  · rw [if_neg h0, if_neg h1, if_neg h2, if_neg h3, if_pos h]
    exact lX10_count4 M hN x nr 0 (by omega)
  · rw [if_neg h0, if_neg h1, if_neg h2, if_neg h3, if_neg h4, if_pos h]
    exact ⟨rfl, hl⟩
  · rw [if_neg h0, if_neg h1, if_neg h2, if_neg h3, if_neg h4, if_neg h5, if_pos h]
    exact ⟨vin (by decide) (by decide), rfl, hf⟩
  · rw [if_neg h0, if_neg h1, if_neg h2, if_neg h3, if_neg h4, if_neg h5, if_neg h6]
    exact ⟨rfl, rfl⟩
