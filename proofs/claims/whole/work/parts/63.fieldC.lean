/-! ===== the class's field ===== -/
def z_Fd (V : Nat → Nat → Int32) (ρ : Nat → Nat) (n f : Nat) (M : z_M) (L T P : Nat → Int32) : Prop := ∀ j, j < n → z_Bd V (ρ j) M (j + 4 * f) (L j) (T j) (P j)
theorem lX3_isBehind {X : z_Cx} (M : z_M) {V : Nat → Nat → Int32} {ρ : Nat → Nat} {n f : Nat} {L T P : Nat → Int32} (hF : z_Fd V ρ n f M L T P) (hn : n ≤ 4) (hr : M.1 27 f 1 = nI n) (r : Nat) (hrn : r < n) : ∀ (u t : Nat), t + u = n → pu_S1 T P r t = false → z_Run X 1 mX3_isBehindSomeone (fun v M' => M' = M ∧ v = pu_b2 (pu_S1 T P r n)) 2 [(0, zr 27 f), (1, zi (nI r)), (2, zi (nI t))] [] M := by
  have up : ∀ t u, pu_S1 T P r t = true → pu_S1 T P r (t + u) = true := by
    intro t u h
    induction u with
    | zero => exact h
    | succ u ih => show (pu_S1 T P r (t + u) || _) = true; rw [ih]; rfl
  intro u
  induction u with
  | zero =>
    intro t ht hf
    have e : t = n := by omega
    subst e
    refine z_go_run KX3_isBehindSomeone [(2, [0, 1, 2])] 60 ?_
    refine ⟨fun h => ⟨Or.inl rfl, rfl, by rw [hf]; rfl⟩, fun h => ?_⟩
    rw [hr] at h
    exact absurd (Int32.le_refl _) h
  | succ u ih =>
    intro t ht hf
    have es : pu_S1 T P r (t + 1) = (pu_S1 T P r t || decide (t ≠ r ∧ 0 < T r - T t ∧ T r - T t ≤ 5 ∧ P r ≤ P t)) := rfl
    have nn : ¬ (t ≠ r ∧ 0 < T r - T t ∧ T r - T t ≤ 5 ∧ P r ≤ P t) → z_Run X 1 mX3_isBehindSomeone (fun v M' => M' = M ∧ v = pu_b2 (pu_S1 T P r n)) 2 [(0, zr 27 f), (1, zi (nI r)), (2, zi (nI t + 1))] [] M := by
      intro h
      rw [nI_1]
      refine ih (t + 1) (by omega) ?_
      rw [es, hf, Bool.false_or]
      exact decide_eq_false h
    refine z_go_run KX3_isBehindSomeone [(2, [0, 1, 2])] 60 ?_
    refine ⟨fun h => ?_, fun h => ?_⟩ <;> rw [hr] at h
    · exact absurd h (nI_ge (by omega) (by omega))
    · refine ⟨fun h1 => ?_, fun h1 => ?_⟩
      · exact nn (fun w => w.1 ((nI_eq (by omega) (by omega)).mp h1))
      · refine ⟨vp_in_nI (by omega) (by omega), vp_in_nI (by omega) (by omega), ?_⟩
        rw [nI_clamp (n := r) (by omega), nI_clamp (n := t) (by omega)]
        obtain ⟨_, _, _, _, a4, a5⟩ := hF r hrn
        obtain ⟨_, _, _, _, c4, c5⟩ := hF t (by omega)
        refine z_uRe (hX1_isShelteredBy M (r + 4 * f) (t + 4 * f)) (g := if 0 < T r - T t ∧ T r - T t ≤ 5 ∧ P r ≤ P t then 1 else 0) (by rw [a4, a5, c4, c5]) (by decide) ?_
        refine ⟨fun h2 => ?_, fun h2 => ?_⟩
        · refine nn (fun w => ?_)
          rw [if_pos w.2] at h2
          exact absurd h2 (by decide)
        · have h3 : 0 < T r - T t ∧ T r - T t ≤ 5 ∧ P r ≤ P t := by
            apply Classical.byContradiction
            intro w
            rw [if_neg w] at h2
            exact h2 rfl
          have h4 : pu_S1 T P r (t + 1) = true := by
            rw [es, hf, Bool.false_or]
            exact decide_eq_true ⟨fun w => h1 (by rw [w]), h3⟩
          have h5 := up (t + 1) u h4
          rw [show t + 1 + u = n by omega] at h5
          exact ⟨Or.inr rfl, rfl, by rw [h5]; rfl⟩
theorem hX3_isBehind {X : z_Cx} (M : z_M) {V : Nat → Nat → Int32} {ρ : Nat → Nat} {n f : Nat} {L T P : Nat → Int32} (hF : z_Fd V ρ n f M L T P) (hn : n ≤ 4) (hr : M.1 27 f 1 = nI n) (r : Nat) (hrn : r < n) : z_Con X 1 mX3_isBehindSomeone [zr 27 f, zi (nI r)] M (fun v M' => M' = M ∧ v = pu_b2 (pu_S1 T P r n)) := by
  refine z_mg KX3_isBehindSomeone [(2, [0, 1, 2])] 60 (by decide +kernel) rfl ?_
  exact lX3_isBehind M hF hn hr r hrn n 0 (by omega) rfl
theorem b2_01 (b : Bool) : pu_b2 b = 0 ∨ pu_b2 b = 1 := by cases b <;> decide
theorem z_Fd.s7 {V : Nat → Nat → Int32} {ρ : Nat → Nat} {n f : Nat} {M : z_M} {L T P : Nat → Int32} (h : z_Fd V ρ n f M L T P) {i : Nat} {v : Int32} : z_Fd V ρ n f (z_s M 29 i 7 v) L T P := by
  intro j hj
  have := h j hj
  unfold z_Bd at this ⊢
  simp only [z_gs]
  simp [this]
/-- the field behind mile m -/
def z_Fa (V : Nat → Nat → Int32) (ρ : Nat → Nat) (n f m : Nat) (M : z_M) (L T P : Nat → Int32) : Prop := ∀ j, j < n → z_Bd V (ρ j) M (j + 4 * f) (pu_l1 V (ρ j) m (P j) (pu_b2 (pu_S1 T P j n)) (L j)) (T j + pu_s1 V (ρ j) m (P j) (pu_b2 (pu_S1 T P j n)) (L j)) (P j) ∧ z_Ba V (ρ j) m M (j + 4 * f) (P j) (pu_b2 (pu_S1 T P j n)) (L j)
theorem lX3_runMile2 {X : z_Cx} (M : z_M) {V : Nat → Nat → Int32} (hV : z_cv M 0 = V) {ρ : Nat → Nat} {n f m : Nat} {L T P : Nat → Int32} (hn : n ≤ 4) (hm : m < 12) (hr : M.1 27 f 1 = nI n) (hP : ∀ j, j < n → 10 ≤ P j) (hs : ∀ j, j < n → 1 ≤ V 4 (ρ j)) : ∀ (u t : Nat) (Mc : z_M), t + u = n → z_Fr [29] M Mc → (∀ j, j < t → z_Bd V (ρ j) Mc (j + 4 * f) (pu_l1 V (ρ j) m (P j) (pu_b2 (pu_S1 T P j n)) (L j)) (T j + pu_s1 V (ρ j) m (P j) (pu_b2 (pu_S1 T P j n)) (L j)) (P j) ∧ z_Ba V (ρ j) m Mc (j + 4 * f) (P j) (pu_b2 (pu_S1 T P j n)) (L j)) → (∀ j, t ≤ j → j < n → z_Bd V (ρ j) Mc (j + 4 * f) (L j) (T j) (P j) ∧ Mc.1 29 (j + 4 * f) 7 = pu_b2 (pu_S1 T P j n)) → z_Run X 3 mX3_runMile (fun _ M' => z_Fr [29] M M' ∧ z_Fa V ρ n f m M' L T P) 32 [(0, zr 27 f), (1, zr 6 0), (2, zi (nI m)), (3, zi (nI t))] [] Mc := by
  intro u
  induction u with
  | zero =>
    intro t Mc ht hF h1 h2
    have e : t = n := by omega
    subst e
    refine z_go_run KX3_runMile [(32, [0, 1, 2, 3])] 60 ?_
    refine ⟨fun _ => ⟨hF, h1⟩, fun h => ?_⟩
    rw [hF.2 27 (by decide), hr] at h
    exact absurd (Int32.le_refl _) h
  | succ u ih =>
    intro t Mc ht hF h1 h2
    refine z_go_run KX3_runMile [(32, [0, 1, 2, 3])] 60 ?_
    refine ⟨fun h => ?_, fun h => ?_⟩
    · rw [hF.2 27 (by decide), hr] at h
      exact absurd h (nI_ge (by omega) (by omega))
    · refine ⟨vp_in_nI (by omega) (by omega), ?_⟩
      rw [nI_clamp (by omega)]
      obtain ⟨g1, g2⟩ := h2 t (Nat.le_refl t) (by omega)
      have hVc : z_cv Mc 0 = V := by rw [z_cvF hF (fun k h1 h2 w => by have : k = 29 := List.mem_singleton.mp w; omega)]; exact hV
      refine z_use (hX1_run Mc V hVc (t + 4 * f) (ρ t) m hm (L t) (T t) (P t) _ g1 g2 (b2_01 _) (hP t (by omega)) (hs t (by omega))) (by decide) (fun _ M1 k => ?_)
      obtain ⟨k1, k2, k3⟩ := k
      have h3 := ih (t + 1) M1 (by omega) (hF.trans k3.fr) (fun j hj => by
        rcases (show j < t ∨ j = t by omega) with w | w
        · obtain ⟨q1, q2⟩ := h1 j w
          refine ⟨k3.bd (by omega) q1, ?_⟩
          unfold z_Ba
          rw [k3.2.2 (j + 4 * f) (by omega)]
          exact q2
        · rw [w]; exact ⟨k1, k2⟩) (fun j hj1 hj2 => by
        obtain ⟨q1, q2⟩ := h2 j (by omega) hj2
        refine ⟨k3.bd (by omega) q1, ?_⟩
        rw [k3.2.2 (j + 4 * f) (by omega)]
        exact q2)
      rw [← nI_1] at h3
      exact h3
theorem lX3_runMile1 {X : z_Cx} (M : z_M) {V : Nat → Nat → Int32} (hV : z_cv M 0 = V) {ρ : Nat → Nat} {n f m : Nat} {L T P : Nat → Int32} (hn : n ≤ 4) (hm : m < 12) (hr : M.1 27 f 1 = nI n) (hP : ∀ j, j < n → 10 ≤ P j) (hs : ∀ j, j < n → 1 ≤ V 4 (ρ j)) : ∀ (u t : Nat) (Mc : z_M), t + u = n → z_Fr [29] M Mc → z_Fd V ρ n f Mc L T P → (∀ j, j < t → Mc.1 29 (j + 4 * f) 7 = pu_b2 (pu_S1 T P j n)) → z_Run X 3 mX3_runMile (fun _ M' => z_Fr [29] M M' ∧ z_Fa V ρ n f m M' L T P) 2 [(0, zr 27 f), (1, zr 6 0), (2, zi (nI m)), (3, zi (nI t))] [] Mc := by
  intro u
  induction u with
  | zero =>
    intro t Mc ht hF hB h7
    have e : t = n := by omega
    subst e
    refine z_go_run KX3_runMile [(2, [0, 1, 2, 3]), (32, [0, 1, 2, 3])] 60 ?_
    refine ⟨fun _ => ?_, fun h => ?_⟩
    · exact lX3_runMile2 M hV hn hm hr hP hs t 0 Mc (by omega) hF (fun j hj => absurd hj (Nat.not_lt_zero j)) (fun j _ hj => ⟨hB j hj, h7 j hj⟩)
    · rw [hF.2 27 (by decide), hr] at h
      exact absurd (Int32.le_refl _) h
  | succ u ih =>
    intro t Mc ht hF hB h7
    have hrc : Mc.1 27 f 1 = nI n := by rw [hF.2 27 (by decide)]; exact hr
    refine z_go_run KX3_runMile [(2, [0, 1, 2, 3]), (32, [0, 1, 2, 3])] 60 ?_
    refine ⟨fun h => ?_, fun h => ?_⟩
    · rw [hrc] at h
      exact absurd h (nI_ge (by omega) (by omega))
    · refine ⟨vp_in_nI (by omega) (by omega), ?_⟩
      rw [nI_clamp (by omega)]
      refine z_uR (hX3_isBehind Mc hB hn hrc t (by omega)) (by decide) ?_
      refine ⟨b2_01 _, ?_⟩
      have h3 := ih (t + 1) (z_s Mc 29 (t + 4 * f) 7 (pu_b2 (pu_S1 T P t n))) (by omega) (hF.s (by decide)) hB.s7 (fun j hj => by
        rw [z_gs]
        by_cases e : j = t
        · rw [if_pos ⟨rfl, by omega, rfl⟩, e]
        · rw [if_neg (by omega)]
          exact h7 j (by omega))
      rw [← nI_1] at h3
      exact h3
theorem hX3_runMile {X : z_Cx} (M : z_M) {V : Nat → Nat → Int32} (hV : z_cv M 0 = V) {ρ : Nat → Nat} {n f m : Nat} {L T P : Nat → Int32} (hn : n ≤ 4) (hm : m < 12) (hr : M.1 27 f 1 = nI n) (hP : ∀ j, j < n → 10 ≤ P j) (hs : ∀ j, j < n → 1 ≤ V 4 (ρ j)) (hF : z_Fd V ρ n f M L T P) : z_Con X 3 mX3_runMile [zr 27 f, zr 6 0, zi (nI m)] M (fun _ M' => z_Fr [29] M M' ∧ z_Fa V ρ n f m M' L T P) := by
  refine z_mg KX3_runMile [(2, [0, 1, 2, 3])] 60 (by decide +kernel) rfl ?_
  exact lX3_runMile1 M hV hn hm hr hP hs n 0 M (by omega) z_Fr.refl hF (fun j hj => absurd hj (Nat.not_lt_zero j))
theorem lX3_leastTime {X : z_Cx} (M : z_M) {V : Nat → Nat → Int32} {ρ : Nat → Nat} {n f : Nat} {L T P : Nat → Int32} (hF : z_Fd V ρ n f M L T P) (hn : n ≤ 4) (hr : M.1 27 f 1 = nI n) : ∀ (u t : Nat), t + u = n → z_Run X 0 mX3_leastTime (fun v M' => M' = M ∧ v = pu_mn 1000000000 T n) 5 [(0, zr 27 f), (1, zi (pu_mn 1000000000 T t)), (2, zi (nI t))] [] M := by
  intro u
  induction u with
  | zero =>
    intro t ht
    have e : t = n := by omega
    subst e
    refine z_go_run KX3_leastTime [(5, [0, 1, 2])] 60 ?_
    refine ⟨fun _ => ⟨rfl, rfl⟩, fun h => ?_⟩
    rw [hr] at h
    exact absurd (Int32.le_refl _) h
  | succ u ih =>
    intro t ht
    refine z_go_run KX3_leastTime [(5, [0, 1, 2])] 60 ?_
    refine ⟨fun h => ?_, fun h => ?_⟩
    · rw [hr] at h
      exact absurd h (nI_ge (by omega) (by omega))
    · refine ⟨vp_in_nI (by omega) (by omega), ?_⟩
      have h3 := ih (t + 1) (by omega)
      show z_Run X 0 _ _ 5 _ [] M
      refine z_Run.eq h3 ?_ rfl
      have e4 : M.1 29 ((nI t).toNatClampNeg + 4 * f) 4 = T t := by rw [nI_clamp (by omega)]; exact (hF t (by omega)).2.2.2.2.1
      rw [e4, nI_1]
      rfl
theorem hX3_leastTime {X : z_Cx} (M : z_M) {V : Nat → Nat → Int32} {ρ : Nat → Nat} {n f : Nat} {L T P : Nat → Int32} (hF : z_Fd V ρ n f M L T P) (hn : n ≤ 4) (hr : M.1 27 f 1 = nI n) : z_Con X 0 mX3_leastTime [zr 27 f] M (fun v M' => M' = M ∧ v = pu_mn 1000000000 T n) := by
  refine z_mg KX3_leastTime [(5, [0, 1, 2])] 60 (by decide +kernel) rfl ?_
  exact lX3_leastTime M hF hn hr n 0 (by omega)
theorem ix6 (r k : Nat) : nI r * 6 + nI k = nI (6 * r + k) := by
  show nI r * nI 6 + nI k = _
  rw [pk_mul, nI_add, Nat.mul_comm]
theorem lX3_stepByRules {X : z_Cx} (M : z_M) {V : Nat → Nat → Int32} (hV : z_cv M 0 = V) (r m c : Nat) (hr : r < 4) (hm : m < 12) (hc : c ≤ 6) (ec : V 6 r = nI c) (ahead : Int32) : ∀ (u t : Nat), t + u = c → z_Run X 0 mX3_stepByRules (fun v M' => M' = M ∧ v = pu_st V r m (M.1 29 r 3) (M.1 29 r 4 - ahead) u t) 3 [(0, zr 27 0), (1, zr 6 0), (2, zi (nI r)), (3, zi (nI m)), (4, zi ahead), (5, zi (nI t))] [] M := by
  have e13 : M.1 13 0 (nI r).toNatClampNeg = nI c := by rw [nI_clamp (by omega), ← ec, ← hV]; rfl
  intro u
  induction u with
  | zero =>
    intro t ht
    have e : t = c := by omega
    subst e
    refine z_go_run KX3_stepByRules [(3, [0, 1, 2, 3, 4, 5])] 60 ?_
    refine ⟨vp_in_nI (by omega) (by omega), ?_⟩
    rw [e13]
    exact ⟨fun _ => ⟨rfl, rfl⟩, fun h => absurd (Int32.le_refl _) h⟩
  | succ u ih =>
    intro t ht
    have i6 : (nI r * 6 + nI t).toNatClampNeg = 6 * r + t := by rw [ix6]; exact nI_clamp (by omega)
    have v6 : vp_in (nI r * 6 + nI t) 24 := by rw [ix6]; exact vp_in_nI (by omega) (by omega)
    have a7 : M.1 14 0 (nI r * 6 + nI t).toNatClampNeg = V 7 (6 * r + t) := by rw [i6, ← hV]; rfl
    have a8 : M.1 15 0 (nI r * 6 + nI t).toNatClampNeg = V 8 (6 * r + t) := by rw [i6, ← hV]; rfl
    have a9 : M.1 16 0 (nI r * 6 + nI t).toNatClampNeg = V 9 (6 * r + t) := by rw [i6, ← hV]; rfl
    have a10 : M.1 17 0 (nI r * 6 + nI t).toNatClampNeg = V 10 (6 * r + t) := by rw [i6, ← hV]; rfl
    -- from what is felt on
    have go : ∀ felt : Int32, felt = (if V 7 (6 * r + t) = 0 then M.1 29 r 3 else if V 7 (6 * r + t) = 1 then M.1 29 r 4 - ahead else nI m) → z_Run X 0 mX3_stepByRules (fun v M' => M' = M ∧ v = pu_st V r m (M.1 29 r 3) (M.1 29 r 4 - ahead) (u + 1) t) 74 [(0, zr 27 0), (1, zr 6 0), (2, zi (nI r)), (3, zi (nI m)), (4, zi ahead), (5, zi (nI t)), (6, zi (nI r * 6 + nI t)), (8, zi felt)] [] M := by
      intro felt ef
      have yes : pu_hd V r m t (M.1 29 r 3) (M.1 29 r 4 - ahead) = true → pu_st V r m (M.1 29 r 3) (M.1 29 r 4 - ahead) (u + 1) t = V 10 (6 * r + t) := fun h => if_pos h
      have no : ¬ pu_hd V r m t (M.1 29 r 3) (M.1 29 r 4 - ahead) = true → z_Run X 0 mX3_stepByRules (fun v M' => M' = M ∧ v = pu_st V r m (M.1 29 r 3) (M.1 29 r 4 - ahead) (u + 1) t) 3 [(0, zr 27 0), (1, zr 6 0), (2, zi (nI r)), (3, zi (nI m)), (4, zi ahead), (5, zi (nI t + 1))] [] M := by
        intro h
        have e2 : pu_st V r m (M.1 29 r 3) (M.1 29 r 4 - ahead) (u + 1) t = pu_st V r m (M.1 29 r 3) (M.1 29 r 4 - ahead) u (t + 1) := if_neg h
        rw [e2, nI_1]
        exact ih (t + 1) (by omega)
      have hh : pu_hd V r m t (M.1 29 r 3) (M.1 29 r 4 - ahead) = (if V 8 (6 * r + t) = 1 then decide (V 9 (6 * r + t) < felt) else decide (felt < V 9 (6 * r + t))) := by rw [ef]; rfl
      refine z_go_run KX3_stepByRules [(3, [0, 1, 2, 3, 4, 5])] 60 ?_
      refine ⟨v6, v6, ?_⟩
      rw [a8, a9]
      refine ⟨fun g => ?_, fun g => ?_⟩
      · rw [if_neg g] at hh
        refine ⟨fun g2 => ?_, fun g2 => ?_⟩
        · exact no (by rw [hh]; exact fun w => absurd (of_decide_eq_true w) (Int32.not_lt.mpr g2))
        · refine ⟨v6, rfl, ?_⟩
          rw [a10, yes (by rw [hh]; exact decide_eq_true (Int32.not_le.mp g2))]
      · rw [if_pos g] at hh
        refine ⟨fun g2 => ?_, fun g2 => ?_⟩
        · exact no (by rw [hh]; exact fun w => absurd (of_decide_eq_true w) (Int32.not_lt.mpr g2))
        · refine ⟨v6, rfl, ?_⟩
          rw [a10, yes (by rw [hh]; exact decide_eq_true (Int32.not_le.mp g2))]
    refine z_go_run KX3_stepByRules [(3, [0, 1, 2, 3, 4, 5]), (74, [0, 1, 2, 3, 4, 5, 6, 8])] 60 ?_
    refine ⟨vp_in_nI (by omega) (by omega), ?_⟩
    rw [e13]
    refine ⟨fun h => absurd h (nI_ge (by omega) (by omega)), fun h => ?_⟩
    refine ⟨v6, ?_⟩
    rw [a7]
    refine ⟨fun g => ?_, fun g => ?_⟩
    · refine ⟨fun g2 => ?_, fun g2 => ?_⟩
      · exact go _ (by rw [if_neg g, if_neg g2])
      · refine ⟨vp_in_nI (by omega) (by omega), ?_⟩
        rw [nI_clamp (n := r) (by omega)]
        exact go _ (by rw [if_neg g, if_pos g2]; rfl)
    · refine ⟨vp_in_nI (by omega) (by omega), ?_⟩
      rw [nI_clamp (n := r) (by omega)]
      exact go _ (by rw [if_pos g]; rfl)
theorem hX3_stepByRules {X : z_Cx} (M : z_M) {V : Nat → Nat → Int32} (hV : z_cv M 0 = V) (r m c : Nat) (hr : r < 4) (hm : m < 12) (hc : c ≤ 6) (ec : V 6 r = nI c) (ahead : Int32) : z_Con X 0 mX3_stepByRules [zr 27 0, zr 6 0, zi (nI r), zi (nI m), zi ahead] M (fun v M' => M' = M ∧ v = pu_st V r m (M.1 29 r 3) (M.1 29 r 4 - ahead) c 0) := by
  refine z_mg KX3_stepByRules [(3, [0, 1, 2, 3, 4, 5])] 60 (by decide +kernel) rfl ?_
  exact lX3_stepByRules M hV r m c hr hm hc ec ahead c 0 (by omega)
theorem lcmp_0 {x y : Int64} : lg_cmp x y = 0 ↔ x = y := by
  unfold lg_cmp
  by_cases h : x > y
  · rw [if_pos h]
    refine ⟨fun w => absurd w (by decide), fun w => ?_⟩
    rw [w] at h
    exact absurd h Int64.lt_irrefl
  · rw [if_neg h]
    by_cases e : x = y
    · rw [if_pos e]; exact ⟨fun _ => e, fun _ => rfl⟩
    · rw [if_neg e]; exact ⟨fun w => absurd w (by decide), fun w => absurd w e⟩
theorem nx_rem {x : Nat} (hx : x < 2147483647) : lN x * 16807 - lN x * 16807 / 2147483647 * 2147483647 = lN (pu_nx x) ∧ pu_nx x < 2147483647 := by
  refine ⟨?_, Nat.mod_lt _ (by omega)⟩
  show lN x * lN 16807 - lN x * lN 16807 / lN 2147483647 * lN 2147483647 = _
  rw [lN_mul]
  exact pk_lRem (by omega) (by omega) (by omega)
theorem sl_rem {x : Nat} (hx : x < 2147483647) : lN x - lN x / 7 * 7 = lN (x % 7) := by
  show lN x - lN x / lN 7 * lN 7 = _
  exact pk_lRem (by omega) (by omega) (by omega)
theorem hX3_stepBySlip {X : z_Cx} (M : z_M) (f x : Nat) (hx : x < 2147483647) (hl : M.2.1 27 f = lN x) : z_Con X 0 mX3_stepBySlip [zr 27 f] M (fun v M' => v = (if x = 0 then 0 else if pu_nx x % 7 = 0 then 1 else if pu_nx x % 7 = 1 then -1 else 0) ∧ M' = z_sl M 27 f (lN (pu_nx x))) := by
  obtain ⟨n1, n2⟩ := nx_rem hx
  have n3 := sl_rem n2
  refine z_mg KX3_stepBySlip [] 60 (by decide +kernel) rfl ?_
  have n1' : M.2.1 27 f * 16807 - M.2.1 27 f * 16807 / 2147483647 * 2147483647 = lN (pu_nx x) := by rw [hl]; exact n1
  refine ⟨fun h => ?_, fun h => ?_⟩ <;> rw [hl] at h
  · have hx0 : ¬ x = 0 := fun w => h (lcmp_0.mpr (by rw [w]; rfl))
    refine ⟨by decide, ?_⟩
    have e1 : (z_sl M 27 f (M.2.1 27 f * 16807 - M.2.1 27 f * 16807 / 2147483647 * 2147483647)).2.1 27 f = lN (pu_nx x) := by
      rw [n1']
      exact if_pos (c := 27 = 27 ∧ f = f) ⟨rfl, rfl⟩
    refine ⟨by decide, ?_⟩
    rw [e1, n3, n1', if_neg hx0]
    refine ⟨fun h2 => ?_, fun h2 => ?_⟩
    · have h3 : ¬ pu_nx x % 7 = 0 := fun w => h2 (lcmp_0.mpr (by rw [w]; rfl))
      rw [if_neg h3]
      refine ⟨fun h4 => ?_, fun h4 => ?_⟩
      · have h5 : ¬ pu_nx x % 7 = 1 := fun w => h4 (lcmp_0.mpr (by rw [w]; rfl))
        exact ⟨by rw [if_neg h5], rfl⟩
      · have h5 : pu_nx x % 7 = 1 := (lN_eq (b := 1) (by omega) (by omega)).mp (lcmp_0.mp h4)
        exact ⟨by rw [if_pos h5], rfl⟩
    · have h3 : pu_nx x % 7 = 0 := (lN_eq (b := 0) (by omega) (by omega)).mp (lcmp_0.mp h2)
      exact ⟨by rw [if_pos h3], rfl⟩
  · have hx0 : x = 0 := (lN_eq (b := 0) (by omega) (by omega)).mp (lcmp_0.mp h)
    refine ⟨by rw [if_pos hx0], ?_⟩
    subst hx0
    refine Prod.ext rfl (Prod.ext ?_ rfl)
    funext a b
    show M.2.1 a b = if a = 27 ∧ b = f then lN (pu_nx 0) else M.2.1 a b
    by_cases e : a = 27 ∧ b = f
    · rw [if_pos e, e.1, e.2, hl]; rfl
    · rw [if_neg e]
