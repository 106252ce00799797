/-! ===== the class's course: what is read off it ===== -/
/-- a course's rows: 0 hills 1 heats 2 winds 3 lines 4 stores 5 fills 6 rules 7 whats 8 sides 9 numbers 10 steps 11 rabbits' paces 12 tills 13 coins -/
abbrev z_cv (M : z_M) (i : Nat) : Nat → Nat → Int32 := fun f j => if f < 14 then M.1 (7 + f) i j else 0
theorem z_cv_c {M M' : z_M} {i : Nat} (h : ∀ k, 7 ≤ k → k ≤ 20 → M'.1 k i = M.1 k i) : z_cv M' i = z_cv M i := by
  funext f j
  show (if f < 14 then M'.1 (7 + f) i j else 0) = (if f < 14 then M.1 (7 + f) i j else 0)
  by_cases e : f < 14
  · rw [if_pos e, if_pos e, h (7 + f) (by omega) (by omega)]
  · rw [if_neg e, if_neg e]
def pu_need (V : Nat → Nat → Int32) (mh : Int32) (m : Nat) (p b : Int32) : Int32 := p + V 0 m + (V 1 m + mh) / 2 + (if b = 0 then V 2 m / 2 else 0)
def pu_easy (V : Nat → Nat → Int32) (m : Nat) (line : Int32) : Nat → Int32
  | 0 => 10
  | n + 1 => if line < pu_need V 0 m (nI (10 + (n + 1))) 0 then pu_easy V m line n else nI (10 + (n + 1))
def pu_bit (set : Int32) (k : Nat) : Int32 := (set >>> (nI k &&& 31)) &&& 1
def pu_cost (V : Nat → Nat → Int32) (set : Int32) : Nat → Int32
  | 0 => 0
  | n + 1 => pu_cost V set n + pu_bit set n * V 13 n
def pu_sh (V : Nat → Nat → Int32) (set m p : Int32) : Nat → Bool
  | 0 => false
  | n + 1 => pu_sh V set m p n || decide (pu_bit set n = 1 ∧ m < V 12 n ∧ V 11 n = p)
def pu_sum (f : Nat → Int32) : Nat → Int32
  | 0 => 0
  | n + 1 => pu_sum f n + f n
theorem hX2_hasMile {X : z_Cx} (M : z_M) (i : Nat) (m : Int32) : z_Con X 1 mX2_hasMile [zr 6 i, zi m] M (fun r M' => M' = M ∧ r = if 0 ≤ m ∧ m ≤ M.1 6 i 1 - 1 then 1 else 0) := by
  refine z_mg KX2_hasMile [] 30 (by decide +kernel) rfl ?_
  refine z_uR (hX9_within m 0 (M.1 6 i 1 - 1) M) (by decide) ?_
  exact ⟨by grind, rfl, rfl⟩
theorem hX2_hasRunner {X : z_Cx} (M : z_M) (i : Nat) (m : Int32) : z_Con X 1 mX2_hasRunner [zr 6 i, zi m] M (fun r M' => M' = M ∧ r = if 0 ≤ m ∧ m ≤ M.1 6 i 5 - 1 then 1 else 0) := by
  refine z_mg KX2_hasRunner [] 30 (by decide +kernel) rfl ?_
  refine z_uR (hX9_within m 0 (M.1 6 i 5 - 1) M) (by decide) ?_
  exact ⟨by grind, rfl, rfl⟩
theorem hX2_hasRabbits {X : z_Cx} (M : z_M) (i : Nat) (m : Int32) : z_Con X 1 mX2_hasRabbits [zr 6 i, zi m] M (fun r M' => M' = M ∧ r = if 0 ≤ m ∧ m ≤ 1 <<< (M.1 6 i 14 &&& 31) - 1 then 1 else 0) := by
  refine z_mg KX2_hasRabbits [] 30 (by decide +kernel) rfl ?_
  refine z_uR (hX9_within m 0 (1 <<< (M.1 6 i 14 &&& 31) - 1) M) (by decide) ?_
  exact ⟨by grind, rfl, rfl⟩
theorem hX2_needOf {X : z_Cx} (M : z_M) (i : Nat) (m p b mh : Int32) (hm : vp_in m 12) : z_Con X 0 mX2_needOf [zr 6 i, zi m, zi p, zi b, zi mh] M (fun r M' => M' = M ∧ r = pu_need (z_cv M i) mh m.toNatClampNeg p b) := by
  refine z_mg KX2_needOf [] 60 (by decide +kernel) rfl ?_
  refine ⟨fun h => ?_, fun h => ?_⟩
  · exact ⟨hm, by decide, hm, hm, by decide, rfl, by unfold pu_need; rw [if_pos h]; rfl⟩
  · exact ⟨hm, hm, by decide, rfl, by unfold pu_need; rw [if_neg h]; rfl⟩
theorem z_m1 (n : Nat) : nI (n + 1) + (-1) = nI n := by rw [← nI_pred n, Int32.sub_eq_add_neg]
theorem lX2_easyPace {X : z_Cx} (M : z_M) (i : Nat) (m line : Int32) (hm : vp_in m 12) : ∀ n : Nat, n ≤ 30 → z_Run X 1 mX2_easyPace (fun r M' => M' = M ∧ r = pu_easy (z_cv M i) m.toNatClampNeg line n) 3 [(0, zr 6 i), (1, zi m), (2, zi line), (3, zi (nI (10 + n)))] [] M := by
  intro n
  induction n with
  | zero =>
    intro _
    refine z_go_run KX2_easyPace [(3, [0, 1, 2, 3])] 40 ?_
    refine ⟨fun h => ?_, fun h => ?_⟩
    · exact ⟨rfl, rfl⟩
    · exact absurd (by decide) h
  | succ n ih =>
    intro hn
    refine z_go_run KX2_easyPace [(3, [0, 1, 2, 3])] 40 ?_
    refine ⟨fun h => ?_, fun h => ?_⟩
    · exact absurd h (nI_ge (a := 10) (by omega) (by omega))
    · refine z_uR (hX2_needOf M i m (nI (10 + (n + 1))) 0 0 hm) (by decide) ?_
      refine ⟨fun h2 => ?_, fun h2 => ?_⟩
      · refine ⟨rfl, ?_⟩
        show nI (10 + (n + 1)) = (if line < pu_need (z_cv M i) 0 m.toNatClampNeg (nI (10 + (n + 1))) 0 then _ else nI (10 + (n + 1)))
        rw [if_neg (Int32.not_lt.mpr h2)]
      · have h3 := ih (by omega)
        have e : nI (10 + (n + 1)) + (-1) = nI (10 + n) := z_m1 (10 + n)
        have e2 : pu_easy (z_cv M i) m.toNatClampNeg line (n + 1) = pu_easy (z_cv M i) m.toNatClampNeg line n := if_pos (Int32.not_le.mp h2)
        rw [e2]
        show z_Run X 1 _ _ 3 [(0, zr 6 i), (1, zi m), (2, zi line), (3, zi (nI (10 + (n + 1)) + (-1)))] [] M
        rw [e]
        exact h3
theorem hX2_easyPace {X : z_Cx} (M : z_M) (i : Nat) (m line : Int32) (hm : vp_in m 12) : z_Con X 1 mX2_easyPace [zr 6 i, zi m, zi line] M (fun r M' => M' = M ∧ r = pu_easy (z_cv M i) m.toNatClampNeg line 30) := by
  refine z_mg KX2_easyPace [(3, [0, 1, 2, 3])] 40 (by decide +kernel) rfl ?_
  exact lX2_easyPace M i m line hm 30 (Nat.le_refl 30)
theorem lX2_rulesOfAll {X : z_Cx} (M : z_M) (i nr : Nat) (hnr : nr ≤ 4) (hr : M.1 6 i 5 = nI nr) : ∀ (m t : Nat), t + m = nr → z_Run X 0 mX2_rulesOfAll (fun r M' => M' = M ∧ r = pu_sum (M.1 13 i) nr) 4 [(0, zr 6 i), (1, zi (pu_sum (M.1 13 i) t)), (2, zi (nI t))] [] M := by
  intro m
  induction m with
  | zero =>
    intro t ht
    refine z_go_run KX2_rulesOfAll [(4, [0, 1, 2])] 40 ?_
    refine ⟨fun h => ?_, fun h => ?_⟩ <;> rw [hr] at h
    · have e : t = nr := by omega
      subst e
      exact ⟨rfl, rfl⟩
    · exact absurd (nI_le (by omega) (by omega)) h
  | succ m ih =>
    intro t ht
    refine z_go_run KX2_rulesOfAll [(4, [0, 1, 2])] 40 ?_
    refine ⟨fun h => ?_, fun h => ?_⟩ <;> rw [hr] at h
    · exact absurd h (nI_ge (by omega) (by omega))
    · refine ⟨vp_in_nI (by omega) (by omega), ?_⟩
      have h3 := ih (t + 1) (by omega)
      rw [← nI_1 t] at h3
      show z_Run X 0 _ _ 4 [(0, zr 6 i), (1, zi (pu_sum (M.1 13 i) t + M.1 13 i (nI t).toNatClampNeg)), (2, zi (nI t + 1))] [] M
      rw [nI_clamp (by omega)]
      exact h3
theorem hX2_rulesOfAll {X : z_Cx} (M : z_M) (i nr : Nat) (hnr : nr ≤ 4) (hr : M.1 6 i 5 = nI nr) : z_Con X 0 mX2_rulesOfAll [zr 6 i] M (fun r M' => M' = M ∧ r = pu_sum (M.1 13 i) nr) := by
  refine z_mg KX2_rulesOfAll [(4, [0, 1, 2])] 40 (by decide +kernel) rfl ?_
  exact lX2_rulesOfAll M i nr hnr hr nr 0 (by omega)
theorem lX2_costOf {X : z_Cx} (M : z_M) (i nb : Nat) (set : Int32) (hnb : nb ≤ 5) (hb : M.1 6 i 14 = nI nb) : ∀ (m t : Nat), t + m = nb → z_Run X 0 mX2_costOf (fun r M' => M' = M ∧ r = pu_cost (z_cv M i) set nb) 4 [(0, zr 6 i), (1, zi set), (2, zi (pu_cost (z_cv M i) set t)), (3, zi (nI t))] [] M := by
  intro m
  induction m with
  | zero =>
    intro t ht
    refine z_go_run KX2_costOf [(4, [0, 1, 2, 3])] 40 ?_
    refine ⟨fun h => ?_, fun h => ?_⟩ <;> rw [hb] at h
    · have e : t = nb := by omega
      subst e
      exact ⟨rfl, rfl⟩
    · exact absurd (nI_le (by omega) (by omega)) h
  | succ m ih =>
    intro t ht
    refine z_go_run KX2_costOf [(4, [0, 1, 2, 3])] 40 ?_
    refine ⟨fun h => ?_, fun h => ?_⟩ <;> rw [hb] at h
    · exact absurd h (nI_ge (by omega) (by omega))
    · refine ⟨vp_in_nI (by omega) (by omega), ?_⟩
      have h3 := ih (t + 1) (by omega)
      rw [← nI_1 t] at h3
      show z_Run X 0 _ _ 4 [(0, zr 6 i), (1, zi set), (2, zi (pu_cost (z_cv M i) set t + pu_bit set t * M.1 20 i (nI t).toNatClampNeg)), (3, zi (nI t + 1))] [] M
      rw [nI_clamp (by omega)]
      exact h3
theorem hX2_costOf {X : z_Cx} (M : z_M) (i nb : Nat) (set : Int32) (hnb : nb ≤ 5) (hb : M.1 6 i 14 = nI nb) : z_Con X 0 mX2_costOf [zr 6 i, zi set] M (fun r M' => M' = M ∧ r = pu_cost (z_cv M i) set nb) := by
  refine z_mg KX2_costOf [(4, [0, 1, 2, 3])] 40 (by decide +kernel) rfl ?_
  exact lX2_costOf M i nb set hnb hb nb 0 (by omega)
theorem lX2_isShelteredBy {X : z_Cx} (M : z_M) (i nb : Nat) (set m p : Int32) (hnb : nb ≤ 5) (hb : M.1 6 i 14 = nI nb) : ∀ (u t : Nat), t + u = nb → pu_sh (z_cv M i) set m p t = false → z_Run X 0 mX2_isShelteredBy (fun r M' => M' = M ∧ r = if pu_sh (z_cv M i) set m p nb = true then 1 else 0) 3 [(0, zr 6 i), (1, zi set), (2, zi m), (3, zi p), (4, zi (nI t))] [] M := by
  have up : ∀ t u, pu_sh (z_cv M i) set m p t = true → pu_sh (z_cv M i) set m p (t + u) = true := by
    intro t u h
    induction u with
    | zero => exact h
    | succ u ih => show (pu_sh (z_cv M i) set m p (t + u) || _) = true; rw [ih]; rfl
  intro u
  induction u with
  | zero =>
    intro t ht hf
    refine z_go_run KX2_isShelteredBy [(3, [0, 1, 2, 3, 4])] 60 ?_
    refine ⟨fun h => ?_, fun h => ?_⟩ <;> rw [hb] at h
    · have e : t = nb := by omega
      subst e
      exact ⟨Or.inl rfl, rfl, by rw [hf]; rfl⟩
    · exact absurd (nI_le (by omega) (by omega)) h
  | succ u ih =>
    intro t ht hf
    have e1 : (nI t).toNatClampNeg = t := nI_clamp (by omega)
    have nx : pu_bit set t = 1 ∧ m < M.1 19 i t ∧ M.1 18 i t = p → pu_sh (z_cv M i) set m p nb = true := by
      intro h
      have h2 : pu_sh (z_cv M i) set m p (t + 1) = true := by
        show (pu_sh (z_cv M i) set m p t || decide _) = true
        rw [hf, Bool.false_or]
        exact decide_eq_true h
      have h4 := up (t + 1) u h2
      rw [show t + 1 + u = nb by omega] at h4
      exact h4
    have nn : ¬ (pu_bit set t = 1 ∧ m < M.1 19 i t ∧ M.1 18 i t = p) → z_Run X 0 mX2_isShelteredBy (fun r M' => M' = M ∧ r = if pu_sh (z_cv M i) set m p nb = true then 1 else 0) 3 [(0, zr 6 i), (1, zi set), (2, zi m), (3, zi p), (4, zi (nI t + 1))] [] M := by
      intro h
      rw [nI_1]
      refine ih (t + 1) (by omega) ?_
      show (pu_sh (z_cv M i) set m p t || decide _) = false
      rw [hf, Bool.false_or]
      exact decide_eq_false h
    refine z_go_run KX2_isShelteredBy [(3, [0, 1, 2, 3, 4])] 60 ?_
    refine ⟨fun h => ?_, fun h => ?_⟩ <;> rw [hb] at h
    · exact absurd h (nI_ge (by omega) (by omega))
    · refine ⟨fun h2 => ?_, fun h2 => ?_⟩
      · exact nn (fun w => h2 w.1)
      · refine ⟨vp_in_nI (by omega) (by omega), ?_⟩
        refine ⟨fun h3 => ?_, fun h3 => ?_⟩ <;> rw [e1] at h3
        · exact nn (fun w => absurd w.2.1 (Int32.not_lt.mpr h3))
        · refine ⟨vp_in_nI (by omega) (by omega), ?_⟩
          refine ⟨fun h4 => ?_, fun h4 => ?_⟩ <;> rw [e1] at h4
          · exact nn (fun w => h4 w.2.2)
          · exact ⟨Or.inr rfl, rfl, (if_pos (nx ⟨h2, Int32.not_le.mp h3, h4⟩)).symm⟩
theorem hX2_isShelteredBy {X : z_Cx} (M : z_M) (i nb : Nat) (set m p : Int32) (hnb : nb ≤ 5) (hb : M.1 6 i 14 = nI nb) : z_Con X 0 mX2_isShelteredBy [zr 6 i, zi set, zi m, zi p] M (fun r M' => M' = M ∧ r = if pu_sh (z_cv M i) set m p nb = true then 1 else 0) := by
  refine z_mg KX2_isShelteredBy [(3, [0, 1, 2, 3, 4])] 60 (by decide +kernel) rfl ?_
  exact lX2_isShelteredBy M i nb set m p hnb hb nb 0 (by omega) rfl
