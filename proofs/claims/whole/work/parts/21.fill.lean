/-! ===== Arrays.fill, by the kinds that it is called with ===== -/
theorem z_fill_step {M : z_M} {k i t : Nat} {v : Int32} : z_s (z_sr M k i (fun j => if j < t then v else M.1 k i j)) k i t v = z_sr M k i (fun j => if j < t + 1 then v else M.1 k i j) := by
  refine Prod.ext ?_ rfl
  funext a b c
  show (if a = k ∧ b = i ∧ c = t then v else if a = k ∧ b = i then (if c < t then v else M.1 k i c) else M.1 a b c) = (if a = k ∧ b = i then (if c < t + 1 then v else M.1 k i c) else M.1 a b c)
  grind
theorem z_sr_self {M : z_M} {k i : Nat} {f : Nat → Int32} (h : f = M.1 k i) : z_sr M k i f = M := by
  subst h
  refine Prod.ext ?_ rfl
  funext a b c
  show (if a = k ∧ b = i then M.1 k i c else M.1 a b c) = M.1 a b c
  grind
theorem lJ7_fill_3 {X : z_Cx} (i : Nat) (v : Int32) (M : z_M) : ∀ (m t : Nat), t + m = 40 → z_Run X 0 mJ7_fill_53178 (fun _ M' => M' = z_sr M 3 i (fun j => if j < 40 then v else M.1 3 i j)) 5 [(0, zr 3 i), (1, zi v), (2, zi (nI t)), (3, zi (nI 40))] [] (z_sr M 3 i (fun j => if j < t then v else M.1 3 i j)) := by
  intro m
  induction m with
  | zero =>
    intro t ht
    refine z_go_run KJ7_fill_53178 [(5, [0, 1, 2, 3])] 30 ?_
    refine ⟨fun h => ?_, fun h => ?_⟩
    · have e : t = 40 := by omega
      subst e
      exact rfl
    · exact absurd (nI_le (show 40 ≤ t by omega) (by omega)) h
  | succ m ih =>
    intro t ht
    refine z_go_run KJ7_fill_53178 [(5, [0, 1, 2, 3])] 30 ?_
    refine ⟨fun h => ?_, fun h => ?_⟩
    · exact absurd h (nI_ge (by omega) (by omega))
    · refine ⟨vp_in_nI (by omega) (by omega), ?_⟩
      have h1 := ih (t + 1) (by omega)
      rw [← z_fill_step (t := t), ← nI_1 t] at h1
      show z_Run X 0 _ _ 5 [(0, zr 3 i), (1, zi v), (2, zi (nI t + 1)), (3, zi (nI 40))] [] (z_s (z_sr M 3 i (fun j => if j < t then v else M.1 3 i j)) 3 i (nI t).toNatClampNeg v)
      rw [nI_clamp (by omega)]
      exact h1
theorem hJ7_fill_3 {X : z_Cx} (i : Nat) (v : Int32) (M : z_M) : z_Con X 0 mJ7_fill_53178 [zr 3 i, zi v] M (fun _ M' => M' = z_sr M 3 i (fun j => if j < 40 then v else M.1 3 i j)) := by
  refine z_mg KJ7_fill_53178 [(5, [0, 1, 2, 3])] 30 (by decide +kernel) rfl ?_
  have h := lJ7_fill_3 (X := X) i v M 40 0 rfl
  rw [z_sr_self (f := fun j => if j < 0 then v else M.1 3 i j) (by funext j; simp)] at h
  exact h
theorem lJ7_fill_13 {X : z_Cx} (i : Nat) (v : Int32) (M : z_M) : ∀ (m t : Nat), t + m = 4 → z_Run X 0 mJ7_fill_53178 (fun _ M' => M' = z_sr M 13 i (fun j => if j < 4 then v else M.1 13 i j)) 5 [(0, zr 13 i), (1, zi v), (2, zi (nI t)), (3, zi (nI 4))] [] (z_sr M 13 i (fun j => if j < t then v else M.1 13 i j)) := by
  intro m
  induction m with
  | zero =>
    intro t ht
    refine z_go_run KJ7_fill_53178 [(5, [0, 1, 2, 3])] 30 ?_
    refine ⟨fun h => ?_, fun h => ?_⟩
    · have e : t = 4 := by omega
      subst e
      exact rfl
    · exact absurd (nI_le (show 4 ≤ t by omega) (by omega)) h
  | succ m ih =>
    intro t ht
    refine z_go_run KJ7_fill_53178 [(5, [0, 1, 2, 3])] 30 ?_
    refine ⟨fun h => ?_, fun h => ?_⟩
    · exact absurd h (nI_ge (by omega) (by omega))
    · refine ⟨vp_in_nI (by omega) (by omega), ?_⟩
      have h1 := ih (t + 1) (by omega)
      rw [← z_fill_step (t := t), ← nI_1 t] at h1
      show z_Run X 0 _ _ 5 [(0, zr 13 i), (1, zi v), (2, zi (nI t + 1)), (3, zi (nI 4))] [] (z_s (z_sr M 13 i (fun j => if j < t then v else M.1 13 i j)) 13 i (nI t).toNatClampNeg v)
      rw [nI_clamp (by omega)]
      exact h1
theorem hJ7_fill_13 {X : z_Cx} (i : Nat) (v : Int32) (M : z_M) : z_Con X 0 mJ7_fill_53178 [zr 13 i, zi v] M (fun _ M' => M' = z_sr M 13 i (fun j => if j < 4 then v else M.1 13 i j)) := by
  refine z_mg KJ7_fill_53178 [(5, [0, 1, 2, 3])] 30 (by decide +kernel) rfl ?_
  have h := lJ7_fill_13 (X := X) i v M 4 0 rfl
  rw [z_sr_self (f := fun j => if j < 0 then v else M.1 13 i j) (by funext j; simp)] at h
  exact h
theorem lJ7_fill_41 {X : z_Cx} (i : Nat) (v : Int32) (M : z_M) : ∀ (m t : Nat), t + m = 12 → z_Run X 0 mJ7_fill_53178 (fun _ M' => M' = z_sr M 41 i (fun j => if j < 12 then v else M.1 41 i j)) 5 [(0, zr 41 i), (1, zi v), (2, zi (nI t)), (3, zi (nI 12))] [] (z_sr M 41 i (fun j => if j < t then v else M.1 41 i j)) := by
  intro m
  induction m with
  | zero =>
    intro t ht
    refine z_go_run KJ7_fill_53178 [(5, [0, 1, 2, 3])] 30 ?_
    refine ⟨fun h => ?_, fun h => ?_⟩
    · have e : t = 12 := by omega
      subst e
      exact rfl
    · exact absurd (nI_le (show 12 ≤ t by omega) (by omega)) h
  | succ m ih =>
    intro t ht
    refine z_go_run KJ7_fill_53178 [(5, [0, 1, 2, 3])] 30 ?_
    refine ⟨fun h => ?_, fun h => ?_⟩
    · exact absurd h (nI_ge (by omega) (by omega))
    · refine ⟨vp_in_nI (by omega) (by omega), ?_⟩
      have h1 := ih (t + 1) (by omega)
      rw [← z_fill_step (t := t), ← nI_1 t] at h1
      show z_Run X 0 _ _ 5 [(0, zr 41 i), (1, zi v), (2, zi (nI t + 1)), (3, zi (nI 12))] [] (z_s (z_sr M 41 i (fun j => if j < t then v else M.1 41 i j)) 41 i (nI t).toNatClampNeg v)
      rw [nI_clamp (by omega)]
      exact h1
theorem hJ7_fill_41 {X : z_Cx} (i : Nat) (v : Int32) (M : z_M) : z_Con X 0 mJ7_fill_53178 [zr 41 i, zi v] M (fun _ M' => M' = z_sr M 41 i (fun j => if j < 12 then v else M.1 41 i j)) := by
  refine z_mg KJ7_fill_53178 [(5, [0, 1, 2, 3])] 30 (by decide +kernel) rfl ?_
  have h := lJ7_fill_41 (X := X) i v M 12 0 rfl
  rw [z_sr_self (f := fun j => if j < 0 then v else M.1 41 i j) (by funext j; simp)] at h
  exact h
theorem lJ7_fill_40 {X : z_Cx} (i : Nat) (v : Int32) (M : z_M) : ∀ (m t : Nat), t + m = 100 → z_Run X 0 mJ7_fill_53178 (fun _ M' => M' = z_sr M 40 i (fun j => if j < 100 then v else M.1 40 i j)) 5 [(0, zr 40 i), (1, zi v), (2, zi (nI t)), (3, zi (nI 100))] [] (z_sr M 40 i (fun j => if j < t then v else M.1 40 i j)) := by
  intro m
  induction m with
  | zero =>
    intro t ht
    refine z_go_run KJ7_fill_53178 [(5, [0, 1, 2, 3])] 30 ?_
    refine ⟨fun h => ?_, fun h => ?_⟩
    · have e : t = 100 := by omega
      subst e
      exact rfl
    · exact absurd (nI_le (show 100 ≤ t by omega) (by omega)) h
  | succ m ih =>
    intro t ht
    refine z_go_run KJ7_fill_53178 [(5, [0, 1, 2, 3])] 30 ?_
    refine ⟨fun h => ?_, fun h => ?_⟩
    · exact absurd h (nI_ge (by omega) (by omega))
    · refine ⟨vp_in_nI (by omega) (by omega), ?_⟩
      have h1 := ih (t + 1) (by omega)
      rw [← z_fill_step (t := t), ← nI_1 t] at h1
      show z_Run X 0 _ _ 5 [(0, zr 40 i), (1, zi v), (2, zi (nI t + 1)), (3, zi (nI 100))] [] (z_s (z_sr M 40 i (fun j => if j < t then v else M.1 40 i j)) 40 i (nI t).toNatClampNeg v)
      rw [nI_clamp (by omega)]
      exact h1
theorem hJ7_fill_40 {X : z_Cx} (i : Nat) (v : Int32) (M : z_M) : z_Con X 0 mJ7_fill_53178 [zr 40 i, zi v] M (fun _ M' => M' = z_sr M 40 i (fun j => if j < 100 then v else M.1 40 i j)) := by
  refine z_mg KJ7_fill_53178 [(5, [0, 1, 2, 3])] 30 (by decide +kernel) rfl ?_
  have h := lJ7_fill_40 (X := X) i v M 100 0 rfl
  rw [z_sr_self (f := fun j => if j < 0 then v else M.1 40 i j) (by funext j; simp)] at h
  exact h
