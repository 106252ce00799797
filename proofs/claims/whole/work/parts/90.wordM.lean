/-! ===== words of the model's reader ===== -/
theorem wd_len : ∀ j, j < 10 → (z_sb j 4 = 0 ∧ z_sln.getD j 0 = 4) ∨ (z_sb j 4 ≠ 0 ∧ z_sb j 5 = 0 ∧ z_sln.getD j 0 = 5) ∨ (z_sb j 4 ≠ 0 ∧ z_sb j 5 ≠ 0 ∧ z_sln.getD j 0 = 6) := by decide
theorem lX10_isWord {X : z_Cx} (M : z_M) (B : Nat → Int32) (len : Nat) (tk : z_Tk) (hT : z_Te B len M) (h1 : tk.1 ≤ tk.2.1) (h2 : tk.2.1 ≤ len) (ht : z_mtk M tk) (j : Nat) (hj : j < 10) (c : Bool) (hc : c = (decide (tk.2.2.1 = 1) && decide (tk.2.1 - tk.1 = z_sln.getD j 0))) : ∀ (u k : Nat), k + u = z_sln.getD j 0 → z_Run X 1 mX10_isWord (fun v M' => M' = M ∧ v = pu_b2 (c && pu_wd B tk.1 j (z_sln.getD j 0))) 49 [(0, zr 46 0), (1, zi (z_sb j 0)), (2, zi (z_sb j 1)), (3, zi (z_sb j 2)), (4, zi (z_sb j 3)), (5, zi (z_sb j 4)), (6, zi (z_sb j 5)), (7, zi (nI (z_sln.getD j 0))), (8, zi (pu_b2 (c && pu_wd B tk.1 j k))), (9, zi (nI k))] [] M := by
  have hlj := sl_bd j hj
  have hl6 := hT.1
  intro u
  induction u with
  | zero =>
    intro k hk
    refine z_go_run KX10_isWord [(49, [0, 1, 2, 3, 4, 5, 6, 7, 8, 9])] 60 ?_
    rw [show k = z_sln.getD j 0 by omega]
    refine ⟨fun _ => ⟨?_, rfl, rfl⟩, fun h => absurd (Int32.le_refl _) h⟩
    cases (c && pu_wd B tk.1 j (z_sln.getD j 0))
    · exact Or.inl rfl
    · exact Or.inr rfl
  | succ u ih =>
    intro k hk
    have es : pu_wd B tk.1 j (k + 1) = (pu_wd B tk.1 j k && decide (pu_by8 B (tk.1 + k) = z_sb j k)) := rfl
    refine z_go_run KX10_isWord [(49, [0, 1, 2, 3, 4, 5, 6, 7, 8, 9])] 60 ?_
    refine ⟨fun h => absurd h (nI_ge (by omega) (by omega)), fun _ => ?_⟩
    refine ⟨fun g => ?_, fun g => ?_⟩
    · have w := b2_0 g
      have w2 : (c && pu_wd B tk.1 j (z_sln.getD j 0)) = false := by
        cases c with
        | false => rfl
        | true =>
          rw [Bool.true_and] at w ⊢
          have := wd_false w (u + 1)
          rw [hk] at this
          exact this
      refine ⟨?_, rfl, ?_⟩
      · rw [w]
        exact Or.inl rfl
      · rw [w, w2]
    · have w := Bool.and_eq_true_iff.1 (b2_1 g)
      have w2 := Bool.and_eq_true_iff.1 (hc.symm.trans w.1)
      have w3 := of_decide_eq_true w2.2
      have ea : M.1 46 0 12 + nI k = nI (tk.1 + k) := by rw [ht.1, nI_add]
      have et : M.1 50 0 (M.1 46 0 12 + nI k).toNatClampNeg = pu_by8 B (tk.1 + k) := by
        rw [ea, nI_clamp (by omega)]
        exact hT.2.2 _ (by omega)
      have fin : (¬ M.1 50 0 (M.1 46 0 12 + nI k).toNatClampNeg = z_sb j k → z_Run X 1 mX10_isWord (fun v M' => M' = M ∧ v = pu_b2 (c && pu_wd B tk.1 j (z_sln.getD j 0))) 49 [(0, zr 46 0), (1, zi (z_sb j 0)), (2, zi (z_sb j 1)), (3, zi (z_sb j 2)), (4, zi (z_sb j 3)), (5, zi (z_sb j 4)), (6, zi (z_sb j 5)), (7, zi (nI (z_sln.getD j 0))), (8, zi 0), (9, zi (nI k + 1))] [] M) ∧ (M.1 50 0 (M.1 46 0 12 + nI k).toNatClampNeg = z_sb j k → z_Run X 1 mX10_isWord (fun v M' => M' = M ∧ v = pu_b2 (c && pu_wd B tk.1 j (z_sln.getD j 0))) 49 [(0, zr 46 0), (1, zi (z_sb j 0)), (2, zi (z_sb j 1)), (3, zi (z_sb j 2)), (4, zi (z_sb j 3)), (5, zi (z_sb j 4)), (6, zi (z_sb j 5)), (7, zi (nI (z_sln.getD j 0))), (8, zi 1), (9, zi (nI k + 1))] [] M) := by
        have h3 := ih (k + 1) (by omega)
        rw [es, w.1, w.2, Bool.true_and, Bool.true_and, ← nI_1] at h3
        rw [et, w.1]
        refine ⟨fun q => ?_, fun q => ?_⟩
        · rw [decide_eq_false q] at h3
          exact h3
        · rw [decide_eq_true q] at h3
          exact h3
      refine ⟨by rw [ea]; exact vp_in_nI (by omega) (by omega), ?_⟩
      have hd : k = 0 ∨ k = 1 ∨ k = 2 ∨ k = 3 ∨ k = 4 ∨ k = 5 := by omega
      rcases hd with e0 | e1 | e2 | e3 | e4 | e5
      · subst e0
        refine ⟨fun w => absurd rfl w, fun _ => ?_⟩
        exact ⟨fun g => fin.1 g, fun g => fin.2 g⟩
      · subst e1
        refine ⟨fun _ => ?_, fun w => absurd w (by decide)⟩
        refine ⟨fun w => absurd rfl w, fun _ => ?_⟩
        exact ⟨fun g => fin.1 g, fun g => fin.2 g⟩
      · subst e2
        refine ⟨fun _ => ?_, fun w => absurd w (by decide)⟩
        refine ⟨fun _ => ?_, fun w => absurd w (by decide)⟩
        refine ⟨fun w => absurd rfl w, fun _ => ?_⟩
        exact ⟨fun g => fin.1 g, fun g => fin.2 g⟩
      · subst e3
        refine ⟨fun _ => ?_, fun w => absurd w (by decide)⟩
        refine ⟨fun _ => ?_, fun w => absurd w (by decide)⟩
        refine ⟨fun _ => ?_, fun w => absurd w (by decide)⟩
        refine ⟨fun w => absurd rfl w, fun _ => ?_⟩
        exact ⟨fun g => fin.1 g, fun g => fin.2 g⟩
      · subst e4
        refine ⟨fun _ => ?_, fun w => absurd w (by decide)⟩
        refine ⟨fun _ => ?_, fun w => absurd w (by decide)⟩
        refine ⟨fun _ => ?_, fun w => absurd w (by decide)⟩
        refine ⟨fun _ => ?_, fun w => absurd w (by decide)⟩
        refine ⟨fun w => absurd rfl w, fun _ => ?_⟩
        exact ⟨fun g => fin.1 g, fun g => fin.2 g⟩
      · subst e5
        refine ⟨fun _ => ?_, fun w => absurd w (by decide)⟩
        refine ⟨fun _ => ?_, fun w => absurd w (by decide)⟩
        refine ⟨fun _ => ?_, fun w => absurd w (by decide)⟩
        refine ⟨fun _ => ?_, fun w => absurd w (by decide)⟩
        refine ⟨fun _ => ?_, fun w => absurd w (by decide)⟩
        exact ⟨fun g => fin.1 g, fun g => fin.2 g⟩
theorem hX10_isWord {X : z_Cx} (M : z_M) (B : Nat → Int32) (len : Nat) (tk : z_Tk) (hT : z_Te B len M) (h1 : tk.1 ≤ tk.2.1) (h2 : tk.2.1 ≤ len) (ht : z_mtk M tk) (j : Nat) (hj : j < 10) : z_Con X 1 mX10_isWord [zr 46 0, zi (z_sb j 0), zi (z_sb j 1), zi (z_sb j 2), zi (z_sb j 3), zi (z_sb j 4), zi (z_sb j 5)] M (fun v M' => M' = M ∧ v = pu_b2 (pu_isw B tk.1 tk.2.1 tk.2.2.1 j)) := by
  have hl6 := hT.1
  have hlj := sl_bd j hj
  unfold pu_isw
  have st : ∀ x : Int32, x = nI (z_sln.getD j 0) → z_Run X 1 mX10_isWord (fun v M' => M' = M ∧ v = pu_b2 ((decide (tk.2.2.1 = 1) && decide (tk.2.1 - tk.1 = z_sln.getD j 0)) && pu_wd B tk.1 j (z_sln.getD j 0))) 22 [(0, zr 46 0), (1, zi (z_sb j 0)), (2, zi (z_sb j 1)), (3, zi (z_sb j 2)), (4, zi (z_sb j 3)), (5, zi (z_sb j 4)), (6, zi (z_sb j 5)), (7, zi x)] [] M := by
    intro x ex
    rw [ex]
    have go := lX10_isWord (X := X) M B len tk hT h1 h2 ht j hj _ rfl (z_sln.getD j 0) 0 (by omega)
    refine z_go_run KX10_isWord [(49, [0, 1, 2, 3, 4, 5, 6, 7, 8, 9])] 60 ?_
    refine ⟨fun g => ?_, fun g => ?_⟩ <;> rw [ht.2.2.1] at g
    · rw [decide_eq_false g] at go ⊢
      exact go
    · refine ⟨fun g2 => ?_, fun g2 => ?_⟩ <;> rw [ht.2.1, nI_eq (by omega) (by omega)] at g2
      · rw [decide_eq_false g2, Bool.and_false] at go ⊢
        exact go
      · rw [decide_eq_true g, decide_eq_true g2] at go ⊢
        exact go
  refine z_mg KX10_isWord [(22, [0, 1, 2, 3, 4, 5, 6, 7])] 60 (by decide +kernel) rfl ?_
  rcases wd_len j hj with ⟨a, b⟩ | ⟨a, b, d⟩ | ⟨a, b, d⟩
  · exact ⟨fun w => absurd a w, fun _ => st 4 (by rw [b]; rfl)⟩
  · exact ⟨fun _ => ⟨fun w => absurd b w, fun _ => st 5 (by rw [d]; rfl)⟩, fun w => absurd w a⟩
  · exact ⟨fun _ => ⟨fun _ => st 6 (by rw [d]; rfl), fun w => absurd w b⟩, fun w => absurd w a⟩
