/-! ===== the class: images ===== -/
def z_bc (M : z_M) (k i j n : Nat) : z_M := z_sr M k i (va_cpy (M.1 k j) (M.1 k i) 0 0 n)
def z_ln (k : Nat) : Nat := (z_kd k).2.2.1
def z_b1 (M : z_M) (k i j f : Nat) : z_M := z_s M k i f (M.1 k j f)
theorem z_b1_o {M : z_M} {k i j f a b x : Nat} (h : ¬ (a = k ∧ b = i ∧ x = f)) : (z_b1 M k i j f).1 a b x = M.1 a b x := if_neg h
theorem z_b1_a {M : z_M} {k i j f : Nat} : (z_b1 M k i j f).1 k i f = M.1 k j f := if_pos ⟨rfl, rfl, rfl⟩
/-- course i has come to be as course j, in the kinds below k -/
def z_Bc (M0 M : z_M) (i j k : Nat) : Prop := M.2 = M0.2 ∧ (∀ a b, ¬ (b = i ∧ 6 ≤ a ∧ a < k) → M.1 a b = M0.1 a b) ∧ (∀ a, 7 ≤ a → a < k → ∀ x, x < z_ln a → M.1 a i x = M0.1 a j x) ∧ M.1 6 i 0 = M0.1 6 j 0 ∧ M.1 6 i 1 = M0.1 6 j 1 ∧ M.1 6 i 5 = M0.1 6 j 5 ∧ M.1 6 i 14 = M0.1 6 j 14
theorem z_Bc_step {M0 M : z_M} {i j k n : Nat} (hij : ¬ j = i) (hk : 7 ≤ k) (hn : z_ln k = n) (h : z_Bc M0 M i j k) : z_Bc M0 (z_bc M k i j n) i j (k + 1) := by
  obtain ⟨h1, h2, h3, h4, h5, h6, h7⟩ := h
  have e6 : (z_bc M k i j n).1 6 i = M.1 6 i := by
    funext x
    show (if 6 = k ∧ i = i then _ else M.1 6 i x) = M.1 6 i x
    rw [if_neg (by omega)]
  refine ⟨h1, fun a b hab => ?_, fun a ha1 ha2 x hx => ?_, by rw [e6]; exact h4, by rw [e6]; exact h5, by rw [e6]; exact h6, by rw [e6]; exact h7⟩
  · rw [← h2 a b (by omega)]
    funext x
    show (if a = k ∧ b = i then _ else M.1 a b x) = M.1 a b x
    rw [if_neg (by omega)]
  · show (if a = k ∧ i = i then va_cpy (M.1 k j) (M.1 k i) 0 0 n x else M.1 a i x) = _
    by_cases e : a = k
    · subst e
      rw [if_pos ⟨rfl, rfl⟩]
      unfold va_cpy
      rw [if_pos (by omega), h2 a j (by omega), show 0 + (x - 0) = x by omega]
    · rw [if_neg (fun w => e w.1)]
      exact h3 a ha1 (by omega) x hx
theorem hX2_become {X : z_Cx} (M0 : z_M) (i j : Nat) (hij : ¬ j = i) (hb : M0.1 6 j 0 = 0 ∨ M0.1 6 j 0 = 1) : z_Con X 0 mX2_become [zr 6 i, zr 6 j] M0 (fun _ M' => z_Bc M0 M' i j 21) := by
  have f21 : ∀ M, z_Bc M0 M i j 21 → z_Run X 0 mX2_become (fun _ M' => z_Bc M0 M' i j 21) 235 [(0, zr 6 i), (1, zr 6 j)] [] M := by
    intro M h
    refine z_go_run KX2_become [] 20 ?_
    exact h
  have f20 : ∀ M, z_Bc M0 M i j 20 → z_Run X 0 mX2_become (fun _ M' => z_Bc M0 M' i j 21) 221 [(0, zr 6 i), (1, zr 6 j)] [] M := by
    intro M h
    refine z_go_run KX2_become [(235, [0, 1])] 20 ?_
    exact ⟨⟨by decide, by decide, by decide, by decide, by decide⟩, f21 (z_bc M 20 i j 5) (z_Bc_step hij (by decide) rfl h)⟩
  have f19 : ∀ M, z_Bc M0 M i j 19 → z_Run X 0 mX2_become (fun _ M' => z_Bc M0 M' i j 21) 207 [(0, zr 6 i), (1, zr 6 j)] [] M := by
    intro M h
    refine z_go_run KX2_become [(221, [0, 1])] 20 ?_
    exact ⟨⟨by decide, by decide, by decide, by decide, by decide⟩, f20 (z_bc M 19 i j 5) (z_Bc_step hij (by decide) rfl h)⟩
  have f18 : ∀ M, z_Bc M0 M i j 18 → z_Run X 0 mX2_become (fun _ M' => z_Bc M0 M' i j 21) 193 [(0, zr 6 i), (1, zr 6 j)] [] M := by
    intro M h
    refine z_go_run KX2_become [(207, [0, 1])] 20 ?_
    exact ⟨⟨by decide, by decide, by decide, by decide, by decide⟩, f19 (z_bc M 18 i j 5) (z_Bc_step hij (by decide) rfl h)⟩
  have f17 : ∀ M, z_Bc M0 M i j 17 → z_Run X 0 mX2_become (fun _ M' => z_Bc M0 M' i j 21) 178 [(0, zr 6 i), (1, zr 6 j)] [] M := by
    intro M h
    refine z_go_run KX2_become [(193, [0, 1])] 20 ?_
    exact ⟨⟨by decide, by decide, by decide, by decide, by decide⟩, f18 (z_bc M 17 i j 24) (z_Bc_step hij (by decide) rfl h)⟩
  have f16 : ∀ M, z_Bc M0 M i j 16 → z_Run X 0 mX2_become (fun _ M' => z_Bc M0 M' i j 21) 163 [(0, zr 6 i), (1, zr 6 j)] [] M := by
    intro M h
    refine z_go_run KX2_become [(178, [0, 1])] 20 ?_
    exact ⟨⟨by decide, by decide, by decide, by decide, by decide⟩, f17 (z_bc M 16 i j 24) (z_Bc_step hij (by decide) rfl h)⟩
  have f15 : ∀ M, z_Bc M0 M i j 15 → z_Run X 0 mX2_become (fun _ M' => z_Bc M0 M' i j 21) 148 [(0, zr 6 i), (1, zr 6 j)] [] M := by
    intro M h
    refine z_go_run KX2_become [(163, [0, 1])] 20 ?_
    exact ⟨⟨by decide, by decide, by decide, by decide, by decide⟩, f16 (z_bc M 15 i j 24) (z_Bc_step hij (by decide) rfl h)⟩
  have f14 : ∀ M, z_Bc M0 M i j 14 → z_Run X 0 mX2_become (fun _ M' => z_Bc M0 M' i j 21) 133 [(0, zr 6 i), (1, zr 6 j)] [] M := by
    intro M h
    refine z_go_run KX2_become [(148, [0, 1])] 20 ?_
    exact ⟨⟨by decide, by decide, by decide, by decide, by decide⟩, f15 (z_bc M 14 i j 24) (z_Bc_step hij (by decide) rfl h)⟩
  have f13 : ∀ M, z_Bc M0 M i j 13 → z_Run X 0 mX2_become (fun _ M' => z_Bc M0 M' i j 21) 119 [(0, zr 6 i), (1, zr 6 j)] [] M := by
    intro M h
    refine z_go_run KX2_become [(133, [0, 1])] 20 ?_
    exact ⟨⟨by decide, by decide, by decide, by decide, by decide⟩, f14 (z_bc M 13 i j 4) (z_Bc_step hij (by decide) rfl h)⟩
  have f12 : ∀ M, z_Bc M0 M i j 12 → z_Run X 0 mX2_become (fun _ M' => z_Bc M0 M' i j 21) 105 [(0, zr 6 i), (1, zr 6 j)] [] M := by
    intro M h
    refine z_go_run KX2_become [(119, [0, 1])] 20 ?_
    exact ⟨⟨by decide, by decide, by decide, by decide, by decide⟩, f13 (z_bc M 12 i j 4) (z_Bc_step hij (by decide) rfl h)⟩
  have f11 : ∀ M, z_Bc M0 M i j 11 → z_Run X 0 mX2_become (fun _ M' => z_Bc M0 M' i j 21) 91 [(0, zr 6 i), (1, zr 6 j)] [] M := by
    intro M h
    refine z_go_run KX2_become [(105, [0, 1])] 20 ?_
    exact ⟨⟨by decide, by decide, by decide, by decide, by decide⟩, f12 (z_bc M 11 i j 4) (z_Bc_step hij (by decide) rfl h)⟩
  have f10 : ∀ M, z_Bc M0 M i j 10 → z_Run X 0 mX2_become (fun _ M' => z_Bc M0 M' i j 21) 77 [(0, zr 6 i), (1, zr 6 j)] [] M := by
    intro M h
    refine z_go_run KX2_become [(91, [0, 1])] 20 ?_
    exact ⟨⟨by decide, by decide, by decide, by decide, by decide⟩, f11 (z_bc M 10 i j 4) (z_Bc_step hij (by decide) rfl h)⟩
  have f9 : ∀ M, z_Bc M0 M i j 9 → z_Run X 0 mX2_become (fun _ M' => z_Bc M0 M' i j 21) 62 [(0, zr 6 i), (1, zr 6 j)] [] M := by
    intro M h
    refine z_go_run KX2_become [(77, [0, 1])] 20 ?_
    exact ⟨⟨by decide, by decide, by decide, by decide, by decide⟩, f10 (z_bc M 9 i j 12) (z_Bc_step hij (by decide) rfl h)⟩
  have f8 : ∀ M, z_Bc M0 M i j 8 → z_Run X 0 mX2_become (fun _ M' => z_Bc M0 M' i j 21) 47 [(0, zr 6 i), (1, zr 6 j)] [] M := by
    intro M h
    refine z_go_run KX2_become [(62, [0, 1])] 20 ?_
    exact ⟨⟨by decide, by decide, by decide, by decide, by decide⟩, f9 (z_bc M 8 i j 12) (z_Bc_step hij (by decide) rfl h)⟩
  have f7 : ∀ M, z_Bc M0 M i j 7 → z_Run X 0 mX2_become (fun _ M' => z_Bc M0 M' i j 21) 32 [(0, zr 6 i), (1, zr 6 j)] [] M := by
    intro M h
    refine z_go_run KX2_become [(47, [0, 1])] 20 ?_
    exact ⟨⟨by decide, by decide, by decide, by decide, by decide⟩, f8 (z_bc M 7 i j 12) (z_Bc_step hij (by decide) rfl h)⟩
  refine z_mg KX2_become [(32, [0, 1])] 40 (by decide +kernel) rfl ?_
  refine ⟨hb, ?_⟩
  refine f7 (z_b1 (z_b1 (z_b1 (z_b1 M0 6 i j 0) 6 i j 1) 6 i j 5) 6 i j 14) ?_
  refine ⟨rfl, fun a b hab => ?_, fun a h1 h2 => absurd h1 (by omega), ?_, ?_, ?_, ?_⟩
  · funext x
    rw [z_b1_o (by omega), z_b1_o (by omega), z_b1_o (by omega), z_b1_o (by omega)]
  · rw [z_b1_o (by omega), z_b1_o (by omega), z_b1_o (by omega), z_b1_a]
  · rw [z_b1_o (by omega), z_b1_o (by omega), z_b1_a, z_b1_o (by omega)]
  · rw [z_b1_o (by omega), z_b1_a, z_b1_o (by omega), z_b1_o (by omega)]
  · rw [z_b1_a, z_b1_o (by omega), z_b1_o (by omega), z_b1_o (by omega)]
/-- results i have come to be as results j, the first w rows -/
def z_Br (M0 M : z_M) (i j w : Nat) : Prop := M.2 = M0.2 ∧ (∀ a b, ¬ ((b = i ∧ (a = 21 ∨ a = 24)) ∨ (a = 23 ∧ 7 * i ≤ b ∧ b < 7 * i + 7)) → M.1 a b = M0.1 a b) ∧ (∀ v, v < w → ∀ x, x < 48 → M.1 23 (v + 7 * i) x = M0.1 23 (v + 7 * j) x) ∧ (∀ x, x < 4 → M.1 24 i x = M0.1 24 j x) ∧ M.1 21 i 2 = M0.1 21 j 2 ∧ M.1 21 i 3 = M0.1 21 j 3
theorem lX6_become {X : z_Cx} (M0 : z_M) (i j : Nat) (hij : ¬ j = i) : ∀ (u w : Nat) (M : z_M), w + u = 7 → z_Br M0 M i j w → z_Run X 0 mX6_become (fun _ M' => z_Br M0 M' i j 7) 32 [(0, zr 21 i), (1, zr 21 j), (2, zi (nI w))] [] M := by
  intro u
  induction u with
  | zero =>
    intro w M hw h
    have e : w = 7 := by omega
    subst e
    refine z_go_run KX6_become [(32, [0, 1, 2])] 40 ?_
    refine ⟨fun h2 => ?_, fun h2 => ?_⟩
    · exact h
    · exact absurd (by decide) h2
  | succ u ih =>
    intro w M hw h
    have ew : (nI w).toNatClampNeg = w := nI_clamp (by omega)
    obtain ⟨h1, h2, h3, h4, h5, h6⟩ := h
    refine z_go_run KX6_become [(32, [0, 1, 2])] 40 ?_
    refine ⟨fun g => ?_, fun g => ?_⟩
    · exact absurd g (nI_nlt (a := 6) (b := w) (by omega) (by omega))
    · refine ⟨vp_in_nI (by omega) (by omega), vp_in_nI (by omega) (by omega), ⟨by decide, by decide, by decide, by decide, by decide⟩, ?_⟩
      show z_Run X 0 _ _ 32 [(0, zr 21 i), (1, zr 21 j), (2, zi (nI w + 1))] [] (z_sr M 23 ((nI w).toNatClampNeg + 7 * i) (va_cpy (M.1 23 ((nI w).toNatClampNeg + 7 * j)) (M.1 23 ((nI w).toNatClampNeg + 7 * i)) 0 0 48))
      rw [ew, nI_1]
      refine ih (w + 1) _ (by omega) ⟨h1, fun a b hab => ?_, fun v hv x hx => ?_, fun x hx => ?_, h5, h6⟩
      · rw [← h2 a b hab]
        funext x
        rw [z_gr, if_neg (by omega)]
      · rw [z_gr]
        by_cases e : v = w
        · subst e
          rw [if_pos ⟨rfl, rfl⟩]
          unfold va_cpy
          rw [if_pos (by omega), h2 23 (v + 7 * j) (by omega), show 0 + (x - 0) = x by omega]
        · rw [if_neg (by omega)]
          exact h3 v (by omega) x hx
      · rw [z_gr, if_neg (by omega)]
        exact h4 x hx
theorem hX6_become {X : z_Cx} (M0 : z_M) (i j : Nat) (hij : ¬ j = i) (hb : M0.1 21 j 3 = 0 ∨ M0.1 21 j 3 = 1) : z_Con X 0 mX6_become [zr 21 i, zr 21 j] M0 (fun _ M' => z_Br M0 M' i j 7) := by
  refine z_mg KX6_become [(32, [0, 1, 2])] 40 (by decide +kernel) rfl ?_
  refine ⟨hb, ⟨by decide, by decide, by decide, by decide, by decide⟩, ?_⟩
  refine lX6_become M0 i j hij 7 0 (z_sr (z_b1 (z_b1 M0 21 i j 3) 21 i j 2) 24 i (va_cpy (M0.1 24 j) (M0.1 24 i) 0 0 4)) rfl ⟨rfl, fun a b hab => ?_, fun v hv => absurd hv (Nat.not_lt_zero v), fun x hx => ?_, ?_, ?_⟩
  · funext x
    rw [z_gr, if_neg (by omega), z_b1_o (by omega), z_b1_o (by omega)]
  · rw [z_gr, if_pos ⟨rfl, rfl⟩]
    unfold va_cpy
    rw [if_pos (by omega), show 0 + (x - 0) = x by omega]
  · rw [z_gr, if_neg (by omega), z_b1_a, z_b1_o (by omega)]
  · rw [z_gr, if_neg (by omega), z_b1_o (by omega), z_b1_a]
