theorem hX7_isMissing {X : z_Cx} (i : Nat) (M : z_M) : z_Con X 0 mX7_isMissing [zr 2 i] M (fun r M' => M' = M ∧ r = if M.1 2 i 1 = -1 then 1 else 0) := by
  refine z_mg KX7_isMissing [] 20 (by decide +kernel) rfl ?_
  refine ⟨fun h => ?_, fun h => ?_⟩
  · trace_state
    exact ⟨Or.inl rfl, rfl, (if_neg h).symm⟩
  · exact ⟨Or.inr rfl, rfl, (if_pos h).symm⟩
theorem hX7_reaches {X : z_Cx} (i : Nat) (M : z_M) (a n : Int32) : z_Con X 0 mX7_reaches [zr 2 i, zi a, zi n] M (fun r M' => M' = M ∧ r = if 0 ≤ a ∧ 0 ≤ n ∧ a ≤ M.1 2 i 2 - n then 1 else 0) := by
  refine z_mg KX7_reaches [] 20 (by decide +kernel) rfl ?_
  refine ⟨fun h => ?_, fun h => ?_⟩
  · trace_state
    exact ⟨Or.inl rfl, rfl, (if_neg (by grind)).symm⟩
  · refine ⟨fun h2 => ?_, fun h2 => ?_⟩
    · exact ⟨Or.inl rfl, rfl, (if_neg (by grind)).symm⟩
    · refine ⟨fun h3 => ?_, fun h3 => ?_⟩
      · exact ⟨Or.inl rfl, rfl, (if_neg (by grind)).symm⟩
      · exact ⟨Or.inr rfl, rfl, (if_pos (by grind)).symm⟩
