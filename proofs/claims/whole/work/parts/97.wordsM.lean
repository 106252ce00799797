/-! ===== the model's words mile and runner ===== -/
theorem hX10_isMileWord {X : z_Cx} {M0 M : z_M} {B : Nat → Int32} {len : Nat} {fl : Int32} {s : z_Ps} {N : Nat → Int32} (h : z_Pm M0 B len fl M s.tk N) : z_Con X 2 mX10_isMileWord [zr 46 0] M (fun v M' => M' = M ∧ v = pu_b2 (s.is B 0)) := by
  refine z_mg KX10_isMileWord [] 30 (by decide +kernel) rfl ?_
  refine m_word h 0 (by decide) (by decide) ?_
  refine ⟨?_, rfl, rfl⟩
  cases s.is B 0
  · exact Or.inl rfl
  · exact Or.inr rfl
theorem hX10_isRunnerWord {X : z_Cx} {M0 M : z_M} {B : Nat → Int32} {len : Nat} {fl : Int32} {s : z_Ps} {N : Nat → Int32} (h : z_Pm M0 B len fl M s.tk N) : z_Con X 2 mX10_isRunnerWord [zr 46 0] M (fun v M' => M' = M ∧ v = pu_b2 (s.is B 1)) := by
  refine z_mg KX10_isRunnerWord [] 30 (by decide +kernel) rfl ?_
  refine m_word h 1 (by decide) (by decide) ?_
  refine ⟨?_, rfl, rfl⟩
  cases s.is B 1
  · exact Or.inl rfl
  · exact Or.inr rfl
