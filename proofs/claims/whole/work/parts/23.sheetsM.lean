/-! ===== the model's sheets ===== -/
theorem hX10_in {X : z_Cx} (M : z_M) (v a b : Int64) : z_Con X 0 mX10_in [zl v, zl a, zl b] M (fun r M' => M' = M ∧ r = if a ≤ v ∧ v ≤ b then 1 else 0) := by
  refine z_mg KX10_in [] 30 (by decide +kernel) rfl ?_
  repeat' (first | refine ⟨fun _ => ?_, fun _ => ?_⟩ | fail)
  all_goals first | exact ⟨Or.inl rfl, rfl, by unfold lg_cmp at *; grind⟩ | exact ⟨Or.inr rfl, rfl, by unfold lg_cmp at *; grind⟩
theorem z_l64 {v a : Int32} {b : Int64} (h : b = a.toInt64) : (b ≤ v.toInt64 ↔ a ≤ v) ∧ (v.toInt64 ≤ b ↔ v ≤ a) := by
  subst h
  rw [Int64.le_iff_toInt_le, Int64.le_iff_toInt_le, Int32.le_iff_toInt_le, Int32.le_iff_toInt_le, Int32.toInt_toInt64, Int32.toInt_toInt64]
  exact ⟨Iff.rfl, Iff.rfl⟩
theorem hX10_inI {X : z_Cx} (M : z_M) (v a' b' : Int32) {a b : Int64} (ha : a = a'.toInt64) (hb : b = b'.toInt64) : z_Con X 0 mX10_in [zl v.toInt64, zl a, zl b] M (fun r M' => M' = M ∧ r = if a' ≤ v ∧ v ≤ b' then 1 else 0) := by
  have h := hX10_in (X := X) M v.toInt64 a b
  simp only [(z_l64 (v := v) ha).1, (z_l64 (v := v) hb).2] at h
  exact h
theorem hX10_isSheet {X : z_Cx} (M : z_M) (s : Int32) : z_Con X 1 mX10_isSheet [zi s] M (fun r M' => M' = M ∧ r = if 0 ≤ s ∧ s ≤ 7 then 1 else 0) := by
  refine z_mg KX10_isSheet [] 30 (by decide +kernel) rfl ?_
  refine z_uR (hX10_inI M s 0 7 (by decide) (by decide)) (by decide) ?_
  exact ⟨by grind, rfl, rfl⟩
theorem hX10_found {X : z_Cx} (M : z_M) (f : Int32) : z_Con X 0 mX10_found [zr 46 0, zi f] M (fun r M' => r = -1000010 - f ∧ M' = z_s M 46 0 7 f) := by
  refine z_mg KX10_found [] 30 (by decide +kernel) rfl ?_
  exact ⟨rfl, rfl⟩
theorem hX10_through {X : z_Cx} (M : z_M) (f : Int32) : z_Con X 0 mX10_through [zr 46 0, zi f] M (fun r M' => r = f ∧ M' = z_s M 46 0 7 0) := by
  refine z_mg KX10_through [] 30 (by decide +kernel) rfl ?_
  exact ⟨rfl, rfl⟩
