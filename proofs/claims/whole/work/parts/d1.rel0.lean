/-! ===== the relation at the start ===== -/
theorem z_Rel0 : z_Rel z_M0 := by
  refine ⟨0, 0, 0, 0, [], ⟨?_, rfl, ⟨rfl, rfl, rfl, rfl⟩, fun k _ => rfl, Or.inl rfl, ⟨Nat.zero_le _, rfl, fun j hj => absurd hj (Nat.not_lt_zero j)⟩, fun j hj => ?_⟩, ?_, ⟨Nat.zero_le _, rfl, fun x hx => absurd hx (Nat.not_lt_zero x)⟩, ⟨⟨Nat.zero_le _, Nat.zero_le _, Nat.zero_le _, rfl, rfl, rfl, fun h => h, fun h => h⟩, fun m hm => absurd hm (Nat.not_lt_zero m), fun m hm => absurd hm (Nat.not_lt_zero m), fun m hm => absurd hm (Nat.not_lt_zero m), fun m hm => absurd hm (Nat.not_lt_zero m)⟩, ⟨rfl, Or.inl rfl, fun h => absurd rfl h⟩, ⟨Nat.zero_le _, rfl, fun x hx => absurd hx (Nat.not_lt_zero x)⟩, fun k hk => rfl, rfl, rfl, rfl, fun j hj => ⟨?_, fun h => ?_⟩⟩
  · intro s hs
    exact ⟨by show (-1 : Int32) ≤ -1; decide, by show (-1 : Int32) ≤ 2; decide, by show (0 : Int32) ≤ 0; decide, by show (0 : Int32) ≤ 40; decide⟩
  · have h : j = 0 ∨ j = 1 := by omega
    rcases h with rfl | rfl
    · exact ⟨Or.inl rfl, Or.inl rfl⟩
    · exact ⟨Or.inl rfl, Or.inl rfl⟩
  · intro s hs
    exact ⟨rfl, fun h => absurd rfl h, fun j hj => rfl⟩
  · have h : j = 0 ∨ j = 1 := by omega
    rcases h with rfl | rfl <;> rfl
  · exact absurd rfl h
