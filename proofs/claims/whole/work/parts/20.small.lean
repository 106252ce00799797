/-! ===== small methods of the class ===== -/
theorem vin_iff {x : Int32} {n : Nat} : vp_in x n ↔ 0 ≤ x.toInt ∧ x.toInt < n := by
  unfold vp_in
  rw [Int32.lt_iff_toInt_lt]
  show ¬ (x.toInt < 0 ∨ n ≤ x.toInt.toNat) ↔ _
  omega
theorem vin {x : Int32} {n : Nat} (h0 : 0 ≤ x.toInt) (h1 : x.toInt < n) : vp_in x n := vin_iff.mpr ⟨h0, h1⟩
theorem vin_le {x c : Int32} {n : Nat} (h0 : 0 ≤ x) (h1 : x ≤ c) (hc : c.toInt < n) : vp_in x n := vin (Int32.le_iff_toInt_le.mp h0) (Int.lt_of_le_of_lt (Int32.le_iff_toInt_le.mp h1) hc)
theorem z_gs {M : z_M} {k i j k' i' j' : Nat} {v : Int32} : (z_s M k i j v).1 k' i' j' = if k' = k ∧ i' = i ∧ j' = j then v else M.1 k' i' j' := rfl
theorem z_gr {M : z_M} {k i k' i' j' : Nat} {f : Nat → Int32} : (z_sr M k i f).1 k' i' j' = if k' = k ∧ i' = i then f j' else M.1 k' i' j' := rfl
theorem hX9_within {X : z_Cx} (v lo hi : Int32) (M : z_M) : z_Con X 0 mX9_within [zi v, zi lo, zi hi] M (fun r M' => M' = M ∧ r = if lo ≤ v ∧ v ≤ hi then 1 else 0) := by
  refine z_mg KX9_within [] 20 (by decide +kernel) rfl ?_
  repeat' (first | refine ⟨fun _ => ?_, fun _ => ?_⟩ | fail)
  all_goals first | exact ⟨Or.inl rfl, rfl, by grind⟩ | exact ⟨Or.inr rfl, rfl, by grind⟩
theorem hX9_isPace {X : z_Cx} (v : Int32) (M : z_M) : z_Con X 1 mX9_isPace [zi v] M (fun r M' => M' = M ∧ r = if 10 ≤ v ∧ v ≤ 40 then 1 else 0) := by
  refine z_mg KX9_isPace [] 20 (by decide +kernel) rfl ?_
  refine z_use (hX9_within v 10 40 M) (by decide) ?_
  rintro r _ ⟨rfl, rfl⟩
  exact ⟨by grind, rfl, rfl⟩
theorem hX9_asPace {X : z_Cx} (v : Int32) (M : z_M) : z_Con X 0 mX9_asPace [zi v] M (fun r M' => M' = M ∧ r = if v < 10 then 10 else if 40 < v then 40 else v) := by
  refine z_mg KX9_asPace [] 20 (by decide +kernel) rfl ?_
  exact ⟨rfl, by grind⟩
theorem hX9_secondsBy {X : z_Cx} (v : Int32) (M : z_M) : z_Con X 0 mX9_secondsBy [zi v] M (fun r M' => M' = M ∧ r = 12000 / (if v < 10 then 10 else v)) := by
  refine z_mg KX9_secondsBy [] 20 (by decide +kernel) rfl ?_
  exact ⟨by grind, rfl, by grind⟩
theorem hX9_changeBy {X : z_Cx} (need line fill : Int32) (M : z_M) : z_Con X 0 mX9_changeBy [zi need, zi line, zi fill] M (fun r M' => M' = M ∧ r = if 0 < need - line then -(need - line) * (need - line) else if -(need - line) < fill then -(need - line) else fill) := by
  refine z_mg KX9_changeBy [] 30 (by decide +kernel) rfl ?_
  repeat' (first | refine ⟨fun _ => ?_, fun _ => ?_⟩ | fail)
  all_goals exact ⟨rfl, by grind⟩
theorem hX7_isMissing {X : z_Cx} (i : Nat) (M : z_M) : z_Con X 0 mX7_isMissing [zr 2 i] M (fun r M' => M' = M ∧ r = if M.1 2 i 1 = -1 then 1 else 0) := by
  refine z_mg KX7_isMissing [] 20 (by decide +kernel) rfl ?_
  repeat' (first | refine ⟨fun _ => ?_, fun _ => ?_⟩ | fail)
  all_goals first | exact ⟨Or.inl rfl, rfl, by grind⟩ | exact ⟨Or.inr rfl, rfl, by grind⟩
theorem hX7_reaches {X : z_Cx} (i : Nat) (M : z_M) (a n : Int32) : z_Con X 0 mX7_reaches [zr 2 i, zi a, zi n] M (fun r M' => M' = M ∧ r = if 0 ≤ a ∧ 0 ≤ n ∧ a ≤ M.1 2 i 2 - n then 1 else 0) := by
  refine z_mg KX7_reaches [] 20 (by decide +kernel) rfl ?_
  repeat' (first | refine ⟨fun _ => ?_, fun _ => ?_⟩ | fail)
  all_goals first | exact ⟨Or.inl rfl, rfl, by grind⟩ | exact ⟨Or.inr rfl, rfl, by grind⟩
theorem hX7_end {X : z_Cx} (i : Nat) (M : z_M) : z_Con X 0 mX7_end [zr 2 i] M (fun _ M' => M' = z_s (z_s M 2 i 1 (-1)) 2 i 2 0) := by
  refine z_mg KX7_end [] 20 (by decide +kernel) rfl ?_
  exact rfl
theorem hX7_at {X : z_Cx} (i : Nat) (M : z_M) (a : Int32) : z_Con X 1 mX7_at [zr 2 i, zi a] M (fun r M' => M' = M ∧ r = if 0 ≤ a ∧ a ≤ 39 then M.1 3 i a.toNatClampNeg else 0) := by
  refine z_mg KX7_at [] 30 (by decide +kernel) rfl ?_
  refine z_use (hX9_within a 0 39 M) (by decide) ?_
  rintro r _ ⟨rfl, rfl⟩
  refine ⟨fun h => ?_, fun h => ?_⟩
  · exact ⟨rfl, by grind⟩
  · refine ⟨?_, rfl, by grind⟩
    exact vin_le (c := 39) (by grind) (by grind) (by decide)
theorem hX7_put {X : z_Cx} (i : Nat) (M : z_M) (a v : Int32) : z_Con X 1 mX7_put [zr 2 i, zi a, zi v] M (fun r M' => r = (if M.1 2 i 1 = 0 then v.toInt8.toInt32 else if M.1 2 i 1 = 1 then v.toInt16.toInt32 else v) ∧ M' = if 0 ≤ a ∧ a ≤ 39 then z_s M 3 i a.toNatClampNeg (if M.1 2 i 1 = 0 then v.toInt8.toInt32 else if M.1 2 i 1 = 1 then v.toInt16.toInt32 else v) else M) := by
  refine z_mg KX7_put [] 40 (by decide +kernel) rfl ?_
  refine ⟨fun h => ?_, fun h => ?_⟩
  · refine ⟨fun h1 => ?_, fun h1 => ?_⟩
    · refine z_use (hX9_within a 0 39 M) (by decide) ?_
      rintro r _ ⟨rfl, rfl⟩
      refine ⟨fun h2 => ?_, fun h2 => ?_⟩
      · exact ⟨by grind, by grind⟩
      · exact ⟨vin_le (c := 39) (by grind) (by grind) (by decide), by grind, by grind⟩
    · refine z_use (hX9_within a 0 39 M) (by decide) ?_
      rintro r _ ⟨rfl, rfl⟩
      refine ⟨fun h2 => ?_, fun h2 => ?_⟩
      · exact ⟨by grind, by grind⟩
      · exact ⟨vin_le (c := 39) (by grind) (by grind) (by decide), by grind, by grind⟩
  · refine z_use (hX9_within a 0 39 M) (by decide) ?_
    rintro r _ ⟨rfl, rfl⟩
    refine ⟨fun h2 => ?_, fun h2 => ?_⟩
    · exact ⟨by grind, by grind⟩
    · exact ⟨vin_le (c := 39) (by grind) (by grind) (by decide), by grind, by grind⟩
