/-! ===== the class's sheets ===== -/
/-- a callee that reads; that answers and writes; that writes -/
theorem z_uR {X : z_Cx} {D d : Nat} {q : z_MI} {as : List z_V} {M : z_M} {f : Int32} {S' : Int32 → z_M → Prop} (h : z_Con X d q as M (fun r M' => M' = M ∧ r = f)) (hd : d < D) (hS : S' f M) : z_Ca X D q as M S' := z_use h hd (fun _ _ e => by rw [e.1, e.2]; exact hS)
theorem z_uW {X : z_Cx} {D d : Nat} {q : z_MI} {as : List z_V} {M g : z_M} {f : Int32} {S' : Int32 → z_M → Prop} (h : z_Con X d q as M (fun r M' => r = f ∧ M' = g)) (hd : d < D) (hS : S' f g) : z_Ca X D q as M S' := z_use h hd (fun _ _ e => by rw [e.1, e.2]; exact hS)
theorem z_uV {X : z_Cx} {D d : Nat} {q : z_MI} {as : List z_V} {M g : z_M} {S' : Int32 → z_M → Prop} (h : z_Con X d q as M (fun _ M' => M' = g)) (hd : d < D) (hS : ∀ r, S' r g) : z_Ca X D q as M S' := z_use h hd (fun r _ e => by rw [e]; exact hS r)
theorem hX7_begin {X : z_Cx} (i : Nat) (M : z_M) (l n : Int32) : z_Con X 1 mX7_begin [zr 2 i, zi l, zi n] M (fun _ M' => M' = z_s (z_s (z_sr M 3 i (fun j => if j < 40 then 0 else M.1 3 i j)) 2 i 1 l) 2 i 2 n) := by
  refine z_mg KX7_begin [] 30 (by decide +kernel) rfl ?_
  refine z_uV (hJ7_fill_3 i 0 M) (by decide) (fun _ => ?_)
  exact rfl
theorem hX9_found {X : z_Cx} (M : z_M) (f : Int32) : z_Con X 0 mX9_found [zr 0 0, zi f] M (fun r M' => r = -1000010 - f ∧ M' = z_s M 0 0 10 f) := by
  refine z_mg KX9_found [] 30 (by decide +kernel) rfl ?_
  exact ⟨rfl, rfl⟩
theorem hX9_foundNothing {X : z_Cx} (M : z_M) (f : Int32) : z_Con X 0 mX9_foundNothing [zr 0 0, zi f] M (fun r M' => r = f ∧ M' = z_s M 0 0 10 0) := by
  refine z_mg KX9_foundNothing [] 30 (by decide +kernel) rfl ?_
  exact ⟨rfl, rfl⟩
/-- sheets are as they must be -/
def z_WS (M : z_M) : Prop := ∀ s, s < 8 → -1 ≤ M.1 2 s 1 ∧ M.1 2 s 1 ≤ 2 ∧ 0 ≤ M.1 2 s 2 ∧ M.1 2 s 2 ≤ 40
/-- n rows from i on of sheet s: 0 all is well, 1 missing, 2 no such place -/
def z_fd (M : z_M) (s i n : Int32) : Int32 := if M.1 2 s.toNatClampNeg 1 = -1 then 1 else if 0 ≤ i ∧ 0 ≤ n ∧ i ≤ M.1 2 s.toNatClampNeg 2 - n then 0 else 2
theorem hX9_findingAt {X : z_Cx} (M : z_M) (s i n : Int32) (h0 : 0 ≤ s) (h1 : s ≤ 7) : z_Con X 1 mX9_findingAt [zr 0 0, zi s, zi i, zi n] M (fun r M' => M' = M ∧ r = z_fd M s i n) := by
  refine z_mg KX9_findingAt [] 40 (by decide +kernel) rfl ?_
  refine ⟨vin_le h0 h1 (by decide), ?_⟩
  refine z_uR (hX7_isMissing s.toNatClampNeg M) (by decide) ?_
  refine ⟨fun h => ?_, fun h => ?_⟩
  · refine ⟨vin_le h0 h1 (by decide), ?_⟩
    refine z_uR (hX7_reaches s.toNatClampNeg M i n) (by decide) ?_
    refine ⟨fun h2 => ?_, fun h2 => ?_⟩
    · exact ⟨rfl, by unfold z_fd; grind⟩
    · exact ⟨rfl, by unfold z_fd; grind⟩
  · exact ⟨rfl, by unfold z_fd; grind⟩
theorem hX9_sheet {X : z_Cx} (M : z_M) (s l n : Int32) : z_Con X 2 mX9_sheet [zr 0 0, zi s, zi l, zi n] M (fun r M' =>
    if 0 ≤ s ∧ s ≤ 7 ∧ 0 ≤ l ∧ l ≤ 2 ∧ n ≤ 40 then (if n < 0 then r = -1000014 ∧ M' = z_s M 0 0 10 4 else r = n ∧ M' = z_s (z_s (z_s (z_sr M 3 s.toNatClampNeg (fun j => if j < 40 then 0 else M.1 3 s.toNatClampNeg j)) 2 s.toNatClampNeg 1 l) 2 s.toNatClampNeg 2 n) 0 0 10 0) else r = -1000001 ∧ M' = M) := by
  refine z_mg KX9_sheet [] 60 (by decide +kernel) rfl ?_
  refine z_uR (hX9_within s 0 7 M) (by decide) ?_
  refine ⟨fun h => ?_, fun h => ?_⟩
  · refine (if_neg (by grind)).mpr ⟨rfl, rfl⟩
  · refine z_uR (hX9_within l 0 2 _) (by decide) ?_
    refine ⟨fun h2 => ?_, fun h2 => ?_⟩
    · exact (if_neg (by grind)).mpr ⟨rfl, rfl⟩
    · refine ⟨fun h3 => ?_, fun h3 => ?_⟩
      · refine ⟨fun h4 => ?_, fun h4 => ?_⟩
        · refine ⟨vin_le (c := 7) (by grind) (by grind) (by decide), ?_⟩
          refine z_uV (hX7_begin s.toNatClampNeg _ l n) (by decide) (fun _ => ?_)
          refine z_uW (hX9_foundNothing _ n) (by decide) ?_
          exact (if_pos (by grind)).mpr ((if_neg (by grind)).mpr ⟨rfl, rfl⟩)
        · refine z_uW (hX9_found _ 4) (by decide) ?_
          exact (if_pos (by grind)).mpr ((if_pos (by grind)).mpr ⟨rfl, rfl⟩)
      · exact (if_neg (by grind)).mpr ⟨rfl, rfl⟩
