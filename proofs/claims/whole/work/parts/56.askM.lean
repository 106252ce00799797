/-! ===== the model: what is asked of steps (by program: wip/whole/gen_askM.py) ===== -/
/-- the model's trace is this list -/
def z_Tx (l : List Int32) (M : z_M) : Prop := l.length ≤ 16 ∧ M.1 46 0 29 = nI l.length ∧ ∀ j, j < l.length → M.1 63 0 j = l.getD j 0
theorem hX10_leave0 {X : z_Cx} (M : z_M) (b : Int32) : z_Con X 0 mX10_leave [zr 46 0, zi b, zi 0] M (fun _ M' => M' = M) := by
  refine z_mg KX10_leave [] 40 (by decide +kernel) rfl ?_
  refine ⟨fun g => rfl, fun g => ?_⟩
  exact ⟨fun _ => rfl, fun w => absurd rfl w⟩
theorem hX10_leave1 {X : z_Cx} (M : z_M) (l : List Int32) (b : Int32) (hl : l.length < 16) (h : z_Tx l M) : z_Con X 0 mX10_leave [zr 46 0, zi b, zi 1] M (fun _ M' => z_Tx (l ++ [b]) M' ∧ z_Fm [29] [63] M M') := by
  obtain ⟨h1, h2, h3⟩ := h
  have el : (nI l.length).toNatClampNeg = l.length := nI_clamp (by omega)
  refine z_mg KX10_leave [] 40 (by decide +kernel) rfl ?_
  refine ⟨fun g => ?_, fun g => ?_⟩ <;> rw [h2] at g
  · exact absurd g (nI_ge (b := 16) hl (by omega))
  · refine ⟨fun w => absurd w (by decide), fun _ => ?_⟩
    refine ⟨by rw [h2]; exact vp_in_nI hl (by omega), ?_⟩
    show z_Tx (l ++ [b]) (z_s (z_s M 63 0 (M.1 46 0 29).toNatClampNeg b) 46 0 29 (M.1 46 0 29 + 1)) ∧ z_Fm [29] [63] M (z_s (z_s M 63 0 (M.1 46 0 29).toNatClampNeg b) 46 0 29 (M.1 46 0 29 + 1))
    rw [h2, el, nI_1]
    refine ⟨⟨by rw [List.length_append, List.length_singleton]; omega, ?_, fun j hj => ?_⟩, ((z_Fm.refl).s (by decide) (by decide)).s46 (by decide)⟩
    · rw [z_gs, if_pos ⟨rfl, rfl, rfl⟩, List.length_append, List.length_singleton]
    · rw [List.length_append, List.length_singleton] at hj
      rw [z_gs, if_neg (by omega), z_gs]
      by_cases e : j = l.length
      · rw [if_pos ⟨rfl, rfl, e⟩, e]
        simp
      · rw [if_neg (fun w => e w.2.2), h3 j (by omega)]
        simp [List.getD_eq_getElem?_getD, List.getElem?_append_left (show j < l.length by omega)]
/-- where the rows of a race are read -/
def z_Rd (M : z_M) (rows : Nat → Nat → Int32) (r m : Nat) : Prop := r < 4 ∧ m < 12 ∧ ∀ w, w < 6 → z_nw M (191 + 72 * r + 6 * m + w) = rows w (12 * r + m)
theorem z_Rd.fm {J K : List Nat} {M M' : z_M} {rows : Nat → Nat → Int32} {r m : Nat} (h : z_Rd M rows r m) (hF : z_Fm J K M M') (h47 : 47 ∉ K) : z_Rd M' rows r m := ⟨h.1, h.2.1, fun w hw => by rw [nw_fm hF h47]; exact h.2.2 w hw⟩
theorem hX10_ranD {X : z_Cx} (M : z_M) {rows : Nat → Nat → Int32} {r m : Nat} (h : z_Rd M rows r m) (w : Nat) (hw : w < 6) : z_Con X 0 mX10_ranOf [zr 46 0, zi (nI r), zi (nI m), zi (nI w)] M (fun v M' => M' = M ∧ v = rows w (12 * r + m)) := (hX10_ranOf M r m w h.1 h.2.1 hw).to (h.2.2 w hw)
theorem hm_2 {X : z_Cx} (M : z_M) {rows : Nat → Nat → Int32} {r m : Nat} (hR : z_Rd M rows r m) (l : List Int32) (hl : l.length ≤ 14) (hT : z_Tx l M) : z_Con X 1 mX10_hardMark [zr 46 0, zi (nI r), zi (nI m), zi 2] M (fun v M' => v = nI m + rows 1 (12 * r + m) ∧ z_Tx (l ++ [21, 20]) M' ∧ z_Fm [29] [63] M M') := by
  refine z_mg KX10_hardMark [] 60 (by decide +kernel) rfl ?_
  refine ⟨fun _ => ?_, fun w => absurd w (by decide)⟩
  refine z_uV (hX10_leave0 M 22) (by decide) (fun _ => ?_)
  refine z_use (hX10_leave1 M l 21 (by omega) hT) (by decide) (fun _ M1 g1 => ?_)
  have f1 : z_Fm [29] [63] M M1 := g1.2
  refine z_use (hX10_leave1 M1 (l ++ [21]) 20 (by simp only [List.length_append, List.length_singleton]; omega) g1.1) (by decide) (fun _ M2 g2 => ?_)
  have f2 : z_Fm [29] [63] M M2 := f1.trans g2.2
  refine z_uR (hX10_ranD M2 (hR.fm f2 (by decide)) 1 (by decide)) (by decide) ?_
  refine ⟨fun _ => ?_, fun w => absurd w (by decide)⟩
  refine ⟨Int32.add_zero _, ?_, f2⟩
  have ht := g2.1
  simp only [List.append_assoc] at ht
  exact ht
theorem hm_4 {X : z_Cx} (M : z_M) {rows : Nat → Nat → Int32} {r m : Nat} (hR : z_Rd M rows r m) (l : List Int32) (hl : l.length ≤ 14) (hT : z_Tx l M) : z_Con X 1 mX10_hardMark [zr 46 0, zi (nI r), zi (nI m), zi 4] M (fun v M' => v = nI m + rows 1 (12 * r + m) ∧ z_Tx (l ++ [21, 20]) M' ∧ z_Fm [29] [63] M M') := by
  refine z_mg KX10_hardMark [] 60 (by decide +kernel) rfl ?_
  refine ⟨fun _ => ?_, fun w => absurd w (by decide)⟩
  refine z_uV (hX10_leave0 M 22) (by decide) (fun _ => ?_)
  refine z_use (hX10_leave1 M l 21 (by omega) hT) (by decide) (fun _ M1 g1 => ?_)
  have f1 : z_Fm [29] [63] M M1 := g1.2
  refine z_use (hX10_leave1 M1 (l ++ [21]) 20 (by simp only [List.length_append, List.length_singleton]; omega) g1.1) (by decide) (fun _ M2 g2 => ?_)
  have f2 : z_Fm [29] [63] M M2 := f1.trans g2.2
  refine z_uR (hX10_ranD M2 (hR.fm f2 (by decide)) 1 (by decide)) (by decide) ?_
  refine ⟨fun _ => ?_, fun w => absurd w (by decide)⟩
  refine ⟨Int32.add_zero _, ?_, f2⟩
  have ht := g2.1
  simp only [List.append_assoc] at ht
  exact ht
theorem hm_5 {X : z_Cx} (M : z_M) {rows : Nat → Nat → Int32} {r m : Nat} (hR : z_Rd M rows r m) (l : List Int32) (hl : l.length ≤ 13) (hT : z_Tx l M) : z_Con X 1 mX10_hardMark [zr 46 0, zi (nI r), zi (nI m), zi 5] M (fun v M' => v = nI m + rows 1 (12 * r + m) + 100 ∧ z_Tx (l ++ [22, 21, 20]) M' ∧ z_Fm [29] [63] M M') := by
  refine z_mg KX10_hardMark [] 60 (by decide +kernel) rfl ?_
  refine ⟨fun w => absurd rfl w, fun _ => ?_⟩
  refine z_use (hX10_leave1 M l 22 (by omega) hT) (by decide) (fun _ M1 g1 => ?_)
  have f1 : z_Fm [29] [63] M M1 := g1.2
  refine z_use (hX10_leave1 M1 (l ++ [22]) 21 (by simp only [List.length_append, List.length_singleton]; omega) g1.1) (by decide) (fun _ M2 g2 => ?_)
  have f2 : z_Fm [29] [63] M M2 := f1.trans g2.2
  refine z_use (hX10_leave1 M2 (l ++ [22] ++ [21]) 20 (by simp only [List.length_append, List.length_singleton]; omega) g2.1) (by decide) (fun _ M3 g3 => ?_)
  have f3 : z_Fm [29] [63] M M3 := f2.trans g3.2
  refine z_uR (hX10_ranD M3 (hR.fm f3 (by decide)) 1 (by decide)) (by decide) ?_
  refine ⟨fun w => absurd rfl w, fun _ => ?_⟩
  refine ⟨rfl, ?_, f3⟩
  have ht := g3.1
  simp only [List.append_assoc] at ht
  exact ht
theorem sz_1 {X : z_Cx} (M : z_M) {rows : Nat → Nat → Int32} {r m : Nat} (hR : z_Rd M rows r m) (l : List Int32) (hl : l.length ≤ 14) (hT : z_Tx l M) : z_Con X 2 mX10_sizeOf [zr 46 0, zi (nI r), zi (nI m), zi 1] M (fun v M' => v = rows 0 (12 * r + m) - rows 2 (12 * r + m) ∧ z_Tx (l ++ [13, 10]) M' ∧ z_Fm [29] [63] M M') := by
  refine z_mg KX10_sizeOf [] 80 (by decide +kernel) rfl ?_
  refine ⟨fun _ => ?_, fun w => absurd w (by decide)⟩
  refine z_uV (hX10_leave0 M 14) (by decide) (fun _ => ?_)
  refine z_uRe (g := 1) (hX10_isOf M 1 1) (by decide) (by decide) ?_
  refine z_use (hX10_leave1 M l 13 (by omega) hT) (by decide) (fun _ M1 g1 => ?_)
  have f1 : z_Fm [29] [63] M M1 := g1.2
  refine ⟨fun _ => ?_, fun w => absurd w (by decide)⟩
  refine z_uV (hX10_leave0 M1 12) (by decide) (fun _ => ?_)
  refine z_uRe (g := 0) (hX10_isOf M1 1 2) (by decide) (by decide) ?_
  refine z_uV (hX10_leave0 M1 11) (by decide) (fun _ => ?_)
  refine z_use (hX10_leave1 M1 (l ++ [13]) 10 (by simp only [List.length_append, List.length_singleton]; omega) g1.1) (by decide) (fun _ M2 g2 => ?_)
  have f2 : z_Fm [29] [63] M M2 := f1.trans g2.2
  refine z_uR (hX10_ranD M2 (hR.fm f2 (by decide)) 0 (by decide)) (by decide) ?_
  refine z_uRe (g := 1) (hX10_isOf M2 1 1) (by decide) (by decide) ?_
  refine ⟨fun w => absurd w (by decide), fun _ => ?_⟩
  refine z_uR (hX10_ranD M2 (hR.fm f2 (by decide)) 2 (by decide)) (by decide) ?_
  refine ⟨fun _ => ?_, fun w => absurd w (by decide)⟩
  refine ⟨by show _ - 0 = _; rw [Int32.sub_zero], ?_, f2⟩
  have ht := g2.1
  simp only [List.append_assoc] at ht
  exact ht
theorem sz_2 {X : z_Cx} (M : z_M) {rows : Nat → Nat → Int32} {r m : Nat} (hR : z_Rd M rows r m) (l : List Int32) (hl : l.length ≤ 12) (hT : z_Tx l M) : z_Con X 2 mX10_sizeOf [zr 46 0, zi (nI r), zi (nI m), zi 2] M (fun v M' => v = rows 0 (12 * r + m) + (nI m + rows 1 (12 * r + m)) ∧ z_Tx (l ++ [11, 10, 21, 20]) M' ∧ z_Fm [29] [63] M M') := by
  refine z_mg KX10_sizeOf [] 80 (by decide +kernel) rfl ?_
  refine ⟨fun _ => ?_, fun w => absurd w (by decide)⟩
  refine z_uV (hX10_leave0 M 14) (by decide) (fun _ => ?_)
  refine z_uRe (g := 0) (hX10_isOf M 2 1) (by decide) (by decide) ?_
  refine z_uV (hX10_leave0 M 13) (by decide) (fun _ => ?_)
  refine ⟨fun _ => ?_, fun w => absurd w (by decide)⟩
  refine z_uV (hX10_leave0 M 12) (by decide) (fun _ => ?_)
  refine z_uRe (g := 1) (hX10_isOf M 2 2) (by decide) (by decide) ?_
  refine z_use (hX10_leave1 M l 11 (by omega) hT) (by decide) (fun _ M1 g1 => ?_)
  have f1 : z_Fm [29] [63] M M1 := g1.2
  refine z_use (hX10_leave1 M1 (l ++ [11]) 10 (by simp only [List.length_append, List.length_singleton]; omega) g1.1) (by decide) (fun _ M2 g2 => ?_)
  have f2 : z_Fm [29] [63] M M2 := f1.trans g2.2
  refine z_uR (hX10_ranD M2 (hR.fm f2 (by decide)) 0 (by decide)) (by decide) ?_
  refine z_uRe (g := 0) (hX10_isOf M2 2 1) (by decide) (by decide) ?_
  refine ⟨fun _ => ?_, fun w => absurd rfl w⟩
  refine z_use (hm_2 (X := X) M2 (hR.fm f2 (by decide)) (l ++ [11] ++ [10]) (by simp only [List.length_append, List.length_singleton]; omega) g2.1) (by decide) (fun v3 M3 g3 => ?_)
  have f3 : z_Fm [29] [63] M M3 := f2.trans g3.2.2
  have t3 := g3.2.1
  refine ⟨fun _ => ?_, fun w => absurd w (by decide)⟩
  refine ⟨by rw [g3.1, Int32.mul_one], ?_, f3⟩
  simp only [List.append_assoc] at t3
  exact t3
theorem sz_3 {X : z_Cx} (M : z_M) {rows : Nat → Nat → Int32} {r m : Nat} (hR : z_Rd M rows r m) (l : List Int32) (hl : l.length ≤ 13) (hT : z_Tx l M) : z_Con X 2 mX10_sizeOf [zr 46 0, zi (nI r), zi (nI m), zi 3] M (fun v M' => v = rows 0 (12 * r + m) - rows 2 (12 * r + m) - 1 ∧ z_Tx (l ++ [14, 13, 10]) M' ∧ z_Fm [29] [63] M M') := by
  refine z_mg KX10_sizeOf [] 80 (by decide +kernel) rfl ?_
  refine ⟨fun w => absurd rfl w, fun _ => ?_⟩
  refine z_use (hX10_leave1 M l 14 (by omega) hT) (by decide) (fun _ M1 g1 => ?_)
  have f1 : z_Fm [29] [63] M M1 := g1.2
  refine z_uRe (g := 1) (hX10_isOf M1 3 1) (by decide) (by decide) ?_
  refine z_use (hX10_leave1 M1 (l ++ [14]) 13 (by simp only [List.length_append, List.length_singleton]; omega) g1.1) (by decide) (fun _ M2 g2 => ?_)
  have f2 : z_Fm [29] [63] M M2 := f1.trans g2.2
  refine ⟨fun _ => ?_, fun w => absurd w (by decide)⟩
  refine z_uV (hX10_leave0 M2 12) (by decide) (fun _ => ?_)
  refine z_uRe (g := 0) (hX10_isOf M2 3 2) (by decide) (by decide) ?_
  refine z_uV (hX10_leave0 M2 11) (by decide) (fun _ => ?_)
  refine z_use (hX10_leave1 M2 (l ++ [14] ++ [13]) 10 (by simp only [List.length_append, List.length_singleton]; omega) g2.1) (by decide) (fun _ M3 g3 => ?_)
  have f3 : z_Fm [29] [63] M M3 := f2.trans g3.2
  refine z_uR (hX10_ranD M3 (hR.fm f3 (by decide)) 0 (by decide)) (by decide) ?_
  refine z_uRe (g := 1) (hX10_isOf M3 3 1) (by decide) (by decide) ?_
  refine ⟨fun w => absurd w (by decide), fun _ => ?_⟩
  refine z_uR (hX10_ranD M3 (hR.fm f3 (by decide)) 2 (by decide)) (by decide) ?_
  refine ⟨fun w => absurd rfl w, fun _ => ?_⟩
  refine ⟨rfl, ?_, f3⟩
  have ht := g3.1
  simp only [List.append_assoc] at ht
  exact ht
theorem sz_4 {X : z_Cx} (M : z_M) {rows : Nat → Nat → Int32} {r m : Nat} (hR : z_Rd M rows r m) (l : List Int32) (hl : l.length ≤ 11) (hT : z_Tx l M) : z_Con X 2 mX10_sizeOf [zr 46 0, zi (nI r), zi (nI m), zi 4] M (fun v M' => v = 2 * (rows 0 (12 * r + m) + (nI m + rows 1 (12 * r + m))) ∧ z_Tx (l ++ [12, 11, 10, 21, 20]) M' ∧ z_Fm [29] [63] M M') := by
  refine z_mg KX10_sizeOf [] 80 (by decide +kernel) rfl ?_
  refine ⟨fun _ => ?_, fun w => absurd w (by decide)⟩
  refine z_uV (hX10_leave0 M 14) (by decide) (fun _ => ?_)
  refine z_uRe (g := 0) (hX10_isOf M 4 1) (by decide) (by decide) ?_
  refine z_uV (hX10_leave0 M 13) (by decide) (fun _ => ?_)
  refine ⟨fun w => absurd rfl w, fun _ => ?_⟩
  refine z_use (hX10_leave1 M l 12 (by omega) hT) (by decide) (fun _ M1 g1 => ?_)
  have f1 : z_Fm [29] [63] M M1 := g1.2
  refine z_uRe (g := 1) (hX10_isOf M1 4 2) (by decide) (by decide) ?_
  refine z_use (hX10_leave1 M1 (l ++ [12]) 11 (by simp only [List.length_append, List.length_singleton]; omega) g1.1) (by decide) (fun _ M2 g2 => ?_)
  have f2 : z_Fm [29] [63] M M2 := f1.trans g2.2
  refine z_use (hX10_leave1 M2 (l ++ [12] ++ [11]) 10 (by simp only [List.length_append, List.length_singleton]; omega) g2.1) (by decide) (fun _ M3 g3 => ?_)
  have f3 : z_Fm [29] [63] M M3 := f2.trans g3.2
  refine z_uR (hX10_ranD M3 (hR.fm f3 (by decide)) 0 (by decide)) (by decide) ?_
  refine z_uRe (g := 0) (hX10_isOf M3 4 1) (by decide) (by decide) ?_
  refine ⟨fun _ => ?_, fun w => absurd rfl w⟩
  refine z_use (hm_4 (X := X) M3 (hR.fm f3 (by decide)) (l ++ [12] ++ [11] ++ [10]) (by simp only [List.length_append, List.length_singleton]; omega) g3.1) (by decide) (fun v4 M4 g4 => ?_)
  have f4 : z_Fm [29] [63] M M4 := f3.trans g4.2.2
  have t4 := g4.2.1
  refine ⟨fun w => absurd rfl w, fun _ => ?_⟩
  refine ⟨by rw [g4.1, Int32.mul_comm], ?_, f4⟩
  simp only [List.append_assoc] at t4
  exact t4
theorem sz_5 {X : z_Cx} (M : z_M) {rows : Nat → Nat → Int32} {r m : Nat} (hR : z_Rd M rows r m) (l : List Int32) (hl : l.length ≤ 11) (hT : z_Tx l M) : z_Con X 2 mX10_sizeOf [zr 46 0, zi (nI r), zi (nI m), zi 5] M (fun v M' => v = rows 0 (12 * r + m) + (nI m + rows 1 (12 * r + m) + 100) ∧ z_Tx (l ++ [11, 10, 22, 21, 20]) M' ∧ z_Fm [29] [63] M M') := by
  refine z_mg KX10_sizeOf [] 80 (by decide +kernel) rfl ?_
  refine ⟨fun _ => ?_, fun w => absurd w (by decide)⟩
  refine z_uV (hX10_leave0 M 14) (by decide) (fun _ => ?_)
  refine z_uRe (g := 0) (hX10_isOf M 5 1) (by decide) (by decide) ?_
  refine z_uV (hX10_leave0 M 13) (by decide) (fun _ => ?_)
  refine ⟨fun _ => ?_, fun w => absurd w (by decide)⟩
  refine z_uV (hX10_leave0 M 12) (by decide) (fun _ => ?_)
  refine z_uRe (g := 1) (hX10_isOf M 5 2) (by decide) (by decide) ?_
  refine z_use (hX10_leave1 M l 11 (by omega) hT) (by decide) (fun _ M1 g1 => ?_)
  have f1 : z_Fm [29] [63] M M1 := g1.2
  refine z_use (hX10_leave1 M1 (l ++ [11]) 10 (by simp only [List.length_append, List.length_singleton]; omega) g1.1) (by decide) (fun _ M2 g2 => ?_)
  have f2 : z_Fm [29] [63] M M2 := f1.trans g2.2
  refine z_uR (hX10_ranD M2 (hR.fm f2 (by decide)) 0 (by decide)) (by decide) ?_
  refine z_uRe (g := 0) (hX10_isOf M2 5 1) (by decide) (by decide) ?_
  refine ⟨fun _ => ?_, fun w => absurd rfl w⟩
  refine z_use (hm_5 (X := X) M2 (hR.fm f2 (by decide)) (l ++ [11] ++ [10]) (by simp only [List.length_append, List.length_singleton]; omega) g2.1) (by decide) (fun v3 M3 g3 => ?_)
  have f3 : z_Fm [29] [63] M M3 := f2.trans g3.2.2
  have t3 := g3.2.1
  refine ⟨fun _ => ?_, fun w => absurd w (by decide)⟩
  refine ⟨by rw [g3.1, Int32.mul_one], ?_, f3⟩
  simp only [List.append_assoc] at t3
  exact t3
theorem mk_1 {X : z_Cx} (M : z_M) {rows : Nat → Nat → Int32} {r m : Nat} (hR : z_Rd M rows r m) (l : List Int32) (hl : l.length ≤ 12) (hT : z_Tx l M) : z_Con X 3 mX10_markOf [zr 46 0, zi (nI r), zi (nI m), zi 1] M (fun v M' => v = nI m + (rows 0 (12 * r + m) - rows 2 (12 * r + m)) ∧ z_Tx (l ++ [23, 20, 13, 10]) M' ∧ z_Fm [29] [63] M M') := by
  refine z_mg KX10_markOf [] 80 (by decide +kernel) rfl ?_
  refine z_uRe (g := 0) (hX10_isOf M 1 2) (by decide) (by decide) ?_
  refine ⟨fun _ => ?_, fun w => absurd rfl w⟩
  refine ⟨fun _ => ?_, fun w => absurd w (by decide)⟩
  refine z_uV (hX10_leave0 M 24) (by decide) (fun _ => ?_)
  refine z_use (hX10_leave1 M l 23 (by omega) hT) (by decide) (fun _ M1 g1 => ?_)
  have f1 : z_Fm [29] [63] M M1 := g1.2
  refine z_use (hX10_leave1 M1 (l ++ [23]) 20 (by simp only [List.length_append, List.length_singleton]; omega) g1.1) (by decide) (fun _ M2 g2 => ?_)
  have f2 : z_Fm [29] [63] M M2 := f1.trans g2.2
  refine z_use (sz_1 (X := X) M2 (hR.fm f2 (by decide)) (l ++ [23] ++ [20]) (by simp only [List.length_append, List.length_singleton]; omega) g2.1) (by decide) (fun v3 M3 g3 => ?_)
  have f3 : z_Fm [29] [63] M M3 := f2.trans g3.2.2
  have t3 := g3.2.1
  refine ⟨fun _ => ?_, fun w => absurd w (by decide)⟩
  refine ⟨by rw [g3.1], ?_, f3⟩
  simp only [List.append_assoc] at t3
  exact t3
theorem mk_2 {X : z_Cx} (M : z_M) {rows : Nat → Nat → Int32} {r m : Nat} (hR : z_Rd M rows r m) (l : List Int32) (hl : l.length ≤ 14) (hT : z_Tx l M) : z_Con X 3 mX10_markOf [zr 46 0, zi (nI r), zi (nI m), zi 2] M (fun v M' => v = nI m + rows 1 (12 * r + m) ∧ z_Tx (l ++ [21, 20]) M' ∧ z_Fm [29] [63] M M') := by
  refine z_mg KX10_markOf [] 80 (by decide +kernel) rfl ?_
  refine z_uRe (g := 1) (hX10_isOf M 2 2) (by decide) (by decide) ?_
  refine ⟨fun w => absurd w (by decide), fun _ => ?_⟩
  refine z_use (hm_2 (X := X) M hR l (by omega) hT) (by decide) (fun v1 M1 g1 => ?_)
  have f1 : z_Fm [29] [63] M M1 := g1.2.2
  have t1 := g1.2.1
  exact g1
theorem mk_3 {X : z_Cx} (M : z_M) {rows : Nat → Nat → Int32} {r m : Nat} (hR : z_Rd M rows r m) (l : List Int32) (hl : l.length ≤ 10) (hT : z_Tx l M) : z_Con X 3 mX10_markOf [zr 46 0, zi (nI r), zi (nI m), zi 3] M (fun v M' => v = -(nI m + (rows 0 (12 * r + m) - rows 2 (12 * r + m) - 1)) ∧ z_Tx (l ++ [24, 23, 20, 14, 13, 10]) M' ∧ z_Fm [29] [63] M M') := by
  refine z_mg KX10_markOf [] 80 (by decide +kernel) rfl ?_
  refine z_uRe (g := 0) (hX10_isOf M 3 2) (by decide) (by decide) ?_
  refine ⟨fun _ => ?_, fun w => absurd rfl w⟩
  refine ⟨fun w => absurd rfl w, fun _ => ?_⟩
  refine z_use (hX10_leave1 M l 24 (by omega) hT) (by decide) (fun _ M1 g1 => ?_)
  have f1 : z_Fm [29] [63] M M1 := g1.2
  refine z_use (hX10_leave1 M1 (l ++ [24]) 23 (by simp only [List.length_append, List.length_singleton]; omega) g1.1) (by decide) (fun _ M2 g2 => ?_)
  have f2 : z_Fm [29] [63] M M2 := f1.trans g2.2
  refine z_use (hX10_leave1 M2 (l ++ [24] ++ [23]) 20 (by simp only [List.length_append, List.length_singleton]; omega) g2.1) (by decide) (fun _ M3 g3 => ?_)
  have f3 : z_Fm [29] [63] M M3 := f2.trans g3.2
  refine z_use (sz_3 (X := X) M3 (hR.fm f3 (by decide)) (l ++ [24] ++ [23] ++ [20]) (by simp only [List.length_append, List.length_singleton]; omega) g3.1) (by decide) (fun v4 M4 g4 => ?_)
  have f4 : z_Fm [29] [63] M M4 := f3.trans g4.2.2
  have t4 := g4.2.1
  refine ⟨fun w => absurd rfl w, fun _ => ?_⟩
  refine ⟨by rw [g4.1], ?_, f4⟩
  simp only [List.append_assoc] at t4
  exact t4
theorem mk_4 {X : z_Cx} (M : z_M) {rows : Nat → Nat → Int32} {r m : Nat} (hR : z_Rd M rows r m) (l : List Int32) (hl : l.length ≤ 14) (hT : z_Tx l M) : z_Con X 3 mX10_markOf [zr 46 0, zi (nI r), zi (nI m), zi 4] M (fun v M' => v = nI m + rows 1 (12 * r + m) ∧ z_Tx (l ++ [21, 20]) M' ∧ z_Fm [29] [63] M M') := by
  refine z_mg KX10_markOf [] 80 (by decide +kernel) rfl ?_
  refine z_uRe (g := 1) (hX10_isOf M 4 2) (by decide) (by decide) ?_
  refine ⟨fun w => absurd w (by decide), fun _ => ?_⟩
  refine z_use (hm_4 (X := X) M hR l (by omega) hT) (by decide) (fun v1 M1 g1 => ?_)
  have f1 : z_Fm [29] [63] M M1 := g1.2.2
  have t1 := g1.2.1
  exact g1
theorem mk_5 {X : z_Cx} (M : z_M) {rows : Nat → Nat → Int32} {r m : Nat} (hR : z_Rd M rows r m) (l : List Int32) (hl : l.length ≤ 13) (hT : z_Tx l M) : z_Con X 3 mX10_markOf [zr 46 0, zi (nI r), zi (nI m), zi 5] M (fun v M' => v = nI m + rows 1 (12 * r + m) + 100 ∧ z_Tx (l ++ [22, 21, 20]) M' ∧ z_Fm [29] [63] M M') := by
  refine z_mg KX10_markOf [] 80 (by decide +kernel) rfl ?_
  refine z_uRe (g := 1) (hX10_isOf M 5 2) (by decide) (by decide) ?_
  refine ⟨fun w => absurd w (by decide), fun _ => ?_⟩
  refine z_use (hm_5 (X := X) M hR l (by omega) hT) (by decide) (fun v1 M1 g1 => ?_)
  have f1 : z_Fm [29] [63] M M1 := g1.2.2
  have t1 := g1.2.1
  exact g1
theorem Tx0 {M : z_M} : z_Tx [] (z_s M 46 0 29 0) := ⟨by decide, by rw [z_gs, if_pos ⟨rfl, rfl, rfl⟩]; rfl, fun j hj => absurd hj (Nat.not_lt_zero j)⟩
theorem hX10_ask {X : z_Cx} (M : z_M) {V : Nat → Nat → Int32} {nm nr nb : Nat} (hN : z_CR V nm nr nb (z_nw M)) (h0 : z_H0 M) {fl : Int32} {rows : Nat → Nat → Int32} {pl : Nat → Int32} (hR : z_Rf V nm nr fl rows pl (z_nw M)) (ru mi wh : Int32) : z_Con X 4 mX10_ask [zr 46 0, zi ru, zi mi, zi wh] M (fun v M' => (¬ (pu_ru nr ru ∧ pu_ru nm mi ∧ 0 ≤ wh ∧ wh ≤ 1) ∧ v = -1000001 ∧ M' = M) ∨ (pu_ru nr ru ∧ pu_ru nm mi ∧ (0 ≤ wh ∧ wh ≤ 1) ∧ fl = 0 ∧ v = -1000002 ∧ M' = M) ∨ (¬ fl = 0 ∧ (0 ≤ wh ∧ wh ≤ 1) ∧ ∃ r m, r < nr ∧ ru = nI r ∧ m < nm ∧ mi = nI m ∧ z_Fm [29] [63] M M' ∧ v = (if wh = 0 then pu_size else pu_mark) (pu_kind rows r m) (rows 0 (12 * r + m)) (nI m) (rows 1 (12 * r + m)) (rows 2 (12 * r + m)) ∧ z_Tx ((if wh = 0 then pu_sizeT else pu_markT) (pu_kind rows r m)) M')) := by
  have h12 := hN.1.1
  have h4 := hN.1.2.1
  have efl : M.1 47 (M.2.2 46 0).toNat 190 = fl := hR.1
  refine z_mg KX10_ask [] 60 (by decide +kernel) rfl ?_
  refine z_uR (hX10_isStep M hN ru mi) (by decide) ?_
  refine ⟨fun h => Or.inl ⟨by unfold pu_ru; grind, rfl, rfl⟩, fun h => ?_⟩
  have hh : (0 ≤ ru ∧ ru ≤ nI nr - 1) ∧ 0 ≤ mi ∧ mi ≤ nI nm - 1 := by grind
  refine z_uR (hX10_inI M wh 0 1 (by decide) (by decide)) (by decide) ?_
  refine ⟨fun h2 => ?_, fun h2 => Or.inl ⟨by grind, rfl, rfl⟩⟩
  have hkd : 0 ≤ wh ∧ wh ≤ 1 := by grind
  obtain ⟨r, hr, er⟩ := ru_of (by omega) (show pu_ru nr ru from hh.1)
  obtain ⟨m, hm, em⟩ := ru_of (by omega) (show pu_ru nm mi from hh.2)
  subst er em
  refine ⟨vin (by decide) (by decide), ?_⟩
  refine ⟨fun h5 => ?_, fun h5 => Or.inr (Or.inl ⟨hh.1, hh.2, hkd, efl.symm.trans h5, rfl, rfl⟩)⟩
  have h6 : ¬ fl = 0 := fun w => h5 (efl.trans w)
  have hRR := hR.2.2 h6
  have f0 : z_Fm [29] [63] M (z_s M 46 0 29 0) := (z_Fm.refl).s46 (by decide)
  have en0 := nw_fm f0 (by decide)
  refine z_uR (hX10_kindOf (z_s M 46 0 29 0) (by rw [en0]; exact hN) (fun k hk => by rw [f0.2.1 55 (by decide) (by decide)]; exact h0 k hk) (by rw [en0]; exact hRR) r m hr hm) (by decide) ?_
  have hD : z_Rd (z_s M 46 0 29 0) rows r m := ⟨by omega, by omega, fun w hw => by rw [en0]; exact (hRR.1 r hr m hm).1 w hw⟩
  refine ⟨fun h7 => ?_, fun h7 => ?_⟩
  · have pf : ∀ v M', z_Fm [29] [63] M M' → v = pu_mark (pu_kind rows r m) (rows 0 (12 * r + m)) (nI m) (rows 1 (12 * r + m)) (rows 2 (12 * r + m)) → z_Tx (pu_markT (pu_kind rows r m)) M' → ((¬ (pu_ru nr (nI r) ∧ pu_ru nm (nI m) ∧ 0 ≤ wh ∧ wh ≤ 1) ∧ v = -1000001 ∧ M' = M) ∨ (pu_ru nr (nI r) ∧ pu_ru nm (nI m) ∧ (0 ≤ wh ∧ wh ≤ 1) ∧ fl = 0 ∧ v = -1000002 ∧ M' = M) ∨ (¬ fl = 0 ∧ (0 ≤ wh ∧ wh ≤ 1) ∧ ∃ r' m', r' < nr ∧ nI r = nI r' ∧ m' < nm ∧ nI m = nI m' ∧ z_Fm [29] [63] M M' ∧ v = (if wh = 0 then pu_size else pu_mark) (pu_kind rows r' m') (rows 0 (12 * r' + m')) (nI m') (rows 1 (12 * r' + m')) (rows 2 (12 * r' + m')) ∧ z_Tx ((if wh = 0 then pu_sizeT else pu_markT) (pu_kind rows r' m')) M')) := by
      intro v M' g1 g2 g3
      refine Or.inr (Or.inr ⟨h6, hkd, r, m, hr, rfl, hm, rfl, g1, ?_, ?_⟩)
      · rw [if_neg h7]; exact g2
      · rw [if_neg h7]; exact g3
    rcases kind_in rows r m with e | e | e | e | e
    · rw [e] at pf ⊢
      refine z_use (mk_1 (X := X) (z_s M 46 0 29 0) hD [] (by decide) Tx0) (by decide) (fun v M' g => ?_)
      exact pf v M' (f0.trans g.2.2) g.1 g.2.1
    · rw [e] at pf ⊢
      refine z_use (mk_2 (X := X) (z_s M 46 0 29 0) hD [] (by decide) Tx0) (by decide) (fun v M' g => ?_)
      exact pf v M' (f0.trans g.2.2) g.1 g.2.1
    · rw [e] at pf ⊢
      refine z_use (mk_3 (X := X) (z_s M 46 0 29 0) hD [] (by decide) Tx0) (by decide) (fun v M' g => ?_)
      exact pf v M' (f0.trans g.2.2) g.1 g.2.1
    · rw [e] at pf ⊢
      refine z_use (mk_4 (X := X) (z_s M 46 0 29 0) hD [] (by decide) Tx0) (by decide) (fun v M' g => ?_)
      exact pf v M' (f0.trans g.2.2) g.1 g.2.1
    · rw [e] at pf ⊢
      refine z_use (mk_5 (X := X) (z_s M 46 0 29 0) hD [] (by decide) Tx0) (by decide) (fun v M' g => ?_)
      exact pf v M' (f0.trans g.2.2) g.1 g.2.1
  · have pf : ∀ v M', z_Fm [29] [63] M M' → v = pu_size (pu_kind rows r m) (rows 0 (12 * r + m)) (nI m) (rows 1 (12 * r + m)) (rows 2 (12 * r + m)) → z_Tx (pu_sizeT (pu_kind rows r m)) M' → ((¬ (pu_ru nr (nI r) ∧ pu_ru nm (nI m) ∧ 0 ≤ wh ∧ wh ≤ 1) ∧ v = -1000001 ∧ M' = M) ∨ (pu_ru nr (nI r) ∧ pu_ru nm (nI m) ∧ (0 ≤ wh ∧ wh ≤ 1) ∧ fl = 0 ∧ v = -1000002 ∧ M' = M) ∨ (¬ fl = 0 ∧ (0 ≤ wh ∧ wh ≤ 1) ∧ ∃ r' m', r' < nr ∧ nI r = nI r' ∧ m' < nm ∧ nI m = nI m' ∧ z_Fm [29] [63] M M' ∧ v = (if wh = 0 then pu_size else pu_mark) (pu_kind rows r' m') (rows 0 (12 * r' + m')) (nI m') (rows 1 (12 * r' + m')) (rows 2 (12 * r' + m')) ∧ z_Tx ((if wh = 0 then pu_sizeT else pu_markT) (pu_kind rows r' m')) M')) := by
      intro v M' g1 g2 g3
      refine Or.inr (Or.inr ⟨h6, hkd, r, m, hr, rfl, hm, rfl, g1, ?_, ?_⟩)
      · rw [if_pos h7]; exact g2
      · rw [if_pos h7]; exact g3
    rcases kind_in rows r m with e | e | e | e | e
    · rw [e] at pf ⊢
      refine z_use (sz_1 (X := X) (z_s M 46 0 29 0) hD [] (by decide) Tx0) (by decide) (fun v M' g => ?_)
      exact pf v M' (f0.trans g.2.2) g.1 g.2.1
    · rw [e] at pf ⊢
      refine z_use (sz_2 (X := X) (z_s M 46 0 29 0) hD [] (by decide) Tx0) (by decide) (fun v M' g => ?_)
      exact pf v M' (f0.trans g.2.2) g.1 g.2.1
    · rw [e] at pf ⊢
      refine z_use (sz_3 (X := X) (z_s M 46 0 29 0) hD [] (by decide) Tx0) (by decide) (fun v M' g => ?_)
      exact pf v M' (f0.trans g.2.2) g.1 g.2.1
    · rw [e] at pf ⊢
      refine z_use (sz_4 (X := X) (z_s M 46 0 29 0) hD [] (by decide) Tx0) (by decide) (fun v M' g => ?_)
      exact pf v M' (f0.trans g.2.2) g.1 g.2.1
    · rw [e] at pf ⊢
      refine z_use (sz_5 (X := X) (z_s M 46 0 29 0) hD [] (by decide) Tx0) (by decide) (fun v M' g => ?_)
      exact pf v M' (f0.trans g.2.2) g.1 g.2.1
theorem hX10_trace {X : z_Cx} (M : z_M) {l : List Int32} (hT : z_Tx l M) (i : Int32) : z_Con X 1 mX10_trace [zr 46 0, zi i] M (fun r M' => M' = M ∧ ((¬ pu_ru l.length i ∧ r = -1000000) ∨ (∃ x, x < l.length ∧ i = nI x ∧ r = l.getD x 0))) := by
  obtain ⟨h1, h2, h3⟩ := hT
  refine z_mg KX10_trace [] 60 (by decide +kernel) rfl ?_
  refine z_uR (hX10_inI M i 0 (M.1 46 0 29 - 1) (by decide) rfl) (by decide) ?_
  rw [h2]
  refine ⟨fun h => ⟨rfl, Or.inl ⟨by unfold pu_ru; grind, rfl⟩⟩, fun h => ?_⟩
  have hi : 0 ≤ i ∧ i ≤ nI l.length - 1 := by grind
  obtain ⟨x, hx, ex⟩ := nI_of (x := i) (Int32.not_lt.mpr hi.1)
  subst ex
  have hxl : x < l.length := by
    rcases Nat.eq_zero_or_pos l.length with w | w
    · rw [w] at hi
      exact absurd (Int32.le_trans (nI_pos' hx) hi.2) (by decide)
    · rw [show nI l.length - 1 = nI (l.length - 1) from pk_sub (b := 1) w, nI_leI hx (by omega)] at hi
      omega
  refine ⟨vp_in_nI (by omega) (by omega), rfl, Or.inr ⟨x, hxl, rfl, ?_⟩⟩
  rw [nI_clamp hx]
  exact h3 x hxl
