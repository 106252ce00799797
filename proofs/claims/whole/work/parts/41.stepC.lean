/-! ===== the class: steps and what is asked of them ===== -/
/-- the trace is this list -/
def z_Tc (M : z_M) (l : List Int32) : Prop := l.length ≤ 16 ∧ M.1 44 0 1 = nI l.length ∧ ∀ j, j < l.length → M.1 45 0 j = l.getD j 0
/-- nothing but the trace has changed -/
def z_Fx (M M' : z_M) : Prop := M'.2 = M.2 ∧ (∀ k, k ≠ 44 → k ≠ 45 → M'.1 k = M.1 k) ∧ ∀ j, j ≠ 1 → M'.1 44 0 j = M.1 44 0 j
theorem z_Fx.refl {M : z_M} : z_Fx M M := ⟨rfl, fun _ _ _ => rfl, fun _ _ => rfl⟩
theorem z_Fx.trans {M M1 M2 : z_M} (h : z_Fx M M1) (h2 : z_Fx M1 M2) : z_Fx M M2 := ⟨h2.1.trans h.1, fun k a b => (h2.2.1 k a b).trans (h.2.1 k a b), fun j a => (h2.2.2 j a).trans (h.2.2 j a)⟩
theorem hX8_leaveNumber {X : z_Cx} (M : z_M) (l : List Int32) (b : Int32) (hl : l.length < 16) (h : z_Tc M l) : z_Con X 0 mX8_leaveNumber [zr 44 0, zi b] M (fun _ M' => z_Tc M' (l ++ [b]) ∧ z_Fx M M') := by
  obtain ⟨h1, h2, h3⟩ := h
  have el : (nI l.length).toNatClampNeg = l.length := nI_clamp (by omega)
  refine z_mg KX8_leaveNumber [] 40 (by decide +kernel) rfl ?_
  refine ⟨fun g => ?_, fun g => ?_⟩ <;> rw [h2] at g
  · exact absurd g (nI_ge (b := 16) hl (by omega))
  · refine ⟨by rw [h2]; exact vp_in_nI hl (by omega), ?_⟩
    show z_Tc (z_s (z_s M 45 0 (M.1 44 0 1).toNatClampNeg b) 44 0 1 (M.1 44 0 1 + 1)) (l ++ [b]) ∧ z_Fx M (z_s (z_s M 45 0 (M.1 44 0 1).toNatClampNeg b) 44 0 1 (M.1 44 0 1 + 1))
    rw [h2, el, nI_1]
    refine ⟨⟨by rw [List.length_append, List.length_singleton]; omega, ?_, fun j hj => ?_⟩, rfl, fun k hk1 hk2 => ?_, fun j hj => ?_⟩
    · rw [z_gs, if_pos ⟨rfl, rfl, rfl⟩, List.length_append, List.length_singleton]
    · rw [List.length_append, List.length_singleton] at hj
      rw [z_gs, if_neg (by omega), z_gs]
      by_cases e : j = l.length
      · rw [if_pos ⟨rfl, rfl, e⟩, e]
        simp
      · rw [if_neg (fun w => e w.2.2), h3 j (by omega)]
        simp [List.getD_eq_getElem?_getD, List.getElem?_append_left (show j < l.length by omega)]
    · funext a x
      rw [z_gs, if_neg (fun w => hk1 w.1), z_gs, if_neg (fun w => hk2 w.1)]
    · rw [z_gs, if_neg (fun w => hj w.2.2), z_gs, if_neg (by omega)]
/-- a body: what it answers (of kind, mile, seconds, pace, left) and which numbers it leaves -/
def z_An (X : z_Cx) (n : Nat) (B b : Int32) (val : z_M → Int32) (tr : List Int32) (K : Int32 → Prop) : Prop := ∀ (M : z_M) (l : List Int32) (d : Int32), l.length + tr.length ≤ 16 → z_Tc M l → K (M.1 44 0 2) → 0 ≤ d → d ≤ B → z_Con X n mX8_answer [zr 44 0, zi b, zi d] M (fun v M' => v = val M ∧ z_Tc M' (l ++ tr) ∧ z_Fx M M')
theorem tc_l {tr l : List Int32} {b : Int32} {t : List Int32} (e : tr = b :: t) (h : l.length + tr.length ≤ 16) : l.length < 16 := by rw [e, List.length_cons] at h; omega
theorem a10 {X : z_Cx} : z_An X 1 14 10 (fun M => M.1 44 0 4) [10] (fun _ => True) := by
  intro M l d hl hT hK hd0 hd1
  refine z_mg (KX8_answer (X := X)) [] 80 (by decide +kernel) rfl ?_
  refine ⟨fun _ => ?_, fun w => absurd (by grind) w⟩
  refine z_use (hX8_leaveNumber M l 10 (tc_l rfl hl) hT) (by decide) (fun _ M1 h1 => ?_)
  refine ⟨fun _ => ?_, fun w => absurd rfl w⟩
  exact ⟨h1.2.2.2 4 (by decide), h1.1, h1.2⟩
theorem a20 {X : z_Cx} : z_An X 1 14 20 (fun M => M.1 44 0 3) [20] (fun _ => True) := by
  intro M l d hl hT hK hd0 hd1
  refine z_mg (KX8_answer (X := X)) [] 80 (by decide +kernel) rfl ?_
  refine ⟨fun _ => ?_, fun w => absurd (by grind) w⟩
  refine z_use (hX8_leaveNumber M l 20 (tc_l rfl hl) hT) (by decide) (fun _ M1 h1 => ?_)
  refine ⟨fun w => absurd w (by decide), fun _ => ⟨fun w => absurd w (by decide), fun _ => ⟨fun w => absurd w (by decide), fun _ => ⟨fun w => absurd w (by decide), fun _ => ⟨fun w => absurd w (by decide), fun _ => ⟨fun w => absurd w (by decide), fun _ => ⟨fun w => absurd w (by decide), fun _ => ⟨fun w => absurd w (by decide), fun _ => ⟨fun w => absurd w (by decide), fun _ => ⟨fun w => absurd w (by decide), fun _ => ⟨fun _ => ?_, fun w => absurd rfl w⟩⟩⟩⟩⟩⟩⟩⟩⟩⟩⟩
  exact ⟨h1.2.2.2 3 (by decide), h1.1, h1.2⟩
theorem a21 {X : z_Cx} : z_An X 2 13 21 (fun M => M.1 44 0 3 + M.1 44 0 5) [21, 20] (fun _ => True) := by
  intro M l d hl hT hK hd0 hd1
  refine z_mg (KX8_answer (X := X)) [] 80 (by decide +kernel) rfl ?_
  refine ⟨fun _ => ?_, fun w => absurd (by grind) w⟩
  refine z_use (hX8_leaveNumber M l 21 (tc_l rfl hl) hT) (by decide) (fun _ M1 h1 => ?_)
  refine ⟨fun w => absurd w (by decide), fun _ => ⟨fun w => absurd w (by decide), fun _ => ⟨fun w => absurd w (by decide), fun _ => ⟨fun w => absurd w (by decide), fun _ => ⟨fun w => absurd w (by decide), fun _ => ⟨fun w => absurd w (by decide), fun _ => ⟨fun w => absurd w (by decide), fun _ => ⟨fun w => absurd w (by decide), fun _ => ⟨fun w => absurd w (by decide), fun _ => ⟨fun w => absurd w (by decide), fun _ => ⟨fun w => absurd w (by decide), fun _ => ⟨fun _ => ?_, fun w => absurd rfl w⟩⟩⟩⟩⟩⟩⟩⟩⟩⟩⟩⟩
  refine z_use (a20 M1 (l ++ [21]) (d + 1) (by simp at hl ⊢; omega) h1.1 trivial (by grind) (by grind)) (by decide) (fun v2 M2 g2 => ?_)
  obtain ⟨e2, t2, x2⟩ := g2
  rw [List.append_assoc] at t2
  have hx := h1.2.trans x2
  refine ⟨?_, t2, hx⟩
  rw [e2]
  dsimp only
  rw [hx.2.2 5 (by decide), h1.2.2.2 3 (by decide)]
theorem a22 {X : z_Cx} : z_An X 3 12 22 (fun M => M.1 44 0 3 + M.1 44 0 5 + 100) [22, 21, 20] (fun _ => True) := by
  intro M l d hl hT hK hd0 hd1
  refine z_mg (KX8_answer (X := X)) [] 80 (by decide +kernel) rfl ?_
  refine ⟨fun _ => ?_, fun w => absurd (by grind) w⟩
  refine z_use (hX8_leaveNumber M l 22 (tc_l rfl hl) hT) (by decide) (fun _ M1 h1 => ?_)
  refine ⟨fun w => absurd w (by decide), fun _ => ⟨fun w => absurd w (by decide), fun _ => ⟨fun w => absurd w (by decide), fun _ => ⟨fun w => absurd w (by decide), fun _ => ⟨fun w => absurd w (by decide), fun _ => ⟨fun w => absurd w (by decide), fun _ => ⟨fun w => absurd w (by decide), fun _ => ⟨fun w => absurd w (by decide), fun _ => ⟨fun w => absurd w (by decide), fun _ => ⟨fun w => absurd w (by decide), fun _ => ⟨fun w => absurd w (by decide), fun _ => ⟨fun w => absurd w (by decide), fun _ => ⟨fun _ => ?_, fun w => absurd rfl w⟩⟩⟩⟩⟩⟩⟩⟩⟩⟩⟩⟩⟩
  refine z_use (a21 M1 (l ++ [22]) (d + 1) (by simp at hl ⊢; omega) h1.1 trivial (by grind) (by grind)) (by decide) (fun v2 M2 g2 => ?_)
  obtain ⟨e2, t2, x2⟩ := g2
  rw [List.append_assoc] at t2
  have hx := h1.2.trans x2
  refine ⟨?_, t2, hx⟩
  rw [e2]
  dsimp only
  rw [h1.2.2.2 5 (by decide), h1.2.2.2 3 (by decide)]
theorem a13 {X : z_Cx} : z_An X 2 13 13 (fun M => M.1 44 0 4 - M.1 44 0 6) [13, 10] (fun _ => True) := by
  intro M l d hl hT hK hd0 hd1
  refine z_mg (KX8_answer (X := X)) [] 80 (by decide +kernel) rfl ?_
  refine ⟨fun _ => ?_, fun w => absurd (by grind) w⟩
  refine z_use (hX8_leaveNumber M l 13 (tc_l rfl hl) hT) (by decide) (fun _ M1 h1 => ?_)
  refine ⟨fun w => absurd w (by decide), fun _ => ⟨fun w => absurd w (by decide), fun _ => ⟨fun w => absurd w (by decide), fun _ => ⟨fun _ => ?_, fun w => absurd rfl w⟩⟩⟩⟩
  refine z_use (a10 M1 (l ++ [13]) (d + 1) (by simp at hl ⊢; omega) h1.1 trivial (by grind) (by grind)) (by decide) (fun v2 M2 g2 => ?_)
  obtain ⟨e2, t2, x2⟩ := g2
  rw [List.append_assoc] at t2
  have hx := h1.2.trans x2
  refine ⟨?_, t2, hx⟩
  rw [e2]
  dsimp only
  rw [hx.2.2 6 (by decide), h1.2.2.2 4 (by decide)]
theorem a14 {X : z_Cx} : z_An X 3 12 14 (fun M => M.1 44 0 4 - M.1 44 0 6 - 1) [14, 13, 10] (fun _ => True) := by
  intro M l d hl hT hK hd0 hd1
  refine z_mg (KX8_answer (X := X)) [] 80 (by decide +kernel) rfl ?_
  refine ⟨fun _ => ?_, fun w => absurd (by grind) w⟩
  refine z_use (hX8_leaveNumber M l 14 (tc_l rfl hl) hT) (by decide) (fun _ M1 h1 => ?_)
  refine ⟨fun w => absurd w (by decide), fun _ => ⟨fun w => absurd w (by decide), fun _ => ⟨fun w => absurd w (by decide), fun _ => ⟨fun w => absurd w (by decide), fun _ => ⟨fun _ => ?_, fun w => absurd rfl w⟩⟩⟩⟩⟩
  refine z_use (a13 M1 (l ++ [14]) (d + 1) (by simp at hl ⊢; omega) h1.1 trivial (by grind) (by grind)) (by decide) (fun v2 M2 g2 => ?_)
  obtain ⟨e2, t2, x2⟩ := g2
  rw [List.append_assoc] at t2
  have hx := h1.2.trans x2
  refine ⟨?_, t2, hx⟩
  rw [e2]
  dsimp only
  rw [h1.2.2.2 6 (by decide), h1.2.2.2 4 (by decide)]
theorem a11_2 {X : z_Cx} : z_An X 4 11 11 (fun M => M.1 44 0 4 + (M.1 44 0 3 + M.1 44 0 5)) [11, 10, 21, 20] (fun k => k = 2) := by
  intro M l d hl hT hK hd0 hd1
  refine z_mg (KX8_answer (X := X)) [] 80 (by decide +kernel) rfl ?_
  refine ⟨fun _ => ?_, fun w => absurd (by grind) w⟩
  refine z_use (hX8_leaveNumber M l 11 (tc_l rfl hl) hT) (by decide) (fun _ M1 h1 => ?_)
  refine ⟨fun w => absurd w (by decide), fun _ => ⟨fun _ => ?_, fun w => absurd rfl w⟩⟩
  refine z_use (a10 M1 (l ++ [11]) (d + 1) (by simp at hl ⊢; omega) h1.1 trivial (by grind) (by grind)) (by decide) (fun v2 M2 g2 => ?_)
  obtain ⟨e2, t2, x2⟩ := g2
  rw [List.append_assoc] at t2
  have hx := h1.2.trans x2
  have ek : M2.1 44 0 2 = 2 := by rw [hx.2.2 2 (by decide)]; exact hK
  refine ⟨?_, ?_⟩
  · rw [ek]
    exact vin (n := 6) (by decide) (by decide)
  rw [ek]
  refine z_use (a21 M2 (l ++ ([11] ++ [10])) (d + 1) (by simp at hl ⊢; omega) t2 trivial (by grind) (by grind)) (by decide) (fun v3 M3 g3 => ?_)
  obtain ⟨e3, t3, x3⟩ := g3
  rw [List.append_assoc] at t3
  have hy := hx.trans x3
  simp only [List.append_assoc] at t3
  refine ⟨?_, t3, hy⟩
  rw [e2, e3]
  dsimp only
  rw [h1.2.2.2 4 (by decide), hx.2.2 3 (by decide), hx.2.2 5 (by decide)]
theorem a11_4 {X : z_Cx} : z_An X 4 11 11 (fun M => M.1 44 0 4 + (M.1 44 0 3 + M.1 44 0 5)) [11, 10, 21, 20] (fun k => k = 4) := by
  intro M l d hl hT hK hd0 hd1
  refine z_mg (KX8_answer (X := X)) [] 80 (by decide +kernel) rfl ?_
  refine ⟨fun _ => ?_, fun w => absurd (by grind) w⟩
  refine z_use (hX8_leaveNumber M l 11 (tc_l rfl hl) hT) (by decide) (fun _ M1 h1 => ?_)
  refine ⟨fun w => absurd w (by decide), fun _ => ⟨fun _ => ?_, fun w => absurd rfl w⟩⟩
  refine z_use (a10 M1 (l ++ [11]) (d + 1) (by simp at hl ⊢; omega) h1.1 trivial (by grind) (by grind)) (by decide) (fun v2 M2 g2 => ?_)
  obtain ⟨e2, t2, x2⟩ := g2
  rw [List.append_assoc] at t2
  have hx := h1.2.trans x2
  have ek : M2.1 44 0 2 = 4 := by rw [hx.2.2 2 (by decide)]; exact hK
  refine ⟨?_, ?_⟩
  · rw [ek]
    exact vin (n := 6) (by decide) (by decide)
  rw [ek]
  refine z_use (a21 M2 (l ++ ([11] ++ [10])) (d + 1) (by simp at hl ⊢; omega) t2 trivial (by grind) (by grind)) (by decide) (fun v3 M3 g3 => ?_)
  obtain ⟨e3, t3, x3⟩ := g3
  rw [List.append_assoc] at t3
  have hy := hx.trans x3
  simp only [List.append_assoc] at t3
  refine ⟨?_, t3, hy⟩
  rw [e2, e3]
  dsimp only
  rw [h1.2.2.2 4 (by decide), hx.2.2 3 (by decide), hx.2.2 5 (by decide)]
theorem a11_5 {X : z_Cx} : z_An X 4 11 11 (fun M => M.1 44 0 4 + (M.1 44 0 3 + M.1 44 0 5 + 100)) [11, 10, 22, 21, 20] (fun k => k = 5) := by
  intro M l d hl hT hK hd0 hd1
  refine z_mg (KX8_answer (X := X)) [] 80 (by decide +kernel) rfl ?_
  refine ⟨fun _ => ?_, fun w => absurd (by grind) w⟩
  refine z_use (hX8_leaveNumber M l 11 (tc_l rfl hl) hT) (by decide) (fun _ M1 h1 => ?_)
  refine ⟨fun w => absurd w (by decide), fun _ => ⟨fun _ => ?_, fun w => absurd rfl w⟩⟩
  refine z_use (a10 M1 (l ++ [11]) (d + 1) (by simp at hl ⊢; omega) h1.1 trivial (by grind) (by grind)) (by decide) (fun v2 M2 g2 => ?_)
  obtain ⟨e2, t2, x2⟩ := g2
  rw [List.append_assoc] at t2
  have hx := h1.2.trans x2
  have ek : M2.1 44 0 2 = 5 := by rw [hx.2.2 2 (by decide)]; exact hK
  refine ⟨?_, ?_⟩
  · rw [ek]
    exact vin (n := 6) (by decide) (by decide)
  rw [ek]
  refine z_use (a22 M2 (l ++ ([11] ++ [10])) (d + 1) (by simp at hl ⊢; omega) t2 trivial (by grind) (by grind)) (by decide) (fun v3 M3 g3 => ?_)
  obtain ⟨e3, t3, x3⟩ := g3
  rw [List.append_assoc] at t3
  have hy := hx.trans x3
  simp only [List.append_assoc] at t3
  refine ⟨?_, t3, hy⟩
  rw [e2, e3]
  dsimp only
  rw [h1.2.2.2 4 (by decide), hx.2.2 3 (by decide), hx.2.2 5 (by decide)]
theorem a23_1 {X : z_Cx} : z_An X 4 11 23 (fun M => M.1 44 0 3 + (M.1 44 0 4 - M.1 44 0 6)) [23, 20, 13, 10] (fun k => k = 1) := by
  intro M l d hl hT hK hd0 hd1
  refine z_mg (KX8_answer (X := X)) [] 80 (by decide +kernel) rfl ?_
  refine ⟨fun _ => ?_, fun w => absurd (by grind) w⟩
  refine z_use (hX8_leaveNumber M l 23 (tc_l rfl hl) hT) (by decide) (fun _ M1 h1 => ?_)
  refine ⟨fun w => absurd w (by decide), fun _ => ⟨fun w => absurd w (by decide), fun _ => ⟨fun w => absurd w (by decide), fun _ => ⟨fun w => absurd w (by decide), fun _ => ⟨fun w => absurd w (by decide), fun _ => ⟨fun w => absurd w (by decide), fun _ => ⟨fun w => absurd w (by decide), fun _ => ⟨fun w => absurd w (by decide), fun _ => ⟨fun w => absurd w (by decide), fun _ => ⟨fun w => absurd w (by decide), fun _ => ⟨fun w => absurd w (by decide), fun _ => ⟨fun w => absurd w (by decide), fun _ => ⟨fun w => absurd w (by decide), fun _ => ⟨fun _ => ?_, fun w => absurd rfl w⟩⟩⟩⟩⟩⟩⟩⟩⟩⟩⟩⟩⟩⟩
  refine z_use (a20 M1 (l ++ [23]) (d + 1) (by simp at hl ⊢; omega) h1.1 trivial (by grind) (by grind)) (by decide) (fun v2 M2 g2 => ?_)
  obtain ⟨e2, t2, x2⟩ := g2
  rw [List.append_assoc] at t2
  have hx := h1.2.trans x2
  have ek : M2.1 44 0 2 = 1 := by rw [hx.2.2 2 (by decide)]; exact hK
  refine ⟨?_, ?_⟩
  · rw [ek]
    exact vin (n := 6) (by decide) (by decide)
  rw [ek]
  refine z_use (a13 M2 (l ++ ([23] ++ [20])) (d + 1) (by simp at hl ⊢; omega) t2 trivial (by grind) (by grind)) (by decide) (fun v3 M3 g3 => ?_)
  obtain ⟨e3, t3, x3⟩ := g3
  rw [List.append_assoc] at t3
  have hy := hx.trans x3
  simp only [List.append_assoc] at t3
  refine ⟨?_, t3, hy⟩
  rw [e2, e3]
  dsimp only
  rw [h1.2.2.2 3 (by decide), hx.2.2 4 (by decide), hx.2.2 6 (by decide)]
theorem a23_3 {X : z_Cx} : z_An X 4 11 23 (fun M => M.1 44 0 3 + (M.1 44 0 4 - M.1 44 0 6 - 1)) [23, 20, 14, 13, 10] (fun k => k = 3) := by
  intro M l d hl hT hK hd0 hd1
  refine z_mg (KX8_answer (X := X)) [] 80 (by decide +kernel) rfl ?_
  refine ⟨fun _ => ?_, fun w => absurd (by grind) w⟩
  refine z_use (hX8_leaveNumber M l 23 (tc_l rfl hl) hT) (by decide) (fun _ M1 h1 => ?_)
  refine ⟨fun w => absurd w (by decide), fun _ => ⟨fun w => absurd w (by decide), fun _ => ⟨fun w => absurd w (by decide), fun _ => ⟨fun w => absurd w (by decide), fun _ => ⟨fun w => absurd w (by decide), fun _ => ⟨fun w => absurd w (by decide), fun _ => ⟨fun w => absurd w (by decide), fun _ => ⟨fun w => absurd w (by decide), fun _ => ⟨fun w => absurd w (by decide), fun _ => ⟨fun w => absurd w (by decide), fun _ => ⟨fun w => absurd w (by decide), fun _ => ⟨fun w => absurd w (by decide), fun _ => ⟨fun w => absurd w (by decide), fun _ => ⟨fun _ => ?_, fun w => absurd rfl w⟩⟩⟩⟩⟩⟩⟩⟩⟩⟩⟩⟩⟩⟩
  refine z_use (a20 M1 (l ++ [23]) (d + 1) (by simp at hl ⊢; omega) h1.1 trivial (by grind) (by grind)) (by decide) (fun v2 M2 g2 => ?_)
  obtain ⟨e2, t2, x2⟩ := g2
  rw [List.append_assoc] at t2
  have hx := h1.2.trans x2
  have ek : M2.1 44 0 2 = 3 := by rw [hx.2.2 2 (by decide)]; exact hK
  refine ⟨?_, ?_⟩
  · rw [ek]
    exact vin (n := 6) (by decide) (by decide)
  rw [ek]
  refine z_use (a14 M2 (l ++ ([23] ++ [20])) (d + 1) (by simp at hl ⊢; omega) t2 trivial (by grind) (by grind)) (by decide) (fun v3 M3 g3 => ?_)
  obtain ⟨e3, t3, x3⟩ := g3
  rw [List.append_assoc] at t3
  have hy := hx.trans x3
  simp only [List.append_assoc] at t3
  refine ⟨?_, t3, hy⟩
  rw [e2, e3]
  dsimp only
  rw [h1.2.2.2 3 (by decide), hx.2.2 4 (by decide), hx.2.2 6 (by decide)]
theorem a12 {X : z_Cx} : z_An X 5 10 12 (fun M => 2 * (M.1 44 0 4 + (M.1 44 0 3 + M.1 44 0 5))) [12, 11, 10, 21, 20] (fun k => k = 4) := by
  intro M l d hl hT hK hd0 hd1
  refine z_mg (KX8_answer (X := X)) [] 80 (by decide +kernel) rfl ?_
  refine ⟨fun _ => ?_, fun w => absurd (by grind) w⟩
  refine z_use (hX8_leaveNumber M l 12 (tc_l rfl hl) hT) (by decide) (fun _ M1 h1 => ?_)
  refine ⟨fun w => absurd w (by decide), fun _ => ⟨fun w => absurd w (by decide), fun _ => ⟨fun _ => ?_, fun w => absurd rfl w⟩⟩⟩
  refine z_use (a11_4 M1 (l ++ [12]) (d + 1) (by simp at hl ⊢; omega) h1.1 (by rw [h1.2.2.2 2 (by decide)]; exact hK) (by grind) (by grind)) (by decide) (fun v2 M2 g2 => ?_)
  obtain ⟨e2, t2, x2⟩ := g2
  rw [List.append_assoc] at t2
  have hx := h1.2.trans x2
  refine ⟨?_, t2, hx⟩
  rw [e2]
  dsimp only
  rw [h1.2.2.2 4 (by decide), h1.2.2.2 3 (by decide), h1.2.2.2 5 (by decide)]
theorem a24 {X : z_Cx} : z_An X 5 10 24 (fun M => -(M.1 44 0 3 + (M.1 44 0 4 - M.1 44 0 6 - 1))) [24, 23, 20, 14, 13, 10] (fun k => k = 3) := by
  intro M l d hl hT hK hd0 hd1
  refine z_mg (KX8_answer (X := X)) [] 80 (by decide +kernel) rfl ?_
  refine ⟨fun _ => ?_, fun w => absurd (by grind) w⟩
  refine z_use (hX8_leaveNumber M l 24 (tc_l rfl hl) hT) (by decide) (fun _ M1 h1 => ?_)
  refine ⟨fun w => absurd w (by decide), fun _ => ⟨fun w => absurd w (by decide), fun _ => ⟨fun w => absurd w (by decide), fun _ => ⟨fun w => absurd w (by decide), fun _ => ⟨fun w => absurd w (by decide), fun _ => ⟨fun w => absurd w (by decide), fun _ => ⟨fun w => absurd w (by decide), fun _ => ⟨fun w => absurd w (by decide), fun _ => ⟨fun w => absurd w (by decide), fun _ => ⟨fun w => absurd w (by decide), fun _ => ⟨fun w => absurd w (by decide), fun _ => ⟨fun w => absurd w (by decide), fun _ => ⟨fun w => absurd w (by decide), fun _ => ⟨fun w => absurd w (by decide), fun _ => ⟨fun _ => ?_, fun w => absurd rfl w⟩⟩⟩⟩⟩⟩⟩⟩⟩⟩⟩⟩⟩⟩⟩
  refine z_use (a23_3 M1 (l ++ [24]) (d + 1) (by simp at hl ⊢; omega) h1.1 (by rw [h1.2.2.2 2 (by decide)]; exact hK) (by grind) (by grind)) (by decide) (fun v2 M2 g2 => ?_)
  obtain ⟨e2, t2, x2⟩ := g2
  rw [List.append_assoc] at t2
  have hx := h1.2.trans x2
  refine ⟨?_, t2, hx⟩
  rw [e2]
  dsimp only
  rw [h1.2.2.2 4 (by decide), h1.2.2.2 3 (by decide), h1.2.2.2 6 (by decide)]
