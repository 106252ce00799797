/-! ===== the model's next token, numbers, stops, words ===== -/
theorem hX10_look {X : z_Cx} (M : z_M) (B : Nat → Int32) (len x : Nat) (hT : z_Te B len M) (hx : x ≤ len) : z_Con X 2 mX10_look [zr 46 0, zi (nI x)] M (fun _ M' => z_Fm [12, 13, 14, 15] [] M M' ∧ z_mtk M' (pu_tok B len x)) := by
  have hl6 := hT.1
  have hb := run_bd (p := pu_blank) (B := B) (len - x) x
  unfold pu_tok
  generalize ef : pu_run pu_blank B (len - x) x = f at *
  refine z_mg KX10_look [(5, [0])] 20 (by decide +kernel) rfl ?_
  refine lA_look M B len hT f (fun Mc hF h12 => ?_) (len - x) x _ (by omega) ef (z_Fm.refl.s46 (by decide)) (by rw [z_gs, if_pos ⟨rfl, rfl, rfl⟩])
  have hTc := Te_F hT hF
  refine z_go_run KX10_look [(72, [0])] 20 ?_
  show z_Run X 2 mX10_look _ 72 [(0, zr 46 0)] [] (z_s (z_s (z_s Mc 46 0 13 0) 46 0 14 0) 46 0 15 0)
  have dF : z_Fm [12, 13, 14, 15] [] M (z_s (z_s (z_s Mc 46 0 13 0) 46 0 14 0) 46 0 15 0) := ((hF.s46 (by decide)).s46 (by decide)).s46 (by decide)
  have d12 : (z_s (z_s (z_s Mc 46 0 13 0) 46 0 14 0) 46 0 15 0).1 46 0 12 = nI f := h12
  have d13 : (z_s (z_s (z_s Mc 46 0 13 0) 46 0 14 0) 46 0 15 0).1 46 0 13 = 0 := rfl
  have d14 : (z_s (z_s (z_s Mc 46 0 13 0) 46 0 14 0) 46 0 15 0).1 46 0 14 = 0 := rfl
  have d15 : (z_s (z_s (z_s Mc 46 0 13 0) 46 0 14 0) 46 0 15 0).1 46 0 15 = 0 := rfl
  generalize z_s (z_s (z_s Mc 46 0 13 0) 46 0 14 0) 46 0 15 0 = Md at *
  have hTd := Te_F hT dF
  refine z_go_run KX10_look [(89, [0])] 30 ?_
  refine ⟨fun g => ?_, fun g => ?_⟩ <;> rw [d12, hTd.2.1, nI_eq (by omega) (by omega)] at g
  · show z_Run X 2 mX10_look _ 89 [(0, zr 46 0)] [] (z_s Md 46 0 13 1)
    have eF : z_Fm [12, 13, 14, 15] [] M (z_s Md 46 0 13 1) := dF.s46 (by decide)
    have e12 : (z_s Md 46 0 13 1).1 46 0 12 = nI f := d12
    have e13 : (z_s Md 46 0 13 1).1 46 0 13 = 1 := rfl
    have e15 : (z_s Md 46 0 13 1).1 46 0 15 = 0 := d15
    generalize z_s Md 46 0 13 1 = Me at *
    have hTe := Te_F hT eF
    have hv : vp_in (Me.1 46 0 12) 600 := by
      rw [e12]
      exact vp_in_nI (by omega) (by omega)
    have et : Me.1 50 0 (Me.1 46 0 12).toNatClampNeg = pu_by8 B f := by
      rw [e12, nI_clamp (by omega)]
      exact hTe.2.2 f (by omega)
    have go := look122 (X := X) M B len f hT (by omega) Me eF e12 e13 e15
    refine z_go_run KX10_look [(122, [0, 2])] 60 ?_
    refine ⟨hv, ?_⟩
    refine ⟨fun g2 => ?_, fun g2 => ?_⟩ <;> rw [et] at g2
    · exact go false (by rw [decide_eq_false g2]; rfl)
    · have hc : z_Con X 1 mX10_isFigureAt [zr 46 0, zi (Me.1 46 0 12 + 1)] Me (fun v M' => M' = Me ∧ v = pu_b2 (pu_fa B len (f + 1))) := by
        rw [e12, nI_1]
        exact hX10_isFigureAt Me B len (f + 1) hTe (by omega)
      refine z_uR hc (by decide) ?_
      refine ⟨fun g3 => ?_, fun g3 => ?_⟩
      · exact go false (by rw [b2_0 g3, Bool.and_false])
      · exact go true (by rw [b2_1 g3, decide_eq_true g2]; rfl)
  · have e : pu_tok2 B len f = (f, f, 0, 0) := if_pos g
    refine ⟨dF, ?_⟩
    rw [e]
    exact ⟨d12, by rw [d13]; show (0 : Int32) = nI (f - f); rw [Nat.sub_self]; rfl, d14, fun w => absurd (show (0 : Int32) = 2 from w) (by decide)⟩
theorem hX10_next {X : z_Cx} (M : z_M) (B : Nat → Int32) (len : Nat) (tk : z_Tk) (hT : z_Te B len M) (h1 : tk.1 ≤ tk.2.1) (h2 : tk.2.1 ≤ len) (ht : z_mtk M tk) : z_Con X 3 mX10_next [zr 46 0] M (fun _ M' => z_Fm [12, 13, 14, 15] [] M M' ∧ z_mtk M' (pu_tok B len tk.2.1)) := by
  refine z_mg KX10_next [] 20 (by decide +kernel) rfl ?_
  have hc : z_Con X 2 mX10_look [zr 46 0, zi (M.1 46 0 12 + M.1 46 0 13)] M (fun _ M' => z_Fm [12, 13, 14, 15] [] M M' ∧ z_mtk M' (pu_tok B len tk.2.1)) := by
    rw [ht.1, ht.2.1, nI_add, show tk.1 + (tk.2.1 - tk.1) = tk.2.1 by omega]
    exact hX10_look M B len tk.2.1 hT h2
  exact z_use hc (by decide) (fun _ _ q => q)
theorem hX10_faulty {X : z_Cx} (M : z_M) (n : Int32) : z_Con X 0 mX10_faulty [zr 46 0, zi n] M (fun v M' => v = 0 ∧ M' = z_s M 46 0 6 n) := by
  refine z_mg KX10_faulty [] 40 (by decide +kernel) rfl ?_
  exact ⟨Or.inl rfl, rfl, rfl⟩
