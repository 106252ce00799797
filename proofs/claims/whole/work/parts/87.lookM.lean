/-! ===== tokens of the model ===== -/
theorem hX10_isSmall {X : z_Cx} (M : z_M) (b : Int32) : z_Con X 1 mX10_isSmall [zi b] M (fun v M' => M' = M ∧ v = pu_b2 (pu_let b)) := by
  refine z_mg KX10_isSmall [] 30 (by decide +kernel) rfl ?_
  refine z_uR (hX10_inI M b 97 122 (by decide) (by decide)) (by decide) ?_
  unfold pu_let
  by_cases w : 97 ≤ b ∧ b ≤ 122
  · rw [if_pos w, decide_eq_true w]
    exact ⟨Or.inr rfl, rfl, rfl⟩
  · rw [if_neg w, decide_eq_false w]
    exact ⟨Or.inl rfl, rfl, rfl⟩
/-- the model's tape is B, len long, while it is read -/
def z_Te (B : Nat → Int32) (len : Nat) (M : z_M) : Prop := len ≤ 600 ∧ M.1 46 0 16 = nI len ∧ ∀ x, x < len → M.1 50 0 x = pu_by8 B x
/-- a figure at x -/
def pu_fa (B : Nat → Int32) (len x : Nat) : Bool := decide (x < len) && pu_fig (pu_by8 B x)
theorem hX10_isFigureAt {X : z_Cx} (M : z_M) (B : Nat → Int32) (len x : Nat) (hT : z_Te B len M) (hx : x ≤ 700) : z_Con X 1 mX10_isFigureAt [zr 46 0, zi (nI x)] M (fun v M' => M' = M ∧ v = pu_b2 (pu_fa B len x)) := by
  refine z_mg KX10_isFigureAt [] 60 (by decide +kernel) rfl ?_
  unfold pu_fa
  have hl6 := hT.1
  refine ⟨fun g => ?_, fun g => ?_⟩ <;> rw [hT.2.1, nI_leI (by omega) (by omega)] at g
  · rw [decide_eq_false (by omega)]
    exact ⟨Or.inl rfl, rfl, rfl⟩
  · refine ⟨vp_in_nI (by omega) (by omega), ?_⟩
    have et : M.1 50 0 (nI x).toNatClampNeg = pu_by8 B x := by
      rw [nI_clamp (by omega)]
      exact hT.2.2 x (by omega)
    rw [decide_eq_true (show x < len by omega), Bool.true_and]
    unfold pu_fig
    refine z_uR (hX10_inI M (M.1 50 0 (nI x).toNatClampNeg) 48 57 (by decide) (by decide)) (by decide) ?_
    refine ⟨fun g2 => ?_, fun g2 => ?_⟩ <;> rw [et] at g2
    · have w : ¬ (48 ≤ pu_by8 B x ∧ pu_by8 B x ≤ 57) := by
        intro w
        rw [if_pos w] at g2
        exact absurd g2 (by decide)
      rw [decide_eq_false w]
      exact ⟨Or.inl rfl, rfl, rfl⟩
    · have w : 48 ≤ pu_by8 B x ∧ pu_by8 B x ≤ 57 := by
        apply Classical.byContradiction
        intro w
        rw [if_neg w] at g2
        exact g2 rfl
      rw [decide_eq_true w]
      exact ⟨Or.inr rfl, rfl, rfl⟩
theorem Te_F {B : Nat → Int32} {len : Nat} {M M1 : z_M} (hT : z_Te B len M) (hF : z_Fm [12, 13, 14, 15] [] M M1) : z_Te B len M1 := ⟨hT.1, (hF.2.2 16 (by decide)).trans hT.2.1, fun x hx => by
  rw [hF.2.1 50 (by decide) (by decide)]
  exact hT.2.2 x hx⟩
/-- the model's token -/
def z_mtk (M : z_M) (tk : z_Tk) : Prop := M.1 46 0 12 = nI tk.1 ∧ M.1 46 0 13 = nI (tk.2.1 - tk.1) ∧ M.1 46 0 14 = tk.2.2.1 ∧ (tk.2.2.1 = 2 → M.1 46 0 15 = tk.2.2.2)
theorem lA_look {X : z_Cx} (M : z_M) (B : Nat → Int32) (len : Nat) (hT : z_Te B len M) {R : Int32 → z_M → Prop} (f : Nat) (hk : ∀ Mc, z_Fm [12, 13, 14, 15] [] M Mc → Mc.1 46 0 12 = nI f → z_Run X 2 mX10_look R 57 [(0, zr 46 0)] [] Mc) : ∀ (u y : Nat) (Mc : z_M), y + u = len → pu_run pu_blank B u y = f → z_Fm [12, 13, 14, 15] [] M Mc → Mc.1 46 0 12 = nI y → z_Run X 2 mX10_look R 5 [(0, zr 46 0)] [] Mc := by
  have hl6 := hT.1
  intro u
  induction u with
  | zero =>
    intro y Mc hy e hF h12
    obtain rfl : y = f := e
    refine z_go_run KX10_look [(5, [0]), (57, [0])] 80 ?_
    refine ⟨fun _ => hk Mc hF h12, fun q => ?_⟩
    rw [h12, (Te_F hT hF).2.1] at q
    exact absurd (nI_le (by omega) (by omega)) q
  | succ u ih =>
    intro y Mc hy e hF h12
    have et : Mc.1 50 0 (Mc.1 46 0 12).toNatClampNeg = pu_by8 B y := by
      rw [h12, nI_clamp (by omega)]
      exact (Te_F hT hF).2.2 y (by omega)
    have hv : vp_in (Mc.1 46 0 12) 600 := by
      rw [h12]
      exact vp_in_nI (by omega) (by omega)
    have nx : pu_blank (pu_by8 B y) = true → z_Run X 2 mX10_look R 5 [(0, zr 46 0)] [] (z_s Mc 46 0 12 (Mc.1 46 0 12 + 1)) := by
      intro hp
      rw [run_1 hp] at e
      exact ih (y + 1) _ (by omega) e (hF.s46 (by decide)) (by rw [z_gs, if_pos ⟨rfl, rfl, rfl⟩, h12, nI_1])
    refine z_go_run KX10_look [(5, [0]), (57, [0])] 80 ?_
    refine ⟨fun q => ?_, fun q => ?_⟩
    · rw [h12, (Te_F hT hF).2.1] at q
      exact absurd q (nI_ge (by omega) (by omega))
    · refine ⟨hv, ?_⟩
      refine ⟨fun g => ?_, fun g => ?_⟩ <;> rw [et] at g
      · exact nx (decide_eq_true (Or.inl g))
      · refine ⟨hv, ?_⟩
        refine ⟨fun g2 => ?_, fun g2 => ?_⟩ <;> rw [et] at g2
        · have hp : ¬ pu_blank (pu_by8 B y) = true := fun w => (of_decide_eq_true w).elim g g2
          rw [run_0 hp] at e
          obtain rfl : y = f := e
          exact hk Mc hF h12
        · exact nx (decide_eq_true (Or.inr g2))
theorem lB_look {X : z_Cx} (M : z_M) (B : Nat → Int32) (len f : Nat) (hT : z_Te B len M) : ∀ (u y : Nat) (Mc : z_M), y + u = len → f ≤ y → z_Fm [12, 13, 14, 15] [] M Mc → Mc.1 46 0 12 = nI f → Mc.1 46 0 13 = nI (y - f) → Mc.1 46 0 14 = 1 → z_Run X 2 mX10_look (fun _ M' => z_Fm [12, 13, 14, 15] [] M M' ∧ z_mtk M' (f, pu_run pu_let B u y, 1, 0)) 142 [(0, zr 46 0)] [] Mc := by
  have hl6 := hT.1
  intro u
  induction u with
  | zero =>
    intro y Mc hy hf hF h12 h13 h14
    have es : Mc.1 46 0 12 + Mc.1 46 0 13 = nI y := by rw [h12, h13, nI_add, show f + (y - f) = y by omega]
    refine z_go_run KX10_look [(142, [0])] 80 ?_
    refine ⟨fun _ => ⟨hF, h12, h13, h14, fun w => absurd (show (1 : Int32) = 2 from w) (by decide)⟩, fun q => ?_⟩
    rw [es, (Te_F hT hF).2.1] at q
    exact absurd (nI_le (by omega) (by omega)) q
  | succ u ih =>
    intro y Mc hy hf hF h12 h13 h14
    have es : Mc.1 46 0 12 + Mc.1 46 0 13 = nI y := by rw [h12, h13, nI_add, show f + (y - f) = y by omega]
    have et : Mc.1 50 0 (Mc.1 46 0 12 + Mc.1 46 0 13).toNatClampNeg = pu_by8 B y := by
      rw [es, nI_clamp (by omega)]
      exact (Te_F hT hF).2.2 y (by omega)
    refine z_go_run KX10_look [(142, [0])] 80 ?_
    refine ⟨fun q => ?_, fun q => ?_⟩
    · rw [es, (Te_F hT hF).2.1] at q
      exact absurd q (nI_ge (by omega) (by omega))
    · refine ⟨by rw [es]; exact vp_in_nI (by omega) (by omega), ?_⟩
      refine z_uR (hX10_isSmall Mc _) (by decide) ?_
      refine ⟨fun g => ?_, fun g => ?_⟩ <;> rw [et] at g
      · have hp : ¬ pu_let (pu_by8 B y) = true := by rw [b2_0 g]; decide
        exact ⟨hF, h12, by rw [run_0 hp]; exact h13, h14, fun w => absurd (show (1 : Int32) = 2 from w) (by decide)⟩
      · have h3 := ih (y + 1) (z_s Mc 46 0 13 (Mc.1 46 0 13 + 1)) (by omega) (by omega) (hF.s46 (by decide)) (by rw [z_gs, if_neg (by omega)]; exact h12) (by rw [z_gs, if_pos ⟨rfl, rfl, rfl⟩, h13, nI_1, show y + 1 - f = y - f + 1 by omega]) (by rw [z_gs, if_neg (by omega)]; exact h14)
        rw [← run_1 (u := u) (b2_1 g)] at h3
        exact h3
