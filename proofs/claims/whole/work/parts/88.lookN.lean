/-! ===== tokens of the model: numbers, all ===== -/
theorem fa_0 {B : Nat → Int32} {len y : Nat} (h : pu_fa B len y = false) : y = len ∨ len < y ∨ ¬ pu_fig (pu_by8 B y) = true := by
  unfold pu_fa at h
  by_cases a : y < len
  · rw [decide_eq_true a, Bool.true_and] at h
    exact Or.inr (Or.inr (by rw [h]; decide))
  · omega
theorem fa_1 {B : Nat → Int32} {len y : Nat} (h : pu_fa B len y = true) : y < len ∧ pu_fig (pu_by8 B y) = true := by
  unfold pu_fa at h
  by_cases a : y < len
  · rw [decide_eq_true a, Bool.true_and] at h
    exact ⟨a, h⟩
  · rw [decide_eq_false a, Bool.false_and] at h
    exact absurd h (by decide)
theorem lC_look {X : z_Cx} (M : z_M) (B : Nat → Int32) (len f g : Nat) (l : Bool) (hT : z_Te B len M) (hgf : f ≤ g) {R : Int32 → z_M → Prop} (y' : Nat) (w : Int32) (hk : ∀ Mc, z_Fm [12, 13, 14, 15] [] M Mc → Mc.1 46 0 12 = nI f → Mc.1 46 0 13 = nI (y' - f) → Mc.1 46 0 15 = w → z_Run X 2 mX10_look R 319 [(0, zr 46 0), (2, zi (pu_b2 l)), (3, zi (nI g))] [] Mc) : ∀ (u y : Nat) (s : Int32) (Mc : z_M), y + u = len → g ≤ y → pu_nu B g u y s = (y', w) → z_Fm [12, 13, 14, 15] [] M Mc → Mc.1 46 0 12 = nI f → Mc.1 46 0 13 = nI (y - f) → Mc.1 46 0 15 = s → z_Run X 2 mX10_look R 239 [(0, zr 46 0), (2, zi (pu_b2 l)), (3, zi (nI g))] [] Mc := by
  have hl6 := hT.1
  intro u
  induction u with
  | zero =>
    intro y s Mc hy hg e hF h12 h13 h15
    obtain ⟨rfl, rfl⟩ := Prod.mk.inj e
    have es : Mc.1 46 0 12 + Mc.1 46 0 13 = nI y := by rw [h12, h13, nI_add, show f + (y - f) = y by omega]
    have hc : z_Con X 1 mX10_isFigureAt [zr 46 0, zi (Mc.1 46 0 12 + Mc.1 46 0 13)] Mc (fun v M' => M' = Mc ∧ v = 0) := by
      rw [es]
      refine (hX10_isFigureAt Mc B len y (Te_F hT hF) (by omega)).to ?_
      unfold pu_fa
      rw [decide_eq_false (by omega)]
      rfl
    refine z_go_run KX10_look [(239, [0, 2, 3]), (319, [0, 2, 3])] 80 ?_
    refine z_uR hc (by decide) ?_
    exact ⟨fun _ => hk Mc hF h12 h13 h15, fun q => absurd rfl q⟩
  | succ u ih =>
    intro y s Mc hy hg e hF h12 h13 h15
    have es : Mc.1 46 0 12 + Mc.1 46 0 13 = nI y := by rw [h12, h13, nI_add, show f + (y - f) = y by omega]
    have hc : z_Con X 1 mX10_isFigureAt [zr 46 0, zi (Mc.1 46 0 12 + Mc.1 46 0 13)] Mc (fun v M' => M' = Mc ∧ v = pu_b2 (pu_fig (pu_by8 B y))) := by
      rw [es]
      refine (hX10_isFigureAt Mc B len y (Te_F hT hF) (by omega)).to ?_
      unfold pu_fa
      rw [decide_eq_true (show y < len by omega), Bool.true_and]
    have et : Mc.1 50 0 (Mc.1 46 0 12 + Mc.1 46 0 13).toNatClampNeg = pu_by8 B y := by
      rw [es, nI_clamp (by omega)]
      exact (Te_F hT hF).2.2 y (by omega)
    have eg : nI g + 3 = nI (g + 3) := nI_add g 3
    refine z_go_run KX10_look [(239, [0, 2, 3]), (319, [0, 2, 3])] 80 ?_
    refine z_uR hc (by decide) ?_
    refine ⟨fun q => ?_, fun q => ?_⟩
    · have hp : ¬ pu_fig (pu_by8 B y) = true := by rw [b2_0 q]; decide
      rw [nu_0 hp] at e
      obtain ⟨rfl, rfl⟩ := Prod.mk.inj e
      exact hk Mc hF h12 h13 h15
    · rw [nu_1 (b2_1 q)] at e
      have nx : ∀ s' : Int32, s' = (if y - g < 3 then s * 10 + pu_by8 B y - 48 else s) → z_Run X 2 mX10_look R 239 [(0, zr 46 0), (2, zi (pu_b2 l)), (3, zi (nI g))] [] (z_s (z_s Mc 46 0 15 s') 46 0 13 ((z_s Mc 46 0 15 s').1 46 0 13 + 1)) := by
        intro s' e'
        refine ih (y + 1) _ _ (by omega) (by omega) e ((hF.s46 (by decide)).s46 (by decide)) ?_ ?_ ?_
        · rw [z_gs, if_neg (by omega), z_gs, if_neg (by omega)]; exact h12
        · rw [z_gs, if_pos ⟨rfl, rfl, rfl⟩, z_gs, if_neg (by omega), h13, nI_1, show y + 1 - f = y - f + 1 by omega]
        · rw [z_gs, if_neg (by omega), z_gs, if_pos ⟨rfl, rfl, rfl⟩]; exact e'
      refine ⟨fun g3 => ?_, fun g3 => ?_⟩ <;> rw [es, eg, nI_leI (by omega) (by omega)] at g3
      · exact nx _ (by rw [if_neg (by omega)]; exact h15)
      · refine ⟨by rw [es]; exact vp_in_nI (by omega) (by omega), ?_⟩
        exact nx _ (by rw [if_pos (by omega), et, h15, Int32.mul_comm])
theorem look122 {X : z_Cx} (M : z_M) (B : Nat → Int32) (len f : Nat) (hT : z_Te B len M) (hf : f < len) (Mc : z_M) (hF : z_Fm [12, 13, 14, 15] [] M Mc) (h12 : Mc.1 46 0 12 = nI f) (h13 : Mc.1 46 0 13 = 1) (h15 : Mc.1 46 0 15 = 0) (l : Bool) (hl : l = (decide (pu_by8 B f = 45) && pu_fa B len (f + 1))) : z_Run X 2 mX10_look (fun _ M' => z_Fm [12, 13, 14, 15] [] M M' ∧ z_mtk M' (pu_tok2 B len f)) 122 [(0, zr 46 0), (2, zi (pu_b2 l))] [] Mc := by
  have hl6 := hT.1
  have hTc := Te_F hT hF
  have hv : vp_in (Mc.1 46 0 12) 600 := by
    rw [h12]
    exact vp_in_nI (by omega) (by omega)
  have et : Mc.1 50 0 (Mc.1 46 0 12).toNatClampNeg = pu_by8 B f := by
    rw [h12, nI_clamp (by omega)]
    exact hTc.2.2 f hf
  have tk := tok2_3 (B := B) (len := len) (f := f) (by omega)
  unfold pu_tok3 at tk
  refine z_go_run KX10_look [(142, [0]), (206, [0, 2]), (366, [0])] 80 ?_
  refine ⟨hv, ?_⟩
  refine z_uR (hX10_isSmall Mc _) (by decide) ?_
  refine ⟨fun g => ?_, fun g => ?_⟩ <;> rw [et] at g
  · have hp : ¬ pu_let (pu_by8 B f) = true := by rw [b2_0 g]; decide
    rw [if_neg hp] at tk
    have num : (l = true ∨ pu_fa B len f = true) → z_Run X 2 mX10_look (fun _ M' => z_Fm [12, 13, 14, 15] [] M M' ∧ z_mtk M' (pu_tok2 B len f)) 206 [(0, zr 46 0), (2, zi (pu_b2 l))] [] Mc := by
      intro hn
      have hg1 : l.toNat ≤ 1 := by cases l <;> decide
      have T : f + l.toNat ≤ len ∧ pu_tok2 B len f = (f, (pu_nu B (f + l.toNat) (len - (f + l.toNat)) (f + l.toNat) 0).1, (if (pu_nu B (f + l.toNat) (len - (f + l.toNat)) (f + l.toNat) 0).1 - (f + l.toNat) ≤ 3 then 2 else 4), (if l = true then -(pu_nu B (f + l.toNat) (len - (f + l.toNat)) (f + l.toNat) 0).2 else (pu_nu B (f + l.toNat) (len - (f + l.toNat)) (f + l.toNat) 0).2)) := by
        cases l with
        | true =>
          have h2 := Bool.and_eq_true_iff.1 hl.symm
          have w := of_decide_eq_true h2.1
          have f1 := fa_1 h2.2
          rw [if_pos w] at tk
          refine ⟨by show f + 1 ≤ len; omega, ?_⟩
          show pu_tok2 B len f = (f, (pu_nu B (f + 1) (len - (f + 1)) (f + 1) 0).1, (if (pu_nu B (f + 1) (len - (f + 1)) (f + 1) 0).1 - (f + 1) ≤ 3 then 2 else 4), -(pu_nu B (f + 1) (len - (f + 1)) (f + 1) 0).2)
          have en : pu_nu B (f + 1) (len - (f + 1)) (f + 1) 0 = pu_nu B (f + 1) (len - (f + 1 + 1)) (f + 1 + 1) (if f + 1 - (f + 1) < 3 then 0 * 10 + pu_by8 B (f + 1) - 48 else 0) := by
            rw [show len - (f + 1) = (len - (f + 1 + 1)) + 1 by omega]
            exact nu_1 f1.2
          have hb := nu_bd (B := B) (g := f + 1) (len - (f + 1 + 1)) (f + 1 + 1) (if f + 1 - (f + 1) < 3 then 0 * 10 + pu_by8 B (f + 1) - 48 else 0)
          rw [← en] at hb
          rw [tk]
          generalize pu_nu B (f + 1) (len - (f + 1)) (f + 1) 0 = q at *
          by_cases z : q.1 - (f + 1) ≤ 3
          · rw [if_pos z, if_pos ⟨by omega, z⟩]
          · rw [if_neg z, if_neg (fun a => z a.2)]
        | false =>
          have f0 := fa_1 (hn.elim (fun w => absurd w (by decide)) (fun w => w))
          have hb := of_decide_eq_true f0.2
          have w : ¬ pu_by8 B f = 45 := by
            intro w
            rw [w] at hb
            exact absurd hb.1 (by decide)
          rw [if_neg w, if_pos f0.2] at tk
          exact ⟨by show f + 0 ≤ len; omega, tk⟩
      have hnb := nu_bd (B := B) (g := f + l.toNat) (len - (f + l.toNat)) (f + l.toNat) 0
      have go : ∀ Mx : z_M, z_Fm [12, 13, 14, 15] [] M Mx → Mx.1 46 0 12 = nI f → Mx.1 46 0 13 = nI (f + l.toNat - f) → Mx.1 46 0 15 = 0 → z_Run X 2 mX10_look (fun _ M' => z_Fm [12, 13, 14, 15] [] M M' ∧ z_mtk M' (pu_tok2 B len f)) 239 [(0, zr 46 0), (2, zi (pu_b2 l)), (3, zi (nI (f + l.toNat)))] [] Mx := by
        intro Mx xF x12 x13 x15
        refine lC_look M B len f (f + l.toNat) l hT (by omega) (pu_nu B (f + l.toNat) (len - (f + l.toNat)) (f + l.toNat) 0).1 (pu_nu B (f + l.toNat) (len - (f + l.toNat)) (f + l.toNat) 0).2 (fun My yF y12 y13 y15 => ?_) (len - (f + l.toNat)) (f + l.toNat) 0 Mx (by omega) (Nat.le_refl _) rfl xF x12 x13 x15
        have T2 := T.2
        have T1 := T.1
        generalize pu_nu B (f + l.toNat) (len - (f + l.toNat)) (f + l.toNat) 0 = q at *
        have es : My.1 46 0 12 + My.1 46 0 13 - nI (f + l.toNat) = nI (q.1 - (f + l.toNat)) := by
          rw [y12, y13, nI_add, show f + (q.1 - f) = q.1 by omega]
          exact pk_sub hnb.1
        have last : ∀ t v : Int32, t = (if q.1 - (f + l.toNat) ≤ 3 then 2 else 4) → v = (if l = true then -q.2 else q.2) → z_Fm [12, 13, 14, 15] [] M (z_s (z_s My 46 0 14 t) 46 0 15 v) ∧ z_mtk (z_s (z_s My 46 0 14 t) 46 0 15 v) (pu_tok2 B len f) := by
          intro t v e1 e2
          rw [T2]
          refine ⟨(yF.s46 (by decide)).s46 (by decide), ?_, ?_, ?_, fun _ => ?_⟩
          · rw [z_gs, if_neg (by omega), z_gs, if_neg (by omega)]; exact y12
          · rw [z_gs, if_neg (by omega), z_gs, if_neg (by omega)]; exact y13
          · rw [z_gs, if_neg (by omega), z_gs, if_pos ⟨rfl, rfl, rfl⟩]; exact e1
          · rw [z_gs, if_pos ⟨rfl, rfl, rfl⟩]; exact e2
        have ev : ∀ t : Int32, (z_s My 46 0 14 t).1 46 0 15 = q.2 := fun t => by rw [z_gs, if_neg (by omega)]; exact y15
        have two : ∀ t : Int32, t = (if q.1 - (f + l.toNat) ≤ 3 then 2 else 4) → z_Run X 2 mX10_look (fun _ M' => z_Fm [12, 13, 14, 15] [] M M' ∧ z_mtk M' (pu_tok2 B len f)) 343 [(0, zr 46 0), (2, zi (pu_b2 l))] [] (z_s My 46 0 14 t) := by
          intro t e1
          refine z_go_run KX10_look [] 80 ?_
          refine ⟨fun g2 => ?_, fun g2 => ?_⟩
          · exact last t _ e1 (by rw [ev, if_neg (by rw [b2_0 g2]; decide)])
          · exact last t _ e1 (by rw [ev, if_pos (b2_1 g2)])
        have a3 : nI (q.1 - (f + l.toNat)) ≤ 3 ↔ q.1 - (f + l.toNat) ≤ 3 := nI_leI (b := 3) (by omega) (by omega)
        refine z_go_run KX10_look [(343, [0, 2])] 80 ?_
        refine ⟨fun g2 => ?_, fun g2 => ?_⟩ <;> rw [es, a3] at g2
        · exact two 2 (by rw [if_pos g2])
        · exact two 4 (by rw [if_neg g2])
      have c12 : (z_s Mc 46 0 14 2).1 46 0 12 = nI f := by rw [z_gs, if_neg (by omega)]; exact h12
      have c15 : ∀ v : Int32, (z_s (z_s Mc 46 0 14 2) 46 0 13 v).1 46 0 15 = 0 := fun v => by rw [z_gs, if_neg (by omega), z_gs, if_neg (by omega)]; exact h15
      have cc : ∀ v : Int32, (z_s (z_s Mc 46 0 14 2) 46 0 13 v).1 46 0 12 = nI f := fun v => by rw [z_gs, if_neg (by omega)]; exact c12
      have fin : ∀ b : Int32, b = nI (f + l.toNat) → z_Run X 2 mX10_look (fun _ M' => z_Fm [12, 13, 14, 15] [] M M' ∧ z_mtk M' (pu_tok2 B len f)) 239 [(0, zr 46 0), (2, zi (pu_b2 l)), (3, zi b)] [] (z_s (z_s Mc 46 0 14 2) 46 0 13 (b - (z_s Mc 46 0 14 2).1 46 0 12)) := by
        intro b eb
        rw [eb]
        refine go _ ((hF.s46 (by decide)).s46 (by decide)) (cc _) ?_ (c15 _)
        rw [z_gs, if_pos ⟨rfl, rfl, rfl⟩, c12]
        exact pk_sub (by omega)
      refine z_go_run KX10_look [(239, [0, 2, 3])] 80 ?_
      refine ⟨fun g2 => ?_, fun g2 => ?_⟩
      · exact fin _ (by rw [c12, b2_0 g2]; rfl)
      · exact fin _ (by rw [c12, nI_1, b2_1 g2]; rfl)
    have oth : l = false → pu_fa B len f = false → z_Run X 2 mX10_look (fun _ M' => z_Fm [12, 13, 14, 15] [] M M' ∧ z_mtk M' (pu_tok2 B len f)) 366 [(0, zr 46 0)] [] Mc := by
      intro l0 f0
      have hp2 : ¬ pu_fig (pu_by8 B f) = true := (fa_0 f0).elim (fun w => by omega) (fun w => w.elim (fun w => by omega) (fun w => w))
      have tk2 : pu_tok2 B len f = (f, f + 1, (if pu_by8 B f = 59 then 3 else 4), (pu_tok2 B len f).2.2.2) ∧ (pu_tok2 B len f).2.2.1 ≠ 2 := by
        by_cases w : pu_by8 B f = 45
        · rw [if_pos w] at tk
          have f1 : pu_fa B len (f + 1) = false := by
            rw [decide_eq_true w, Bool.true_and] at hl
            exact hl.symm.trans l0
          have en : pu_nu B (f + 1) (len - (f + 1)) (f + 1) 0 = (f + 1, 0) := by
            by_cases z : f + 1 = len
            · rw [show len - (f + 1) = 0 by omega]
              rfl
            · rw [show len - (f + 1) = (len - (f + 1 + 1)) + 1 by omega]
              exact nu_0 ((fa_0 f1).elim (fun w => absurd w z) (fun w => w.elim (fun w => by omega) (fun w => w)))
          rw [en, if_neg (by omega)] at tk
          rw [tk, w]
          exact ⟨rfl, show (4 : Int32) ≠ 2 by decide⟩
        · rw [if_neg w, if_neg hp2] at tk
          rw [tk]
          refine ⟨rfl, ?_⟩
          dsimp only
          split <;> decide
      refine z_go_run KX10_look [] 80 ?_
      refine ⟨hv, ?_⟩
      have fin : ∀ t : Int32, t = (if pu_by8 B f = 59 then 3 else 4) → z_Fm [12, 13, 14, 15] [] M (z_s Mc 46 0 14 t) ∧ z_mtk (z_s Mc 46 0 14 t) (pu_tok2 B len f) := by
        intro t e
        refine ⟨hF.s46 (by decide), ?_, ?_, ?_, fun w => absurd w tk2.2⟩
        · rw [tk2.1, z_gs, if_neg (by omega)]
          exact h12
        · rw [tk2.1, z_gs, if_neg (by omega), h13]
          show (1 : Int32) = nI (f + 1 - f)
          rw [show f + 1 - f = 1 by omega]
          rfl
        · rw [tk2.1, z_gs, if_pos ⟨rfl, rfl, rfl⟩]
          exact e
      refine ⟨fun g2 => ?_, fun g2 => ?_⟩ <;> rw [et] at g2
      · exact fin 4 (by rw [if_neg g2])
      · exact fin 3 (by rw [if_pos g2])
    refine ⟨fun g2 => num (Or.inl (b2_1 g2)), fun g2 => ?_⟩
    have hc : z_Con X 1 mX10_isFigureAt [zr 46 0, zi (Mc.1 46 0 12)] Mc (fun v M' => M' = Mc ∧ v = pu_b2 (pu_fa B len f)) := by
      rw [h12]
      exact hX10_isFigureAt Mc B len f hTc (by omega)
    refine z_uR hc (by decide) ?_
    exact ⟨fun g3 => oth (b2_0 g2) (b2_0 g3), fun g3 => num (Or.inr (b2_1 g3))⟩
  · rw [if_pos (b2_1 g)] at tk
    have h3 := lB_look (X := X) M B len f hT (len - (f + 1)) (f + 1) (z_s Mc 46 0 14 1) (by omega) (by omega) (hF.s46 (by decide)) (by rw [z_gs, if_neg (by omega)]; exact h12) (by rw [z_gs, if_neg (by omega), h13, show f + 1 - f = 1 by omega]; rfl) (by rw [z_gs, if_pos ⟨rfl, rfl, rfl⟩])
    rw [← run_1 (u := len - (f + 1)) (b2_1 g), show len - (f + 1) + 1 = len - f by omega, ← tk] at h3
    exact h3
