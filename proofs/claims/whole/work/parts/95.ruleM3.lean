/-! ===== a rule, read by the model ===== -/
/-- what a rule has written: the draft's rows, the spare row -/
def z_Qr (s : z_Ps) (N : Nat → Int32) (r c : Nat) (s' : z_Ps) (N' : Nat → Int32) : Prop := ∃ (what n st : Int32) (a p : Bool), (what = 0 ∨ what = 1 ∨ what = 2) ∧ (0 ≤ n ∧ n ≤ 999) ∧ (1 ≤ st ∧ st ≤ 9) ∧ s'.2 = (((((s.w 7 (6 * r + c) what).w 8 (6 * r + c) (pu_b2 a)).w 9 (6 * r + c) n).w 10 (6 * r + c) ((if p = true then 1 else -1) * st)).w 6 r (nI (c + 1))).2 ∧ N' = pu_nw (pu_nw (pu_nw (pu_nw (pu_nw (pu_nw N (52 + 30 * r + 5 * c + 0) what) (52 + 30 * r + 5 * c + 1) (pu_b2 a)) (52 + 30 * r + 5 * c + 2) n) (52 + 30 * r + 5 * c + 3) (pu_b2 p)) (52 + 30 * r + 5 * c + 4) st) (36 + 4 * r + 3) (nI (c + 1))
theorem ruleM123 {X : z_Cx} (M0 M : z_M) (B : Nat → Int32) (len : Nat) (fl : Int32) (s s0 : z_Ps) (N : Nat → Int32) (r c : Nat) (what : Int32) (o : z_Po) (hw : what = 0 ∨ what = 1 ∨ what = 2) (hs : s.2 = s0.2) (hr : r < 4) (hc : c < 6) (h : z_Pm M0 B len fl M s.tk N) (hN : N (36 + 4 * r + 3) = nI c) (ho : o = pu_ruleB B len r c what ((s.w 7 (6 * r + c) what).nx B len)) : z_Run X 5 mX10_readRule (fun v M' => (v = 0 ∨ v = 1) ∧ z_Om M0 B len fl v M' o (z_Qr s0 N r c)) 123 [(0, zr 46 0), (1, zi (nI r)), (3, zi (nI (52 + 30 * r + 5 * c))), (4, zi what)] [] M := by
  unfold pu_ruleB at ho
  have i0 : (nI (52 + 30 * r + 5 * c) + 0).toNatClampNeg = 52 + 30 * r + 5 * c + 0 := by
    rw [show nI (52 + 30 * r + 5 * c) + 0 = nI (52 + 30 * r + 5 * c + 0) from nI_add _ 0]
    exact nI_clamp (by omega)
  have v0 : vp_in (nI (52 + 30 * r + 5 * c) + 0) 479 := by
    rw [show nI (52 + 30 * r + 5 * c) + 0 = nI (52 + 30 * r + 5 * c + 0) from nI_add _ 0]
    exact vp_in_nI (by omega) (by omega)
  refine z_go_run KX10_readRule [(183, [0, 1, 3, 5])] 100 ?_
  refine ⟨v0, ?_⟩
  have Q0 := Pm_ws (w := what) 7 (6 * r + c) (52 + 30 * r + 5 * c + 0) i0 rfl h
  refine m_next Q0 (by decide) (fun _ M1 q1 => ?_)
  have hN1 : pu_nw N (52 + 30 * r + 5 * c + 0) what (36 + 4 * r + 3) = nI c := by
    rw [nw_o (by omega), hN]
  have q2 : z_Pm M0 B len fl M1 ((s.w 7 (6 * r + c) what).nx B len).tk (pu_nw N (52 + 30 * r + 5 * c + 0) what) := q1
  have e2 : ((s.w 7 (6 * r + c) what).nx B len).2 = (s0.w 7 (6 * r + c) what).2 := by
    show (s.w 7 (6 * r + c) what).2 = _
    unfold z_Ps.w z_Ps.m z_Ps.r z_Ps.b z_Ps.V
    rw [hs]
  generalize (s.w 7 (6 * r + c) what).nx B len = S at *
  have fin : (S.is B 6 = true ∨ S.is B 7 = true) → z_Run X 5 mX10_readRule (fun v M' => (v = 0 ∨ v = 1) ∧ z_Om M0 B len fl v M' o (z_Qr s0 N r c)) 183 [(0, zr 46 0), (1, zi (nI r)), (3, zi (nI (52 + 30 * r + 5 * c))), (5, zi (pu_b2 (S.is B 6)))] [] M1 := by
    intro hw2
    have ho2 := ho.trans (if_pos hw2)
    refine ruleM183 M0 M1 B len fl _ _ r c (S.is B 6) what _ o _ hr hc (Pm_wk 8 (6 * r + c) q2) hN1 ho2 (fun n st p s' hn hst es => ?_)
    refine ⟨what, n, st, S.is B 6, p, hw, hn, hst, ?_, rfl⟩
    rw [es]
    have eb : (if S.is B 6 = true then (1 : Int32) else 0) = pu_b2 (S.is B 6) := by
      cases S.is B 6 <;> rfl
    rw [eb]
    unfold z_Ps.w z_Ps.m z_Ps.r z_Ps.b z_Ps.V
    rw [e2]
    rfl
  refine m_word q2 6 (by decide) (by decide) ?_
  refine ⟨fun g => fin (Or.inl (b2_1 g)), fun g => ?_⟩
  refine m_word q2 7 (by decide) (by decide) ?_
  refine ⟨fun g2 => fin (Or.inr (b2_1 g2)), fun g2 => ?_⟩
  have ho2 := ho.trans (if_neg (by rw [b2_0 g, b2_0 g2]; decide))
  refine z_uW (hX10_faulty _ 1) (by decide) ?_
  exact ⟨Or.inl rfl, Or.inl rfl, Om_no ho2 (Pm_wk 8 (6 * r + c) (Pm_fl q2))⟩
theorem hX10_readRule {X : z_Cx} (M0 M : z_M) (B : Nat → Int32) (len : Nat) (fl : Int32) (s : z_Ps) (N : Nat → Int32) (h : z_Pm M0 B len fl M s.tk N) (r : Nat) (er : s.r - 1 = r) (hr : r < 4) (c : Nat) (hc : c ≤ 6) (hV : s.V 6 r = nI c) (hN : N (36 + 4 * r + 3) = nI c) : z_Con X 5 mX10_readRule [zr 46 0, zi (nI r)] M (fun v M' => (v = 0 ∨ v = 1) ∧ z_Om M0 B len fl v M' (pu_ruleP B len s) (z_Qr s N r c)) := by
  generalize ho : pu_ruleP B len s = o
  unfold pu_ruleP at ho
  rw [er, hV, nI_clamp (by omega)] at ho
  have ir : (36 + 4 * nI r + 3).toNatClampNeg = 36 + 4 * r + 3 := by
    rw [show 36 + 4 * nI r + 3 = nI (36 + 4 * r + 3) from ixr r 3]
    exact nI_clamp (by omega)
  have vr : vp_in (36 + 4 * nI r + 3) 479 := by
    rw [show 36 + 4 * nI r + 3 = nI (36 + 4 * r + 3) from ixr r 3]
    exact vp_in_nI (by omega) (by omega)
  have el : M.1 47 (M.2.2 46 1).toNat (36 + 4 * nI r + 3).toNatClampNeg = nI c := by
    rw [Pm_r h, ir]
    exact hN
  refine z_mg KX10_readRule [(38, [0, 1, 3])] 60 (by decide +kernel) rfl ?_
  refine ⟨vr, ?_⟩
  refine ⟨fun g => ?_, fun g => ?_⟩ <;> rw [el] at g
  · have hc6 : c < 6 := Classical.byContradiction (fun w => g (by rw [show c = 6 by omega]; rfl))
    rw [if_pos (show nI c < 6 from nI_lt (b := 6) hc6 (by omega))] at ho
    unfold pu_ruleA at ho
    have ex : 52 + 30 * nI r + 5 * M.1 47 (M.2.2 46 1).toNat (36 + 4 * nI r + 3).toNatClampNeg = nI (52 + 30 * r + 5 * c) := by
      rw [el]
      show nI 52 + nI 30 * nI r + nI 5 * nI c = _
      rw [pk_mul, pk_mul, nI_add, nI_add]
    have go : z_Run X 5 mX10_readRule (fun v M' => (v = 0 ∨ v = 1) ∧ z_Om M0 B len fl v M' o (z_Qr s N r c)) 38 [(0, zr 46 0), (1, zi (nI r)), (3, zi (nI (52 + 30 * r + 5 * c)))] [] M := by
      refine z_go_run KX10_readRule [(123, [0, 1, 3, 4])] 100 ?_
      refine m_next h (by decide) (fun _ M1 q1 => ?_)
      have q2 : z_Pm M0 B len fl M1 (s.nx B len).tk N := q1
      have hs : (s.nx B len).2 = s.2 := rfl
      generalize s.nx B len = S at *
      refine m_word q2 4 (by decide) (by decide) ?_
      refine ⟨fun g1 => ?_, fun g1 => ?_⟩
      · rw [if_neg (by rw [b2_0 g1]; decide)] at ho
        refine m_word q2 5 (by decide) (by decide) ?_
        refine ⟨fun g2 => ?_, fun g2 => ?_⟩
        · rw [if_neg (by rw [b2_0 g2]; decide)] at ho
          refine m_word q2 0 (by decide) (by decide) ?_
          refine ⟨fun g3 => ?_, fun g3 => ?_⟩
          · rw [if_neg (by rw [b2_0 g3]; decide)] at ho
            refine ⟨fun w => absurd rfl w, fun _ => ?_⟩
            refine z_uW (hX10_faulty _ 1) (by decide) ?_
            exact ⟨Or.inl rfl, Or.inl rfl, Om_no ho.symm (Pm_fl q2)⟩
          · rw [if_pos (b2_1 g3)] at ho
            refine ⟨fun _ => ?_, fun w => absurd w (by decide)⟩
            exact ruleM123 M0 M1 B len fl S s N r c 2 o (Or.inr (Or.inr rfl)) hs hr hc6 q2 hN ho.symm
        · rw [if_pos (b2_1 g2)] at ho
          refine ⟨fun _ => ?_, fun w => absurd w (by decide)⟩
          exact ruleM123 M0 M1 B len fl S s N r c 1 o (Or.inr (Or.inl rfl)) hs hr hc6 q2 hN ho.symm
      · rw [if_pos (b2_1 g1)] at ho
        refine ⟨fun _ => ?_, fun w => absurd w (by decide)⟩
        exact ruleM123 M0 M1 B len fl S s N r c 0 o (Or.inl rfl) hs hr hc6 q2 hN ho.symm
    exact z_Run.eq go (by rw [ex]) rfl
  · have g2 : c = 6 := (nI_eq (b := 6) (by omega) (by omega)).1 g
    rw [if_neg (by rw [g2]; decide)] at ho
    refine z_uW (hX10_faulty M 3) (by decide) ?_
    exact ⟨Or.inl rfl, Or.inl rfl, Om_no ho.symm (Pm_fl h)⟩
