/-! ===== rules of the model's reader, all ===== -/
theorem ruleM183 {X : z_Cx} (M0 M : z_M) (B : Nat → Int32) (len : Nat) (fl : Int32) (s : z_Ps) (N : Nat → Int32) (r c : Nat) (a : Bool) (what side : Int32) (o : z_Po) (Q : z_Ps → (Nat → Int32) → Prop) (hr : r < 4) (hc : c < 6) (h : z_Pm M0 B len fl M s.tk N) (hN : N (36 + 4 * r + 3) = nI c) (ho : o = pu_ruleC B len r c what side s) (hQ : ∀ (n st : Int32) (p : Bool) (s' : z_Ps), (0 ≤ n ∧ n ≤ 999) → (1 ≤ st ∧ st ≤ 9) → s'.2 = (((s.w 9 (6 * r + c) n).w 10 (6 * r + c) ((if p = true then 1 else -1) * st)).w 6 r (nI (c + 1))).2 → Q s' (pu_nw (pu_nw (pu_nw (pu_nw (pu_nw N (52 + 30 * r + 5 * c + 1) (pu_b2 a)) (52 + 30 * r + 5 * c + 2) n) (52 + 30 * r + 5 * c + 3) (pu_b2 p)) (52 + 30 * r + 5 * c + 4) st) (36 + 4 * r + 3) (nI (c + 1)))) : z_Run X 5 mX10_readRule (fun v M' => (v = 0 ∨ v = 1) ∧ z_Om M0 B len fl v M' o Q) 183 [(0, zr 46 0), (1, zi (nI r)), (3, zi (nI (52 + 30 * r + 5 * c))), (5, zi (pu_b2 a))] [] M := by
  unfold pu_ruleC at ho
  have ix : ∀ (k : Nat) (x : Int32), x = nI k → k < 5 → (nI (52 + 30 * r + 5 * c) + x).toNatClampNeg = 52 + 30 * r + 5 * c + k ∧ vp_in (nI (52 + 30 * r + 5 * c) + x) 479 := by
    intro k x ex hk
    rw [ex, nI_add]
    exact ⟨nI_clamp (by omega), vp_in_nI (by omega) (by omega)⟩
  have i1 := ix 1 1 rfl (by decide)
  have i2 := ix 2 2 rfl (by decide)
  have go : ∀ M1, z_Pm M0 B len fl M1 s.tk (pu_nw N (52 + 30 * r + 5 * c + 1) (pu_b2 a)) → z_Run X 5 mX10_readRule (fun v M' => (v = 0 ∨ v = 1) ∧ z_Om M0 B len fl v M' o Q) 201 [(0, zr 46 0), (1, zi (nI r)), (3, zi (nI (52 + 30 * r + 5 * c)))] [] M1 := by
    intro M1 q1
    refine z_go_run KX10_readRule [(274, [0, 1, 3, 6])] 100 ?_
    refine m_next q1 (by decide) (fun _ M2 q2 => ?_)
    refine m_num ho q2 (by decide) (fun M' e s' e1 e2 => ⟨fun w => absurd rfl w, fun _ => ⟨Or.inl rfl, Or.inl rfl, Om_no e1 e2⟩⟩) (fun M3 n ev hn ho3 q3 => ?_)
    have e2 : (z_Ps.nx B len (z_Ps.nx B len s)).2 = s.2 := rfl
    generalize z_Ps.nx B len (z_Ps.nx B len s) = S at *
    refine ⟨fun _ => ?_, fun w => absurd w (by decide)⟩
    refine ⟨i2.2, ?_⟩
    have Q1 := Pm_ws 9 (6 * r + c) (52 + 30 * r + 5 * c + 2) i2.1 ev q3
    have hN2 : pu_nw (pu_nw N (52 + 30 * r + 5 * c + 1) (pu_b2 a)) (52 + 30 * r + 5 * c + 2) n (36 + 4 * r + 3) = nI c := by
      rw [nw_o (by omega), nw_o (by omega), hN]
    have fin : (S.is B 8 = true ∨ S.is B 9 = true) → z_Run X 5 mX10_readRule (fun v M' => (v = 0 ∨ v = 1) ∧ z_Om M0 B len fl v M' o Q) 274 [(0, zr 46 0), (1, zi (nI r)), (3, zi (nI (52 + 30 * r + 5 * c))), (6, zi (pu_b2 (S.is B 8)))] [] (z_s M3 47 (M3.2.2 46 1).toNat (nI (52 + 30 * r + 5 * c) + 2).toNatClampNeg (M3.1 46 0 17)) := by
      intro hw
      have ho4 := ho3.trans (if_pos hw)
      refine ruleM274 M0 _ B len fl _ _ r c (S.is B 8) _ o Q hr hc Q1 hN2 ho4 (fun v hv => ?_)
      refine hQ n v (S.is B 8) _ hn hv ?_
      show (((((S.w 9 (6 * r + c) n).w 10 (6 * r + c) ((if S.is B 8 = true then 1 else -1) * v)).w 6 r (nI (c + 1)))).2) = _
      unfold z_Ps.w z_Ps.m z_Ps.r z_Ps.b z_Ps.V
      rw [e2]
    refine m_word Q1 8 (by decide) (by decide) ?_
    refine ⟨fun g => ?_, fun g => ?_⟩
    · exact fin (Or.inl (b2_1 g))
    · refine m_word Q1 9 (by decide) (by decide) ?_
      refine ⟨fun g2 => fin (Or.inr (b2_1 g2)), fun g2 => ?_⟩
      have w8 : S.is B 8 = false := b2_0 g
      have w9 : S.is B 9 = false := b2_0 g2
      have ho4 := ho3.trans (if_neg (by rw [w8, w9]; decide))
      refine z_uW (hX10_faulty _ 1) (by decide) ?_
      exact ⟨Or.inl rfl, Or.inl rfl, Om_no ho4 (Pm_fl Q1)⟩
  refine z_go_run KX10_readRule [(201, [0, 1, 3])] 80 ?_
  refine ⟨fun g => ?_, fun g => ?_⟩
  · refine ⟨i1.2, go _ ?_⟩
    exact Pm_w (52 + 30 * r + 5 * c + 1) i1.1 (by rw [b2_0 g]; rfl) h
  · refine ⟨i1.2, go _ ?_⟩
    exact Pm_w (52 + 30 * r + 5 * c + 1) i1.1 (by rw [b2_1 g]; rfl) h
