/-! ===== rules of the model's reader ===== -/
theorem m_word {X : z_Cx} {D : Nat} {M0 M : z_M} {B : Nat → Int32} {len : Nat} {fl : Int32} {s : z_Ps} {N : Nat → Int32} {S' : Int32 → z_M → Prop} (h : z_Pm M0 B len fl M s.tk N) (j : Nat) (hj : j < 10) (hd : 1 < D) (hk : S' (pu_b2 (s.is B j)) M) : z_Ca X D mX10_isWord [zr 46 0, zi (z_sb j 0), zi (z_sb j 1), zi (z_sb j 2), zi (z_sb j 3), zi (z_sb j 4), zi (z_sb j 5)] M S' :=
  z_uR (hX10_isWord M B len s.tk h.2.1 h.2.2.2.2.1.1 h.2.2.2.2.1.2 h.2.2.2.1 j hj) hd hk
theorem Pm_wk {M0 M : z_M} {B : Nat → Int32} {len : Nat} {fl v : Int32} {s : z_Ps} {N : Nat → Int32} (f j : Nat) (h : z_Pm M0 B len fl M s.tk N) : z_Pm M0 B len fl M (s.w f j v).tk N := h
theorem ruleM274 {X : z_Cx} (M0 M : z_M) (B : Nat → Int32) (len : Nat) (fl : Int32) (s : z_Ps) (N : Nat → Int32) (r c : Nat) (p : Bool) (way : Int32) (o : z_Po) (Q : z_Ps → (Nat → Int32) → Prop) (hr : r < 4) (hc : c < 6) (h : z_Pm M0 B len fl M s.tk N) (hN : N (36 + 4 * r + 3) = nI c) (ho : o = pu_num B len 1 9 (s.nx B len) fun v (s' : z_Ps) => pu_semi B len ((s'.w 10 (6 * r + c) (way * v)).w 6 r (nI (c + 1)))) (hQ : ∀ v : Int32, 1 ≤ v ∧ v ≤ 9 → Q ((((((s.nx B len).nx B len).w 10 (6 * r + c) (way * v)).w 6 r (nI (c + 1)))).nx B len) (pu_nw (pu_nw (pu_nw N (52 + 30 * r + 5 * c + 3) (pu_b2 p)) (52 + 30 * r + 5 * c + 4) v) (36 + 4 * r + 3) (nI (c + 1)))) : z_Run X 5 mX10_readRule (fun v M' => (v = 0 ∨ v = 1) ∧ z_Om M0 B len fl v M' o Q) 274 [(0, zr 46 0), (1, zi (nI r)), (3, zi (nI (52 + 30 * r + 5 * c))), (6, zi (pu_b2 p))] [] M := by
  have i3 : (nI (52 + 30 * r + 5 * c) + 3).toNatClampNeg = 52 + 30 * r + 5 * c + 3 := by
    rw [show nI (52 + 30 * r + 5 * c) + 3 = nI (52 + 30 * r + 5 * c + 3) from nI_add _ 3]
    exact nI_clamp (by omega)
  have v3 : vp_in (nI (52 + 30 * r + 5 * c) + 3) 479 := by
    rw [show nI (52 + 30 * r + 5 * c) + 3 = nI (52 + 30 * r + 5 * c + 3) from nI_add _ 3]
    exact vp_in_nI (by omega) (by omega)
  have i4 : (nI (52 + 30 * r + 5 * c) + 4).toNatClampNeg = 52 + 30 * r + 5 * c + 4 := by
    rw [show nI (52 + 30 * r + 5 * c) + 4 = nI (52 + 30 * r + 5 * c + 4) from nI_add _ 4]
    exact nI_clamp (by omega)
  have v4 : vp_in (nI (52 + 30 * r + 5 * c) + 4) 479 := by
    rw [show nI (52 + 30 * r + 5 * c) + 4 = nI (52 + 30 * r + 5 * c + 4) from nI_add _ 4]
    exact vp_in_nI (by omega) (by omega)
  have ir : (36 + 4 * nI r + 3).toNatClampNeg = 36 + 4 * r + 3 := by
    rw [show 36 + 4 * nI r + 3 = nI (36 + 4 * r + 3) from ixr r 3]
    exact nI_clamp (by omega)
  have vr : vp_in (36 + 4 * nI r + 3) 479 := by
    rw [show 36 + 4 * nI r + 3 = nI (36 + 4 * r + 3) from ixr r 3]
    exact vp_in_nI (by omega) (by omega)
  have go : ∀ M1, z_Pm M0 B len fl M1 s.tk (pu_nw N (52 + 30 * r + 5 * c + 3) (pu_b2 p)) → z_Run X 5 mX10_readRule (fun v M' => (v = 0 ∨ v = 1) ∧ z_Om M0 B len fl v M' o Q) 292 [(0, zr 46 0), (1, zi (nI r)), (3, zi (nI (52 + 30 * r + 5 * c)))] [] M1 := by
    intro M1 q1
    refine z_go_run KX10_readRule [] 80 ?_
    refine m_next q1 (by decide) (fun _ M2 q2 => ?_)
    refine m_num ho q2 (by decide) (fun M' e s' e1 e2 => ⟨fun w => absurd rfl w, fun _ => ⟨Or.inl rfl, Or.inl rfl, Om_no e1 e2⟩⟩) (fun M3 v ev hv ho3 q3 => ?_)
    refine ⟨fun _ => ?_, fun w => absurd w (by decide)⟩
    refine ⟨v4, ?_⟩
    have Q1 := Pm_w (52 + 30 * r + 5 * c + 4) i4 ev q3
    have er := congrFun (Pm_r Q1) (36 + 4 * nI r + 3).toNatClampNeg
    rw [ir, nw_o (by omega), nw_o (by omega), hN] at er
    have er2 : (z_s M3 47 (M3.2.2 46 1).toNat (nI (52 + 30 * r + 5 * c) + 4).toNatClampNeg (M3.1 46 0 17)).1 47 ((z_s M3 47 (M3.2.2 46 1).toNat (nI (52 + 30 * r + 5 * c) + 4).toNatClampNeg (M3.1 46 0 17)).2.2 46 1).toNat (36 + 4 * nI r + 3).toNatClampNeg + 1 = nI (c + 1) := by
      rw [ir, er, nI_1]
    have Q2 := Pm_wk (v := nI (c + 1)) 6 r (Pm_wk (v := way * v) 10 (6 * r + c) (Pm_w (36 + 4 * r + 3) ir er2 Q1))
    refine ⟨vr, vr, ?_⟩
    exact z_use (hX10_readStop M0 _ B len fl _ _ Q2) (by decide) (fun v' M' q => ⟨q.1, q.1, Om_to ho3 q.2 (fun s' N' a => by
      rw [a.1, a.2]
      exact hQ v hv)⟩)
  refine z_go_run KX10_readRule [(292, [0, 1, 3])] 80 ?_
  refine ⟨fun g => ?_, fun g => ?_⟩
  · refine ⟨v3, go _ ?_⟩
    exact Pm_w (52 + 30 * r + 5 * c + 3) i3 (by rw [b2_0 g]; rfl) h
  · refine ⟨v3, go _ ?_⟩
    exact Pm_w (52 + 30 * r + 5 * c + 3) i3 (by rw [b2_1 g]; rfl) h
