/-! ===== miles and rabbits of the model's reader ===== -/
theorem Om_to {M0 M : z_M} {B : Nat → Int32} {len : Nat} {fl v : Int32} {o o' : z_Po} {Q Q' : z_Ps → (Nat → Int32) → Prop} (e : o = o') (h : z_Om M0 B len fl v M o' Q) (hQ : ∀ s N, Q s N → Q' s N) : z_Om M0 B len fl v M o Q' := by
  rw [e]
  rcases h with a | ⟨a, s, N, b, c, d⟩
  · exact Or.inl a
  · exact Or.inr ⟨a, s, N, b, c, hQ s N d⟩
theorem Om_no {M0 M : z_M} {B : Nat → Int32} {len : Nat} {fl e : Int32} {s : z_Ps} {N : Nat → Int32} {o : z_Po} {Q : z_Ps → (Nat → Int32) → Prop} (ho : o = .no e s) (h : z_Pm M0 B len e M s.tk N) : z_Om M0 B len fl 0 M o Q := Or.inl ⟨rfl, e, s, N, ho, h⟩
theorem nw_o {N : Nat → Int32} {i y : Nat} {v : Int32} (h : y ≠ i) : pu_nw N i v y = N y := if_neg h
theorem Pm_ws {M0 M : z_M} {B : Nat → Int32} {len : Nat} {fl x v w : Int32} {s : z_Ps} {N : Nat → Int32} (f j i : Nat) (hi : x.toNatClampNeg = i) (hv : w = v) (h : z_Pm M0 B len fl M s.tk N) : z_Pm M0 B len fl (z_s M 47 (M.2.2 46 1).toNat x.toNatClampNeg w) (s.w f j v).tk (pu_nw N i v) := Pm_w i hi hv h
theorem Pm_um {M0 M : z_M} {B : Nat → Int32} {len : Nat} {fl : Int32} {s : z_Ps} {N : Nat → Int32} (h : z_Pm M0 B len fl M s.tk N) : z_Pm M0 B len fl M s.um.tk N := h
theorem Pm_ur {M0 M : z_M} {B : Nat → Int32} {len : Nat} {fl : Int32} {s : z_Ps} {N : Nat → Int32} (h : z_Pm M0 B len fl M s.tk N) : z_Pm M0 B len fl M s.ur.tk N := h
theorem Pm_ub {M0 M : z_M} {B : Nat → Int32} {len : Nat} {fl : Int32} {s : z_Ps} {N : Nat → Int32} (h : z_Pm M0 B len fl M s.tk N) : z_Pm M0 B len fl M s.ub.tk N := h
theorem hX10_readMile {X : z_Cx} (M0 M : z_M) (B : Nat → Int32) (len : Nat) (fl : Int32) (s : z_Ps) (N : Nat → Int32) (h : z_Pm M0 B len fl M s.tk N) (hm : s.m ≤ 12) (hN : N 187 = nI s.m) : z_Con X 5 mX10_readMile [zr 46 0] M (fun v M' => (v = 0 ∨ v = 1) ∧ z_Om M0 B len fl v M' (pu_mileP B len s) (fun s' N' => ∃ v1 v2 v3, N' = pu_nw (pu_nw (pu_nw (pu_nw N (0 + 3 * s.m + 0) v1) (0 + 3 * s.m + 1) v2) (0 + 3 * s.m + 2) v3) 187 (nI (s.m + 1)) ∧ ((-5 ≤ v1 ∧ v1 ≤ 5) ∧ (0 ≤ v2 ∧ v2 ≤ 9) ∧ (0 ≤ v3 ∧ v3 ≤ 9)) ∧ s' = (((((((s.nx B len).nx B len).w 0 s.m v1).nx B len).w (0 + 1) s.m v2).nx B len).w (0 + 2) s.m v3).um.nx B len)) := by
  generalize ho : pu_mileP B len s = o
  have el : M.1 47 (M.2.2 46 1).toNat (187 : Int32).toNatClampNeg = nI s.m := by
    rw [Pm_r h]
    exact hN
  have ix : ∀ (c : Nat) (x : Int32), x = nI c → c < 3 → (0 + 3 * M.1 47 (M.2.2 46 1).toNat (187 : Int32).toNatClampNeg + x).toNatClampNeg = 0 + 3 * s.m + c ∧ vp_in (0 + 3 * M.1 47 (M.2.2 46 1).toNat (187 : Int32).toNatClampNeg + x) 479 := by
    intro c x ex hc
    rw [el, ex, ix3]
    exact ⟨(nI_clamp (by omega)).trans (by omega), vp_in_nI (by omega) (by omega)⟩
  refine z_mg KX10_readMile [] 250 (by decide +kernel) rfl ?_
  refine ⟨vin (by decide) (by decide), ?_⟩
  refine ⟨fun g => ?_, fun g => ?_⟩ <;> rw [el] at g
  · have hm2 : s.m < 12 := Classical.byContradiction (fun w => g (by rw [show s.m = 12 by omega]; rfl))
    unfold pu_mileP pu_three at ho
    rw [if_pos hm2] at ho
    refine m_next h (by decide) (fun r M1 q1 => ?_)
    refine ⟨fun w => absurd w (by decide), fun _ => ?_⟩
    refine ⟨fun w => absurd rfl w, fun _ => ?_⟩
    refine ⟨fun w => absurd rfl w, fun _ => ?_⟩
    refine m_num ho.symm q1 (by decide) (fun M' e s' e1 e2 => ⟨fun w => absurd rfl w, fun _ => ⟨Or.inl rfl, Or.inl rfl, Om_no e1 e2⟩⟩) (fun M2 v2 ev2 hv2 ho2 q2 => ?_)
    refine ⟨fun _ => ?_, fun w => absurd w (by decide)⟩
    have x0 := ix 0 (0) rfl (by decide)
    refine ⟨x0.2, ?_⟩
    have Q0 := Pm_ws 0 s.m (0 + 3 * s.m + 0) x0.1 ev2 q2
    refine ⟨fun w => absurd w (by decide), fun _ => ?_⟩
    refine ⟨fun _ => ?_, fun w => absurd w (by decide)⟩
    refine ⟨fun _ => ?_, fun w => absurd w (by decide)⟩
    refine m_num ho2 Q0 (by decide) (fun M' e s' e1 e2 => ⟨fun w => absurd rfl w, fun _ => ⟨Or.inl rfl, Or.inl rfl, Om_no e1 e2⟩⟩) (fun M3 v3 ev3 hv3 ho3 q3 => ?_)
    refine ⟨fun _ => ?_, fun w => absurd w (by decide)⟩
    have x1 := ix 1 (0 + 1) rfl (by decide)
    refine ⟨x1.2, ?_⟩
    have Q1 := Pm_ws (0 + 1) s.m (0 + 3 * s.m + 1) x1.1 ev3 q3
    refine ⟨fun w => absurd w (by decide), fun _ => ?_⟩
    refine ⟨fun _ => ?_, fun w => absurd w (by decide)⟩
    refine ⟨fun _ => ?_, fun w => absurd w (by decide)⟩
    refine m_num ho3 Q1 (by decide) (fun M' e s' e1 e2 => ⟨fun w => absurd rfl w, fun _ => ⟨Or.inl rfl, Or.inl rfl, Om_no e1 e2⟩⟩) (fun M4 v4 ev4 hv4 ho4 q4 => ?_)
    refine ⟨fun _ => ?_, fun w => absurd w (by decide)⟩
    have x2 := ix 2 (0 + 1 + 1) rfl (by decide)
    refine ⟨x2.2, ?_⟩
    have Q2 := Pm_ws (0 + 2) s.m (0 + 3 * s.m + 2) x2.1 ev4 q4
    refine ⟨fun _ => ?_, fun w => absurd (by decide) w⟩
    have ec : (187 : Int32).toNatClampNeg = 187 := by decide
    have ev : (z_s M4 47 (M4.2.2 46 1).toNat (0 + 3 * M.1 47 (M.2.2 46 1).toNat (187 : Int32).toNatClampNeg + (0 + 1 + 1)).toNatClampNeg (M4.1 46 0 17)).1 47 ((z_s M4 47 (M4.2.2 46 1).toNat (0 + 3 * M.1 47 (M.2.2 46 1).toNat (187 : Int32).toNatClampNeg + (0 + 1 + 1)).toNatClampNeg (M4.1 46 0 17)).2.2 46 1).toNat (187 : Int32).toNatClampNeg + 1 = nI (s.m + 1) := by
      rw [Pm_r Q2, ec, nw_o (by omega), nw_o (by omega), nw_o (by omega), hN, nI_1]
    have Q3 := Pm_um (Pm_w 187 ec ev Q2)
    refine ⟨vin (by decide) (by decide), vin (by decide) (by decide), ?_⟩
    exact z_use (hX10_readStop M0 _ B len fl _ _ Q3) (by decide) (fun v M' q => ⟨q.1, q.1, Om_to ho4 q.2 (fun s' N' a => ⟨v2, v3, v4, a.2, ⟨hv2, hv3, hv4⟩, a.1⟩)⟩)
  · have hm2 : ¬ s.m < 12 := by
      intro w
      have g2 := (nI_eq (b := 12) (by omega) (by omega)).1 g
      omega
    unfold pu_mileP at ho
    rw [if_neg hm2] at ho
    refine z_uW (hX10_faulty M 3) (by decide) ?_
    exact ⟨Or.inl rfl, Or.inl rfl, Om_no ho.symm (Pm_fl h)⟩
theorem hX10_readRabbit {X : z_Cx} (M0 M : z_M) (B : Nat → Int32) (len : Nat) (fl : Int32) (s : z_Ps) (N : Nat → Int32) (h : z_Pm M0 B len fl M s.tk N) (hm : s.b ≤ 5) (hN : N 189 = nI s.b) : z_Con X 5 mX10_readRabbit [zr 46 0] M (fun v M' => (v = 0 ∨ v = 1) ∧ z_Om M0 B len fl v M' (pu_rabP B len s) (fun s' N' => ∃ v1 v2 v3, N' = pu_nw (pu_nw (pu_nw (pu_nw N (172 + 3 * s.b + 0) v1) (172 + 3 * s.b + 1) v2) (172 + 3 * s.b + 2) v3) 189 (nI (s.b + 1)) ∧ ((10 ≤ v1 ∧ v1 ≤ 40) ∧ (1 ≤ v2 ∧ v2 ≤ 12) ∧ (0 ≤ v3 ∧ v3 ≤ 99)) ∧ s' = (((((((s.nx B len).nx B len).w 11 s.b v1).nx B len).w (11 + 1) s.b v2).nx B len).w (11 + 2) s.b v3).ub.nx B len)) := by
  generalize ho : pu_rabP B len s = o
  have el : M.1 47 (M.2.2 46 1).toNat (189 : Int32).toNatClampNeg = nI s.b := by
    rw [Pm_r h]
    exact hN
  have ix : ∀ (c : Nat) (x : Int32), x = nI c → c < 3 → (172 + 3 * M.1 47 (M.2.2 46 1).toNat (189 : Int32).toNatClampNeg + x).toNatClampNeg = 172 + 3 * s.b + c ∧ vp_in (172 + 3 * M.1 47 (M.2.2 46 1).toNat (189 : Int32).toNatClampNeg + x) 479 := by
    intro c x ex hc
    rw [el, ex, ixb]
    exact ⟨(nI_clamp (by omega)).trans (by omega), vp_in_nI (by omega) (by omega)⟩
  refine z_mg KX10_readRabbit [] 250 (by decide +kernel) rfl ?_
  refine ⟨vin (by decide) (by decide), ?_⟩
  refine ⟨fun g => ?_, fun g => ?_⟩ <;> rw [el] at g
  · have hm2 : s.b < 5 := Classical.byContradiction (fun w => g (by rw [show s.b = 5 by omega]; rfl))
    unfold pu_rabP pu_three at ho
    rw [if_pos hm2] at ho
    refine m_next h (by decide) (fun r M1 q1 => ?_)
    refine ⟨fun w => absurd w (by decide), fun _ => ?_⟩
    refine ⟨fun w => absurd rfl w, fun _ => ?_⟩
    refine ⟨fun w => absurd rfl w, fun _ => ?_⟩
    refine m_num ho.symm q1 (by decide) (fun M' e s' e1 e2 => ⟨fun w => absurd rfl w, fun _ => ⟨Or.inl rfl, Or.inl rfl, Om_no e1 e2⟩⟩) (fun M2 v2 ev2 hv2 ho2 q2 => ?_)
    refine ⟨fun _ => ?_, fun w => absurd w (by decide)⟩
    have x0 := ix 0 (0) rfl (by decide)
    refine ⟨x0.2, ?_⟩
    have Q0 := Pm_ws 11 s.b (172 + 3 * s.b + 0) x0.1 ev2 q2
    refine ⟨fun w => absurd w (by decide), fun _ => ?_⟩
    refine ⟨fun _ => ?_, fun w => absurd w (by decide)⟩
    refine ⟨fun w => absurd rfl w, fun _ => ?_⟩
    refine ⟨fun _ => ?_, fun w => absurd w (by decide)⟩
    refine ⟨fun w => absurd rfl w, fun _ => ?_⟩
    refine m_num ho2 Q0 (by decide) (fun M' e s' e1 e2 => ⟨fun w => absurd rfl w, fun _ => ⟨Or.inl rfl, Or.inl rfl, Om_no e1 e2⟩⟩) (fun M3 v3 ev3 hv3 ho3 q3 => ?_)
    refine ⟨fun _ => ?_, fun w => absurd w (by decide)⟩
    have x1 := ix 1 (0 + 1) rfl (by decide)
    refine ⟨x1.2, ?_⟩
    have Q1 := Pm_ws (11 + 1) s.b (172 + 3 * s.b + 1) x1.1 ev3 q3
    refine ⟨fun w => absurd w (by decide), fun _ => ?_⟩
    refine ⟨fun _ => ?_, fun w => absurd w (by decide)⟩
    refine ⟨fun _ => ?_, fun w => absurd w (by decide)⟩
    refine ⟨fun _ => ?_, fun w => absurd w (by decide)⟩
    refine ⟨fun _ => ?_, fun w => absurd w (by decide)⟩
    refine m_num ho3 Q1 (by decide) (fun M' e s' e1 e2 => ⟨fun w => absurd rfl w, fun _ => ⟨Or.inl rfl, Or.inl rfl, Om_no e1 e2⟩⟩) (fun M4 v4 ev4 hv4 ho4 q4 => ?_)
    refine ⟨fun _ => ?_, fun w => absurd w (by decide)⟩
    have x2 := ix 2 (0 + 1 + 1) rfl (by decide)
    refine ⟨x2.2, ?_⟩
    have Q2 := Pm_ws (11 + 2) s.b (172 + 3 * s.b + 2) x2.1 ev4 q4
    refine ⟨fun _ => ?_, fun w => absurd (by decide) w⟩
    have ec : (189 : Int32).toNatClampNeg = 189 := by decide
    have ev : (z_s M4 47 (M4.2.2 46 1).toNat (172 + 3 * M.1 47 (M.2.2 46 1).toNat (189 : Int32).toNatClampNeg + (0 + 1 + 1)).toNatClampNeg (M4.1 46 0 17)).1 47 ((z_s M4 47 (M4.2.2 46 1).toNat (172 + 3 * M.1 47 (M.2.2 46 1).toNat (189 : Int32).toNatClampNeg + (0 + 1 + 1)).toNatClampNeg (M4.1 46 0 17)).2.2 46 1).toNat (189 : Int32).toNatClampNeg + 1 = nI (s.b + 1) := by
      rw [Pm_r Q2, ec, nw_o (by omega), nw_o (by omega), nw_o (by omega), hN, nI_1]
    have Q3 := Pm_ub (Pm_w 189 ec ev Q2)
    refine ⟨vin (by decide) (by decide), vin (by decide) (by decide), ?_⟩
    exact z_use (hX10_readStop M0 _ B len fl _ _ Q3) (by decide) (fun v M' q => ⟨q.1, q.1, Om_to ho4 q.2 (fun s' N' a => ⟨v2, v3, v4, a.2, ⟨hv2, hv3, hv4⟩, a.1⟩)⟩)
  · have hm2 : ¬ s.b < 5 := by
      intro w
      have g2 := (nI_eq (b := 5) (by omega) (by omega)).1 g
      omega
    unfold pu_rabP at ho
    rw [if_neg hm2] at ho
    refine z_uW (hX10_faulty M 3) (by decide) ?_
    exact ⟨Or.inl rfl, Or.inl rfl, Om_no ho.symm (Pm_fl h)⟩
