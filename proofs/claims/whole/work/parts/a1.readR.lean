/-! ===== runners of the model's reader ===== -/
theorem Pm_up {M0 M : z_M} {B : Nat → Int32} {len : Nat} {fl : Int32} {tk : z_Tk} {N : Nat → Int32} {n : Nat} (j : Nat) (c : Int32) (hc : c.toNatClampNeg = j) (h : z_Pm M0 B len fl M tk N) (hN : N j = nI n) : M.1 47 (M.2.2 46 1).toNat c.toNatClampNeg + 1 = nI (n + 1) := by
  rw [Pm_r h, hc, hN, nI_1]
theorem nest_no {B : Nat → Int32} {len : Nat} {s s' : z_Ps} {e : Int32} (h : pu_runP B len s = .no e s') : pu_nest B len s = .no e s' := by
  unfold pu_nest
  rw [h]
  rfl
theorem nest_ok {B : Nat → Int32} {len : Nat} {s s' : z_Ps} (h : pu_runP B len s = .ok s') : pu_nest B len s = pu_lp (fun (s : z_Ps) => s.is B 2) (pu_ruleP B len) 601 s' := by
  unfold pu_nest
  rw [h]
  rfl
theorem lR_rules {X : z_Cx} (M0 : z_M) (B : Nat → Int32) (len : Nat) (fl : Int32) (n : Nat) (o : z_Po) : ∀ (u : Nat) (s : z_Ps) (N : Nat → Int32) (M : z_M), z_Pm M0 B len fl M s.tk N → z_Cs s N → 1 ≤ s.r → s.r - 1 = n → z_Tg len s.tk.1 s → len < u + s.tk.1 → o = pu_lp (fun (s : z_Ps) => s.is B 2) (pu_ruleP B len) u s → z_Run X 6 mX10_readRunner (fun v M' => (v = 0 ∨ v = 1) ∧ z_Om M0 B len fl v M' o z_Cs) 129 [(0, zr 46 0), (1, zi (nI n))] [] M := by
  intro u
  induction u with
  | zero =>
    intro s N M h hC hr hn ht hl ho
    have := ht.2.1
    have := ht.2.2.1
    omega
  | succ u ih =>
    intro s N M h hC hr hn ht hl ho
    have h4 := hC.1.2.1
    refine z_go_run KX10_readRunner [(129, [0, 1])] 40 ?_
    refine m_word h 2 (by decide) (by decide) ?_
    refine ⟨fun g => ?_, fun g => ?_⟩
    · rw [lp_0 (c := fun (s : z_Ps) => s.is B 2) (by rw [b2_0 g]; decide)] at ho
      exact ⟨Or.inr rfl, Or.inr rfl, Or.inr ⟨rfl, s, N, ho, h, hC⟩⟩
    · have w2 := b2_1 g
      rw [lp_1 (c := fun (s : z_Ps) => s.is B 2) w2] at ho
      obtain ⟨c, hc, ec⟩ := (CS_Pi hC).2.2.2 n (by omega)
      have eN : N (36 + 4 * n + 3) = nI c := (hC.2.2.1 n (by omega)).2.2.2.1.trans ec
      refine z_use (hX10_readRule M0 M B len fl s N h n hn (by omega) c hc ec eN) (by decide) (fun v M' q => ?_)
      rcases q.2 with ⟨rfl, e, s', N', e1, e2⟩ | ⟨rfl, s', N', e1, e2, e3⟩
      · refine ⟨fun w => absurd rfl w, fun _ => ⟨Or.inl rfl, Or.inl rfl, Om_no ?_ e2⟩⟩
        rw [ho, e1]
        rfl
      · refine ⟨fun _ => ?_, fun w => absurd w (by decide)⟩
        have k := rule_g ht rfl (is_0 w2) e1
        have kr := rule_ok (CS_Pi hC) hr e1
        have hc6 := rule_lt hn hc ec e1
        refine ih s' N' M' e2 (CSr hC (by omega) hc6 ec e3) (by rw [kr.2.2.1]; exact hr) (by rw [kr.2.2.1]; exact hn) ⟨Nat.le_refl _, k.2⟩ (by have := k.1; omega) ?_
        rw [ho, e1]
        rfl
theorem hX10_readRunner {X : z_Cx} (M0 M : z_M) (B : Nat → Int32) (len : Nat) (hl6 : len ≤ 600) (fl : Int32) (s : z_Ps) (N : Nat → Int32) (h : z_Pm M0 B len fl M s.tk N) (hC : z_Cs s N) (ht : z_Tg len s.tk.1 s) (w1 : s.is B 1 = true) : z_Con X 6 mX10_readRunner [zr 46 0] M (fun v M' => (v = 0 ∨ v = 1) ∧ z_Om M0 B len fl v M' (pu_nest B len s) z_Cs) := by
  have hm : s.r ≤ 4 := hC.1.2.1
  have hN : N 188 = nI s.r := hC.1.2.2.2.2.1
  generalize ho : pu_runP B len s = o
  have ho0 := ho
  have el : M.1 47 (M.2.2 46 1).toNat (188 : Int32).toNatClampNeg = nI s.r := by
    rw [Pm_r h]
    exact hN
  have ix : ∀ (c : Nat) (x : Int32), x = nI c → c < 4 → s.r < 4 → (36 + 4 * M.1 47 (M.2.2 46 1).toNat (188 : Int32).toNatClampNeg + x).toNatClampNeg = 36 + 4 * s.r + c ∧ vp_in (36 + 4 * M.1 47 (M.2.2 46 1).toNat (188 : Int32).toNatClampNeg + x) 479 := by
    intro c x ex hc h4
    rw [el, ex, ixr]
    exact ⟨(nI_clamp (by omega)).trans (by omega), vp_in_nI (by omega) (by omega)⟩
  refine z_mg KX10_readRunner [(129, [0, 1])] 250 (by decide +kernel) rfl ?_
  refine ⟨vin (by decide) (by decide), ?_⟩
  refine ⟨fun g => ?_, fun g => ?_⟩ <;> rw [el] at g
  · have hm2 : s.r < 4 := Classical.byContradiction (fun w => g (by rw [show s.r = 4 by omega]; rfl))
    unfold pu_runP pu_three at ho
    rw [if_pos hm2] at ho
    refine m_next h (by decide) (fun r M1 q1 => ?_)
    refine ⟨fun w => absurd w (by decide), fun _ => ?_⟩
    refine ⟨fun w => absurd rfl w, fun _ => ?_⟩
    refine ⟨fun w => absurd rfl w, fun _ => ?_⟩
    refine m_num ho.symm q1 (by decide) (fun M' e s' e1 e2 => ⟨fun w => absurd rfl w, fun _ => ⟨Or.inl rfl, Or.inl rfl, Om_no (nest_no (ho0.trans e1)) e2⟩⟩) (fun M2 v2 ev2 hv2 ho2 q2 => ?_)
    refine ⟨fun _ => ?_, fun w => absurd w (by decide)⟩
    have x0 := ix 0 (0) rfl (by decide) hm2
    refine ⟨x0.2, ?_⟩
    have Q0 := Pm_ws 3 s.r (36 + 4 * s.r + 0) x0.1 ev2 q2
    refine ⟨fun w => absurd w (by decide), fun _ => ?_⟩
    refine ⟨fun _ => ?_, fun w => absurd w (by decide)⟩
    refine ⟨fun _ => ?_, fun w => absurd w (by decide)⟩
    refine ⟨fun w => absurd rfl w, fun _ => ?_⟩
    refine m_num ho2 Q0 (by decide) (fun M' e s' e1 e2 => ⟨fun w => absurd rfl w, fun _ => ⟨Or.inl rfl, Or.inl rfl, Om_no (nest_no (ho0.trans e1)) e2⟩⟩) (fun M3 v3 ev3 hv3 ho3 q3 => ?_)
    refine ⟨fun _ => ?_, fun w => absurd w (by decide)⟩
    have x1 := ix 1 (0 + 1) rfl (by decide) hm2
    refine ⟨x1.2, ?_⟩
    have Q1 := Pm_ws (3 + 1) s.r (36 + 4 * s.r + 1) x1.1 ev3 q3
    refine ⟨fun w => absurd w (by decide), fun _ => ?_⟩
    refine ⟨fun _ => ?_, fun w => absurd w (by decide)⟩
    refine ⟨fun _ => ?_, fun w => absurd w (by decide)⟩
    refine ⟨fun _ => ?_, fun w => absurd w (by decide)⟩
    refine m_num ho3 Q1 (by decide) (fun M' e s' e1 e2 => ⟨fun w => absurd rfl w, fun _ => ⟨Or.inl rfl, Or.inl rfl, Om_no (nest_no (ho0.trans e1)) e2⟩⟩) (fun M4 v4 ev4 hv4 ho4 q4 => ?_)
    refine ⟨fun _ => ?_, fun w => absurd w (by decide)⟩
    have x2 := ix 2 (0 + 1 + 1) rfl (by decide) hm2
    refine ⟨x2.2, ?_⟩
    have Q2 := Pm_ws (3 + 2) s.r (36 + 4 * s.r + 2) x2.1 ev4 q4
    refine ⟨fun _ => ?_, fun w => absurd (by decide) w⟩
    have x3 := ix 3 3 rfl (by decide) hm2
    have Q3 := Pm_w (v := 0) (36 + 4 * s.r + 3) x3.1 rfl Q2
    have ec : (188 : Int32).toNatClampNeg = 188 := by decide
    have ev := Pm_up (n := s.r) 188 188 ec Q3 (by rw [nw_o (by omega), nw_o (by omega), nw_o (by omega), nw_o (by omega), hN])
    have Q4 := Pm_ur (Pm_w 188 ec ev Q3)
    refine ⟨x3.2, vin (by decide) (by decide), vin (by decide) (by decide), ?_⟩
    refine z_use (hX10_readStop M0 _ B len fl _ _ Q4) (by decide) (fun v M' q => ?_)
    rcases q.2 with ⟨rfl, e, s', N', e1, e2⟩ | ⟨rfl, s', N', e1, e2, e3, e4⟩
    · exact ⟨fun w => absurd rfl w, fun _ => ⟨Or.inl rfl, Or.inl rfl, Om_no (nest_no (ho0.trans (ho4.trans e1))) e2⟩⟩
    · refine ⟨fun _ => ?_, fun w => absurd w (by decide)⟩
      have eo : pu_runP B len s = .ok s' := ho0.trans (ho4.trans e1)
      have k := run_g ht rfl (is_0 w1) eo
      have kr := run_ok (CS_Pi hC) eo
      have hC2 : z_Cs s' N' := CSu hC hm2 hv2 hv3 hv4 e4 e3
      refine z_Run.eq (lR_rules M0 B len fl s.r _ 601 s' N' M' e2 hC2 (by rw [kr.2.2.1]; omega) (by rw [kr.2.2.1]; omega) ⟨Nat.le_refl _, k.2⟩ (by omega) (nest_ok eo)) ?_ rfl
      rw [el]
  · have hm2 : ¬ s.r < 4 := by
      intro w
      have g2 := (nI_eq (b := 4) (by omega) (by omega)).1 g
      omega
    unfold pu_runP at ho
    rw [if_neg hm2] at ho
    refine z_uW (hX10_faulty M 3) (by decide) ?_
    exact ⟨Or.inl rfl, Or.inl rfl, Om_no (nest_no (ho0.trans ho.symm)) (Pm_fl h)⟩
