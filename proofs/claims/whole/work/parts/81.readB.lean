/-! ===== miles, runners, rabbits of the class's reader ===== -/
theorem b2_1 {c : Bool} (g : ¬ pu_b2 c = 0) : c = true := by
  cases c with
  | true => rfl
  | false => exact absurd rfl g
theorem b2_0 {c : Bool} (g : pu_b2 c = 0) : c = false := by
  cases c with
  | false => rfl
  | true => exact absurd g (by decide)
theorem Pc_um {M0 M : z_M} {len : Nat} {fl : Int32} {s : z_Ps} (h : z_Pq M0 len fl M s) : z_Pq M0 len fl (z_s M 6 1 1 (M.1 6 1 1 + 1)) s.um :=
  Pc_c 1 (s.m + 1) s.r s.b h (by rw [if_pos rfl, h.2.2.2.2.2.1.1]; exact nI_1 _) (by rw [if_neg (by decide)]; exact h.2.2.2.2.2.1.2.1) (by rw [if_neg (by decide)]; exact h.2.2.2.2.2.1.2.2)
theorem Pc_ur {M0 M : z_M} {len : Nat} {fl : Int32} {s : z_Ps} (h : z_Pq M0 len fl M s) : z_Pq M0 len fl (z_s M 6 1 5 (M.1 6 1 5 + 1)) s.ur :=
  Pc_c 5 s.m (s.r + 1) s.b h (by rw [if_neg (by decide)]; exact h.2.2.2.2.2.1.1) (by rw [if_pos rfl, h.2.2.2.2.2.1.2.1]; exact nI_1 _) (by rw [if_neg (by decide)]; exact h.2.2.2.2.2.1.2.2)
theorem Pc_ub {M0 M : z_M} {len : Nat} {fl : Int32} {s : z_Ps} (h : z_Pq M0 len fl M s) : z_Pq M0 len fl (z_s M 6 1 14 (M.1 6 1 14 + 1)) s.ub :=
  Pc_c 14 s.m s.r (s.b + 1) h (by rw [if_neg (by decide)]; exact h.2.2.2.2.2.1.1) (by rw [if_neg (by decide)]; exact h.2.2.2.2.2.1.2.1) (by rw [if_pos rfl, h.2.2.2.2.2.1.2.2]; exact nI_1 _)
theorem Oq_eq {M0 M : z_M} {len : Nat} {fl v : Int32} {o o' : z_Po} (e : o = o') (h : z_Oq M0 len fl v M o') : z_Oq M0 len fl v M o := by
  rw [e]
  exact h
theorem hX5_readsMile {X : z_Cx} (M0 M : z_M) (len : Nat) (fl : Int32) (s : z_Ps) (h : z_Pq M0 len fl M s) (hm : s.m ≤ 12) : z_Con X 5 mX5_readsMile [zr 4 0] M (fun v M' => (v = 0 ∨ v = 1) ∧ z_Oq M0 len fl v M' (if s.is (M0.1 5 0) 0 = true then pu_mileP (M0.1 5 0) len s else .no 1 s)) := by
  generalize ho : (if s.is (M0.1 5 0) 0 = true then pu_mileP (M0.1 5 0) len s else .no 1 s : z_Po) = o
  have em : M.1 6 1 1 = nI s.m := h.2.2.2.2.2.1.1
  have ecl : (M.1 6 1 1).toNatClampNeg = s.m := by rw [em]; exact nI_clamp (by omega)
  refine z_mg KSX5_readsMile [] 120 (by decide +kernel) rfl ?_
  refine u_word h 0 (by decide) (by decide) ?_
  refine ⟨fun g => ?_, fun g => ?_⟩
  · rw [if_pos (b2_1 g)] at ho
    refine ⟨fun g2 => ?_, fun g2 => ?_⟩ <;> rw [em] at g2
    · have hm2 : s.m < 12 := Classical.byContradiction (fun w => absurd g2 (Int32.not_lt.2 (nI_le (a := 12) (by omega) (by omega))))
      unfold pu_mileP pu_three at ho
      rw [if_pos hm2] at ho
      refine u_next h (by decide) (fun r M1 q1 => ?_)
      refine u_num ho.symm q1 (by decide) (fun M' e s' e1 e2 => ⟨fun w => absurd rfl w, fun _ => ⟨Or.inl rfl, Or.inl rfl, Oc_no e1 e2⟩⟩) (fun M2 v2 ev2 hv2 ho2 q2 => ?_)
      refine ⟨fun _ => ?_, fun w => absurd w (by decide)⟩
      refine ⟨by rw [em]; exact vp_in_nI hm2 (by omega), ?_⟩
      refine u_num ho2 (Pc_w 0 s.m (by decide) ecl ev2 q2) (by decide) (fun M' e s' e1 e2 => ⟨fun w => absurd rfl w, fun _ => ⟨Or.inl rfl, Or.inl rfl, Oc_no e1 e2⟩⟩) (fun M3 v3 ev3 hv3 ho3 q3 => ?_)
      refine ⟨fun _ => ?_, fun w => absurd w (by decide)⟩
      refine ⟨by rw [em]; exact vp_in_nI hm2 (by omega), ?_⟩
      refine u_num ho3 (Pc_w 1 s.m (by decide) ecl ev3 q3) (by decide) (fun M' e s' e1 e2 => ⟨fun w => absurd rfl w, fun _ => ⟨Or.inl rfl, Or.inl rfl, Oc_no e1 e2⟩⟩) (fun M4 v4 ev4 hv4 ho4 q4 => ?_)
      refine ⟨fun _ => ?_, fun w => absurd w (by decide)⟩
      refine ⟨by rw [em]; exact vp_in_nI hm2 (by omega), ?_⟩
      have Q := Pc_w 2 s.m (by decide) ecl ev4 q4
      have Q2 := Pc_um Q
      refine z_use (hX5_readsSemicolon M0 _ len fl _ Q2) (by decide) (fun v M' q => ⟨q.1, q.1, Oq_eq ho4 q.2⟩)
    · have hm2 : ¬ s.m < 12 := fun w => g2 (nI_lt (b := 12) w (by omega))
      unfold pu_mileP at ho
      rw [if_neg hm2] at ho
      refine z_uW (hX5_fails M 3) (by decide) ?_
      exact ⟨Or.inl rfl, Or.inl rfl, Oc_no ho.symm (Pc_fl h)⟩
  · rw [if_neg (by rw [b2_0 g]; decide)] at ho
    refine z_uW (hX5_fails M 1) (by decide) ?_
    exact ⟨Or.inl rfl, Or.inl rfl, Oc_no ho.symm (Pc_fl h)⟩
theorem hX5_readsRunner {X : z_Cx} (M0 M : z_M) (len : Nat) (fl : Int32) (s : z_Ps) (h : z_Pq M0 len fl M s) (hm : s.r ≤ 4) : z_Con X 5 mX5_readsRunner [zr 4 0] M (fun v M' => (v = 0 ∨ v = 1) ∧ z_Oq M0 len fl v M' (if s.is (M0.1 5 0) 1 = true then pu_runP (M0.1 5 0) len s else .no 1 s)) := by
  generalize ho : (if s.is (M0.1 5 0) 1 = true then pu_runP (M0.1 5 0) len s else .no 1 s : z_Po) = o
  have em : M.1 6 1 5 = nI s.r := h.2.2.2.2.2.1.2.1
  have ecl : (M.1 6 1 5).toNatClampNeg = s.r := by rw [em]; exact nI_clamp (by omega)
  refine z_mg KSX5_readsRunner [] 120 (by decide +kernel) rfl ?_
  refine u_word h 1 (by decide) (by decide) ?_
  refine ⟨fun g => ?_, fun g => ?_⟩
  · rw [if_pos (b2_1 g)] at ho
    refine ⟨fun g2 => ?_, fun g2 => ?_⟩ <;> rw [em] at g2
    · have hm2 : s.r < 4 := Classical.byContradiction (fun w => absurd g2 (Int32.not_lt.2 (nI_le (a := 4) (by omega) (by omega))))
      unfold pu_runP pu_three at ho
      rw [if_pos hm2] at ho
      refine u_next h (by decide) (fun r M1 q1 => ?_)
      refine u_num ho.symm q1 (by decide) (fun M' e s' e1 e2 => ⟨fun w => absurd rfl w, fun _ => ⟨Or.inl rfl, Or.inl rfl, Oc_no e1 e2⟩⟩) (fun M2 v2 ev2 hv2 ho2 q2 => ?_)
      refine ⟨fun _ => ?_, fun w => absurd w (by decide)⟩
      refine ⟨by rw [em]; exact vp_in_nI hm2 (by omega), ?_⟩
      refine u_num ho2 (Pc_w 3 s.r (by decide) ecl ev2 q2) (by decide) (fun M' e s' e1 e2 => ⟨fun w => absurd rfl w, fun _ => ⟨Or.inl rfl, Or.inl rfl, Oc_no e1 e2⟩⟩) (fun M3 v3 ev3 hv3 ho3 q3 => ?_)
      refine ⟨fun _ => ?_, fun w => absurd w (by decide)⟩
      refine ⟨by rw [em]; exact vp_in_nI hm2 (by omega), ?_⟩
      refine u_num ho3 (Pc_w 4 s.r (by decide) ecl ev3 q3) (by decide) (fun M' e s' e1 e2 => ⟨fun w => absurd rfl w, fun _ => ⟨Or.inl rfl, Or.inl rfl, Oc_no e1 e2⟩⟩) (fun M4 v4 ev4 hv4 ho4 q4 => ?_)
      refine ⟨fun _ => ?_, fun w => absurd w (by decide)⟩
      refine ⟨by rw [em]; exact vp_in_nI hm2 (by omega), ?_⟩
      have Q := Pc_w 5 s.r (by decide) ecl ev4 q4
      have Q2 := Pc_ur Q
      refine z_use (hX5_readsSemicolon M0 _ len fl _ Q2) (by decide) (fun v M' q => ⟨q.1, q.1, Oq_eq ho4 q.2⟩)
    · have hm2 : ¬ s.r < 4 := fun w => g2 (nI_lt (b := 4) w (by omega))
      unfold pu_runP at ho
      rw [if_neg hm2] at ho
      refine z_uW (hX5_fails M 3) (by decide) ?_
      exact ⟨Or.inl rfl, Or.inl rfl, Oc_no ho.symm (Pc_fl h)⟩
  · rw [if_neg (by rw [b2_0 g]; decide)] at ho
    refine z_uW (hX5_fails M 1) (by decide) ?_
    exact ⟨Or.inl rfl, Or.inl rfl, Oc_no ho.symm (Pc_fl h)⟩
theorem hX5_readsRabbit {X : z_Cx} (M0 M : z_M) (len : Nat) (fl : Int32) (s : z_Ps) (h : z_Pq M0 len fl M s) (hm : s.b ≤ 5) : z_Con X 4 mX5_readsRabbit [zr 4 0] M (fun v M' => (v = 0 ∨ v = 1) ∧ z_Oq M0 len fl v M' (pu_rabP (M0.1 5 0) len s)) := by
  generalize ho : (pu_rabP (M0.1 5 0) len s : z_Po) = o
  have em : M.1 6 1 14 = nI s.b := h.2.2.2.2.2.1.2.2
  have ecl : (M.1 6 1 14).toNatClampNeg = s.b := by rw [em]; exact nI_clamp (by omega)
  refine z_mg KX5_readsRabbit [] 120 (by decide +kernel) rfl ?_
  refine ⟨fun g2 => ?_, fun g2 => ?_⟩ <;> rw [em] at g2
  · have hm2 : s.b < 5 := Classical.byContradiction (fun w => absurd g2 (Int32.not_lt.2 (nI_le (a := 5) (by omega) (by omega))))
    unfold pu_rabP pu_three at ho
    rw [if_pos hm2] at ho
    refine u_next h (by decide) (fun r M1 q1 => ?_)
    refine u_num ho.symm q1 (by decide) (fun M' e s' e1 e2 => ⟨fun w => absurd rfl w, fun _ => ⟨Or.inl rfl, Or.inl rfl, Oc_no e1 e2⟩⟩) (fun M2 v2 ev2 hv2 ho2 q2 => ?_)
    refine ⟨fun _ => ?_, fun w => absurd w (by decide)⟩
    refine ⟨by rw [em]; exact vp_in_nI hm2 (by omega), ?_⟩
    refine u_num ho2 (Pc_w 11 s.b (by decide) ecl ev2 q2) (by decide) (fun M' e s' e1 e2 => ⟨fun w => absurd rfl w, fun _ => ⟨Or.inl rfl, Or.inl rfl, Oc_no e1 e2⟩⟩) (fun M3 v3 ev3 hv3 ho3 q3 => ?_)
    refine ⟨fun _ => ?_, fun w => absurd w (by decide)⟩
    refine ⟨by rw [em]; exact vp_in_nI hm2 (by omega), ?_⟩
    refine u_num ho3 (Pc_w 12 s.b (by decide) ecl ev3 q3) (by decide) (fun M' e s' e1 e2 => ⟨fun w => absurd rfl w, fun _ => ⟨Or.inl rfl, Or.inl rfl, Oc_no e1 e2⟩⟩) (fun M4 v4 ev4 hv4 ho4 q4 => ?_)
    refine ⟨fun _ => ?_, fun w => absurd w (by decide)⟩
    refine ⟨by rw [em]; exact vp_in_nI hm2 (by omega), ?_⟩
    have Q := Pc_w 13 s.b (by decide) ecl ev4 q4
    have Q2 := Pc_ub Q
    refine z_use (hX5_readsSemicolon M0 _ len fl _ Q2) (by decide) (fun v M' q => ⟨q.1, q.1, Oq_eq ho4 q.2⟩)
  · have hm2 : ¬ s.b < 5 := fun w => g2 (nI_lt (b := 5) w (by omega))
    unfold pu_rabP at ho
    rw [if_neg hm2] at ho
    refine z_uW (hX5_fails M 3) (by decide) ?_
    exact ⟨Or.inl rfl, Or.inl rfl, Oc_no ho.symm (Pc_fl h)⟩
