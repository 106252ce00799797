/-! ===== rules of the class's reader ===== -/
theorem is_w {s : z_Ps} {f j k : Nat} {v : Int32} {B : Nat → Int32} : (s.w f j v).is B k = s.is B k := rfl
theorem V_w {s : z_Ps} {f g j k : Nat} {v : Int32} (h : g ≠ f) : (s.w f j v).V g k = s.V g k := if_neg (c := g = f ∧ k = j) (fun w => h w.1)
theorem rule235 {X : z_Cx} (M0 M : z_M) (len : Nat) (fl : Int32) (s : z_Ps) (r c : Nat) (x way : Int32) (o : z_Po) (hr : r < 4) (hx : x.toNatClampNeg = 6 * r + c) (hx2 : vp_in x 24) (h : z_Pq M0 len fl M s) (hV : s.V 6 r = nI c) (ho : o = pu_num (M0.1 5 0) len 1 9 (s.nx (M0.1 5 0) len) fun v (s' : z_Ps) => pu_semi (M0.1 5 0) len ((s'.w 10 (6 * r + c) (way * v)).w 6 r (nI (c + 1)))) : z_Run X 5 mX5_readsRule (fun v M' => (v = 0 ∨ v = 1) ∧ z_Oq M0 len fl v M' o) 235 [(0, zr 4 0), (1, zi (nI r)), (2, zi x), (4, zi way)] [] M := by
  refine z_go_run KSX5_readsRule [] 80 ?_
  refine u_next h (by decide) (fun r1 M1 q1 => ?_)
  refine u_num ho q1 (by decide) (fun M' e s' e1 e2 => ⟨fun w => absurd rfl w, fun _ => ⟨Or.inl rfl, Or.inl rfl, Oc_no e1 e2⟩⟩) (fun M3 v3 ev3 hv3 ho3 q3 => ?_)
  refine ⟨fun _ => ?_, fun w => absurd w (by decide)⟩
  refine ⟨hx2, ?_⟩
  have ecl : (nI r).toNatClampNeg = r := nI_clamp (by omega)
  have Q := Pc_w (w := way * M3.1 4 0 8) 10 (6 * r + c) (by decide) hx (by rw [ev3]) q3
  have ev6 : (z_s M3 (7 + 10) 1 x.toNatClampNeg (way * M3.1 4 0 8)).1 13 1 (nI r).toNatClampNeg + 1 = nI (c + 1) := by
    rw [ecl, z_gs, if_neg (by omega), ← nI_1]
    exact congrArg (· + 1) ((congrFun (q3.2.2.2.2.2.2 6 (by decide)) r).trans hV)
  have Q2 := Pc_w 6 r (by decide) ecl ev6 Q
  refine ⟨vp_in_nI hr (by omega), vp_in_nI hr (by omega), ?_⟩
  exact z_use (hX5_readsSemicolon M0 _ len fl _ Q2) (by decide) (fun v M' q => ⟨q.1, q.1, Oq_eq ho3 q.2⟩)
theorem rule165 {X : z_Cx} (M0 M : z_M) (len : Nat) (fl : Int32) (s : z_Ps) (r c : Nat) (x what side : Int32) (o : z_Po) (hr : r < 4) (hx : x.toNatClampNeg = 6 * r + c) (hx2 : vp_in x 24) (h : z_Pq M0 len fl M s) (hV : s.V 6 r = nI c) (ho : o = pu_ruleC (M0.1 5 0) len r c what side s) : z_Run X 5 mX5_readsRule (fun v M' => (v = 0 ∨ v = 1) ∧ z_Oq M0 len fl v M' o) 165 [(0, zr 4 0), (1, zi (nI r)), (2, zi x)] [] M := by
  unfold pu_ruleC at ho
  refine z_go_run KSX5_readsRule [(235, [0, 1, 2, 4])] 100 ?_
  refine u_next h (by decide) (fun r1 M1 q1 => ?_)
  refine u_num ho q1 (by decide) (fun M' e s' e1 e2 => ⟨fun w => absurd rfl w, fun _ => ⟨Or.inl rfl, Or.inl rfl, Oc_no e1 e2⟩⟩) (fun M2 v2 ev2 hv2 ho2 q2 => ?_)
  have hV2 : z_Ps.V (z_Ps.nx (M0.1 5 0) len (z_Ps.nx (M0.1 5 0) len s)) 6 r = nI c := hV
  generalize z_Ps.nx (M0.1 5 0) len (z_Ps.nx (M0.1 5 0) len s) = S at *
  refine ⟨fun _ => ?_, fun w => absurd w (by decide)⟩
  refine ⟨hx2, ?_⟩
  have Q := Pc_w 9 (6 * r + c) (by decide) hx ev2 q2
  have hV3 : (S.w 9 (6 * r + c) v2).V 6 r = nI c := (V_w (by decide)).trans hV2
  refine u_word Q 8 (by decide) (by decide) ?_
  refine ⟨fun g => ?_, fun g => ?_⟩ <;> rw [is_w] at g
  · refine u_word Q 8 (by decide) (by decide) ?_
    refine ⟨fun g2 => absurd g g2, fun _ => ?_⟩
    refine u_word Q 9 (by decide) (by decide) ?_
    have w8 := b2_0 g
    refine ⟨fun g3 => ?_, fun g3 => ?_⟩ <;> rw [is_w] at g3
    · have ho3 := ho2.trans (if_pos (Or.inr (b2_1 g3)))
      refine z_Run.eq (rule235 M0 _ len fl _ r c x _ o hr hx hx2 Q hV3 ho3) ?_ rfl
      rw [if_neg (by rw [w8]; decide)]
    · have ho3 := ho2.trans (if_neg (by rw [w8, b2_0 g3]; decide))
      refine z_uW (hX5_fails _ 1) (by decide) ?_
      exact ⟨Or.inl rfl, Or.inl rfl, Oc_no ho3 (Pc_fl Q)⟩
  · refine u_word Q 8 (by decide) (by decide) ?_
    refine ⟨fun _ => ?_, fun g2 => absurd g2 g⟩
    have w8 := b2_1 g
    have ho3 := ho2.trans (if_pos (Or.inl w8))
    refine z_Run.eq (rule235 M0 _ len fl _ r c x _ o hr hx hx2 Q hV3 ho3) ?_ rfl
    rw [if_pos w8]
theorem rule104 {X : z_Cx} (M0 M : z_M) (len : Nat) (fl : Int32) (s : z_Ps) (r c : Nat) (x what : Int32) (o : z_Po) (hr : r < 4) (hx : x.toNatClampNeg = 6 * r + c) (hx2 : vp_in x 24) (h : z_Pq M0 len fl M s) (hV : s.V 6 r = nI c) (ho : o = pu_ruleB (M0.1 5 0) len r c what ((s.w 7 (6 * r + c) what).nx (M0.1 5 0) len)) : z_Run X 5 mX5_readsRule (fun v M' => (v = 0 ∨ v = 1) ∧ z_Oq M0 len fl v M' o) 104 [(0, zr 4 0), (1, zi (nI r)), (2, zi x), (3, zi what)] [] M := by
  unfold pu_ruleB at ho
  have hV2 : z_Ps.V ((s.w 7 (6 * r + c) what).nx (M0.1 5 0) len) 6 r = nI c := (V_w (s := s) (f := 7) (j := 6 * r + c) (v := what) (by decide)).trans hV
  refine z_go_run KSX5_readsRule [(165, [0, 1, 2])] 100 ?_
  refine ⟨hx2, ?_⟩
  have Q := Pc_w (w := what) 7 (6 * r + c) (by decide) hx rfl h
  refine u_next Q (by decide) (fun r1 M1 q1 => ?_)
  generalize (s.w 7 (6 * r + c) what).nx (M0.1 5 0) len = S at *
  have hV3 : ∀ y, (S.w 8 (6 * r + c) y).V 6 r = nI c := fun y => (V_w (by decide)).trans hV2
  refine u_word q1 6 (by decide) (by decide) ?_
  refine ⟨fun g => ?_, fun g => ?_⟩
  · refine ⟨hx2, ?_⟩
    have w6 : ¬ S.is (M0.1 5 0) 6 = true := by rw [b2_0 g]; decide
    rw [if_neg w6] at ho
    have Q2 := Pc_w (w := 0) 8 (6 * r + c) (by decide) hx rfl q1
    refine u_word Q2 6 (by decide) (by decide) ?_
    refine ⟨fun g2 => absurd g g2, fun _ => ?_⟩
    refine u_word Q2 7 (by decide) (by decide) ?_
    refine ⟨fun g3 => ?_, fun g3 => ?_⟩ <;> rw [is_w] at g3
    · exact rule165 M0 _ len fl _ r c x what 0 o hr hx hx2 Q2 (hV3 0) (ho.trans (if_pos (Or.inr (b2_1 g3))))
    · have ho3 := ho.trans (if_neg (fun w => w.elim w6 (fun q => by rw [b2_0 g3] at q; exact absurd q (by decide))))
      refine z_uW (hX5_fails _ 1) (by decide) ?_
      exact ⟨Or.inl rfl, Or.inl rfl, Oc_no ho3 (Pc_fl Q2)⟩
  · refine ⟨hx2, ?_⟩
    have w6 := b2_1 g
    rw [if_pos w6] at ho
    have Q2 := Pc_w (w := 1) 8 (6 * r + c) (by decide) hx rfl q1
    refine u_word Q2 6 (by decide) (by decide) ?_
    refine ⟨fun _ => ?_, fun g2 => absurd g2 g⟩
    exact rule165 M0 _ len fl _ r c x what 1 o hr hx hx2 Q2 (hV3 1) (ho.trans (if_pos (Or.inl w6)))
theorem hX5_readsRule {X : z_Cx} (M0 M : z_M) (len : Nat) (fl : Int32) (s : z_Ps) (h : z_Pq M0 len fl M s) (hr1 : 1 ≤ s.r) (hr4 : s.r ≤ 4) (c : Nat) (hc : c ≤ 6) (hV : s.V 6 (s.r - 1) = nI c) : z_Con X 5 mX5_readsRule [zr 4 0, zi (nI (s.r - 1))] M (fun v M' => (v = 0 ∨ v = 1) ∧ z_Oq M0 len fl v M' (pu_ruleP (M0.1 5 0) len s)) := by
  generalize ho : pu_ruleP (M0.1 5 0) len s = o
  unfold pu_ruleP at ho
  have er := h.2.2.2.2.2.1.2.1
  rw [hV, nI_clamp (by omega)] at ho
  generalize e : s.r - 1 = r at *
  have ecl : (nI r).toNatClampNeg = r := nI_clamp (by omega)
  have e13 : M.1 13 1 (nI r).toNatClampNeg = nI c := by
    rw [ecl]
    exact (congrFun (h.2.2.2.2.2.2 6 (by decide)) r).trans hV
  have hh : z_Con X 1 mX2_hasRunner [zr 6 1, zi (nI r)] M (fun v M' => M' = M ∧ v = 1) := by
    refine (hX2_hasRunner M 1 (nI r)).to ?_
    rw [er, if_pos]
    refine ⟨nI_pos' (by omega), ?_⟩
    rw [show s.r = r + 1 by omega, ← nI_1]
    exact Int32.le_of_eq (by grind)
  refine z_mg KSX5_readsRule [(104, [0, 1, 2, 3])] 120 (by decide +kernel) rfl ?_
  refine z_uR hh (by decide) ?_
  refine ⟨fun _ => ?_, fun w => absurd w (by decide)⟩
  refine ⟨vp_in_nI (by omega) (by omega), ?_⟩
  refine ⟨fun g => ?_, fun g => ?_⟩ <;> rw [e13] at g
  · have hc6 : c < 6 := Classical.byContradiction (fun w => absurd g (Int32.not_lt.2 (nI_le (a := 6) (by omega) (by omega))))
    rw [if_pos g] at ho
    unfold pu_ruleA at ho
    have ex : nI r * 6 + M.1 13 1 (nI r).toNatClampNeg = nI (6 * r + c) := by
      rw [e13]
      show nI r * nI 6 + nI c = _
      rw [pk_mul, nI_add, Nat.mul_comm]
    have hx : (nI r * 6 + M.1 13 1 (nI r).toNatClampNeg).toNatClampNeg = 6 * r + c := by
      rw [ex]
      exact nI_clamp (by omega)
    have hx2 : vp_in (nI r * 6 + M.1 13 1 (nI r).toNatClampNeg) 24 := by
      rw [ex]
      exact vp_in_nI (by omega) (by omega)
    refine ⟨vp_in_nI (by omega) (by omega), ?_⟩
    refine u_next h (by decide) (fun r1 M1 q1 => ?_)
    have hV2 : (s.nx (M0.1 5 0) len).V 6 r = nI c := hV
    generalize s.nx (M0.1 5 0) len = S at *
    refine u_word q1 4 (by decide) (by decide) ?_
    refine ⟨fun g1 => ?_, fun g1 => ?_⟩
    · rw [if_neg (by rw [b2_0 g1]; decide)] at ho
      refine u_word q1 5 (by decide) (by decide) ?_
      refine ⟨fun g2 => ?_, fun g2 => ?_⟩
      · rw [if_neg (by rw [b2_0 g2]; decide)] at ho
        refine ⟨fun w => absurd rfl w, fun _ => ?_⟩
        refine u_word q1 0 (by decide) (by decide) ?_
        refine ⟨fun g3 => ?_, fun g3 => ?_⟩
        · rw [if_pos (b2_1 g3)] at ho
          exact rule104 M0 M1 len fl S r c _ 2 o (by omega) hx hx2 q1 hV2 ho.symm
        · rw [if_neg (by rw [b2_0 g3]; decide)] at ho
          refine z_uW (hX5_fails _ 1) (by decide) ?_
          exact ⟨Or.inl rfl, Or.inl rfl, Oc_no ho.symm (Pc_fl q1)⟩
      · rw [if_pos (b2_1 g2)] at ho
        refine ⟨fun _ => ?_, fun w => absurd w (by decide)⟩
        exact rule104 M0 M1 len fl S r c _ 1 o (by omega) hx hx2 q1 hV2 ho.symm
    · rw [if_pos (b2_1 g1)] at ho
      refine ⟨fun _ => ?_, fun w => absurd w (by decide)⟩
      exact rule104 M0 M1 len fl S r c _ 0 o (by omega) hx hx2 q1 hV2 ho.symm
  · rw [if_neg g] at ho
    refine z_uW (hX5_fails M 3) (by decide) ?_
    exact ⟨Or.inl rfl, Or.inl rfl, Oc_no ho.symm (Pc_fl h)⟩
