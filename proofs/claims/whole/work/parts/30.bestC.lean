/-! ===== the class alone: the paces of the least time ===== -/
/-- the memory has the least times -/
def z_Lt (M : z_M) (n nm : Nat) : Prop := M.1 30 0 9 = nI n ∧ M.1 30 0 7 = nI nm ∧ (∀ k, k < 31 → M.1 31 0 k = pu_sec k) ∧ ∀ j, j ≤ nm → ∀ x, x ≤ n → M.1 40 j x = pu_G (M.1 35) (M.1 30 0 9) nm (nm - j) x
theorem z_Sv.lt {M0 M : z_M} {n nm : Nat} (h : z_Sv M0 M n nm 0) (hm : M0.1 30 0 7 = nI nm) (hst : M0.1 30 0 9 = nI n) (hs : ∀ k, k < 31 → M0.1 31 0 k = pu_sec k) : z_Lt M n nm := by
  have e30 : M.1 30 = M0.1 30 := h.1.2 30 (by decide)
  have e35 : M.1 35 = M0.1 35 := h.1.2 35 (by decide)
  have e31 : M.1 31 = M0.1 31 := h.1.2 31 (by decide)
  refine ⟨by rw [e30]; exact hst, by rw [e30]; exact hm, fun k hk => by rw [e31]; exact hs k hk, fun j hj x hx => ?_⟩
  rw [e30, e35]
  exact h.2 j (Nat.zero_le j) hj x hx
theorem lb_cases {C : Nat → Nat → Int32} {st left : Int32} {n a b : Nat} (hs : st = nI n) (hn : n ≤ 99) (h : ¬ pu_lb C st a b left < 0) : ∃ l, l ≤ n ∧ pu_lb C st a b left = nI l := by
  unfold pu_lb at h ⊢
  by_cases e : 0 ≤ left + C a b
  · rw [if_pos e] at h ⊢
    obtain ⟨j, hj, ej⟩ := nI_of (x := if left + C a b < st then left + C a b else st) h
    have h2 := ix_le (x := left + C a b) hs (by omega) e
    rw [ej, nI_clamp hj] at h2
    exact ⟨j, h2, ej⟩
  · rw [if_neg e] at h
    exact absurd (by decide) h
def pu_lf (C : Nat → Nat → Int32) (st : Int32) (nm b : Nat) : Int32 := if pu_lb C st 0 b st < 0 then 1000000000 else pu_sec b + pu_G C st nm (nm - 1) (pu_lb C st 0 b st).toNatClampNeg
theorem hX0_leastFrom {X : z_Cx} (M : z_M) (n nm b : Nat) (hn : n ≤ 99) (h1 : 1 ≤ nm) (hnm : nm ≤ 12) (hb : b < 31) (hL : z_Lt M n nm) : z_Con X 2 mX0_leastFrom [zr 30 0, zi (nI (10 + b))] M (fun r M' => M' = M ∧ r = pu_lf (M.1 35) (M.1 30 0 9) nm b) := by
  refine z_mg KX0_leastFrom [] 60 (by decide +kernel) rfl ?_
  refine z_uR (hX0_leftB M 0 b (M.1 30 0 9) (by omega) hb) (by decide) ?_
  refine ⟨fun h => ?_, fun h => ?_⟩
  · refine z_uR (hX9_secondsI (nI (10 + b)) M (z_10 hb).1.1) (by decide) ?_
    obtain ⟨l, hl, el⟩ := lb_cases (C := M.1 35) (left := M.1 30 0 9) (a := 0) (b := b) hL.1 hn (Int32.not_lt.mpr h)
    refine ⟨vin (by decide) (by decide), ?_, rfl, ?_⟩
    · rw [el]
      exact vp_in_nI (by omega) (by omega)
    · unfold pu_lf
      rw [if_neg (Int32.not_lt.mpr h), el, nI_clamp (n := l) (by omega)]
      show 12000 / nI (10 + b) + M.1 40 1 l = _
      rw [hL.2.2.2 1 h1 l hl]
      rfl
  · exact ⟨rfl, by unfold pu_lf; rw [if_pos (Int32.not_le.mp h)]⟩
/-- the first pace by which the least time is met (10, if none) -/
def pu_fp (C : Nat → Nat → Int32) (st : Int32) (nm m : Nat) (left : Int32) : Nat → Nat → Nat
  | 0, _ => 0
  | u + 1, b => if ¬ pu_lb C st m b left < 0 ∧ pu_sec b + pu_G C st nm (nm - (m + 1)) (pu_lb C st m b left).toNatClampNeg = pu_G C st nm (nm - m) left.toNatClampNeg then b else pu_fp C st nm m left u (b + 1)
theorem fp_lt {C : Nat → Nat → Int32} {st : Int32} {nm m : Nat} {left : Int32} : ∀ (u b : Nat), b + u = 31 → pu_fp C st nm m left u b < 31 := by
  intro u
  induction u with
  | zero => intro b _; exact Nat.zero_lt_succ 30
  | succ u ih =>
    intro b hb
    unfold pu_fp
    split
    · omega
    · exact ih (b + 1) (by omega)
theorem lX0_firstPace {X : z_Cx} (M : z_M) (n nm m l : Nat) (hn : n ≤ 99) (hm : m < nm) (hnm : nm ≤ 12) (hl : l ≤ n) (hL : z_Lt M n nm) : ∀ (u b : Nat), b + u = 31 → z_Run X 2 mX0_firstPace (fun r M' => M' = M ∧ r = nI (10 + pu_fp (M.1 35) (M.1 30 0 9) nm m (nI l) u b)) 3 [(0, zr 30 0), (1, zi (nI m)), (2, zi (nI l)), (3, zi (nI (10 + b)))] [] M := by
  have em : (nI m).toNatClampNeg = m := nI_clamp (by omega)
  have em1 : (nI m + 1).toNatClampNeg = m + 1 := by rw [nI_1]; exact nI_clamp (by omega)
  have el : (nI l).toNatClampNeg = l := nI_clamp (by omega)
  intro u
  induction u with
  | zero =>
    intro b hb
    refine z_go_run KX0_firstPace [(3, [0, 1, 2, 3])] 60 ?_
    refine ⟨fun h => ?_, fun h => ?_⟩
    · exact ⟨rfl, rfl⟩
    · exact absurd (nI_lt (a := 40) (b := 10 + b) (by omega) (by omega)) h
  | succ u ih =>
    intro b hb
    have hnext : ¬ (¬ pu_lb (M.1 35) (M.1 30 0 9) m b (nI l) < 0 ∧ pu_sec b + pu_G (M.1 35) (M.1 30 0 9) nm (nm - (m + 1)) (pu_lb (M.1 35) (M.1 30 0 9) m b (nI l)).toNatClampNeg = pu_G (M.1 35) (M.1 30 0 9) nm (nm - m) (nI l).toNatClampNeg) → z_Run X 2 mX0_firstPace (fun r M' => M' = M ∧ r = nI (10 + pu_fp (M.1 35) (M.1 30 0 9) nm m (nI l) (u + 1) b)) 3 [(0, zr 30 0), (1, zi (nI m)), (2, zi (nI l)), (3, zi (nI (10 + b) + 1))] [] M := by
      intro hc
      have e : pu_fp (M.1 35) (M.1 30 0 9) nm m (nI l) (u + 1) b = pu_fp (M.1 35) (M.1 30 0 9) nm m (nI l) u (b + 1) := if_neg hc
      rw [e, nI_1]
      exact ih (b + 1) (by omega)
    refine z_go_run KX0_firstPace [(3, [0, 1, 2, 3])] 60 ?_
    refine ⟨fun h => ?_, fun h => ?_⟩
    · exact absurd h (nI_nlt (a := 40) (b := 10 + b) (by omega) (by omega))
    · refine z_uR (hX0_leftB M m b (nI l) (by omega) (by omega)) (by decide) ?_
      refine ⟨fun h2 => ?_, fun h2 => ?_⟩
      · exact hnext (fun w => w.1 h2)
      · obtain ⟨j, hj, ej⟩ := lb_cases (C := M.1 35) (left := nI l) (a := m) (b := b) hL.1 hn h2
        refine z_uR (hX9_secondsI (nI (10 + b)) M (z_10 (by omega)).1.1) (by decide) ?_
        refine ⟨by rw [nI_1]; exact vp_in_nI (by omega) (by omega), by rw [ej]; exact vp_in_nI (by omega) (by omega), vp_in_nI (by omega) (by omega), vp_in_nI (by omega) (by omega), ?_⟩
        have key : (pu_sec b + pu_G (M.1 35) (M.1 30 0 9) nm (nm - (m + 1)) (pu_lb (M.1 35) (M.1 30 0 9) m b (nI l)).toNatClampNeg = pu_G (M.1 35) (M.1 30 0 9) nm (nm - m) (nI l).toNatClampNeg) ↔ (12000 / nI (10 + b) + M.1 40 (nI m + 1).toNatClampNeg (pu_lb (M.1 35) (M.1 30 0 9) m b (nI l)).toNatClampNeg = M.1 40 (nI m).toNatClampNeg (nI l).toNatClampNeg) := by
          rw [em, em1, el, ej, nI_clamp (n := j) (by omega), hL.2.2.2 (m + 1) (by omega) j hj, hL.2.2.2 m (by omega) l hl]
          exact Iff.rfl
        refine ⟨fun h3 => ?_, fun h3 => ?_⟩
        · exact hnext (fun w => h3 (key.mp w.2))
        · refine ⟨rfl, ?_⟩
          have e : pu_fp (M.1 35) (M.1 30 0 9) nm m (nI l) (u + 1) b = b := if_pos ⟨h2, key.mpr h3⟩
          rw [e]
theorem hX0_firstPace {X : z_Cx} (M : z_M) (n nm m l : Nat) (hn : n ≤ 99) (hm : m < nm) (hnm : nm ≤ 12) (hl : l ≤ n) (hL : z_Lt M n nm) : z_Con X 2 mX0_firstPace [zr 30 0, zi (nI m), zi (nI l)] M (fun r M' => M' = M ∧ r = nI (10 + pu_fp (M.1 35) (M.1 30 0 9) nm m (nI l) 31 0)) := by
  refine z_mg KX0_firstPace [(3, [0, 1, 2, 3])] 60 (by decide +kernel) rfl ?_
  exact lX0_firstPace M n nm m l hn hm hnm hl hL 31 0 rfl
/-- behind t miles of BEST: the latest pace, what is left -/
def pu_pb (C : Nat → Nat → Int32) (st : Int32) (nm : Nat) : Nat → Nat × Int32
  | 0 => (0, st)
  | t + 1 => if (pu_pb C st nm t).2 < 0 then pu_pb C st nm t else (pu_fp C st nm t (pu_pb C st nm t).2 31 0, pu_lb C st t (pu_fp C st nm t (pu_pb C st nm t).2 31 0) (pu_pb C st nm t).2)
theorem pb_stop {C : Nat → Nat → Int32} {st : Int32} {nm t : Nat} (h : (pu_pb C st nm t).2 < 0) : ∀ u, pu_pb C st nm (t + u) = pu_pb C st nm t := by
  intro u
  induction u with
  | zero => rfl
  | succ u ih =>
    show (if (pu_pb C st nm (t + u)).2 < 0 then pu_pb C st nm (t + u) else _) = _
    rw [ih, if_pos h]
theorem pb_left {C : Nat → Nat → Int32} {st : Int32} {n nm : Nat} (hs : st = nI n) (hn : n ≤ 99) : ∀ t, ¬ (pu_pb C st nm t).2 < 0 → ∃ l, l ≤ n ∧ (pu_pb C st nm t).2 = nI l := by
  intro t
  cases t with
  | zero => intro _; exact ⟨n, Nat.le_refl n, hs⟩
  | succ t =>
    intro h
    unfold pu_pb at h ⊢
    by_cases e : (pu_pb C st nm t).2 < 0
    · rw [if_pos e] at h
      exact absurd e h
    · rw [if_neg e] at h ⊢
      exact lb_cases hs hn h
theorem lX0_paceOfBest {X : z_Cx} (M : z_M) (n nm k : Nat) (hn : n ≤ 99) (hk : k < nm) (hnm : nm ≤ 12) (hL : z_Lt M n nm) : ∀ (u t : Nat), t + u = k + 1 → z_Run X 3 mX0_paceOfBest (fun r M' => M' = M ∧ r = nI (10 + (pu_pb (M.1 35) (M.1 30 0 9) nm (k + 1)).1)) 11 [(0, zr 30 0), (1, zi (nI k)), (2, zi (pu_pb (M.1 35) (M.1 30 0 9) nm t).2), (3, zi (nI (10 + (pu_pb (M.1 35) (M.1 30 0 9) nm t).1))), (4, zi (nI t))] [] M := by
  intro u
  induction u with
  | zero =>
    intro t ht
    refine z_go_run KX0_paceOfBest [(11, [0, 1, 2, 3, 4])] 60 ?_
    refine ⟨fun h => ?_, fun h => ?_⟩
    · refine ⟨rfl, ?_⟩
      rw [show t = k + 1 by omega]
    · exact absurd (nI_lt (by omega) (by omega)) h
  | succ u ih =>
    intro t ht
    refine z_go_run KX0_paceOfBest [(11, [0, 1, 2, 3, 4])] 60 ?_
    refine ⟨fun h => ?_, fun h => ?_⟩
    · exact absurd h (nI_nlt (by omega) (by omega))
    · refine ⟨fun h2 => ?_, fun h2 => ?_⟩ <;> rw [hL.2.1] at h2
      · exact absurd h2 (nI_ge (by omega) (by omega))
      · refine ⟨fun h3 => ?_, fun h3 => ?_⟩
        · refine ⟨rfl, ?_⟩
          rw [← ht, pb_stop h3]
        · obtain ⟨l, hl, el⟩ := pb_left (C := M.1 35) (nm := nm) hL.1 hn t h3
          have h4 := ih (t + 1) (by omega)
          have ep : pu_pb (M.1 35) (M.1 30 0 9) nm (t + 1) = (pu_fp (M.1 35) (M.1 30 0 9) nm t (pu_pb (M.1 35) (M.1 30 0 9) nm t).2 31 0, pu_lb (M.1 35) (M.1 30 0 9) t (pu_fp (M.1 35) (M.1 30 0 9) nm t (pu_pb (M.1 35) (M.1 30 0 9) nm t).2 31 0) (pu_pb (M.1 35) (M.1 30 0 9) nm t).2) := if_neg h3
          rw [ep, ← nI_1 t] at h4
          have hf := hX0_firstPace (X := X) M n nm t l hn (by omega) hnm hl hL
          rw [← el] at hf
          refine z_uR hf (by decide) ?_
          refine z_uR (hX0_leftB M t _ _ (by omega) (fp_lt 31 0 rfl)) (by decide) ?_
          exact h4
theorem hX0_paceOfBest {X : z_Cx} (M : z_M) (n nm k : Nat) (hn : n ≤ 99) (hk : k < nm) (hnm : nm ≤ 12) (hL : z_Lt M n nm) : z_Con X 3 mX0_paceOfBest [zr 30 0, zi (nI k)] M (fun r M' => M' = M ∧ r = nI (10 + (pu_pb (M.1 35) (M.1 30 0 9) nm (k + 1)).1)) := by
  refine z_mg KX0_paceOfBest [(11, [0, 1, 2, 3, 4])] 60 (by decide +kernel) rfl ?_
  exact lX0_paceOfBest M n nm k hn hk hnm hL (k + 1) 0 (by omega)
