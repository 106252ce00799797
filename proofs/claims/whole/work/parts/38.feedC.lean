/-! ===== the class: feed, count, hour ===== -/
def pu_by (w : Int64) (k : Nat) : Int32 := (w >>> ((8 * nI k).toInt64 &&& 63)).toInt32.toInt8.toInt32.toInt8.toInt32
/-- j of n bytes have come behind len -/
def z_tk (M : z_M) (w : Int64) (len n j : Nat) : z_M := z_s (z_sr M 5 0 (fun x => if len ≤ x ∧ x < len + j then pu_by w (n - 1 - (x - len)) else M.1 5 0 x)) 4 0 2 (nI (len + j))
theorem z_tk_step {M : z_M} {w : Int64} {len n j : Nat} : z_s (z_s (z_tk M w len n j) 5 0 (len + j) (pu_by w (n - 1 - j))) 4 0 2 (nI (len + j) + 1) = z_tk M w len n (j + 1) := by
  unfold z_tk
  rw [nI_1, show len + j + 1 = len + (j + 1) by omega]
  refine Prod.ext ?_ rfl
  funext a b c
  show (if a = 4 ∧ b = 0 ∧ c = 2 then nI (len + (j + 1)) else if a = 5 ∧ b = 0 ∧ c = len + j then pu_by w (n - 1 - j) else if a = 4 ∧ b = 0 ∧ c = 2 then nI (len + j) else if a = 5 ∧ b = 0 then (if len ≤ c ∧ c < len + j then pu_by w (n - 1 - (c - len)) else M.1 5 0 c) else M.1 a b c) = (if a = 4 ∧ b = 0 ∧ c = 2 then nI (len + (j + 1)) else if a = 5 ∧ b = 0 then (if len ≤ c ∧ c < len + (j + 1) then pu_by w (n - 1 - (c - len)) else M.1 5 0 c) else M.1 a b c)
  by_cases h1 : a = 4 ∧ b = 0 ∧ c = 2
  · rw [if_pos h1, if_pos h1]
  · rw [if_neg h1, if_neg h1, if_neg h1]
    by_cases h2 : a = 5 ∧ b = 0
    · rw [if_pos h2, if_pos h2]
      by_cases h3 : c = len + j
      · rw [if_pos ⟨h2.1, h2.2, h3⟩, if_pos (by omega), show c - len = j by omega]
      · rw [if_neg (fun w => h3 w.2.2)]
        by_cases h4 : len ≤ c ∧ c < len + j
        · rw [if_pos h4, if_pos (by omega)]
        · rw [if_neg h4, if_neg (by omega)]
    · rw [if_neg h2, if_neg h2, if_neg (fun w => h2 ⟨w.1, w.2.1⟩)]
theorem lX5_takes {X : z_Cx} (M : z_M) (w : Int64) (len n : Nat) (hn : n ≤ 8) (hl : len + n ≤ 600) : ∀ (r j : Nat), j + r = n → z_Run X 0 mX5_takes (fun v M' => v = 1 ∧ M' = z_tk M w len n n) 19 [(0, zr 4 0), (1, zl w), (3, zi (nI n)), (4, zi (nI r + (-1)))] [] (z_tk M w len n j) := by
  intro r
  induction r with
  | zero =>
    intro j hj
    refine z_go_run KX5_takes [(19, [0, 1, 3, 4])] 60 ?_
    refine ⟨fun h => ?_, fun h => ?_⟩
    · have e : j = n := by omega
      subst e
      exact ⟨Or.inr rfl, rfl, rfl⟩
    · exact absurd (by decide) h
  | succ r ih =>
    intro j hj
    rw [z_m1]
    have e42 : (z_tk M w len n j).1 4 0 2 = nI (len + j) := by
      unfold z_tk
      rw [z_gs, if_pos ⟨rfl, rfl, rfl⟩]
    have elj : (nI (len + j)).toNatClampNeg = len + j := nI_clamp (by omega)
    refine z_go_run KX5_takes [(19, [0, 1, 3, 4])] 60 ?_
    refine ⟨fun h => ?_, fun h => ?_⟩
    · exact absurd h (nI_pos (by omega))
    · refine ⟨by rw [e42]; exact vp_in_nI (by omega) (by omega), ?_⟩
      have h1 := ih (j + 1) (by omega)
      rw [← z_tk_step (j := j)] at h1
      show z_Run X 0 _ _ 19 [(0, zr 4 0), (1, zl w), (3, zi (nI n)), (4, zi (nI r + (-1)))] [] (z_s (z_s (z_tk M w len n j) 5 0 ((z_tk M w len n j).1 4 0 2).toNatClampNeg (pu_by w r)) 4 0 2 ((z_tk M w len n j).1 4 0 2 + 1))
      rw [e42, elj]
      rw [show n - 1 - j = r by omega] at h1
      exact h1
theorem hX5_takes {X : z_Cx} (M : z_M) (w : Int64) (len n : Nat) (hn1 : 1 ≤ n) (hn : n ≤ 8) (hl6 : len ≤ 600) (hl : M.1 4 0 2 = nI len) : z_Con X 0 mX5_takes [zr 4 0, zl w, zi (nI n)] M (fun v M' => (600 < len + n ∧ v = 0 ∧ M' = M) ∨ (len + n ≤ 600 ∧ v = 1 ∧ M' = z_tk M w len n n)) := by
  refine z_mg KX5_takes [(19, [0, 1, 3, 4])] 60 (by decide +kernel) rfl ?_
  have e600 : 600 - nI len = nI (600 - len) := by
    have h2 : nI (600 - len) + nI len = nI 600 := by rw [nI_add, show 600 - len + len = 600 by omega]
    have h3 : (600 : Int32) = nI (600 - len) + nI len := h2.symm
    rw [h3]
    grind
  refine ⟨fun h => ?_, fun h => ?_⟩ <;> rw [hl, e600] at h
  · have hle : len + n ≤ 600 := by
      rw [nI_leI (by omega) (by omega)] at h
      omega
    have h1 := lX5_takes (X := X) M w len n hn hle n 0 (by omega)
    have e0 : z_tk M w len n 0 = M := by
      unfold z_tk
      rw [z_sr_self (by funext x; exact if_neg (by omega))]
      refine Prod.ext ?_ rfl
      funext a b c
      show (if a = 4 ∧ b = 0 ∧ c = 2 then nI (len + 0) else M.1 a b c) = M.1 a b c
      by_cases e : a = 4 ∧ b = 0 ∧ c = 2
      · rw [if_pos e, e.1, e.2.1, e.2.2, hl]; rfl
      · rw [if_neg e]
    rw [e0] at h1
    have h2 := z_Run.post h1 (R' := fun v M' => (600 < len + n ∧ v = 0 ∧ M' = M) ∨ (len + n ≤ 600 ∧ v = 1 ∧ M' = z_tk M w len n n)) (fun v M' e => Or.inr ⟨hle, e.1, e.2⟩)
    rw [← Int32.sub_eq_add_neg] at h2
    exact h2
  · refine ⟨Or.inl rfl, Or.inl ⟨?_, rfl, rfl⟩⟩
    rw [nI_leI (by omega) (by omega)] at h
    omega
theorem hX9_feed {X : z_Cx} (M : z_M) (w : Int64) (n : Int32) (len : Nat) (hl6 : len ≤ 600) (hl : M.1 4 0 2 = nI len) : z_Con X 1 mX9_feed [zr 0 0, zl w, zi n] M (fun v M' => (¬ (1 ≤ n ∧ n ≤ 8) ∧ v = -1000001 ∧ M' = M) ∨ (∃ c, 1 ≤ c ∧ c ≤ 8 ∧ n = nI c ∧ ((600 < len + c ∧ v = -1000003 ∧ M' = M) ∨ (len + c ≤ 600 ∧ v = nI (len + c) ∧ M' = z_tk M w len c c)))) := by
  refine z_mg KX9_feed [] 60 (by decide +kernel) rfl ?_
  refine z_uR (hX9_within n 1 8 M) (by decide) ?_
  refine ⟨fun h => ?_, fun h => ?_⟩
  · have hn : 1 ≤ n ∧ n ≤ 8 := by grind
    obtain ⟨c, hc, ec⟩ := nI_of (x := n) (Int32.not_lt.mpr (Int32.le_trans (by decide) hn.1))
    subst ec
    have h1 : 1 ≤ c := (nI_leI (a := 1) (by omega) hc).mp hn.1
    have h8 : c ≤ 8 := (nI_leI (b := 8) hc (by omega)).mp hn.2
    refine z_use (hX5_takes M w len c h1 h8 hl6 hl) (by decide) (fun v M' hp => ?_)
    rcases hp with ⟨g1, g2, g3⟩ | ⟨g1, g2, g3⟩
    · rw [g2, g3]
      refine ⟨fun _ => ?_, fun h2 => absurd rfl h2⟩
      exact Or.inr ⟨c, h1, h8, rfl, Or.inl ⟨g1, rfl, rfl⟩⟩
    · rw [g2, g3]
      refine ⟨fun h2 => absurd h2 (by decide), fun _ => ?_⟩
      refine Or.inr ⟨c, h1, h8, rfl, Or.inr ⟨g1, ?_, rfl⟩⟩
      unfold z_tk
      rw [z_gs, if_pos ⟨rfl, rfl, rfl⟩]
  · exact Or.inl ⟨by grind, rfl, rfl⟩
theorem lX9_sheetsThere {X : z_Cx} (M : z_M) : ∀ (u t : Nat), t + u = 8 → z_Run X 1 mX9_sheetsThere (fun r M' => M' = M ∧ r = pu_sum (fun s => if M.1 2 s 1 = -1 then 0 else 1) 8) 4 [(0, zr 0 0), (1, zi (pu_sum (fun s => if M.1 2 s 1 = -1 then 0 else 1) t)), (2, zi (nI t))] [] M := by
  intro u
  induction u with
  | zero =>
    intro t ht
    have e : t = 8 := by omega
    subst e
    refine z_go_run KX9_sheetsThere [(4, [0, 1, 2])] 60 ?_
    refine ⟨fun h => ?_, fun h => ?_⟩
    · exact ⟨rfl, rfl⟩
    · exact absurd (by decide) h
  | succ u ih =>
    intro t ht
    have et : (nI t).toNatClampNeg = t := nI_clamp (by omega)
    have h1 := ih (t + 1) (by omega)
    rw [← nI_1 t, show pu_sum (fun s => if M.1 2 s 1 = -1 then (0 : Int32) else 1) (t + 1) = pu_sum (fun s => if M.1 2 s 1 = -1 then 0 else 1) t + (if M.1 2 t 1 = -1 then 0 else 1) from rfl] at h1
    refine z_go_run KX9_sheetsThere [(4, [0, 1, 2])] 60 ?_
    refine ⟨fun h => ?_, fun h => ?_⟩
    · exact absurd h (nI_ge (a := t) (b := 8) (by omega) (by omega))
    · refine ⟨vp_in_nI (by omega) (by omega), ?_⟩
      refine z_uR (hX7_isMissing (nI t).toNatClampNeg M) (by decide) ?_
      rw [et]
      refine ⟨fun h2 => ?_, fun h2 => ?_⟩
      · have e : M.1 2 t 1 = -1 := by grind
        rw [if_pos e, Int32.add_zero] at h1
        exact h1
      · have e : ¬ M.1 2 t 1 = -1 := by grind
        rw [if_neg e] at h1
        exact h1
theorem hX9_sheetsThere {X : z_Cx} (M : z_M) : z_Con X 1 mX9_sheetsThere [zr 0 0] M (fun r M' => M' = M ∧ r = pu_sum (fun s => if M.1 2 s 1 = -1 then 0 else 1) 8) := by
  refine z_mg KX9_sheetsThere [(4, [0, 1, 2])] 60 (by decide +kernel) rfl ?_
  exact lX9_sheetsThere M 8 0 rfl
def pu_count (M : z_M) (nr : Nat) (x : Int32) : Int32 := if x = 0 then pu_sum (fun s => if M.1 2 s 1 = -1 then 0 else 1) 8 else if x = 1 then M.1 6 0 1 else if x = 2 then M.1 6 0 5 else if x = 3 then M.1 6 0 14 else if x = 4 then pu_sum (M.1 13 0) nr else if x = 5 then M.1 4 0 2 else if x = 6 then (if M.1 21 0 3 = 0 then 0 else 1) else -1000001
theorem hX9_count {X : z_Cx} (M : z_M) (nr : Nat) (hn : nr ≤ 4) (hr : M.1 6 0 5 = nI nr) (x : Int32) : z_Con X 2 mX9_count [zr 0 0, zi x] M (fun r M' => M' = M ∧ r = pu_count M nr x) := by
  refine z_mg KX9_count [] 60 (by decide +kernel) rfl ?_
  unfold pu_count
  refine ⟨fun h => ?_, fun h0 => ⟨fun h => ?_, fun h1 => ⟨fun h => ?_, fun h2 => ⟨fun h => ?_, fun h3 => ⟨fun h => ?_, fun h4 => ⟨fun h => ?_, fun h5 => ⟨fun h => ?_, fun h6 => ?_⟩⟩⟩⟩⟩⟩⟩
  · refine z_uR (hX9_sheetsThere M) (by decide) ?_
    exact ⟨rfl, (if_pos h).symm⟩
  · exact ⟨rfl, by rw [if_neg h0, if_pos h]⟩
  · exact ⟨rfl, by rw [if_neg h0, if_neg h1, if_pos h]⟩
  · exact ⟨rfl, by rw [if_neg h0, if_neg h1, if_neg h2, if_pos h]⟩
  · refine z_uR (hX2_rulesOfAll M 0 nr hn hr) (by decide) ?_
    exact ⟨rfl, by rw [if_neg h0, if_neg h1, if_neg h2, if_neg h3, if_pos h]⟩
  · exact ⟨rfl, by rw [if_neg h0, if_neg h1, if_neg h2, if_neg h3, if_neg h4, if_pos h]⟩
  · refine ⟨fun h7 => ?_, fun h7 => ?_⟩
    · exact ⟨rfl, by rw [if_neg h0, if_neg h1, if_neg h2, if_neg h3, if_neg h4, if_neg h5, if_pos h, if_pos h7]⟩
    · exact ⟨rfl, by rw [if_neg h0, if_neg h1, if_neg h2, if_neg h3, if_neg h4, if_neg h5, if_pos h, if_neg h7]⟩
  · exact ⟨rfl, by rw [if_neg h0, if_neg h1, if_neg h2, if_neg h3, if_neg h4, if_neg h5, if_neg h6]⟩
