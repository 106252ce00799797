/-! ===== the class alone: the least time, from the last mile back ===== -/
/-- the paces that are tried: from k - 1 down, those that leave more than all before -/
def pu_tr (c : Nat → Int32) : Nat → Int32 → List Nat
  | 0, _ => []
  | k + 1, most => if most < c k then k :: pu_tr c k (c k) else pu_tr c k most
def pu_row (acc : List Nat) (f : Nat → Int32) : Nat → Int32 := fun j => if j < acc.length then nI (acc.getD j 0) else f j
theorem pu_row_add {acc : List Nat} {f : Nat → Int32} {k : Nat} : (fun j => if j = acc.length then nI k else pu_row acc f j) = pu_row (acc ++ [k]) f := by
  funext j
  unfold pu_row
  rw [List.length_append, List.length_singleton]
  by_cases e : j = acc.length
  · subst e
    rw [if_pos rfl, if_pos (by omega)]
    simp
  · rw [if_neg e]
    by_cases h : j < acc.length
    · rw [if_pos h, if_pos (by omega)]
      simp [List.getD_eq_getElem?_getD, List.getElem?_append_left h]
    · rw [if_neg h, if_neg (by omega)]
theorem z_sr_s {M : z_M} {k i j : Nat} {f : Nat → Int32} {v : Int32} : z_s (z_sr M k i f) k i j v = z_sr M k i (fun x => if x = j then v else f x) := by
  refine Prod.ext ?_ rfl
  funext a b c
  show (if a = k ∧ b = i ∧ c = j then v else if a = k ∧ b = i then f c else M.1 a b c) = (if a = k ∧ b = i then (if c = j then v else f c) else M.1 a b c)
  grind
theorem tr_len {c : Nat → Int32} : ∀ (k : Nat) (most : Int32), (pu_tr c k most).length ≤ k := by
  intro k
  induction k with
  | zero => intro most; exact Nat.le_refl 0
  | succ k ih =>
    intro most
    unfold pu_tr
    by_cases h : most < c k
    · rw [if_pos h]; exact Nat.succ_le_succ (ih _)
    · rw [if_neg h]; exact Nat.le_succ_of_le (ih _)
theorem tr_lt {c : Nat → Int32} : ∀ (k : Nat) (most : Int32), ∀ x ∈ pu_tr c k most, x < k := by
  intro k
  induction k with
  | zero => intro most x hx; cases hx
  | succ k ih =>
    intro most x hx
    unfold pu_tr at hx
    by_cases h : most < c k
    · rw [if_pos h] at hx
      rcases List.mem_cons.mp hx with e | hx
      · omega
      · exact Nat.lt_succ_of_lt (ih _ x hx)
    · rw [if_neg h] at hx
      exact Nat.lt_succ_of_lt (ih _ x hx)
/-- the paces tried in mile m -/
def pu_L (C : Nat → Nat → Int32) (st : Int32) (m : Nat) : List Nat := pu_tr (C m) 31 (-st - 1)
/-- the memory behind chooseTries -/
def z_ct (M : z_M) (m : Nat) (L : List Nat) : z_M := z_s (z_sr M 37 m (pu_row L (M.1 37 m))) 38 0 m (nI L.length)
theorem lX0_chooseTries {X : z_Cx} (M : z_M) (m : Nat) (hm : m < 12) : ∀ (r : Nat) (acc : List Nat) (most : Int32), acc.length + r ≤ 31 → pu_L (M.1 35) (M.1 30 0 9) m = acc ++ pu_tr (M.1 35 m) r most → z_Run X 0 mX0_chooseTries (fun _ M' => M' = z_ct M m (pu_L (M.1 35) (M.1 30 0 9) m)) 14 [(0, zr 30 0), (1, zi (nI m)), (2, zi most), (3, zi (nI acc.length)), (4, zi (nI r + (-1)))] [] (z_sr M 37 m (pu_row acc (M.1 37 m))) := by
  have em : (nI m).toNatClampNeg = m := nI_clamp (by omega)
  intro r
  induction r with
  | zero =>
    intro acc most h1 h2
    refine z_go_run KX0_chooseTries [(14, [0, 1, 2, 3, 4])] 60 ?_
    refine ⟨fun h => ?_, fun h => ?_⟩
    · refine ⟨vp_in_nI hm (by omega), ?_⟩
      rw [h2, show acc ++ pu_tr (M.1 35 m) 0 most = acc from List.append_nil acc]
      show z_s (z_sr M 37 m (pu_row acc (M.1 37 m))) 38 0 (nI m).toNatClampNeg (nI acc.length) = _
      rw [em]
      exact rfl
    · exact absurd (by decide) h
  | succ r ih =>
    intro acc most h1 h2
    have ek : nI (r + 1) + (-1) = nI r := z_m1 r
    have er : (nI r).toNatClampNeg = r := nI_clamp (by omega)
    rw [ek]
    refine z_go_run KX0_chooseTries [(14, [0, 1, 2, 3, 4])] 60 ?_
    refine ⟨fun h => ?_, fun h => ?_⟩
    · exact absurd h (nI_pos (by omega))
    · refine ⟨vp_in_nI hm (by omega), vp_in_nI (by omega) (by omega), ?_⟩
      refine ⟨fun h3 => ?_, fun h3 => ?_⟩
      · have h3' : M.1 35 m r ≤ most := by
          have h4 : M.1 35 (nI m).toNatClampNeg (nI r).toNatClampNeg ≤ most := h3
          rw [em, er] at h4
          exact h4
        refine ih acc most (by omega) ?_
        rw [h2]
        show acc ++ (if most < M.1 35 m r then _ else pu_tr (M.1 35 m) r most) = _
        rw [if_neg (Int32.not_lt.mpr h3')]
      · have h3' : most < M.1 35 m r := by
          have h4 : ¬ M.1 35 (nI m).toNatClampNeg (nI r).toNatClampNeg ≤ most := h3
          rw [em, er] at h4
          exact Int32.not_le.mp h4
        refine ⟨vp_in_nI hm (by omega), vp_in_nI (by omega) (by omega), vp_in_nI hm (by omega), vp_in_nI (by omega) (by omega), ?_⟩
        have h5 := ih (acc ++ [r]) (M.1 35 m r) (by rw [List.length_append, List.length_singleton]; omega) (by
          rw [h2]
          show acc ++ (if most < M.1 35 m r then r :: pu_tr (M.1 35 m) r (M.1 35 m r) else _) = _
          rw [if_pos h3', List.append_assoc]
          rfl)
        rw [List.length_append, List.length_singleton, ← nI_1, ← pu_row_add, ← z_sr_s] at h5
        show z_Run X 0 _ _ 14 [(0, zr 30 0), (1, zi (nI m)), (2, zi (M.1 35 (nI m).toNatClampNeg (nI r).toNatClampNeg)), (3, zi (nI acc.length + 1)), (4, zi (nI r + (-1)))] [] (z_s (z_sr M 37 m (pu_row acc (M.1 37 m))) 37 (nI m).toNatClampNeg (nI acc.length).toNatClampNeg (nI r))
        rw [em, er, nI_clamp (n := acc.length) (by omega)]
        exact h5
theorem hX0_chooseTries {X : z_Cx} (M : z_M) (m : Nat) (hm : m < 12) : z_Con X 0 mX0_chooseTries [zr 30 0, zi (nI m)] M (fun _ M' => M' = z_ct M m (pu_L (M.1 35) (M.1 30 0 9) m)) := by
  refine z_mg KX0_chooseTries [(14, [0, 1, 2, 3, 4])] 60 (by decide +kernel) rfl ?_
  have h := lX0_chooseTries (X := X) M m hm 31 [] (-(M.1 30 0 9) - 1) (Nat.le_refl 31) rfl
  rw [z_sr_self (f := pu_row [] (M.1 37 m)) (by funext j; rfl)] at h
  exact h
/-- the least over the paces of a list -/
def pu_la (c bh : Nat → Int32) (st left : Int32) : List Nat → Int32 → Int32
  | [], b => b
  | k :: r, b => pu_la c bh st left r (if 0 ≤ left + c k then (if pu_sec k + bh (if left + c k < st then left + c k else st).toNatClampNeg < b then pu_sec k + bh (if left + c k < st then left + c k else st).toNatClampNeg else b) else b)
/-- the memory has the tries of mile m -/
def z_Tr (M : z_M) (m : Nat) (L : List Nat) : Prop := L.length ≤ 31 ∧ (∀ x ∈ L, x < 31) ∧ M.1 38 0 m = nI L.length ∧ ∀ j, j < L.length → M.1 37 m j = nI (L.getD j 0)
theorem lX0_leastAt {X : z_Cx} (M : z_M) (m : Nat) (left : Int32) (L : List Nat) (hm : m < 12) (hL : z_Tr M m L) (hs : ∀ k, k < 31 → M.1 31 0 k = pu_sec k) (hst : 0 ≤ M.1 30 0 9 ∧ M.1 30 0 9 ≤ 99) : ∀ (r acc : List Nat) (b : Int32), L = acc ++ r → z_Run X 0 mX0_leastAt (fun v M' => M' = M ∧ v = pu_la (M.1 35 m) (M.1 40 (m + 1)) (M.1 30 0 9) left r b) 32 [(0, zr 30 0), (1, zi (nI m)), (2, zi left), (3, zr 35 m), (4, zr 40 (m + 1)), (5, zr 37 m), (6, zi b), (7, zi (nI acc.length))] [] M := by
  have em : (nI m).toNatClampNeg = m := nI_clamp (by omega)
  obtain ⟨hl1, hl2, hl3, hl4⟩ := hL
  intro r
  induction r with
  | nil =>
    intro acc b h
    refine z_go_run KX0_leastAt [(32, [0, 1, 2, 3, 4, 5, 6, 7])] 60 ?_
    refine ⟨vp_in_nI hm (by omega), ?_⟩
    refine ⟨fun h1 => ?_, fun h1 => ?_⟩
    · exact ⟨rfl, rfl⟩
    · refine absurd ?_ h1
      rw [em, hl3, h, List.append_nil]
      exact Int32.le_refl _
  | cons k r ih =>
    intro acc b h
    have hlen : L.length = acc.length + (r.length + 1) := by rw [h, List.length_append]; rfl
    have ea : (nI acc.length).toNatClampNeg = acc.length := nI_clamp (by omega)
    have hk : k < 31 := hl2 k (by rw [h]; simp)
    have eK : M.1 37 m acc.length = nI k := by
      rw [hl4 acc.length (by omega), h]
      congr 1
      simp
    have ek : (nI k).toNatClampNeg = k := nI_clamp (by omega)
    have hn := fun b' => ih (acc ++ [k]) b' (by rw [h, List.append_assoc]; rfl)
    rw [List.length_append, List.length_singleton, ← nI_1] at hn
    refine z_go_run KX0_leastAt [(32, [0, 1, 2, 3, 4, 5, 6, 7])] 60 ?_
    refine ⟨vp_in_nI hm (by omega), ?_⟩
    refine ⟨fun h1 => ?_, fun h1 => ?_⟩
    · rw [em, hl3] at h1
      exact absurd h1 (nI_ge (by omega) (by omega))
    · refine ⟨vp_in_nI (by omega) (by omega), ?_⟩
      rw [ea, eK]
      refine ⟨vp_in_nI hk (by omega), ?_⟩
      rw [ek]
      refine ⟨fun h2 => ?_, fun h2 => ?_⟩
      · have h3 := hn b
        show z_Run X 0 _ (fun v M' => M' = M ∧ v = pu_la (M.1 35 m) (M.1 40 (m + 1)) (M.1 30 0 9) left r (if 0 ≤ left + M.1 35 m k then _ else b)) 32 _ _ _
        rw [if_neg (Int32.not_le.mpr h2)]
        exact h3
      · have h2' : 0 ≤ left + M.1 35 m k := Int32.not_lt.mp h2
        refine ⟨vp_in_nI hk (by omega), ?_⟩
        refine ⟨vin_le (c := 99) (by grind) (by grind) (by decide), ?_⟩
        have h3 := hn (if pu_sec k + M.1 40 (m + 1) (if left + M.1 35 m k < M.1 30 0 9 then left + M.1 35 m k else M.1 30 0 9).toNatClampNeg < b then pu_sec k + M.1 40 (m + 1) (if left + M.1 35 m k < M.1 30 0 9 then left + M.1 35 m k else M.1 30 0 9).toNatClampNeg else b)
        show z_Run X 0 _ (fun v M' => M' = M ∧ v = pu_la (M.1 35 m) (M.1 40 (m + 1)) (M.1 30 0 9) left r (if 0 ≤ left + M.1 35 m k then _ else b)) 32 [(0, zr 30 0), (1, zi (nI m)), (2, zi left), (3, zr 35 m), (4, zr 40 (m + 1)), (5, zr 37 m), (6, zi (if M.1 31 0 (nI k).toNatClampNeg + M.1 40 (m + 1) (if left + M.1 35 m k < M.1 30 0 9 then left + M.1 35 m k else M.1 30 0 9).toNatClampNeg < b then M.1 31 0 (nI k).toNatClampNeg + M.1 40 (m + 1) (if left + M.1 35 m k < M.1 30 0 9 then left + M.1 35 m k else M.1 30 0 9).toNatClampNeg else b)), (7, zi (nI acc.length + 1))] [] M
        rw [if_pos h2', ek, hs k hk]
        exact h3
theorem hX0_leastAt {X : z_Cx} (M : z_M) (m : Nat) (left : Int32) (L : List Nat) (hm : m < 12) (hL : z_Tr M m L) (hs : ∀ k, k < 31 → M.1 31 0 k = pu_sec k) (hst : 0 ≤ M.1 30 0 9 ∧ M.1 30 0 9 ≤ 99) : z_Con X 0 mX0_leastAt [zr 30 0, zi (nI m), zi left] M (fun v M' => M' = M ∧ v = pu_la (M.1 35 m) (M.1 40 (m + 1)) (M.1 30 0 9) left L 1000000000) := by
  have em : (nI m).toNatClampNeg = m := nI_clamp (by omega)
  refine z_mg KX0_leastAt [(32, [0, 1, 2, 3, 4, 5, 6, 7])] 60 (by decide +kernel) rfl ?_
  have h := lX0_leastAt (X := X) M m left L hm hL hs hst L [] 1000000000 rfl
  have em1 : (nI m + 1).toNatClampNeg = m + 1 := by rw [nI_1]; exact nI_clamp (by omega)
  refine ⟨vp_in_nI hm (by omega), ?_, vp_in_nI hm (by omega), ?_⟩
  · rw [nI_1]
    exact vp_in_nI (by omega) (by omega)
  · show z_Run X 0 _ _ 32 [(0, zr 30 0), (1, zi (nI m)), (2, zi left), (3, zr 35 (nI m).toNatClampNeg), (4, zr 40 (nI m + 1).toNatClampNeg), (5, zr 37 (nI m).toNatClampNeg), (6, zi 1000000000), (7, zi 0)] [] M
    rw [em, em1]
    exact h
