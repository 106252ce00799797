/-! ===== the model: its course's row, small readers ===== -/
theorem z_Run.eq {X : z_Cx} {D : Nat} {q : z_MI} {R : Int32 → z_M → Prop} {pc : Nat} {ls ls' : z_L} {st : List z_V} {M M' : z_M} (h : z_Run X D q R pc ls st M) (e1 : ls = ls') (e2 : M = M') : z_Run X D q R pc ls' st M' := by
  subst e1
  subst e2
  exact h
/-- the model's row: its course, its race -/
abbrev z_nw (M : z_M) : Nat → Int32 := M.1 47 (M.2.2 46 0).toNat
/-- a row N of the model is the course V: nm miles, nr runners, nb rabbits -/
def z_CR (V : Nat → Nat → Int32) (nm nr nb : Nat) (N : Nat → Int32) : Prop :=
  (nm ≤ 12 ∧ nr ≤ 4 ∧ nb ≤ 5 ∧ N 187 = nI nm ∧ N 188 = nI nr ∧ N 189 = nI nb ∧ (1 ≤ nm → 1 ≤ nr) ∧ (1 ≤ nr → 1 ≤ nm)) ∧
  (∀ m, m < nm → N (3 * m) = V 0 m ∧ N (3 * m + 1) = V 1 m ∧ N (3 * m + 2) = V 2 m ∧ (-5 ≤ V 0 m ∧ V 0 m ≤ 5) ∧ (0 ≤ V 1 m ∧ V 1 m ≤ 9) ∧ 0 ≤ V 2 m ∧ V 2 m ≤ 9) ∧
  (∀ r, r < nr → N (36 + 4 * r) = V 3 r ∧ N (36 + 4 * r + 1) = V 4 r ∧ N (36 + 4 * r + 2) = V 5 r ∧ N (36 + 4 * r + 3) = V 6 r ∧ (10 ≤ V 3 r ∧ V 3 r ≤ 30) ∧ (∃ n, 1 ≤ n ∧ n ≤ 99 ∧ V 4 r = nI n) ∧ (1 ≤ V 5 r ∧ V 5 r ≤ 9) ∧ ∃ c, c ≤ 6 ∧ V 6 r = nI c) ∧
  (∀ r, r < nr → ∀ k, k < 6 → nI k < V 6 r → N (52 + 30 * r + 5 * k) = V 7 (6 * r + k) ∧ N (52 + 30 * r + 5 * k + 1) = V 8 (6 * r + k) ∧ N (52 + 30 * r + 5 * k + 2) = V 9 (6 * r + k) ∧ V 10 (6 * r + k) = (if N (52 + 30 * r + 5 * k + 3) = 1 then N (52 + 30 * r + 5 * k + 4) else -N (52 + 30 * r + 5 * k + 4)) ∧ -9 ≤ V 10 (6 * r + k) ∧ V 10 (6 * r + k) ≤ 9) ∧
  ∀ b, b < nb → N (172 + 3 * b) = V 11 b ∧ N (172 + 3 * b + 1) = V 12 b ∧ N (172 + 3 * b + 2) = V 13 b ∧ (∃ p, p < 31 ∧ V 11 b = nI (10 + p)) ∧ (∃ t, 1 ≤ t ∧ t ≤ 12 ∧ V 12 b = nI t) ∧ 0 ≤ V 13 b ∧ V 13 b ≤ 99
theorem ix3 (m c : Nat) : 0 + 3 * nI m + nI c = nI (3 * m + c) := by
  show nI 0 + nI 3 * nI m + nI c = _
  rw [pk_mul, nI_add, nI_add, Nat.zero_add]
theorem ixr (r w : Nat) : 36 + 4 * nI r + nI w = nI (36 + 4 * r + w) := by
  show nI 36 + nI 4 * nI r + nI w = _
  rw [pk_mul, nI_add, nI_add]
theorem ixb (r w : Nat) : 172 + 3 * nI r + nI w = nI (172 + 3 * r + w) := by
  show nI 172 + nI 3 * nI r + nI w = _
  rw [pk_mul, nI_add, nI_add]
theorem hX10_miles {X : z_Cx} (M : z_M) {V : Nat → Nat → Int32} {nm nr nb : Nat} (hN : z_CR V nm nr nb (z_nw M)) : z_Con X 0 mX10_miles [zr 46 0] M (fun r M' => M' = M ∧ r = nI nm) := by
  refine z_mg KX10_miles [] 20 (by decide +kernel) rfl ?_
  exact ⟨vin (by decide) (by decide), rfl, hN.1.2.2.2.1⟩
theorem hX10_runners {X : z_Cx} (M : z_M) {V : Nat → Nat → Int32} {nm nr nb : Nat} (hN : z_CR V nm nr nb (z_nw M)) : z_Con X 0 mX10_runners [zr 46 0] M (fun r M' => M' = M ∧ r = nI nr) := by
  refine z_mg KX10_runners [] 20 (by decide +kernel) rfl ?_
  exact ⟨vin (by decide) (by decide), rfl, hN.1.2.2.2.2.1⟩
theorem hX10_rabbits {X : z_Cx} (M : z_M) {V : Nat → Nat → Int32} {nm nr nb : Nat} (hN : z_CR V nm nr nb (z_nw M)) : z_Con X 0 mX10_rabbits [zr 46 0] M (fun r M' => M' = M ∧ r = nI nb) := by
  refine z_mg KX10_rabbits [] 20 (by decide +kernel) rfl ?_
  exact ⟨vin (by decide) (by decide), rfl, hN.1.2.2.2.2.2.1⟩
theorem hX10_isMile {X : z_Cx} (M : z_M) {V : Nat → Nat → Int32} {nm nr nb : Nat} (hN : z_CR V nm nr nb (z_nw M)) (m : Int32) : z_Con X 1 mX10_isMile [zr 46 0, zi m] M (fun r M' => M' = M ∧ r = if 0 ≤ m ∧ m ≤ nI nm - 1 then 1 else 0) := by
  refine z_mg KX10_isMile [] 30 (by decide +kernel) rfl ?_
  refine z_uR (hX10_miles M hN) (by decide) ?_
  refine z_uR (hX10_inI M m 0 (nI nm - 1) (by decide) rfl) (by decide) ?_
  exact ⟨by grind, rfl, rfl⟩
theorem hX10_isRunner {X : z_Cx} (M : z_M) {V : Nat → Nat → Int32} {nm nr nb : Nat} (hN : z_CR V nm nr nb (z_nw M)) (m : Int32) : z_Con X 1 mX10_isRunner [zr 46 0, zi m] M (fun r M' => M' = M ∧ r = if 0 ≤ m ∧ m ≤ nI nr - 1 then 1 else 0) := by
  refine z_mg KX10_isRunner [] 30 (by decide +kernel) rfl ?_
  refine z_uR (hX10_runners M hN) (by decide) ?_
  refine z_uR (hX10_inI M m 0 (nI nr - 1) (by decide) rfl) (by decide) ?_
  exact ⟨by grind, rfl, rfl⟩
theorem hX10_isPace {X : z_Cx} (M : z_M) (p : Int32) : z_Con X 1 mX10_isPace [zi p] M (fun r M' => M' = M ∧ r = if 10 ≤ p ∧ p ≤ 40 then 1 else 0) := by
  refine z_mg KX10_isPace [] 30 (by decide +kernel) rfl ?_
  refine z_uR (hX10_inI M p 10 40 (by decide) (by decide)) (by decide) ?_
  exact ⟨by grind, rfl, rfl⟩
theorem hX10_isSet {X : z_Cx} (M : z_M) {V : Nat → Nat → Int32} {nm nr nb : Nat} (hN : z_CR V nm nr nb (z_nw M)) (m : Int32) : z_Con X 1 mX10_isSet [zr 46 0, zi m] M (fun r M' => M' = M ∧ r = if 0 ≤ m ∧ m ≤ 1 <<< (nI nb &&& 31) - 1 then 1 else 0) := by
  refine z_mg KX10_isSet [] 30 (by decide +kernel) rfl ?_
  refine z_uR (hX10_rabbits M hN) (by decide) ?_
  refine z_uR (hX10_inI M m 0 (1 <<< (nI nb &&& 31) - 1) (by decide) rfl) (by decide) ?_
  exact ⟨by grind, rfl, rfl⟩
theorem hX10_ofRunner {X : z_Cx} (M : z_M) (r w : Nat) (hr : r < 4) (hw : w < 4) : z_Con X 0 mX10_ofRunner [zr 46 0, zi (nI r), zi (nI w)] M (fun v M' => M' = M ∧ v = z_nw M (36 + 4 * r + w)) := by
  refine z_mg KX10_ofRunner [] 30 (by decide +kernel) rfl ?_
  refine ⟨by rw [ixr]; exact vp_in_nI (by omega) (by omega), rfl, ?_⟩
  rw [ixr, nI_clamp (by omega)]
theorem hX10_ofRabbit {X : z_Cx} (M : z_M) (r w : Nat) (hr : r < 5) (hw : w < 3) : z_Con X 0 mX10_ofRabbit [zr 46 0, zi (nI r), zi (nI w)] M (fun v M' => M' = M ∧ v = z_nw M (172 + 3 * r + w)) := by
  refine z_mg KX10_ofRabbit [] 30 (by decide +kernel) rfl ?_
  refine ⟨by rw [ixb]; exact vp_in_nI (by omega) (by omega), rfl, ?_⟩
  rw [ixb, nI_clamp (by omega)]
theorem z_uRe {X : z_Cx} {D d : Nat} {q : z_MI} {as : List z_V} {M : z_M} {f g : Int32} {S' : Int32 → z_M → Prop} (h : z_Con X d q as M (fun r M' => M' = M ∧ r = f)) (e : f = g) (hd : d < D) (hS : S' g M) : z_Ca X D q as M S' := z_uR h hd (e ▸ hS)
theorem z_Con.to {X : z_Cx} {d : Nat} {q : z_MI} {as : List z_V} {M : z_M} {f g : Int32} (h : z_Con X d q as M (fun r M' => M' = M ∧ r = f)) (e : f = g) : z_Con X d q as M (fun r M' => M' = M ∧ r = g) := e ▸ h
theorem hX10_line0 {X : z_Cx} (M : z_M) {V : Nat → Nat → Int32} {nm nr nb : Nat} (hN : z_CR V nm nr nb (z_nw M)) (r : Nat) (hr : r < nr) : z_Con X 0 mX10_ofRunner [zr 46 0, zi (nI r), zi 0] M (fun v M' => M' = M ∧ v = V 3 r) := (hX10_ofRunner M r 0 (by have := hN.1.2.1; omega) (by decide)).to (hN.2.2.1 r hr).1
theorem hX10_store0 {X : z_Cx} (M : z_M) {V : Nat → Nat → Int32} {nm nr nb : Nat} (hN : z_CR V nm nr nb (z_nw M)) (r : Nat) (hr : r < nr) : z_Con X 0 mX10_ofRunner [zr 46 0, zi (nI r), zi 1] M (fun v M' => M' = M ∧ v = V 4 r) := (hX10_ofRunner M r 1 (by have := hN.1.2.1; omega) (by decide)).to (hN.2.2.1 r hr).2.1
theorem hX10_fill0 {X : z_Cx} (M : z_M) {V : Nat → Nat → Int32} {nm nr nb : Nat} (hN : z_CR V nm nr nb (z_nw M)) (r : Nat) (hr : r < nr) : z_Con X 0 mX10_ofRunner [zr 46 0, zi (nI r), zi 2] M (fun v M' => M' = M ∧ v = V 5 r) := (hX10_ofRunner M r 2 (by have := hN.1.2.1; omega) (by decide)).to (hN.2.2.1 r hr).2.2.1
theorem hX10_rules0 {X : z_Cx} (M : z_M) {V : Nat → Nat → Int32} {nm nr nb : Nat} (hN : z_CR V nm nr nb (z_nw M)) (r : Nat) (hr : r < nr) : z_Con X 0 mX10_ofRunner [zr 46 0, zi (nI r), zi 3] M (fun v M' => M' = M ∧ v = V 6 r) := (hX10_ofRunner M r 3 (by have := hN.1.2.1; omega) (by decide)).to (hN.2.2.1 r hr).2.2.2.1
theorem hX10_pace0 {X : z_Cx} (M : z_M) {V : Nat → Nat → Int32} {nm nr nb : Nat} (hN : z_CR V nm nr nb (z_nw M)) (r : Nat) (hr : r < nb) : z_Con X 0 mX10_ofRabbit [zr 46 0, zi (nI r), zi 0] M (fun v M' => M' = M ∧ v = V 11 r) := (hX10_ofRabbit M r 0 (by have := hN.1.2.2.1; omega) (by decide)).to (hN.2.2.2.2 r hr).1
theorem hX10_till0 {X : z_Cx} (M : z_M) {V : Nat → Nat → Int32} {nm nr nb : Nat} (hN : z_CR V nm nr nb (z_nw M)) (r : Nat) (hr : r < nb) : z_Con X 0 mX10_ofRabbit [zr 46 0, zi (nI r), zi 1] M (fun v M' => M' = M ∧ v = V 12 r) := (hX10_ofRabbit M r 1 (by have := hN.1.2.2.1; omega) (by decide)).to (hN.2.2.2.2 r hr).2.1
theorem hX10_coin0 {X : z_Cx} (M : z_M) {V : Nat → Nat → Int32} {nm nr nb : Nat} (hN : z_CR V nm nr nb (z_nw M)) (r : Nat) (hr : r < nb) : z_Con X 0 mX10_ofRabbit [zr 46 0, zi (nI r), zi 2] M (fun v M' => M' = M ∧ v = V 13 r) := (hX10_ofRabbit M r 2 (by have := hN.1.2.2.1; omega) (by decide)).to (hN.2.2.2.2 r hr).2.2.1
/-- the model's heats of the hour -/
abbrev z_hm (M : z_M) : Nat → Int32 := fun m => M.1 55 0 (m / 4)
theorem hX10_needOf {X : z_Cx} (M : z_M) {V : Nat → Nat → Int32} {nm nr nb : Nat} (hN : z_CR V nm nr nb (z_nw M)) (m : Nat) (hm : m < nm) (p b : Int32) : z_Con X 0 mX10_needOf [zr 46 0, zi (nI m), zi p, zi b] M (fun v M' => M' = M ∧ v = pu_need V (z_hm M m) m p b) := by
  have h12 := hN.1.1
  have e0 : M.1 47 (M.2.2 46 0).toNat (3 * m) = V 0 m := (hN.2.1 m hm).1
  have e1 : M.1 47 (M.2.2 46 0).toNat (3 * m + 1) = V 1 m := (hN.2.1 m hm).2.1
  have e2 : M.1 47 (M.2.2 46 0).toNat (3 * m + 2) = V 2 m := (hN.2.1 m hm).2.2.1
  have i0 : 0 + 3 * nI m + 0 = nI (3 * m) := ix3 m 0
  have i1 : 0 + 3 * nI m + 1 = nI (3 * m + 1) := ix3 m 1
  have i2 : 0 + 3 * nI m + 2 = nI (3 * m + 2) := ix3 m 2
  have id : nI m / 4 = nI (m / 4) := z_d4 (by omega)
  refine z_mg KX10_needOf [] 60 (by decide +kernel) rfl ?_
  refine ⟨by rw [i1]; exact vp_in_nI (by omega) (by omega), by decide, by rw [id]; exact vp_in_nI (by omega) (by omega), by rw [i0]; exact vp_in_nI (by omega) (by omega), by decide, ?_⟩
  refine ⟨fun h => ?_, fun h => ?_⟩
  · refine ⟨by rw [i2]; exact vp_in_nI (by omega) (by omega), by decide, rfl, ?_⟩
    rw [i0, i1, i2, id, nI_clamp (n := 3 * m) (by omega), nI_clamp (n := 3 * m + 1) (by omega), nI_clamp (n := 3 * m + 2) (by omega), nI_clamp (n := m / 4) (by omega), e0, e1, e2]
    unfold pu_need
    rw [if_pos h]
  · refine ⟨rfl, ?_⟩
    rw [i0, i1, id, nI_clamp (n := 3 * m) (by omega), nI_clamp (n := 3 * m + 1) (by omega), nI_clamp (n := m / 4) (by omega), e0, e1]
    unfold pu_need
    rw [if_neg h]
theorem hX10_secondsBy {X : z_Cx} (M : z_M) (p : Int32) (hp : 10 ≤ p) : z_Con X 0 mX10_secondsBy [zi p] M (fun v M' => M' = M ∧ v = 12000 / p) := by
  refine z_mg KX10_secondsBy [] 20 (by decide +kernel) rfl ?_
  exact ⟨by grind, rfl, rfl⟩
theorem hX10_brought {X : z_Cx} (M : z_M) (v : Int32) : z_Con X 0 mX10_brought [zi v] M (fun r M' => M' = M ∧ r = if v < 10 then 10 else if 40 < v then 40 else v) := by
  refine z_mg KX10_brought [] 30 (by decide +kernel) rfl ?_
  refine ⟨fun h => ?_, fun h => ?_⟩
  · refine ⟨fun h2 => ?_, fun h2 => ?_⟩
    · exact ⟨rfl, by grind⟩
    · exact ⟨rfl, by grind⟩
  · exact ⟨rfl, by grind⟩
def pu_mlb (st fill left need line : Int32) : Int32 := if line < need then (if (need - line) * (need - line) ≤ left then left - (need - line) * (need - line) else -1) else if left + (if line - need < fill then line - need else fill) < st then left + (if line - need < fill then line - need else fill) else st
theorem hX10_leftBehind {X : z_Cx} (M : z_M) {V : Nat → Nat → Int32} {nm nr nb : Nat} (hN : z_CR V nm nr nb (z_nw M)) (r : Nat) (hr : r < nr) (left need line : Int32) : z_Con X 1 mX10_leftBehind [zr 46 0, zi (nI r), zi left, zi need, zi line] M (fun v M' => M' = M ∧ v = pu_mlb (V 4 r) (V 5 r) left need line) := by
  refine z_mg KX10_leftBehind [] 60 (by decide +kernel) rfl ?_
  unfold pu_mlb
  refine ⟨fun h => ?_, fun h => ?_⟩
  · refine z_uR (hX10_fill0 M hN r hr) (by decide) ?_
    refine ⟨fun h2 => ?_, fun h2 => ?_⟩
    · refine z_uR (hX10_fill0 M hN r hr) (by decide) ?_
      refine z_uR (hX10_store0 M hN r hr) (by decide) ?_
      refine ⟨fun h3 => ?_, fun h3 => ?_⟩
      · refine z_uR (hX10_store0 M hN r hr) (by decide) ?_
        exact ⟨rfl, by grind⟩
      · exact ⟨rfl, by grind⟩
    · refine z_uR (hX10_store0 M hN r hr) (by decide) ?_
      refine ⟨fun h3 => ?_, fun h3 => ?_⟩
      · refine z_uR (hX10_store0 M hN r hr) (by decide) ?_
        exact ⟨rfl, by grind⟩
      · exact ⟨rfl, by grind⟩
  · refine ⟨fun h2 => ?_, fun h2 => ?_⟩
    · exact ⟨rfl, by grind⟩
    · exact ⟨rfl, by grind⟩
theorem lX10_easyPace {X : z_Cx} (M : z_M) {V : Nat → Nat → Int32} {nm nr nb : Nat} (hN : z_CR V nm nr nb (z_nw M)) (r m : Nat) (hr : r < nr) (hm : m < nm) (hh : z_hm M m = 0) : ∀ n : Nat, n ≤ 30 → z_Run X 1 mX10_easyPace (fun v M' => M' = M ∧ v = pu_easy V m (V 3 r) n) 3 [(0, zr 46 0), (1, zi (nI r)), (2, zi (nI m)), (3, zi (nI (10 + n)))] [] M := by
  intro n
  induction n with
  | zero =>
    intro _
    refine z_go_run KX10_easyPace [(3, [0, 1, 2, 3])] 40 ?_
    refine ⟨fun h => ?_, fun h => ?_⟩
    · exact ⟨rfl, rfl⟩
    · exact absurd (by decide) h
  | succ n ih =>
    intro hn
    refine z_go_run KX10_easyPace [(3, [0, 1, 2, 3])] 40 ?_
    refine ⟨fun h => ?_, fun h => ?_⟩
    · exact absurd h (nI_ge (a := 10) (by omega) (by omega))
    · refine z_uR (hX10_needOf M hN m hm (nI (10 + (n + 1))) 0) (by decide) ?_
      rw [hh]
      refine z_uR (hX10_line0 M hN r hr) (by decide) ?_
      refine ⟨fun h2 => ?_, fun h2 => ?_⟩
      · refine ⟨rfl, ?_⟩
        show nI (10 + (n + 1)) = (if V 3 r < pu_need V 0 m (nI (10 + (n + 1))) 0 then _ else nI (10 + (n + 1)))
        rw [if_neg (Int32.not_lt.mpr h2)]
      · have h3 := ih (by omega)
        have e2 : pu_easy V m (V 3 r) (n + 1) = pu_easy V m (V 3 r) n := if_pos (Int32.not_le.mp h2)
        rw [e2]
        show z_Run X 1 _ _ 3 _ [] M
        exact z_Run.eq h3 (by rw [← z_m1 (10 + n)]; rfl) rfl
theorem hX10_easyPace {X : z_Cx} (M : z_M) {V : Nat → Nat → Int32} {nm nr nb : Nat} (hN : z_CR V nm nr nb (z_nw M)) (r m : Nat) (hr : r < nr) (hm : m < nm) (hh : z_hm M m = 0) : z_Con X 1 mX10_easyPace [zr 46 0, zi (nI r), zi (nI m)] M (fun v M' => M' = M ∧ v = pu_easy V m (V 3 r) 30) := by
  refine z_mg KX10_easyPace [(3, [0, 1, 2, 3])] 40 (by decide +kernel) rfl ?_
  exact lX10_easyPace M hN r m hr hm hh 30 (Nat.le_refl 30)
