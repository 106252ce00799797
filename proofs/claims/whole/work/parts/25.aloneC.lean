/-! ===== the class alone: needs and changes ===== -/
/-- all of a kind in place of what it was -/
def z_sf (M : z_M) (k : Nat) (F : Nat → Nat → Int32) : z_M := (fun k' i j => if k' = k then F i j else M.1 k' i j, M.2)
theorem z_gf {M : z_M} {k k' i j : Nat} {F : Nat → Nat → Int32} : (z_sf M k F).1 k' i j = if k' = k then F i j else M.1 k' i j := rfl
theorem z_sf_s {M : z_M} {k i j : Nat} {F : Nat → Nat → Int32} {v : Int32} : z_s (z_sf M k F) k i j v = z_sf M k (fun a b => if a = i ∧ b = j then v else F a b) := by
  refine Prod.ext ?_ rfl
  funext a b c
  show (if a = k ∧ b = i ∧ c = j then v else if a = k then F b c else M.1 a b c) = (if a = k then (if b = i ∧ c = j then v else F b c) else M.1 a b c)
  grind
theorem z_sf_c {M : z_M} {k : Nat} {F G : Nat → Nat → Int32} (h : ∀ a b, F a b = G a b) : z_sf M k F = z_sf M k G := by
  have e : F = G := by funext a b; exact h a b
  rw [e]
theorem z_sf_self {M : z_M} {k : Nat} {F : Nat → Nat → Int32} (h : ∀ a b, F a b = M.1 k a b) : z_sf M k F = M := by
  refine Prod.ext ?_ rfl
  funext a b c
  show (if a = k then F b c else M.1 a b c) = M.1 a b c
  by_cases e : a = k
  · rw [if_pos e, h, e]
  · rw [if_neg e]
def pu_chg (need line fill : Int32) : Int32 := if 0 < need - line then -(need - line) * (need - line) else if -(need - line) < fill then -(need - line) else fill
/-- the changes, up to mile m, pace t -/
def z_tl (M : z_M) (L : Int32) (m t : Nat) : z_M := z_sf (z_s M 30 0 8 L) 35 (fun a b => if (a < m ∧ b < 31) ∨ (a = m ∧ b < t) then pu_chg (M.1 33 a b) L (M.1 30 0 10) else M.1 35 a b)
theorem z_tl_step {M : z_M} {L : Int32} {m t : Nat} : z_s (z_tl M L m t) 35 m t (pu_chg (M.1 33 m t) L (M.1 30 0 10)) = z_tl M L m (t + 1) := by
  unfold z_tl
  rw [z_sf_s]
  apply z_sf_c
  intro a b
  grind
theorem z_tl_next {M : z_M} {L : Int32} {m : Nat} : z_tl M L m 31 = z_tl M L (m + 1) 0 := by
  unfold z_tl
  apply z_sf_c
  intro a b
  grind
theorem lX0_takeLine2 {X : z_Cx} (M : z_M) (L : Int32) (m : Nat) (hm : m < 12) {R : Int32 → z_M → Prop} (hk : z_Run X 1 mX0_takeLine R 7 [(0, zr 30 0), (1, zi L), (2, zi (nI (m + 1)))] [] (z_tl M L (m + 1) 0)) : ∀ (u t : Nat), t + u = 31 → z_Run X 1 mX0_takeLine R 17 [(0, zr 30 0), (1, zi L), (2, zi (nI m)), (3, zi (nI t))] [] (z_tl M L m t) := by
  have em : (nI m).toNatClampNeg = m := nI_clamp (by omega)
  intro u
  induction u with
  | zero =>
    intro t ht
    refine z_go_run KX0_takeLine [(17, [0, 1, 2, 3]), (7, [0, 1, 2])] 40 ?_
    refine ⟨fun h => ?_, fun h => ?_⟩
    · have e : t = 31 := by omega
      subst e
      rw [← z_tl_next, ← nI_1] at hk
      exact hk
    · exact absurd (nI_le (a := 31) (b := t) (by omega) (by omega)) h
  | succ u ih =>
    intro t ht
    have et : (nI t).toNatClampNeg = t := nI_clamp (by omega)
    refine z_go_run KX0_takeLine [(17, [0, 1, 2, 3]), (7, [0, 1, 2])] 40 ?_
    refine ⟨fun h => ?_, fun h => ?_⟩
    · exact absurd h (nI_ge (a := t) (b := 31) (by omega) (by omega))
    · refine ⟨vp_in_nI hm (by omega), vp_in_nI hm (by omega), vp_in_nI (by omega) (by omega), ?_⟩
      refine z_uR (hX9_changeBy _ _ _ _) (by decide) ?_
      refine ⟨vp_in_nI (by omega) (by omega), ?_⟩
      have h1 := ih (t + 1) (by omega)
      rw [← z_tl_step (t := t), ← nI_1 t] at h1
      show z_Run X 1 _ _ 17 [(0, zr 30 0), (1, zi L), (2, zi (nI m)), (3, zi (nI t + 1))] [] (z_s (z_tl M L m t) 35 (nI m).toNatClampNeg (nI t).toNatClampNeg (pu_chg (M.1 33 (nI m).toNatClampNeg (nI t).toNatClampNeg) L (M.1 30 0 10)))
      rw [em, et]
      exact h1
theorem lX0_takeLine1 {X : z_Cx} (M : z_M) (L : Int32) (nm : Nat) (hn : nm ≤ 12) (hM : M.1 30 0 7 = nI nm) : ∀ (u m : Nat), m + u = nm → z_Run X 1 mX0_takeLine (fun _ M' => M' = z_tl M L nm 0) 7 [(0, zr 30 0), (1, zi L), (2, zi (nI m))] [] (z_tl M L m 0) := by
  intro u
  induction u with
  | zero =>
    intro m hm
    refine z_go_run KX0_takeLine [(17, [0, 1, 2, 3]), (7, [0, 1, 2])] 40 ?_
    refine ⟨fun h => ?_, fun h => ?_⟩
    · have e : m = nm := by omega
      subst e
      exact rfl
    · exact absurd (show (z_tl M L m 0).1 30 0 7 ≤ nI m from by show M.1 30 0 7 ≤ nI m; rw [hM]; exact nI_le (by omega) (by omega)) h
  | succ u ih =>
    intro m hm
    refine z_go_run KX0_takeLine [(17, [0, 1, 2, 3]), (7, [0, 1, 2])] 40 ?_
    refine ⟨fun h => ?_, fun h => ?_⟩
    · exact absurd (show nI nm ≤ nI m from by rw [← hM]; exact h) (nI_ge (by omega) (by omega))
    · exact lX0_takeLine2 M L m (by omega) (ih (m + 1) (by omega)) 31 0 rfl
theorem hX0_takeLine {X : z_Cx} (M : z_M) (L : Int32) (nm : Nat) (hn : nm ≤ 12) (hM : M.1 30 0 7 = nI nm) : z_Con X 1 mX0_takeLine [zr 30 0, zi L] M (fun _ M' => M' = z_tl M L nm 0) := by
  refine z_mg KX0_takeLine [(7, [0, 1, 2])] 40 (by decide +kernel) rfl ?_
  have h := lX0_takeLine1 (X := X) M L nm hn hM nm 0 (by omega)
  have e : z_tl M L 0 0 = z_s M 30 0 8 L := z_sf_self (fun a b => by show (if (a < 0 ∧ b < 31) ∨ (a = 0 ∧ b < 0) then _ else M.1 35 a b) = M.1 35 a b; rw [if_neg (by omega)])
  rw [e] at h
  exact h
theorem hX9_asPaceI {X : z_Cx} (v : Int32) (M : z_M) (h : 10 ≤ v ∧ v ≤ 40) : z_Con X 0 mX9_asPace [zi v] M (fun r M' => M' = M ∧ r = v) := by
  have h1 := hX9_asPace (X := X) v M
  rw [if_neg (Int32.not_lt.mpr h.1), if_neg (Int32.not_lt.mpr h.2)] at h1
  exact h1
theorem hX9_secondsI {X : z_Cx} (v : Int32) (M : z_M) (h : 10 ≤ v) : z_Con X 0 mX9_secondsBy [zi v] M (fun r M' => M' = M ∧ r = 12000 / v) := by
  have h1 := hX9_secondsBy (X := X) v M
  rw [if_neg (Int32.not_lt.mpr h)] at h1
  exact h1
theorem hX0_leftBehind {X : z_Cx} (M : z_M) (m p left : Int32) (hm : vp_in m 12) (hp : 10 ≤ p ∧ p ≤ 40) : z_Con X 1 mX0_leftBehind [zr 30 0, zi m, zi p, zi left] M (fun r M' => M' = M ∧ r = if 0 ≤ left + M.1 35 m.toNatClampNeg (p - 10).toNatClampNeg then (if left + M.1 35 m.toNatClampNeg (p - 10).toNatClampNeg < M.1 30 0 9 then left + M.1 35 m.toNatClampNeg (p - 10).toNatClampNeg else M.1 30 0 9) else -1) := by
  refine z_mg KX0_leftBehind [] 40 (by decide +kernel) rfl ?_
  refine ⟨hm, ?_⟩
  refine z_uR (hX9_asPaceI p M hp) (by decide) ?_
  refine ⟨vin_le (c := 30) (by grind) (by grind) (by decide), ?_⟩
  refine ⟨fun h => ?_, fun h => ?_⟩
  · exact ⟨rfl, (if_pos h).symm⟩
  · exact ⟨rfl, (if_neg h).symm⟩
