/-! ===== the class alone: facing a course ===== -/
/-- a need as the class alone has it: pace 10 and b, by mile a, with rabbits -/
def pu_nd (V : Nat → Nat → Int32) (mh : Nat → Int32) (set : Int32) (nb a b : Nat) : Int32 := pu_need V (mh a) a (10 + nI b) (if pu_sh V set (nI a) (10 + nI b) nb = true then 1 else 0)
def z_f0 (M : z_M) (i r nm : Nat) : z_M := z_s (z_s (z_s M 30 0 7 (nI nm)) 30 0 9 (M.1 11 i r)) 30 0 10 (M.1 12 i r)
def z_f1 (M : z_M) (i r nm nb : Nat) (set : Int32) (m t : Nat) : z_M := z_sf (z_f0 M i r nm) 33 (fun a b => if (a < m ∧ b < 31) ∨ (a = m ∧ b < t) then pu_nd (z_cv M i) (M.1 41 0) set nb a b else M.1 33 a b)
/-- the memory behind faceHeats -/
def z_f2 (M : z_M) (i r nm nb : Nat) (set : Int32) : z_M := z_tl (z_f1 M i r nm nb set nm 0) (M.1 10 i r) nm 0
theorem z_f1_cv {M : z_M} {i r nm nb m t j : Nat} {set : Int32} : z_cv (z_f1 M i r nm nb set m t) j = z_cv M j := by
  apply z_cv_c
  intro k h1 h2
  funext x
  show (if k = 33 then _ else if k = 30 ∧ _ then _ else if k = 30 ∧ _ then _ else if k = 30 ∧ _ then _ else M.1 k j x) = M.1 k j x
  rw [if_neg (by omega), if_neg (by omega), if_neg (by omega), if_neg (by omega)]
theorem z_f1_step {M : z_M} {i r nm nb m t : Nat} {set : Int32} : z_s (z_f1 M i r nm nb set m t) 33 m t (pu_nd (z_cv M i) (M.1 41 0) set nb m t) = z_f1 M i r nm nb set m (t + 1) := by
  unfold z_f1
  rw [z_sf_s]
  apply z_sf_c
  intro a b
  grind
theorem z_f1_next {M : z_M} {i r nm nb m : Nat} {set : Int32} : z_f1 M i r nm nb set m 31 = z_f1 M i r nm nb set (m + 1) 0 := by
  unfold z_f1
  apply z_sf_c
  intro a b
  grind
theorem lX0_faceHeats2 {X : z_Cx} (M : z_M) (i r nm nb m : Nat) (set : Int32) (hb5 : nb ≤ 5) (hb : M.1 6 i 14 = nI nb) (hm : m < 12) {R : Int32 → z_M → Prop} (hk : z_Run X 2 mX0_faceHeats R 31 [(0, zr 30 0), (1, zr 6 i), (2, zi (nI r)), (3, zi set), (4, zi (nI (m + 1)))] [] (z_f1 M i r nm nb set (m + 1) 0)) : ∀ (u t : Nat), t + u = 31 → z_Run X 2 mX0_faceHeats R 43 [(0, zr 30 0), (1, zr 6 i), (2, zi (nI r)), (3, zi set), (4, zi (nI m)), (5, zi (nI t))] [] (z_f1 M i r nm nb set m t) := by
  have em : (nI m).toNatClampNeg = m := nI_clamp (by omega)
  intro u
  induction u with
  | zero =>
    intro t ht
    refine z_go_run KX0_faceHeats [(43, [0, 1, 2, 3, 4, 5]), (31, [0, 1, 2, 3, 4])] 60 ?_
    refine ⟨fun h => ?_, fun h => ?_⟩
    · have e : t = 31 := by omega
      subst e
      rw [← z_f1_next, ← nI_1] at hk
      exact hk
    · exact absurd (nI_le (a := 31) (b := t) (by omega) (by omega)) h
  | succ u ih =>
    intro t ht
    have et : (nI t).toNatClampNeg = t := nI_clamp (by omega)
    refine z_go_run KX0_faceHeats [(43, [0, 1, 2, 3, 4, 5]), (31, [0, 1, 2, 3, 4])] 60 ?_
    refine ⟨fun h => ?_, fun h => ?_⟩
    · exact absurd h (nI_ge (a := t) (b := 31) (by omega) (by omega))
    · refine z_uR (hX2_isShelteredBy (z_f1 M i r nm nb set m t) i nb set (nI m) (10 + nI t) hb5 hb) (by decide) ?_
      refine ⟨vp_in_nI hm (by omega), vp_in_nI hm (by omega), ?_⟩
      refine z_uR (hX2_needOf (z_f1 M i r nm nb set m t) i (nI m) (10 + nI t) _ _ (vp_in_nI hm (by omega))) (by decide) ?_
      refine ⟨vp_in_nI (by omega) (by omega), ?_⟩
      have h1 := ih (t + 1) (by omega)
      rw [← z_f1_step (t := t), ← nI_1 t] at h1
      show z_Run X 2 _ _ 43 [(0, zr 30 0), (1, zr 6 i), (2, zi (nI r)), (3, zi set), (4, zi (nI m)), (5, zi (nI t + 1))] [] (z_s (z_f1 M i r nm nb set m t) 33 (nI m).toNatClampNeg (nI t).toNatClampNeg (pu_need (z_cv (z_f1 M i r nm nb set m t) i) (M.1 41 0 (nI m).toNatClampNeg) (nI m).toNatClampNeg (10 + nI t) (if pu_sh (z_cv (z_f1 M i r nm nb set m t) i) set (nI m) (10 + nI t) nb = true then 1 else 0)))
      rw [em, et, z_f1_cv]
      exact h1
theorem lX0_faceHeats1 {X : z_Cx} (M : z_M) (i r nm nb : Nat) (set : Int32) (hr : r < 4) (hn : nm ≤ 12) (hb5 : nb ≤ 5) (hb : M.1 6 i 14 = nI nb) : ∀ (u m : Nat), m + u = nm → z_Run X 2 mX0_faceHeats (fun _ M' => M' = z_f2 M i r nm nb set) 31 [(0, zr 30 0), (1, zr 6 i), (2, zi (nI r)), (3, zi set), (4, zi (nI m))] [] (z_f1 M i r nm nb set m 0) := by
  have er : (nI r).toNatClampNeg = r := nI_clamp (by omega)
  intro u
  induction u with
  | zero =>
    intro m hm
    refine z_go_run KX0_faceHeats [(43, [0, 1, 2, 3, 4, 5]), (31, [0, 1, 2, 3, 4])] 60 ?_
    refine ⟨fun h => ?_, fun h => ?_⟩
    · have e : m = nm := by omega
      subst e
      refine ⟨vp_in_nI hr (by omega), ?_⟩
      refine z_uV (hX0_takeLine (z_f1 M i r m nb set m 0) (M.1 10 i (nI r).toNatClampNeg) m hn rfl) (by decide) (fun _ => ?_)
      rw [er]
      exact rfl
    · exact absurd (show nI nm ≤ nI m from nI_le (by omega) (by omega)) h
  | succ u ih =>
    intro m hm
    refine z_go_run KX0_faceHeats [(43, [0, 1, 2, 3, 4, 5]), (31, [0, 1, 2, 3, 4])] 60 ?_
    refine ⟨fun h => ?_, fun h => ?_⟩
    · exact absurd (show nI nm ≤ nI m from h) (nI_ge (by omega) (by omega))
    · exact lX0_faceHeats2 M i r nm nb m set hb5 hb (by omega) (ih (m + 1) (by omega)) 31 0 rfl
theorem hX0_faceHeats {X : z_Cx} (M : z_M) (i r nm nb : Nat) (set : Int32) (hr : r < 4) (hn : nm ≤ 12) (hb5 : nb ≤ 5) (hb : M.1 6 i 14 = nI nb) (hm : M.1 6 i 1 = nI nm) : z_Con X 2 mX0_faceHeats [zr 30 0, zr 6 i, zi (nI r), zi set] M (fun _ M' => M' = z_f2 M i r nm nb set) := by
  have er : (nI r).toNatClampNeg = r := nI_clamp (by omega)
  refine z_mg KX0_faceHeats [(31, [0, 1, 2, 3, 4])] 60 (by decide +kernel) rfl ?_
  refine ⟨vp_in_nI hr (by omega), vp_in_nI hr (by omega), ?_⟩
  have h := lX0_faceHeats1 (X := X) M i r nm nb set hr hn hb5 hb nm 0 (by omega)
  have e : z_f1 M i r nm nb set 0 0 = z_f0 M i r nm := z_sf_self (fun a b => by show (if (a < 0 ∧ b < 31) ∨ (a = 0 ∧ b < 0) then _ else M.1 33 a b) = M.1 33 a b; rw [if_neg (by omega)])
  rw [e] at h
  show z_Run X 2 _ _ 31 [(0, zr 30 0), (1, zr 6 i), (2, zi (nI r)), (3, zi set), (4, zi 0)] [] (z_s (z_s (z_s M 30 0 7 (M.1 6 i 1)) 30 0 9 (M.1 11 i (nI r).toNatClampNeg)) 30 0 10 (M.1 12 i (nI r).toNatClampNeg))
  rw [er, hm]
  exact h
theorem hX0_face {X : z_Cx} (M : z_M) (i r nm nb : Nat) (set : Int32) (hr : r < 4) (hn : nm ≤ 12) (hb5 : nb ≤ 5) (hb : M.1 6 i 14 = nI nb) (hm : M.1 6 i 1 = nI nm) : z_Con X 3 mX0_face [zr 30 0, zr 6 i, zi (nI r), zi set] M (fun _ M' => M' = z_f2 (z_sr M 41 0 (fun j => if j < 12 then 0 else M.1 41 0 j)) i r nm nb set) := by
  refine z_mg KX0_face [] 60 (by decide +kernel) rfl ?_
  refine z_uV (hJ7_fill_41 0 0 M) (by decide) (fun _ => ?_)
  refine z_uV (hX0_faceHeats (z_sr M 41 0 (fun j => if j < 12 then 0 else M.1 41 0 j)) i r nm nb set hr hn hb5 hb hm) (by decide) (fun _ => ?_)
  exact rfl
