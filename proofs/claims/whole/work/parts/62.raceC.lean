/-! ===== races: what a mile does; the class's bodies ===== -/
def pu_gl (V : Nat → Nat → Int32) (r m : Nat) (p b l : Int32) : Int32 := if 0 ≤ l + pu_chg (pu_need V 0 m p b) (V 3 r) (V 5 r) then (if l + pu_chg (pu_need V 0 m p b) (V 3 r) (V 5 r) < V 4 r then l + pu_chg (pu_need V 0 m p b) (V 3 r) (V 5 r) else V 4 r) else -1
def pu_l1 (V : Nat → Nat → Int32) (r m : Nat) (p b l : Int32) : Int32 := if pu_gl V r m p b l < 0 then 0 else pu_gl V r m p b l
def pu_s1 (V : Nat → Nat → Int32) (r m : Nat) (p b l : Int32) : Int32 := 12000 / (if pu_gl V r m p b l < 0 then pu_easy V m (V 3 r) 30 else p)
def pu_cl (v : Int32) : Int32 := if v < 10 then 10 else if 40 < v then 40 else v
/-- shelter of r behind one of the first n -/
def pu_S1 (T P : Nat → Int32) (r : Nat) : Nat → Bool
  | 0 => false
  | o + 1 => pu_S1 T P r o || decide (o ≠ r ∧ 0 < T r - T o ∧ T r - T o ≤ 5 ∧ P r ≤ P o)
def pu_b2 (b : Bool) : Int32 := if b = true then 1 else 0
/-- the least of the first n, from N on -/
def pu_mn (N : Int32) (T : Nat → Int32) : Nat → Int32
  | 0 => N
  | n + 1 => if T n < pu_mn N T n then T n else pu_mn N T n
def pu_ho (V : Nat → Nat → Int32) (r m k : Nat) (left beh : Int32) : Prop := if V 8 (6 * r + k) = 1 then V 9 (6 * r + k) < (if V 7 (6 * r + k) = 0 then left else if V 7 (6 * r + k) = 1 then beh else nI m) else (if V 7 (6 * r + k) = 0 then left else if V 7 (6 * r + k) = 1 then beh else nI m) < V 9 (6 * r + k)
def pu_hd (V : Nat → Nat → Int32) (r m k : Nat) (left beh : Int32) : Bool := if V 8 (6 * r + k) = 1 then decide (V 9 (6 * r + k) < (if V 7 (6 * r + k) = 0 then left else if V 7 (6 * r + k) = 1 then beh else nI m)) else decide ((if V 7 (6 * r + k) = 0 then left else if V 7 (6 * r + k) = 1 then beh else nI m) < V 9 (6 * r + k))
/-- the step of the first rule from k on that holds -/
def pu_st (V : Nat → Nat → Int32) (r m : Nat) (left beh : Int32) : Nat → Nat → Int32
  | 0, _ => 0
  | u + 1, k => if pu_hd V r m k left beh = true then V 10 (6 * r + k) else pu_st V r m left beh u (k + 1)
def pu_nx (x : Nat) : Nat := x * 16807 % 2147483647
def pu_sl (x : Nat) : Int32 := if x = 0 then 0 else if x % 7 = 0 then 1 else if x % 7 = 1 then -1 else 0
/-- body i of the class: of runner r, with what is left, its time, its pace -/
def z_Bd (V : Nat → Nat → Int32) (r : Nat) (M : z_M) (i : Nat) (l t p : Int32) : Prop := M.1 29 i 0 = V 3 r ∧ M.1 29 i 1 = V 4 r ∧ M.1 29 i 2 = V 5 r ∧ M.1 29 i 3 = l ∧ M.1 29 i 4 = t ∧ M.1 29 i 5 = p
/-- nothing but body i has changed -/
def z_Fi (i : Nat) (M M' : z_M) : Prop := M'.2 = M.2 ∧ (∀ k, k ≠ 29 → M'.1 k = M.1 k) ∧ ∀ j, j ≠ i → M'.1 29 j = M.1 29 j
theorem z_Fi.refl {i : Nat} {M : z_M} : z_Fi i M M := ⟨rfl, fun _ _ => rfl, fun _ _ => rfl⟩
theorem z_Fi.s {i j : Nat} {M M1 : z_M} {v : Int32} (h : z_Fi i M M1) : z_Fi i M (z_s M1 29 i j v) := by
  refine ⟨h.1, fun k hk => ?_, fun a ha => ?_⟩
  · rw [← h.2.1 k hk]
    funext a b
    exact if_neg (c := k = 29 ∧ a = i ∧ b = j) (fun w => hk w.1)
  · rw [← h.2.2 a ha]
    funext b
    exact if_neg (c := 29 = 29 ∧ a = i ∧ b = j) (fun w => ha w.2.1)
theorem z_Fi.fr {i : Nat} {M M' : z_M} (h : z_Fi i M M') : z_Fr [29] M M' := ⟨h.1, fun k hk => h.2.1 k (fun w => hk (by rw [w]; decide))⟩
theorem z_Fi.bd {i : Nat} {M M' : z_M} (h : z_Fi i M M') {V : Nat → Nat → Int32} {r j : Nat} {l t p : Int32} (hj : j ≠ i) (hB : z_Bd V r M j l t p) : z_Bd V r M' j l t p := by
  unfold z_Bd
  rw [h.2.2 j hj]
  exact hB
theorem hX1_start {X : z_Cx} (M : z_M) (i r : Nat) (hr : r < 4) (p : Int32) : z_Con X 0 mX1_start [zr 29 i, zr 6 0, zi (nI r), zi p] M (fun _ M' => z_Bd (z_cv M 0) r M' i (M.1 11 0 r) 0 p ∧ M'.1 29 i 7 = 0 ∧ z_Fi i M M') := by
  have er : (nI r).toNatClampNeg = r := nI_clamp (by omega)
  refine z_mg KX1_start [] 60 (by decide +kernel) rfl ?_
  refine ⟨vp_in_nI (by omega) (by omega), vp_in_nI (by omega) (by omega), vp_in_nI (by omega) (by omega), Or.inl rfl, ?_⟩
  refine ⟨?_, ?_, z_Fi.refl.s.s.s.s.s.s.s⟩
  · unfold z_Bd
    simp [z_gs, er]
  · simp [z_gs]
theorem hX1_changePace {X : z_Cx} (M : z_M) (i : Nat) (by' : Int32) : z_Con X 1 mX1_changePace [zr 29 i, zi by'] M (fun _ M' => M' = z_s M 29 i 5 (pu_cl (M.1 29 i 5 + by'))) := by
  refine z_mg KX1_changePace [] 60 (by decide +kernel) rfl ?_
  refine z_uR (hX9_asPace _ M) (by decide) ?_
  exact rfl
theorem hX1_isShelteredBy {X : z_Cx} (M : z_M) (i j : Nat) : z_Con X 0 mX1_isShelteredBy [zr 29 i, zr 29 j] M (fun v M' => M' = M ∧ v = if 0 < M.1 29 i 4 - M.1 29 j 4 ∧ M.1 29 i 4 - M.1 29 j 4 ≤ 5 ∧ M.1 29 i 5 ≤ M.1 29 j 5 then 1 else 0) := by
  refine z_mg KX1_isShelteredBy [] 60 (by decide +kernel) rfl ?_
  refine ⟨fun h => ⟨Or.inl rfl, rfl, by rw [if_neg (fun w => absurd w.1 (Int32.not_lt.mpr h))]⟩, fun h => ?_⟩
  refine ⟨fun h1 => ⟨Or.inl rfl, rfl, by rw [if_neg (fun w => absurd h1 (Int32.not_lt.mpr w.2.1))]⟩, fun h1 => ?_⟩
  refine ⟨fun h2 => ⟨Or.inl rfl, rfl, by rw [if_neg (fun w => absurd h2 (Int32.not_lt.mpr w.2.2))]⟩, fun h2 => ⟨Or.inr rfl, rfl, ?_⟩⟩
  rw [if_pos ⟨Int32.not_le.mp h, Int32.not_lt.mp h1, Int32.not_lt.mp h2⟩]
theorem gl_max {V : Nat → Nat → Int32} {r m : Nat} {p b l : Int32} (hs : 1 ≤ V 4 r) : (if 0 < (if l + pu_chg (pu_need V 0 m p b) (V 3 r) (V 5 r) < V 4 r then l + pu_chg (pu_need V 0 m p b) (V 3 r) (V 5 r) else V 4 r) then (if l + pu_chg (pu_need V 0 m p b) (V 3 r) (V 5 r) < V 4 r then l + pu_chg (pu_need V 0 m p b) (V 3 r) (V 5 r) else V 4 r) else 0) = pu_l1 V r m p b l ∧ (l + pu_chg (pu_need V 0 m p b) (V 3 r) (V 5 r) < 0 ↔ pu_gl V r m p b l < 0) := by
  unfold pu_l1 pu_gl
  generalize l + pu_chg (pu_need V 0 m p b) (V 3 r) (V 5 r) = y
  generalize V 4 r = st at *
  by_cases h : 0 ≤ y
  · rw [if_pos h]
    by_cases h2 : y < st
    · rw [if_pos h2]
      constructor
      · grind
      · exact Iff.rfl
    · rw [if_neg h2]
      constructor
      · grind
      · constructor <;> intro w <;> grind
  · rw [if_neg h]
    refine ⟨?_, ⟨fun _ => by decide, fun _ => Int32.not_le.mp h⟩⟩
    rw [if_pos (show (-1 : Int32) < 0 by decide)]
    grind
theorem easy_bd {V : Nat → Nat → Int32} {m : Nat} {line : Int32} : ∀ n, n ≤ 30 → 10 ≤ pu_easy V m line n ∧ pu_easy V m line n ≤ 40 := by
  intro n
  induction n with
  | zero => intro _; exact ⟨(show (10 : Int32) ≤ 10 by decide), (show (10 : Int32) ≤ 40 by decide)⟩
  | succ n ih =>
    intro hn
    unfold pu_easy
    split
    · exact ih (by omega)
    · exact (z_10 (show n + 1 < 31 by omega)).1
/-- how a body is behind its mile -/
def z_Ba (V : Nat → Nat → Int32) (r m : Nat) (M : z_M) (i : Nat) (p b l : Int32) : Prop := M.1 29 i 6 = pu_s1 V r m p b l ∧ M.1 29 i 7 = (if b = 1 ∧ ¬ pu_gl V r m p b l < 0 then 1 else 0) ∧ M.1 29 i 8 = (if V 3 r < pu_need V 0 m p b then 1 else 0) ∧ M.1 29 i 9 = (if pu_gl V r m p b l < 0 then 1 else 0)
theorem hX1_run {X : z_Cx} (M : z_M) (V : Nat → Nat → Int32) (hV : z_cv M 0 = V) (i r m : Nat) (hm : m < 12) (l t p b : Int32) (hB : z_Bd V r M i l t p) (hb : M.1 29 i 7 = b) (hb01 : b = 0 ∨ b = 1) (hp : 10 ≤ p) (hs : 1 ≤ V 4 r) : z_Con X 2 mX1_run [zr 29 i, zr 6 0, zi (nI m)] M (fun _ M' => z_Bd V r M' i (pu_l1 V r m p b l) (t + pu_s1 V r m p b l) p ∧ z_Ba V r m M' i p b l ∧ z_Fi i M M') := by
  obtain ⟨b0, b1, b2, b3, b4, b5⟩ := hB
  obtain ⟨g1, g2⟩ := gl_max (V := V) (r := r) (m := m) (p := p) (b := b) (l := l) hs
  have em : (nI m).toNatClampNeg = m := nI_clamp (by omega)
  have hvm : vp_in (nI m) 12 := vp_in_nI hm (by omega)
  -- the end, from the place where shelter is written
  have fin : ∀ Mc : z_M, z_Fi i M Mc → (Mc.1 29 i 0 = V 3 r ∧ Mc.1 29 i 1 = V 4 r ∧ Mc.1 29 i 2 = V 5 r ∧ Mc.1 29 i 3 = l ∧ Mc.1 29 i 4 = t ∧ Mc.1 29 i 5 = p) → Mc.1 29 i 8 = (if V 3 r < pu_need V 0 m p b then 1 else 0) → Mc.1 29 i 9 = (if pu_gl V r m p b l < 0 then 1 else 0) → Mc.1 29 i 7 = (if b = 1 ∧ ¬ pu_gl V r m p b l < 0 then 1 else 0) → z_Run X 2 mX1_run (fun _ M' => z_Bd V r M' i (pu_l1 V r m p b l) (t + pu_s1 V r m p b l) p ∧ z_Ba V r m M' i p b l ∧ z_Fi i M M') 88 [(0, zr 29 i), (1, zr 6 0), (2, zi (nI m)), (3, zi (pu_need V 0 m p b)), (4, zi (l + pu_chg (pu_need V 0 m p b) (V 3 r) (V 5 r)))] [] Mc := by
    intro Mc hF hc h8 h9 h7
    obtain ⟨c0, c1, c2, c3, c4, c5⟩ := hc
    have key : ∀ s : Int32, s = pu_s1 V r m p b l → (z_Bd V r (z_s (z_s (z_s Mc 29 i 3 (pu_l1 V r m p b l)) 29 i 6 s) 29 i 4 (t + s)) i (pu_l1 V r m p b l) (t + pu_s1 V r m p b l) p ∧ z_Ba V r m (z_s (z_s (z_s Mc 29 i 3 (pu_l1 V r m p b l)) 29 i 6 s) 29 i 4 (t + s)) i p b l ∧ z_Fi i M (z_s (z_s (z_s Mc 29 i 3 (pu_l1 V r m p b l)) 29 i 6 s) 29 i 4 (t + s))) := by
      intro s es
      subst es
      refine ⟨?_, ?_, hF.s.s.s⟩
      · unfold z_Bd
        simp [z_gs, c0, c1, c2, c5]
      · unfold z_Ba
        simp only [z_gs]
        simp [h7, h8, h9]
    refine z_go_run KX1_run [(105, [0, 1, 2])] 60 ?_
    have mid : ∀ Md : z_M, Md = z_s Mc 29 i 3 (pu_l1 V r m p b l) → z_Run X 2 mX1_run (fun _ M' => z_Bd V r M' i (pu_l1 V r m p b l) (t + pu_s1 V r m p b l) p ∧ z_Ba V r m M' i p b l ∧ z_Fi i M M') 105 [(0, zr 29 i), (1, zr 6 0), (2, zi (nI m))] [] Md := by
      intro Md eM
      have d9 : Md.1 29 i 9 = (if pu_gl V r m p b l < 0 then 1 else 0) := by rw [eM]; simp [z_gs, h9]
      have d0 : Md.1 29 i 0 = V 3 r := by rw [eM]; simp [z_gs, c0]
      have d5 : Md.1 29 i 5 = p := by rw [eM]; simp [z_gs, c5]
      have d4 : Md.1 29 i 4 = t := by rw [eM]; simp [z_gs, c4]
      have hcv : z_cv Md 0 = V := by
        rw [← hV]
        refine z_cv_c (fun k h1 h2 => ?_)
        rw [eM, hF.s.2.1 k (by omega)]
      refine z_go_run KX1_run [] 60 ?_
      refine ⟨fun h => ?_, fun h => ?_⟩ <;> rw [d9] at h
      · have hg : ¬ pu_gl V r m p b l < 0 := by
          intro w
          rw [if_pos w] at h
          exact absurd h (by decide)
        refine z_uRe (hX9_secondsI (Md.1 29 i 5) Md (by rw [d5]; exact hp)) (g := pu_s1 V r m p b l) (by unfold pu_s1; rw [if_neg hg, d5]) (by decide) ?_
        have e4 : (z_s Md 29 i 6 (pu_s1 V r m p b l)).1 29 i 4 = t := by simp [z_gs, d4]
        have e6 : (z_s Md 29 i 6 (pu_s1 V r m p b l)).1 29 i 6 = pu_s1 V r m p b l := by simp [z_gs]
        show z_Bd V r (z_s (z_s Md 29 i 6 (pu_s1 V r m p b l)) 29 i 4 ((z_s Md 29 i 6 (pu_s1 V r m p b l)).1 29 i 4 + (z_s Md 29 i 6 (pu_s1 V r m p b l)).1 29 i 6)) i _ _ p ∧ z_Ba V r m (z_s (z_s Md 29 i 6 (pu_s1 V r m p b l)) 29 i 4 ((z_s Md 29 i 6 (pu_s1 V r m p b l)).1 29 i 4 + (z_s Md 29 i 6 (pu_s1 V r m p b l)).1 29 i 6)) i p b l ∧ z_Fi i M (z_s (z_s Md 29 i 6 (pu_s1 V r m p b l)) 29 i 4 ((z_s Md 29 i 6 (pu_s1 V r m p b l)).1 29 i 4 + (z_s Md 29 i 6 (pu_s1 V r m p b l)).1 29 i 6))
        rw [e4, e6, eM]
        exact key _ rfl
      · have hg : pu_gl V r m p b l < 0 := by
          apply Classical.byContradiction
          intro w
          rw [if_neg w] at h
          exact h rfl
        have hez := easy_bd (V := V) (m := m) (line := V 3 r) 30 (Nat.le_refl 30)
        refine z_uRe (hX2_easyPace Md 0 (nI m) (Md.1 29 i 0) hvm) (g := pu_easy V m (V 3 r) 30) (by rw [hcv, em, d0]) (by decide) ?_
        refine z_uRe (hX9_secondsI (pu_easy V m (V 3 r) 30) Md hez.1) (g := pu_s1 V r m p b l) (by unfold pu_s1; rw [if_pos hg]) (by decide) ?_
        have e4 : (z_s Md 29 i 6 (pu_s1 V r m p b l)).1 29 i 4 = t := by simp [z_gs, d4]
        have e6 : (z_s Md 29 i 6 (pu_s1 V r m p b l)).1 29 i 6 = pu_s1 V r m p b l := by simp [z_gs]
        show z_Bd V r (z_s (z_s Md 29 i 6 (pu_s1 V r m p b l)) 29 i 4 ((z_s Md 29 i 6 (pu_s1 V r m p b l)).1 29 i 4 + (z_s Md 29 i 6 (pu_s1 V r m p b l)).1 29 i 6)) i _ _ p ∧ z_Ba V r m (z_s (z_s Md 29 i 6 (pu_s1 V r m p b l)) 29 i 4 ((z_s Md 29 i 6 (pu_s1 V r m p b l)).1 29 i 4 + (z_s Md 29 i 6 (pu_s1 V r m p b l)).1 29 i 6)) i p b l ∧ z_Fi i M (z_s (z_s Md 29 i 6 (pu_s1 V r m p b l)) 29 i 4 ((z_s Md 29 i 6 (pu_s1 V r m p b l)).1 29 i 4 + (z_s Md 29 i 6 (pu_s1 V r m p b l)).1 29 i 6))
        rw [e4, e6, eM]
        exact key _ rfl
    refine mid _ ?_
    show z_s Mc 29 i 3 (if 0 < (if l + pu_chg (pu_need V 0 m p b) (V 3 r) (V 5 r) < Mc.1 29 i 1 then l + pu_chg (pu_need V 0 m p b) (V 3 r) (V 5 r) else Mc.1 29 i 1) then (if l + pu_chg (pu_need V 0 m p b) (V 3 r) (V 5 r) < Mc.1 29 i 1 then l + pu_chg (pu_need V 0 m p b) (V 3 r) (V 5 r) else Mc.1 29 i 1) else 0) = _
    rw [c1, g1]
  -- the two flags
  have two : ∀ hd ou : Int32, (hd = 0 ∨ hd = 1) → (ou = 0 ∨ ou = 1) → hd = (if V 3 r < pu_need V 0 m p b then 1 else 0) → ou = (if pu_gl V r m p b l < 0 then 1 else 0) → z_Run X 2 mX1_run (fun _ M' => z_Bd V r M' i (pu_l1 V r m p b l) (t + pu_s1 V r m p b l) p ∧ z_Ba V r m M' i p b l ∧ z_Fi i M M') 65 [(0, zr 29 i), (1, zr 6 0), (2, zi (nI m)), (3, zi (pu_need V 0 m p b)), (4, zi (l + pu_chg (pu_need V 0 m p b) (V 3 r) (V 5 r)))] [] (z_s (z_s M 29 i 8 hd) 29 i 9 ou) := by
    intro hd ou h1 h2 e1 e2
    have k7 : (z_s (z_s M 29 i 8 hd) 29 i 9 ou).1 29 i 7 = b := by simp [z_gs, hb]
    have k9 : (z_s (z_s M 29 i 8 hd) 29 i 9 ou).1 29 i 9 = ou := by simp [z_gs]
    have pf : ∀ x : Int32, x = (if b = 1 ∧ ¬ pu_gl V r m p b l < 0 then 1 else 0) → z_Run X 2 mX1_run (fun _ M' => z_Bd V r M' i (pu_l1 V r m p b l) (t + pu_s1 V r m p b l) p ∧ z_Ba V r m M' i p b l ∧ z_Fi i M M') 88 [(0, zr 29 i), (1, zr 6 0), (2, zi (nI m)), (3, zi (pu_need V 0 m p b)), (4, zi (l + pu_chg (pu_need V 0 m p b) (V 3 r) (V 5 r)))] [] (z_s (z_s (z_s M 29 i 8 hd) 29 i 9 ou) 29 i 7 x) := by
      intro x ex
      refine fin _ z_Fi.refl.s.s.s ?_ ?_ ?_ ?_
      · simp [z_gs, b0, b1, b2, b3, b4, b5]
      · simp [z_gs, e1]
      · simp [z_gs, e2]
      · simp [z_gs, ex]
    refine z_go_run KX1_run [(88, [0, 1, 2, 3, 4])] 60 ?_
    refine ⟨fun h => ?_, fun h => ?_⟩ <;> rw [k7] at h
    · exact ⟨Or.inl rfl, pf 0 (by rw [if_neg (fun w => by rw [h] at w; exact absurd w.1 (by decide))])⟩
    · refine ⟨fun h3 => ?_, fun h3 => ?_⟩ <;> rw [k9] at h3
      · refine ⟨Or.inl rfl, pf 0 ?_⟩
        rw [if_neg]
        rintro ⟨_, w⟩
        rw [if_neg w] at e2
        exact h3 e2
      · refine ⟨Or.inr rfl, pf 1 ?_⟩
        rw [if_pos]
        refine ⟨hb01.resolve_left h, fun w => ?_⟩
        rw [if_pos w] at e2
        rw [e2] at h3
        exact absurd h3 (by decide)
  refine z_mg KX1_run [(65, [0, 1, 2, 3, 4])] 60 (by decide +kernel) rfl ?_
  refine z_uRe (hX2_needOf M 0 (nI m) (M.1 29 i 5) (M.1 29 i 7) 0 hvm) (g := pu_need V 0 m p b) (by rw [hV, em, b5, hb]) (by decide) ?_
  have hcg : z_Con X 0 mX9_changeBy [zi (pu_need V 0 m p b), zi (M.1 29 i 0), zi (M.1 29 i 2)] M (fun r' M' => M' = M ∧ r' = pu_chg (pu_need V 0 m p b) (V 3 r) (V 5 r)) := by
    rw [b0, b2]
    exact hX9_changeBy _ _ _ M
  refine z_uR hcg (by decide) ?_
  rw [b3]
  refine ⟨fun h => ?_, fun h => ?_⟩ <;> rw [b0] at h
  · refine ⟨Or.inl rfl, ?_⟩
    refine ⟨fun h2 => ?_, fun h2 => ?_⟩
    · exact ⟨Or.inl rfl, two 0 0 (Or.inl rfl) (Or.inl rfl) (by rw [if_neg (Int32.not_lt.mpr h)]) (by rw [if_neg (fun w => absurd (g2.mpr w) (Int32.not_lt.mpr h2))])⟩
    · exact ⟨Or.inr rfl, two 0 1 (Or.inl rfl) (Or.inr rfl) (by rw [if_neg (Int32.not_lt.mpr h)]) (by rw [if_pos (g2.mp (Int32.not_le.mp h2))])⟩
  · refine ⟨Or.inr rfl, ?_⟩
    refine ⟨fun h2 => ?_, fun h2 => ?_⟩
    · exact ⟨Or.inl rfl, two 1 0 (Or.inr rfl) (Or.inl rfl) (by rw [if_pos (Int32.not_le.mp h)]) (by rw [if_neg (fun w => absurd (g2.mpr w) (Int32.not_lt.mpr h2))])⟩
    · exact ⟨Or.inr rfl, two 1 1 (Or.inr rfl) (Or.inr rfl) (by rw [if_pos (Int32.not_le.mp h)]) (by rw [if_pos (g2.mp (Int32.not_le.mp h2))])⟩
