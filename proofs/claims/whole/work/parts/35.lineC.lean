/-! ===== the class: rows of a sheet; line and hour, their inner loops ===== -/
theorem hX7_atI {X : z_Cx} (M : z_M) (s x : Nat) (hx : x < 40) : z_Con X 1 mX7_at [zr 2 s, zi (nI x)] M (fun r M' => M' = M ∧ r = M.1 3 s x) := by
  have h := hX7_at (X := X) s M (nI x)
  rw [if_pos ⟨nI_pos' (by omega), nI_le (b := 39) (by omega) (by omega)⟩, nI_clamp (by omega)] at h
  exact h
def pu_iw (f : Nat → Int32) (lo hi : Int32) (x : Nat) : Nat → Bool
  | 0 => true
  | k + 1 => pu_iw f lo hi x k && decide (lo ≤ f (x + k) ∧ f (x + k) ≤ hi)
theorem iw_false {f : Nat → Int32} {lo hi : Int32} {x t : Nat} (h : pu_iw f lo hi x t = false) : ∀ u, pu_iw f lo hi x (t + u) = false := by
  intro u
  induction u with
  | zero => exact h
  | succ u ih => show (pu_iw f lo hi x (t + u) && _) = false; rw [ih]; rfl
theorem lX9_itemsWithin {X : z_Cx} (M : z_M) (s x c : Nat) (lo hi : Int32) (hx : x + c ≤ 40) : ∀ (u t : Nat), t + u = c → pu_iw (M.1 3 s) lo hi x t = true → z_Run X 2 mX9_itemsWithin (fun r M' => M' = M ∧ r = if pu_iw (M.1 3 s) lo hi x c = true then 1 else 0) 3 [(0, zr 2 s), (1, zi (nI x)), (2, zi (nI c)), (3, zi lo), (4, zi hi), (5, zi (nI t))] [] M := by
  intro u
  induction u with
  | zero =>
    intro t ht hp
    refine z_go_run KX9_itemsWithin [(3, [0, 1, 2, 3, 4, 5])] 60 ?_
    refine ⟨fun h => ?_, fun h => ?_⟩
    · have e : t = c := by omega
      subst e
      exact ⟨Or.inr rfl, rfl, (if_pos hp).symm⟩
    · exact absurd (nI_le (by omega) (by omega)) h
  | succ u ih =>
    intro t ht hp
    refine z_go_run KX9_itemsWithin [(3, [0, 1, 2, 3, 4, 5])] 60 ?_
    refine ⟨fun h => ?_, fun h => ?_⟩
    · exact absurd h (nI_ge (by omega) (by omega))
    · have ha := hX7_atI (X := X) M s (x + t) (by omega)
      rw [← nI_add] at ha
      refine z_uR ha (by decide) ?_
      refine z_uR (hX9_within _ lo hi M) (by decide) ?_
      refine ⟨fun h2 => ?_, fun h2 => ?_⟩
      · have hc : lo ≤ M.1 3 s (x + t) ∧ M.1 3 s (x + t) ≤ hi := by grind
        have h3 := ih (t + 1) (by omega) (by show (pu_iw (M.1 3 s) lo hi x t && decide _) = true; rw [hp, decide_eq_true hc]; rfl)
        rw [← nI_1 t] at h3
        exact h3
      · have hc : ¬ (lo ≤ M.1 3 s (x + t) ∧ M.1 3 s (x + t) ≤ hi) := by grind
        have hf : pu_iw (M.1 3 s) lo hi x (t + 1) = false := by show (pu_iw (M.1 3 s) lo hi x t && decide _) = false; rw [decide_eq_false hc, Bool.and_false]
        have hf2 := iw_false hf u
        rw [show t + 1 + u = c by omega] at hf2
        exact ⟨Or.inl rfl, rfl, by rw [hf2]; rfl⟩
theorem hX9_itemsWithin {X : z_Cx} (M : z_M) (s x c : Nat) (lo hi : Int32) (hx : x + c ≤ 40) : z_Con X 2 mX9_itemsWithin [zr 2 s, zi (nI x), zi (nI c), zi lo, zi hi] M (fun r M' => M' = M ∧ r = if pu_iw (M.1 3 s) lo hi x c = true then 1 else 0) := by
  refine z_mg KX9_itemsWithin [(3, [0, 1, 2, 3, 4, 5])] 60 (by decide +kernel) rfl ?_
  exact lX9_itemsWithin M s x c lo hi hx c 0 (by omega) rfl
def pu_las (C : Nat → Nat → Int32) (st : Int32) (P : Nat → Int32) : Nat → Int32
  | 0 => st
  | t + 1 => if pu_las C st P t < 0 then pu_las C st P t else if P t = 0 then -1 else pu_lb C st t (P t - 10).toNatClampNeg (pu_las C st P t)
theorem las_stop {C : Nat → Nat → Int32} {st : Int32} {P : Nat → Int32} {n : Nat} (h : pu_las C st P n < 0) : ∀ u, pu_las C st P (n + u) = pu_las C st P n := by
  intro u
  induction u with
  | zero => rfl
  | succ u ih =>
    show (if pu_las C st P (n + u) < 0 then pu_las C st P (n + u) else _) = _
    rw [ih, if_pos h]
theorem ptt_pace {x : Int32} : ∀ (u b : Nat), b + u = 31 → pu_ptt x u b = 0 ∨ ∃ p, p < 31 ∧ pu_ptt x u b = nI (10 + p) := by
  intro u
  induction u with
  | zero => intro b _; exact Or.inl rfl
  | succ u ih =>
    intro b hb
    unfold pu_ptt
    split
    · exact Or.inr ⟨b, by omega, rfl⟩
    · exact ih (b + 1) (by omega)
theorem las_cg {C C' : Nat → Nat → Int32} {st : Int32} {nm : Nat} {P : Nat → Int32} (hP : ∀ t, P t = 0 ∨ ∃ p, p < 31 ∧ P t = nI (10 + p)) (hC : ∀ a, a < nm → ∀ b, b < 31 → C a b = C' a b) : ∀ t, t ≤ nm → pu_las C st P t = pu_las C' st P t := by
  intro t
  induction t with
  | zero => intro _; rfl
  | succ t ih =>
    intro ht
    unfold pu_las
    rw [ih (by omega)]
    rcases hP t with e | ⟨p, hp, e⟩
    · rw [if_pos e, if_pos e]
    · rw [e, (z_10 hp).2, lb_cg hC (by omega) hp]
theorem lX0_leftAfterSplits {X : z_Cx} (M : z_M) (s x nm : Nat) (hx : x + nm ≤ 40) (hn : nm ≤ 12) (hm : M.1 30 0 7 = nI nm) : ∀ (u t : Nat), t + u = nm → z_Run X 2 mX0_leftAfterSplits (fun r M' => M' = M ∧ r = pu_las (M.1 35) (M.1 30 0 9) (fun t => pu_ptt (M.1 3 s (x + t)) 31 0) nm) 8 [(0, zr 30 0), (1, zr 2 s), (2, zi (nI x)), (3, zi (pu_las (M.1 35) (M.1 30 0 9) (fun t => pu_ptt (M.1 3 s (x + t)) 31 0) t)), (4, zi (nI t))] [] M := by
  intro u
  induction u with
  | zero =>
    intro t ht
    refine z_go_run KX0_leftAfterSplits [(8, [0, 1, 2, 3, 4])] 60 ?_
    refine ⟨fun h => ?_, fun h => ?_⟩ <;> rw [hm] at h
    · have e : t = nm := by omega
      subst e
      exact ⟨rfl, rfl⟩
    · exact absurd (nI_le (by omega) (by omega)) h
  | succ u ih =>
    intro t ht
    refine z_go_run KX0_leftAfterSplits [(8, [0, 1, 2, 3, 4])] 60 ?_
    refine ⟨fun h => ?_, fun h => ?_⟩ <;> rw [hm] at h
    · exact absurd h (nI_ge (by omega) (by omega))
    · refine ⟨fun h2 => ?_, fun h2 => ?_⟩
      · refine ⟨rfl, ?_⟩
        rw [← ht, las_stop h2]
      · have ha := hX7_atI (X := X) M s (x + t) (by omega)
        rw [← nI_add] at ha
        refine z_uR ha (by decide) ?_
        refine z_uR (hX0_paceThatTakes M (M.1 3 s (x + t))) (by decide) ?_
        have h4 := ih (t + 1) (by omega)
        rw [← nI_1 t, show pu_las (M.1 35) (M.1 30 0 9) (fun t => pu_ptt (M.1 3 s (x + t)) 31 0) (t + 1) = (if pu_ptt (M.1 3 s (x + t)) 31 0 = 0 then -1 else pu_lb (M.1 35) (M.1 30 0 9) t (pu_ptt (M.1 3 s (x + t)) 31 0 - 10).toNatClampNeg (pu_las (M.1 35) (M.1 30 0 9) (fun t => pu_ptt (M.1 3 s (x + t)) 31 0) t)) from if_neg h2] at h4
        refine ⟨fun h3 => ?_, fun h3 => ?_⟩
        · rw [if_neg h3] at h4
          obtain ⟨p, hp, ep⟩ := (ptt_pace (x := M.1 3 s (x + t)) 31 0 rfl).resolve_left h3
          rw [ep, (z_10 hp).2] at h4
          have hl := hX0_leftB (X := X) M t p (pu_las (M.1 35) (M.1 30 0 9) (fun t => pu_ptt (M.1 3 s (x + t)) 31 0) t) (by omega) hp
          rw [← ep] at hl
          refine z_uR hl (by decide) ?_
          exact h4
        · rw [if_pos h3] at h4
          exact h4
theorem hX0_leftAfterSplits {X : z_Cx} (M : z_M) (s x nm : Nat) (hx : x + nm ≤ 40) (hn : nm ≤ 12) (hm : M.1 30 0 7 = nI nm) : z_Con X 2 mX0_leftAfterSplits [zr 30 0, zr 2 s, zi (nI x)] M (fun r M' => M' = M ∧ r = pu_las (M.1 35) (M.1 30 0 9) (fun t => pu_ptt (M.1 3 s (x + t)) 31 0) nm) := by
  refine z_mg KX0_leftAfterSplits [(8, [0, 1, 2, 3, 4])] 60 (by decide +kernel) rfl ?_
  exact lX0_leftAfterSplits M s x nm hx hn hm nm 0 (by omega)
/-- the least line, from L on -/
def pu_ll (N : Nat → Nat → Int32) (fill st : Int32) (P : Nat → Int32) (nm : Nat) : Nat → Nat → Int32
  | 0, _ => -1000000
  | u + 1, L => if 0 ≤ pu_las (fun a b => pu_chg (N a b) (nI L) fill) st P nm then nI L else pu_ll N fill st P nm u (L + 1)
def z_kL : List Nat := [30, 33, 35, 41]
theorem lX9_leastLine {X : z_Cx} (M : z_M) (s x r nm : Nat) (fill st : Int32) (N : Nat → Nat → Int32) (hx : x + nm ≤ 40) (hn : nm ≤ 12) : ∀ (u L : Nat) (Mc : z_M), L + u = 61 → z_Fr z_kL M Mc → Mc.1 30 0 7 = nI nm → Mc.1 30 0 9 = st → Mc.1 30 0 10 = fill → (∀ a, a < nm → ∀ b, b < 31 → Mc.1 33 a b = N a b) → z_Run X 4 mX9_leastLine (fun v M' => z_Fr z_kL M M' ∧ v = pu_ll N fill st (fun t => pu_ptt (M.1 3 s (x + t)) 31 0) nm u L) 17 [(0, zr 0 0), (1, zi (nI r)), (2, zr 2 s), (3, zi (nI x)), (4, zi (nI L))] [] Mc := by
  intro u
  induction u with
  | zero =>
    intro L Mc hL hF f7 f9 f10 hN
    refine z_go_run KX9_leastLine [(17, [0, 1, 2, 3, 4])] 60 ?_
    refine ⟨fun h => ?_, fun h => ?_⟩
    · exact ⟨hF, rfl⟩
    · exact absurd (nI_lt (a := 60) (b := L) (by omega) (by omega)) h
  | succ u ih =>
    intro L Mc hL hF f7 f9 f10 hN
    refine z_go_run KX9_leastLine [(17, [0, 1, 2, 3, 4])] 60 ?_
    refine ⟨fun h => ?_, fun h => ?_⟩
    · exact absurd h (nI_nlt (a := 60) (b := L) (by omega) (by omega))
    · refine z_uV (hX0_takeLine Mc (nI L) nm hn f7) (by decide) (fun _ => ?_)
      have hF2 : z_Fr z_kL M (z_tl Mc (nI L) nm 0) := (hF.s (by decide)).sf (by decide)
      have hC : ∀ a, a < nm → ∀ b, b < 31 → (z_tl Mc (nI L) nm 0).1 35 a b = pu_chg (N a b) (nI L) fill := by
        intro a ha b hb
        show (if (a < nm ∧ b < 31) ∨ (a = nm ∧ b < 0) then pu_chg (Mc.1 33 a b) (nI L) (Mc.1 30 0 10) else _) = _
        rw [if_pos (Or.inl ⟨ha, hb⟩), hN a ha b hb, f10]
      refine z_uR (hX0_leftAfterSplits (z_tl Mc (nI L) nm 0) s x nm hx hn f7) (by decide) ?_
      have e3 : (z_tl Mc (nI L) nm 0).1 3 = M.1 3 := hF2.2 3 (by decide)
      rw [e3, las_cg (fun t => ptt_pace 31 0 rfl) hC nm (Nat.le_refl nm), show (z_tl Mc (nI L) nm 0).1 30 0 9 = st from f9]
      refine ⟨fun h2 => ?_, fun h2 => ?_⟩
      · have h3 := ih (L + 1) (z_tl Mc (nI L) nm 0) (by omega) hF2 f7 f9 f10 hN
        rw [← nI_1 L] at h3
        have e : pu_ll N fill st (fun t => pu_ptt (M.1 3 s (x + t)) 31 0) nm (u + 1) L = pu_ll N fill st (fun t => pu_ptt (M.1 3 s (x + t)) 31 0) nm u (L + 1) := if_neg (Int32.not_le.mpr h2)
        rw [e]
        exact h3
      · exact ⟨hF2, (if_pos (Int32.not_lt.mp h2)).symm⟩
theorem hX9_leastLine {X : z_Cx} (M : z_M) (s x r nm nr nb : Nat) (hW : z_Wc M nm nr nb) (hr : r < nr) (hx : x + nm ≤ 40) : z_Con X 4 mX9_leastLine [zr 0 0, zi (nI r), zr 2 s, zi (nI x)] M (fun v M' => z_Fr z_kL M M' ∧ v = pu_ll (pu_nd (z_cv M 0) (fun _ => 0) 0 nb) (M.1 12 0 r) (M.1 11 0 r) (fun t => pu_ptt (M.1 3 s (x + t)) 31 0) nm 51 10) := by
  obtain ⟨w1, w2, w3, w4, w5, w6, w7, w8, w9, w10, w11⟩ := hW
  refine z_mg KX9_leastLine [(17, [0, 1, 2, 3, 4])] 60 (by decide +kernel) rfl ?_
  refine z_use (gX0_face M 0 r nm nb 0 (by omega) w4 w6 w3 w1) (by decide) (fun _ M1 hF => ?_)
  exact lX9_leastLine M s x r nm (M.1 12 0 r) (M.1 11 0 r) (pu_nd (z_cv M 0) (fun _ => 0) 0 nb) hx w4 51 10 M1 rfl hF.1 hF.2.1 hF.2.2.1 hF.2.2.2.1 hF.2.2.2.2.1
