/-! ===== the class alone: even paces ===== -/
def pu_lb (C : Nat → Nat → Int32) (st : Int32) (a b : Nat) (left : Int32) : Int32 := if 0 ≤ left + C a b then (if left + C a b < st then left + C a b else st) else -1
def pu_lae (C : Nat → Nat → Int32) (st : Int32) (b : Nat) : Nat → Int32
  | 0 => st
  | n + 1 => if pu_lae C st b n < 0 then pu_lae C st b n else pu_lb C st n b (pu_lae C st b n)
def pu_ev (C : Nat → Nat → Int32) (st : Int32) (nm : Nat) : Nat → Int32
  | 0 => 0
  | n + 1 => if 0 ≤ pu_lae C st n nm then nI (10 + n) else pu_ev C st nm n
theorem z_10 {b : Nat} (hb : b < 31) : (10 ≤ nI (10 + b) ∧ nI (10 + b) ≤ 40) ∧ (nI (10 + b) - 10).toNatClampNeg = b := by
  refine ⟨⟨nI_le (a := 10) (by omega) (by omega), nI_le (b := 40) (by omega) (by omega)⟩, ?_⟩
  have e : nI (10 + b) - 10 = nI b := by
    have h1 : nI (10 + b) = 10 + nI b := (nI_add 10 b).symm
    rw [h1]
    grind
  rw [e, nI_clamp (by omega)]
theorem hX0_leftB {X : z_Cx} (M : z_M) (a b : Nat) (left : Int32) (ha : a < 12) (hb : b < 31) : z_Con X 1 mX0_leftBehind [zr 30 0, zi (nI a), zi (nI (10 + b)), zi left] M (fun r M' => M' = M ∧ r = pu_lb (M.1 35) (M.1 30 0 9) a b left) := by
  have h := hX0_leftBehind (X := X) M (nI a) (nI (10 + b)) left (vp_in_nI ha (by omega)) (z_10 hb).1
  rw [(z_10 hb).2, nI_clamp (n := a) (by omega)] at h
  exact h
theorem lae_stop {C : Nat → Nat → Int32} {st : Int32} {b n : Nat} (h : pu_lae C st b n < 0) : ∀ u, pu_lae C st b (n + u) = pu_lae C st b n := by
  intro u
  induction u with
  | zero => rfl
  | succ u ih =>
    show (if pu_lae C st b (n + u) < 0 then pu_lae C st b (n + u) else _) = _
    rw [ih, if_pos h]
theorem lX0_leftAfterEven {X : z_Cx} (M : z_M) (b till nm : Nat) (hb : b < 31) (ht : till ≤ nm) (hn : nm ≤ 12) (hm : M.1 30 0 7 = nI nm) : ∀ (u t : Nat), t + u = till → z_Run X 2 mX0_leftAfterEven (fun r M' => M' = M ∧ r = pu_lae (M.1 35) (M.1 30 0 9) b till) 8 [(0, zr 30 0), (1, zi (nI (10 + b))), (2, zi (nI till)), (3, zi (pu_lae (M.1 35) (M.1 30 0 9) b t)), (4, zi (nI t))] [] M := by
  intro u
  induction u with
  | zero =>
    intro t ht
    refine z_go_run KX0_leftAfterEven [(8, [0, 1, 2, 3, 4])] 60 ?_
    refine ⟨fun h => ?_, fun h => ?_⟩
    · have e : t = till := by omega
      subst e
      exact ⟨rfl, rfl⟩
    · exact absurd (nI_le (by omega) (by omega)) h
  | succ u ih =>
    intro t htt
    refine z_go_run KX0_leftAfterEven [(8, [0, 1, 2, 3, 4])] 60 ?_
    refine ⟨fun h => ?_, fun h => ?_⟩
    · exact absurd h (nI_ge (by omega) (by omega))
    · refine ⟨fun h2 => ?_, fun h2 => ?_⟩ <;> rw [hm] at h2
      · exact absurd h2 (nI_ge (by omega) (by omega))
      · refine ⟨fun h3 => ?_, fun h3 => ?_⟩
        · refine ⟨rfl, ?_⟩
          rw [← htt, lae_stop h3]
        · refine z_uR (hX0_leftB M t b _ (by omega) hb) (by decide) ?_
          have h4 := ih (t + 1) (by omega)
          rw [← nI_1 t, show pu_lae (M.1 35) (M.1 30 0 9) b (t + 1) = pu_lb (M.1 35) (M.1 30 0 9) t b (pu_lae (M.1 35) (M.1 30 0 9) b t) from if_neg h3] at h4
          exact h4
theorem hX0_leftAfterEven {X : z_Cx} (M : z_M) (b till nm : Nat) (hb : b < 31) (ht : till ≤ nm) (hn : nm ≤ 12) (hm : M.1 30 0 7 = nI nm) : z_Con X 2 mX0_leftAfterEven [zr 30 0, zi (nI (10 + b)), zi (nI till)] M (fun r M' => M' = M ∧ r = pu_lae (M.1 35) (M.1 30 0 9) b till) := by
  refine z_mg KX0_leftAfterEven [(8, [0, 1, 2, 3, 4])] 60 (by decide +kernel) rfl ?_
  exact lX0_leftAfterEven M b till nm hb ht hn hm till 0 (by omega)
theorem lX0_evenPace {X : z_Cx} (M : z_M) (nm : Nat) (hn : nm ≤ 12) (hm : M.1 30 0 7 = nI nm) : ∀ n : Nat, n ≤ 31 → z_Run X 3 mX0_evenPace (fun r M' => M' = M ∧ r = pu_ev (M.1 35) (M.1 30 0 9) nm n) 3 [(0, zr 30 0), (1, zi (nI (9 + n)))] [] M := by
  intro n
  induction n with
  | zero =>
    intro _
    refine z_go_run KX0_evenPace [(3, [0, 1])] 60 ?_
    refine ⟨fun h => ?_, fun h => ?_⟩
    · exact ⟨rfl, rfl⟩
    · exact absurd (by decide) h
  | succ n ih =>
    intro hn31
    refine z_go_run KX0_evenPace [(3, [0, 1])] 60 ?_
    refine ⟨fun h => ?_, fun h => ?_⟩
    · exact absurd h (nI_nlt (b := 10) (by omega) (by omega))
    · have hc := hX0_leftAfterEven (X := X) M n nm nm (by omega) (Nat.le_refl nm) hn hm
      rw [show 10 + n = 9 + (n + 1) by omega, ← hm] at hc
      refine z_uR hc (by decide) ?_
      refine ⟨fun h2 => ?_, fun h2 => ?_⟩
      · have h3 := ih (by omega)
        rw [← z_m1 (9 + n)] at h3
        have e2 : pu_ev (M.1 35) (M.1 30 0 9) nm (n + 1) = pu_ev (M.1 35) (M.1 30 0 9) nm n := if_neg (Int32.not_le.mpr h2)
        rw [e2]
        exact h3
      · refine ⟨rfl, ?_⟩
        show nI (9 + (n + 1)) = (if 0 ≤ pu_lae (M.1 35) (M.1 30 0 9) n nm then nI (10 + n) else _)
        rw [if_pos (Int32.not_lt.mp h2), show 10 + n = 9 + (n + 1) by omega]
theorem hX0_evenPace {X : z_Cx} (M : z_M) (nm : Nat) (hn : nm ≤ 12) (hm : M.1 30 0 7 = nI nm) : z_Con X 3 mX0_evenPace [zr 30 0] M (fun r M' => M' = M ∧ r = pu_ev (M.1 35) (M.1 30 0 9) nm 31) := by
  refine z_mg KX0_evenPace [(3, [0, 1])] 60 (by decide +kernel) rfl ?_
  exact lX0_evenPace M nm hn hm 31 (Nat.le_refl 31)
/-- the seconds of a mile by pace 10 and b -/
def pu_sec (b : Nat) : Int32 := 12000 / nI (10 + b)
def pu_ptt (x : Int32) : Nat → Nat → Int32
  | 0, _ => 0
  | u + 1, b => if pu_sec b = x then nI (10 + b) else pu_ptt x u (b + 1)
theorem lX0_paceThatTakes {X : z_Cx} (M : z_M) (x : Int32) : ∀ (u b : Nat), b + u = 31 → z_Run X 1 mX0_paceThatTakes (fun r M' => M' = M ∧ r = pu_ptt x u b) 3 [(0, zi x), (1, zi (nI (10 + b)))] [] M := by
  intro u
  induction u with
  | zero =>
    intro b hb
    refine z_go_run KX0_paceThatTakes [(3, [0, 1])] 60 ?_
    refine ⟨fun h => ?_, fun h => ?_⟩
    · exact ⟨rfl, rfl⟩
    · exact absurd (nI_lt (a := 40) (b := 10 + b) (by omega) (by omega)) h
  | succ u ih =>
    intro b hb
    refine z_go_run KX0_paceThatTakes [(3, [0, 1])] 60 ?_
    refine ⟨fun h => ?_, fun h => ?_⟩
    · exact absurd h (nI_nlt (a := 40) (b := 10 + b) (by omega) (by omega))
    · refine z_uR (hX9_secondsI (nI (10 + b)) M (z_10 (by omega)).1.1) (by decide) ?_
      refine ⟨fun h2 => ?_, fun h2 => ?_⟩
      · have h3 := ih (b + 1) (by omega)
        rw [show 10 + (b + 1) = 10 + b + 1 by omega, ← nI_1] at h3
        have e : pu_ptt x (u + 1) b = pu_ptt x u (b + 1) := if_neg h2
        rw [e]
        exact h3
      · exact ⟨rfl, (if_pos h2).symm⟩
theorem hX0_paceThatTakes {X : z_Cx} (M : z_M) (x : Int32) : z_Con X 1 mX0_paceThatTakes [zi x] M (fun r M' => M' = M ∧ r = pu_ptt x 31 0) := by
  refine z_mg KX0_paceThatTakes [(3, [0, 1])] 60 (by decide +kernel) rfl ?_
  exact lX0_paceThatTakes M x 31 0 rfl
