/-! ===== the model alone: hired, stays ===== -/
theorem bit01 (set : Int32) (k : Nat) : pu_bit set k = 0 ∨ pu_bit set k = 1 := by
  obtain ⟨j, hj, e⟩ := pk_andE (set >>> (nI k &&& 31)) (m := 1) 1 (by decide)
  unfold pu_bit
  rw [e]
  rcases (show j = 0 ∨ j = 1 by omega) with w | w
  · left; rw [w]; rfl
  · right; rw [w]; rfl
theorem cost_bd {V : Nat → Nat → Int32} {nm nr nb : Nat} {N : Nat → Int32} (hN : z_CR V nm nr nb N) (set : Int32) : ∀ t, t ≤ nb → 0 ≤ pu_cost V set t ∧ pu_cost V set t ≤ nI (99 * t) := by
  intro t
  induction t with
  | zero => intro _; exact ⟨(show (0 : Int32) ≤ 0 by decide), (show (0 : Int32) ≤ nI 0 by decide)⟩
  | succ t ih =>
    intro ht
    have h5 := hN.1.2.2.1
    obtain ⟨i1, i2⟩ := ih (by omega)
    have hv := (hN.2.2.2.2 t (by omega)).2.2.2.2.2
    have e : nI (99 * (t + 1)) = nI (99 * t) + 99 := by rw [show 99 * (t + 1) = 99 * t + 99 by omega, ← nI_add]; rfl
    have hb : nI (99 * t) ≤ 495 := nI_le (b := 495) (by omega) (by omega)
    show 0 ≤ pu_cost V set t + pu_bit set t * V 13 t ∧ pu_cost V set t + pu_bit set t * V 13 t ≤ _
    rw [e]
    rcases bit01 set t with w | w
    · rw [w, Int32.zero_mul]
      constructor <;> grind
    · rw [w, Int32.one_mul]
      constructor <;> grind
theorem lX10_coinOf {X : z_Cx} (M : z_M) {V : Nat → Nat → Int32} {nm nr nb : Nat} (hN : z_CR V nm nr nb (z_nw M)) (set : Int32) : ∀ (u t : Nat), t + u = nb → z_Run X 1 mX10_coinOf (fun v M' => M' = M ∧ v = pu_cost V set nb) 4 [(0, zr 46 0), (1, zi set), (2, zi (pu_cost V set t)), (3, zi (nI t))] [] M := by
  have h5 := hN.1.2.2.1
  intro u
  induction u with
  | zero =>
    intro t ht
    have e : t = nb := by omega
    subst e
    refine z_go_run KX10_coinOf [(4, [0, 1, 2, 3])] 60 ?_
    refine z_uR (hX10_rabbits M hN) (by decide) ?_
    exact ⟨fun h => ⟨rfl, rfl⟩, fun h => absurd (Int32.le_refl _) h⟩
  | succ u ih =>
    intro t ht
    have nx : ∀ x : Int32, x = pu_cost V set (t + 1) → z_Run X 1 mX10_coinOf (fun v M' => M' = M ∧ v = pu_cost V set nb) 4 [(0, zr 46 0), (1, zi set), (2, zi x), (3, zi (nI t + 1))] [] M := by
      intro x hx
      rw [hx, nI_1]
      exact ih (t + 1) (by omega)
    have es : pu_cost V set (t + 1) = pu_cost V set t + pu_bit set t * V 13 t := rfl
    refine z_go_run KX10_coinOf [(4, [0, 1, 2, 3])] 60 ?_
    refine z_uR (hX10_rabbits M hN) (by decide) ?_
    refine ⟨fun h => absurd h (nI_ge (by omega) (by omega)), fun h => ?_⟩
    refine ⟨fun h1 => ?_, fun h1 => ?_⟩
    · refine nx _ ?_
      have h2 : pu_bit set t = 0 := (bit01 set t).resolve_right h1
      rw [es, h2, Int32.zero_mul]
    · refine z_uR (hX10_coin0 M hN t (by omega)) (by decide) ?_
      refine nx _ ?_
      have h2 : pu_bit set t = 1 := h1
      rw [es, h2, Int32.one_mul]
theorem hX10_coinOf {X : z_Cx} (M : z_M) {V : Nat → Nat → Int32} {nm nr nb : Nat} (hN : z_CR V nm nr nb (z_nw M)) (set : Int32) : z_Con X 1 mX10_coinOf [zr 46 0, zi set] M (fun v M' => M' = M ∧ v = pu_cost V set nb) := by
  refine z_mg KX10_coinOf [(4, [0, 1, 2, 3])] 60 (by decide +kernel) rfl ?_
  exact lX10_coinOf M hN set nb 0 (by omega)
/-- what the model holds of the sets below t -/
def pu_hm (V : Nat → Nat → Int32) (nm nb r : Nat) (coin : Int32) (t : Nat) (best time : Int32) : Prop :=
  ((pu_hi V nm nb r coin t).1 = 1000000000 ∧ (pu_hi V nm nb r coin t).2.1 = 0 ∧ best = -1000000 ∧ time = 100000000) ∨
  (0 ≤ (pu_hi V nm nb r coin t).1 ∧ (pu_hi V nm nb r coin t).1 ≤ 14400 ∧ best = (pu_hi V nm nb r coin t).2.2 ∧ time = (pu_hi V nm nb r coin t).1 ∧ (pu_hi V nm nb r coin t).2.1 = pu_cost V best nb ∧ 0 ≤ best)
theorem z_2q {nb : Nat} (h : nb ≤ 5) : 1 <<< (nI nb &&& 31) = nI (2 ^ nb) := by
  rcases (show nb = 0 ∨ nb = 1 ∨ nb = 2 ∨ nb = 3 ∨ nb = 4 ∨ nb = 5 by omega) with e | e | e | e | e | e <;> subst e <;> decide
theorem lX10_hired {X : z_Cx} (M : z_M) {V : Nat → Nat → Int32} {nm nr nb : Nat} (hN : z_CR V nm nr nb (z_nw M)) (h0 : z_H0 M) (r : Nat) (hr : r < nr) (coin what : Int32) (hw : 0 ≤ what ∧ what ≤ 2) (n : Nat) (en : V 4 r = nI n) (hn : n ≤ 99) : ∀ (u t : Nat) (best time : Int32) (Mc : z_M), t + u = 2 ^ nb → z_Fr [61] M Mc → pu_hm V nm nb r coin t best time → z_Run X 6 mX10_hired (fun v M' => z_Fr [61] M M' ∧ v = pu_hired V nm nb r coin what) 47 [(0, zr 46 0), (1, zi (nI r)), (2, zi coin), (3, zi what), (4, zi best), (5, zi time), (6, zi (nI t))] [] Mc := by
  have h12 := hN.1.1
  have h5 := hN.1.2.2.1
  have h2p := z_2p h5
  intro u
  induction u with
  | zero =>
    intro t best time Mc ht hF hi
    have e : t = 2 ^ nb := by omega
    subst e
    have hNc : z_CR V nm nr nb (z_nw Mc) := by rw [nw_fr hF (by decide)]; exact hN
    refine z_go_run KX10_hired [(47, [0, 1, 2, 3, 4, 5, 6])] 80 ?_
    refine z_uR (hX10_rabbits Mc hNc) (by decide) ?_
    refine ⟨fun h => ?_, fun h => absurd (by rw [z_2q h5]; exact Int32.le_refl _) h⟩
    rcases hi with ⟨e1, e2, e3, e4⟩ | ⟨e1, e2, e3, e4, e5, e6⟩
    · refine ⟨fun g => ⟨hF, ?_⟩, fun g => absurd e3 g⟩
      unfold pu_hired
      rw [e1, if_pos (by decide), e3]
    · have g0 : ¬ 1000000000 ≤ (pu_hi V nm nb r coin (2 ^ nb)).1 := by grind
      refine ⟨fun g => absurd g (by grind), fun g => ?_⟩
      unfold pu_hired
      rw [if_neg g0]
      refine ⟨fun g2 => ?_, fun g2 => ⟨hF, by rw [if_pos g2]; exact e3⟩⟩
      rw [if_neg g2]
      refine ⟨fun g3 => ?_, fun g3 => ⟨hF, by rw [if_pos g3]; exact e4⟩⟩
      refine z_uR (hX10_coinOf Mc hNc best) (by decide) ?_
      exact ⟨hF, by rw [if_neg g3, e5]⟩
  | succ u ih =>
    intro t best time Mc ht hF hi
    have hNc : z_CR V nm nr nb (z_nw Mc) := by rw [nw_fr hF (by decide)]; exact hN
    have h0c : z_H0 Mc := h0.fr hF (by decide)
    have ht32 : t < 32 := by omega
    have nx : ∀ (x y : Int32) (Md : z_M), z_Fr [61] M Md → pu_hm V nm nb r coin (t + 1) x y → z_Run X 6 mX10_hired (fun v M' => z_Fr [61] M M' ∧ v = pu_hired V nm nb r coin what) 47 [(0, zr 46 0), (1, zi (nI r)), (2, zi coin), (3, zi what), (4, zi x), (5, zi y), (6, zi (nI t + 1))] [] Md := by
      intro x y Md hF2 hi2
      rw [nI_1]
      exact ih (t + 1) x y Md (by omega) hF2 hi2
    refine z_go_run KX10_hired [(47, [0, 1, 2, 3, 4, 5, 6]), (77, [0, 1, 2, 3, 4, 5, 6, 7])] 80 ?_
    refine z_uR (hX10_rabbits Mc hNc) (by decide) ?_
    refine ⟨fun h => absurd h (by rw [z_2q h5]; exact nI_ge (by omega) (by omega)), fun h => ?_⟩
    refine z_uR (hX10_coinOf Mc hNc (nI t)) (by decide) ?_
    refine ⟨fun h1 => ?_, fun h1 => ?_⟩
    · refine nx best time Mc hF ?_
      have es : pu_hi V nm nb r coin (t + 1) = pu_hi V nm nb r coin t := if_pos h1
      unfold pu_hm
      rw [es]
      exact hi
    · have es : pu_hi V nm nb r coin (t + 1) = if pu_T V (nI t) nm nb r < (pu_hi V nm nb r coin t).1 ∨ (pu_T V (nI t) nm nb r = (pu_hi V nm nb r coin t).1 ∧ pu_cost V (nI t) nb < (pu_hi V nm nb r coin t).2.1) then (pu_T V (nI t) nm nb r, pu_cost V (nI t) nb, nI t) else pu_hi V nm nb r coin t := if_neg h1
      refine z_use (hX10_leastAll Mc hNc h0c.h r hr (nI t) n en hn) (by decide) (fun v M1 g1 => ?_)
      obtain ⟨e1, hF1, _⟩ := g1
      have hT := T_of hNc h0c hr en hn (nI t)
      rw [← e1] at hT
      have hF2 := hF.trans hF1
      have hN1 : z_CR V nm nr nb (z_nw M1) := by rw [nw_fr hF2 (by decide)]; exact hN
      have hc := (cost_bd hN (nI t) nb (Nat.le_refl nb)).1
      have hT2 : (pu_T V (nI t) nm nb r = 1000000000 ∧ v = 100000000) ∨ (pu_T V (nI t) nm nb r = v ∧ 0 ≤ v ∧ v ≤ 14400) := by
        rcases hT with w | ⟨w1, w2, w3⟩
        · exact Or.inl w
        · have hb : nI (1200 * nm) ≤ 14400 := nI_le (b := 14400) (by omega) (by omega)
          rw [← w1]
          exact Or.inr ⟨rfl, w2, Int32.le_trans w3 hb⟩
      have hnt : 0 ≤ nI t := nI_pos' (by omega)
      -- what is better
      have yes : (pu_T V (nI t) nm nb r < (pu_hi V nm nb r coin t).1 ∨ (pu_T V (nI t) nm nb r = (pu_hi V nm nb r coin t).1 ∧ pu_cost V (nI t) nb < (pu_hi V nm nb r coin t).2.1)) → pu_hm V nm nb r coin (t + 1) (nI t) v := by
        intro w
        unfold pu_hm
        rw [es, if_pos w]
        rcases hT2 with ⟨w1, w2⟩ | ⟨w1, w2, w3⟩
        · exfalso
          rcases hi with ⟨i1, i2, i3, i4⟩ | ⟨i1, i2, i3, i4, i5, i6⟩
          · rw [i1, i2, w1] at w
            rcases w with w | w
            · exact absurd w (by decide)
            · exact absurd w.2 (Int32.not_lt.mpr hc)
          · rw [w1] at w
            rcases w with w | w
            · grind
            · grind
        · right
          refine ⟨by rw [w1]; exact w2, by rw [w1]; exact w3, rfl, w1.symm, rfl, hnt⟩
      have no : ¬ (pu_T V (nI t) nm nb r < (pu_hi V nm nb r coin t).1 ∨ (pu_T V (nI t) nm nb r = (pu_hi V nm nb r coin t).1 ∧ pu_cost V (nI t) nb < (pu_hi V nm nb r coin t).2.1)) → pu_hm V nm nb r coin (t + 1) best time := by
        intro w
        unfold pu_hm
        rw [es, if_neg w]
        exact hi
      -- the model's test is the class's
      have fin : ∀ b : Int32, (b = 1 ∧ (pu_T V (nI t) nm nb r < (pu_hi V nm nb r coin t).1 ∨ (pu_T V (nI t) nm nb r = (pu_hi V nm nb r coin t).1 ∧ pu_cost V (nI t) nb < (pu_hi V nm nb r coin t).2.1))) ∨ (b = 0 ∧ ¬ (pu_T V (nI t) nm nb r < (pu_hi V nm nb r coin t).1 ∨ (pu_T V (nI t) nm nb r = (pu_hi V nm nb r coin t).1 ∧ pu_cost V (nI t) nb < (pu_hi V nm nb r coin t).2.1))) → z_Run X 6 mX10_hired (fun v M' => z_Fr [61] M M' ∧ v = pu_hired V nm nb r coin what) 119 [(0, zr 46 0), (1, zi (nI r)), (2, zi coin), (3, zi what), (4, zi best), (5, zi time), (6, zi (nI t)), (7, zi v)] [zi b] M1 := by
        intro b hb
        refine z_go_run KX10_hired [(47, [0, 1, 2, 3, 4, 5, 6])] 80 ?_
        rcases hb with ⟨e, w⟩ | ⟨e, w⟩
        · subst e
          refine ⟨fun g => absurd g (by decide), fun _ => ⟨fun g => absurd g (by decide), fun _ => ?_⟩⟩
          exact nx _ _ M1 hF2 (yes w)
        · subst e
          refine ⟨fun _ => ⟨fun _ => ?_, fun g => absurd rfl g⟩, fun g => absurd rfl g⟩
          exact nx _ _ M1 hF2 (no w)
      have go : z_Run X 6 mX10_hired (fun v M' => z_Fr [61] M M' ∧ v = pu_hired V nm nb r coin what) 77 [(0, zr 46 0), (1, zi (nI r)), (2, zi coin), (3, zi what), (4, zi best), (5, zi time), (6, zi (nI t)), (7, zi v)] [] M1 := by
        refine z_go_run KX10_hired [(119, [0, 1, 2, 3, 4, 5, 6, 7])] 80 ?_
        rcases hi with ⟨i1, i2, i3, i4⟩ | ⟨i1, i2, i3, i4, i5, i6⟩
        · refine ⟨fun g => ?_, fun g => ?_⟩
          · refine fin 1 (Or.inl ⟨rfl, Or.inl ?_⟩)
            rw [i1]
            rcases hT2 with ⟨w1, w2⟩ | ⟨w1, w2, w3⟩
            · rw [w2, i4] at g
              exact absurd g (by decide)
            · rw [w1]
              grind
          · have w : ¬ (pu_T V (nI t) nm nb r < (pu_hi V nm nb r coin t).1 ∨ (pu_T V (nI t) nm nb r = (pu_hi V nm nb r coin t).1 ∧ pu_cost V (nI t) nb < (pu_hi V nm nb r coin t).2.1)) := by
              rw [i1, i2]
              rintro (w | w)
              · rcases hT2 with ⟨w1, w2⟩ | ⟨w1, w2, w3⟩
                · rw [w1] at w
                  exact absurd w (by decide)
                · rw [i4] at g
                  grind
              · exact absurd w.2 (Int32.not_lt.mpr hc)
            refine ⟨fun g2 => ?_, fun g2 => ?_⟩
            · exact fin 0 (Or.inr ⟨rfl, w⟩)
            · exact ⟨fun _ => fin 0 (Or.inr ⟨rfl, w⟩), fun g3 => absurd i3 g3⟩
        · refine ⟨fun g => ?_, fun g => ?_⟩
          · refine fin 1 (Or.inl ⟨rfl, Or.inl ?_⟩)
            rcases hT2 with ⟨w1, w2⟩ | ⟨w1, w2, w3⟩
            · exfalso
              grind
            · grind
          · have w0 : ¬ pu_T V (nI t) nm nb r < (pu_hi V nm nb r coin t).1 := by
              rcases hT2 with ⟨w1, w2⟩ | ⟨w1, w2, w3⟩
              · grind
              · grind
            have we : pu_T V (nI t) nm nb r = (pu_hi V nm nb r coin t).1 ↔ v = time := by
              rcases hT2 with ⟨w1, w2⟩ | ⟨w1, w2, w3⟩
              · grind
              · grind
            refine ⟨fun g2 => ?_, fun g2 => ?_⟩
            · exact fin 0 (Or.inr ⟨rfl, fun w => w.elim w0 (fun w => g2 (we.mp w.1))⟩)
            · refine ⟨fun g3 => absurd g3 (by grind), fun g3 => ?_⟩
              refine z_uR (hX10_coinOf M1 hN1 (nI t)) (by decide) ?_
              refine z_uR (hX10_coinOf M1 hN1 best) (by decide) ?_
              rw [← i5]
              refine ⟨fun g4 => ?_, fun g4 => ?_⟩
              · exact fin 0 (Or.inr ⟨rfl, fun w => w.elim w0 (fun w => absurd w.2 (Int32.not_lt.mpr g4))⟩)
              · exact fin 1 (Or.inl ⟨rfl, Or.inr ⟨we.mpr g2, Int32.not_le.mp g4⟩⟩)
      exact go
theorem hX10_hired {X : z_Cx} (M : z_M) {V : Nat → Nat → Int32} {nm nr nb : Nat} (hN : z_CR V nm nr nb (z_nw M)) (h0 : z_H0 M) (ru coin what : Int32) : z_Con X 6 mX10_hired [zr 46 0, zi ru, zi coin, zi what] M (fun v M' => z_Fr [61] M M' ∧ ((¬ (pu_ru nr ru ∧ (0 ≤ coin ∧ coin ≤ 999) ∧ 0 ≤ what ∧ what ≤ 2) ∧ v = -1000001) ∨ (∃ r, r < nr ∧ ru = nI r ∧ (0 ≤ coin ∧ coin ≤ 999) ∧ 0 ≤ what ∧ what ≤ 2 ∧ v = pu_hired V nm nb r coin what))) := by
  have h12 := hN.1.1
  have h4 := hN.1.2.1
  refine z_mg KX10_hired [(47, [0, 1, 2, 3, 4, 5, 6])] 80 (by decide +kernel) rfl ?_
  refine z_uR (hX10_isRunner M hN ru) (by decide) ?_
  refine ⟨fun h => ?_, fun h => ?_⟩
  · exact ⟨z_Fr.refl, Or.inl ⟨fun w => absurd w.1 (by unfold pu_ru; grind), rfl⟩⟩
  · have hru : pu_ru nr ru := by unfold pu_ru; grind
    obtain ⟨r, hr, er⟩ := ru_of (by omega) hru
    subst er
    refine z_uR (hX10_inI M coin 0 999 (by decide) (by decide)) (by decide) ?_
    refine ⟨fun h2 => ?_, fun h2 => ?_⟩
    · exact ⟨z_Fr.refl, Or.inl ⟨fun w => absurd w.2.1 (by grind), rfl⟩⟩
    · have hco : 0 ≤ coin ∧ coin ≤ 999 := by grind
      refine z_uR (hX10_inI M what 0 2 (by decide) (by decide)) (by decide) ?_
      refine ⟨fun h3 => ?_, fun h3 => ?_⟩
      · have hw : 0 ≤ what ∧ what ≤ 2 := by grind
        obtain ⟨n, _, hn, en⟩ := (hN.2.2.1 r hr).2.2.2.2.2.1
        refine z_Run.post (lX10_hired (X := X) M hN h0 r hr coin what hw n en hn (2 ^ nb) 0 (-1000000) 100000000 M (by omega) z_Fr.refl (Or.inl ⟨rfl, rfl, rfl, rfl⟩)) ?_
        rintro v M' ⟨hF, e⟩
        exact ⟨hF, Or.inr ⟨r, hr, rfl, hco, hw.1, hw.2, e⟩⟩
      · exact ⟨z_Fr.refl, Or.inl ⟨fun w => absurd w.2.2 (by grind), rfl⟩⟩
theorem sh0 {V : Nat → Nat → Int32} {m p : Int32} : ∀ nb, nb ≤ 5 → pu_sh V 0 m p nb = false := by
  intro nb
  induction nb with
  | zero => intro _; rfl
  | succ nb ih =>
    intro h
    have e : pu_bit 0 nb = 0 := by
      rcases (show nb = 0 ∨ nb = 1 ∨ nb = 2 ∨ nb = 3 ∨ nb = 4 by omega) with e | e | e | e | e <;> subst e <;> decide
    show (pu_sh V 0 m p nb || decide _) = false
    rw [ih (by omega), Bool.false_or]
    refine decide_eq_false (fun w => ?_)
    rw [e] at w
    exact absurd w.1 (by decide)
/-- alone without rabbits -/
theorem mC0 {M : z_M} {V : Nat → Nat → Int32} {nb r a b : Nat} (h5 : nb ≤ 5) : z_mC M V nb r 0 a b = pu_chg (pu_need V (z_hm M a) a (nI (10 + b)) 0) (V 3 r) (V 5 r) := by
  show pu_chg (pu_need V (z_hm M a) a (10 + nI b) (if pu_sh V 0 (nI a) (10 + nI b) nb = true then 1 else 0)) (V 3 r) (V 5 r) = _
  have e : 10 + nI b = nI (10 + b) := nI_add 10 b
  rw [sh0 nb h5, e]
  rfl
theorem lX10_stays {X : z_Cx} (M : z_M) {V : Nat → Nat → Int32} {nm nr nb : Nat} (hN : z_CR V nm nr nb (z_nw M)) (hH : z_Hh M) (r : Nat) (hr : r < nr) (v2 : Int32) (p n till : Nat) (hp : p < 31) (ht : till ≤ nm) (en : V 4 r = nI n) (hn : n ≤ 99) {R : Int32 → z_M → Prop} (h1 : pu_lae (z_mC M V nb r 0) (V 4 r) p till < 0 → R (-1000000) M) (h2 : ¬ pu_lae (z_mC M V nb r 0) (V 4 r) p till < 0 → z_Run X 5 mX10_stays R 118 [(0, zr 46 0), (1, zi (nI r)), (3, zi (nI till)), (4, zi (nI (10 + p))), (5, zi (pu_lae (z_mC M V nb r 0) (V 4 r) p till))] [] M) : ∀ (u t : Nat), t + u = till → ¬ pu_lae (z_mC M V nb r 0) (V 4 r) p t < 0 → z_Run X 5 mX10_stays R 73 [(0, zr 46 0), (1, zi (nI r)), (2, zi v2), (3, zi (nI till)), (4, zi (nI (10 + p))), (5, zi (pu_lae (z_mC M V nb r 0) (V 4 r) p t)), (6, zi (nI t))] [] M := by
  have h12 := hN.1.1
  intro u
  induction u with
  | zero =>
    intro t e hf
    have e : t = till := by omega
    subst e
    refine z_go_run KX10_stays [(73, [0, 1, 2, 3, 4, 5, 6]), (118, [0, 1, 3, 4, 5])] 80 ?_
    exact ⟨fun h => h2 hf, fun h => absurd (Int32.le_refl _) h⟩
  | succ u ih =>
    intro t e hf
    have hbd := lae_bd en hn hf
    have es : pu_lae (z_mC M V nb r 0) (V 4 r) p (t + 1) = pu_lb (z_mC M V nb r 0) (V 4 r) t p (pu_lae (z_mC M V nb r 0) (V 4 r) p t) := if_neg hf
    refine z_go_run KX10_stays [(73, [0, 1, 2, 3, 4, 5, 6]), (118, [0, 1, 3, 4, 5])] 80 ?_
    refine ⟨fun h => absurd h (nI_ge (by omega) (by omega)), fun h => ?_⟩
    refine z_uR (hX10_needOf M hN t (by omega) (nI (10 + p)) 0) (by decide) ?_
    refine z_uR (hX10_line0 M hN r hr) (by decide) ?_
    refine z_uRe (hX10_leftB M hN hH r hr t (by omega) (nI (10 + p)) 0 (V 3 r) _ (z_10 hp).1 hbd.1 hbd.2 (line_bd hN hr)) (g := pu_lae (z_mC M V nb r 0) (V 4 r) p (t + 1)) ?_ (by decide) ?_
    · rw [es]
      unfold pu_lb
      rw [mC0 hN.1.2.2.1]
    · refine ⟨fun h3 => ?_, fun h3 => ?_⟩
      · have h4 := ih (t + 1) (by omega) (Int32.not_lt.mpr h3)
        rw [← nI_1] at h4
        exact h4
      · have h3 : pu_lae (z_mC M V nb r 0) (V 4 r) p (t + 1) < 0 := Int32.not_le.mp h3
        have h4 := lae_stop h3 u
        rw [show t + 1 + u = till by omega] at h4
        exact h1 (by rw [h4]; exact h3)
theorem hX10_stays {X : z_Cx} (M : z_M) {V : Nat → Nat → Int32} {nm nr nb : Nat} (hN : z_CR V nm nr nb (z_nw M)) (h0 : z_H0 M) (ru rb : Int32) : z_Con X 5 mX10_stays [zr 46 0, zi ru, zi rb] M (fun v M' => z_Fr [61] M M' ∧ ((¬ (pu_ru nr ru ∧ pu_ru nb rb) ∧ v = -1000001) ∨ (∃ r b, r < nr ∧ ru = nI r ∧ b < nb ∧ rb = nI b ∧ v = pu_stays V nm nb r b))) := by
  have h12 := hN.1.1
  have h4 := hN.1.2.1
  have h5 := hN.1.2.2.1
  refine z_mg KX10_stays [(73, [0, 1, 2, 3, 4, 5, 6])] 80 (by decide +kernel) rfl ?_
  refine z_uR (hX10_isRunner M hN ru) (by decide) ?_
  refine ⟨fun h => ?_, fun h => ?_⟩
  · exact ⟨z_Fr.refl, Or.inl ⟨fun w => absurd w.1 (by unfold pu_ru; grind), rfl⟩⟩
  · have hru : pu_ru nr ru := by unfold pu_ru; grind
    obtain ⟨r, hr, er⟩ := ru_of (by omega) hru
    subst er
    refine z_uR (hX10_rabbits M hN) (by decide) ?_
    refine z_uR (hX10_inI M rb 0 (nI nb - 1) (by decide) rfl) (by decide) ?_
    refine ⟨fun h3 => ?_, fun h3 => ?_⟩
    · have hrb : pu_ru nb rb := by unfold pu_ru; grind
      obtain ⟨b, hb, eb⟩ := ru_of (by omega) hrb
      subst eb
      obtain ⟨n, _, hn, en⟩ := (hN.2.2.1 r hr).2.2.2.2.2.1
      obtain ⟨p, hp, ep⟩ := (hN.2.2.2.2 b hb).2.2.2.1
      obtain ⟨tl, _, ht, et⟩ := (hN.2.2.2.2 b hb).2.2.2.2.1
      have etl : pu_till V nm b = nI (if nm < tl then nm else tl) := by
        unfold pu_till
        rw [et]
        by_cases w : nm < tl
        · rw [if_pos w, if_pos (nI_lt w (by omega))]
        · rw [if_neg w, if_neg (nI_nlt (by omega) (by omega))]
      -- the rest, by the mile at which the rabbit lets go
      have rest : ∀ (till : Nat), nI till = pu_till V nm b → till ≤ nm → z_Run X 5 mX10_stays (fun v M' => z_Fr [61] M M' ∧ ((¬ (pu_ru nr (nI r) ∧ pu_ru nb (nI b)) ∧ v = -1000001) ∨ (∃ r' b', r' < nr ∧ nI r = nI r' ∧ b' < nb ∧ nI b = nI b' ∧ v = pu_stays V nm nb r' b'))) 73 [(0, zr 46 0), (1, zi (nI r)), (2, zi (nI b)), (3, zi (nI till)), (4, zi (nI (10 + p))), (5, zi (V 4 r)), (6, zi 0)] [] M := by
        intro till e1 e2
        have eA : pu_lae (z_mC M V nb r 0) (V 4 r) p till = pu_lae (pu_Cr V 0 nb r) (V 4 r) p till := lae_cg (fun a ha b hb => h0.C h12 a ha b hb) hp till e2
        have e10 := (z_10 hp).2
        have ecl : (nI till).toNatClampNeg = till := nI_clamp (by omega)
        have ess : pu_stays V nm nb r b = if pu_lae (z_mC M V nb r 0) (V 4 r) p till < 0 then -1000000 else if 1000000000 ≤ pu_G (pu_Cr V 0 nb r) (V 4 r) nm (nm - till) (pu_lae (z_mC M V nb r 0) (V 4 r) p till).toNatClampNeg then -1000000 else nI till * (12000 / nI (10 + p)) + pu_G (pu_Cr V 0 nb r) (V 4 r) nm (nm - till) (pu_lae (z_mC M V nb r 0) (V 4 r) p till).toNatClampNeg := by
          unfold pu_stays
          rw [← e1, ep, e10, ecl, eA]
        refine lX10_stays M hN h0.h r hr (nI b) p n till hp e2 en hn (fun w => ?_) (fun w => ?_) till 0 (by omega) (by show ¬ V 4 r < 0; rw [en]; exact nI_pos (by omega))
        · exact ⟨z_Fr.refl, Or.inr ⟨r, b, hr, rfl, hb, rfl, by rw [ess, if_pos w]⟩⟩
        · refine z_go_run KX10_stays [] 80 ?_
          refine z_use (hX10_findLeast M hN h0.h r hr 0 n en hn) (by decide) (fun _ M1 g1 => ?_)
          obtain ⟨l, hl, el⟩ := lae_left en hn till w
          rw [el] at ess ⊢
          refine ⟨by rw [ixl]; exact vp_in_nI (by omega) (by omega), ?_⟩
          have eL : M1.1 61 0 (100 * nI till + nI l).toNatClampNeg = pu_H (z_mC M V nb r 0) (V 4 r) nm (nm - till) l := by
            rw [ixl, nI_clamp (by omega)]
            exact g1.2 till (Nat.zero_le till) e2 l hl
          have hG := GH_of hN hr en hn (fun m hm => h0.h.at h12 hm) 0 (nm - till) (by omega) l hl
          rw [G_cg (fun a ha b hb => h0.C h12 a ha b hb) (nm - till) (by omega)] at hG
          have hT := GH_fin (by omega) hG
          rw [if_neg (by rw [← el]; exact w), nI_clamp (by omega)] at ess
          refine ⟨fun g => ?_, fun g => ?_⟩ <;> rw [eL] at g
          · have g2 := Int32.not_le.mpr g
            refine z_uR (hX10_secondsBy M1 (nI (10 + p)) (z_10 hp).1.1) (by decide) ?_
            refine ⟨g1.1, Or.inr ⟨r, b, hr, rfl, hb, rfl, ?_⟩⟩
            rw [ess, if_neg (fun w => g2 (hT.1.mp w)), (hT.2 g2).1, eL]
          · refine ⟨g1.1, Or.inr ⟨r, b, hr, rfl, hb, rfl, ?_⟩⟩
            rw [ess, if_pos (hT.1.mpr (Int32.not_lt.mp g))]
      refine z_uR (hX10_till0 M hN b hb) (by decide) ?_
      refine z_uR (hX10_miles M hN) (by decide) ?_
      rw [et]
      refine ⟨fun g => ?_, fun g => ?_⟩
      · have g2 : nm ≤ tl := (nI_leI (by omega) (by omega)).mp g
        refine z_uR (hX10_miles M hN) (by decide) ?_
        refine z_uR (hX10_pace0 M hN b hb) (by decide) ?_
        refine z_uR (hX10_store0 M hN r hr) (by decide) ?_
        rw [ep]
        refine rest nm ?_ (Nat.le_refl nm)
        rw [etl]
        congr 1
        split <;> omega
      · have g2 : tl < nm := by
          rcases Nat.lt_or_ge tl nm with w | w
          · exact w
          · exact absurd (nI_le w (by omega)) g
        refine z_uR (hX10_till0 M hN b hb) (by decide) ?_
        refine z_uR (hX10_pace0 M hN b hb) (by decide) ?_
        refine z_uR (hX10_store0 M hN r hr) (by decide) ?_
        rw [ep, et]
        refine rest tl ?_ (by omega)
        rw [etl]
        congr 1
        split <;> omega
    · exact ⟨z_Fr.refl, Or.inl ⟨fun w => absurd w.2 (by unfold pu_ru; grind), rfl⟩⟩
