/-! ===== the model's games ===== -/
theorem hX10_planPace {X : z_Cx} (M : z_M) {V : Nat → Nat → Int32} {nm nr nb : Nat} (hN : z_CR V nm nr nb (z_nw M)) (h0 : z_H0 M) (r m : Nat) (hr : r < nr) (hm : m < nm) (pl : Int32) (hp : 0 ≤ pl ∧ pl ≤ 3) : z_Con X 2 mX10_planPace [zr 46 0, zi (nI r), zi pl, zi (nI m)] M (fun v M' => M' = M ∧ v = pu_cl (pu_easy V 0 (V 3 r) 30 + pu_pl pl (m < nm / 2))) := by
  have h12 := hN.1.1
  have e2 : nI nm / 2 = nI (nm / 2) := nI_divN (b := 2) (by omega) (by omega) (by omega)
  have fin : ∀ d : Int32, d = pu_pl pl (m < nm / 2) → z_Run X 2 mX10_planPace (fun v M' => M' = M ∧ v = pu_cl (pu_easy V 0 (V 3 r) 30 + pu_pl pl (m < nm / 2))) 72 [(4, zi (pu_easy V 0 (V 3 r) 30))] [zi d] M := by
    intro d hd
    refine z_go_run KX10_planPace [] 60 ?_
    refine z_uR (hX10_brought M _) (by decide) ?_
    exact ⟨rfl, by rw [← hd]; rfl⟩
  have go : ∀ e : Int32, (e = 0 ↔ ¬ m < nm / 2) → z_Run X 2 mX10_planPace (fun v M' => M' = M ∧ v = pu_cl (pu_easy V 0 (V 3 r) 30 + pu_pl pl (m < nm / 2))) 23 [(0, zr 46 0), (1, zi (nI r)), (2, zi pl), (3, zi (nI m)), (4, zi (pu_easy V 0 (V 3 r) 30))] [zi e] M := by
    intro e he
    refine z_go_run KX10_planPace [(72, [4])] 60 ?_
    refine ⟨fun g => ?_, fun g => fin 0 (by unfold pu_pl; rw [g]; rfl)⟩
    refine ⟨fun g1 => ?_, fun g1 => ?_⟩
    · refine ⟨fun g2 => fin 1 ?_, fun g2 => ?_⟩
      · unfold pu_pl
        rw [if_neg g1, if_neg g2, if_pos (by grind)]
      · refine ⟨fun g3 => fin 3 ?_, fun g3 => fin (-2) ?_⟩
        · unfold pu_pl
          rw [if_neg g1, if_pos g2, if_neg (he.mp g3)]
        · unfold pu_pl
          rw [if_neg g1, if_pos g2, if_pos (Classical.not_not.mp (fun w => g3 (he.mpr w)))]
    · refine ⟨fun g3 => fin (-2) ?_, fun g3 => fin 3 ?_⟩
      · unfold pu_pl
        rw [if_pos g1, if_neg (he.mp g3)]
      · unfold pu_pl
        rw [if_pos g1, if_pos (Classical.not_not.mp (fun w => g3 (he.mpr w)))]
  refine z_mg KX10_planPace [(23, [0, 1, 2, 3, 4])] 60 (by decide +kernel) rfl ?_
  refine z_uR (hX10_easyPace M hN r 0 hr (by omega) (h0 0 (by omega))) (by decide) ?_
  refine z_uR (hX10_miles M hN) (by decide) ?_
  refine ⟨by decide, ?_⟩
  refine ⟨fun g => ?_, fun g => ?_⟩ <;> rw [e2, nI_leI (by omega) (by omega)] at g
  · exact go 0 ⟨fun _ => by omega, fun _ => rfl⟩
  · exact go 1 ⟨fun w => absurd w (by decide), fun w => absurd (show m < nm / 2 by omega) w⟩
theorem Sm_ex {U T P : Nat → Int32} {r : Nat} : ∀ n, (pu_Sm U T P r n = true ↔ ∃ o, o < n ∧ ¬ U o = 0 ∧ o ≠ r ∧ 1 ≤ T r - T o ∧ T r - T o ≤ 5 ∧ P r ≤ P o) := by
  intro n
  induction n with
  | zero => exact ⟨fun h => absurd (show false = true from h) (by decide), fun ⟨o, h, _⟩ => absurd h (Nat.not_lt_zero o)⟩
  | succ n ih =>
    show (pu_Sm U T P r n || decide (¬ U n = 0 ∧ n ≠ r ∧ 1 ≤ T r - T n ∧ T r - T n ≤ 5 ∧ P r ≤ P n)) = true ↔ _
    rw [Bool.or_eq_true, ih, decide_eq_true_eq]
    constructor
    · rintro (⟨o, h, w⟩ | w)
      · exact ⟨o, by omega, w⟩
      · exact ⟨n, by omega, w⟩
    · rintro ⟨o, h, w⟩
      rcases (show o < n ∨ o = n by omega) with q | q
      · exact Or.inl ⟨o, q, w⟩
      · rw [q] at w; exact Or.inr w
theorem S1_2 {T P : Nat → Int32} : (pu_S1 T P 0 2 = true ↔ 0 < T 0 - T 1 ∧ T 0 - T 1 ≤ 5 ∧ P 0 ≤ P 1) ∧ (pu_S1 T P 1 2 = true ↔ 0 < T 1 - T 0 ∧ T 1 - T 0 ≤ 5 ∧ P 1 ≤ P 0) := by
  constructor
  · show ((false || decide (0 ≠ 0 ∧ 0 < T 0 - T 0 ∧ T 0 - T 0 ≤ 5 ∧ P 0 ≤ P 0)) || decide (1 ≠ 0 ∧ 0 < T 0 - T 1 ∧ T 0 - T 1 ≤ 5 ∧ P 0 ≤ P 1)) = true ↔ _
    rw [decide_eq_false (fun w => w.1 rfl), Bool.or_false, Bool.false_or, decide_eq_true_eq]
    exact ⟨fun w => w.2, fun w => ⟨by decide, w⟩⟩
  · show ((false || decide (0 ≠ 1 ∧ 0 < T 1 - T 0 ∧ T 1 - T 0 ≤ 5 ∧ P 1 ≤ P 0)) || decide (1 ≠ 1 ∧ 0 < T 1 - T 1 ∧ T 1 - T 1 ≤ 5 ∧ P 1 ≤ P 1)) = true ↔ _
    rw [Bool.false_or, Bool.or_eq_true, decide_eq_true_eq, decide_eq_true_eq]
    exact ⟨fun w => w.elim (fun w => w.2) (fun w => absurd rfl w.1), fun w => Or.inl ⟨by decide, w⟩⟩
theorem Sm_two {U T P : Nat → Int32} {a b : Nat} {t0 t1 p0 p1 : Int32} {T' P' : Nat → Int32} (hb : b < 4) (hab : a ≠ b) (hU : ∀ o, o < 4 → (¬ U o = 0 ↔ o = a ∨ o = b)) (h1 : T a = T' 0) (h2 : T b = T' 1) (h3 : P a = P' 0) (h4 : P b = P' 1) : pu_Sm U T P a 4 = pu_S1 T' P' 0 2 := by
  rw [Bool.eq_iff_iff, Sm_ex, S1_2.1, ← h1, ← h2, ← h3, ← h4]
  constructor
  · rintro ⟨o, ho, w1, w2, w3, w4, w5⟩
    rcases (hU o ho).mp w1 with e | e
    · exact absurd e w2
    · subst e
      exact ⟨one_le.mp w3, w4, w5⟩
  · rintro ⟨w3, w4, w5⟩
    exact ⟨b, hb, (hU b hb).mpr (Or.inr rfl), fun w => hab w.symm, one_le.mpr w3, w4, w5⟩
theorem Sm_two' {U T P : Nat → Int32} {a b : Nat} {T' P' : Nat → Int32} (ha : a < 4) (hab : a ≠ b) (hU : ∀ o, o < 4 → (¬ U o = 0 ↔ o = a ∨ o = b)) (h1 : T a = T' 0) (h2 : T b = T' 1) (h3 : P a = P' 0) (h4 : P b = P' 1) : pu_Sm U T P b 4 = pu_S1 T' P' 1 2 := by
  rw [Bool.eq_iff_iff, Sm_ex, S1_2.2, ← h1, ← h2, ← h3, ← h4]
  constructor
  · rintro ⟨o, ho, w1, w2, w3, w4, w5⟩
    rcases (hU o ho).mp w1 with e | e
    · subst e
      exact ⟨one_le.mp w3, w4, w5⟩
    · exact absurd e w2
  · rintro ⟨w3, w4, w5⟩
    exact ⟨a, ha, (hU a ha).mpr (Or.inl rfl), hab, one_le.mpr w3, w4, w5⟩
/-- one goes his mile, and his time is more -/
def z_g1 (V : Nat → Nat → Int32) (r m : Nat) (p b l t : Int32) (M : z_M) : z_M := z_s (z_gm V r m p b l M) 58 0 r (t + pu_s1 V r m p b l)
theorem g1_fm {V : Nat → Nat → Int32} {r m : Nat} {p b l t : Int32} {M : z_M} : z_Fm [24, 25] [57, 58] M (z_g1 V r m p b l t M) := by
  unfold z_g1 z_gm
  exact ((((z_Fm.refl).s46 (by decide)).s (by decide) (by decide)).s46 (by decide)).s (by decide) (by decide)
theorem g1_at {V : Nat → Nat → Int32} {r m : Nat} {p b l t : Int32} {M : z_M} {y : Nat} : (z_g1 V r m p b l t M).1 57 0 y = (if y = r then pu_l1 V r m p b l else M.1 57 0 y) ∧ (z_g1 V r m p b l t M).1 58 0 y = (if y = r then t + pu_s1 V r m p b l else M.1 58 0 y) := by
  unfold z_g1 z_gm
  constructor
  · rw [z_gs, if_neg (by omega), z_gs, if_neg (by omega), z_gs]
    by_cases e : y = r
    · rw [if_pos ⟨rfl, rfl, e⟩, if_pos e]
    · rw [if_neg (fun w => e w.2.2), if_neg e, z_gs, if_neg (by omega)]
  · rw [z_gs]
    by_cases e : y = r
    · rw [if_pos ⟨rfl, rfl, e⟩, if_pos e]
    · rw [if_neg (fun w => e w.2.2), if_neg e, z_gs, if_neg (by omega), z_gs, if_neg (by omega), z_gs, if_neg (by omega)]
theorem gm_at {V : Nat → Nat → Int32} {r m : Nat} {p b l : Int32} {M : z_M} {y : Nat} : (z_gm V r m p b l M).1 46 0 24 = pu_s1 V r m p b l ∧ (z_gm V r m p b l M).1 58 0 y = M.1 58 0 y := by
  unfold z_gm
  exact ⟨by rw [z_gs, if_pos ⟨rfl, rfl, rfl⟩], by rw [z_gs, if_neg (by omega), z_gs, if_neg (by omega), z_gs, if_neg (by omega)]⟩
/-- how the model tells a game -/
def pu_g2 (s : Int32) : Int32 := if s = 1 then 0 else if s = -1 then 1 else 2
theorem lX10_gameOf {X : z_Cx} (M : z_M) {V : Nat → Nat → Int32} {nm nr nb : Nat} (hN : z_CR V nm nr nb (z_nw M)) (h0 : z_H0 M) {a b : Nat} (ha : a < nr) (hb : b < nr) (hab : a ≠ b) {pa pb : Int32} (hpa : 0 ≤ pa ∧ pa ≤ 3) (hpb : 0 ≤ pb ∧ pb ≤ 3) (hU : ∀ o, o < 4 → (¬ M.1 59 0 o = 0 ↔ o = a ∨ o = b)) : ∀ (u m : Nat) (Mc : z_M), m + u = nm → z_Fm [24, 25] [56, 57, 58, 60] M Mc → (Mc.1 57 0 a = (pu_gs V (pu_ab a b) (fun j => if j = 0 then pa else pb) nm m).1 0 ∧ Mc.1 58 0 a = (pu_gs V (pu_ab a b) (fun j => if j = 0 then pa else pb) nm m).2 0) → (Mc.1 57 0 b = (pu_gs V (pu_ab a b) (fun j => if j = 0 then pa else pb) nm m).1 1 ∧ Mc.1 58 0 b = (pu_gs V (pu_ab a b) (fun j => if j = 0 then pa else pb) nm m).2 1) → z_Run X 3 mX10_gameOf (fun v M' => z_Fm [24, 25] [56, 57, 58, 60] M M' ∧ v = pu_g2 (pu_sc V a b nm pa pb)) 21 [(0, zr 46 0), (1, zi (nI a)), (2, zi (nI b)), (3, zi pa), (4, zi pb), (5, zi (nI m))] [] Mc := by
  have h12 := hN.1.1
  have h4 := hN.1.2.1
  have ea : (nI a).toNatClampNeg = a := nI_clamp (by omega)
  have eb : (nI b).toNatClampNeg = b := nI_clamp (by omega)
  have va : vp_in (nI a) 4 := vp_in_nI (by omega) (by omega)
  have vb : vp_in (nI b) 4 := vp_in_nI (by omega) (by omega)
  have hs := two_s (V := V) (n := nr) (fun r hr => (store_bd hN hr).1) ha hb
  intro u
  induction u with
  | zero =>
    intro m Mc ht hF h1 h2
    have e : m = nm := by omega
    subst e
    have hNc : z_CR V m nr nb (z_nw Mc) := by rw [nw_fm hF (by decide)]; exact hN
    have q1 : Mc.1 58 0 (nI a).toNatClampNeg = (pu_gs V (pu_ab a b) (fun j => if j = 0 then pa else pb) m m).2 0 := by rw [ea]; exact h1.2
    have q2 : Mc.1 58 0 (nI b).toNatClampNeg = (pu_gs V (pu_ab a b) (fun j => if j = 0 then pa else pb) m m).2 1 := by rw [eb]; exact h2.2
    refine z_go_run KX10_gameOf [(21, [0, 1, 2, 3, 4, 5])] 80 ?_
    refine z_uR (hX10_miles Mc hNc) (by decide) ?_
    refine ⟨fun _ => ?_, fun h => absurd (Int32.le_refl _) h⟩
    refine ⟨va, vb, ?_⟩
    rw [q1, q2]
    unfold pu_sc
    refine ⟨fun g => ?_, fun g => ?_⟩
    · refine ⟨va, vb, ?_⟩
      rw [q1, q2]
      refine ⟨fun g2 => ⟨hF, ?_⟩, fun g2 => ⟨hF, ?_⟩⟩
      · rw [if_neg (Int32.not_lt.mpr g2), if_pos (Int32.le_antisymm g g2)]
        rfl
      · rw [if_pos (Int32.not_le.mp g2)]
        rfl
    · have g' := Int32.not_le.mp g
      refine ⟨hF, ?_⟩
      rw [if_neg (by grind), if_neg (by grind)]
      rfl
  | succ u ih =>
    intro m Mc ht hF h1 h2
    have hNc : z_CR V nm nr nb (z_nw Mc) := by rw [nw_fm hF (by decide)]; exact hN
    have h0c := h0.fm hF (by decide)
    have ok := gs_ok (V := V) (ρ := pu_ab a b) (pl := fun j => if j = 0 then pa else pb) (nm := nm) hs m (by omega)
    refine z_go_run KX10_gameOf [(21, [0, 1, 2, 3, 4, 5])] 100 ?_
    refine z_uR (hX10_miles Mc hNc) (by decide) ?_
    refine ⟨fun h => absurd h (nI_ge (by omega) (by omega)), fun h => ?_⟩
    refine z_uRe (hX10_planPace Mc hNc h0c a m ha (by omega) pa hpa) (g := pu_gp V (pu_ab a b) (fun j => if j = 0 then pa else pb) nm m 0) rfl (by decide) ?_
    refine ⟨va, ?_⟩
    rw [ea]
    have f1 : z_Fm [24, 25] [56, 57, 58, 60] Mc (z_s Mc 56 0 a (pu_gp V (pu_ab a b) (fun j => if j = 0 then pa else pb) nm m 0)) := (z_Fm.refl).s (by decide) (by decide)
    refine z_uRe (hX10_planPace (z_s Mc 56 0 a (pu_gp V (pu_ab a b) (fun j => if j = 0 then pa else pb) nm m 0)) (by rw [nw_fm f1 (by decide)]; exact hNc) (h0c.fm f1 (by decide)) b m hb (by omega) pb hpb) (g := pu_gp V (pu_ab a b) (fun j => if j = 0 then pa else pb) nm m 1) rfl (by decide) ?_
    refine ⟨vb, ?_⟩
    rw [eb]
    have f2 : z_Fm [24, 25] [56, 57, 58, 60] Mc (z_s (z_s Mc 56 0 a (pu_gp V (pu_ab a b) (fun j => if j = 0 then pa else pb) nm m 0)) 56 0 b (pu_gp V (pu_ab a b) (fun j => if j = 0 then pa else pb) nm m 1)) := f1.s (by decide) (by decide)
    have p0 : (z_s (z_s Mc 56 0 a (pu_gp V (pu_ab a b) (fun j => if j = 0 then pa else pb) nm m 0)) 56 0 b (pu_gp V (pu_ab a b) (fun j => if j = 0 then pa else pb) nm m 1)).1 56 0 a = pu_gp V (pu_ab a b) (fun j => if j = 0 then pa else pb) nm m 0 := by rw [z_gs, if_neg (fun w => hab w.2.2), z_gs, if_pos ⟨rfl, rfl, rfl⟩]
    have p1 : (z_s (z_s Mc 56 0 a (pu_gp V (pu_ab a b) (fun j => if j = 0 then pa else pb) nm m 0)) 56 0 b (pu_gp V (pu_ab a b) (fun j => if j = 0 then pa else pb) nm m 1)).1 56 0 b = pu_gp V (pu_ab a b) (fun j => if j = 0 then pa else pb) nm m 1 := by rw [z_gs, if_pos ⟨rfl, rfl, rfl⟩]
    have w57 : ∀ r, (z_s (z_s Mc 56 0 a (pu_gp V (pu_ab a b) (fun j => if j = 0 then pa else pb) nm m 0)) 56 0 b (pu_gp V (pu_ab a b) (fun j => if j = 0 then pa else pb) nm m 1)).1 57 0 r = Mc.1 57 0 r := fun r => by rw [z_gs, if_neg (by omega), z_gs, if_neg (by omega)]
    have w58 : ∀ r, (z_s (z_s Mc 56 0 a (pu_gp V (pu_ab a b) (fun j => if j = 0 then pa else pb) nm m 0)) 56 0 b (pu_gp V (pu_ab a b) (fun j => if j = 0 then pa else pb) nm m 1)).1 58 0 r = Mc.1 58 0 r := fun r => by rw [z_gs, if_neg (by omega), z_gs, if_neg (by omega)]
    generalize z_s (z_s Mc 56 0 a (pu_gp V (pu_ab a b) (fun j => if j = 0 then pa else pb) nm m 0)) 56 0 b (pu_gp V (pu_ab a b) (fun j => if j = 0 then pa else pb) nm m 1) = M2 at f2 p0 p1 w57 w58 ⊢
    refine z_use (hX10_findShelters M2) (by decide) (fun _ M3 k => ?_)
    obtain ⟨k1, k2⟩ := k
    have f3 : z_Fm [24, 25] [56, 57, 58, 60] Mc M3 := f2.trans (k1.mono (by decide) (by decide))
    have hU2 : ∀ o, o < 4 → (¬ M2.1 59 0 o = 0 ↔ o = a ∨ o = b) := fun o ho => by rw [f2.2.1 59 (by decide) (by decide), hF.2.1 59 (by decide) (by decide)]; exact hU o ho
    have s0 : M3.1 60 0 a = pu_b2 (pu_S1 (pu_gs V (pu_ab a b) (fun j => if j = 0 then pa else pb) nm m).2 (pu_gp V (pu_ab a b) (fun j => if j = 0 then pa else pb) nm m) 0 2) := by
      rw [k2 a (by omega), if_neg ((hU2 a (by omega)).mpr (Or.inl rfl)), Sm_two (t0 := 0) (t1 := 0) (p0 := 0) (p1 := 0) (by omega) hab hU2 (by rw [w58]; exact h1.2) (by rw [w58]; exact h2.2) p0 p1]
    have s1 : M3.1 60 0 b = pu_b2 (pu_S1 (pu_gs V (pu_ab a b) (fun j => if j = 0 then pa else pb) nm m).2 (pu_gp V (pu_ab a b) (fun j => if j = 0 then pa else pb) nm m) 1 2) := by
      rw [k2 b (by omega), if_neg ((hU2 b (by omega)).mpr (Or.inr rfl)), Sm_two' (by omega) hab hU2 (by rw [w58]; exact h1.2) (by rw [w58]; exact h2.2) p0 p1]
    have e57 : ∀ r, M3.1 57 0 r = Mc.1 57 0 r := fun r => by rw [k1.2.1 57 (by decide) (by decide)]; exact w57 r
    have e58 : ∀ r, M3.1 58 0 r = Mc.1 58 0 r := fun r => by rw [k1.2.1 58 (by decide) (by decide)]; exact w58 r
    have e56a : M3.1 56 0 a = _ := (congrFun (congrFun (k1.2.1 56 (by decide) (by decide)) 0) a).trans p0
    have e56b : M3.1 56 0 b = _ := (congrFun (congrFun (k1.2.1 56 (by decide) (by decide)) 0) b).trans p1
    have hN3 : z_CR V nm nr nb (z_nw M3) := by rw [nw_fm f3 (by decide)]; exact hNc
    refine ⟨va, ?_⟩
    rw [ea, s0]
    generalize hb0 : pu_b2 (pu_S1 (pu_gs V (pu_ab a b) (fun j => if j = 0 then pa else pb) nm m).2 (pu_gp V (pu_ab a b) (fun j => if j = 0 then pa else pb) nm m) 0 2) = b0 at s0 ⊢
    generalize hb1 : pu_b2 (pu_S1 (pu_gs V (pu_ab a b) (fun j => if j = 0 then pa else pb) nm m).2 (pu_gp V (pu_ab a b) (fun j => if j = 0 then pa else pb) nm m) 1 2) = b1 at s1
    refine z_uV (hX10_goMile M3 hN3 (h0c.fm f3 (by decide)) a m ha (by omega) (pu_gp V (pu_ab a b) (fun j => if j = 0 then pa else pb) nm m 0) b0 ((pu_gs V (pu_ab a b) (fun j => if j = 0 then pa else pb) nm m).1 0) (by rw [e57]; exact h1.1) e56a (ok 0 (by decide)).1 (cl_bd _)) (by decide) (fun _ => ?_)
    refine ⟨va, va, ?_⟩
    rw [ea, (gm_at (y := 0)).1, gm_at.2, e58, h1.2]
    have fa : z_Fm [24, 25] [57, 58] M3 (z_g1 V a m (pu_gp V (pu_ab a b) (fun j => if j = 0 then pa else pb) nm m 0) b0 ((pu_gs V (pu_ab a b) (fun j => if j = 0 then pa else pb) nm m).1 0) ((pu_gs V (pu_ab a b) (fun j => if j = 0 then pa else pb) nm m).2 0) M3) := g1_fm
    have at1 := fun y => g1_at (V := V) (r := a) (m := m) (p := pu_gp V (pu_ab a b) (fun j => if j = 0 then pa else pb) nm m 0) (b := b0) (l := (pu_gs V (pu_ab a b) (fun j => if j = 0 then pa else pb) nm m).1 0) (t := (pu_gs V (pu_ab a b) (fun j => if j = 0 then pa else pb) nm m).2 0) (M := M3) (y := y)
    refine ⟨vb, ?_⟩
    show z_Ca X 3 mX10_goMile [zr 46 0, zi (nI b), zi (nI m), zi ((z_g1 V a m (pu_gp V (pu_ab a b) (fun j => if j = 0 then pa else pb) nm m 0) b0 ((pu_gs V (pu_ab a b) (fun j => if j = 0 then pa else pb) nm m).1 0) ((pu_gs V (pu_ab a b) (fun j => if j = 0 then pa else pb) nm m).2 0) M3).1 60 0 (nI b).toNatClampNeg)] (z_g1 V a m (pu_gp V (pu_ab a b) (fun j => if j = 0 then pa else pb) nm m 0) b0 ((pu_gs V (pu_ab a b) (fun j => if j = 0 then pa else pb) nm m).1 0) ((pu_gs V (pu_ab a b) (fun j => if j = 0 then pa else pb) nm m).2 0) M3) _
    generalize z_g1 V a m (pu_gp V (pu_ab a b) (fun j => if j = 0 then pa else pb) nm m 0) b0 ((pu_gs V (pu_ab a b) (fun j => if j = 0 then pa else pb) nm m).1 0) ((pu_gs V (pu_ab a b) (fun j => if j = 0 then pa else pb) nm m).2 0) M3 = M4 at fa at1 ⊢
    have f4 : z_Fm [24, 25] [56, 57, 58, 60] Mc M4 := f3.trans (fa.mono (by decide) (by decide))
    have e60 : M4.1 60 0 (nI b).toNatClampNeg = b1 := by rw [eb, fa.2.1 60 (by decide) (by decide)]; exact s1
    rw [e60]
    refine z_uV (hX10_goMile M4 (by rw [nw_fm f4 (by decide)]; exact hNc) (h0c.fm f4 (by decide)) b m hb (by omega) (pu_gp V (pu_ab a b) (fun j => if j = 0 then pa else pb) nm m 1) b1 ((pu_gs V (pu_ab a b) (fun j => if j = 0 then pa else pb) nm m).1 1) (by rw [(at1 b).1, if_neg (fun w => hab w.symm), e57]; exact h2.1) (by rw [fa.2.1 56 (by decide) (by decide)]; exact e56b) (ok 1 (by decide)).1 (cl_bd _)) (by decide) (fun _ => ?_)
    refine ⟨vb, vb, ?_⟩
    rw [eb, (gm_at (y := 0)).1, gm_at.2, (at1 b).2, if_neg (fun w => hab w.symm), e58, h2.2]
    have fb : z_Fm [24, 25] [57, 58] M4 (z_g1 V b m (pu_gp V (pu_ab a b) (fun j => if j = 0 then pa else pb) nm m 1) b1 ((pu_gs V (pu_ab a b) (fun j => if j = 0 then pa else pb) nm m).1 1) ((pu_gs V (pu_ab a b) (fun j => if j = 0 then pa else pb) nm m).2 1) M4) := g1_fm
    have at2 := fun y => g1_at (V := V) (r := b) (m := m) (p := pu_gp V (pu_ab a b) (fun j => if j = 0 then pa else pb) nm m 1) (b := b1) (l := (pu_gs V (pu_ab a b) (fun j => if j = 0 then pa else pb) nm m).1 1) (t := (pu_gs V (pu_ab a b) (fun j => if j = 0 then pa else pb) nm m).2 1) (M := M4) (y := y)
    have h3 := ih (m + 1) (z_g1 V b m (pu_gp V (pu_ab a b) (fun j => if j = 0 then pa else pb) nm m 1) b1 ((pu_gs V (pu_ab a b) (fun j => if j = 0 then pa else pb) nm m).1 1) ((pu_gs V (pu_ab a b) (fun j => if j = 0 then pa else pb) nm m).2 1) M4) (by omega) (hF.trans (f4.trans (fb.mono (by decide) (by decide)))) (by
      show _ = (pu_gn V (pu_ab a b) m (pu_gp V (pu_ab a b) (fun j => if j = 0 then pa else pb) nm m) (pu_gs V (pu_ab a b) (fun j => if j = 0 then pa else pb) nm m)).1 0 ∧ _ = (pu_gn V (pu_ab a b) m (pu_gp V (pu_ab a b) (fun j => if j = 0 then pa else pb) nm m) (pu_gs V (pu_ab a b) (fun j => if j = 0 then pa else pb) nm m)).2 0
      rw [gn_1, gn_2, hb0, (at2 a).1, (at2 a).2, if_neg hab, if_neg hab, (at1 a).1, (at1 a).2, if_pos rfl, if_pos rfl]
      exact ⟨rfl, rfl⟩) (by
      show _ = (pu_gn V (pu_ab a b) m (pu_gp V (pu_ab a b) (fun j => if j = 0 then pa else pb) nm m) (pu_gs V (pu_ab a b) (fun j => if j = 0 then pa else pb) nm m)).1 1 ∧ _ = (pu_gn V (pu_ab a b) m (pu_gp V (pu_ab a b) (fun j => if j = 0 then pa else pb) nm m) (pu_gs V (pu_ab a b) (fun j => if j = 0 then pa else pb) nm m)).2 1
      rw [gn_1, gn_2, hb1, (at2 b).1, (at2 b).2, if_pos rfl, if_pos rfl]
      exact ⟨rfl, rfl⟩)
    rw [← nI_1] at h3
    exact h3
