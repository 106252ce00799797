/-! ===== the model's race ===== -/
theorem one_le {x : Int32} : 1 ≤ x ↔ 0 < x := by constructor <;> intro h <;> grind
theorem Sm_S1 {U T P T' P' : Nat → Int32} {nr r : Nat} (hU : ∀ o, o < 4 → U o = if o < nr then 1 else 0) (hT : ∀ o, o < nr → T o = T' o) (hP : ∀ o, o < nr → P o = P' o) (hr : r < nr) : ∀ n, n ≤ 4 → pu_Sm U T P r n = pu_S1 T' P' r (if n < nr then n else nr) := by
  intro n
  induction n with
  | zero =>
    intro _
    rw [if_pos (by omega)]
    rfl
  | succ n ih =>
    intro hn
    show (pu_Sm U T P r n || decide (¬ U n = 0 ∧ n ≠ r ∧ 1 ≤ T r - T n ∧ T r - T n ≤ 5 ∧ P r ≤ P n)) = _
    rw [ih (by omega)]
    by_cases h : n < nr
    · have e1 : (if n < nr then n else nr) = n := if_pos h
      have e2 : (if n + 1 < nr then n + 1 else nr) = n + 1 := by
        by_cases w : n + 1 < nr
        · exact if_pos w
        · rw [if_neg w]; omega
      rw [e1, e2]
      show _ = (pu_S1 T' P' r n || decide (n ≠ r ∧ 0 < T' r - T' n ∧ T' r - T' n ≤ 5 ∧ P' r ≤ P' n))
      congr 1
      rw [← hT r hr, ← hT n h, ← hP r hr, ← hP n h]
      have hu : ¬ U n = 0 := by rw [hU n (by omega), if_pos h]; decide
      rw [decide_eq_decide, one_le]
      exact ⟨fun w => w.2, fun w => ⟨hu, w⟩⟩
    · have e1 : (if n < nr then n else nr) = nr := if_neg h
      have e2 : (if n + 1 < nr then n + 1 else nr) = nr := if_neg (by omega)
      rw [e1, e2, decide_eq_false (fun w => w.1 (by rw [hU n (by omega), if_neg h])), Bool.or_false]
theorem ml_mn {U T T' : Nat → Int32} {nr : Nat} (hU : ∀ o, o < 4 → U o = if o < nr then 1 else 0) (hT : ∀ o, o < nr → T o = T' o) : ∀ n, n ≤ 4 → pu_ml U T n = pu_mn 100000000 T' (if n < nr then n else nr) := by
  intro n
  induction n with
  | zero =>
    intro _
    by_cases h : 0 < nr
    · rw [if_pos h]; rfl
    · rw [if_neg h, show nr = 0 by omega]; rfl
  | succ n ih =>
    intro hn
    unfold pu_ml
    rw [ih (by omega)]
    by_cases h : n < nr
    · have e1 : (if n < nr then n else nr) = n := if_pos h
      have e2 : (if n + 1 < nr then n + 1 else nr) = n + 1 := by
        by_cases w : n + 1 < nr
        · exact if_pos w
        · rw [if_neg w]; omega
      rw [e1, e2]
      have hu : ¬ U n = 0 := by rw [hU n (by omega), if_pos h]; decide
      conv => rhs; unfold pu_mn
      rw [hT n h]
      by_cases w : T' n < pu_mn 100000000 T' n
      · rw [if_pos ⟨hu, w⟩, if_pos w]
      · rw [if_neg (fun q => w q.2), if_neg w]
    · have e1 : (if n < nr then n else nr) = nr := if_neg h
      have e2 : (if n + 1 < nr then n + 1 else nr) = nr := if_neg (by omega)
      rw [e1, e2, if_neg (fun w => w.1 (by rw [hU n (by omega), if_neg h]))]
theorem mn_eq {T : Nat → Int32} {nr : Nat} (hT : ∀ o, o < nr → 0 ≤ T o ∧ T o ≤ 14400) : ∀ n, 1 ≤ n → n ≤ nr → pu_mn 100000000 T n = pu_mn 1000000000 T n := by
  intro n
  induction n with
  | zero => intro h; omega
  | succ n ih =>
    intro _ hn
    conv => lhs; unfold pu_mn
    conv => rhs; unfold pu_mn
    rcases Nat.eq_zero_or_pos n with e | e
    · subst e
      have h := hT 0 (by omega)
      show (if T 0 < 100000000 then T 0 else 100000000) = (if T 0 < 1000000000 then T 0 else 1000000000)
      rw [if_pos (by grind), if_pos (by grind)]
    · rw [ih e (by omega)]
theorem nx_ne {x : Nat} (h0 : x ≠ 0) (hx : x < 2147483647) : pu_nx x ≠ 0 := by
  intro w
  have h1 : 2147483647 ∣ x * 16807 := Nat.dvd_of_mod_eq_zero w
  have h2 : Nat.Coprime 2147483647 16807 := by decide +kernel
  have h3 := h2.dvd_of_dvd_mul_right h1
  have h4 := Nat.le_of_dvd (by omega) h3
  omega
theorem it_ne {x : Nat} (h0 : x ≠ 0) (hx : x < 2147483647) : ∀ n, pu_it x n ≠ 0 := by
  intro n
  induction n with
  | zero => exact h0
  | succ n ih => exact nx_ne ih (it_lt hx n)
theorem it_0 : ∀ n, pu_it 0 n = 0 := by
  intro n
  induction n with
  | zero => rfl
  | succ n ih =>
    show pu_nx (pu_it 0 n) = 0
    rw [ih]
    rfl
/-- the model's arrays of those who run -/
def z_Ra (nr : Nat) (M : z_M) (L T P : Nat → Int32) : Prop := ∀ r, r < nr → M.1 57 0 r = L r ∧ M.1 58 0 r = T r ∧ M.1 56 0 r = P r
theorem lX10_raceP {X : z_Cx} (M : z_M) {V : Nat → Nat → Int32} {nm nr nb : Nat} (hN : z_CR V nm nr nb (z_nw M)) {m seed x : Nat} {L T P : Nat → Int32} {least : Int32} (hx : x < 2147483647) (hsd : seed ≤ 999999) (hs : seed = 0 ∧ x = 0 ∨ seed ≠ 0 ∧ x ≠ 0) (hP : ∀ r, r < nr → 10 ≤ P r ∧ P r ≤ 40) (hA : z_Ra nr M L T P) (hl : least = pu_mn 1000000000 T nr) {R : Int32 → z_M → Prop} (hk : ∀ Mc, z_Fm [] [56] M Mc → (∀ r, r < nr → Mc.1 56 0 r = pu_pf V nr m L T P x r) → z_Run X 4 mX10_race R 270 [(0, zr 46 0), (3, zi (nI seed)), (4, zl (lN (pu_it x nr))), (6, zi (nI m))] [] Mc) : ∀ (u t : Nat) (Mc : z_M), t + u = nr → z_Fm [] [56] M Mc → (∀ r, r < nr → Mc.1 56 0 r = if r < t then pu_pf V nr m L T P x r else P r) → z_Run X 4 mX10_race R 173 [(0, zr 46 0), (3, zi (nI seed)), (4, zl (lN (pu_it x t))), (6, zi (nI m)), (7, zi least), (8, zi (nI t))] [] Mc := by
  have h4 := hN.1.2.1
  intro u
  induction u with
  | zero =>
    intro t Mc ht hF h1
    have e : t = nr := by omega
    subst e
    have hNc : z_CR V nm t nb (z_nw Mc) := by rw [nw_fm hF (by decide)]; exact hN
    refine z_go_run KX10_race [(173, [0, 3, 4, 6, 7, 8]), (270, [0, 3, 4, 6])] 80 ?_
    refine z_uR (hX10_runners Mc hNc) (by decide) ?_
    refine ⟨fun _ => hk Mc hF (fun r hr => by rw [h1 r hr, if_pos hr]), fun h => absurd (Int32.le_refl _) h⟩
  | succ u ih =>
    intro t Mc ht hF h1
    have hNc : z_CR V nm nr nb (z_nw Mc) := by rw [nw_fm hF (by decide)]; exact hN
    have et : (nI t).toNatClampNeg = t := nI_clamp (by omega)
    have vt : vp_in (nI t) 4 := vp_in_nI (by omega) (by omega)
    obtain ⟨a1, a2, a3⟩ := hA t (by omega)
    have e56 : Mc.1 56 0 t = P t := by rw [h1 t (by omega), if_neg (by omega)]
    have e57 : Mc.1 57 0 t = L t := by rw [hF.2.1 57 (by decide) (by decide)]; exact a1
    have e58 : Mc.1 58 0 t = T t := by rw [hF.2.1 58 (by decide) (by decide)]; exact a2
    have nx : ∀ (v : Int32) (Md : z_M), v = pu_pf V nr m L T P x t → z_Fm [] [56] M Md → (∀ r, r < nr → Md.1 56 0 r = if r = t then v else Mc.1 56 0 r) → z_Run X 4 mX10_race R 173 [(0, zr 46 0), (3, zi (nI seed)), (4, zl (lN (pu_it x (t + 1)))), (6, zi (nI m)), (7, zi least), (8, zi (nI t + 1))] [] Md := by
      intro v Md hv hFd h2
      rw [nI_1]
      refine ih (t + 1) Md (by omega) hFd (fun r hr => ?_)
      rw [h2 r hr]
      by_cases e : r = t
      · rw [if_pos e, e, if_pos (by omega), hv]
      · rw [if_neg e, h1 r hr]
        by_cases w : r < t
        · rw [if_pos w, if_pos (by omega)]
        · rw [if_neg w, if_neg (by omega)]
    refine z_go_run KX10_race [(173, [0, 3, 4, 6, 7, 8]), (270, [0, 3, 4, 6])] 80 ?_
    refine z_uR (hX10_runners Mc hNc) (by decide) ?_
    refine ⟨fun h => absurd h (nI_ge (by omega) (by omega)), fun h => ?_⟩
    refine z_uRe (hX10_paceByRules Mc hNc t m (by omega) least (P t) e56 (hP t (by omega))) (g := pu_cl (P t + pu_st V t m (L t) (T t - pu_mn 1000000000 T nr) (V 6 t).toNatClampNeg 0)) (by rw [e57, e58, hl]) (by decide) ?_
    have hp1 := cl_bd (P t + pu_st V t m (L t) (T t - pu_mn 1000000000 T nr) (V 6 t).toNatClampNeg 0)
    have epf : pu_pf V nr m L T P x t = pu_cl (pu_cl (P t + pu_st V t m (L t) (T t - pu_mn 1000000000 T nr) (V 6 t).toNatClampNeg 0) + pu_sv (pu_it x t)) := by unfold pu_pf; rfl
    generalize pu_cl (P t + pu_st V t m (L t) (T t - pu_mn 1000000000 T nr) (V 6 t).toNatClampNeg 0) = p1 at hp1 epf ⊢
    refine ⟨vt, ?_⟩
    rw [et]
    have hF1 : z_Fm [] [56] M (z_s Mc 56 0 t p1) := hF.s (by decide) (by decide)
    refine ⟨fun g => ?_, fun g => ?_⟩
    · have hs0 : seed = 0 := by
        rcases Nat.eq_zero_or_pos seed with w | w
        · exact w
        · exact absurd g (nI_nle w (by omega))
      have hx0 : x = 0 := by
        rcases hs with w | w
        · exact w.2
        · exact absurd hs0 w.1
      have h3 := nx p1 (z_s Mc 56 0 t p1) (by rw [epf, hx0, it_0]; show p1 = pu_cl (p1 + 0); rw [Int32.add_zero, cl_id hp1]) hF1 (fun r hr => by
        rw [z_gs]
        by_cases e : r = t
        · rw [if_pos ⟨rfl, rfl, e⟩, if_pos e]
        · rw [if_neg (fun w => e w.2.2), if_neg e])
      have ex : lN (pu_it x (t + 1)) = lN (pu_it x t) := by rw [hx0, it_0, it_0]
      rw [ex] at h3
      exact h3
    · have hs0 : seed ≠ 0 := by
        intro w
        rw [w] at g
        exact g (by decide)
      have hx0 : pu_it x t ≠ 0 := by
        rcases hs with w | w
        · exact absurd w.1 hs0
        · exact it_ne w.2 hx t
      obtain ⟨q1, q2⟩ := nx_rem (it_lt hx t)
      have q3 := sl_rem q2
      refine ⟨by decide, vt, ?_⟩
      have e56b : (z_s Mc 56 0 t p1).1 56 0 (nI t).toNatClampNeg = p1 := by rw [et, z_gs, if_pos ⟨rfl, rfl, rfl⟩]
      have fin : ∀ d : Int32, d = pu_sv (pu_it x t) → z_Run X 4 mX10_race R 173 [(0, zr 46 0), (3, zi (nI seed)), (4, zl (lN (pu_it x (t + 1)))), (6, zi (nI m)), (7, zi least), (8, zi (nI t + 1))] [] (z_s (z_s Mc 56 0 t p1) 56 0 t (pu_cl (p1 + d))) := by
        intro d hd
        refine nx (pu_cl (p1 + d)) _ (by rw [epf, hd]) (hF1.s (by decide) (by decide)) (fun r hr => ?_)
        rw [z_gs]
        by_cases e : r = t
        · rw [if_pos ⟨rfl, rfl, e⟩, if_pos e]
        · rw [if_neg (fun w => e w.2.2), if_neg e, z_gs, if_neg (fun w => e w.2.2)]
      have esv : pu_sv (pu_it x t) = if pu_nx (pu_it x t) % 7 = 0 then 1 else if pu_nx (pu_it x t) % 7 = 1 then -1 else 0 := by unfold pu_sv; rw [if_neg hx0]
      rw [e56b]
      have ex : lN (pu_it x (t + 1)) = lN (pu_it x t) * 16807 - lN (pu_it x t) * 16807 / 2147483647 * 2147483647 := q1.symm
      rw [ex] at fin
      refine ⟨by decide, ?_⟩
      refine ⟨fun g2 => ?_, fun g2 => ?_⟩ <;> rw [q1, q3] at g2
      · have g3 : ¬ pu_nx (pu_it x t) % 7 = 0 := fun w => g2 (lcmp_0.mpr (by rw [w]; rfl))
        refine ⟨by decide, ?_⟩
        refine ⟨fun g4 => ?_, fun g4 => ?_⟩ <;> rw [q1, q3] at g4
        · have g5 : ¬ pu_nx (pu_it x t) % 7 = 1 := fun w => g4 (lcmp_0.mpr (by rw [w]; rfl))
          refine z_uR (hX10_brought _ _) (by decide) ?_
          refine ⟨vt, ?_⟩
          rw [et]
          exact fin 0 (by rw [esv, if_neg g3, if_neg g5])
        · have g5 : pu_nx (pu_it x t) % 7 = 1 := (lN_eq (b := 1) (by omega) (by omega)).mp (lcmp_0.mp g4)
          refine z_uR (hX10_brought _ _) (by decide) ?_
          refine ⟨vt, ?_⟩
          rw [et]
          exact fin (-1) (by rw [esv, if_neg g3, if_pos g5])
      · have g3 : pu_nx (pu_it x t) % 7 = 0 := (lN_eq (b := 0) (by omega) (by omega)).mp (lcmp_0.mp g2)
        refine z_uR (hX10_brought _ _) (by decide) ?_
        refine ⟨vt, ?_⟩
        rw [et]
        exact fin 1 (by rw [esv, if_pos g3])
/-- k numbers of the race's row are written, from base on -/
def z_Wr (F : Nat → Int32) (base : Nat) (Mg : z_M) (k : Nat) (Mc : z_M) : Prop := z_Fm [] [47] Mg Mc ∧ (∀ w, w < k → z_nw Mc (base + w) = F w) ∧ ∀ y, (y < base ∨ base + k ≤ y) → z_nw Mc y = z_nw Mg y
theorem z_Wr.step {F : Nat → Int32} {base k : Nat} {Mg Mc : z_M} {v : Int32} (h : z_Wr F base Mg k Mc) (hv : v = F k) : z_Wr F base Mg (k + 1) (z_s Mc 47 (Mc.2.2 46 0).toNat (base + k) v) := by
  refine ⟨h.1.s (by decide) (by decide), fun w hw => ?_, fun y hy => ?_⟩
  · rw [nw_s]
    dsimp only
    by_cases e : w = k
    · rw [if_pos (by rw [e]), e, hv]
    · rw [if_neg (by omega)]
      exact h.2.1 w (by omega)
  · rw [nw_s]
    dsimp only
    rw [if_neg (by omega)]
    exact h.2.2 y (by omega)
theorem ixa0 (r m w : Nat) : 191 + 72 * nI r + 6 * nI m + nI w = nI (191 + 72 * r + 6 * m + w) := ixa r m w
theorem lX10_raceW {X : z_Cx} (Mg : z_M) {r m seed : Nat} {x : Int64} (hr : r < 4) (hm : m < 12) {F : Nat → Int32} (f0 : Mg.1 46 0 24 = F 0) (f1 : Mg.1 56 0 r = F 1) (f2 : Mg.1 57 0 r = F 2) (f3 : F 3 = if Mg.1 60 0 r = 0 then 0 else if Mg.1 46 0 25 = 0 then 1 else 0) (f4 : F 4 = if Mg.1 46 0 25 = 0 then 0 else 1) (f5 : Mg.1 58 0 r = F 5) {R : Int32 → z_M → Prop} (hk : ∀ Mc, z_Wr F (191 + 72 * r + 6 * m) Mg 6 Mc → z_Run X 4 mX10_race R 277 [(0, zr 46 0), (3, zi (nI seed)), (4, zl x), (6, zi (nI m)), (8, zi (nI (r + 1)))] [] Mc) : z_Run X 4 mX10_race R 332 [(0, zr 46 0), (3, zi (nI seed)), (4, zl x), (6, zi (nI m)), (8, zi (nI r)), (9, zi (191 + 72 * nI r + 6 * nI m))] [] Mg := by
  have er : (nI r).toNatClampNeg = r := nI_clamp (by omega)
  have vr : vp_in (nI r) 4 := vp_in_nI (by omega) (by omega)
  have ix : ∀ w, w < 6 → (191 + 72 * nI r + 6 * nI m + nI w).toNatClampNeg = 191 + 72 * r + 6 * m + w ∧ vp_in (191 + 72 * nI r + 6 * nI m + nI w) 479 := by
    intro w hw
    rw [ixa]
    exact ⟨nI_clamp (by omega), vp_in_nI (by omega) (by omega)⟩
  have i0 : (191 + 72 * nI r + 6 * nI m + 0).toNatClampNeg = 191 + 72 * r + 6 * m + 0 := (ix 0 (by omega)).1
  have i1 : (191 + 72 * nI r + 6 * nI m + 1).toNatClampNeg = 191 + 72 * r + 6 * m + 1 := (ix 1 (by omega)).1
  have i2 : (191 + 72 * nI r + 6 * nI m + 2).toNatClampNeg = 191 + 72 * r + 6 * m + 2 := (ix 2 (by omega)).1
  have i3 : (191 + 72 * nI r + 6 * nI m + 3).toNatClampNeg = 191 + 72 * r + 6 * m + 3 := (ix 3 (by omega)).1
  have i4 : (191 + 72 * nI r + 6 * nI m + 4).toNatClampNeg = 191 + 72 * r + 6 * m + 4 := (ix 4 (by omega)).1
  have i5 : (191 + 72 * nI r + 6 * nI m + 5).toNatClampNeg = 191 + 72 * r + 6 * m + 5 := (ix 5 (by omega)).1
  have v0 : vp_in (191 + 72 * nI r + 6 * nI m + 0) 479 := (ix 0 (by omega)).2
  have v1 : vp_in (191 + 72 * nI r + 6 * nI m + 1) 479 := (ix 1 (by omega)).2
  have v2 : vp_in (191 + 72 * nI r + 6 * nI m + 2) 479 := (ix 2 (by omega)).2
  have v3 : vp_in (191 + 72 * nI r + 6 * nI m + 3) 479 := (ix 3 (by omega)).2
  have v4 : vp_in (191 + 72 * nI r + 6 * nI m + 4) 479 := (ix 4 (by omega)).2
  have v5 : vp_in (191 + 72 * nI r + 6 * nI m + 5) 479 := (ix 5 (by omega)).2
  -- the last two
  have last : ∀ Mc, z_Wr F (191 + 72 * r + 6 * m) Mg 5 Mc → z_Run X 4 mX10_race R 429 [(0, zr 46 0), (3, zi (nI seed)), (4, zl x), (6, zi (nI m)), (8, zi (nI r)), (9, zi (191 + 72 * nI r + 6 * nI m))] [] Mc := by
    intro Mc hW
    refine z_go_run KX10_race [(277, [0, 3, 4, 6, 8])] 80 ?_
    refine ⟨vr, v5, ?_⟩
    have e58 : Mc.1 58 0 (nI r).toNatClampNeg = F 5 := by rw [er, hW.1.2.1 58 (by decide) (by decide)]; exact f5
    rw [i5, e58]
    have h3 := hk _ (hW.step (v := F 5) rfl)
    rw [← nI_1] at h3
    exact h3
  have mid : ∀ Mc, z_Wr F (191 + 72 * r + 6 * m) Mg 4 Mc → z_Run X 4 mX10_race R 408 [(0, zr 46 0), (3, zi (nI seed)), (4, zl x), (6, zi (nI m)), (8, zi (nI r)), (9, zi (191 + 72 * nI r + 6 * nI m))] [] Mc := by
    intro Mc hW
    have e25 : Mc.1 46 0 25 = Mg.1 46 0 25 := hW.1.2.2 25 (by decide)
    refine z_go_run KX10_race [(429, [0, 3, 4, 6, 8, 9])] 80 ?_
    refine ⟨fun g => ?_, fun g => ?_⟩ <;> rw [e25] at g
    · refine ⟨v4, ?_⟩
      rw [i4]
      exact last _ (hW.step (by rw [f4, if_pos g]))
    · refine ⟨v4, ?_⟩
      rw [i4]
      exact last _ (hW.step (by rw [f4, if_neg g]))
  have h0 : z_Wr F (191 + 72 * r + 6 * m) Mg 0 Mg := ⟨z_Fm.refl, fun w hw => absurd hw (Nat.not_lt_zero w), fun _ _ => rfl⟩
  have h1 := h0.step f0
  have h2 := h1.step (v := (z_s Mg 47 (Mg.2.2 46 0).toNat (191 + 72 * r + 6 * m + 0) (Mg.1 46 0 24)).1 56 0 r) (by rw [h1.1.2.1 56 (by decide) (by decide)]; exact f1)
  have h3 := h2.step (v := (z_s (z_s Mg 47 (Mg.2.2 46 0).toNat (191 + 72 * r + 6 * m + 0) (Mg.1 46 0 24)) 47 (Mg.2.2 46 0).toNat (191 + 72 * r + 6 * m + 1) ((z_s Mg 47 (Mg.2.2 46 0).toNat (191 + 72 * r + 6 * m + 0) (Mg.1 46 0 24)).1 56 0 r)).1 57 0 r) (by
    have := h2.1.2.1 57 (by decide) (by decide)
    exact (congrFun (congrFun this 0) r).trans f2)
  refine z_go_run KX10_race [(408, [0, 3, 4, 6, 8, 9])] 80 ?_
  refine ⟨v0, vr, v1, vr, v2, vr, ?_⟩
  rw [er, i0, i1, i2]
  have e60 : (z_s (z_s (z_s Mg 47 (Mg.2.2 46 0).toNat (191 + 72 * r + 6 * m + 0) (Mg.1 46 0 24)) 47 (Mg.2.2 46 0).toNat (191 + 72 * r + 6 * m + 1) ((z_s Mg 47 (Mg.2.2 46 0).toNat (191 + 72 * r + 6 * m + 0) (Mg.1 46 0 24)).1 56 0 r)) 47 (Mg.2.2 46 0).toNat (191 + 72 * r + 6 * m + 2) ((z_s (z_s Mg 47 (Mg.2.2 46 0).toNat (191 + 72 * r + 6 * m + 0) (Mg.1 46 0 24)) 47 (Mg.2.2 46 0).toNat (191 + 72 * r + 6 * m + 1) ((z_s Mg 47 (Mg.2.2 46 0).toNat (191 + 72 * r + 6 * m + 0) (Mg.1 46 0 24)).1 56 0 r)).1 57 0 r)).1 60 0 r = Mg.1 60 0 r := congrFun (congrFun (h3.1.2.1 60 (by decide) (by decide)) 0) r
  have e25 : (z_s (z_s (z_s Mg 47 (Mg.2.2 46 0).toNat (191 + 72 * r + 6 * m + 0) (Mg.1 46 0 24)) 47 (Mg.2.2 46 0).toNat (191 + 72 * r + 6 * m + 1) ((z_s Mg 47 (Mg.2.2 46 0).toNat (191 + 72 * r + 6 * m + 0) (Mg.1 46 0 24)).1 56 0 r)) 47 (Mg.2.2 46 0).toNat (191 + 72 * r + 6 * m + 2) ((z_s (z_s Mg 47 (Mg.2.2 46 0).toNat (191 + 72 * r + 6 * m + 0) (Mg.1 46 0 24)) 47 (Mg.2.2 46 0).toNat (191 + 72 * r + 6 * m + 1) ((z_s Mg 47 (Mg.2.2 46 0).toNat (191 + 72 * r + 6 * m + 0) (Mg.1 46 0 24)).1 56 0 r)).1 57 0 r)).1 46 0 25 = Mg.1 46 0 25 := h3.1.2.2 25 (by decide)
  refine ⟨fun g => ?_, fun g => ?_⟩
  · have g' := e60.symm.trans g
    refine ⟨v3, ?_⟩
    rw [i3]
    exact mid _ (h3.step (by rw [f3, if_pos g']))
  · have g' : ¬ Mg.1 60 0 r = 0 := fun w => g (e60.trans w)
    refine ⟨fun g2 => ?_, fun g2 => ?_⟩
    · have g2' : ¬ Mg.1 46 0 25 = 0 := fun w => g2 (e25.trans w)
      refine ⟨v3, ?_⟩
      rw [i3]
      exact mid _ (h3.step (by rw [f3, if_neg g', if_neg g2']))
    · have g2' := e25.symm.trans g2
      refine ⟨v3, ?_⟩
      rw [i3]
      exact mid _ (h3.step (by rw [f3, if_neg g', if_pos g2']))
