/-! ===== parts of a record: class and model ===== -/
def pu_or (p : Nat) : Int32 := if p = 0 ∨ p = 3 then 6 else 2
def pu_pt (f : Nat → Int32) (x h : Nat) : Nat → Int32 := fun s => if s / 2 ^ h % 2 = 0 then pu_or (pu_pop s) * (f (x + s) - f (x + (s ||| 2 ^ h))) else 0
def pu_po (f : Nat → Int32) (x h : Nat) : Nat → Int32 := pu_sum (pu_pt f x h)
def pu_parts (f : Nat → Int32) (x h : Nat) (what : Int32) : Int32 := if what = 0 then pu_po f x h 16 / nI (Nat.gcd (pu_po f x h 16).toInt.natAbs 24) else 24 / nI (Nat.gcd (pu_po f x h 16).toInt.natAbs 24)
theorem po_a : ∀ h, h < 4 → ∀ s, s < 16 → ((nI s &&& (1 <<< (nI h &&& 31)) = 0 ↔ s / 2 ^ h % 2 = 0) ∧ (((nI s >>> (nI h &&& 31)) &&& 1) = 0 ↔ s / 2 ^ h % 2 = 0) ∧ nI s ||| (1 <<< (nI h &&& 31)) = nI (s ||| 2 ^ h) ∧ (s ||| 2 ^ h) < 16 ∧ (s / 2 ^ h % 2 = 0 → pu_pop s ≤ 3)) := by decide
theorem po_p : ∀ s, s < 16 → (nI s &&& (1 : Int32)) + ((nI s >>> ((1 : Int32) &&& 31)) &&& 1) + ((nI s >>> ((2 : Int32) &&& 31)) &&& 1) + ((nI s >>> ((3 : Int32) &&& 31)) &&& 1) = nI (pu_pop s) := by decide
theorem pt_bd {f : Nat → Int32} {x h : Nat} (hh : h < 4) (hf : ∀ k, k < 16 → 0 ≤ f (x + k) ∧ f (x + k) ≤ 99999) {s : Nat} (hs : s < 16) : -600000 ≤ pu_pt f x h s ∧ pu_pt f x h s ≤ 600000 := by
  have h1 := hf s hs
  have h2 := hf (s ||| 2 ^ h) (po_a h hh s hs).2.2.2.1
  unfold pu_pt pu_or
  generalize f (x + s) = a at *
  generalize f (x + (s ||| 2 ^ h)) = b at *
  by_cases e : s / 2 ^ h % 2 = 0
  · rw [if_pos e]
    by_cases e2 : pu_pop s = 0 ∨ pu_pop s = 3
    · rw [if_pos e2]
      constructor <;> grind
    · rw [if_neg e2]
      constructor <;> grind
  · rw [if_neg e]
    decide
theorem po_bd {f : Nat → Int32} {x h : Nat} (hh : h < 4) (hf : ∀ k, k < 16 → 0 ≤ f (x + k) ∧ f (x + k) ≤ 99999) : ∀ t, t ≤ 16 → -(nI (600000 * t)) ≤ pu_po f x h t ∧ pu_po f x h t ≤ nI (600000 * t) := by
  intro t
  induction t with
  | zero => intro _; exact ⟨(show -(nI 0) ≤ (0 : Int32) by decide), (show (0 : Int32) ≤ nI 0 by decide)⟩
  | succ t ih =>
    intro ht
    have i := ih (by omega)
    have p := pt_bd hh hf (show t < 16 by omega)
    have e : nI (600000 * (t + 1)) = nI (600000 * t) + 600000 := by rw [show 600000 * (t + 1) = 600000 * t + 600000 by omega, ← nI_add]; rfl
    have b0 : 0 ≤ nI (600000 * t) := nI_pos' (by omega)
    have b1 : nI (600000 * t) ≤ 9600000 := nI_le (b := 9600000) (by omega) (by omega)
    show -(nI (600000 * (t + 1))) ≤ pu_po f x h t + pu_pt f x h t ∧ pu_po f x h t + pu_pt f x h t ≤ nI (600000 * (t + 1))
    rw [e]
    generalize pu_po f x h t = a at *
    generalize pu_pt f x h t = b at *
    generalize nI (600000 * t) = c at *
    constructor <;> grind
theorem abs_nI {x : Int32} (h0 : -9600000 ≤ x) (h1 : x ≤ 9600000) : (0 ≤ x → x = nI x.toInt.natAbs) ∧ (x < 0 → -x = nI x.toInt.natAbs ∧ 0 - x = nI x.toInt.natAbs) ∧ x.toInt.natAbs ≤ 9600000 := by
  have a0 := Int32.le_iff_toInt_le.mp h0
  have a1 := Int32.le_iff_toInt_le.mp h1
  have c0 : (-9600000 : Int32).toInt = -9600000 := by decide
  have c1 : (9600000 : Int32).toInt = 9600000 := by decide
  rw [c0] at a0
  rw [c1] at a1
  have hb : x.toInt.natAbs ≤ 9600000 := by omega
  refine ⟨fun h => ?_, fun h => ?_, hb⟩
  · apply Int32.toInt_inj.mp
    rw [nI_toInt (by omega)]
    have h2 : (0 : Int) ≤ x.toInt := Int32.le_iff_toInt_le.mp h
    omega
  · have h2 : x.toInt < (0 : Int) := Int32.lt_iff_toInt_lt.mp h
    have e : -x = nI x.toInt.natAbs := by
      apply Int32.toInt_inj.mp
      rw [nI_toInt (by omega), Int32.toInt_neg]
      have e3 : (-x.toInt).bmod (2 ^ 32) = -x.toInt := by
        apply Int.bmod_eq_of_le
        · omega
        · omega
      rw [e3]
      omega
    refine ⟨e, ?_⟩
    rw [← e]
    grind
theorem lX9_taken {X : z_Cx} (M : z_M) (s x h : Nat) (hx : x + 16 ≤ 40) (hh : h < 4) : ∀ (u t : Nat), t + u = 16 → z_Run X 2 mX9_takenOffInAllOrders (fun r M' => M' = M ∧ r = pu_po (M.1 3 s) x h 16) 10 [(0, zr 2 s), (1, zi (nI x)), (2, zi (nI h)), (3, zi (1 <<< (nI h &&& 31))), (4, zi (pu_po (M.1 3 s) x h t)), (5, zi (nI t))] [] M := by
  intro u
  induction u with
  | zero =>
    intro t ht
    have e : t = 16 := by omega
    subst e
    refine z_go_run (KX9_takenOffInAllOrders (X := X)) [(10, [0, 1, 2, 3, 4, 5])] 60 ?_
    exact ⟨fun _ => ⟨rfl, rfl⟩, fun w => absurd (by decide) w⟩
  | succ u ih =>
    intro t ht
    have ht16 : t < 16 := by omega
    obtain ⟨p1, p2, p3, p4, p5⟩ := po_a h hh t ht16
    have es : pu_po (M.1 3 s) x h (t + 1) = pu_po (M.1 3 s) x h t + pu_pt (M.1 3 s) x h t := rfl
    have nx : ∀ y : Int32, y = pu_po (M.1 3 s) x h (t + 1) → z_Run X 2 mX9_takenOffInAllOrders (fun r M' => M' = M ∧ r = pu_po (M.1 3 s) x h 16) 10 [(0, zr 2 s), (1, zi (nI x)), (2, zi (nI h)), (3, zi (1 <<< (nI h &&& 31))), (4, zi y), (5, zi (nI t + 1))] [] M := by
      intro y hy
      rw [hy, nI_1]
      exact ih (t + 1) (by omega)
    refine z_go_run (KX9_takenOffInAllOrders (X := X)) [(10, [0, 1, 2, 3, 4, 5])] 60 ?_
    refine ⟨fun w => absurd w (nI_ge (b := 16) (by omega) (by omega)), fun _ => ?_⟩
    refine z_uR (hJ6_bitCount M t ht16) (by decide) ?_
    refine ⟨fun g => ?_, fun g => ?_⟩
    · refine nx _ ?_
      rw [es]
      unfold pu_pt
      rw [if_neg (fun w => g (p1.mpr w)), Int32.add_zero]
    · have g2 := p1.mp g
      have g3 := p5 g2
      refine ⟨fun w => absurd w (nI_ge (b := 4) (by omega) (by omega)), fun _ => ?_⟩
      refine ⟨vp_in_nI (n := pu_pop t) (N := 4) (by omega) (by decide), ?_⟩
      have hc1 : z_Con X 1 mX7_at [zr 2 s, zi (nI x + nI t)] M (fun r M' => M' = M ∧ r = M.1 3 s (x + t)) := by
        rw [nI_add]
        exact hX7_atI M s (x + t) (by omega)
      have hc2 : z_Con X 1 mX7_at [zr 2 s, zi (nI x + (nI t ||| (1 <<< (nI h &&& 31))))] M (fun r M' => M' = M ∧ r = M.1 3 s (x + (t ||| 2 ^ h))) := by
        rw [p3, nI_add]
        exact hX7_atI M s (x + (t ||| 2 ^ h)) (by omega)
      refine z_uR hc1 (by decide) ?_
      refine z_uR hc2 (by decide) ?_
      refine nx _ ?_
      rw [es]
      unfold pu_pt pu_or
      rw [if_pos g2, nI_clamp (by omega)]
      have e3 : z_sv X 0 (pu_pop t) = if pu_pop t = 0 ∨ pu_pop t = 3 then 6 else 2 := by
        rcases (show pu_pop t = 0 ∨ pu_pop t = 1 ∨ pu_pop t = 2 ∨ pu_pop t = 3 by omega) with e | e | e | e <;> rw [e] <;> rfl
      rw [e3]
theorem hX9_taken {X : z_Cx} (M : z_M) (s x h : Nat) (hx : x + 16 ≤ 40) (hh : h < 4) : z_Con X 2 mX9_takenOffInAllOrders [zr 2 s, zi (nI x), zi (nI h)] M (fun r M' => M' = M ∧ r = pu_po (M.1 3 s) x h 16) := by
  refine z_mg (KX9_takenOffInAllOrders (X := X)) [(10, [0, 1, 2, 3, 4, 5])] 60 (by decide +kernel) rfl ?_
  exact lX9_taken M s x h hx hh 16 0 (by omega)
theorem gcd24 (a : Nat) : 1 ≤ Nat.gcd a 24 ∧ Nat.gcd a 24 ≤ 24 := ⟨Nat.gcd_pos_of_pos_right a (by omega), Nat.le_of_dvd (by omega) (Nat.gcd_dvd_right a 24)⟩
theorem hX9_parts {X : z_Cx} (M : z_M) (hS : z_WS M) (s i he wh : Int32) : z_Con X 3 mX9_parts [zr 0 0, zi s, zi i, zi he, zi wh] M (fun v M' =>
    (¬ ((0 ≤ s ∧ s ≤ 7) ∧ (0 ≤ he ∧ he ≤ 3) ∧ 0 ≤ wh ∧ wh ≤ 1) ∧ v = -1000001 ∧ M' = M) ∨
    ((0 ≤ s ∧ s ≤ 7) ∧ (0 ≤ he ∧ he ≤ 3) ∧ (0 ≤ wh ∧ wh ≤ 1) ∧ ¬ z_fd M s i 16 = 0 ∧ v = -1000010 - z_fd M s i 16 ∧ M' = z_s M 0 0 10 (z_fd M s i 16)) ∨
    ((0 ≤ s ∧ s ≤ 7) ∧ (0 ≤ wh ∧ wh ≤ 1) ∧ z_fd M s i 16 = 0 ∧ ∃ x h, i = nI x ∧ x + 16 ≤ 40 ∧ h < 4 ∧ he = nI h ∧ ((pu_iw (M.1 3 s.toNatClampNeg) 0 99999 x 16 = false ∧ v = -1000001 ∧ M' = M) ∨ (pu_iw (M.1 3 s.toNatClampNeg) 0 99999 x 16 = true ∧ v = pu_parts (M.1 3 s.toNatClampNeg) x h wh ∧ M' = z_s M 0 0 10 0)))) := by
  refine z_mg KX9_parts [] 90 (by decide +kernel) rfl ?_
  refine z_uR (hX9_within s 0 7 M) (by decide) ?_
  refine ⟨fun h => Or.inl ⟨by grind, rfl, rfl⟩, fun h => ?_⟩
  have hv : 0 ≤ s ∧ s ≤ 7 := by grind
  refine z_uR (hX9_within he 0 3 M) (by decide) ?_
  refine ⟨fun h => Or.inl ⟨by grind, rfl, rfl⟩, fun h1 => ?_⟩
  have hhe : 0 ≤ he ∧ he ≤ 3 := by grind
  refine z_uR (hX9_within wh 0 1 M) (by decide) ?_
  refine ⟨fun h2 => ?_, fun h => Or.inl ⟨by grind, rfl, rfl⟩⟩
  have hw : 0 ≤ wh ∧ wh ≤ 1 := by grind
  obtain ⟨hx0, hx1⟩ := hv
  refine z_uR (hX9_findingAt M s i 16 hx0 hx1) (by decide) ?_
  obtain ⟨s', hs, es, es2⟩ := s_of ⟨hx0, hx1⟩
  obtain ⟨h', hh, eh⟩ := nI_of2 (x := he) (M := 3) (n := 3) (by decide) (Int32.not_lt.mpr hhe.1) hhe.2
  have hS' := hS s' hs
  refine ⟨fun h3 => ?_, fun h3 => ?_⟩
  · obtain ⟨x, ex, hxc⟩ := fd_ok (c := 16) h3 rfl (by omega) (by rw [es2]; exact ⟨hS'.2.2.2, hS'.2.2.1⟩)
    subst es ex eh
    rw [es2]
    refine ⟨vp_in_nI (by omega) (by omega), ?_⟩
    rw [es2]
    refine z_uR (hX9_itemsWithin M s' x 16 0 99999 hxc) (by decide) ?_
    refine ⟨fun h4 => ?_, fun h4 => ?_⟩
    · have hi : pu_iw (M.1 3 s') 0 99999 x 16 = true := by
        apply Classical.byContradiction
        intro w
        rw [if_neg w] at h4
        exact h4 rfl
      refine ⟨vp_in_nI (by omega) (by omega), ?_⟩
      rw [es2]
      refine z_uR (hX9_taken M s' x h' hxc (by omega)) (by decide) ?_
      have bd := po_bd (f := M.1 3 s') (x := x) (h := h') (by omega) (iw_at 16 hi) 16 (Nat.le_refl 16)
      have ab := abs_nI (x := pu_po (M.1 3 s') x h' 16) bd.1 bd.2
      have eabs : (if 0 ≤ pu_po (M.1 3 s') x h' 16 then pu_po (M.1 3 s') x h' 16 else 0 - pu_po (M.1 3 s') x h' 16) = nI (pu_po (M.1 3 s') x h' 16).toInt.natAbs := by
        by_cases w : 0 ≤ pu_po (M.1 3 s') x h' 16
        · rw [if_pos w]; exact ab.1 w
        · rw [if_neg w]; exact (ab.2.1 (Int32.not_le.mp w)).2
      have hcd : z_Con X 0 mX9_commonDivisor [zi (if 0 ≤ pu_po (M.1 3 s') x h' 16 then pu_po (M.1 3 s') x h' 16 else 0 - pu_po (M.1 3 s') x h' 16), zi 24] M (fun r M' => M' = M ∧ r = nI (Nat.gcd (pu_po (M.1 3 s') x h' 16).toInt.natAbs 24)) := by
        rw [eabs]
        exact hX9_commonDivisor M _ (by omega)
      refine z_uR hcd (by decide) ?_
      have g24 := gcd24 (pu_po (M.1 3 s') x h' 16).toInt.natAbs
      refine ⟨fun _ => ?_, fun w => absurd (nI_le (a := 1) g24.1 (by omega)) w⟩
      refine ⟨fun h5 => ?_, fun h5 => ?_⟩
      · refine ⟨nI_ne0 (by omega) (by omega), ?_⟩
        refine z_uW (hX9_foundNothing M _) (by decide) ?_
        refine Or.inr (Or.inr ⟨⟨hx0, hx1⟩, hw, h3, x, h', rfl, hxc, by omega, rfl, Or.inr ⟨hi, ?_, rfl⟩⟩)
        unfold pu_parts
        rw [if_neg h5]
      · refine ⟨nI_ne0 (by omega) (by omega), ?_⟩
        refine z_uW (hX9_foundNothing M _) (by decide) ?_
        refine Or.inr (Or.inr ⟨⟨hx0, hx1⟩, hw, h3, x, h', rfl, hxc, by omega, rfl, Or.inr ⟨hi, ?_, rfl⟩⟩)
        unfold pu_parts
        rw [if_pos h5]
    · refine Or.inr (Or.inr ⟨⟨hx0, hx1⟩, hw, h3, x, h', rfl, hxc, by omega, rfl, Or.inl ⟨?_, rfl, rfl⟩⟩)
      cases hb : pu_iw (M.1 3 s') 0 99999 x 16 with
      | false => rfl
      | true => rw [hb] at h4; exact absurd h4 (by decide)
  · refine z_uW (hX9_found M _) (by decide) ?_
    exact Or.inr (Or.inl ⟨⟨hx0, hx1⟩, hhe, hw, h3, rfl, rfl⟩)
