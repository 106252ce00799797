/-! ===== the model's games, whole ===== -/
theorem hX10_gameOf {X : z_Cx} (M : z_M) {V : Nat → Nat → Int32} {nm nr nb : Nat} (hN : z_CR V nm nr nb (z_nw M)) (h0 : z_H0 M) {a b : Nat} (ha : a < nr) (hb : b < nr) (hab : a ≠ b) (pa pb : Int32) (hpa : 0 ≤ pa ∧ pa ≤ 3) (hpb : 0 ≤ pb ∧ pb ≤ 3) : z_Con X 3 mX10_gameOf [zr 46 0, zi (nI a), zi (nI b), zi pa, zi pb] M (fun v M' => z_Fm [24, 25] [56, 57, 58, 59, 60] M M' ∧ v = pu_g2 (pu_sc V a b nm pa pb)) := by
  have h4 := hN.1.2.1
  have ea : (nI a).toNatClampNeg = a := nI_clamp (by omega)
  have eb : (nI b).toNatClampNeg = b := nI_clamp (by omega)
  refine z_mg KX10_gameOf [(21, [0, 1, 2, 3, 4, 5])] 80 (by decide +kernel) rfl ?_
  refine z_use (hX10_startRace M) (by decide) (fun _ M1 k => ?_)
  obtain ⟨k1, k2⟩ := k
  refine ⟨vp_in_nI (by omega) (by omega), Or.inr rfl, vp_in_nI (by omega) (by omega), Or.inr rfl, ?_⟩
  rw [ea, eb]
  have f1 : z_Fm [24, 25] [56, 57, 58, 59, 60] M (z_s (z_s M1 59 0 a 1) 59 0 b 1) := ((k1.mono (by decide) (by decide)).s (by decide) (by decide)).s (by decide) (by decide)
  have hU : ∀ o, o < 4 → (¬ (z_s (z_s M1 59 0 a 1) 59 0 b 1).1 59 0 o = 0 ↔ o = a ∨ o = b) := by
    intro o ho
    rw [z_gs]
    by_cases e : o = b
    · rw [if_pos ⟨rfl, rfl, e⟩]
      exact ⟨fun _ => Or.inr e, fun _ => by decide⟩
    · rw [if_neg (fun w => e w.2.2), z_gs]
      by_cases e2 : o = a
      · rw [if_pos ⟨rfl, rfl, e2⟩]
        exact ⟨fun _ => Or.inl e2, fun _ => by decide⟩
      · rw [if_neg (fun w => e2 w.2.2), (k2 o ho).2.2]
        exact ⟨fun w => absurd rfl w, fun w => w.elim (fun w => absurd w e2) (fun w => absurd w e)⟩
  have st : ∀ r, r < nr → (z_s (z_s M1 59 0 a 1) 59 0 b 1).1 57 0 r = V 4 r ∧ (z_s (z_s M1 59 0 a 1) 59 0 b 1).1 58 0 r = 0 := by
    intro r hr
    rw [z_gs, if_neg (by omega), z_gs, if_neg (by omega), z_gs, if_neg (by omega), z_gs, if_neg (by omega), (k2 r (by omega)).1, (k2 r (by omega)).2.1]
    exact ⟨(hN.2.2.1 r hr).2.1, rfl⟩
  refine z_Run.post (lX10_gameOf (X := X) (z_s (z_s M1 59 0 a 1) 59 0 b 1) (by rw [nw_fm f1 (by decide)]; exact hN) (h0.fm f1 (by decide)) ha hb hab hpa hpb hU nm 0 _ (by omega) z_Fm.refl (st a ha) (st b hb)) ?_
  rintro v M' ⟨e1, e2⟩
  exact ⟨f1.trans (e1.mono (by decide) (by decide)), e2⟩
theorem hX10_isGame {X : z_Cx} (M : z_M) {V : Nat → Nat → Int32} {nm nr nb : Nat} (hN : z_CR V nm nr nb (z_nw M)) (ra rb : Int32) : z_Con X 2 mX10_isGame [zr 46 0, zi ra, zi rb] M (fun v M' => M' = M ∧ v = if (0 ≤ ra ∧ ra ≤ nI nr - 1) ∧ (0 ≤ rb ∧ rb ≤ nI nr - 1) ∧ ¬ ra = rb then 1 else 0) := by
  refine z_mg KX10_isGame [] 60 (by decide +kernel) rfl ?_
  refine z_uR (hX10_isRunner M hN ra) (by decide) ?_
  refine ⟨fun h => ⟨Or.inl rfl, rfl, by grind⟩, fun h => ?_⟩
  refine z_uR (hX10_isRunner M hN rb) (by decide) ?_
  refine ⟨fun h2 => ⟨Or.inl rfl, rfl, by grind⟩, fun h2 => ?_⟩
  exact ⟨fun h3 => ⟨Or.inl rfl, rfl, by grind⟩, fun h3 => ⟨Or.inr rfl, rfl, by grind⟩⟩
theorem hX10_worthTo {X : z_Cx} (M : z_M) (g w : Int32) : z_Con X 0 mX10_worthTo [zi g, zi w] M (fun v M' => M' = M ∧ v = if g = w then 2 else if g = 2 then 1 else 0) := by
  refine z_mg KX10_worthTo [] 60 (by decide +kernel) rfl ?_
  refine ⟨fun h => ?_, fun h => ⟨rfl, by rw [if_pos h]⟩⟩
  rw [if_neg h]
  exact ⟨fun h2 => ⟨rfl, by rw [if_neg h2]⟩, fun h2 => ⟨rfl, by rw [if_pos h2]⟩⟩
theorem wo_0 {s : Int32} (h : s = -1 ∨ s = 0 ∨ s = 1) : (if pu_g2 s = 0 then (2 : Int32) else if pu_g2 s = 2 then 1 else 0) = s + 1 ∧ (if pu_g2 s = 1 then (2 : Int32) else if pu_g2 s = 2 then 1 else 0) = 1 - s := by
  rcases h with e | e | e <;> subst e <;> decide
theorem wo_le {s t : Int32} (h : s = -1 ∨ s = 0 ∨ s = 1) (h2 : t = -1 ∨ t = 0 ∨ t = 1) : (t + 1 < s + 1 ↔ t < s) ∧ (1 - t < 1 - s ↔ s < t) := by
  rcases h with e | e | e <;> subst e <;> rcases h2 with e | e | e <;> subst e <;> decide
theorem lX10_isRest {X : z_Cx} (M : z_M) {S : Nat → Int32} (hS : ∀ k, k < 16 → M.1 62 0 k = pu_g2 (S k) ∧ (S k = -1 ∨ S k = 0 ∨ S k = 1)) (k : Nat) (hk : k < 16) : ∀ (u t : Nat), t + u = 4 → z_Run X 1 mX10_isRest (fun v M' => M' = M ∧ v = pu_b2 (pu_re S k 4)) 5 [(0, zr 46 0), (1, zi (nI (k / 4))), (2, zi (nI (k % 4))), (3, zi (pu_b2 (pu_re S k t))), (4, zi (nI t))] [] M := by
  have ek : 4 * (k / 4) + k % 4 = k := by omega
  have i3 : 4 * nI (k / 4) + nI (k % 4) = nI k := by
    show nI 4 * nI (k / 4) + nI (k % 4) = _
    rw [pk_mul, nI_add, ek]
  have v3 : vp_in (4 * nI (k / 4) + nI (k % 4)) 16 := by rw [i3]; exact vp_in_nI (by omega) (by omega)
  have e3 : M.1 62 0 (4 * nI (k / 4) + nI (k % 4)).toNatClampNeg = pu_g2 (S k) := by rw [i3, nI_clamp (by omega)]; exact (hS k hk).1
  intro u
  induction u with
  | zero =>
    intro t ht
    have e : t = 4 := by omega
    subst e
    refine z_go_run KX10_isRest [(5, [0, 1, 2, 3, 4])] 80 ?_
    exact ⟨fun _ => ⟨b2_01 _, rfl, rfl⟩, fun h => absurd (by decide) h⟩
  | succ u ih =>
    intro t ht
    have es : pu_re S k (t + 1) = (pu_re S k t && decide (¬ S k < S (4 * t + k % 4) ∧ ¬ S (4 * (k / 4) + t) < S k)) := rfl
    have i1 : 4 * nI t + nI (k % 4) = nI (4 * t + k % 4) := by
      show nI 4 * nI t + nI (k % 4) = _
      rw [pk_mul, nI_add]
    have i2 : 4 * nI (k / 4) + nI t = nI (4 * (k / 4) + t) := by
      show nI 4 * nI (k / 4) + nI t = _
      rw [pk_mul, nI_add]
    have s1 := hS (4 * t + k % 4) (by omega)
    have s2 := hS (4 * (k / 4) + t) (by omega)
    have s3 := hS k hk
    have e1 : M.1 62 0 (4 * nI t + nI (k % 4)).toNatClampNeg = pu_g2 (S (4 * t + k % 4)) := by rw [i1, nI_clamp (by omega)]; exact s1.1
    have e2 : M.1 62 0 (4 * nI (k / 4) + nI t).toNatClampNeg = pu_g2 (S (4 * (k / 4) + t)) := by rw [i2, nI_clamp (by omega)]; exact s2.1
    have nx : ∀ x : Int32, x = pu_b2 (pu_re S k (t + 1)) → z_Run X 1 mX10_isRest (fun v M' => M' = M ∧ v = pu_b2 (pu_re S k 4)) 5 [(0, zr 46 0), (1, zi (nI (k / 4))), (2, zi (nI (k % 4))), (3, zi x), (4, zi (nI t + 1))] [] M := by
      intro x hx
      rw [hx, nI_1]
      exact ih (t + 1) (by omega)
    have no : ¬ (pu_re S k t = true ∧ ¬ S k < S (4 * t + k % 4) ∧ ¬ S (4 * (k / 4) + t) < S k) → (0 : Int32) = pu_b2 (pu_re S k (t + 1)) := by
      intro w
      have : pu_re S k (t + 1) = false := by
        rw [es]
        cases hb : pu_re S k t with
        | false => rfl
        | true => rw [Bool.true_and]; exact decide_eq_false (fun q => w ⟨hb, q⟩)
      rw [this]
      rfl
    -- the second half
    have half : ∀ x : Int32, x = pu_b2 (pu_re S k t && decide (¬ S k < S (4 * t + k % 4))) → z_Run X 1 mX10_isRest (fun v M' => M' = M ∧ v = pu_b2 (pu_re S k 4)) 52 [(0, zr 46 0), (1, zi (nI (k / 4))), (2, zi (nI (k % 4))), (4, zi (nI t))] [zi x] M := by
      intro x hx
      refine z_go_run KX10_isRest [(5, [0, 1, 2, 3, 4])] 80 ?_
      refine ⟨fun g => ?_, fun g => ?_⟩
      · refine nx 0 (no (fun w => ?_))
        rw [hx, w.1, Bool.true_and, decide_eq_true w.2.1] at g
        exact absurd g (by decide)
      · have g1 : pu_re S k t = true ∧ ¬ S k < S (4 * t + k % 4) := by
          cases hb : (pu_re S k t && decide (¬ S k < S (4 * t + k % 4))) with
          | false => rw [hx, hb] at g; exact absurd rfl g
          | true =>
            rw [Bool.and_eq_true, decide_eq_true_eq] at hb
            exact hb
        refine ⟨by rw [i2]; exact vp_in_nI (by omega) (by omega), ?_⟩
        rw [e2]
        refine z_uRe (hX10_worthTo M _ 1) (wo_0 s2.2).2 (by decide) ?_
        refine ⟨v3, ?_⟩
        rw [e3]
        refine z_uRe (hX10_worthTo M _ 1) (wo_0 s3.2).2 (by decide) ?_
        refine ⟨fun g2 => nx 0 (no (fun w => w.2.2 ((wo_le s2.2 s3.2).2.mp g2))), fun g2 => nx 1 ?_⟩
        have g3 : ¬ S (4 * (k / 4) + t) < S k := fun w => g2 ((wo_le s2.2 s3.2).2.mpr w)
        rw [es, g1.1, Bool.true_and, decide_eq_true ⟨g1.2, g3⟩]
        rfl
    refine z_go_run KX10_isRest [(5, [0, 1, 2, 3, 4]), (52, [0, 1, 2, 4])] 80 ?_
    refine ⟨fun h => absurd h (nI_ge (b := 4) (by omega) (by omega)), fun h => ?_⟩
    refine ⟨fun g => ?_, fun g => ?_⟩
    · refine half 0 ?_
      cases hb : pu_re S k t with
      | false => rfl
      | true => rw [hb] at g; exact absurd g (by decide)
    · have hb : pu_re S k t = true := by
        cases hb : pu_re S k t with
        | true => rfl
        | false => rw [hb] at g; exact absurd rfl g
      refine ⟨by rw [i1]; exact vp_in_nI (by omega) (by omega), ?_⟩
      rw [e1]
      refine z_uRe (hX10_worthTo M _ 0) (wo_0 s1.2).1 (by decide) ?_
      refine ⟨v3, ?_⟩
      rw [e3]
      refine z_uRe (hX10_worthTo M _ 0) (wo_0 s3.2).1 (by decide) ?_
      refine ⟨fun g2 => half 0 ?_, fun g2 => half 1 ?_⟩
      · rw [hb, Bool.true_and, decide_eq_false (fun w => w ((wo_le s1.2 s3.2).1.mp g2))]
        rfl
      · rw [hb, Bool.true_and, decide_eq_true (show ¬ S k < S (4 * t + k % 4) from fun w => g2 ((wo_le s1.2 s3.2).1.mpr w))]
        rfl
theorem hX10_isRest {X : z_Cx} (M : z_M) {S : Nat → Int32} (hS : ∀ k, k < 16 → M.1 62 0 k = pu_g2 (S k) ∧ (S k = -1 ∨ S k = 0 ∨ S k = 1)) (k : Nat) (hk : k < 16) : z_Con X 1 mX10_isRest [zr 46 0, zi (nI (k / 4)), zi (nI (k % 4))] M (fun v M' => M' = M ∧ v = pu_b2 (pu_re S k 4)) := by
  refine z_mg KX10_isRest [(5, [0, 1, 2, 3, 4])] 80 (by decide +kernel) rfl ?_
  exact lX10_isRest M hS k hk 4 0 (by omega)
theorem sc_3 {V : Nat → Nat → Int32} {a b nm : Nat} {pa pb : Int32} : pu_sc V a b nm pa pb = -1 ∨ pu_sc V a b nm pa pb = 0 ∨ pu_sc V a b nm pa pb = 1 := by
  unfold pu_sc
  split
  · exact Or.inl rfl
  · split
    · exact Or.inr (Or.inl rfl)
    · exact Or.inr (Or.inr rfl)
theorem lX10_rests2 {X : z_Cx} (M : z_M) {S : Nat → Int32} (hS : ∀ k, k < 16 → M.1 62 0 k = pu_g2 (S k) ∧ (S k = -1 ∨ S k = 0 ∨ S k = 1)) (r1 r2 i : Int32) (hi : -1 ≤ i) : ∀ (u k n : Nat), k + u = 16 → n ≤ k → z_Run X 4 mX10_rests (fun v M' => M' = M ∧ v = pu_rt (fun k => pu_re S k 4) i u k n) 60 [(0, zr 46 0), (1, zi r1), (2, zi r2), (3, zi i), (4, zi (nI n)), (5, zi (nI k))] [] M := by
  intro u
  induction u with
  | zero =>
    intro k n hk hn
    have e : k = 16 := by omega
    subst e
    refine z_go_run KX10_rests [(60, [0, 1, 2, 3, 4, 5])] 60 ?_
    refine ⟨fun _ => ?_, fun h => absurd (by decide) h⟩
    exact ⟨fun g => ⟨rfl, by show _ = (if i < 0 then nI n else -1000000); rw [if_neg (by grind)]⟩, fun g => ⟨rfl, by show _ = (if i < 0 then nI n else -1000000); rw [if_pos (by grind)]⟩⟩
  | succ u ih =>
    intro k n hk hn
    obtain ⟨x1, x2⟩ := ixq (show k < 16 by omega)
    have hc : z_Con X 1 mX10_isRest [zr 46 0, zi (nI k / 4), zi (nI k - nI k / 4 * 4)] M (fun v M' => M' = M ∧ v = pu_b2 (pu_re S k 4)) := by
      rw [x2, x1]
      exact hX10_isRest M hS k (by omega)
    refine z_go_run KX10_rests [(60, [0, 1, 2, 3, 4, 5])] 60 ?_
    refine ⟨fun h => absurd h (nI_ge (b := 16) (by omega) (by omega)), fun h => ?_⟩
    refine ⟨by decide, by decide, ?_⟩
    refine z_uR hc (by decide) ?_
    cases hq : pu_re S k 4 with
    | false =>
      have e2 : pu_rt (fun k => pu_re S k 4) i (u + 1) k n = pu_rt (fun k => pu_re S k 4) i u (k + 1) n := if_neg (by show ¬ pu_re S k 4 = true; rw [hq]; decide)
      rw [e2]
      refine ⟨fun _ => ?_, fun w => absurd rfl w⟩
      have h3 := ih (k + 1) n (by omega) (by omega)
      rw [← nI_1 k] at h3
      exact h3
    | true =>
      have e2 : pu_rt (fun k => pu_re S k 4) i (u + 1) k n = if nI n = i then nI k else pu_rt (fun k => pu_re S k 4) i u (k + 1) (n + 1) := if_pos hq
      rw [e2]
      refine ⟨fun w => absurd w (by decide), fun _ => ?_⟩
      refine ⟨fun g => ?_, fun g => ?_⟩
      · rw [if_neg g]
        have h3 := ih (k + 1) (n + 1) (by omega) (by omega)
        rw [← nI_1 k, ← nI_1 n] at h3
        exact h3
      · exact ⟨rfl, by rw [if_pos g]⟩
theorem lX10_rests1 {X : z_Cx} (M : z_M) {V : Nat → Nat → Int32} {nm nr nb : Nat} (hN : z_CR V nm nr nb (z_nw M)) (h0 : z_H0 M) {a b : Nat} (ha : a < nr) (hb : b < nr) (hab : a ≠ b) (i : Int32) (hi : -1 ≤ i) : ∀ (u t : Nat) (Mc : z_M), t + u = 16 → z_Fm [24, 25] [56, 57, 58, 59, 60, 62] M Mc → (∀ k, k < t → Mc.1 62 0 k = pu_g2 (pu_ss V a b nm k)) → z_Run X 4 mX10_rests (fun v M' => z_Fm [24, 25] [56, 57, 58, 59, 60, 62] M M' ∧ v = pu_rt (fun k => pu_re (pu_ss V a b nm) k 4) i 16 0 0) 20 [(0, zr 46 0), (1, zi (nI a)), (2, zi (nI b)), (3, zi i), (4, zi (nI t))] [] Mc := by
  intro u
  induction u with
  | zero =>
    intro t Mc ht hF h1
    have e : t = 16 := by omega
    subst e
    refine z_go_run KX10_rests [(20, [0, 1, 2, 3, 4]), (60, [0, 1, 2, 3, 4, 5])] 60 ?_
    refine ⟨fun _ => ?_, fun h => absurd (by decide) h⟩
    refine z_Run.post (lX10_rests2 (X := X) (S := pu_ss V a b nm) Mc (fun k hk => ⟨h1 k hk, sc_3⟩) (nI a) (nI b) i hi 16 0 0 (by omega) (Nat.le_refl 0)) ?_
    rintro v M' ⟨rfl, e2⟩
    exact ⟨hF, e2⟩
  | succ u ih =>
    intro t Mc ht hF h1
    obtain ⟨x1, x2⟩ := ixq (show t < 16 by omega)
    have hNc : z_CR V nm nr nb (z_nw Mc) := by rw [nw_fm hF (by decide)]; exact hN
    have hc : z_Con X 3 mX10_gameOf [zr 46 0, zi (nI a), zi (nI b), zi (nI t / 4), zi (nI t - nI t / 4 * 4)] Mc (fun v M' => z_Fm [24, 25] [56, 57, 58, 59, 60] Mc M' ∧ v = pu_g2 (pu_ss V a b nm t)) := by
      rw [x2, x1]
      exact hX10_gameOf Mc hNc (h0.fm hF (by decide)) ha hb hab (nI (t / 4)) (nI (t % 4)) ⟨nI_pos' (by omega), nI_le (b := 3) (by omega) (by omega)⟩ ⟨nI_pos' (by omega), nI_le (b := 3) (by omega) (by omega)⟩
    refine z_go_run KX10_rests [(20, [0, 1, 2, 3, 4]), (60, [0, 1, 2, 3, 4, 5])] 60 ?_
    refine ⟨fun h => absurd h (nI_ge (b := 16) (by omega) (by omega)), fun h => ?_⟩
    refine ⟨by decide, by decide, ?_⟩
    refine z_use hc (by decide) (fun v M1 k => ?_)
    obtain ⟨k1, k2⟩ := k
    subst k2
    refine ⟨vp_in_nI (by omega) (by omega), ?_⟩
    rw [nI_clamp (by omega)]
    have h3 := ih (t + 1) (z_s M1 62 0 t (pu_g2 (pu_ss V a b nm t))) (by omega) ((hF.trans (k1.mono (by decide) (by decide))).s (by decide) (by decide)) (fun k hk => by
      rw [z_gs]
      by_cases e : k = t
      · rw [if_pos ⟨rfl, rfl, e⟩, e]
      · rw [if_neg (fun w => e w.2.2), k1.2.1 62 (by decide) (by decide)]
        exact h1 k (by omega))
    rw [← nI_1] at h3
    exact h3
theorem hX10_rests {X : z_Cx} (M : z_M) {V : Nat → Nat → Int32} {nm nr nb : Nat} (hN : z_CR V nm nr nb (z_nw M)) (h0 : z_H0 M) (ra rb i : Int32) : z_Con X 4 mX10_rests [zr 46 0, zi ra, zi rb, zi i] M (fun v M' => z_Fm [24, 25] [56, 57, 58, 59, 60, 62] M M' ∧ ((¬ (pu_ru nr ra ∧ pu_ru nr rb ∧ ¬ ra = rb ∧ -1 ≤ i) ∧ v = -1000001) ∨ (∃ a b, a < nr ∧ ra = nI a ∧ b < nr ∧ rb = nI b ∧ ¬ a = b ∧ -1 ≤ i ∧ v = pu_rt (fun k => pu_re (pu_ss V a b nm) k 4) i 16 0 0))) := by
  have h4 := hN.1.2.1
  refine z_mg KX10_rests [(20, [0, 1, 2, 3, 4])] 60 (by decide +kernel) rfl ?_
  refine z_uR (hX10_isGame M hN ra rb) (by decide) ?_
  refine ⟨fun h => ⟨z_Fm.refl, Or.inl ⟨by unfold pu_ru; grind, rfl⟩⟩, fun h => ?_⟩
  have hg : (0 ≤ ra ∧ ra ≤ nI nr - 1) ∧ (0 ≤ rb ∧ rb ≤ nI nr - 1) ∧ ¬ ra = rb := by grind
  refine ⟨fun h2 => ?_, fun h2 => ⟨z_Fm.refl, Or.inl ⟨fun w => h2 w.2.2.2, rfl⟩⟩⟩
  obtain ⟨a, ha, ea⟩ := ru_of (by omega) (show pu_ru nr ra from hg.1)
  obtain ⟨b, hb, eb⟩ := ru_of (by omega) (show pu_ru nr rb from hg.2.1)
  subst ea eb
  have hab : a ≠ b := fun w => hg.2.2 (by rw [w])
  refine z_Run.post (lX10_rests1 (X := X) M hN h0 ha hb hab i h2 16 0 M (by omega) z_Fm.refl (fun k hk => absurd hk (Nat.not_lt_zero k))) ?_
  rintro v M' ⟨e1, e2⟩
  exact ⟨e1, Or.inr ⟨a, b, ha, rfl, hb, rfl, hab, h2, e2⟩⟩
theorem g2_w {s : Int32} (h : s = -1 ∨ s = 0 ∨ s = 1) : (pu_g2 s = 2 → (-1000000 : Int32) = if 0 < s then 0 else if s < 0 then 1 else -1000000) ∧ (¬ pu_g2 s = 2 → pu_g2 s = if 0 < s then 0 else if s < 0 then 1 else -1000000) := by
  rcases h with e | e | e <;> subst e <;> decide
theorem hX10_wins {X : z_Cx} (M : z_M) {V : Nat → Nat → Int32} {nm nr nb : Nat} (hN : z_CR V nm nr nb (z_nw M)) (h0 : z_H0 M) (ra rb pa pb : Int32) : z_Con X 4 mX10_wins [zr 46 0, zi ra, zi rb, zi pa, zi pb] M (fun v M' => z_Fm [24, 25] [56, 57, 58, 59, 60] M M' ∧ ((¬ (pu_ru nr ra ∧ pu_ru nr rb ∧ ¬ ra = rb ∧ (0 ≤ pa ∧ pa ≤ 3) ∧ 0 ≤ pb ∧ pb ≤ 3) ∧ v = -1000001) ∨ (∃ a b, a < nr ∧ ra = nI a ∧ b < nr ∧ rb = nI b ∧ ¬ a = b ∧ (0 ≤ pa ∧ pa ≤ 3) ∧ (0 ≤ pb ∧ pb ≤ 3) ∧ v = if 0 < pu_sc V a b nm pa pb then 0 else if pu_sc V a b nm pa pb < 0 then 1 else -1000000))) := by
  have h4 := hN.1.2.1
  refine z_mg KX10_wins [] 60 (by decide +kernel) rfl ?_
  refine z_uR (hX10_isGame M hN ra rb) (by decide) ?_
  refine ⟨fun h => ⟨z_Fm.refl, Or.inl ⟨by unfold pu_ru; grind, rfl⟩⟩, fun h => ?_⟩
  have hg : (0 ≤ ra ∧ ra ≤ nI nr - 1) ∧ (0 ≤ rb ∧ rb ≤ nI nr - 1) ∧ ¬ ra = rb := by grind
  refine z_uR (hX10_inI M pa 0 3 (by decide) (by decide)) (by decide) ?_
  refine ⟨fun h2 => ⟨z_Fm.refl, Or.inl ⟨fun w => absurd w.2.2.2.1 (by grind), rfl⟩⟩, fun h2 => ?_⟩
  have hpa : 0 ≤ pa ∧ pa ≤ 3 := by grind
  refine z_uR (hX10_inI M pb 0 3 (by decide) (by decide)) (by decide) ?_
  refine ⟨fun h3 => ?_, fun h3 => ⟨z_Fm.refl, Or.inl ⟨fun w => absurd w.2.2.2.2 (by grind), rfl⟩⟩⟩
  have hpb : 0 ≤ pb ∧ pb ≤ 3 := by grind
  obtain ⟨a, ha, ea⟩ := ru_of (by omega) (show pu_ru nr ra from hg.1)
  obtain ⟨b, hb, eb⟩ := ru_of (by omega) (show pu_ru nr rb from hg.2.1)
  subst ea eb
  have hab : a ≠ b := fun w => hg.2.2 (by rw [w])
  refine z_use (hX10_gameOf M hN h0 ha hb hab pa pb hpa hpb) (by decide) (fun v M1 k => ?_)
  obtain ⟨k1, k2⟩ := k
  subst k2
  have gw := g2_w (sc_3 (V := V) (a := a) (b := b) (nm := nm) (pa := pa) (pb := pb))
  refine ⟨fun g => ?_, fun g => ?_⟩
  · exact ⟨k1, Or.inr ⟨a, b, ha, rfl, hb, rfl, hab, hpa, hpb, gw.2 g⟩⟩
  · exact ⟨k1, Or.inr ⟨a, b, ha, rfl, hb, rfl, hab, hpa, hpb, gw.1 g⟩⟩
