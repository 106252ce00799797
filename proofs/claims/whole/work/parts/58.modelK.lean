/-! ===== the model: lines, hours ===== -/
theorem lX10_paceOf {X : z_Cx} (M : z_M) (x : Int32) : ∀ (u b : Nat), b + u = 31 → z_Run X 1 mX10_paceOf (fun r M' => M' = M ∧ r = pu_ptt x u b) 3 [(0, zi x), (1, zi (nI (10 + b)))] [] M := by
  intro u
  induction u with
  | zero =>
    intro b hb
    have e : b = 31 := by omega
    subst e
    refine z_go_run KX10_paceOf [(3, [0, 1])] 40 ?_
    exact ⟨fun h => ⟨rfl, rfl⟩, fun h => absurd (by decide) h⟩
  | succ u ih =>
    intro b hb
    have hb31 : b < 31 := by omega
    refine z_go_run KX10_paceOf [(3, [0, 1])] 40 ?_
    refine ⟨fun h => absurd h (Int32.not_lt.mpr (z_10 hb31).1.2), fun h => ?_⟩
    refine z_uR (hX10_secondsBy M (nI (10 + b)) (z_10 hb31).1.1) (by decide) ?_
    refine ⟨fun h2 => ?_, fun h2 => ?_⟩
    · have e2 : pu_ptt x (u + 1) b = pu_ptt x u (b + 1) := if_neg h2
      rw [e2]
      show z_Run X 1 _ _ 3 _ [] M
      exact z_Run.eq (ih (b + 1) (by omega)) (by rw [show 10 + (b + 1) = 10 + b + 1 by omega, ← nI_1 (10 + b)]) rfl
    · have e2 : pu_ptt x (u + 1) b = nI (10 + b) := if_pos h2
      exact ⟨rfl, e2.symm⟩
theorem hX10_paceOf {X : z_Cx} (M : z_M) (x : Int32) : z_Con X 1 mX10_paceOf [zi x] M (fun r M' => M' = M ∧ r = pu_ptt x 31 0) := by
  refine z_mg KX10_paceOf [(3, [0, 1])] 40 (by decide +kernel) rfl ?_
  exact lX10_paceOf M x 31 0 (by omega)
theorem las_bd {C : Nat → Nat → Int32} {st : Int32} {P : Nat → Int32} {n : Nat} (hs : st = nI n) (hn : n ≤ 99) : ∀ t, ¬ pu_las C st P t < 0 → 0 ≤ pu_las C st P t ∧ pu_las C st P t ≤ st := by
  intro t
  cases t with
  | zero =>
    intro _
    show 0 ≤ st ∧ st ≤ st
    rw [hs]
    exact ⟨nI_pos' (by omega), Int32.le_refl _⟩
  | succ t =>
    intro h
    by_cases h1 : pu_las C st P t < 0
    · have e : pu_las C st P (t + 1) = pu_las C st P t := if_pos h1
      rw [e] at h
      exact absurd h1 h
    · by_cases h2 : P t = 0
      · have e : pu_las C st P (t + 1) = -1 := by show (if _ then _ else _) = _; rw [if_neg h1, if_pos h2]
        rw [e] at h
        exact absurd (by decide) h
      · have e : pu_las C st P (t + 1) = pu_lb C st t (P t - 10).toNatClampNeg (pu_las C st P t) := by show (if _ then _ else _) = _; rw [if_neg h1, if_neg h2]
        rw [e] at h ⊢
        obtain ⟨l, hl, el⟩ := lb_cases hs hn h
        rw [el, hs]
        exact ⟨nI_pos' (by omega), nI_le hl (by omega)⟩
/-- the changes at a line, without rabbits -/
abbrev z_lC (V : Nat → Nat → Int32) (nb r : Nat) (line : Int32) : Nat → Nat → Int32 := fun a b => pu_chg (pu_nd V (fun _ => 0) 0 nb a b) line (V 5 r)
theorem lC0 {V : Nat → Nat → Int32} {nb r a b : Nat} {line : Int32} (h5 : nb ≤ 5) : z_lC V nb r line a b = pu_chg (pu_need V 0 a (nI (10 + b)) 0) line (V 5 r) := by
  show pu_chg (pu_need V 0 a (10 + nI b) (if pu_sh V 0 (nI a) (10 + nI b) nb = true then 1 else 0)) line (V 5 r) = _
  have e : 10 + nI b = nI (10 + b) := nI_add 10 b
  rw [sh0 nb h5, e]
  rfl
theorem lX10_isBorne {X : z_Cx} (M : z_M) {V : Nat → Nat → Int32} {nm nr nb : Nat} (hN : z_CR V nm nr nb (z_nw M)) (h0 : z_H0 M) {L S : Nat → Int32} {I : Nat → Nat → Int32} (hS : z_Sm L S I M) (r s x : Nat) (hr : r < nr) (hs : s < 8) (hx : x + nm ≤ 40) (line : Int32) (hl : 0 ≤ line ∧ line ≤ 100) (hP : ∀ t, t < nm → ¬ pu_ptt (I s (x + t)) 31 0 = 0) (n : Nat) (en : V 4 r = nI n) (hn : n ≤ 99) : ∀ (u t : Nat), t + u = nm → z_Run X 2 mX10_isBorne (fun v M' => M' = M ∧ v = if 0 ≤ pu_las (z_lC V nb r line) (V 4 r) (fun t => pu_ptt (I s (x + t)) 31 0) nm then 1 else 0) 11 [(0, zr 46 0), (1, zi (nI r)), (2, zi (nI s)), (3, zi (nI x)), (4, zi line), (5, zi (pu_las (z_lC V nb r line) (V 4 r) (fun t => pu_ptt (I s (x + t)) 31 0) t)), (6, zi (nI t))] [] M := by
  have h12 := hN.1.1
  intro u
  induction u with
  | zero =>
    intro t ht
    have e : t = nm := by omega
    subst e
    refine z_go_run KX10_isBorne [(11, [0, 1, 2, 3, 4, 5, 6])] 60 ?_
    refine z_uR (hX10_miles M hN) (by decide) ?_
    refine ⟨fun h => ?_, fun h => absurd (Int32.le_refl _) h⟩
    refine ⟨fun h1 => ⟨Or.inl rfl, rfl, by rw [if_neg (Int32.not_le.mpr h1)]⟩, fun h1 => ⟨Or.inr rfl, rfl, by rw [if_pos (Int32.not_lt.mp h1)]⟩⟩
  | succ u ih =>
    intro t ht
    refine z_go_run KX10_isBorne [(11, [0, 1, 2, 3, 4, 5, 6])] 60 ?_
    refine z_uR (hX10_miles M hN) (by decide) ?_
    refine ⟨fun h => absurd h (nI_ge (by omega) (by omega)), fun h => ?_⟩
    refine ⟨fun h1 => ?_, fun h1 => ?_⟩
    · have h3 := las_stop h1 (u + 1)
      rw [ht] at h3
      refine ⟨fun _ => ⟨Or.inl rfl, rfl, by rw [h3, if_neg (Int32.not_le.mpr h1)]⟩, fun w => absurd h1 w⟩
    · obtain ⟨p, hp, ep⟩ := (ptt_pace (x := I s (x + t)) 31 0 (by omega)).resolve_left (hP t (by omega))
      have hbd := las_bd en hn t h1
      have hc : z_Con X 0 mX10_item [zr 46 0, zi (nI s), zi (nI x + nI t)] M (fun r M' => M' = M ∧ r = I s (x + t)) := by
        rw [nI_add]
        exact hX10_item M hS s (x + t) hs (by omega)
      refine z_uR hc (by decide) ?_
      refine z_uRe (hX10_paceOf M (I s (x + t))) ep (by decide) ?_
      refine z_uR (hX10_needOf M hN t (by omega) (nI (10 + p)) 0) (by decide) ?_
      have es : pu_las (z_lC V nb r line) (V 4 r) (fun t => pu_ptt (I s (x + t)) 31 0) (t + 1) = pu_lb (z_lC V nb r line) (V 4 r) t p (pu_las (z_lC V nb r line) (V 4 r) (fun t => pu_ptt (I s (x + t)) 31 0) t) := by
        show (if _ then _ else if pu_ptt (I s (x + t)) 31 0 = 0 then _ else pu_lb _ _ _ (pu_ptt (I s (x + t)) 31 0 - 10).toNatClampNeg _) = _
        rw [if_neg h1, if_neg (hP t (by omega)), ep, (z_10 hp).2]
      refine z_uRe (hX10_leftB M hN h0.h r hr t (by omega) (nI (10 + p)) 0 line _ (z_10 hp).1 hbd.1 hbd.2 hl) (g := pu_las (z_lC V nb r line) (V 4 r) (fun t => pu_ptt (I s (x + t)) 31 0) (t + 1)) ?_ (by decide) ?_
      · rw [es]
        unfold pu_lb
        rw [lC0 hN.1.2.2.1, show z_hm M t = 0 from h0 (t / 4) (by omega)]
      · have h3 := ih (t + 1) (by omega)
        rw [← nI_1] at h3
        exact h3
theorem hX10_isBorne {X : z_Cx} (M : z_M) {V : Nat → Nat → Int32} {nm nr nb : Nat} (hN : z_CR V nm nr nb (z_nw M)) (h0 : z_H0 M) {L S : Nat → Int32} {I : Nat → Nat → Int32} (hS : z_Sm L S I M) (r s x : Nat) (hr : r < nr) (hs : s < 8) (hx : x + nm ≤ 40) (line : Int32) (hl : 0 ≤ line ∧ line ≤ 100) (hP : ∀ t, t < nm → ¬ pu_ptt (I s (x + t)) 31 0 = 0) : z_Con X 2 mX10_isBorne [zr 46 0, zi (nI r), zi (nI s), zi (nI x), zi line] M (fun v M' => M' = M ∧ v = if 0 ≤ pu_las (z_lC V nb r line) (V 4 r) (fun t => pu_ptt (I s (x + t)) 31 0) nm then 1 else 0) := by
  obtain ⟨n, _, hn, en⟩ := (hN.2.2.1 r hr).2.2.2.2.2.1
  refine z_mg KX10_isBorne [(11, [0, 1, 2, 3, 4, 5, 6])] 60 (by decide +kernel) rfl ?_
  refine z_uR (hX10_store0 M hN r hr) (by decide) ?_
  exact lX10_isBorne M hN h0 hS r s x hr hs hx line hl hP n en hn nm 0 (by omega)
theorem las_no {C : Nat → Nat → Int32} {st : Int32} {P : Nat → Int32} {t nm : Nat} (ht : t < nm) (h : P t = 0) : pu_las C st P nm < 0 := by
  have h1 : pu_las C st P (t + 1) < 0 := by
    by_cases h1 : pu_las C st P t < 0
    · have e : pu_las C st P (t + 1) = pu_las C st P t := if_pos h1
      rw [e]; exact h1
    · have e : pu_las C st P (t + 1) = -1 := by show (if _ then _ else _) = _; rw [if_neg h1, if_pos h]
      rw [e]; decide
  have h2 := las_stop h1 (nm - (t + 1))
  rw [show t + 1 + (nm - (t + 1)) = nm by omega] at h2
  rw [h2]
  exact h1
theorem ll_no {N : Nat → Nat → Int32} {fill st : Int32} {P : Nat → Int32} {t nm : Nat} (ht : t < nm) (h : P t = 0) : ∀ u l, pu_ll N fill st P nm u l = -1000000 := by
  intro u
  induction u with
  | zero => intro l; rfl
  | succ u ih =>
    intro l
    show (if 0 ≤ pu_las _ st P nm then nI l else _) = _
    rw [if_neg (Int32.not_le.mpr (las_no ht h))]
    exact ih (l + 1)
theorem lX10_line2 {X : z_Cx} (M : z_M) {V : Nat → Nat → Int32} {nm nr nb : Nat} (hN : z_CR V nm nr nb (z_nw M)) (h0 : z_H0 M) {L S : Nat → Int32} {I : Nat → Nat → Int32} (hS : z_Sm L S I M) (r s x : Nat) (hr : r < nr) (hs : s < 8) (hx : x + nm ≤ 40) (hP : ∀ t, t < nm → ¬ pu_ptt (I s (x + t)) 31 0 = 0) : ∀ (u l : Nat), l + u = 61 → z_Run X 3 mX10_line (fun v M' => v = pu_ll (pu_nd V (fun _ => 0) 0 nb) (V 5 r) (V 4 r) (fun t => pu_ptt (I s (x + t)) 31 0) nm u l ∧ M' = z_s M 46 0 7 0) 107 [(0, zr 46 0), (1, zi (nI r)), (2, zi (nI s)), (3, zi (nI x)), (4, zi (nI l))] [] M := by
  intro u
  induction u with
  | zero =>
    intro l hl
    have e : l = 61 := by omega
    subst e
    refine z_go_run KX10_line [(107, [0, 1, 2, 3, 4])] 60 ?_
    refine ⟨fun h => ?_, fun h => absurd (by decide) h⟩
    refine z_uW (hX10_through M (-1000000)) (by decide) ?_
    exact ⟨rfl, rfl⟩
  | succ u ih =>
    intro l hl
    refine z_go_run KX10_line [(107, [0, 1, 2, 3, 4])] 60 ?_
    refine ⟨fun h => absurd h (nI_nlt (a := 60) (by omega) (by omega)), fun h => ?_⟩
    refine z_uR (hX10_isBorne M hN h0 hS r s x hr hs hx (nI l) ⟨nI_pos' (by omega), nI_le (b := 100) (by omega) (by omega)⟩ hP) (by decide) ?_
    refine ⟨fun h1 => ?_, fun h1 => ?_⟩
    · have e2 : pu_ll (pu_nd V (fun _ => 0) 0 nb) (V 5 r) (V 4 r) (fun t => pu_ptt (I s (x + t)) 31 0) nm (u + 1) l = pu_ll (pu_nd V (fun _ => 0) 0 nb) (V 5 r) (V 4 r) (fun t => pu_ptt (I s (x + t)) 31 0) nm u (l + 1) := if_neg (by grind)
      rw [e2]
      have h3 := ih (l + 1) (by omega)
      rw [← nI_1] at h3
      exact h3
    · have e2 : pu_ll (pu_nd V (fun _ => 0) 0 nb) (V 5 r) (V 4 r) (fun t => pu_ptt (I s (x + t)) 31 0) nm (u + 1) l = nI l := if_pos (by grind)
      refine z_uW (hX10_through M (nI l)) (by decide) ?_
      exact ⟨e2.symm, rfl⟩
theorem lX10_line1 {X : z_Cx} (M : z_M) {V : Nat → Nat → Int32} {nm nr nb : Nat} (hN : z_CR V nm nr nb (z_nw M)) (h0 : z_H0 M) {L S : Nat → Int32} {I : Nat → Nat → Int32} (hS : z_Sm L S I M) (r s x : Nat) (hr : r < nr) (hs : s < 8) (hx : x + nm ≤ 40) : ∀ (u t : Nat), t + u = nm → (∀ k, k < t → ¬ pu_ptt (I s (x + k)) 31 0 = 0) → z_Run X 3 mX10_line (fun v M' => v = pu_ll (pu_nd V (fun _ => 0) 0 nb) (V 5 r) (V 4 r) (fun t => pu_ptt (I s (x + t)) 31 0) nm 51 10 ∧ M' = z_s M 46 0 7 0) 65 [(0, zr 46 0), (1, zi (nI r)), (2, zi (nI s)), (3, zi (nI x)), (4, zi (nI t))] [] M := by
  have h12 := hN.1.1
  intro u
  induction u with
  | zero =>
    intro t ht hP
    have e : t = nm := by omega
    subst e
    refine z_go_run KX10_line [(65, [0, 1, 2, 3, 4]), (107, [0, 1, 2, 3, 4])] 60 ?_
    refine z_uR (hX10_miles M hN) (by decide) ?_
    refine ⟨fun h => ?_, fun h => absurd (Int32.le_refl _) h⟩
    exact lX10_line2 M hN h0 hS r s x hr hs hx hP 51 10 (by omega)
  | succ u ih =>
    intro t ht hP
    refine z_go_run KX10_line [(65, [0, 1, 2, 3, 4]), (107, [0, 1, 2, 3, 4])] 60 ?_
    refine z_uR (hX10_miles M hN) (by decide) ?_
    refine ⟨fun h => absurd h (nI_ge (by omega) (by omega)), fun h => ?_⟩
    have hc : z_Con X 0 mX10_item [zr 46 0, zi (nI s), zi (nI x + nI t)] M (fun r M' => M' = M ∧ r = I s (x + t)) := by
      rw [nI_add]
      exact hX10_item M hS s (x + t) hs (by omega)
    refine z_uR hc (by decide) ?_
    refine z_uR (hX10_paceOf M (I s (x + t))) (by decide) ?_
    refine ⟨fun h1 => ?_, fun h1 => ?_⟩
    · have h3 := ih (t + 1) (by omega) (fun k hk => by
        rcases (show k < t ∨ k = t by omega) with w | w
        · exact hP k w
        · rw [w]; exact h1)
      rw [← nI_1] at h3
      exact h3
    · refine z_uW (hX10_through M (-1000000)) (by decide) ?_
      exact ⟨(ll_no (P := fun t => pu_ptt (I s (x + t)) 31 0) (show t < nm by omega) h1 51 10).symm, rfl⟩
theorem hX10_line {X : z_Cx} (M : z_M) {V : Nat → Nat → Int32} {nm nr nb : Nat} (hN : z_CR V nm nr nb (z_nw M)) (h0 : z_H0 M) {L S : Nat → Int32} {I : Nat → Nat → Int32} (hS : z_Sm L S I M) (ru s i : Int32) : z_Con X 3 mX10_line [zr 46 0, zi ru, zi s, zi i] M (fun v M' =>
    (nm = 0 ∧ v = -1000002 ∧ M' = M) ∨ (¬ nm = 0 ∧ ¬ ((0 ≤ s ∧ s ≤ 7) ∧ pu_ru nr ru) ∧ v = -1000001 ∧ M' = M) ∨
    (¬ nm = 0 ∧ (0 ≤ s ∧ s ≤ 7) ∧ pu_ru nr ru ∧ ¬ pu_fd L S s i (nI nm) = 0 ∧ v = -1000010 - pu_fd L S s i (nI nm) ∧ M' = z_s M 46 0 7 (pu_fd L S s i (nI nm))) ∨
    (¬ nm = 0 ∧ (0 ≤ s ∧ s ≤ 7) ∧ pu_fd L S s i (nI nm) = 0 ∧ ∃ r x, r < nr ∧ ru = nI r ∧ i = nI x ∧ x + nm ≤ 40 ∧ v = pu_ll (pu_nd V (fun _ => 0) 0 nb) (V 5 r) (V 4 r) (fun t => pu_ptt (I s.toNatClampNeg (x + t)) 31 0) nm 51 10 ∧ M' = z_s M 46 0 7 0)) := by
  have h12 := hN.1.1
  have h4 := hN.1.2.1
  refine z_mg KX10_line [(65, [0, 1, 2, 3, 4])] 80 (by decide +kernel) rfl ?_
  refine z_uR (hX10_miles M hN) (by decide) ?_
  refine ⟨fun h => ?_, fun h => Or.inl ⟨by
    rcases Nat.eq_zero_or_pos nm with w | w
    · exact w
    · exact absurd h (nI_ne0 w (by omega)), rfl, rfl⟩⟩
  have hn0 : ¬ nm = 0 := fun w => h (by rw [w]; rfl)
  refine z_uR (hX10_isSheet M s) (by decide) ?_
  refine ⟨fun h1 => Or.inr (Or.inl ⟨hn0, by grind, rfl, rfl⟩), fun h1 => ?_⟩
  have hv : 0 ≤ s ∧ s ≤ 7 := by grind
  refine z_uR (hX10_isRunner M hN ru) (by decide) ?_
  refine ⟨fun h2 => ?_, fun h2 => Or.inr (Or.inl ⟨hn0, by unfold pu_ru; grind, rfl, rfl⟩)⟩
  have hru : pu_ru nr ru := by unfold pu_ru; grind
  obtain ⟨r, hr, er⟩ := ru_of (by omega) hru
  obtain ⟨s', hs, es, es2⟩ := s_of hv
  subst er es
  have ht := Sm_there hS hs
  unfold pu_fd
  rw [es2]
  refine ⟨vp_in_nI (by omega) (by omega), ?_⟩
  rw [es2]
  refine ⟨fun h3 => ?_, fun h3 => ?_⟩
  · have hl : ¬ L s' = -1 := fun w => h3 (ht.mpr w)
    obtain ⟨b1, b2, b3, b4⟩ := (hS s' hs).2.1 hl
    refine z_uR (hX10_miles M hN) (by decide) ?_
    refine z_uR (hX10_holds M hS s' hs hl i (nI nm)) (by decide) ?_
    refine ⟨fun h5 => ?_, fun h5 => ?_⟩
    · have g1 : 0 ≤ i ∧ 0 ≤ nI nm ∧ i ≤ S s' - nI nm := by grind
      obtain ⟨x, c, ex, ec, hxc⟩ := in_of g1 b4
      have ecc : c = nm := ((nI_eq (by omega) (by omega)).mp ec).symm
      subst ecc
      subst ex
      refine z_Run.post (lX10_line1 (X := X) M hN h0 hS r s' x hr hs hxc c 0 (by omega) (fun k hk => absurd hk (Nat.not_lt_zero k))) ?_
      rintro v M' ⟨e1, e2⟩
      refine Or.inr (Or.inr (Or.inr ⟨hn0, hv, ?_, r, x, hr, rfl, rfl, hxc, e1, e2⟩))
      rw [if_neg hl, if_pos g1]
    · refine z_uW (hX10_found M 2) (by decide) ?_
      have e : (if L s' = -1 then 1 else if 0 ≤ i ∧ 0 ≤ nI nm ∧ i ≤ S s' - nI nm then 0 else 2) = (2 : Int32) := by rw [if_neg hl, if_neg (by grind)]
      rw [e]
      exact Or.inr (Or.inr (Or.inl ⟨hn0, hv, hru, by decide, rfl, rfl⟩))
  · refine z_uW (hX10_found M 1) (by decide) ?_
    rw [if_pos (ht.mp h3)]
    exact Or.inr (Or.inr (Or.inl ⟨hn0, hv, hru, by decide, rfl, rfl⟩))
