/-! ===== the class's race: all of it ===== -/
theorem ix_nx (x t : Nat) : nI x + nI t = nI (x + t) := nI_add x t
theorem lX3_runAll0 {X : z_Cx} (M : z_M) {V : Nat → Nat → Int32} (hV : z_cv M 0 = V) {n s x : Nat} {ls5 : z_V} {R : Int32 → z_M → Prop} (hn : n ≤ 4) (hx : x + n ≤ 40) (hr : M.1 27 0 1 = nI n) (hk : ∀ Mc, z_Fr [29] M Mc → (∀ j, j < n → z_Bd V j Mc j (V 4 j) 0 (M.1 3 s (x + j))) → z_Run X 4 mX3_runAll R 57 [(0, zr 27 0), (1, zr 6 0), (5, zr 21 0), (6, zi 0)] [] Mc) : ∀ (u t : Nat) (Mc : z_M), t + u = n → z_Fr [29] M Mc → (∀ j, j < t → z_Bd V j Mc j (V 4 j) 0 (M.1 3 s (x + j))) → z_Run X 4 mX3_runAll R 18 [(0, zr 27 0), (1, zr 6 0), (2, zr 2 s), (3, zi (nI x)), (5, zr 21 0), (6, zi (nI t))] [] Mc := by
  intro u
  induction u with
  | zero =>
    intro t Mc ht hF hB
    have e : t = n := by omega
    subst e
    refine z_go_run KX3_runAll [(18, [0, 1, 2, 3, 5, 6]), (57, [0, 1, 5, 6])] 60 ?_
    refine ⟨fun _ => hk Mc hF hB, fun h => ?_⟩
    rw [hF.2 27 (by decide), hr] at h
    exact absurd (Int32.le_refl _) h
  | succ u ih =>
    intro t Mc ht hF hB
    refine z_go_run KX3_runAll [(18, [0, 1, 2, 3, 5, 6]), (57, [0, 1, 5, 6])] 60 ?_
    refine ⟨fun h => ?_, fun h => ?_⟩
    · rw [hF.2 27 (by decide), hr] at h
      exact absurd h (nI_ge (by omega) (by omega))
    · refine ⟨vp_in_nI (by omega) (by omega), ?_⟩
      have hc : z_Con X 1 mX7_at [zr 2 s, zi (nI x + nI t)] Mc (fun r M' => M' = Mc ∧ r = M.1 3 s (x + t)) := by
        rw [nI_add, ← hF.2 3 (by decide)]
        exact hX7_atI Mc s (x + t) (by omega)
      refine z_uR hc (by decide) ?_
      rw [show (nI t).toNatClampNeg + 4 * 0 = t by rw [nI_clamp (by omega)]; rfl]
      refine z_use (hX1_start Mc t t (by omega) (M.1 3 s (x + t))) (by decide) (fun _ M1 k => ?_)
      obtain ⟨k1, k2, k3⟩ := k
      have hVc : z_cv Mc 0 = V := by rw [z_cvF hF no29]; exact hV
      have e11 : Mc.1 11 0 t = V 4 t := by rw [← hVc]; rfl
      rw [hVc, e11] at k1
      have h3 := ih (t + 1) M1 (by omega) (hF.trans k3.fr) (fun j hj => by
        rcases (show j < t ∨ j = t by omega) with w | w
        · exact k3.bd (by omega) (hB j w)
        · rw [w]; exact k1)
      rw [← nI_1] at h3
      exact h3
theorem lX3_runAllR {X : z_Cx} (M : z_M) {V : Nat → Nat → Int32} {n m : Nat} {σ : z_S4} {R : Int32 → z_M → Prop} (hn : n ≤ 4) (hm : m < 12) (hr : M.1 27 0 1 = nI n) (hA : z_Fa V id n 0 m M σ.1 σ.2.1 (pu_P2 V n m σ)) (hk : ∀ Mc, z_Fr [23] M Mc → (∀ w, w < 7 → ∀ r, r < n → Mc.1 23 w (12 * r + m) = pu_rcd V n m σ r w) → (∀ w, w < 7 → ∀ r m', r < n → m' < 12 → m' ≠ m → Mc.1 23 w (12 * r + m') = M.1 23 w (12 * r + m')) → (∀ w, 7 ≤ w → ∀ x, Mc.1 23 w x = M.1 23 w x) → z_Run X 4 mX3_runAll R 57 [(0, zr 27 0), (1, zr 6 0), (5, zr 21 0), (6, zi (nI (m + 1)))] [] Mc) : ∀ (u t : Nat) (Mc : z_M), t + u = n → z_Fr [23] M Mc → (∀ w, w < 7 → ∀ r, r < t → Mc.1 23 w (12 * r + m) = pu_rcd V n m σ r w) → (∀ w, w < 7 → ∀ r m', r < n → m' < 12 → m' ≠ m → Mc.1 23 w (12 * r + m') = M.1 23 w (12 * r + m')) → (∀ w, 7 ≤ w → ∀ x, Mc.1 23 w x = M.1 23 w x) → z_Run X 4 mX3_runAll R 83 [(0, zr 27 0), (1, zr 6 0), (5, zr 21 0), (6, zi (nI m)), (7, zi (nI t))] [] Mc := by
  intro u
  induction u with
  | zero =>
    intro t Mc ht hF h1 h2 h3
    have e : t = n := by omega
    subst e
    refine z_go_run KX3_runAll [(83, [0, 1, 5, 6, 7]), (57, [0, 1, 5, 6])] 60 ?_
    refine ⟨fun _ => ?_, fun h => ?_⟩
    · have h5 := hk Mc hF h1 h2 h3
      rw [← nI_1] at h5
      exact h5
    · rw [hF.2 27 (by decide), hr] at h
      exact absurd (Int32.le_refl _) h
  | succ u ih =>
    intro t Mc ht hF h1 h2 h3
    refine z_go_run KX3_runAll [(83, [0, 1, 5, 6, 7]), (57, [0, 1, 5, 6])] 60 ?_
    refine ⟨fun h => ?_, fun h => ?_⟩
    · rw [hF.2 27 (by decide), hr] at h
      exact absurd h (nI_ge (by omega) (by omega))
    · refine ⟨vp_in_nI (by omega) (by omega), ?_⟩
      rw [show (nI t).toNatClampNeg + 4 * 0 = t by rw [nI_clamp (by omega)]; rfl]
      refine z_use (hX6_record Mc t t m (by omega) hm) (by decide) (fun _ M1 k => ?_)
      obtain ⟨k1, k2, k3⟩ := k
      have ev : ∀ w, z_rv Mc t w = pu_rcd V n m σ t w := by
        intro w
        have q : z_rv Mc t w = z_rv M t w := by
          unfold z_rv
          rw [hF.2 29 (by decide)]
        rw [q]
        exact rv_rcd (hA t (by omega)).1 (hA t (by omega)).2
      have h5 := ih (t + 1) M1 (by omega) (hF.trans k1) (fun w hw r hr' => by
        rw [k2 w hw]
        by_cases e : r = t
        · rw [if_pos (by rw [e]), ev, e]
        · rw [if_neg (by omega)]
          exact h1 w hw r (by omega)) (fun w hw r m' hr' hm' hne => by
        rw [k2 w hw, if_neg (by omega)]
        exact h2 w hw r m' hr' hm' hne) (fun w hw y => by rw [k3 w hw y, h3 w hw y])
      rw [← nI_1] at h5
      exact h5
/-- a race: rows, places, as they are behind it -/
def z_Rc (V : Nat → Nat → Int32) (nm nr seed : Nat) (P0 : Nat → Int32) (M M' : z_M) : Prop := z_Fq [21, 23, 24, 27, 29] M M' ∧ M'.1 21 0 2 = nI nr ∧ M'.1 21 0 3 = 1 ∧ (∀ r, r < nr → M'.1 24 0 r = pu_rank (pu_rs V nr seed P0 nm).2.1 nr r) ∧ (∀ w, w < 7 → ∀ r, r < nr → ∀ m, m < nm → M'.1 23 w (12 * r + m) = pu_rcd V nr m (pu_rs V nr seed P0 m) r w) ∧ (∀ w, 7 ≤ w → M'.1 23 w = M.1 23 w) ∧ (∀ i, i ≠ 0 → M'.1 24 i = M.1 24 i) ∧ ∀ i, i ≠ 0 → M'.1 21 i = M.1 21 i
theorem lX3_runAllM {X : z_Cx} (M0 M : z_M) {V : Nat → Nat → Int32} (hV : z_cv M 0 = V) {nm n seed : Nat} {P0 : Nat → Int32} (h0 : z_Fq [27, 29] M0 M) (hn : n ≤ 4) (hnm : nm ≤ 12) (hr : M.1 27 0 1 = nI n) (hm : M.1 6 0 1 = nI nm) (hs : ∀ r, r < n → 1 ≤ V 4 r) (hc : ∀ r, r < n → ∃ c, c ≤ 6 ∧ V 6 r = nI c) (hP : ∀ r, r < n → 10 ≤ P0 r ∧ P0 r ≤ 40) (hx : seed < 2147483647) : ∀ (u m : Nat) (Mc : z_M), m + u = nm → z_Fq [23, 29] M Mc → Mc.2.1 27 0 = lN (pu_rs V n seed P0 m).2.2.2 → z_Fd V id n 0 Mc (pu_rs V n seed P0 m).1 (pu_rs V n seed P0 m).2.1 (pu_rs V n seed P0 m).2.2.1 → (∀ w, w < 7 → ∀ r, r < n → ∀ m', m' < m → Mc.1 23 w (12 * r + m') = pu_rcd V n m' (pu_rs V n seed P0 m') r w) → (∀ w, 7 ≤ w → ∀ x, Mc.1 23 w x = M.1 23 w x) → z_Run X 4 mX3_runAll (fun _ M' => z_Rc V nm n seed P0 M0 M') 57 [(0, zr 27 0), (1, zr 6 0), (5, zr 21 0), (6, zi (nI m))] [] Mc := by
  intro u
  induction u with
  | zero =>
    intro m Mc ht hF hl hB h1 h2
    have e : m = nm := by omega
    subst e
    obtain ⟨ok1, ok2⟩ := rs_ok (V := V) (nr := n) hs hP hx m hnm
    have hb : nI (1200 * m) ≤ 14400 := nI_le (b := 14400) (by omega) (by omega)
    refine z_go_run KX3_runAll [(57, [0, 1, 5, 6])] 60 ?_
    refine ⟨fun _ => ?_, fun h => ?_⟩
    · refine z_use (hX3_rank (T := (pu_rs V n seed P0 m).2.1) Mc hn (fun j hj => ⟨(hB j hj).2.2.2.2.1, (ok1 j hj).2.1.1, Int32.le_trans (ok1 j hj).2.1.2 hb⟩) (by rw [hF.2 27 (by decide)]; exact hr)) (by decide) (fun _ M1 k => ?_)
      obtain ⟨k1, k2, k3, k4, k5, k6⟩ := k
      have e23 : M1.1 23 = Mc.1 23 := k1.2 23 (by decide)
      refine ⟨((h0.mono (by decide)).trans (hF.mono (by decide))).trans (k1.q.mono (by decide)), k3, k4, k2, fun w hw r hr' m' hm' => ?_, fun w hw => ?_, fun i hi => ?_, fun i hi => ?_⟩
      · rw [e23]
        exact h1 w hw r hr' m' hm'
      · funext y
        rw [e23, h2 w hw y, h0.2 23 (by decide)]
      · rw [k5 i hi, hF.2 24 (by decide), h0.2 24 (by decide)]
      · rw [k6 i hi, hF.2 21 (by decide), h0.2 21 (by decide)]
    · rw [hF.2 6 (by decide), hm] at h
      exact absurd (Int32.le_refl _) h
  | succ u ih =>
    intro m Mc ht hF hl hB h1 h2
    obtain ⟨ok1, ok2⟩ := rs_ok (V := V) (nr := n) hs hP hx m (by omega)
    have no23 : ∀ k, 7 ≤ k → k ≤ 20 → k ∉ [23, 29] := fun k _ h w => by
      rcases List.mem_cons.mp w with w | w
      · omega
      · have : k = 29 := List.mem_singleton.mp w
        omega
    have hVc : z_cv Mc 0 = V := by rw [z_cvQ hF no23]; exact hV
    have hrc : Mc.1 27 0 1 = nI n := by rw [hF.2 27 (by decide)]; exact hr
    refine z_go_run KX3_runAll [(57, [0, 1, 5, 6]), (83, [0, 1, 5, 6, 7])] 60 ?_
    refine ⟨fun h => ?_, fun h => ?_⟩
    · rw [hF.2 6 (by decide), hm] at h
      exact absurd h (nI_ge (by omega) (by omega))
    · refine z_use (hX3_feel Mc hVc hn (show m < 12 by omega) hrc ok2 hc hl hB) (by decide) (fun _ M1 k => ?_)
      obtain ⟨k1, k2, k3⟩ := k
      have hV1 : z_cv M1 0 = V := by rw [z_cvQ k1 no29]; exact hVc
      have hr1 : M1.1 27 0 1 = nI n := by rw [k1.2 27 (by decide)]; exact hrc
      refine z_use (hX3_runMile M1 hV1 hn (show m < 12 by omega) hr1 (fun j hj => pf_bd.1) hs k3) (by decide) (fun _ M2 g => ?_)
      obtain ⟨g1, g2⟩ := g
      have hr2 : M2.1 27 0 1 = nI n := by rw [g1.2 27 (by decide)]; exact hr1
      have e23 : M2.1 23 = Mc.1 23 := by rw [g1.2 23 (by decide), k1.2 23 (by decide)]
      refine lX3_runAllR M2 (σ := pu_rs V n seed P0 m) hn (show m < 12 by omega) hr2 g2 (fun Md hFd q1 q2 q3 => ?_) n 0 M2 (by omega) z_Fr.refl (fun w hw r hr' => absurd hr' (Nat.not_lt_zero r)) (fun w hw r m' _ _ _ => rfl) (fun w hw x => rfl)
      refine ih (m + 1) Md (by omega) (hF.trans (((k1.mono (by decide)).trans (g1.q.mono (by decide))).trans (hFd.q.mono (by decide)))) ?_ (fun j hj => ?_) (fun w hw r hr' m' hm' => ?_) (fun w hw x => ?_)
      · show Md.2.1 27 0 = lN (pu_nxt V n m (pu_rs V n seed P0 m)).2.2.2
        rw [nxt_4, hFd.1, g1.1]
        exact k2
      · show z_Bd V (id j) Md (j + 4 * 0) ((pu_nxt V n m (pu_rs V n seed P0 m)).1 j) ((pu_nxt V n m (pu_rs V n seed P0 m)).2.1 j) ((pu_nxt V n m (pu_rs V n seed P0 m)).2.2.1 j)
        rw [nxt_1, nxt_2, nxt_3]
        unfold z_Bd
        rw [hFd.2 29 (by decide)]
        exact (g2 j hj).1
      · rcases (show m' < m ∨ m' = m by omega) with w' | w'
        · rw [q2 w hw r m' hr' (by omega) (by omega), e23]
          exact h1 w hw r hr' m' w'
        · rw [w']
          exact q1 w hw r hr'
      · rw [q3 w hw x, e23]
        exact h2 w hw x
theorem hX3_runAll {X : z_Cx} (M : z_M) {V : Nat → Nat → Int32} (hV : z_cv M 0 = V) {nm n seed s x : Nat} (hn : n ≤ 4) (hnm : nm ≤ 12) (hnr : M.1 6 0 5 = nI n) (hm : M.1 6 0 1 = nI nm) (hs : ∀ r, r < n → 1 ≤ V 4 r) (hc : ∀ r, r < n → ∃ c, c ≤ 6 ∧ V 6 r = nI c) (hx : x + n ≤ 40) (hP : ∀ r, r < n → 10 ≤ M.1 3 s (x + r) ∧ M.1 3 s (x + r) ≤ 40) (hsd : seed < 2147483647) : z_Con X 4 mX3_runAll [zr 27 0, zr 6 0, zr 2 s, zi (nI x), zi (nI seed), zr 21 0] M (fun _ M' => z_Rc V nm n seed (fun r => M.1 3 s (x + r)) M M') := by
  refine z_mg KX3_runAll [(18, [0, 1, 2, 3, 5, 6])] 60 (by decide +kernel) rfl ?_
  have f0 : z_Fq [27, 29] M (z_sl (z_s M 27 0 1 (M.1 6 0 5)) 27 0 (nI seed).toInt64) := (((z_Fr.refl (L := [27, 29]) (M := M)).s (by decide)).q).sl
  have hV0 : z_cv (z_sl (z_s M 27 0 1 (M.1 6 0 5)) 27 0 (nI seed).toInt64) 0 = V := by
    rw [z_cvQ f0 (fun k _ h w => by
      rcases List.mem_cons.mp w with w | w
      · omega
      · have : k = 29 := List.mem_singleton.mp w
        omega)]
    exact hV
  have hr0 : (z_sl (z_s M 27 0 1 (M.1 6 0 5)) 27 0 (nI seed).toInt64).1 27 0 1 = nI n := by
    show (if 27 = 27 ∧ 0 = 0 ∧ 1 = 1 then M.1 6 0 5 else M.1 27 0 1) = nI n
    rw [if_pos ⟨rfl, rfl, rfl⟩, hnr]
  have hm0 : (z_sl (z_s M 27 0 1 (M.1 6 0 5)) 27 0 (nI seed).toInt64).1 6 0 1 = nI nm := by rw [f0.2 6 (by decide)]; exact hm
  have e3 : (z_sl (z_s M 27 0 1 (M.1 6 0 5)) 27 0 (nI seed).toInt64).1 3 = M.1 3 := f0.2 3 (by decide)
  refine lX3_runAll0 (X := X) (ls5 := zr 21 0) (s := s) (x := x) (z_sl (z_s M 27 0 1 (M.1 6 0 5)) 27 0 (nI seed).toInt64) hV0 hn hx hr0 (fun Mc hF hB => ?_) n 0 _ (by omega) z_Fr.refl (fun j hj => absurd hj (Nat.not_lt_zero j))
  rw [e3] at hB
  refine lX3_runAllM (P0 := fun r => M.1 3 s (x + r)) (seed := seed) M _ hV0 f0 hn hnm hr0 hm0 hs hc hP hsd nm 0 Mc (by omega) (hF.q.mono (by decide)) ?_ (fun j hj => hB j hj) (fun w hw r hr' m' hm' => absurd hm' (Nat.not_lt_zero m')) (fun w hw y => by rw [hF.2 23 (by decide)])
  rw [hF.1]
  show (if 27 = 27 ∧ 0 = 0 then (nI seed).toInt64 else M.2.1 27 0) = lN seed
  rw [if_pos ⟨rfl, rfl⟩, nI_l (by omega)]
theorem hX9_race {X : z_Cx} (M : z_M) {V : Nat → Nat → Int32} (hV : z_cv M 0 = V) {nm n : Nat} (hn : n ≤ 4) (hnm : nm ≤ 12) (hnr : M.1 6 0 5 = nI n) (hm : M.1 6 0 1 = nI nm) (hs : ∀ r, r < n → 1 ≤ V 4 r) (hc : ∀ r, r < n → ∃ c, c ≤ 6 ∧ V 6 r = nI c) (h1n : ¬ M.1 6 0 0 = 0 → 1 ≤ n) (hS : z_WS M) (s i sd : Int32) : z_Con X 5 mX9_race [zr 0 0, zi s, zi i, zi sd] M (fun v M' =>
    (¬ ((0 ≤ s ∧ s ≤ 7) ∧ 0 ≤ sd ∧ sd ≤ 999999) ∧ v = -1000001 ∧ M' = M) ∨
    (((0 ≤ s ∧ s ≤ 7) ∧ 0 ≤ sd ∧ sd ≤ 999999) ∧ M.1 6 0 0 = 0 ∧ v = -1000002 ∧ M' = M) ∨
    (((0 ≤ s ∧ s ≤ 7) ∧ 0 ≤ sd ∧ sd ≤ 999999) ∧ ¬ M.1 6 0 0 = 0 ∧ ¬ z_fd M s i (nI n) = 0 ∧ v = -1000010 - z_fd M s i (nI n) ∧ M' = z_s M 0 0 10 (z_fd M s i (nI n))) ∨
    (((0 ≤ s ∧ s ≤ 7) ∧ 0 ≤ sd ∧ sd ≤ 999999) ∧ ¬ M.1 6 0 0 = 0 ∧ z_fd M s i (nI n) = 0 ∧ ∃ x seed, i = nI x ∧ x + n ≤ 40 ∧ sd = nI seed ∧ seed ≤ 999999 ∧ ((pu_iw (M.1 3 s.toNatClampNeg) 10 40 x n = false ∧ v = -1000001 ∧ M' = M) ∨ (pu_iw (M.1 3 s.toNatClampNeg) 10 40 x n = true ∧ v = nI (pu_win (pu_rs V n seed (fun r => M.1 3 s.toNatClampNeg (x + r)) nm).2.1 n) ∧ ∃ M1, z_Rc V nm n seed (fun r => M.1 3 s.toNatClampNeg (x + r)) M M1 ∧ M' = z_s M1 0 0 10 0)))) := by
  refine z_mg KX9_race [] 90 (by decide +kernel) rfl ?_
  refine z_uR (hX9_within s 0 7 M) (by decide) ?_
  refine ⟨fun h => Or.inl ⟨by grind, rfl, rfl⟩, fun h => ?_⟩
  have hv : 0 ≤ s ∧ s ≤ 7 := by grind
  refine z_uR (hX9_within sd 0 999999 M) (by decide) ?_
  refine ⟨fun h2 => ?_, fun h2 => Or.inl ⟨by grind, rfl, rfl⟩⟩
  have hsd : 0 ≤ sd ∧ sd ≤ 999999 := by grind
  refine ⟨fun h3 => ?_, fun h3 => Or.inr (Or.inl ⟨⟨hv, hsd⟩, h3, rfl, rfl⟩)⟩
  have e65 : z_Con X 1 mX9_findingAt [zr 0 0, zi s, zi i, zi (M.1 6 0 5)] M (fun r M' => M' = M ∧ r = z_fd M s i (nI n)) := by
    rw [hnr]
    exact hX9_findingAt M s i (nI n) hv.1 hv.2
  refine z_uR e65 (by decide) ?_
  obtain ⟨s', hs8, es, es2⟩ := s_of hv
  obtain ⟨seed, hse, ese⟩ := nI_of2 (x := sd) (M := 999999) (n := 999999) (by decide) (Int32.not_lt.mpr hsd.1) hsd.2
  have hS' := hS s' hs8
  refine ⟨fun h4 => ?_, fun h4 => ?_⟩
  · obtain ⟨x, ex, hxc⟩ := fd_ok (c := n) h4 rfl (by omega) (by rw [es2]; exact ⟨hS'.2.2.2, hS'.2.2.1⟩)
    subst es ex ese
    rw [es2]
    refine ⟨vp_in_nI (by omega) (by omega), ?_⟩
    rw [es2]
    have eiw : z_Con X 2 mX9_itemsWithin [zr 2 s', zi (nI x), zi (M.1 6 0 5), zi 10, zi 40] M (fun r M' => M' = M ∧ r = if pu_iw (M.1 3 s') 10 40 x n = true then 1 else 0) := by
      rw [hnr]
      exact hX9_itemsWithin M s' x n 10 40 hxc
    refine z_uR eiw (by decide) ?_
    refine ⟨fun h5 => ?_, fun h5 => ?_⟩
    · have hi : pu_iw (M.1 3 s') 10 40 x n = true := by
        apply Classical.byContradiction
        intro w
        rw [if_neg w] at h5
        exact h5 rfl
      refine ⟨vp_in_nI (by omega) (by omega), ?_⟩
      rw [es2]
      refine z_use (hX3_runAll M hV hn hnm hnr hm hs hc hxc (iw_at n hi) (show seed < 2147483647 by omega)) (by decide) (fun _ M1 k => ?_)
      refine z_uR (hX6_runnerAt (T := (pu_rs V n seed (fun r => M.1 3 s' (x + r)) nm).2.1) M1 (h1n h3) hn k.2.1 k.2.2.2.1) (by decide) ?_
      refine z_uW (hX9_foundNothing M1 _) (by decide) ?_
      exact Or.inr (Or.inr (Or.inr ⟨⟨hv, hsd⟩, h3, h4, x, seed, rfl, hxc, rfl, hse, Or.inr ⟨hi, rfl, M1, k, rfl⟩⟩))
    · refine Or.inr (Or.inr (Or.inr ⟨⟨hv, hsd⟩, h3, h4, x, seed, rfl, hxc, rfl, hse, Or.inl ⟨?_, rfl, rfl⟩⟩))
      cases hb : pu_iw (M.1 3 s') 10 40 x n with
      | false => rfl
      | true => rw [hb] at h5; exact absurd h5 (by decide)
  · refine z_uW (hX9_found M _) (by decide) ?_
    exact Or.inr (Or.inr (Or.inl ⟨⟨hv, hsd⟩, h3, h4, rfl, rfl⟩))
