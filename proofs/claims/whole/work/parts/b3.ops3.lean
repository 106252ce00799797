/-! ===== sheets, tape, asks, side by side ===== -/
theorem zsr_k {M : z_M} {k k' i : Nat} {f : Nat → Int32} (h : k' ≠ k) : (z_sr M k i f).1 k' = M.1 k' := by
  funext a b
  exact if_neg (c := k' = k ∧ a = i) (fun w => h w.1)
theorem Rel_sh {M M2 : z_M} {len nm nr nb : Nat} {l : List Int32} (hC : z_Ci M.1 len nm nr nb l) (hM : z_Mo M.1 len nm nr nb l M) (hc : ∀ k, (4 ≤ k ∧ k ≤ 24) ∨ k = 31 ∨ k = 44 ∨ k = 45 → M2.1 k = M.1 k) (ws : ∀ s, s < 8 → -1 ≤ M2.1 2 s 1 ∧ M2.1 2 s 1 ≤ 2 ∧ 0 ≤ M2.1 2 s 2 ∧ M2.1 2 s 2 ≤ 40) (sm : z_Sm (fun s => M2.1 2 s 1) (fun s => M2.1 2 s 2) (fun s => M2.1 3 s) M2) (hk : ∀ k, (47 ≤ k ∧ k ≤ 50) ∨ k = 55 ∨ k = 63 → M2.1 k = M.1 k) (h46 : ∀ j, j = 5 ∨ j = 6 ∨ j = 29 → M2.1 46 0 j = M.1 46 0 j) (st : M2.1 46 0 7 = M2.1 0 0 10) (h2 : M2.2.2 = M.2.2) : z_Rel M2 := by
  refine ⟨len, nm, nr, nb, l, Ci_b hC (fun k i h1 h2 _ => by rw [hc k (by omega)]) (hc 21 (by decide)) (hc 31 (by decide)) ws (by rw [hc 4 (by decide)]; exact hC.2.1) (by rw [hc 44 (by decide), hc 45 (by decide)]; exact hC.2.2.2.2.2.1), ?_⟩
  refine Mo_b hM (fun k i h1 h2 _ => by rw [hc k (by omega)]) (hc 21 (by decide)) (hc 23 (by decide)) (hc 24 (by decide)) sm ?_ ?_ (fun k h3 => by rw [hk 55 (by decide)]; exact hM.h0 k h3) st ?_ (hk 47 (by decide)) (hk 48 (by decide)) (hk 49 (by decide)) h2
  · rw [hc 5 (by decide)]
    exact ⟨hM.tm.1, (h46 5 (by decide)).trans hM.tm.2.1, fun y hy => by rw [hk 50 (by decide)]; exact hM.tm.2.2 y hy⟩
  · exact ⟨hM.tx.1, (h46 29 (by decide)).trans hM.tx.2.1, fun y hy => by rw [hk 63 (by decide)]; exact hM.tx.2.2 y hy⟩
  · rw [h46 6 (by decide), hc 4 (by decide)]
    exact hM.ft
theorem Sm_congr {L S L' S' : Nat → Int32} {I I' : Nat → Nat → Int32} {M : z_M} (h : z_Sm L S I M) (eL : ∀ s, s < 8 → L' s = L s) (eS : ∀ s, s < 8 → S' s = S s) (eI : ∀ s, s < 8 → ∀ j, j < 40 → I' s j = I s j) : z_Sm L' S' I' M := by
  intro s hs
  rw [eL s hs, eS s hs]
  refine ⟨(h s hs).1, (h s hs).2.1, fun j hj => ?_⟩
  rw [eI s hs j hj]
  exact (h s hs).2.2 j hj
theorem op_sheet {X : z_Cx} {M : z_M} (hR : z_Rel M) (s la n : Int32) : z_Op X mX9_sheet mX10_sheet [zi s, zi la, zi n] M := by
  obtain ⟨len, nm, nr, nb, l, hC, hM⟩ := hR
  refine z_use (hX9_sheet M s la n) (by decide) (fun v M1 q => ?_)
  by_cases w : 0 ≤ s ∧ s ≤ 7 ∧ 0 ≤ la ∧ la ≤ 2 ∧ n ≤ 40
  · rw [if_pos w] at q
    by_cases w2 : n < 0
    · rw [if_pos w2] at q
      have hM1 : z_Mo M.1 len nm nr nb l M1 := by rw [q.2]; exact Mo_s hM
      refine z_use (hX10_sheet M1 hM1.sm s la n) (by decide) (fun v' M2 q' => ?_)
      rw [if_pos w, if_pos w2] at q'
      exact ⟨q.1.trans q'.1.symm, Rel_ss hC hM q.2 q'.2⟩
    · rw [if_neg w2] at q
      obtain ⟨x, hx, e1, e2⟩ := s_of (s := s) ⟨w.1, w.2.1⟩
      rw [e2] at q
      have a1 : ∀ k, k ≠ 0 → k ≠ 2 → k ≠ 3 → M1.1 k = M.1 k := fun k h0 h2 h3 => by
        rw [q.2, zs_k h0, zs_k h2, zs_k h2, zsr_k h3]
      have n1 : M1.2 = M.2 := by rw [q.2]; rfl
      have hM1 : z_Mo M.1 len nm nr nb l M1 := Mo_cl hM (fun k hk => a1 k (by omega) (by omega) (by omega)) (by rw [n1])
      have eL : ∀ y, M1.1 2 y 1 = pu_up (fun s => M.1 2 s 1) x la y := fun y => by
        rw [q.2, zs_k (by decide), zs_j (Or.inr (by decide)), z_gs]
        unfold pu_up
        by_cases w : y = x
        · rw [if_pos ⟨rfl, w, rfl⟩, if_pos w]
        · rw [if_neg (fun a => w a.2.1), if_neg w, zsr_k (by decide)]
      have eS : ∀ y, M1.1 2 y 2 = pu_up (fun s => M.1 2 s 2) x n y := fun y => by
        rw [q.2, zs_k (by decide), z_gs]
        unfold pu_up
        by_cases w : y = x
        · rw [if_pos ⟨rfl, w, rfl⟩, if_pos w]
        · rw [if_neg (fun a => w a.2.1), if_neg w, zs_j (Or.inr (by decide)), zsr_k (by decide)]
      have eI : ∀ y j, j < 40 → M1.1 3 y j = pu_up2 (fun s => M.1 3 s) x (fun _ => 0) y j := fun y j hj => by
        rw [q.2, zs_k (by decide), zs_k (by decide), zs_k (by decide), z_gr]
        unfold pu_up2
        by_cases w : y = x
        · rw [if_pos ⟨rfl, w⟩, if_pos w, if_pos hj]
        · rw [if_neg (fun a => w a.2), if_neg w]
      have e0 : M1.1 0 0 10 = 0 := by rw [q.2, zs_v]
      refine z_use (hX10_sheet M1 hM1.sm s la n) (by decide) (fun v' M2 q' => ?_)
      rw [if_pos w, if_neg w2, e2] at q'
      obtain ⟨v1, hF, s7, hS⟩ := q'
      have a2 : ∀ k, k ≠ 46 → (k < 51 ∨ 54 < k) → M2.1 k = M1.1 k := fun k h1 h2 => hF.2.1 k h1 (by simp only [List.mem_cons, List.mem_nil_iff, or_false]; omega)
      refine ⟨q.1.trans v1.symm, Rel_sh hC hM (fun k hk => by rw [a2 k (by omega) (by omega), a1 k (by omega) (by omega) (by omega)]) (fun y hy => ?_) ?_ (fun k hk => by rw [a2 k (by omega) (by omega), a1 k (by omega) (by omega) (by omega)]) (fun j hj => by rw [hF.2.2 j (by simp only [List.mem_cons, List.mem_nil_iff, or_false]; omega), a1 46 (by decide) (by decide) (by decide)]) (by rw [s7, a2 0 (by decide) (by decide), e0]) (by rw [hF.1, n1])⟩
      · rw [a2 2 (by decide) (by decide), eL y, eS y]
        unfold pu_up
        by_cases w3 : y = x
        · rw [if_pos w3, if_pos w3]
          exact ⟨Int32.le_trans (by decide) w.2.2.1, w.2.2.2.1, Int32.not_lt.1 w2, w.2.2.2.2⟩
        · rw [if_neg w3, if_neg w3]
          exact hC.1 y hy
      · rw [a2 2 (by decide) (by decide), a2 3 (by decide) (by decide)]
        exact Sm_congr hS (fun y _ => eL y) (fun y _ => eS y) (fun y _ j hj => eI y j hj)
  · rw [if_neg w] at q
    have hM1 : z_Mo M.1 len nm nr nb l M1 := by rw [q.2]; exact hM
    refine z_use (hX10_sheet M1 hM1.sm s la n) (by decide) (fun v' M2 q' => ?_)
    rw [if_neg w] at q'
    exact ⟨q.1.trans q'.1.symm, Rel_0 hC hM (q'.2.trans q.2)⟩
theorem op_set {X : z_Cx} {M : z_M} (hR : z_Rel M) (s i v0 : Int32) : z_Op X mX9_set mX10_set [zi s, zi i, zi v0] M := by
  obtain ⟨len, nm, nr, nb, l, hC, hM⟩ := hR
  refine z_use (hX9_set M hC.1 s i v0) (by decide) (fun v M1 q => ?_)
  have hM1 : z_Mo M.1 len nm nr nb l M1 := by
    rcases q with q | q | ⟨_, _, x, _, _, _, q⟩
    · rw [q.2.2]; exact hM
    · rw [q.2.2.2]; exact Mo_s hM
    · rw [q]
      exact Mo_cl hM (fun k hk => by rw [zs_k (by omega), zs_k (by omega)]) rfl
  refine z_use (hX10_set M1 hM1.sm s i v0) (by decide) (fun v' M2 q' => ?_)
  rcases q with ⟨a, b, c⟩ | ⟨a, a1, b, c⟩ | ⟨a, a1, x, a2, a3, b, c⟩ <;> rcases q' with ⟨a', b', c'⟩ | ⟨a', a1', b', c'⟩ | ⟨a', a1', x', a2', a3', b', c'⟩
  · exact ⟨b.trans b'.symm, Rel_0 hC hM (c'.trans c)⟩
  · exact absurd a' a
  · exact absurd a' a
  · exact absurd a a'
  · exact ⟨b.trans b'.symm, Rel_ss hC hM c c'⟩
  · exact absurd a1' a1
  · exact absurd a a'
  · exact absurd a1 a1'
  · obtain rfl : x = x' := nI_inj (by omega) (by omega) (a3.symm.trans a3')
    refine ⟨b.trans b'.symm, ?_⟩
    obtain ⟨y, hy, e1, e2⟩ := s_of a
    rw [e2] at c c'
    generalize hu : pu_cut (M.1 2 y 1) v0 = u at *
    have c2 : M2 = z_s (z_s M1 54 0 (40 * y + x) u) 46 0 7 0 := by
      rw [c', ← hu]
    have a1 : ∀ k, k ≠ 0 → k ≠ 3 → M1.1 k = M.1 k := fun k h0 h3 => by
      rw [c, zs_k h0, zs_k h3]
    have a2k : ∀ k, k ≠ 46 → k ≠ 54 → M2.1 k = M1.1 k := fun k h0 h3 => by
      rw [c2, zs_k h0, zs_k h3]
    refine Rel_sh hC hM (fun k hk => by rw [a2k k (by omega) (by omega), a1 k (by omega) (by omega)]) (fun y hy => ?_) (fun t ht => ?_) (fun k hk => by rw [a2k k (by omega) (by omega), a1 k (by omega) (by omega)]) (fun j hj => by rw [c2, zs_j (Or.inr (by omega)), zs_k (by decide), a1 46 (by decide) (by decide)]) ?_ (by rw [c2, c]; rfl)
    · rw [a2k 2 (by decide) (by decide), a1 2 (by decide) (by decide)]
      exact hC.1 y hy
    · have q := hM1.sm t ht
      rw [a2k 2 (by decide) (by decide), a1 2 (by decide) (by decide), a2k 53 (by decide) (by decide), a2k 51 (by decide) (by decide), a2k 52 (by decide) (by decide), a2k 3 (by decide) (by decide)]
      refine ⟨q.1, q.2.1, fun j hj => ?_⟩
      have e3 : M1.1 3 t j = if t = y ∧ j = x then u else M.1 3 t j := by
        rw [c, zs_k (by decide), z_gs]
        by_cases w : t = y ∧ j = x
        · rw [if_pos ⟨rfl, w.1, w.2⟩, if_pos w]
        · rw [if_neg (fun a => w ⟨a.2.1, a.2.2⟩), if_neg w]
      have e54 : M2.1 54 0 (40 * t + j) = if t = y ∧ j = x then u else M1.1 54 0 (40 * t + j) := by
        rw [c2, zs_k (by decide), z_gs]
        by_cases w : t = y ∧ j = x
        · rw [if_pos ⟨rfl, rfl, by omega⟩, if_pos w]
        · rw [if_neg (by omega), if_neg w]
      show M2.1 54 0 (40 * t + j) = M1.1 3 t j
      rw [e3, e54]
      by_cases w : t = y ∧ j = x
      · rw [if_pos w, if_pos w]
      · rw [if_neg w, if_neg w]
        exact q.2.2 j hj
    · rw [a2k 0 (by decide) (by decide), c, zs_v, c2, zs_v]
theorem op_drop {X : z_Cx} {M : z_M} (hR : z_Rel M) (s : Int32) : z_Op X mX9_drop mX10_drop [zi s] M := by
  obtain ⟨len, nm, nr, nb, l, hC, hM⟩ := hR
  refine z_use (hX9_drop M s) (by decide) (fun v M1 q => ?_)
  have hM1 : z_Mo M.1 len nm nr nb l M1 := by
    rcases q with q | q | q
    · rw [q.2.2]; exact hM
    · rw [q.2.2.2]; exact Mo_s hM
    · rw [q.2.2.2]
      exact Mo_cl hM (fun k hk => by rw [zs_k (by omega), zs_k (by omega), zs_k (by omega)]) rfl
  refine z_use (hX10_drop M1 hM1.sm s) (by decide) (fun v' M2 q' => ?_)
  rcases q with ⟨a, b, c⟩ | ⟨a, a1, b, c⟩ | ⟨a, a1, b, c⟩ <;> rcases q' with ⟨a', b', c'⟩ | ⟨a', a1', b', c'⟩ | ⟨a', a1', b', c'⟩
  · exact ⟨b.trans b'.symm, Rel_0 hC hM (c'.trans c)⟩
  · exact absurd a' a
  · exact absurd a' a
  · exact absurd a a'
  · exact ⟨b.trans b'.symm, Rel_ss hC hM c c'⟩
  · exact absurd a1 a1'
  · exact absurd a a'
  · exact absurd a1' a1
  · refine ⟨b.trans b'.symm, ?_⟩
    obtain ⟨y, hy, e1, e2⟩ := s_of a
    rw [e2] at c c'
    have a1 : ∀ k, k ≠ 0 → k ≠ 2 → M1.1 k = M.1 k := fun k h0 h3 => by
      rw [c, zs_k h0, zs_k h3, zs_k h3]
    have a2k : ∀ k, k ≠ 46 → k ≠ 53 → M2.1 k = M1.1 k := fun k h0 h3 => by
      rw [c', zs_k h0, zs_k h3]
    have eL : ∀ t, M1.1 2 t 1 = if t = y then -1 else M.1 2 t 1 := fun t => by
      rw [c, zs_k (by decide), zs_j (Or.inr (by decide)), z_gs]
      by_cases w : t = y
      · rw [if_pos ⟨rfl, w, rfl⟩, if_pos w]
      · rw [if_neg (fun a => w a.2.1), if_neg w]
    have eS : ∀ t, M1.1 2 t 2 = if t = y then 0 else M.1 2 t 2 := fun t => by
      rw [c, zs_k (by decide), z_gs]
      by_cases w : t = y
      · rw [if_pos ⟨rfl, w, rfl⟩, if_pos w]
      · rw [if_neg (fun a => w a.2.1), if_neg w, zs_j (Or.inr (by decide))]
    refine Rel_sh hC hM (fun k hk => by rw [a2k k (by omega) (by omega), a1 k (by omega) (by omega)]) (fun t ht => ?_) (fun t ht => ?_) (fun k hk => by rw [a2k k (by omega) (by omega), a1 k (by omega) (by omega)]) (fun j hj => by rw [c', zs_j (Or.inr (by omega)), zs_k (by decide), a1 46 (by decide) (by decide)]) ?_ (by rw [c', c]; rfl)
    · rw [a2k 2 (by decide) (by decide), eL, eS]
      by_cases w : t = y
      · rw [if_pos w, if_pos w]
        decide
      · rw [if_neg w, if_neg w]
        exact hC.1 t ht
    · have q := hM1.sm t ht
      rw [a2k 2 (by decide) (by decide), a2k 51 (by decide) (by decide), a2k 52 (by decide) (by decide), a2k 54 (by decide) (by decide), a2k 3 (by decide) (by decide), a1 3 (by decide) (by decide)]
      dsimp only
      by_cases w : t = y
      · have f1 : M1.1 2 t 1 = -1 := by rw [eL, if_pos w]
        refine ⟨?_, fun h => absurd f1 h, q.2.2⟩
        rw [if_pos f1, c', zs_k (by decide), w, zs_v]
      · have f1 : M1.1 2 t 1 = M.1 2 t 1 := by rw [eL, if_neg w]
        have f2 : M1.1 2 t 2 = M.1 2 t 2 := by rw [eS, if_neg w]
        simp only [f1, f2]
        refine ⟨?_, q.2.1, q.2.2⟩
        rw [c', zs_k (by decide), zs_j (Or.inr w)]
        exact q.1
    · rw [a2k 0 (by decide) (by decide), c, zs_v, c', zs_v]
theorem op_copy {X : z_Cx} {M : z_M} (hR : z_Rel M) (s i t j n : Int32) : z_Op X mX9_copy mX10_copy [zi s, zi i, zi t, zi j, zi n] M := by
  obtain ⟨len, nm, nr, nb, l, hC, hM⟩ := hR
  refine z_use (hX9_copy M hC.1 s i t j n) (by decide) (fun v M1 q => ?_)
  have hM1 : z_Mo M.1 len nm nr nb l M1 := by
    rcases q with q | q | q | q | ⟨_, _, _, _, _, x, y, c, _, _, _, _, _, _, q⟩
    · rw [q.2.2]; exact hM
    · rw [q.2.2.2]; exact Mo_s hM
    · rw [q.2.2.2.2]; exact Mo_s hM
    · rw [q.2.2.2.2.2]; exact Mo_s hM
    · rw [q]
      exact Mo_cl hM (fun k hk => by rw [zs_k (by omega), zsr_k (by omega)]) rfl
  refine z_use (hX10_copy M1 hM1.sm s i t j n) (by decide) (fun v' M2 q' => ?_)
  rcases q with ⟨a, b, c⟩ | ⟨a, a1, b, c⟩ | ⟨a, a1, a2, b, c⟩ | ⟨a, a1, a2, a3, b, c⟩ | ⟨a, a1, a2, a3, a4, x, y, m, x1, x2, x3, x4, x5, b, c⟩ <;> rcases q' with ⟨a', b', c'⟩ | ⟨a', a1', b', c'⟩ | ⟨a', a1', a2', b', c'⟩ | ⟨a', a1', a2', a3', b', c'⟩ | ⟨a', a1', a2', a3', a4', x', y', m', x1', x2', x3', x4', x5', b', c'⟩
  · exact ⟨b.trans b'.symm, Rel_0 hC hM (c'.trans c)⟩
  · exact absurd a' a
  · exact absurd a' a
  · exact absurd a' a
  · exact absurd a' a
  · exact absurd a a'
  · exact ⟨b.trans b'.symm, Rel_ss hC hM c c'⟩
  · exact absurd a1 a1'
  · exact absurd a1 a1'
  · exact absurd a1 a1'
  · exact absurd a a'
  · exact absurd a1' a1
  · exact ⟨b.trans b'.symm, Rel_ss hC hM c c'⟩
  · exact absurd a2' a2
  · exact absurd a2' a2
  · exact absurd a a'
  · exact absurd a1' a1
  · exact absurd a2 a2'
  · exact ⟨b.trans b'.symm, Rel_ss hC hM c c'⟩
  · exact absurd ⟨a3', a4'⟩ a3
  · exact absurd a a'
  · exact absurd a1' a1
  · exact absurd a2 a2'
  · exact absurd ⟨a3, a4⟩ a3'
  · obtain rfl : x = x' := nI_inj (by omega) (by omega) (x1.symm.trans x1')
    obtain rfl : y = y' := nI_inj (by omega) (by omega) (x2.symm.trans x2')
    obtain rfl : m = m' := nI_inj (by omega) (by omega) (x3.symm.trans x3')
    refine ⟨b.trans b'.symm, ?_⟩
    obtain ⟨p, hp, _, e2⟩ := s_of a.1
    obtain ⟨r, hr, _, e3⟩ := s_of a.2
    rw [e2, e3] at c c'
    have k1 : ∀ k, k ≠ 0 → k ≠ 3 → M1.1 k = M.1 k := fun k h0 h3 => by
      rw [c, zs_k h0, zsr_k h3]
    have k2 : ∀ k, k ≠ 46 → k ≠ 54 → M2.1 k = M1.1 k := fun k h0 h3 => by
      rw [c', zs_k h0]
      unfold z_cu
      rw [zsr_k h3]
    refine Rel_sh hC hM (fun k hk => by rw [k2 k (by omega) (by omega), k1 k (by omega) (by omega)]) (fun y hy => ?_) (fun u hu => ?_) (fun k hk => by rw [k2 k (by omega) (by omega), k1 k (by omega) (by omega)]) (fun j hj => by rw [c', zs_j (Or.inr (by omega))]; unfold z_cu; rw [zsr_k (by decide), k1 46 (by decide) (by decide)]) ?_ (by rw [c', c]; rfl)
    · rw [k2 2 (by decide) (by decide), k1 2 (by decide) (by decide)]
      exact hC.1 y hy
    · have q := hM1.sm u hu
      have qp := hM1.sm p hp
      rw [k2 2 (by decide) (by decide), k1 2 (by decide) (by decide), k2 53 (by decide) (by decide), k2 51 (by decide) (by decide), k2 52 (by decide) (by decide), k2 3 (by decide) (by decide)]
      refine ⟨q.1, q.2.1, fun j hj => ?_⟩
      rw [c', zs_k (by decide)]
      unfold z_cu
      rw [z_gr, if_pos ⟨rfl, rfl⟩]
      have e3' : M1.1 3 u j = if u = r then va_cpy (M.1 3 p) (M.1 3 r) x y m j else M.1 3 u j := by
        rw [c, zs_k (by decide), z_gr]
        by_cases w : u = r
        · rw [if_pos ⟨rfl, w⟩, if_pos w]
        · rw [if_neg (fun a => w a.2), if_neg w]
      show _ = M1.1 3 u j
      rw [e3']
      unfold va_cpy
      by_cases w : u = r
      · rw [if_pos w]
        subst w
        by_cases w2 : y ≤ j ∧ j < y + m
        · rw [if_pos w2, if_pos (by omega), show 40 * p + x + (40 * u + j - (40 * u + y)) = 40 * p + (x + (j - y)) by omega]
          exact qp.2.2 (x + (j - y)) (by omega)
        · rw [if_neg w2, if_neg (by omega)]
          exact q.2.2 j hj
      · rw [if_neg w, if_neg (by omega)]
        exact q.2.2 j hj
    · rw [k2 0 (by decide) (by decide), c, zs_v, c', zs_v]
theorem op_feed {X : z_Cx} {M : z_M} (hR : z_Rel M) (w : Int64) (n : Int32) : z_Op X mX9_feed mX10_feed [zl w, zi n] M := by
  obtain ⟨len, nm, nr, nb, l, hC, hM⟩ := hR
  have hl6 := hM.tm.1
  refine z_use (hX9_feed M w n len hl6 hC.2.1) (by decide) (fun v M1 q => ?_)
  have hM1 : z_Mo M.1 len nm nr nb l M1 := by
    rcases q with q | ⟨c, _, _, _, q | q⟩
    · rw [q.2.2]; exact hM
    · rw [q.2.2]; exact hM
    · rw [q.2.2]
      unfold z_tk
      exact Mo_cl hM (fun k hk => by rw [zs_k (by omega), zsr_k (by omega)]) rfl
  refine z_use (hX10_feed M1 hM1.tm w n) (by decide) (fun v' M2 q' => ?_)
  have inn : ∀ c, 1 ≤ c → c ≤ 8 → n = nI c → 1 ≤ n ∧ n ≤ 8 := fun c h1 h2 e => by
    rw [e]
    exact ⟨nI_le (a := 1) h1 (by omega), nI_le (b := 8) h2 (by omega)⟩
  rcases q with ⟨a, b, c⟩ | ⟨c, a1, a2, a3, q⟩ <;> rcases q' with ⟨a', b', c'⟩ | ⟨c', a1', a2', a3', q'⟩
  · exact ⟨b.trans b'.symm, Rel_0 hC hM (c'.trans c)⟩
  · exact absurd (inn c' a1' a2' a3') a
  · exact absurd (inn c a1 a2 a3) a'
  · obtain rfl : c = c' := nI_inj (by omega) (by omega) (a3.symm.trans a3')
    rcases q with ⟨s1, s2, s3⟩ | ⟨s1, s2, s3⟩ <;> rcases q' with ⟨s1', s2', s3'⟩ | ⟨s1', s2', s3', s4'⟩
    · exact ⟨s2.trans s2'.symm, Rel_0 hC hM (s3'.trans s3)⟩
    · omega
    · omega
    · refine ⟨s2.trans s2'.symm, ?_⟩
      unfold z_tk at s3
      have k1 : ∀ k, k ≠ 4 → k ≠ 5 → M1.1 k = M.1 k := fun k h0 h3 => by
        rw [s3, zs_k h0, zsr_k h3]
      have k2 : ∀ k, k ≠ 46 → k ≠ 50 → M2.1 k = M1.1 k := fun k h0 h3 => s3'.2.1 k h0 (by simp only [List.mem_cons, List.mem_nil_iff, or_false]; exact h3)
      have k12 : ∀ k, k ≠ 4 → k ≠ 5 → k ≠ 46 → k ≠ 50 → M2.1 k = M.1 k := fun k h1 h2 h3 h4 => (k2 k h3 h4).trans (k1 k h1 h2)
      have e42 : M2.1 4 0 2 = nI (len + c) := by rw [k2 4 (by decide) (by decide), s3, zs_v]
      have e43 : M2.1 4 0 3 = M.1 4 0 3 := by rw [k2 4 (by decide) (by decide), s3, zs_j (Or.inr (by decide)), zsr_k (by decide)]
      have e5 : M2.1 5 0 = fun x => if len ≤ x ∧ x < len + c then pu_by w (c - 1 - (x - len)) else M.1 5 0 x := by
        funext x
        rw [k2 5 (by decide) (by decide), s3, zs_k (by decide), z_gr, if_pos ⟨rfl, rfl⟩]
      refine ⟨len + c, nm, nr, nb, l, Ci_b hC (fun k i h1 h2 _ => by rw [k12 k (by omega) (by omega) (by omega) (by omega)]) (k12 21 (by decide) (by decide) (by decide) (by decide)) (k12 31 (by decide) (by decide) (by decide) (by decide)) (by rw [k12 2 (by decide) (by decide) (by decide) (by decide)]; exact hC.1) e42 (by rw [k12 44 (by decide) (by decide) (by decide) (by decide), k12 45 (by decide) (by decide) (by decide) (by decide)]; exact hC.2.2.2.2.2.1), ?_⟩
      refine Mo_b hM (fun k i h1 h2 _ => by rw [k12 k (by omega) (by omega) (by omega) (by omega)]) (k12 21 (by decide) (by decide) (by decide) (by decide)) (k12 23 (by decide) (by decide) (by decide) (by decide)) (k12 24 (by decide) (by decide) (by decide) (by decide)) ?_ ?_ ?_ (fun k h3 => by rw [k12 55 (by decide) (by decide) (by decide) (by decide)]; exact hM.h0 k h3) ?_ ?_ (k12 47 (by decide) (by decide) (by decide) (by decide)) (k12 48 (by decide) (by decide) (by decide) (by decide)) (k12 49 (by decide) (by decide) (by decide) (by decide)) (by rw [s3'.1, s3]; rfl)
      · rw [k12 2 (by decide) (by decide) (by decide) (by decide), k12 3 (by decide) (by decide) (by decide) (by decide)]
        exact hM1.sm.fr s3' (by decide) (by decide) (by decide) (by decide)
      · rw [e5]
        exact s4'
      · exact ⟨hM.tx.1, by rw [s3'.2.2 29 (by decide), k1 46 (by decide) (by decide)]; exact hM.tx.2.1, fun y hy => by rw [k12 63 (by decide) (by decide) (by decide) (by decide)]; exact hM.tx.2.2 y hy⟩
      · rw [s3'.2.2 7 (by decide), k1 46 (by decide) (by decide), k12 0 (by decide) (by decide) (by decide) (by decide)]
        exact hM.st
      · rw [s3'.2.2 6 (by decide), k1 46 (by decide) (by decide), e43]
        exact hM.ft
theorem op_ask {X : z_Cx} {M : z_M} (hR : z_Rel M) (ru mi wh : Int32) : z_Op X mX9_ask mX10_ask [zi ru, zi mi, zi wh] M := by
  obtain ⟨len, nm, nr, nb, l, hC, hM⟩ := hR
  have hW := Rel_Wc hC hM
  have h12 := hM.cr.1.1
  have h4 := hM.cr.1.2.1
  refine z_use (hX9_ask M nm nr nb hW ru mi wh) (by decide) (fun v M1 q => ?_)
  have hM1 : z_Mo M.1 len nm nr nb l M1 := by
    rcases q with q | q | ⟨_, _, r, m, _, _, _, _, q⟩
    · rw [q.2.2]; exact hM
    · rw [q.2.2.2.2.2]; exact hM
    · exact Mo_Fr hM q.1 (by decide)
  refine z_use (hX10_ask M1 hM1.cr hM1.h0 hM1.rf ru mi wh) (by decide) (fun v' M2 q' => ?_)
  rcases q with ⟨a, b, c⟩ | ⟨a1, a2, a3, a4, b, c⟩ | ⟨a0, a3, r, m, a5, a6, a7, a8, f, b, c⟩ <;> rcases q' with ⟨a', b', c'⟩ | ⟨a1', a2', a3', a4', b', c'⟩ | ⟨a0', a3', r', m', a5', a6', a7', a8', f', b', c'⟩
  · exact ⟨b.trans b'.symm, Rel_0 hC hM (c'.trans c)⟩
  · exact absurd ⟨a1', a2', a3'⟩ a
  · exact absurd ⟨ru_in a5' (by omega) a6', ru_in a7' (by omega) a8', a3'⟩ a
  · exact absurd ⟨a1, a2, a3⟩ a'
  · exact ⟨b.trans b'.symm, Rel_0 hC hM (c'.trans c)⟩
  · exact absurd a4 a0'
  · exact absurd ⟨ru_in a5 (by omega) a6, ru_in a7 (by omega) a8, a3⟩ a'
  · exact absurd a4' a0
  · obtain rfl : r = r' := nI_inj (by omega) (by omega) (a6.symm.trans a6')
    obtain rfl : m = m' := nI_inj (by omega) (by omega) (a8.symm.trans a8')
    refine ⟨b.trans b'.symm, ?_⟩
    generalize (if wh = 0 then pu_sizeT else pu_markT) (pu_kind (M.1 23) r m) = T at *
    have k2 : ∀ k, k ≠ 46 → k ≠ 63 → M2.1 k = M1.1 k := fun k h0 h3 => f'.2.1 k h0 (by simp only [List.mem_cons, List.mem_nil_iff, or_false]; exact h3)
    have k12 : ∀ k, k ≠ 44 → k ≠ 45 → k ≠ 46 → k ≠ 63 → M2.1 k = M.1 k := fun k h1 h2 h3 h4 => (k2 k h3 h4).trans (f.2 k (by simp only [List.mem_cons, List.mem_nil_iff, or_false]; omega))
    have k46 : ∀ j, j ≠ 29 → M2.1 46 0 j = M.1 46 0 j := fun j hj => by
      rw [f'.2.2 j (by simp only [List.mem_cons, List.mem_nil_iff, or_false]; exact hj), f.2 46 (by decide)]
    refine ⟨len, nm, nr, nb, T, Ci_b hC (fun k i h1 h2 _ => by rw [k12 k (by omega) (by omega) (by omega) (by omega)]) (k12 21 (by decide) (by decide) (by decide) (by decide)) (k12 31 (by decide) (by decide) (by decide) (by decide)) (by rw [k12 2 (by decide) (by decide) (by decide) (by decide)]; exact hC.1) (by rw [k12 4 (by decide) (by decide) (by decide) (by decide)]; exact hC.2.1) (by rw [k2 44 (by decide) (by decide), k2 45 (by decide) (by decide)]; exact c), ?_⟩
    refine Mo_b hM (fun k i h1 h2 _ => by rw [k12 k (by omega) (by omega) (by omega) (by omega)]) (k12 21 (by decide) (by decide) (by decide) (by decide)) (k12 23 (by decide) (by decide) (by decide) (by decide)) (k12 24 (by decide) (by decide) (by decide) (by decide)) ?_ ?_ c' (fun k h3 => by rw [k12 55 (by decide) (by decide) (by decide) (by decide)]; exact hM.h0 k h3) ?_ ?_ (k12 47 (by decide) (by decide) (by decide) (by decide)) (k12 48 (by decide) (by decide) (by decide) (by decide)) (k12 49 (by decide) (by decide) (by decide) (by decide)) (by rw [f'.1, f.1])
    · rw [k12 2 (by decide) (by decide) (by decide) (by decide), k12 3 (by decide) (by decide) (by decide) (by decide)]
      exact hM1.sm.fr f' (by decide) (by decide) (by decide) (by decide)
    · rw [k12 5 (by decide) (by decide) (by decide) (by decide)]
      exact ⟨hM.tm.1, (k46 5 (by decide)).trans hM.tm.2.1, fun y hy => by rw [k12 50 (by decide) (by decide) (by decide) (by decide)]; exact hM.tm.2.2 y hy⟩
    · rw [k46 7 (by decide), k12 0 (by decide) (by decide) (by decide) (by decide)]
      exact hM.st
    · rw [k46 6 (by decide), k12 4 (by decide) (by decide) (by decide) (by decide)]
      exact hM.ft
