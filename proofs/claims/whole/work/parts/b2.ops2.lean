/-! ===== builders of the relation ===== -/
section MB
variable {C C' : z_Cm} {len len' nm nr nb : Nat} {l l' : List Int32} {M M' M1 M2 : z_M}
theorem cq_b (hc : ∀ k i, 6 ≤ k → k ≤ 20 → i ≠ 1 → C' k i = C k i) {i : Nat} (hi : i ≠ 1) : z_cq C' i = z_cq C i := by
  funext f j
  unfold z_cq
  by_cases h : f < 14
  · rw [if_pos h, if_pos h, hc (7 + f) i (by omega) (by omega) hi]
  · rw [if_neg h, if_neg h]
theorem Im_b (hc : ∀ k i, 6 ≤ k → k ≤ 20 → i ≠ 1 → C' k i = C k i) (h21 : C' 21 = C 21) (h23 : C' 23 = C 23) (h24 : C' 24 = C 24) (h48 : M'.1 48 = M.1 48) (h49 : M'.1 49 = M.1 49) {j : Nat} (h : z_Im C j M) : z_Im C' j M' := by
  unfold z_Im at h ⊢
  rw [h49, kp_eq h48, cq_b hc (by omega), hc 6 (j + 2) (by decide) (by decide) (by omega), h21, h23, h24]
  exact h
theorem Mo_b (h : z_Mo C len nm nr nb l M) (hc : ∀ k i, 6 ≤ k → k ≤ 20 → i ≠ 1 → C' k i = C k i) (h21 : C' 21 = C 21) (h23 : C' 23 = C 23) (h24 : C' 24 = C 24) (sm : z_Sm (fun s => C' 2 s 1) (fun s => C' 2 s 2) (fun s => C' 3 s) M') (tm : z_Tm (C' 5 0) len' M') (tx : z_Tx l' M') (h0 : z_H0 M') (st : M'.1 46 0 7 = C' 0 0 10) (ft : M'.1 46 0 6 = C' 4 0 3) (h47 : M'.1 47 = M.1 47) (h48 : M'.1 48 = M.1 48) (h49 : M'.1 49 = M.1 49) (h2 : M'.2.2 = M.2.2) : z_Mo C' len' nm nr nb l' M' := by
  refine ⟨sm, tm, ?_, ?_, tx, h0, st, ft, by rw [h2]; exact h.sp, fun j hj => Im_b hc h21 h23 h24 h48 h49 (h.im j hj)⟩
  · rw [nw_eq h47 h2, cq_b hc (by decide)]
    exact h.cr
  · rw [nw_eq h47 h2, cq_b hc (by decide), h21, h23, h24]
    exact h.rf
theorem Ci_b (h : z_Ci C len nm nr nb l) (hc : ∀ k i, 6 ≤ k → k ≤ 20 → i ≠ 1 → C' k i = C k i) (h21 : C' 21 = C 21) (h31 : C' 31 = C 31) (ws : ∀ s, s < 8 → -1 ≤ C' 2 s 1 ∧ C' 2 s 1 ≤ 2 ∧ 0 ≤ C' 2 s 2 ∧ C' 2 s 2 ≤ 40) (ln : C' 4 0 2 = nI len') (tr : l'.length ≤ 16 ∧ C' 44 0 1 = nI l'.length ∧ ∀ j, j < l'.length → C' 45 0 j = l'.getD j 0) : z_Ci C' len' nm nr nb l' := by
  refine ⟨ws, ln, ?_, ?_, ?_, tr, fun j hj => ?_⟩
  · rw [hc 6 0 (by decide) (by decide) (by decide)]
    exact h.2.2.1
  · rw [h31]
    exact h.2.2.2.1
  · rw [h21]
    exact h.2.2.2.2.1
  · rw [hc 6 (j + 2) (by decide) (by decide) (by omega), h21]
    exact h.2.2.2.2.2.2 j hj
/-- a call that leaves a status, and nothing else that the relation looks at -/
theorem Rel_s {L J K : List Nat} {v : Int32} (hC : z_Ci M.1 len nm nr nb l) (hM : z_Mo M.1 len nm nr nb l M) (h1 : ∀ k, k ≠ 0 → k ∉ L → M1.1 k = M.1 k) (h1n : M1.2.2 = M.2.2) (hL : ∀ k ∈ L, ¬ z_vk k ∧ k < 46) (hv : M1.1 0 0 10 = v) (h2 : z_Fm J K M1 M2) (hJ : ∀ j ∈ J, ¬ (j = 5 ∨ j = 6 ∨ j = 29)) (hK : ∀ k ∈ K, 55 < k ∧ k < 63) (hv2 : M2.1 46 0 7 = v) : z_Rel M2 := by
  have a1 : ∀ k, (k < 46 ∨ (46 < k ∧ k ≤ 55) ∨ k = 63) → M2.1 k = M1.1 k := fun k hk => h2.2.1 k (by omega) (fun w => by
    have := hK k w
    omega)
  have a2 : ∀ k, 46 ≤ k → M1.1 k = M.1 k := fun k hk => h1 k (by omega) (fun w => by
    have := (hL k w).2
    omega)
  have a3 : ∀ j, (j = 5 ∨ j = 6 ∨ j = 29) → M2.1 46 0 j = M.1 46 0 j := fun j hj => by
    rw [h2.2.2 j (fun w => hJ j w hj), a2 46 (by omega)]
  refine Rel_gen hC hM (fun k w => ?_) ?_ (fun j hj => a3 j hj) (fun k hk => ?_) ?_
  · have : k < 46 ∧ k ≠ 0 := by
      unfold z_vk at w
      omega
    rw [a1 k (Or.inl this.1)]
    exact h1 k this.2 (fun q => (hL k q).1 w)
  · rw [hv2, a1 0 (by omega), hv]
  · rw [a1 k (by omega), a2 k (by omega)]
  · rw [h2.1, h1n]
theorem zs_k {k k' i j : Nat} {v : Int32} (h : k' ≠ k) : (z_s M k i j v).1 k' = M.1 k' := by
  funext a b
  exact if_neg (c := k' = k ∧ a = i ∧ b = j) (fun w => h w.1)
theorem zs_j {k i j i' j' : Nat} {v : Int32} (h : i' ≠ i ∨ j' ≠ j) : (z_s M k i j v).1 k i' j' = M.1 k i' j' := if_neg (c := k = k ∧ i' = i ∧ j' = j) (fun w => by omega)
theorem zs_v {k i j : Nat} {v : Int32} : (z_s M k i j v).1 k i j = v := if_pos (c := k = k ∧ i = i ∧ j = j) ⟨rfl, rfl, rfl⟩
theorem Fm_s7 {v : Int32} : z_Fm [7] [] M (z_s M 46 0 7 v) := z_Fm.refl.s46 (by decide)
theorem Rel_ss {v : Int32} (hC : z_Ci M.1 len nm nr nb l) (hM : z_Mo M.1 len nm nr nb l M) (e1 : M1 = z_s M 0 0 10 v) (e2 : M2 = z_s M1 46 0 7 v) : z_Rel M2 := by
  subst e1
  subst e2
  exact Rel_s (L := []) (J := [7]) (K := []) (v := v) hC hM (fun k hk _ => zs_k hk) rfl (by decide) zs_v Fm_s7 (by decide) (by decide) zs_v
theorem Mo_s {v : Int32} (hM : z_Mo C len nm nr nb l M) : z_Mo C len nm nr nb l (z_s M 0 0 10 v) := Mo_cl hM (fun k hk => zs_k (by omega)) rfl
end MB
theorem op_as {X : z_Cx} {M : z_M} (hR : z_Rel M) (ru mi kd : Int32) : z_Op X mX9_as mX10_as [zi ru, zi mi, zi kd] M := by
  obtain ⟨len, nm, nr, nb, l, hC, hM⟩ := hR
  have hW := Rel_Wc hC hM
  have h12 := hM.cr.1.1
  have h4 := hM.cr.1.2.1
  refine z_use (hX9_as M nm nr nb hW ru mi kd) (by decide) (fun v M1 q => ?_)
  have hM1 : z_Mo M.1 len nm nr nb l M1 := by
    rcases q with q | q | ⟨_, _, r, m, _, _, _, _, q | q⟩
    · rw [q.2.2]; exact hM
    · rw [q.2.2.2.2.2]; exact hM
    · rw [q.2.2]; exact Mo_s hM
    · rw [q.2.2]; exact Mo_s hM
  refine z_use (hX10_as M1 hM1.cr hM1.h0 hM1.rf ru mi kd) (by decide) (fun v' M2 q' => ?_)
  rcases q with ⟨a, b, c⟩ | ⟨a1, a2, a3, a4, b, c⟩ | ⟨a0, a3, r, m, a5, a6, a7, a8, q⟩ <;> rcases q' with ⟨a', b', c'⟩ | ⟨a1', a2', a3', a4', b', c'⟩ | ⟨a0', a3', r', m', a5', a6', a7', a8', q'⟩
  · exact ⟨b.trans b'.symm, Rel_0 hC hM (c'.trans c)⟩
  · exact absurd ⟨a1', a2', a3'⟩ a
  · exact absurd ⟨ru_in a5' (by omega) a6', ru_in a7' (by omega) a8', a3'⟩ a
  · exact absurd ⟨a1, a2, a3⟩ a'
  · exact ⟨b.trans b'.symm, Rel_0 hC hM (c'.trans c)⟩
  · exact absurd a4 a0'
  · exact absurd ⟨ru_in a5 (by omega) a6, ru_in a7 (by omega) a8, a3⟩ a'
  · exact absurd a4' a0
  · obtain rfl : r = r' := nI_inj (by omega) (by omega) (a6.symm.trans a6')
    obtain rfl : m = m' := nI_inj (by omega) (by omega) (a8.symm.trans a8')
    rcases q with ⟨s1, s2, s3⟩ | ⟨s1, s2, s3⟩ <;> rcases q' with ⟨s1', s2', s3'⟩ | ⟨s1', s2', s3'⟩
    · exact ⟨s2.trans s2'.symm, Rel_ss hC hM s3 s3'⟩
    · exact absurd s1 s1'
    · exact absurd s1' s1
    · exact ⟨s2.trans s2'.symm, Rel_ss hC hM s3 s3'⟩
theorem op_parts {X : z_Cx} {M : z_M} (hR : z_Rel M) (s i he wh : Int32) : z_Op X mX9_parts mX10_parts [zi s, zi i, zi he, zi wh] M := by
  obtain ⟨len, nm, nr, nb, l, hC, hM⟩ := hR
  refine z_use (hX9_parts M hC.1 s i he wh) (by decide) (fun v M1 q => ?_)
  have hM1 : z_Mo M.1 len nm nr nb l M1 := by
    rcases q with q | q | ⟨_, _, _, _, _, _, _, _, _, q | q⟩
    · rw [q.2.2]; exact hM
    · rw [q.2.2.2.2.2]; exact Mo_s hM
    · rw [q.2.2]; exact hM
    · rw [q.2.2]; exact Mo_s hM
  refine z_use (hX10_parts M1 hM1.sm s i he wh) (by decide) (fun v' M2 q' => ?_)
  rcases q with ⟨a, b, c⟩ | ⟨a1, a2, a3, a4, b, c⟩ | ⟨a1, a3, a4, x, h, a5, a6, a7, a8, q⟩ <;> rcases q' with ⟨a', b', c'⟩ | ⟨a1', a2', a3', a4', b', c'⟩ | ⟨a1', a3', a4', x', h', a5', a6', a7', a8', q'⟩
  · exact ⟨b.trans b'.symm, Rel_0 hC hM (c'.trans c)⟩
  · exact absurd ⟨a1', a2', a3'⟩ a
  · exact absurd ⟨a1', ⟨by rw [a8']; exact nI_pos' (by omega), by rw [a8']; exact nI_le (b := 3) (by omega) (by omega)⟩, a3'⟩ a
  · exact absurd ⟨a1, a2, a3⟩ a'
  · exact ⟨b.trans b'.symm, Rel_ss hC hM c c'⟩
  · exact absurd a4' a4
  · exact absurd ⟨a1, ⟨by rw [a8]; exact nI_pos' (by omega), by rw [a8]; exact nI_le (b := 3) (by omega) (by omega)⟩, a3⟩ a'
  · exact absurd a4 a4'
  · obtain rfl : x = x' := nI_inj (by omega) (by omega) (a5.symm.trans a5')
    obtain rfl : h = h' := nI_inj (by omega) (by omega) (a8.symm.trans a8')
    rcases q with ⟨s1, s2, s3⟩ | ⟨s1, s2, s3⟩ <;> rcases q' with ⟨s1', s2', s3'⟩ | ⟨s1', s2', s3'⟩
    · exact ⟨s2.trans s2'.symm, Rel_0 hC hM (s3'.trans s3)⟩
    · exact absurd (s1.symm.trans s1') (by decide)
    · exact absurd (s1'.symm.trans s1) (by decide)
    · exact ⟨s2.trans s2'.symm, Rel_ss hC hM s3 s3'⟩
theorem Mo_Fr2 {M M1 : z_M} {C : z_Cm} {len nm nr nb : Nat} {l : List Int32} (hM : z_Mo C len nm nr nb l M) (h1 : z_Fr z_kA0 M M1) : z_Mo C len nm nr nb l M1 := Mo_Fr hM h1 (by decide)
theorem cr_if {C : z_Cm} {len nm nr nb : Nat} {l : List Int32} (hC : z_Ci C len nm nr nb l) : (C 6 0 0 = 0 ↔ nm = 0) := by
  rw [hC.2.2.1.2.2.2]
  by_cases w : nm = 0
  · rw [if_pos w]
    exact ⟨fun _ => w, fun _ => rfl⟩
  · rw [if_neg w]
    exact ⟨fun q => absurd q (by decide), fun q => absurd q w⟩
theorem op_line {X : z_Cx} {M : z_M} (hR : z_Rel M) (ru s i : Int32) : z_Op X mX9_line mX10_line [zi ru, zi s, zi i] M := by
  obtain ⟨len, nm, nr, nb, l, hC, hM⟩ := hR
  have hW := Rel_Wc hC hM
  have h12 := hM.cr.1.1
  have h4 := hM.cr.1.2.1
  have h6 := cr_if hC
  refine z_use (hX9_line M nm nr nb hW hC.1 ru s i) (by decide) (fun v M1 q => ?_)
  have hM1 : z_Mo M.1 len nm nr nb l M1 := by
    rcases q with q | q | q | ⟨_, _, _, _, _, _, _, _, _, _, q⟩
    · rw [q.2.2]; exact hM
    · rw [q.2.2.2]; exact hM
    · rw [q.2.2.2.2.2]; exact Mo_s hM
    · exact Mo_Fr2 hM q.1
  refine z_use (hX10_line M1 hM1.cr hM1.h0 hM1.sm ru s i) (by decide) (fun v' M2 q' => ?_)
  rcases q with ⟨a, b, c⟩ | ⟨a, a0, b, c⟩ | ⟨a, a1, a2, a3, b, c⟩ | ⟨a, a1, a3, r, x, a5, a6, a7, a8, b, c, d⟩ <;> rcases q' with ⟨a', b', c'⟩ | ⟨a', a0', b', c'⟩ | ⟨a', a1', a2', a3', b', c'⟩ | ⟨a', a1', a3', r', x', a5', a6', a7', a8', b', c'⟩
  · exact ⟨b.trans b'.symm, Rel_0 hC hM (c'.trans c)⟩
  · exact absurd (h6.1 a) a'
  · exact absurd (h6.1 a) a'
  · exact absurd (h6.1 a) a'
  · exact absurd (h6.2 a') a
  · exact ⟨b.trans b'.symm, Rel_0 hC hM (c'.trans c)⟩
  · exact absurd ⟨a1', a2'⟩ a0
  · exact absurd ⟨a1', ru_in a5' (by omega) a6'⟩ a0
  · exact absurd (h6.2 a') a
  · exact absurd ⟨a1, a2⟩ a0'
  · exact ⟨b.trans b'.symm, Rel_ss hC hM c c'⟩
  · exact absurd a3' a3
  · exact absurd (h6.2 a') a
  · exact absurd ⟨a1, ru_in a5 (by omega) a6⟩ a0'
  · exact absurd a3 a3'
  · obtain rfl : r = r' := nI_inj (by omega) (by omega) (a6.symm.trans a6')
    obtain rfl : x = x' := nI_inj (by omega) (by omega) (a7.symm.trans a7')
    refine ⟨b.trans b'.symm, ?_⟩
    rw [c']
    exact Rel_s (L := z_kA0) (J := [7]) (K := []) (v := 0) hC hM (fun k _ hk => c.2 k hk) (by rw [c.1]) (by decide) d Fm_s7 (by decide) (by decide) zs_v
theorem op_hour {X : z_Cx} {M : z_M} (hR : z_Rel M) (ru s i n wh : Int32) : z_Op X mX9_hour mX10_hour [zi ru, zi s, zi i, zi n, zi wh] M := by
  obtain ⟨len, nm, nr, nb, l, hC, hM⟩ := hR
  have hW := Rel_Wc hC hM
  have h12 := hM.cr.1.1
  have h4 := hM.cr.1.2.1
  refine z_use (hX9_hour M nm nr nb hW hC.1 ru s i n wh) (by decide) (fun v M1 q => ?_)
  have hM1 : z_Mo M.1 len nm nr nb l M1 := by
    rcases q with q | q | ⟨_, _, _, _, _, _, _, _, _, _, _, _, _, q | q⟩
    · rw [q.2.2]; exact hM
    · rw [q.2.2.2.2.2.2]; exact Mo_s hM
    · rw [q.2.2]; exact hM
    · exact Mo_Fr2 hM q.2.2.1
  refine z_use (hX10_hour M1 hM1.cr hM1.sm ru s i n wh) (by decide) (fun v' M2 q' => ?_)
  rcases q with ⟨a, b, c⟩ | ⟨a1, a2, a3, a4, a5, b, c⟩ | ⟨a2, a4, a5, r, x, c, e1, e2, e3, e4, e5, e6, e7, q⟩ <;> rcases q' with ⟨a', b', c'⟩ | ⟨a1', a2', a3', a4', a5', b', c'⟩ | ⟨a2', a4', a5', r', x', c', e1', e2', e3', e4', e5', e6', e7', q'⟩
  · exact ⟨b.trans b'.symm, Rel_0 hC hM (c'.trans c)⟩
  · exact absurd ⟨a1', a2', a3', a4'⟩ a
  · exact absurd ⟨ru_in e1' (by omega) e2', a2', ⟨by rw [e6']; exact nI_le (a := 1) e4' (by omega), by rw [e6']; exact nI_le (b := 24) e5' (by omega)⟩, a4'⟩ a
  · exact absurd ⟨a1, a2, a3, a4⟩ a'
  · exact ⟨b.trans b'.symm, Rel_ss hC hM c c'⟩
  · exact absurd a5' a5
  · exact absurd ⟨ru_in e1 (by omega) e2, a2, ⟨by rw [e6]; exact nI_le (a := 1) e4 (by omega), by rw [e6]; exact nI_le (b := 24) e5 (by omega)⟩, a4⟩ a'
  · exact absurd a5 a5'
  · obtain rfl : r = r' := nI_inj (by omega) (by omega) (e2.symm.trans e2')
    obtain rfl : x = x' := nI_inj (by omega) (by omega) (e3.symm.trans e3')
    obtain rfl : c = c' := nI_inj (by omega) (by omega) (e6.symm.trans e6')
    rcases q with ⟨s1, s2, s3⟩ | ⟨s1, s2, s3, s4⟩ <;> rcases q' with ⟨s1', s2', s3'⟩ | ⟨s1', s2', s3', s4', s5'⟩
    · exact ⟨s2.trans s2'.symm, Rel_0 hC hM (s3'.trans s3)⟩
    · exact absurd (s1.symm.trans s1') (by decide)
    · exact absurd (s1'.symm.trans s1) (by decide)
    · refine ⟨s2.trans s2'.symm, ?_⟩
      have f2 : ∀ k, k ≠ 46 → k ≠ 55 → k ≠ 61 → M2.1 k = M1.1 k := fun k x1 x2 x3 => s3'.2.1 k x1 (by simp only [List.mem_cons, List.mem_nil_iff, or_false]; omega)
      have f1 : ∀ k, (2 ≤ k ∧ k ≤ 24) ∨ k = 31 ∨ k = 44 ∨ k = 45 → M2.1 k = M.1 k := fun k hk => by
        rw [f2 k (by omega) (by omega) (by omega)]
        refine s3.2 k ?_
        unfold z_kA0
        simp only [List.mem_cons, List.mem_nil_iff, or_false]
        omega
      have g2 : ∀ k, 46 < k → k ≠ 55 → k ≠ 61 → M2.1 k = M1.1 k := fun k x1 x2 x3 => f2 k (by omega) x2 x3
      have m1 := hM1
      refine ⟨len, nm, nr, nb, l, Ci_b hC (fun k i h1 h2 _ => by rw [f1 k (by omega)]) (f1 21 (by decide)) (f1 31 (by decide)) (by rw [f1 2 (by decide)]; exact hC.1) (by rw [f1 4 (by decide)]; exact hC.2.1) (by rw [f1 44 (by decide), f1 45 (by decide)]; exact hC.2.2.2.2.2.1), ?_⟩
      refine Mo_b m1 (fun k i h1 h2 _ => by rw [f1 k (by omega)]) (f1 21 (by decide)) (f1 23 (by decide)) (f1 24 (by decide)) ?_ ?_ ?_ s5' ?_ ?_ (g2 47 (by decide) (by decide) (by decide)) (g2 48 (by decide) (by decide) (by decide)) (g2 49 (by decide) (by decide) (by decide)) (by rw [s3'.1])
      · rw [f1 2 (by decide), f1 3 (by decide)]
        exact m1.sm.fr s3' (by decide) (by decide) (by decide) (by decide)
      · rw [f1 5 (by decide)]
        exact ⟨m1.tm.1, (s3'.2.2 5 (by decide)).trans m1.tm.2.1, fun y hy => by rw [g2 50 (by decide) (by decide) (by decide)]; exact m1.tm.2.2 y hy⟩
      · exact ⟨m1.tx.1, (s3'.2.2 29 (by decide)).trans m1.tx.2.1, fun y hy => by rw [g2 63 (by decide) (by decide) (by decide)]; exact m1.tx.2.2 y hy⟩
      · rw [s4', f2 0 (by decide) (by decide) (by decide), s4]
      · rw [s3'.2.2 6 (by decide), f1 4 (by decide)]
        exact m1.ft
