/-! ===== a race, side by side ===== -/
theorem op_race {X : z_Cx} {M : z_M} (hR : z_Rel M) (s i sd : Int32) : z_Op X mX9_race mX10_race [zi s, zi i, zi sd] M := by
  obtain ⟨len, nm, nr, nb, l, hC, hM⟩ := hR
  have h12 := hM.cr.1.1
  have h4 := hM.cr.1.2.1
  have h6 := cr_if hC
  have h1n : ¬ M.1 6 0 0 = 0 → 1 ≤ nr := fun w => hM.cr.1.2.2.2.2.2.2.1 (Nat.pos_of_ne_zero (fun q => w (h6.2 q)))
  refine z_use (hX9_race M (V := z_cq M.1 0) rfl h4 h12 hC.2.2.1.2.1 hC.2.2.1.1 (Rel_st hM) (Rel_ru hM) h1n hC.1 s i sd) (by decide) (fun v M1 q => ?_)
  have hM1 : z_Mo M.1 len nm nr nb l M1 := by
    rcases q with q | q | q | ⟨_, _, _, _, _, _, _, _, _, q | ⟨_, _, Ma, rc, e⟩⟩
    · rw [q.2.2]; exact hM
    · rw [q.2.2.2]; exact hM
    · rw [q.2.2.2.2]; exact Mo_s hM
    · rw [q.2.2]; exact hM
    · rw [e]
      exact Mo_s (Mo_cl hM (fun k hk => rc.1.2 k (by simp only [List.mem_cons, List.mem_nil_iff, or_false]; omega)) rc.1.1)
  refine z_use (hX10_race M1 hM1.cr hM1.h0 hM1.sm s i sd) (by decide) (fun v' M2 q' => ?_)
  rcases q with ⟨a, b, c⟩ | ⟨a, a1, b, c⟩ | ⟨a, a1, a2, b, c⟩ | ⟨a, a1, a2, x, seed, x1, x2, x3, x4, q⟩ <;> rcases q' with ⟨a', b', c'⟩ | ⟨a', a1', b', c'⟩ | ⟨a', a1', a2', b', c'⟩ | ⟨a', a1', a2', x', seed', x1', x2', x3', x4', q'⟩
  · exact ⟨b.trans b'.symm, Rel_0 hC hM (c'.trans c)⟩
  · exact absurd a' a
  · exact absurd a' a
  · exact absurd a' a
  · exact absurd a a'
  · exact ⟨b.trans b'.symm, Rel_0 hC hM (c'.trans c)⟩
  · exact absurd (h6.1 a1) a1'
  · exact absurd (h6.1 a1) a1'
  · exact absurd a a'
  · exact absurd (h6.2 a1') a1
  · exact ⟨b.trans b'.symm, Rel_ss hC hM c c'⟩
  · exact absurd a2' a2
  · exact absurd a a'
  · exact absurd (h6.2 a1') a1
  · exact absurd a2 a2'
  · obtain rfl : x = x' := nI_inj (by omega) (by omega) (x1.symm.trans x1')
    obtain rfl : seed = seed' := (nI_eq (by omega) (by omega)).1 (x3.symm.trans x3')
    rcases q with ⟨s1, s2, s3⟩ | ⟨s1, s2, Ma, rc, s3⟩ <;> rcases q' with ⟨s1', s2', s3'⟩ | ⟨s1', s2', rn⟩
    · exact ⟨s2.trans s2'.symm, Rel_0 hC hM (s3'.trans s3)⟩
    · exact absurd (s1.symm.trans s1') (by decide)
    · exact absurd (s1'.symm.trans s1) (by decide)
    · refine ⟨s2.trans s2'.symm, ?_⟩
      have hnr : 1 ≤ nr := h1n a1
      have hnm : 1 ≤ nm := Nat.pos_of_ne_zero a1'
      have hP : ∀ r, r < nr → 10 ≤ M.1 3 s.toNatClampNeg (x + r) ∧ M.1 3 s.toNatClampNeg (x + r) ≤ 40 := fun r hr => iw_at nr s1 r hr
      have hok := rs_ok (V := z_cq M.1 0) (nr := nr) (seed := seed) (P0 := fun r => M.1 3 s.toNatClampNeg (x + r)) (Rel_st hM) hP (by omega)
      generalize (fun r => M.1 3 s.toNatClampNeg (x + r)) = P0 at *
      obtain ⟨f1, r2, r3, r4, r5, r6, r7, r8⟩ := rc
      obtain ⟨f2, m7, mN, m190, mR⟩ := rn
      have k1 : ∀ k, k ≠ 0 → k ≠ 21 → k ≠ 23 → k ≠ 24 → k ≠ 27 → k ≠ 29 → M1.1 k = M.1 k := fun k g0 g1 g2 g3 g4 g5 => by
        rw [s3, zs_k g0, f1.2 k (by simp only [List.mem_cons, List.mem_nil_iff, or_false]; omega)]
      have k2 : ∀ k, (k < 46 ∨ (47 < k ∧ k < 56) ∨ 60 < k) → M2.1 k = M1.1 k := fun k g => f2.2.1 k (by omega) (by simp only [List.mem_cons, List.mem_nil_iff, or_false]; omega)
      have k12 : ∀ k, (k < 46 ∨ (47 < k ∧ k < 56) ∨ 60 < k) → k ≠ 0 → k ≠ 21 → k ≠ 23 → k ≠ 24 → k ≠ 27 → k ≠ 29 → M2.1 k = M.1 k := fun k g g0 g1 g2 g3 g4 g5 => (k2 k g).trans (k1 k g0 g1 g2 g3 g4 g5)
      have cq : ∀ i, z_cq M2.1 i = z_cq M.1 i := fun i => by
        funext f y
        unfold z_cq
        by_cases w : f < 14
        · rw [if_pos w, if_pos w, k12 (7 + f) (by omega) (by omega) (by omega) (by omega) (by omega) (by omega) (by omega)]
        · rw [if_neg w, if_neg w]
      have t21 : ∀ i, i ≠ 0 → M2.1 21 i = M.1 21 i := fun i hi => by
        rw [k2 21 (by decide), s3, zs_k (by decide), r8 i hi]
      have t24 : ∀ i, i ≠ 0 → M2.1 24 i = M.1 24 i := fun i hi => by
        rw [k2 24 (by decide), s3, zs_k (by decide), r7 i hi]
      have t23 : ∀ w, 7 ≤ w → M2.1 23 w = M.1 23 w := fun w hw => by
        rw [k2 23 (by decide), s3, zs_k (by decide), r6 w hw]
      have e21 : M2.1 21 0 3 = 1 := by rw [k2 21 (by decide), s3, zs_k (by decide), r3]
      have e24 : ∀ r, r < nr → M2.1 24 0 r = pu_rank (pu_rs (z_cq M.1 0) nr seed P0 nm).2.1 nr r := fun r hr => by rw [k2 24 (by decide), s3, zs_k (by decide), r4 r hr]
      have e23 : ∀ w, w < 7 → ∀ r, r < nr → ∀ m, m < nm → M2.1 23 w (12 * r + m) = pu_rcd (z_cq M.1 0) nr m (pu_rs (z_cq M.1 0) nr seed P0 m) r w := fun w hw r hr m hm => by rw [k2 23 (by decide), s3, zs_k (by decide), r5 w hw r hr m hm]
      have nw1 : z_nw M1 = z_nw M := by
        show M1.1 47 (M1.2.2 46 0).toNat = M.1 47 (M.2.2 46 0).toNat
        rw [k1 47 (by decide) (by decide) (by decide) (by decide) (by decide) (by decide), s3]
        show M.1 47 (Ma.2.2 46 0).toNat = _
        rw [f1.1]
      have n2 : M2.2.2 = M.2.2 := by
        rw [f2.1, s3]
        exact f1.1
      have c46 : ∀ j, j = 5 ∨ j = 6 ∨ j = 29 → M2.1 46 0 j = M.1 46 0 j := fun j hj => by
        rw [f2.2.2 j (by simp only [List.mem_cons, List.mem_nil_iff, or_false]; omega), k1 46 (by decide) (by decide) (by decide) (by decide) (by decide) (by decide)]
      have hcr : z_CR (z_cq M.1 0) nm nr nb (z_nw M2) := CR_c Va_rf (fun y hy => by rw [mN y hy, nw1]) hM.cr
      refine ⟨len, nm, nr, nb, l, ⟨?_, ?_, ?_, ?_, Or.inr e21, ?_, fun j hj => ?_⟩, ?_⟩
      · rw [k12 2 (by decide) (by decide) (by decide) (by decide) (by decide) (by decide) (by decide)]
        exact hC.1
      · rw [k12 4 (by decide) (by decide) (by decide) (by decide) (by decide) (by decide) (by decide)]
        exact hC.2.1
      · rw [k12 6 (by decide) (by decide) (by decide) (by decide) (by decide) (by decide) (by decide)]
        exact hC.2.2.1
      · rw [k12 31 (by decide) (by decide) (by decide) (by decide) (by decide) (by decide) (by decide)]
        exact hC.2.2.2.1
      · rw [k12 44 (by decide) (by decide) (by decide) (by decide) (by decide) (by decide) (by decide), k12 45 (by decide) (by decide) (by decide) (by decide) (by decide) (by decide) (by decide)]
        exact hC.2.2.2.2.2.1
      · rw [k12 6 (by decide) (by decide) (by decide) (by decide) (by decide) (by decide) (by decide), t21 (j + 1) (by omega)]
        exact hC.2.2.2.2.2.2 j hj
      · refine ⟨?_, ?_, ?_, ⟨?_, ?_, fun _ => ?_⟩, ?_, ?_, ?_, ?_, ?_, fun j hj => ?_⟩
        · rw [k12 2 (by decide) (by decide) (by decide) (by decide) (by decide) (by decide) (by decide), k12 3 (by decide) (by decide) (by decide) (by decide) (by decide) (by decide) (by decide)]
          exact hM1.sm.fr f2 (by decide) (by decide) (by decide) (by decide)
        · rw [k12 5 (by decide) (by decide) (by decide) (by decide) (by decide) (by decide) (by decide)]
          exact ⟨hM.tm.1, (c46 5 (by decide)).trans hM.tm.2.1, fun y hy => by rw [k12 50 (by decide) (by decide) (by decide) (by decide) (by decide) (by decide) (by decide)]; exact hM.tm.2.2 y hy⟩
        · rw [cq]
          exact hcr
        · rw [m190, e21]
        · exact Or.inr e21
        · rw [cq]
          refine ⟨fun r hr m hm => ⟨fun w hw => ?_, ?_, ?_⟩, fun r hr => ?_⟩
          · rw [mR r hr m hm w hw, e23 w (by omega) r hr m hm]
          · rw [e23 6 (by decide) r hr m hm, e23 1 (by decide) r hr m hm, e23 3 (by decide) r hr m hm]
            exact (rcd_hard hM.cr hr hm (hok m (by omega))).1
          · rw [e23 3 (by decide) r hr m hm]
            exact (rcd_hard hM.cr hr hm (hok m (by omega))).2
          · rw [e24 r hr]
            refine rank_c hr (fun o ho => ?_)
            rw [e23 5 (by decide) o ho (nm - 1) (by omega), rcd_5]
            have e9 : pu_rs (z_cq M.1 0) nr seed P0 nm = pu_nxt (z_cq M.1 0) nr (nm - 1) (pu_rs (z_cq M.1 0) nr seed P0 (nm - 1)) := by
              conv => lhs; rw [show nm = (nm - 1) + 1 by omega]
              rfl
            rw [e9]
        · exact ⟨hM.tx.1, (c46 29 (by decide)).trans hM.tx.2.1, fun y hy => by rw [k12 63 (by decide) (by decide) (by decide) (by decide) (by decide) (by decide) (by decide)]; exact hM.tx.2.2 y hy⟩
        · intro k hk3
          rw [k12 55 (by decide) (by decide) (by decide) (by decide) (by decide) (by decide) (by decide)]
          exact hM.h0 k hk3
        · rw [m7, k2 0 (by decide), s3, zs_v]
        · rw [c46 6 (by decide), k12 4 (by decide) (by decide) (by decide) (by decide) (by decide) (by decide) (by decide)]
          exact hM.ft
        · rw [n2]
          exact hM.sp
        · refine Im_c (C := M.1) (M := M) (fun k g1 g2 => ?_) ?_ (fun v hv => ?_) ?_ (fun y hy => ?_) ?_ (hM.im j hj)
          · rw [k12 k (by omega) (by omega) (by omega) (by omega) (by omega) (by omega) (by omega)]
          · rw [t21 (j + 1) (by omega)]
          · rw [t23 _ (by omega)]
          · rw [t24 (j + 1) (by omega)]
          · unfold z_kp
            rw [k12 48 (by decide) (by decide) (by decide) (by decide) (by decide) (by decide) (by decide)]
          · rw [k12 49 (by decide) (by decide) (by decide) (by decide) (by decide) (by decide) (by decide)]
