/-! ===== course, side by side ===== -/
theorem op_course {X : z_Cx} {M : z_M} (hR : z_Rel M) : z_Op X mX9_course mX10_course [] M := by
  obtain ⟨len, nm, nr, nb, l, hC, hM⟩ := hR
  have hl6 := hM.tm.1
  refine z_use (hX9_course M len hC.2.1 hl6) (by decide) (fun v M1 q => ?_)
  have hM1 : z_Mo M.1 len nm nr nb l M1 := by
    rcases q with ⟨e, s, _, _, q⟩ | ⟨s, _, _, q⟩
    · exact Mo_cl hM (fun k hk => q.2.1 k (by omega) (by omega)) (by rw [q.1])
    · exact Mo_cl hM (fun k hk => q.2.1 k (by omega) (by omega) (by omega)) (by rw [q.1])
  refine z_use (hX10_course M1 (M.1 5 0) len hM1.tm (pu_V0 M) V0_6) (by decide) (fun v' M2 q' => ?_)
  rcases q with ⟨e, s, a, b, c⟩ | ⟨s, a, b, c⟩ <;> rcases q' with ⟨e', s', a', b', c'⟩ | ⟨s', a', b', c'⟩
  · have ee := Sum.inl.inj (a.symm.trans a')
    have e1 : e = e' := congrArg (fun x => x.1) ee
    have e2 : s = s' := congrArg (fun x => x.2) ee
    subst e1
    subst e2
    refine ⟨b.trans b'.symm, ?_⟩
    obtain ⟨c1, c2, c3, c4, c5⟩ := c
    obtain ⟨d1, d2, d3, d4, d5, d6⟩ := c'
    have k2 : ∀ k, k ≠ 46 → k ≠ 47 → k ≠ 4 → ¬ (6 ≤ k ∧ k ≤ 20) → M2.1 k = M.1 k := fun k h1 h2 h3 h4 => (d2 k h1 h2).trans (c2 k h3 h4)
    have hc : ∀ k i, 6 ≤ k → k ≤ 20 → i ≠ 1 → M2.1 k i = M.1 k i := fun k i h1 h2 h3 => by
      rw [d2 k (by omega) (by omega), c3 k i (by omega) h3]
    have h21 : M2.1 21 = M.1 21 := k2 21 (by decide) (by decide) (by decide) (by decide)
    have h23 : M2.1 23 = M.1 23 := k2 23 (by decide) (by decide) (by decide) (by decide)
    have h24 : M2.1 24 = M.1 24 := k2 24 (by decide) (by decide) (by decide) (by decide)
    have e4 : M2.1 4 = M1.1 4 := d2 4 (by decide) (by decide)
    have nw : z_nw M2 = z_nw M1 := by
      show M2.1 47 (M2.2.2 46 0).toNat = M1.1 47 (M1.2.2 46 0).toNat
      rw [d1]
      exact d3 _ (Mo_nw hM1)
    refine ⟨0, nm, nr, nb, l, Ci_b hC hc h21 (k2 31 (by decide) (by decide) (by decide) (by decide)) (by rw [k2 2 (by decide) (by decide) (by decide) (by decide)]; exact hC.1) (by rw [e4]; exact c4) (by rw [k2 44 (by decide) (by decide) (by decide) (by decide), k2 45 (by decide) (by decide) (by decide) (by decide)]; exact hC.2.2.2.2.2.1), ?_⟩
    refine ⟨?_, ⟨by omega, d5, fun x hx => absurd hx (by omega)⟩, ?_, ?_, ?_, ?_, ?_, ?_, ?_, fun j hj => ?_⟩
    · rw [k2 2 (by decide) (by decide) (by decide) (by decide), k2 3 (by decide) (by decide) (by decide) (by decide)]
      intro t ht
      rw [d2 51 (by decide) (by decide), d2 52 (by decide) (by decide), d2 53 (by decide) (by decide), d2 54 (by decide) (by decide)]
      exact hM1.sm t ht
    · rw [nw, cq_b hc (by decide)]
      exact hM1.cr
    · rw [nw, cq_b hc (by decide), h21, h23, h24]
      exact hM1.rf
    · exact ⟨hM1.tx.1, (d4 29 (by decide)).trans hM1.tx.2.1, fun x hx => by rw [d2 63 (by decide) (by decide)]; exact hM1.tx.2.2 x hx⟩
    · intro k hk3
      rw [d2 55 (by decide) (by decide)]
      exact hM1.h0 k hk3
    · rw [d4 7 (by decide), k2 0 (by decide) (by decide) (by decide) (by decide)]
      exact hM1.st
    · rw [d6, e4, c5]
    · rw [d1]
      exact hM1.sp
    · exact Im_b hc h21 h23 h24 (d2 48 (by decide) (by decide)) (d2 49 (by decide) (by decide)) (hM1.im j hj)
  · exact absurd (a.symm.trans a') Sum.inl_ne_inr
  · exact absurd (a'.symm.trans a) Sum.inl_ne_inr
  · obtain rfl : s = s' := Sum.inr.inj (a.symm.trans a')
    refine ⟨b.trans b'.symm, ?_⟩
    have hk := All_ok V0_6 s a
    obtain ⟨c1, c2, c3, c4, c5, c6, c7, c8, c9, c10, c11, c12⟩ := c
    obtain ⟨⟨d0, d1, d1'⟩, d2, d3, d4, d5, d6, d7⟩ := c'
    have k2 : ∀ k, k ≠ 46 → k ≠ 47 → k ≠ 4 → k ≠ 21 → ¬ (6 ≤ k ∧ k ≤ 20) → M2.1 k = M.1 k := fun k h1 h2 h3 h4 h5 => (d2 k h1 h2).trans (c2 k h3 h4 h5)
    have e4 : M2.1 4 = M1.1 4 := d2 4 (by decide) (by decide)
    have e6 : M2.1 6 = M1.1 6 := d2 6 (by decide) (by decide)
    have e21 : M2.1 21 = M1.1 21 := d2 21 (by decide) (by decide)
    have hV : z_Va s.V (z_cq M2.1 0) := fun f hf x hx => by
      unfold z_cq
      rw [if_pos hf, d2 (7 + f) (by omega) (by omega)]
      exact c12 f hf x hx
    have hcr : z_CR (z_cq M2.1 0) s.m s.r s.b (z_nw M2) := CR_c hV (fun _ _ => rfl) (CS_CR d7 hk.2.1 hk.2.2)
    refine ⟨0, s.m, s.r, s.b, l, ⟨?_, ?_, ⟨?_, ?_, ?_, ?_⟩, ?_, ?_, ?_, fun j hj => ?_⟩, ?_⟩
    · rw [k2 2 (by decide) (by decide) (by decide) (by decide) (by decide)]
      exact hC.1
    · rw [e4]
      exact c6
    · rw [e6]
      exact c9
    · rw [e6]
      exact c10
    · rw [e6]
      exact c11
    · rw [e6, c8, if_neg (by omega)]
    · rw [k2 31 (by decide) (by decide) (by decide) (by decide) (by decide)]
      exact hC.2.2.2.1
    · rw [e21]
      exact Or.inl c5
    · rw [k2 44 (by decide) (by decide) (by decide) (by decide) (by decide), k2 45 (by decide) (by decide) (by decide) (by decide) (by decide)]
      exact hC.2.2.2.2.2.1
    · rw [e6, e21, c3 6 (j + 2) (by decide) (by omega) (by omega), c4 (j + 1) 3 (by omega)]
      exact hC.2.2.2.2.2.2 j hj
    · refine ⟨?_, ⟨by omega, d5, fun x hx => absurd hx (by omega)⟩, hcr, ⟨?_, ?_, fun w => ?_⟩, ?_, ?_, ?_, ?_, ?_, fun j hj => ?_⟩
      · rw [k2 2 (by decide) (by decide) (by decide) (by decide) (by decide), k2 3 (by decide) (by decide) (by decide) (by decide) (by decide)]
        intro t ht
        rw [d2 51 (by decide) (by decide), d2 52 (by decide) (by decide), d2 53 (by decide) (by decide), d2 54 (by decide) (by decide)]
        exact hM1.sm t ht
      · rw [e21, c5]
        exact d7.1.2.2.2.2.2.2
      · rw [e21]
        exact Or.inl c5
      · rw [e21] at w
        exact absurd c5 w
      · exact ⟨hM1.tx.1, (d4 29 (by decide)).trans hM1.tx.2.1, fun x hx => by rw [d2 63 (by decide) (by decide)]; exact hM1.tx.2.2 x hx⟩
      · intro k hk3
        rw [d2 55 (by decide) (by decide)]
        exact hM1.h0 k hk3
      · rw [d4 7 (by decide), k2 0 (by decide) (by decide) (by decide) (by decide) (by decide)]
        exact hM1.st
      · rw [d6, e4, c7]
        exact hM1.ft
      · rw [d1, d1', hM1.sp, Bool.not_not]
      · refine Im_c (C := M.1) (M := M1) (fun k h1 h2 => ?_) ?_ (fun v hv => ?_) ?_ (fun x hx => ?_) ?_ (hM1.im j hj)
        · rw [d2 k (by omega) (by omega), c3 k (j + 2) (by omega) (by omega) (by omega)]
        · rw [e21, c4 (j + 1) 3 (by omega)]
        · rw [k2 23 (by decide) (by decide) (by decide) (by decide) (by decide)]
        · rw [k2 24 (by decide) (by decide) (by decide) (by decide) (by decide)]
        · unfold z_kp
          rw [d2 48 (by decide) (by decide)]
        · rw [d2 49 (by decide) (by decide)]
/-! ===== a race, side by side ===== -/
/-- small numbers: where he is spent out behind someone, he would have been hard-pressed alone too -/
theorem hard_z {n1 w line fill l : Int32} (h1 : 5 ≤ n1 ∧ n1 ≤ 49) (h2 : 0 ≤ w ∧ w ≤ 4) (h3 : 10 ≤ line ∧ line ≤ 30) (h4 : 1 ≤ fill ∧ fill ≤ 9) (h5 : 0 ≤ l ∧ l ≤ 99) (h : ¬ 0 ≤ l + pu_chg n1 line fill) : line < n1 ∧ line < n1 + w := by
  unfold pu_chg at h
  grind
theorem half_z {x : Int32} (h : 0 ≤ x ∧ x ≤ 9) : 0 ≤ x / 2 ∧ x / 2 ≤ 4 := by
  obtain ⟨j, _, h2, rfl⟩ := nI_rng (a := 0) (b := 9) (by omega) (by omega) h.1 h.2
  rw [show nI j / 2 = nI (j / 2) from pk_div (d := 2) (by omega) (by omega) (by omega)]
  exact ⟨nI_pos' (by omega), nI_le (b := 4) (by omega) (by omega)⟩
theorem gl_z {V : Nat → Nat → Int32} {r m : Nat} {p b l : Int32} (hs : 1 ≤ V 4 r) (h : pu_gl V r m p b l < 0) : ¬ 0 ≤ l + pu_chg (pu_need V 0 m p b) (V 3 r) (V 5 r) := by
  intro w
  unfold pu_gl at h
  rw [if_pos w] at h
  generalize l + pu_chg (pu_need V 0 m p b) (V 3 r) (V 5 r) = y at *
  generalize V 4 r = st at *
  grind
theorem rcd_1 {V : Nat → Nat → Int32} {nr m : Nat} {σ : z_S4} {r : Nat} : pu_rcd V nr m σ r 1 = pu_P2 V nr m σ r := by
  unfold pu_rcd
  rw [if_neg (by decide), if_pos rfl]
theorem rcd_3 {V : Nat → Nat → Int32} {nr m : Nat} {σ : z_S4} {r : Nat} : pu_rcd V nr m σ r 3 = if pu_bb V nr m σ r = 1 ∧ ¬ pu_gl V r m (pu_P2 V nr m σ r) (pu_bb V nr m σ r) (σ.1 r) < 0 then 1 else 0 := by
  unfold pu_rcd
  rw [if_neg (by decide), if_neg (by decide), if_neg (by decide), if_pos rfl]
theorem rcd_5 {V : Nat → Nat → Int32} {nr m : Nat} {σ : z_S4} {r : Nat} : pu_rcd V nr m σ r 5 = (pu_nxt V nr m σ).2.1 r := by
  rw [nxt_2]
  unfold pu_rcd
  rw [if_neg (by decide), if_neg (by decide), if_neg (by decide), if_neg (by decide), if_neg (by decide), if_pos rfl]
theorem rcd_6 {V : Nat → Nat → Int32} {nr m : Nat} {σ : z_S4} {r : Nat} : pu_rcd V nr m σ r 6 = if V 3 r < pu_need V 0 m (pu_P2 V nr m σ r) (pu_bb V nr m σ r) then 1 else 0 := by
  unfold pu_rcd
  rw [if_neg (by decide), if_neg (by decide), if_neg (by decide), if_neg (by decide), if_neg (by decide), if_neg (by decide)]
theorem rcd_hard {V : Nat → Nat → Int32} {nm nr nb m r : Nat} {N : Nat → Int32} {σ : z_S4} (hN : z_CR V nm nr nb N) (hr : r < nr) (hm : m < nm) (ho : pu_ok V nr m σ) : pu_rcd V nr m σ r 6 = (if V 3 r < pu_need V 0 m (pu_rcd V nr m σ r 1) (pu_rcd V nr m σ r 3) then 1 else 0) ∧ (pu_rcd V nr m σ r 3 = 0 ∨ pu_rcd V nr m σ r 3 = 1) := by
  rw [rcd_6, rcd_1, rcd_3]
  have hp := pf_bd (V := V) (nr := nr) (m := m) (L := σ.1) (T := σ.2.1) (P := σ.2.2.1) (x := σ.2.2.2) (r := r)
  have hb := b2_01 (pu_S1 σ.2.1 (pu_P2 V nr m σ) r nr)
  have hl := (ho.1 r hr).1
  obtain ⟨n, n1, n2, n3⟩ := (hN.2.2.1 r hr).2.2.2.2.2.1
  have hs : 1 ≤ V 4 r := by
    rw [n3]
    exact nI_le (a := 1) n1 (by omega)
  have hl9 : σ.1 r ≤ 99 := Int32.le_trans hl.2 (by rw [n3]; exact nI_le (b := 99) n2 (by omega))
  have hline := (hN.2.2.1 r hr).2.2.2.2.1
  have hfill := (hN.2.2.1 r hr).2.2.2.2.2.2.1
  have hmi := (hN.2.1 m hm).2.2.2
  refine ⟨?_, ?_⟩
  · change (if V 3 r < pu_need V 0 m (pu_P2 V nr m σ r) (pu_b2 (pu_S1 σ.2.1 (pu_P2 V nr m σ) r nr)) then (1 : Int32) else 0) = if V 3 r < pu_need V 0 m (pu_P2 V nr m σ r) (if pu_b2 (pu_S1 σ.2.1 (pu_P2 V nr m σ) r nr) = 1 ∧ ¬ pu_gl V r m (pu_P2 V nr m σ r) (pu_b2 (pu_S1 σ.2.1 (pu_P2 V nr m σ) r nr)) (σ.1 r) < 0 then 1 else 0) then 1 else 0
    have hp2 : 10 ≤ pu_P2 V nr m σ r ∧ pu_P2 V nr m σ r ≤ 40 := hp
    generalize pu_b2 (pu_S1 σ.2.1 (pu_P2 V nr m σ) r nr) = bb at *
    generalize pu_P2 V nr m σ r = p at *
    rcases hb with e | e
    · subst e
      rw [if_neg (show ¬ ((0 : Int32) = 1 ∧ ¬ pu_gl V r m p 0 (σ.1 r) < 0) from fun w => absurd w.1 (by decide))]
    · subst e
      by_cases g : pu_gl V r m p 1 (σ.1 r) < 0
      · rw [if_neg (show ¬ ((1 : Int32) = 1 ∧ ¬ pu_gl V r m p 1 (σ.1 r) < 0) from fun w => w.2 g)]
        have h1 := gl_z hs g
        have a1 := half_z (x := V 1 m + 0) (by rw [Int32.add_zero]; exact hmi.2.1)
        have a2 := half_z (x := V 2 m) hmi.2.2
        unfold pu_need at h1 ⊢
        rw [if_neg (show ¬ (1 : Int32) = 0 by decide)] at h1 ⊢
        rw [if_pos (rfl : (0 : Int32) = 0)]
        have hn1 : 5 ≤ p + V 0 m + (V 1 m + 0) / 2 + 0 ∧ p + V 0 m + (V 1 m + 0) / 2 + 0 ≤ 49 := by
          have b1 := hmi.1
          generalize (V 1 m + 0) / 2 = h at *
          generalize V 0 m = hl at *
          constructor <;> grind
        have h2 := hard_z (w := V 2 m / 2) hn1 a2 hline hfill ⟨hl.1, hl9⟩ h1
        rw [if_pos h2.1, if_pos (by rw [Int32.add_zero] at h2; exact h2.2)]
      · rw [if_pos (show (1 : Int32) = 1 ∧ ¬ pu_gl V r m p 1 (σ.1 r) < 0 from ⟨rfl, g⟩)]
  · split
    · exact Or.inr rfl
    · exact Or.inl rfl
