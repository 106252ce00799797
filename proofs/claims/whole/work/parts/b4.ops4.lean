/-! ===== what the relation needs of rows, where they agree as far as they reach ===== -/
def z_Va (V V' : Nat → Nat → Int32) : Prop := ∀ f, f < 14 → ∀ x, x < z_ln (7 + f) → V' f x = V f x
theorem CR_c {V V' : Nat → Nat → Int32} {nm nr nb : Nat} {N N' : Nat → Int32} (hV : z_Va V V') (hN : ∀ y, y < 190 → N' y = N y) (h : z_CR V nm nr nb N) : z_CR V' nm nr nb N' := by
  obtain ⟨⟨a1, a2, a3, a4, a5, a6, a7, a8⟩, hM, hR, hU, hB⟩ := h
  have v0 : ∀ x, x < 12 → V' 0 x = V 0 x := fun x h => hV 0 (by decide) x h
  have v1 : ∀ x, x < 12 → V' 1 x = V 1 x := fun x h => hV 1 (by decide) x h
  have v2 : ∀ x, x < 12 → V' 2 x = V 2 x := fun x h => hV 2 (by decide) x h
  have v3 : ∀ x, x < 4 → V' 3 x = V 3 x := fun x h => hV 3 (by decide) x h
  have v4 : ∀ x, x < 4 → V' 4 x = V 4 x := fun x h => hV 4 (by decide) x h
  have v5 : ∀ x, x < 4 → V' 5 x = V 5 x := fun x h => hV 5 (by decide) x h
  have v6 : ∀ x, x < 4 → V' 6 x = V 6 x := fun x h => hV 6 (by decide) x h
  have v7 : ∀ x, x < 24 → V' 7 x = V 7 x := fun x h => hV 7 (by decide) x h
  have v8 : ∀ x, x < 24 → V' 8 x = V 8 x := fun x h => hV 8 (by decide) x h
  have v9 : ∀ x, x < 24 → V' 9 x = V 9 x := fun x h => hV 9 (by decide) x h
  have v10 : ∀ x, x < 24 → V' 10 x = V 10 x := fun x h => hV 10 (by decide) x h
  have v11 : ∀ x, x < 5 → V' 11 x = V 11 x := fun x h => hV 11 (by decide) x h
  have v12 : ∀ x, x < 5 → V' 12 x = V 12 x := fun x h => hV 12 (by decide) x h
  have v13 : ∀ x, x < 5 → V' 13 x = V 13 x := fun x h => hV 13 (by decide) x h
  refine ⟨⟨a1, a2, a3, (hN 187 (by omega)).trans a4, (hN 188 (by omega)).trans a5, (hN 189 (by omega)).trans a6, a7, a8⟩, fun m h => ?_, fun r h => ?_, fun r h k hk g => ?_, fun b h => ?_⟩
  · rw [hN _ (by omega), hN (3 * m + 1) (by omega), hN (3 * m + 2) (by omega), v0 m (by omega), v1 m (by omega), v2 m (by omega)]
    exact hM m h
  · rw [hN (36 + 4 * r) (by omega), hN (36 + 4 * r + 1) (by omega), hN (36 + 4 * r + 2) (by omega), hN (36 + 4 * r + 3) (by omega), v3 r (by omega), v4 r (by omega), v5 r (by omega), v6 r (by omega)]
    exact hR r h
  · rw [v6 r (by omega)] at g
    rw [hN (52 + 30 * r + 5 * k) (by omega), hN (52 + 30 * r + 5 * k + 1) (by omega), hN (52 + 30 * r + 5 * k + 2) (by omega), hN (52 + 30 * r + 5 * k + 3) (by omega), hN (52 + 30 * r + 5 * k + 4) (by omega), v7 _ (by omega), v8 _ (by omega), v9 _ (by omega), v10 _ (by omega)]
    exact hU r h k hk g
  · rw [hN (172 + 3 * b) (by omega), hN (172 + 3 * b + 1) (by omega), hN (172 + 3 * b + 2) (by omega), v11 b (by omega), v12 b (by omega), v13 b (by omega)]
    exact hB b h
theorem need_c {V V' : Nat → Nat → Int32} {m : Nat} {p b : Int32} (hV : z_Va V V') (hm : m < 12) : pu_need V' 0 m p b = pu_need V 0 m p b := by
  unfold pu_need
  rw [hV 0 (by decide) m hm, hV 1 (by decide) m hm, hV 2 (by decide) m hm]
theorem sum_c {f g : Nat → Int32} : ∀ n, (∀ o, o < n → f o = g o) → pu_sum f n = pu_sum g n := by
  intro n
  induction n with
  | zero => intro _; rfl
  | succ n ih =>
    intro h
    unfold pu_sum
    rw [ih (fun o ho => h o (by omega)), h n (by omega)]
theorem rank_c {T T' : Nat → Int32} {n r : Nat} (hr : r < n) (h : ∀ o, o < n → T' o = T o) : pu_rank T' n r = pu_rank T n r := by
  unfold pu_rank
  refine sum_c n (fun o ho => ?_)
  rw [h o ho, h r hr]
theorem Rf_c {V V' : Nat → Nat → Int32} {nm nr : Nat} {fl fl' : Int32} {rows rows' : Nat → Nat → Int32} {pl pl' : Nat → Int32} {N N' : Nat → Int32} (hm : nm ≤ 12) (hn : nr ≤ 4) (h1 : nr = 0 ∨ 1 ≤ nm) (hV : z_Va V V') (hf : fl' = fl) (hr : ∀ w, w < 7 → ∀ x, x < 48 → rows' w x = rows w x) (hp : ∀ r, r < 4 → pl' r = pl r) (hN : ∀ y, y < 479 → N' y = N y) (h : z_Rf V nm nr fl rows pl N) : z_Rf V' nm nr fl' rows' pl' N' := by
  subst hf
  refine ⟨(hN 190 (by omega)).trans h.1, h.2.1, fun w0 => ?_⟩
  have q := h.2.2 w0
  refine ⟨fun r hr' m hm' => ⟨fun w hw => ?_, ?_, ?_⟩, fun r hr' => ?_⟩
  · rw [hN _ (by omega), hr w (by omega) _ (by omega)]
    exact (q.1 r hr' m hm').1 w hw
  · rw [hr 6 (by decide) _ (by omega), hr 1 (by decide) _ (by omega), hr 3 (by decide) _ (by omega), hV 3 (by decide) r (show r < 4 by omega), need_c hV (by omega)]
    exact (q.1 r hr' m hm').2.1
  · rw [hr 3 (by decide) _ (by omega)]
    exact (q.1 r hr' m hm').2.2
  · rw [hp r (by omega), q.2 r hr']
    exact (rank_c hr' (fun o ho => hr 5 (by decide) _ (by omega))).symm
theorem Va_rf {V : Nat → Nat → Int32} : z_Va V V := fun _ _ _ _ => rfl
theorem cr1 {V : Nat → Nat → Int32} {nm nr nb : Nat} {N : Nat → Int32} (h : z_CR V nm nr nb N) : nr = 0 ∨ 1 ≤ nm := by
  rcases Nat.eq_zero_or_pos nr with w | w
  · exact Or.inl w
  · exact Or.inr (h.1.2.2.2.2.2.2.2 w)
theorem Im_c {C C' : z_Cm} {M M' : z_M} {j : Nat} (hc : ∀ k, 6 ≤ k → k ≤ 20 → C' k (j + 2) = C k (j + 2)) (h21 : C' 21 (j + 1) 3 = C 21 (j + 1) 3) (h23 : ∀ w, w < 7 → C' 23 (w + 7 * (j + 1)) = C 23 (w + 7 * (j + 1))) (h24 : C' 24 (j + 1) = C 24 (j + 1)) (h48 : ∀ x, x < 479 → z_kp M' j x = z_kp M j x) (h49 : M'.1 49 0 j = M.1 49 0 j) (h : z_Im C j M) : z_Im C' j M' := by
  unfold z_Im at h ⊢
  have e : z_cq C' (j + 2) = z_cq C (j + 2) := by
    funext f x
    unfold z_cq
    by_cases w : f < 14
    · rw [if_pos w, if_pos w, hc (7 + f) (by omega) (by omega)]
    · rw [if_neg w, if_neg w]
  rw [h49, hc 6 (by decide) (by decide), e, h21, h24]
  refine ⟨h.1, fun w => ?_⟩
  obtain ⟨nm, nr, nb, q1, q2, q3, q4⟩ := h.2 w
  exact ⟨nm, nr, nb, q1, q2, CR_c Va_rf (fun y hy => h48 y (by omega)) q3, Rf_c q3.1.1 q3.1.2.1 (Or.inr q1) Va_rf rfl (fun v hv x _ => by rw [h23 v hv]) (fun _ _ => rfl) h48 q4⟩
/-! ===== image, restore ===== -/
theorem Mo_nw {C : z_Cm} {len nm nr nb : Nat} {l : List Int32} {M : z_M} (h : z_Mo C len nm nr nb l M) : (M.2.2 46 0).toNat ≠ (M.2.2 46 1).toNat := by
  rw [h.sp]
  cases M.2.2 46 0 <;> decide
theorem op_image {X : z_Cx} {M : z_M} (hR : z_Rel M) (k : Int32) : z_Op X mX9_image mX10_image [zi k] M := by
  obtain ⟨len, nm, nr, nb, l, hC, hM⟩ := hR
  have h12 := hM.cr.1.1
  have h4 := hM.cr.1.2.1
  have h6 := cr_if hC
  have hb : M.1 6 0 0 = 0 ∨ M.1 6 0 0 = 1 := by
    rw [hC.2.2.1.2.2.2]
    split
    · exact Or.inl rfl
    · exact Or.inr rfl
  refine z_use (hX9_image M k hb hC.2.2.2.2.1) (by decide) (fun v M1 q => ?_)
  have hM1 : z_Mo M.1 len nm nr nb l M1 := by
    rcases q with q | q | ⟨_, _, _, Ma, b1, b2⟩
    · rw [q.2.2]; exact hM
    · rw [q.2.2.2]; exact hM
    · exact Mo_cl hM (fun a ha => by
        funext i
        rw [b2.2.1 a i (by omega), b1.2.1 a i (by omega)]) (by rw [b2.1, b1.1])
  refine z_use (hX10_image M1 hM1.cr k) (by decide) (fun v' M2 q' => ?_)
  rcases q with ⟨a, b, c⟩ | ⟨a, a1, b, c⟩ | ⟨a, a1, b, Ma, b1, b2⟩ <;> rcases q' with ⟨a', b', c'⟩ | ⟨a', a1', b', c'⟩ | ⟨a', a1', b', f, g1, g2⟩
  · exact ⟨b.trans b'.symm, Rel_0 hC hM (c'.trans c)⟩
  · exact absurd a' a
  · exact absurd a' a
  · exact absurd a a'
  · exact ⟨b.trans b'.symm, Rel_0 hC hM (c'.trans c)⟩
  · exact absurd (h6.1 a1) a1'
  · exact absurd a a'
  · exact absurd (h6.2 a1') a1
  · refine ⟨b.trans b'.symm, ?_⟩
    obtain ⟨y, hy, _, e2⟩ := k_of a
    rw [e2] at b1 b2 g1 g2
    have k2 : ∀ k, k ≠ 46 → k ≠ 48 → k ≠ 49 → M2.1 k = M1.1 k := fun k h0 h1 h3 => f.2.1 k h0 (by simp only [List.mem_cons, List.mem_nil_iff, or_false]; omega)
    -- rows that stay
    have s0 : ∀ a i, ¬ (i = y + 2 ∧ 6 ≤ a ∧ a < 21) → ¬ (i = y + 1 ∧ (a = 21 ∨ a = 24)) → ¬ (a = 23 ∧ 7 * (y + 1) ≤ i ∧ i < 7 * (y + 1) + 7) → M1.1 a i = M.1 a i := fun a i w1 w2 w3 => by
      rw [b2.2.1 a i (by omega), b1.2.1 a i w1]
    have n1 : M1.2 = M.2 := b2.1.trans b1.1
    have cq0 : z_cq M2.1 0 = z_cq M.1 0 := by
      funext f x
      unfold z_cq
      by_cases w : f < 14
      · rw [if_pos w, if_pos w, k2 (7 + f) (by omega) (by omega) (by omega), s0 (7 + f) 0 (by omega) (by omega) (by omega)]
      · rw [if_neg w, if_neg w]
    have r0 : ∀ w, w < 7 → M2.1 23 w = M.1 23 w := fun w hw => by
      rw [k2 23 (by decide) (by decide) (by decide), s0 23 w (by omega) (by omega) (by omega)]
    have p0 : M2.1 24 0 = M.1 24 0 := by
      rw [k2 24 (by decide) (by decide) (by decide), s0 24 0 (by omega) (by omega) (by omega)]
    have t0 : ∀ i, i ≠ y + 1 → M2.1 21 i = M.1 21 i := fun i hi => by
      rw [k2 21 (by decide) (by decide) (by decide), s0 21 i (by omega) (by omega) (by omega)]
    have c6 : ∀ i, i ≠ y + 2 → M2.1 6 i = M.1 6 i := fun i hi => by
      rw [k2 6 (by decide) (by decide) (by decide), s0 6 i (by omega) (by omega) (by omega)]
    have hk : ∀ a, (a < 6 ∨ 24 < a) → a ≠ 46 → a ≠ 48 → a ≠ 49 → M2.1 a = M.1 a := fun a h1 h2 h3 h4 => by
      funext i
      rw [k2 a h2 h3 h4, s0 a i (by omega) (by omega) (by omega)]
    have k46 : ∀ j, M2.1 46 0 j = M.1 46 0 j := fun j => by
      rw [f.2.2 j (fun w => by cases w), s0 46 0 (by omega) (by omega) (by omega)]
    have nw2 : z_nw M2 = z_nw M := by
      show M2.1 47 (M2.2.2 46 0).toNat = M.1 47 (M.2.2 46 0).toNat
      rw [f.1, n1, hk 47 (by decide) (by decide) (by decide) (by decide)]
    have nw1 : z_nw M1 = z_nw M := by
      show M1.1 47 (M1.2.2 46 0).toNat = M.1 47 (M.2.2 46 0).toNat
      rw [n1, s0 47 _ (by omega) (by omega) (by omega)]
    -- the image's rows
    have i6 : ∀ j, j = 0 ∨ j = 1 ∨ j = 5 ∨ j = 14 → M2.1 6 (y + 2) j = M.1 6 0 j := fun j hj => by
      rw [k2 6 (by decide) (by decide) (by decide), b2.2.1 6 (y + 2) (by omega)]
      rcases hj with rfl | rfl | rfl | rfl
      · exact b1.2.2.2.1
      · exact b1.2.2.2.2.1
      · exact b1.2.2.2.2.2.1
      · exact b1.2.2.2.2.2.2
    have iV : z_Va (z_cq M.1 0) (z_cq M2.1 (y + 2)) := fun f hf x hx => by
      unfold z_cq
      rw [if_pos hf, if_pos hf, k2 (7 + f) (by omega) (by omega) (by omega), b2.2.1 (7 + f) (y + 2) (by omega)]
      exact b1.2.2.1 (7 + f) (by omega) (by omega) x hx
    have i21 : M2.1 21 (y + 1) 3 = M.1 21 0 3 := by
      rw [k2 21 (by decide) (by decide) (by decide), b2.2.2.2.2.2, b1.2.1 21 0 (by omega)]
    have i23 : ∀ w, w < 7 → ∀ x, x < 48 → M2.1 23 (w + 7 * (y + 1)) x = M.1 23 w x := fun w hw x hx => by
      rw [k2 23 (by decide) (by decide) (by decide), b2.2.2.1 w hw x hx, b1.2.1 23 _ (by omega)]
      rfl
    have i24 : ∀ r, r < 4 → M2.1 24 (y + 1) r = M.1 24 0 r := fun r hr => by
      rw [k2 24 (by decide) (by decide) (by decide), b2.2.2.2.1 r hr, b1.2.1 24 0 (by omega)]
    have hnm : ¬ nm = 0 := fun w => a1 (h6.2 w)
    refine ⟨len, nm, nr, nb, l, ⟨?_, ?_, ?_, ?_, ?_, ?_, fun j hj => ?_⟩, ?_⟩
    · rw [hk 2 (by decide) (by decide) (by decide) (by decide)]
      exact hC.1
    · rw [hk 4 (by decide) (by decide) (by decide) (by decide)]
      exact hC.2.1
    · rw [c6 0 (by omega)]
      exact hC.2.2.1
    · rw [hk 31 (by decide) (by decide) (by decide) (by decide)]
      exact hC.2.2.2.1
    · rw [t0 0 (by omega)]
      exact hC.2.2.2.2.1
    · rw [hk 44 (by decide) (by decide) (by decide) (by decide), hk 45 (by decide) (by decide) (by decide) (by decide)]
      exact hC.2.2.2.2.2.1
    · by_cases w : j = y
      · subst w
        rw [i6 0 (by decide), i21]
        exact ⟨hb, hC.2.2.2.2.1⟩
      · rw [c6 (j + 2) (by omega), t0 (j + 1) (by omega)]
        exact hC.2.2.2.2.2.2 j hj
    · refine ⟨?_, ?_, ?_, ?_, ?_, ?_, ?_, ?_, ?_, fun j hj => ?_⟩
      · rw [hk 2 (by decide) (by decide) (by decide) (by decide), hk 3 (by decide) (by decide) (by decide) (by decide)]
        exact hM1.sm.fr f (by decide) (by decide) (by decide) (by decide)
      · rw [hk 5 (by decide) (by decide) (by decide) (by decide)]
        exact ⟨hM.tm.1, (k46 5).trans hM.tm.2.1, fun x hx => by rw [hk 50 (by decide) (by decide) (by decide) (by decide)]; exact hM.tm.2.2 x hx⟩
      · rw [cq0, nw2]
        exact hM.cr
      · rw [cq0, nw2, t0 0 (by omega), p0]
        exact Rf_c h12 h4 (cr1 hM.cr) Va_rf rfl (fun w hw x _ => by rw [r0 w hw]) (fun _ _ => rfl) (fun _ _ => rfl) hM.rf
      · exact ⟨hM.tx.1, (k46 29).trans hM.tx.2.1, fun x hx => by rw [hk 63 (by decide) (by decide) (by decide) (by decide)]; exact hM.tx.2.2 x hx⟩
      · intro k hk3
        rw [hk 55 (by decide) (by decide) (by decide) (by decide)]
        exact hM.h0 k hk3
      · rw [k46 7, hk 0 (by decide) (by decide) (by decide) (by decide)]
        exact hM.st
      · rw [k46 6, hk 4 (by decide) (by decide) (by decide) (by decide)]
        exact hM.ft
      · rw [f.1, n1]
        exact hM.sp
      · by_cases w : j = y
        · subst w
          have ek : ∀ x, x < 479 → z_kp M2 j x = z_nw M x := fun x hx => by
            unfold z_kp
            rw [g1, if_pos (by omega), nw1, show 479 * j + x - 479 * j = x by omega]
          refine ⟨?_, fun _ => ⟨nm, nr, nb, by omega, ⟨(i6 1 (by decide)).trans hC.2.2.1.1, (i6 5 (by decide)).trans hC.2.2.1.2.1, (i6 14 (by decide)).trans hC.2.2.1.2.2.1⟩, CR_c iV (fun x hx => ek x (by omega)) hM.cr, Rf_c h12 h4 (cr1 hM.cr) iV i21 i23 i24 ek hM.rf⟩⟩
          rw [g2, if_pos rfl, i6 0 (by decide), hC.2.2.1.2.2.2, if_neg hnm]
        · refine Im_c (C := M.1) (M := M) (fun k h1 h2 => ?_) ?_ (fun v hv => ?_) ?_ (fun x hx => ?_) ?_ (hM.im j hj)
          · rw [k2 k (by omega) (by omega) (by omega), s0 k (j + 2) (by omega) (by omega) (by omega)]
          · rw [t0 (j + 1) (by omega)]
          · rw [k2 23 (by decide) (by decide) (by decide), s0 23 _ (by omega) (by omega) (by omega)]
          · rw [k2 24 (by decide) (by decide) (by decide), s0 24 _ (by omega) (by omega) (by omega)]
          · unfold z_kp
            rw [g1, if_neg (by omega), s0 48 0 (by omega) (by omega) (by omega)]
          · rw [g2, if_neg w, s0 49 0 (by omega) (by omega) (by omega)]
theorem op_restore {X : z_Cx} {M : z_M} (hR : z_Rel M) (k : Int32) : z_Op X mX9_restore mX10_restore [zi k] M := by
  obtain ⟨len, nm, nr, nb, l, hC, hM⟩ := hR
  have h12 := hM.cr.1.1
  have h4 := hM.cr.1.2.1
  refine z_use (hX9_restore M k (fun j hj => (hC.2.2.2.2.2.2 j hj).1) (fun j hj => (hC.2.2.2.2.2.2 j hj).2)) (by decide) (fun v M1 q => ?_)
  have hM1 : z_Mo M.1 len nm nr nb l M1 := by
    rcases q with q | q | ⟨_, _, _, Ma, b1, b2⟩
    · rw [q.2.2]; exact hM
    · rw [q.2.2.2]; exact hM
    · exact Mo_cl hM (fun a ha => by
        funext i
        rw [b2.2.1 a i (by omega), b1.2.1 a i (by omega)]) (by rw [b2.1, b1.1])
  refine z_use (hX10_restore M1 k) (by decide) (fun v' M2 q' => ?_)
  rcases q with ⟨a, b, c⟩ | ⟨a, a1, b, c⟩ | ⟨a, a1, b, Ma, b1, b2⟩ <;> rcases q' with ⟨a', b', c'⟩ | ⟨a', a1', b', c'⟩ | ⟨a', a1', b', f, g1⟩
  · exact ⟨b.trans b'.symm, Rel_0 hC hM (c'.trans c)⟩
  · exact absurd a' a
  · exact absurd a' a
  · exact absurd a a'
  · exact ⟨b.trans b'.symm, Rel_0 hC hM (c'.trans c)⟩
  · obtain ⟨y, hy, _, e2⟩ := k_of a
    rw [e2] at a1 a1'
    exact absurd ((hM1.im y hy).1.trans a1) a1'
  · exact absurd a a'
  · obtain ⟨y, hy, _, e2⟩ := k_of a
    rw [e2] at a1 a1'
    exact absurd ((hM1.im y hy).1.symm.trans a1') a1
  · refine ⟨b.trans b'.symm, ?_⟩
    obtain ⟨y, hy, _, e2⟩ := k_of a
    rw [e2] at a1 b1 b2 g1
    obtain ⟨nm', nr', nb', q1, q2, q3, q4⟩ := (hM.im y hy).2 a1
    have k2 : ∀ k, k ≠ 46 → k ≠ 47 → M2.1 k = M1.1 k := fun k h0 h1 => f.2.1 k h0 (by simp only [List.mem_cons, List.mem_nil_iff, or_false]; omega)
    have s0 : ∀ a i, ¬ (i = 0 ∧ 6 ≤ a ∧ a < 21) → ¬ (i = 0 ∧ (a = 21 ∨ a = 24)) → ¬ (a = 23 ∧ i < 7) → M1.1 a i = M.1 a i := fun a i w1 w2 w3 => by
      rw [b2.2.1 a i (by omega), b1.2.1 a i w1]
    have n1 : M1.2 = M.2 := b2.1.trans b1.1
    have hk : ∀ a, (a < 6 ∨ 24 < a) → a ≠ 46 → a ≠ 47 → M2.1 a = M.1 a := fun a h1 h2 h3 => by
      funext i
      rw [k2 a h2 h3, s0 a i (by omega) (by omega) (by omega)]
    have k46 : ∀ j, M2.1 46 0 j = M.1 46 0 j := fun j => by
      rw [f.2.2 j (fun w => by cases w), s0 46 0 (by omega) (by omega) (by omega)]
    have i6 : ∀ j, j = 0 ∨ j = 1 ∨ j = 5 ∨ j = 14 → M2.1 6 0 j = M.1 6 (y + 2) j := fun j hj => by
      rw [k2 6 (by decide) (by decide), b2.2.1 6 0 (by omega)]
      rcases hj with rfl | rfl | rfl | rfl
      · exact b1.2.2.2.1
      · exact b1.2.2.2.2.1
      · exact b1.2.2.2.2.2.1
      · exact b1.2.2.2.2.2.2
    have iV : z_Va (z_cq M.1 (y + 2)) (z_cq M2.1 0) := fun f hf x hx => by
      unfold z_cq
      rw [if_pos hf, if_pos hf, k2 (7 + f) (by omega) (by omega), b2.2.1 (7 + f) 0 (by omega)]
      exact b1.2.2.1 (7 + f) (by omega) (by omega) x hx
    have i21 : M2.1 21 0 3 = M.1 21 (y + 1) 3 := by
      rw [k2 21 (by decide) (by decide), b2.2.2.2.2.2, b1.2.1 21 _ (by omega)]
    have i23 : ∀ w, w < 7 → ∀ x, x < 48 → M2.1 23 w x = M.1 23 (w + 7 * (y + 1)) x := fun w hw x hx => by
      rw [k2 23 (by decide) (by decide), show M1.1 23 w x = M1.1 23 (w + 7 * 0) x from rfl, b2.2.2.1 w hw x hx, b1.2.1 23 _ (by omega)]
    have i24 : ∀ r, r < 4 → M2.1 24 0 r = M.1 24 (y + 1) r := fun r hr => by
      rw [k2 24 (by decide) (by decide), b2.2.2.2.1 r hr, b1.2.1 24 _ (by omega)]
    have ek : ∀ x, x < 479 → z_nw M2 x = z_kp M y x := fun x hx => by
      rw [g1 x hx, s0 48 0 (by omega) (by omega) (by omega)]
      rfl
    have c61 : M.1 6 (y + 2) 0 = 1 := (hC.2.2.2.2.2.2 y hy).1.resolve_left a1
    refine ⟨len, nm', nr', nb', l, ⟨?_, ?_, ⟨(i6 1 (by decide)).trans q2.1, (i6 5 (by decide)).trans q2.2.1, (i6 14 (by decide)).trans q2.2.2, ?_⟩, ?_, ?_, ?_, fun j hj => ?_⟩, ?_⟩
    · rw [hk 2 (by decide) (by decide) (by decide)]
      exact hC.1
    · rw [hk 4 (by decide) (by decide) (by decide)]
      exact hC.2.1
    · rw [i6 0 (by decide), c61, if_neg (by omega)]
    · rw [hk 31 (by decide) (by decide) (by decide)]
      exact hC.2.2.2.1
    · rw [i21]
      exact (hC.2.2.2.2.2.2 y hy).2
    · rw [hk 44 (by decide) (by decide) (by decide), hk 45 (by decide) (by decide) (by decide)]
      exact hC.2.2.2.2.2.1
    · rw [k2 6 (by decide) (by decide), k2 21 (by decide) (by decide), s0 6 _ (by omega) (by omega) (by omega), s0 21 _ (by omega) (by omega) (by omega)]
      exact hC.2.2.2.2.2.2 j hj
    · refine ⟨?_, ?_, CR_c iV (fun x hx => ek x (by omega)) q3, Rf_c q3.1.1 q3.1.2.1 (Or.inr q1) iV i21 i23 i24 ek q4, ?_, ?_, ?_, ?_, ?_, fun j hj => ?_⟩
      · rw [hk 2 (by decide) (by decide) (by decide), hk 3 (by decide) (by decide) (by decide)]
        exact hM1.sm.fr f (by decide) (by decide) (by decide) (by decide)
      · rw [hk 5 (by decide) (by decide) (by decide)]
        exact ⟨hM.tm.1, (k46 5).trans hM.tm.2.1, fun x hx => by rw [hk 50 (by decide) (by decide) (by decide)]; exact hM.tm.2.2 x hx⟩
      · exact ⟨hM.tx.1, (k46 29).trans hM.tx.2.1, fun x hx => by rw [hk 63 (by decide) (by decide) (by decide)]; exact hM.tx.2.2 x hx⟩
      · intro k hk3
        rw [hk 55 (by decide) (by decide) (by decide)]
        exact hM.h0 k hk3
      · rw [k46 7, hk 0 (by decide) (by decide) (by decide)]
        exact hM.st
      · rw [k46 6, hk 4 (by decide) (by decide) (by decide)]
        exact hM.ft
      · rw [f.1, n1]
        exact hM.sp
      · refine Im_c (C := M.1) (M := M) (fun k h1 h2 => ?_) ?_ (fun v hv => ?_) ?_ (fun x hx => ?_) ?_ (hM.im j hj)
        · rw [k2 k (by omega) (by omega), s0 k (j + 2) (by omega) (by omega) (by omega)]
        · rw [k2 21 (by decide) (by decide), s0 21 _ (by omega) (by omega) (by omega)]
        · rw [k2 23 (by decide) (by decide), s0 23 _ (by omega) (by omega) (by omega)]
        · rw [k2 24 (by decide) (by decide), s0 24 _ (by omega) (by omega) (by omega)]
        · unfold z_kp
          rw [hk 48 (by decide) (by decide) (by decide)]
        · rw [hk 49 (by decide) (by decide) (by decide)]
