/-! ===== the class: hired ===== -/
/-- a run's end, weakened -/
theorem z_Run.post {X : z_Cx} {D : Nat} {q : z_MI} {R R' : Int32 → z_M → Prop} {pc : Nat} {ls : z_L} {st : List z_V} {M : z_M} (h : z_Run X D q R pc ls st M) (hR : ∀ v M', R v M' → R' v M') : z_Run X D q R' pc ls st M := by
  intro p e s m args below meth c Rm cells slots Q C0 H locs la I
  obtain ⟨c1, c2, c3, c4, c5, c6, c7, c8, c9, c10, c11⟩ := C0
  exact h p e s m args below meth c Rm cells slots Q ⟨c1, c2, c3, c4, c5, c6, c7, c8, c9, fun v M' H locs ls pc ty h1 h2 h3 => c10 v M' H locs ls pc ty h1 h2 (hR v M' h3), fun M' H locs ls pc h1 h2 => c11 M' H locs ls pc h1 (hR 0 M' h2)⟩ H locs la I
theorem z_cvF {L : List Nat} {M M' : z_M} {i : Nat} (h : z_Fr L M M') (hL : ∀ k, 7 ≤ k → k ≤ 20 → k ∉ L) : z_cv M' i = z_cv M i := z_cv_c (fun k h1 h2 => by rw [h.2 k (hL k h1 h2)])
theorem z_kA_cv : ∀ k, 7 ≤ k → k ≤ 20 → k ∉ z_kA := by
  intro k h1 h2 h3
  simp only [z_kA, List.mem_cons, List.not_mem_nil, or_false] at h3
  omega
theorem z_Wc.fr {M M' : z_M} {nm nr nb : Nat} (h : z_Wc M nm nr nb) (hF : z_Fr z_kA M M') : z_Wc M' nm nr nb := by
  have e6 : M'.1 6 = M.1 6 := hF.2 6 (by decide)
  have e31 : M'.1 31 = M.1 31 := hF.2 31 (by decide)
  have e11 : M'.1 11 = M.1 11 := hF.2 11 (by decide)
  have e18 : M'.1 18 = M.1 18 := hF.2 18 (by decide)
  have e19 : M'.1 19 = M.1 19 := hF.2 19 (by decide)
  unfold z_Wc
  rw [e6, e31, e11, e18, e19]
  exact h
def pu_hi (V : Nat → Nat → Int32) (nm nb r : Nat) (coin : Int32) : Nat → Int32 × Int32 × Int32
  | 0 => (1000000000, 0, 0)
  | t + 1 => if coin < pu_cost V (nI t) nb then pu_hi V nm nb r coin t else
    if pu_T V (nI t) nm nb r < (pu_hi V nm nb r coin t).1 ∨ (pu_T V (nI t) nm nb r = (pu_hi V nm nb r coin t).1 ∧ pu_cost V (nI t) nb < (pu_hi V nm nb r coin t).2.1) then (pu_T V (nI t) nm nb r, pu_cost V (nI t) nb, nI t) else pu_hi V nm nb r coin t
def pu_hired (V : Nat → Nat → Int32) (nm nb r : Nat) (coin what : Int32) : Int32 := if 1000000000 ≤ (pu_hi V nm nb r coin (2 ^ nb)).1 then -1000000 else if what = 0 then (pu_hi V nm nb r coin (2 ^ nb)).2.2 else if what = 1 then (pu_hi V nm nb r coin (2 ^ nb)).1 else (pu_hi V nm nb r coin (2 ^ nb)).2.1
theorem z_2p {nb : Nat} (h : nb ≤ 5) : 1 <<< (nI nb &&& 31) - 1 = nI (2 ^ nb) - 1 ∧ 1 ≤ 2 ^ nb ∧ 2 ^ nb ≤ 32 := by
  rcases (show nb = 0 ∨ nb = 1 ∨ nb = 2 ∨ nb = 3 ∨ nb = 4 ∨ nb = 5 by omega) with e | e | e | e | e | e <;> subst e <;> decide
theorem z_seI {nb t : Nat} (h : nb ≤ 5) (ht : t ≤ 32) : (0 ≤ nI t ∧ nI t ≤ 1 <<< (nI nb &&& 31) - 1) ↔ t < 2 ^ nb := by
  obtain ⟨e1, e2, e3⟩ := z_2p h
  rw [e1]
  obtain ⟨p, hp⟩ : ∃ p, 2 ^ nb = p + 1 := ⟨2 ^ nb - 1, by omega⟩
  rw [hp, nI_pred, nI_leI (by omega) (by omega)]
  constructor
  · intro w; omega
  · intro w; exact ⟨nI_pos' (by omega), by omega⟩
theorem lX9_hired {X : z_Cx} (M : z_M) (nm nr nb r : Nat) (hW : z_Wc M nm nr nb) (hr : r < nr) (coin what : Int32) (hwh : 0 ≤ what ∧ what ≤ 2) : ∀ (u t : Nat) (Mc : z_M), t + u = 2 ^ nb → z_Fr z_kA M Mc → z_Run X 4 mX9_hired (fun v M' => z_Fr z_kA M M' ∧ v = pu_hired (z_cv M 0) nm nb r coin what) 47 [(0, zr 0 0), (1, zi (nI r)), (2, zi coin), (3, zi what), (4, zi (pu_hi (z_cv M 0) nm nb r coin t).1), (5, zi (pu_hi (z_cv M 0) nm nb r coin t).2.1), (6, zi (pu_hi (z_cv M 0) nm nb r coin t).2.2), (7, zi (nI t))] [] Mc := by
  have hb5 : nb ≤ 5 := hW.2.2.2.2.2.1
  obtain ⟨p1, p2, p3⟩ := z_2p hb5
  intro u
  induction u with
  | zero =>
    intro t Mc ht hF
    obtain ⟨w1, w2, w3, w4, w5, w6, w7, w8, w9, w10, w11⟩ := hW.fr hF
    have et : t = 2 ^ nb := by omega
    subst et
    have fin : z_Run X 4 mX9_hired (fun v M' => z_Fr z_kA M M' ∧ v = pu_hired (z_cv M 0) nm nb r coin what) 148 [(0, zr 0 0), (1, zi (nI r)), (2, zi coin), (3, zi what), (4, zi (pu_hi (z_cv M 0) nm nb r coin (2 ^ nb)).1), (5, zi (pu_hi (z_cv M 0) nm nb r coin (2 ^ nb)).2.1), (6, zi (pu_hi (z_cv M 0) nm nb r coin (2 ^ nb)).2.2), (7, zi (nI (2 ^ nb)))] [] Mc := by
      refine z_go_run KX9_hired [] 80 ?_
      refine ⟨fun h => ?_, fun h => ?_⟩
      · refine ⟨fun h2 => ?_, fun h2 => ?_⟩
        · refine ⟨fun h3 => ?_, fun h3 => ?_⟩
          · exact ⟨hF, by unfold pu_hired; rw [if_neg (Int32.not_le.mpr h), if_neg h2, if_neg h3]⟩
          · exact ⟨hF, by unfold pu_hired; rw [if_neg (Int32.not_le.mpr h), if_neg h2, if_pos h3]⟩
        · exact ⟨hF, by unfold pu_hired; rw [if_neg (Int32.not_le.mpr h), if_pos h2]⟩
      · exact ⟨hF, by unfold pu_hired; rw [if_pos (Int32.not_lt.mp h)]⟩
    refine z_go_run KX9_hired [(47, [0, 1, 2, 3, 4, 5, 6, 7]), (148, [0, 1, 2, 3, 4, 5, 6, 7])] 80 ?_
    refine ⟨fun h => ?_, fun h => ?_⟩
    · exact fin
    · refine z_uR (hX2_hasRabbits Mc 0 (nI (2 ^ nb))) (by decide) ?_
      refine ⟨fun h2 => ?_, fun h2 => ?_⟩
      · exact fin
      · rw [w3] at h2
        have : ¬ (0 ≤ nI (2 ^ nb) ∧ nI (2 ^ nb) ≤ 1 <<< (nI nb &&& 31) - 1) := fun w => absurd ((z_seI hb5 p3).mp w) (Nat.lt_irrefl _)
        rw [if_neg this] at h2
        exact absurd rfl h2
  | succ u ih =>
    intro t Mc ht hF
    have hWc := hW.fr hF
    obtain ⟨w1, w2, w3, w4, w5, w6, w7, w8, w9, w10, w11⟩ := hWc
    have ecv : z_cv Mc 0 = z_cv M 0 := z_cvF hF z_kA_cv
    have same : ∀ Mc', z_Fr z_kA M Mc' → pu_hi (z_cv M 0) nm nb r coin (t + 1) = pu_hi (z_cv M 0) nm nb r coin t → z_Run X 4 mX9_hired (fun v M' => z_Fr z_kA M M' ∧ v = pu_hired (z_cv M 0) nm nb r coin what) 47 [(0, zr 0 0), (1, zi (nI r)), (2, zi coin), (3, zi what), (4, zi (pu_hi (z_cv M 0) nm nb r coin t).1), (5, zi (pu_hi (z_cv M 0) nm nb r coin t).2.1), (6, zi (pu_hi (z_cv M 0) nm nb r coin t).2.2), (7, zi (nI t + 1))] [] Mc' := by
      intro Mc' hF' e
      have h := ih (t + 1) Mc' (by omega) hF'
      rw [e, ← nI_1 t] at h
      exact h
    refine z_go_run KX9_hired [(47, [0, 1, 2, 3, 4, 5, 6, 7]), (148, [0, 1, 2, 3, 4, 5, 6, 7])] 80 ?_
    refine ⟨fun h => ?_, fun h => ?_⟩
    · exact absurd h (nI_ge (a := t) (b := 32) (by omega) (by omega))
    · refine z_uR (hX2_hasRabbits Mc 0 (nI t)) (by decide) ?_
      refine ⟨fun h2 => ?_, fun h2 => ?_⟩
      · rw [w3, if_pos ((z_seI hb5 (by omega)).mpr (by omega))] at h2
        exact absurd h2 (by decide)
      · refine z_uR (hX2_costOf Mc 0 nb (nI t) w6 w3) (by decide) ?_
        rw [ecv]
        refine ⟨fun h3 => ?_, fun h3 => ?_⟩
        · obtain ⟨n, hn, en⟩ := w9 r hr
          refine z_use (gX0_face Mc 0 r nm nb (nI t) (by omega) w4 w6 w3 w1) (by decide) (fun _ M1 hF1 => ?_)
          refine z_use (hX0_leastTime M1 n nm hn w4 hF1.2.1 (by rw [hF1.2.2.1]; exact en) (fun k hk => by rw [hF1.1.2 31 (by decide)]; exact w8 k hk)) (by decide) (fun v M2 hv => ?_)
          obtain ⟨hv1, hv2⟩ := hv
          obtain ⟨a1, a2, a3, a4⟩ := z_al hF1 en w8 hv2
          have hF2 : z_Fr z_kA M M2 := hF.trans a3
          have eT : v = pu_T (z_cv M 0) (nI t) nm nb r := by
            rw [hv1, G_cg hF1.2.2.2.2.2 nm (Nat.le_refl nm), hF1.2.2.1, ← ecv]
            unfold pu_T
            rw [show z_cv Mc 0 4 r = nI n from en, nI_clamp (n := n) (by omega), ← en]
            rfl
          rw [eT]
          have hc3 : ¬ coin < pu_cost (z_cv M 0) (nI t) nb := Int32.not_lt.mpr h3
          have bet : (pu_T (z_cv M 0) (nI t) nm nb r < (pu_hi (z_cv M 0) nm nb r coin t).1 ∨ (pu_T (z_cv M 0) (nI t) nm nb r = (pu_hi (z_cv M 0) nm nb r coin t).1 ∧ pu_cost (z_cv M 0) (nI t) nb < (pu_hi (z_cv M 0) nm nb r coin t).2.1)) → z_Run X 4 mX9_hired (fun v M' => z_Fr z_kA M M' ∧ v = pu_hired (z_cv M 0) nm nb r coin what) 47 [(0, zr 0 0), (1, zi (nI r)), (2, zi coin), (3, zi what), (4, zi (pu_T (z_cv M 0) (nI t) nm nb r)), (5, zi (pu_cost (z_cv M 0) (nI t) nb)), (6, zi (nI t)), (7, zi (nI t + 1))] [] M2 := by
            intro hb
            have h := ih (t + 1) M2 (by omega) hF2
            have e : pu_hi (z_cv M 0) nm nb r coin (t + 1) = (pu_T (z_cv M 0) (nI t) nm nb r, pu_cost (z_cv M 0) (nI t) nb, nI t) := by
              show (if coin < pu_cost (z_cv M 0) (nI t) nb then _ else if _ then _ else _) = _
              rw [if_neg hc3, if_pos hb]
            rw [e, ← nI_1 t] at h
            exact h
          have wor : ¬ (pu_T (z_cv M 0) (nI t) nm nb r < (pu_hi (z_cv M 0) nm nb r coin t).1 ∨ (pu_T (z_cv M 0) (nI t) nm nb r = (pu_hi (z_cv M 0) nm nb r coin t).1 ∧ pu_cost (z_cv M 0) (nI t) nb < (pu_hi (z_cv M 0) nm nb r coin t).2.1)) → pu_hi (z_cv M 0) nm nb r coin (t + 1) = pu_hi (z_cv M 0) nm nb r coin t := by
            intro hb
            show (if coin < pu_cost (z_cv M 0) (nI t) nb then _ else if _ then _ else _) = _
            rw [if_neg hc3, if_neg hb]
          refine ⟨fun h4 => ?_, fun h4 => ?_⟩
          · exact bet (Or.inl h4)
          · refine ⟨fun h5 => ?_, fun h5 => ?_⟩
            · exact same M2 hF2 (wor (fun w => w.elim h4 (fun w => h5 w.1)))
            · refine ⟨fun h6 => ?_, fun h6 => ?_⟩
              · exact same M2 hF2 (wor (fun w => w.elim h4 (fun w => absurd w.2 (Int32.not_lt.mpr h6))))
              · exact bet (Or.inr ⟨h5, Int32.not_le.mp h6⟩)
        · refine same Mc hF ?_
          show (if coin < pu_cost (z_cv M 0) (nI t) nb then _ else _) = _
          rw [if_pos (Int32.not_le.mp h3)]
theorem hX9_hired {X : z_Cx} (M : z_M) (nm nr nb : Nat) (hW : z_Wc M nm nr nb) (ru coin what : Int32) : z_Con X 4 mX9_hired [zr 0 0, zi ru, zi coin, zi what] M (fun v M' => z_Fr z_kA M M' ∧ ((¬ (pu_ru nr ru ∧ (0 ≤ coin ∧ coin ≤ 999) ∧ 0 ≤ what ∧ what ≤ 2) ∧ v = -1000001) ∨ (∃ r, r < nr ∧ ru = nI r ∧ (0 ≤ coin ∧ coin ≤ 999) ∧ 0 ≤ what ∧ what ≤ 2 ∧ v = pu_hired (z_cv M 0) nm nb r coin what))) := by
  refine z_mg KX9_hired [(47, [0, 1, 2, 3, 4, 5, 6, 7])] 80 (by decide +kernel) rfl ?_
  refine z_uR (hX2_hasRunner M 0 ru) (by decide) ?_
  refine ⟨fun h => ?_, fun h => ?_⟩ <;> rw [hW.2.1] at h
  · exact ⟨z_Fr.refl, Or.inl ⟨fun w => absurd w.1 (by unfold pu_ru; grind), rfl⟩⟩
  · have hru : pu_ru nr ru := by unfold pu_ru; grind
    obtain ⟨r, hr, er⟩ := ru_of (by have := hW.2.2.2.2.1; omega) hru
    refine z_uR (hX9_within coin 0 999 M) (by decide) ?_
    refine ⟨fun h2 => ?_, fun h2 => ?_⟩
    · exact ⟨z_Fr.refl, Or.inl ⟨fun w => absurd w.2.1 (by grind), rfl⟩⟩
    · refine z_uR (hX9_within what 0 2 M) (by decide) ?_
      refine ⟨fun h3 => ?_, fun h3 => ?_⟩
      · have hco : 0 ≤ coin ∧ coin ≤ 999 := by grind
        have hwh : 0 ≤ what ∧ what ≤ 2 := by grind
        subst er
        have hm : ∀ v M', (z_Fr z_kA M M' ∧ v = pu_hired (z_cv M 0) nm nb r coin what) → (z_Fr z_kA M M' ∧ ((¬ (pu_ru nr (nI r) ∧ (0 ≤ coin ∧ coin ≤ 999) ∧ 0 ≤ what ∧ what ≤ 2) ∧ v = -1000001) ∨ (∃ r', r' < nr ∧ nI r = nI r' ∧ (0 ≤ coin ∧ coin ≤ 999) ∧ 0 ≤ what ∧ what ≤ 2 ∧ v = pu_hired (z_cv M 0) nm nb r' coin what))) := fun v M' w => ⟨w.1, Or.inr ⟨r, hr, rfl, hco, hwh.1, hwh.2, w.2⟩⟩
        exact z_Run.post (lX9_hired M nm nr nb r hW hr coin what hwh (2 ^ nb) 0 M (by omega) z_Fr.refl) hm
      · exact ⟨z_Fr.refl, Or.inl ⟨fun w => absurd w.2.2 (by grind), rfl⟩⟩
