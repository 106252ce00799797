/-! ===== the model: hours ===== -/
theorem iw_at {f : Nat → Int32} {lo hi : Int32} {x : Nat} : ∀ n, pu_iw f lo hi x n = true → ∀ k, k < n → lo ≤ f (x + k) ∧ f (x + k) ≤ hi := by
  intro n
  induction n with
  | zero => intro _ k hk; omega
  | succ n ih =>
    intro h k hk
    have h2 : (pu_iw f lo hi x n && decide (lo ≤ f (x + n) ∧ f (x + n) ≤ hi)) = true := h
    rw [Bool.and_eq_true] at h2
    rcases (show k < n ∨ k = n by omega) with w | w
    · exact ih h2.1 k w
    · rw [w]; exact of_decide_eq_true h2.2
/-- what the model holds of the hours below t -/
def pu_bm (T : Nat → Int32) (t : Nat) (best time : Int32) : Prop := ((pu_bh T t).1 = 1000000000 ∧ best = -1000000 ∧ time = 100000000) ∨ (0 ≤ (pu_bh T t).1 ∧ (pu_bh T t).1 ≤ 14400 ∧ best = nI (pu_bh T t).2 ∧ time = (pu_bh T t).1)
theorem bh_lt {T : Nat → Int32} : ∀ t, (pu_bh T t).2 ≤ t := by
  intro t
  induction t with
  | zero => exact Nat.le_refl 0
  | succ t ih =>
    unfold pu_bh
    split
    · exact Nat.le_succ t
    · exact Nat.le_succ_of_le ih
theorem bm_end {T : Nat → Int32} {c : Nat} {best time what : Int32} (hc : c ≤ 24) (h : pu_bm T c best time) : (best = -1000000 → pu_hour T c what = best) ∧ (¬ best = -1000000 → pu_hour T c what = if what = 0 then best else time) := by
  rcases h with ⟨e1, e2, e3⟩ | ⟨e1, e2, e3, e4⟩
  · refine ⟨fun _ => ?_, fun w => absurd e2 w⟩
    unfold pu_hour
    rw [e1, if_pos (by decide), e2]
  · have hb := bh_lt (T := T) c
    have hn : ¬ best = -1000000 := by
      rw [e3]
      have := nI_pos' (n := (pu_bh T c).2) (by omega)
      grind
    refine ⟨fun w => absurd w hn, fun _ => ?_⟩
    unfold pu_hour
    rw [if_neg (by grind), e3, e4]
theorem lX10_hour4 {X : z_Cx} (M : z_M) (r1 r2 r3 r4 : Int32) (T : Nat → Int32) (c : Nat) (what best time : Int32) (hc : c ≤ 24) (hb : pu_bm T c best time) : ∀ (u t : Nat) (Mc : z_M), t + u = 3 → z_Fm [] [55, 61] M Mc → (∀ k, k < t → Mc.1 55 0 k = 0) → z_Run X 6 mX10_hour (fun v M' => v = pu_hour T c what ∧ z_Fm [7] [55, 61] M M' ∧ M'.1 46 0 7 = 0 ∧ z_H0 M') 219 [(0, zr 46 0), (1, zi r1), (2, zi r2), (3, zi r3), (4, zi r4), (5, zi what), (6, zi best), (7, zi time), (8, zi (nI t))] [] Mc := by
  have he := bm_end (what := what) hc hb
  intro u
  induction u with
  | zero =>
    intro t Mc ht hF h0
    have e : t = 3 := by omega
    subst e
    have fin : ∀ v, v = pu_hour T c what → v = pu_hour T c what ∧ z_Fm [7] [55, 61] M (z_s Mc 46 0 7 0) ∧ (z_s Mc 46 0 7 0).1 46 0 7 = 0 ∧ z_H0 (z_s Mc 46 0 7 0) := by
      intro v hv
      refine ⟨hv, (hF.mono (by decide) (by decide)).s46 (by decide), by rw [z_gs, if_pos ⟨rfl, rfl, rfl⟩], fun k hk => ?_⟩
      rw [z_gs, if_neg (by omega)]
      exact h0 k hk
    refine z_go_run KX10_hour [(219, [0, 1, 2, 3, 4, 5, 6, 7, 8])] 60 ?_
    refine ⟨fun h => ?_, fun h => absurd (by decide) h⟩
    refine ⟨fun h1 => ?_, fun h1 => ?_⟩
    · refine z_uW (hX10_through Mc best) (by decide) ?_
      exact fin _ (he.1 h1).symm
    · refine ⟨fun h2 => ?_, fun h2 => ?_⟩
      · refine z_uW (hX10_through Mc time) (by decide) ?_
        exact fin _ (by rw [he.2 h1, if_neg h2])
      · refine z_uW (hX10_through Mc best) (by decide) ?_
        exact fin _ (by rw [he.2 h1, if_pos h2])
  | succ u ih =>
    intro t Mc ht hF h0
    refine z_go_run KX10_hour [(219, [0, 1, 2, 3, 4, 5, 6, 7, 8])] 60 ?_
    refine ⟨fun h => absurd h (nI_ge (b := 3) (by omega) (by omega)), fun h => ?_⟩
    refine ⟨vp_in_nI (by omega) (by omega), ?_⟩
    have h3 := ih (t + 1) (z_s Mc 55 0 t 0) (by omega) (hF.s (by decide) (by decide)) (fun k hk => by
      rw [z_gs]
      by_cases e : k = t
      · rw [if_pos ⟨rfl, rfl, e⟩]
      · rw [if_neg (fun w => e w.2.2)]
        exact h0 k (by omega))
    show z_Run X 6 _ _ 219 _ [] _
    exact z_Run.eq h3 (by rw [nI_1]) (by rw [nI_clamp (by omega)])
theorem lX10_hour3 {X : z_Cx} (M : z_M) (r1 r4 what best time : Int32) {L S : Nat → Int32} {I : Nat → Nat → Int32} (s x h : Nat) (hs : s < 8) (hx : x + h + 2 < 40) {R : Int32 → z_M → Prop} (hk : ∀ Mc, z_Fm [] [55, 61] M Mc → z_Sm L S I Mc → (∀ k, k < 3 → Mc.1 55 0 k = I s (x + h + k)) → z_Run X 6 mX10_hour R 170 [(0, zr 46 0), (1, zi r1), (2, zi (nI s)), (3, zi (nI x)), (4, zi r4), (5, zi what), (6, zi best), (7, zi time), (8, zi (nI h))] [] Mc) : ∀ (u t : Nat) (Mc : z_M), t + u = 3 → z_Fm [] [55, 61] M Mc → z_Sm L S I Mc → (∀ k, k < t → Mc.1 55 0 k = I s (x + h + k)) → z_Run X 6 mX10_hour R 139 [(0, zr 46 0), (1, zi r1), (2, zi (nI s)), (3, zi (nI x)), (4, zi r4), (5, zi what), (6, zi best), (7, zi time), (8, zi (nI h)), (9, zi (nI t))] [] Mc := by
  intro u
  induction u with
  | zero =>
    intro t Mc ht hF hS h0
    have e : t = 3 := by omega
    subst e
    refine z_go_run KX10_hour [(139, [0, 1, 2, 3, 4, 5, 6, 7, 8, 9]), (170, [0, 1, 2, 3, 4, 5, 6, 7, 8])] 60 ?_
    exact ⟨fun _ => hk Mc hF hS h0, fun w => absurd (by decide) w⟩
  | succ u ih =>
    intro t Mc ht hF hS h0
    refine z_go_run KX10_hour [(139, [0, 1, 2, 3, 4, 5, 6, 7, 8, 9]), (170, [0, 1, 2, 3, 4, 5, 6, 7, 8])] 60 ?_
    refine ⟨fun w => absurd w (nI_ge (b := 3) (by omega) (by omega)), fun _ => ?_⟩
    have hc : z_Con X 0 mX10_item [zr 46 0, zi (nI s), zi (nI x + nI h + nI t)] Mc (fun r M' => M' = Mc ∧ r = I s (x + h + t)) := by
      rw [nI_add, nI_add]
      exact hX10_item Mc hS s (x + h + t) hs (by omega)
    refine z_uR hc (by decide) ?_
    refine ⟨vp_in_nI (by omega) (by omega), ?_⟩
    have f1 : z_Fm [] [55, 61] Mc (z_s Mc 55 0 t (I s (x + h + t))) := (z_Fm.refl).s (by decide) (by decide)
    have h3 := ih (t + 1) (z_s Mc 55 0 t (I s (x + h + t))) (by omega) (hF.trans f1) (hS.fr f1 (by decide) (by decide) (by decide) (by decide)) (fun k hk => by
      rw [z_gs]
      by_cases e : k = t
      · rw [if_pos ⟨rfl, rfl, e⟩, e]
      · rw [if_neg (fun w => e w.2.2)]
        exact h0 k (by omega))
    show z_Run X 6 _ _ 139 _ [] _
    exact z_Run.eq h3 (by rw [nI_1]) (by rw [nI_clamp (by omega)])
theorem Th_of {M : z_M} {V : Nat → Nat → Int32} {nm nr nb : Nat} (hN : z_CR V nm nr nb (z_nw M)) {f : Nat → Int32} {r n y : Nat} (hr : r < nr) (en : V 4 r = nI n) (hn : n ≤ 99) (hf : ∀ k, k < 3 → M.1 55 0 k = f (y + k)) (hH : z_Hh M) : pu_GH nm (pu_Th V f nm nb r y) (pu_H (z_mC M V nb r 0) (V 4 r) nm nm n) := by
  have h12 := hN.1.1
  have h := GH_of hN hr en hn (fun m hm => hH.at h12 hm) 0 nm (Nat.le_refl nm) n (Nat.le_refl n)
  have hC : ∀ a, a < nm → ∀ b, b < 31 → z_mC M V nb r 0 a b = pu_C V (fun a => f (y + a / 4)) 0 nb (V 3 r) (V 5 r) a b := by
    intro a ha b hb
    show pu_chg (pu_need V (M.1 55 0 (a / 4)) a _ _) _ _ = pu_chg (pu_need V (f (y + a / 4)) a _ _) _ _
    rw [hf (a / 4) (by omega)]
  rw [G_cg hC nm (Nat.le_refl nm)] at h
  have e : pu_G (pu_C V (fun a => f (y + a / 4)) 0 nb (V 3 r) (V 5 r)) (V 4 r) nm nm n = pu_Th V f nm nb r y := by
    unfold pu_Th
    rw [en, nI_clamp (by omega)]
  rw [e] at h
  exact h
theorem lX10_hour2 {X : z_Cx} (M : z_M) {V : Nat → Nat → Int32} {nm nr nb : Nat} (hN : z_CR V nm nr nb (z_nw M)) {L S : Nat → Int32} {I : Nat → Nat → Int32} (hS : z_Sm L S I M) (r s x c : Nat) (hr : r < nr) (hs : s < 8) (hc : c ≤ 24) (hx : x + (c + 2) ≤ 40) (hw : pu_iw (I s) 0 20 x (c + 2) = true) (what : Int32) : ∀ (u t : Nat) (best time : Int32) (Mc : z_M), t + u = c → z_Fm [] [55, 61] M Mc → pu_bm (fun h => pu_Th V (I s) nm nb r (x + h)) t best time → z_Run X 6 mX10_hour (fun v M' => v = pu_hour (fun h => pu_Th V (I s) nm nb r (x + h)) c what ∧ z_Fm [7] [55, 61] M M' ∧ M'.1 46 0 7 = 0 ∧ z_H0 M') 129 [(0, zr 46 0), (1, zi (nI r)), (2, zi (nI s)), (3, zi (nI x)), (4, zi (nI c)), (5, zi what), (6, zi best), (7, zi time), (8, zi (nI t))] [] Mc := by
  have h12 := hN.1.1
  obtain ⟨n, _, hn, en⟩ := (hN.2.2.1 r hr).2.2.2.2.2.1
  intro u
  induction u with
  | zero =>
    intro t best time Mc ht hF hb
    have e : t = c := by omega
    subst e
    refine z_go_run KX10_hour [(129, [0, 1, 2, 3, 4, 5, 6, 7, 8]), (139, [0, 1, 2, 3, 4, 5, 6, 7, 8, 9]), (219, [0, 1, 2, 3, 4, 5, 6, 7, 8])] 60 ?_
    refine ⟨fun _ => ?_, fun w => absurd (Int32.le_refl _) w⟩
    exact lX10_hour4 M (nI r) (nI s) (nI x) (nI t) _ t what best time hc hb 3 0 Mc (by omega) hF (fun k hk => absurd hk (Nat.not_lt_zero k))
  | succ u ih =>
    intro t best time Mc ht hF hb
    refine z_go_run KX10_hour [(129, [0, 1, 2, 3, 4, 5, 6, 7, 8]), (139, [0, 1, 2, 3, 4, 5, 6, 7, 8, 9]), (219, [0, 1, 2, 3, 4, 5, 6, 7, 8])] 60 ?_
    refine ⟨fun w => absurd w (nI_ge (by omega) (by omega)), fun _ => ?_⟩
    refine lX10_hour3 (L := L) (S := S) (I := I) M (nI r) (nI c) what best time s x t hs (by omega) (fun Md hFd hSd hk => ?_) 3 0 Mc (by omega) hF (hS.fr hF (by decide) (by decide) (by decide) (by decide)) (fun k hk => absurd hk (Nat.not_lt_zero k))
    have hNd : z_CR V nm nr nb (z_nw Md) := by rw [nw_fm hFd (by decide)]; exact hN
    have hHd : z_Hh Md := fun k hk3 => by
      rw [hk k hk3, show x + t + k = x + (t + k) by omega]
      exact iw_at (c + 2) hw (t + k) (by omega)
    have hT0 := Th_of (f := I s) (y := x + t) hNd hr en hn hk hHd
    refine z_go_run KX10_hour [(129, [0, 1, 2, 3, 4, 5, 6, 7, 8])] 60 ?_
    refine z_use (hX10_leastAll Md hNd hHd r hr 0 n en hn) (by decide) (fun v M1 g1 => ?_)
    obtain ⟨e1, hF1, _⟩ := g1
    rw [← e1] at hT0
    have hF2 : z_Fm [] [55, 61] M M1 := hFd.trans ((hF1.m (J := []) (by decide)).mono (by decide) (by decide))
    have hT2 : (pu_Th V (I s) nm nb r (x + t) = 1000000000 ∧ v = 100000000) ∨ (pu_Th V (I s) nm nb r (x + t) = v ∧ 0 ≤ v ∧ v ≤ 14400) := by
      rcases hT0 with w | ⟨w1, w2, w3⟩
      · exact Or.inl w
      · have hb : nI (1200 * nm) ≤ 14400 := nI_le (b := 14400) (by omega) (by omega)
        rw [← w1]
        exact Or.inr ⟨rfl, w2, Int32.le_trans w3 hb⟩
    have nx : ∀ (b' t' : Int32), pu_bm (fun h => pu_Th V (I s) nm nb r (x + h)) (t + 1) b' t' → z_Run X 6 mX10_hour (fun v M' => v = pu_hour (fun h => pu_Th V (I s) nm nb r (x + h)) c what ∧ z_Fm [7] [55, 61] M M' ∧ M'.1 46 0 7 = 0 ∧ z_H0 M') 129 [(0, zr 46 0), (1, zi (nI r)), (2, zi (nI s)), (3, zi (nI x)), (4, zi (nI c)), (5, zi what), (6, zi b'), (7, zi t'), (8, zi (nI t + 1))] [] M1 := by
      intro b' t' hb'
      rw [nI_1]
      exact ih (t + 1) b' t' M1 (by omega) hF2 hb'
    have es : pu_bh (fun h => pu_Th V (I s) nm nb r (x + h)) (t + 1) = if pu_Th V (I s) nm nb r (x + t) < (pu_bh (fun h => pu_Th V (I s) nm nb r (x + h)) t).1 then (pu_Th V (I s) nm nb r (x + t), t) else pu_bh (fun h => pu_Th V (I s) nm nb r (x + h)) t := rfl
    have test : time ≤ v ↔ ¬ pu_Th V (I s) nm nb r (x + t) < (pu_bh (fun h => pu_Th V (I s) nm nb r (x + h)) t).1 := by
      rcases hb with ⟨i1, i2, i3⟩ | ⟨i1, i2, i3, i4⟩
      · rw [i1, i3]
        rcases hT2 with ⟨w1, w2⟩ | ⟨w1, w2, w3⟩
        · rw [w1, w2]; decide
        · rw [w1]
          constructor <;> intro w <;> grind
      · rw [i4]
        rcases hT2 with ⟨w1, w2⟩ | ⟨w1, w2, w3⟩
        · rw [w1, w2]
          constructor <;> intro w <;> grind
        · rw [w1]
          exact Int32.not_lt.symm
    refine ⟨fun g => ?_, fun g => ?_⟩
    · refine ⟨fun _ => ?_, fun w => absurd g w⟩
      refine nx _ _ ?_
      unfold pu_bm
      rw [es, if_neg (test.mp g)]
      exact hb
    · refine ⟨fun w => absurd w g, fun _ => ?_⟩
      have g2 : pu_Th V (I s) nm nb r (x + t) < (pu_bh (fun h => pu_Th V (I s) nm nb r (x + h)) t).1 := by
        apply Classical.byContradiction
        intro w
        exact g (test.mpr w)
      refine nx _ _ ?_
      unfold pu_bm
      rw [es, if_pos g2]
      rcases hT2 with ⟨w1, w2⟩ | ⟨w1, w2, w3⟩
      · exfalso
        rcases hb with ⟨i1, i2, i3⟩ | ⟨i1, i2, i3, i4⟩
        · rw [i1, w1] at g2
          exact absurd g2 (by decide)
        · rw [w1] at g2
          grind
      · right
        rw [w1]
        exact ⟨w2, w3, rfl, rfl⟩
theorem lX10_hour1 {X : z_Cx} (M : z_M) {V : Nat → Nat → Int32} {nm nr nb : Nat} (hN : z_CR V nm nr nb (z_nw M)) {L S : Nat → Int32} {I : Nat → Nat → Int32} (hS : z_Sm L S I M) (r s x c : Nat) (hr : r < nr) (hs : s < 8) (hc : c ≤ 24) (hx : x + (c + 2) ≤ 40) (what : Int32) : ∀ (u t : Nat), t + u = c + 2 → pu_iw (I s) 0 20 x t = true → z_Run X 6 mX10_hour (fun v M' => (pu_iw (I s) 0 20 x (c + 2) = false ∧ v = -1000001 ∧ M' = M) ∨ (pu_iw (I s) 0 20 x (c + 2) = true ∧ v = pu_hour (fun h => pu_Th V (I s) nm nb r (x + h)) c what ∧ z_Fm [7] [55, 61] M M' ∧ M'.1 46 0 7 = 0 ∧ z_H0 M')) 79 [(0, zr 46 0), (1, zi (nI r)), (2, zi (nI s)), (3, zi (nI x)), (4, zi (nI c)), (5, zi what), (6, zi (nI t))] [] M := by
  have e2 : nI c + 2 = nI (c + 2) := nI_add c 2
  intro u
  induction u with
  | zero =>
    intro t ht hw
    have e : t = c + 2 := by omega
    subst e
    refine z_go_run KX10_hour [(79, [0, 1, 2, 3, 4, 5, 6]), (129, [0, 1, 2, 3, 4, 5, 6, 7, 8])] 60 ?_
    refine ⟨fun _ => ?_, fun w => absurd (by rw [e2]; exact Int32.le_refl _) w⟩
    refine z_Run.post (lX10_hour2 (X := X) M hN hS r s x c hr hs hc hx hw what c 0 (-1000000) 100000000 M (by omega) z_Fm.refl (Or.inl ⟨rfl, rfl, rfl⟩)) ?_
    rintro v M' w
    exact Or.inr ⟨hw, w⟩
  | succ u ih =>
    intro t ht hw
    refine z_go_run KX10_hour [(79, [0, 1, 2, 3, 4, 5, 6]), (129, [0, 1, 2, 3, 4, 5, 6, 7, 8])] 60 ?_
    refine ⟨fun w => absurd w (by rw [e2]; exact nI_ge (by omega) (by omega)), fun _ => ?_⟩
    have hcn : z_Con X 0 mX10_item [zr 46 0, zi (nI s), zi (nI x + nI t)] M (fun r M' => M' = M ∧ r = I s (x + t)) := by
      rw [nI_add]
      exact hX10_item M hS s (x + t) hs (by omega)
    refine z_uR hcn (by decide) ?_
    refine z_uR (hX10_inI M (I s (x + t)) 0 20 (by decide) (by decide)) (by decide) ?_
    have es : pu_iw (I s) 0 20 x (t + 1) = (pu_iw (I s) 0 20 x t && decide (0 ≤ I s (x + t) ∧ I s (x + t) ≤ 20)) := rfl
    refine ⟨fun g => ?_, fun g => ?_⟩
    · have h3 := ih (t + 1) (by omega) (by rw [es, hw, Bool.true_and]; exact decide_eq_true (by grind))
      rw [← nI_1] at h3
      exact h3
    · have h1 : pu_iw (I s) 0 20 x (t + 1) = false := by rw [es, hw, Bool.true_and]; exact decide_eq_false (by grind)
      have h2 := iw_false h1 u
      rw [show t + 1 + u = c + 2 by omega] at h2
      exact Or.inl ⟨h2, rfl, rfl⟩
theorem hX10_hour {X : z_Cx} (M : z_M) {V : Nat → Nat → Int32} {nm nr nb : Nat} (hN : z_CR V nm nr nb (z_nw M)) {L S : Nat → Int32} {I : Nat → Nat → Int32} (hS : z_Sm L S I M) (ru s i n wh : Int32) : z_Con X 6 mX10_hour [zr 46 0, zi ru, zi s, zi i, zi n, zi wh] M (fun v M' =>
    (¬ (pu_ru nr ru ∧ (0 ≤ s ∧ s ≤ 7) ∧ (1 ≤ n ∧ n ≤ 24) ∧ 0 ≤ wh ∧ wh ≤ 1) ∧ v = -1000001 ∧ M' = M) ∨
    (pu_ru nr ru ∧ (0 ≤ s ∧ s ≤ 7) ∧ (1 ≤ n ∧ n ≤ 24) ∧ (0 ≤ wh ∧ wh ≤ 1) ∧ ¬ pu_fd L S s i (n + 2) = 0 ∧ v = -1000010 - pu_fd L S s i (n + 2) ∧ M' = z_s M 46 0 7 (pu_fd L S s i (n + 2))) ∨
    ((0 ≤ s ∧ s ≤ 7) ∧ (0 ≤ wh ∧ wh ≤ 1) ∧ pu_fd L S s i (n + 2) = 0 ∧ ∃ r x c, r < nr ∧ ru = nI r ∧ i = nI x ∧ 1 ≤ c ∧ c ≤ 24 ∧ n = nI c ∧ x + (c + 2) ≤ 40 ∧ ((pu_iw (I s.toNatClampNeg) 0 20 x (c + 2) = false ∧ v = -1000001 ∧ M' = M) ∨ (pu_iw (I s.toNatClampNeg) 0 20 x (c + 2) = true ∧ v = pu_hour (fun h => pu_Th V (I s.toNatClampNeg) nm nb r (x + h)) c wh ∧ z_Fm [7] [55, 61] M M' ∧ M'.1 46 0 7 = 0 ∧ z_H0 M')))) := by
  have h12 := hN.1.1
  have h4 := hN.1.2.1
  refine z_mg KX10_hour [(79, [0, 1, 2, 3, 4, 5, 6])] 90 (by decide +kernel) rfl ?_
  refine z_uR (hX10_isRunner M hN ru) (by decide) ?_
  refine ⟨fun h => Or.inl ⟨by unfold pu_ru; grind, rfl, rfl⟩, fun h => ?_⟩
  have hru : pu_ru nr ru := by unfold pu_ru; grind
  refine z_uR (hX10_isSheet M s) (by decide) ?_
  refine ⟨fun h1 => Or.inl ⟨by grind, rfl, rfl⟩, fun h1 => ?_⟩
  have hv : 0 ≤ s ∧ s ≤ 7 := by grind
  refine z_uR (hX10_inI M n 1 24 (by decide) (by decide)) (by decide) ?_
  refine ⟨fun h1 => Or.inl ⟨by grind, rfl, rfl⟩, fun h2 => ?_⟩
  have hn : 1 ≤ n ∧ n ≤ 24 := by grind
  refine z_uR (hX10_inI M wh 0 1 (by decide) (by decide)) (by decide) ?_
  refine ⟨fun h3 => ?_, fun h1 => Or.inl ⟨by grind, rfl, rfl⟩⟩
  have hw : 0 ≤ wh ∧ wh ≤ 1 := by grind
  obtain ⟨r, hr, er⟩ := ru_of (by omega) hru
  obtain ⟨s', hs, es, es2⟩ := s_of hv
  obtain ⟨c, hc, ec⟩ := nI_of2 (x := n) (M := 24) (n := 24) (by decide) (by grind) hn.2
  subst er es ec
  have hc1 : 1 ≤ c := (nI_leI (a := 1) (by omega) (by omega)).mp hn.1
  have e2 : nI c + 2 = nI (c + 2) := nI_add c 2
  have ht := Sm_there hS hs
  unfold pu_fd
  rw [es2]
  refine ⟨vp_in_nI (by omega) (by omega), ?_⟩
  rw [es2]
  refine ⟨fun h5 => ?_, fun h5 => ?_⟩
  · have hl : ¬ L s' = -1 := fun w => h5 (ht.mpr w)
    obtain ⟨b1, b2, b3, b4⟩ := (hS s' hs).2.1 hl
    refine z_uR (hX10_holds M hS s' hs hl i (nI c + 2)) (by decide) ?_
    refine ⟨fun h6 => ?_, fun h6 => ?_⟩
    · have g1 : 0 ≤ i ∧ 0 ≤ nI c + 2 ∧ i ≤ S s' - (nI c + 2) := by grind
      obtain ⟨x, c2, ex, ec2, hxc⟩ := in_of g1 b4
      have ecc : c2 = c + 2 := by
        rw [e2] at ec2
        exact ((nI_eq (by omega) (by omega)).mp ec2).symm
      subst ecc
      subst ex
      refine z_Run.post (lX10_hour1 (X := X) M hN hS r s' x c hr hs hc hxc wh (c + 2) 0 (by omega) rfl) ?_
      rintro v M' w
      refine Or.inr (Or.inr ⟨hv, hw, ?_, r, x, c, hr, rfl, rfl, hc1, hc, rfl, hxc, w⟩)
      rw [if_neg hl, if_pos g1]
    · refine z_uW (hX10_found M 2) (by decide) ?_
      have e : (if L s' = -1 then 1 else if 0 ≤ i ∧ 0 ≤ nI c + 2 ∧ i ≤ S s' - (nI c + 2) then 0 else 2) = (2 : Int32) := by rw [if_neg hl, if_neg (by grind)]
      rw [e]
      exact Or.inr (Or.inl ⟨hru, hv, hn, hw, by decide, rfl, rfl⟩)
  · refine z_uW (hX10_found M 1) (by decide) ?_
    rw [if_pos (ht.mp h5)]
    exact Or.inr (Or.inl ⟨hru, hv, hn, hw, by decide, rfl, rfl⟩)
