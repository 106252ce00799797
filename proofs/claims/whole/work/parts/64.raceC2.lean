/-! ===== the class's race ===== -/
def pu_sv (x : Nat) : Int32 := if x = 0 then 0 else if pu_nx x % 7 = 0 then 1 else if pu_nx x % 7 = 1 then -1 else 0
def pu_it (x : Nat) : Nat → Nat
  | 0 => x
  | n + 1 => pu_nx (pu_it x n)
theorem it_lt {x : Nat} (hx : x < 2147483647) : ∀ n, pu_it x n < 2147483647 := by
  intro n
  cases n with
  | zero => exact hx
  | succ n => exact Nat.mod_lt _ (by omega)
/-- the pace that is wanted -/
def pu_pf (V : Nat → Nat → Int32) (nr m : Nat) (L T P : Nat → Int32) (x r : Nat) : Int32 := pu_cl (pu_cl (P r + pu_st V r m (L r) (T r - pu_mn 1000000000 T nr) (V 6 r).toNatClampNeg 0) + pu_sv (pu_it x r))
/-- but for these, and for slips, all is as it was -/
def z_Fq (L : List Nat) (M M' : z_M) : Prop := M'.2.2 = M.2.2 ∧ ∀ k, k ∉ L → M'.1 k = M.1 k
theorem z_Fq.refl {L : List Nat} {M : z_M} : z_Fq L M M := ⟨rfl, fun _ _ => rfl⟩
theorem z_Fq.trans {L : List Nat} {M M1 M2 : z_M} (h : z_Fq L M M1) (h2 : z_Fq L M1 M2) : z_Fq L M M2 := ⟨h2.1.trans h.1, fun k hk => (h2.2 k hk).trans (h.2 k hk)⟩
theorem z_Fq.mono {L L' : List Nat} {M M1 : z_M} (h : z_Fq L M M1) (hs : ∀ k ∈ L, k ∈ L') : z_Fq L' M M1 := ⟨h.1, fun k hk => h.2 k (fun w => hk (hs k w))⟩
theorem z_Fr.q {L : List Nat} {M M1 : z_M} (h : z_Fr L M M1) : z_Fq L M M1 := ⟨by rw [h.1], h.2⟩
theorem z_Fq.sl {L : List Nat} {M M1 : z_M} {k i : Nat} {v : Int64} (h : z_Fq L M M1) : z_Fq L M (z_sl M1 k i v) := h
theorem z_cvQ {L : List Nat} {M M' : z_M} {i : Nat} (h : z_Fq L M M') (hL : ∀ k, 7 ≤ k → k ≤ 20 → k ∉ L) : z_cv M' i = z_cv M i := z_cv_c (fun k h1 h2 => by rw [h.2 k (hL k h1 h2)])
theorem no29 : ∀ k, 7 ≤ k → k ≤ 20 → k ∉ [29] := fun k _ h w => by have : k = 29 := List.mem_singleton.mp w; omega
theorem z_Bd.s5 {V : Nat → Nat → Int32} {r i : Nat} {M : z_M} {l t p v : Int32} (h : z_Bd V r M i l t p) : z_Bd V r (z_s M 29 i 5 v) i l t v := by
  unfold z_Bd at h ⊢
  simp only [z_gs]
  simp [h]
theorem z_Bd.so {V : Nat → Nat → Int32} {r i j x : Nat} {M : z_M} {l t p v : Int32} (h : z_Bd V r M i l t p) (hij : i ≠ j) : z_Bd V r (z_s M 29 j x v) i l t p := by
  unfold z_Bd at h ⊢
  simp only [z_gs]
  simp [h, hij]
theorem lX3_feel {X : z_Cx} (M : z_M) {V : Nat → Nat → Int32} (hV : z_cv M 0 = V) {n m x : Nat} {L T P : Nat → Int32} (hn : n ≤ 4) (hm : m < 12) (hr : M.1 27 0 1 = nI n) (hx : x < 2147483647) (hc : ∀ r, r < n → ∃ c, c ≤ 6 ∧ V 6 r = nI c) : ∀ (u t : Nat) (Mc : z_M), t + u = n → z_Fq [29] M Mc → Mc.2.1 27 0 = lN (pu_it x t) → (∀ j, j < n → z_Bd V j Mc j (L j) (T j) (if j < t then pu_pf V n m L T P x j else P j)) → z_Run X 2 mX3_feel (fun _ M' => z_Fq [29] M M' ∧ M'.2.1 27 0 = lN (pu_it x n) ∧ ∀ j, j < n → z_Bd V j M' j (L j) (T j) (pu_pf V n m L T P x j)) 8 [(0, zr 27 0), (1, zr 6 0), (2, zi (nI m)), (3, zi (pu_mn 1000000000 T n)), (4, zi (nI t))] [] Mc := by
  intro u
  induction u with
  | zero =>
    intro t Mc ht hF hl hB
    have e : t = n := by omega
    subst e
    refine z_go_run KX3_feel [(8, [0, 1, 2, 3, 4])] 60 ?_
    refine ⟨fun _ => ⟨hF, hl, fun j hj => ?_⟩, fun h => ?_⟩
    · have := hB j hj
      rw [if_pos hj] at this
      exact this
    · rw [hF.2 27 (by decide), hr] at h
      exact absurd (Int32.le_refl _) h
  | succ u ih =>
    intro t Mc ht hF hl hB
    obtain ⟨c, hc6, ec⟩ := hc t (by omega)
    have hVc : z_cv Mc 0 = V := by rw [z_cvQ hF no29]; exact hV
    have hBt := hB t (by omega)
    rw [if_neg (Nat.lt_irrefl t)] at hBt
    obtain ⟨b0, b1, b2, b3, b4, b5⟩ := id hBt
    refine z_go_run KX3_feel [(8, [0, 1, 2, 3, 4])] 60 ?_
    refine ⟨fun h => ?_, fun h => ?_⟩
    · rw [hF.2 27 (by decide), hr] at h
      exact absurd h (nI_ge (by omega) (by omega))
    · refine ⟨vp_in_nI (by omega) (by omega), ?_⟩
      refine z_uRe (hX3_stepByRules Mc hVc t m c (by omega) hm hc6 ec (pu_mn 1000000000 T n)) (g := pu_st V t m (L t) (T t - pu_mn 1000000000 T n) c 0) (by rw [b3, b4]) (by decide) ?_
      rw [show (nI t).toNatClampNeg + 4 * 0 = t by rw [nI_clamp (by omega)]; rfl]
      refine z_uV (hX1_changePace Mc t _) (by decide) (fun _ => ?_)
      rw [b5]
      refine ⟨vp_in_nI (by omega) (by omega), ?_⟩
      refine z_uW (hX3_stepBySlip (z_s Mc 29 t 5 (pu_cl (P t + pu_st V t m (L t) (T t - pu_mn 1000000000 T n) c 0))) 0 (pu_it x t) (it_lt hx t) hl) (by decide) ?_
      rw [show (nI t).toNatClampNeg + 4 * 0 = t by rw [nI_clamp (by omega)]; rfl]
      refine z_uV (hX1_changePace _ t _) (by decide) (fun _ => ?_)
      have e5 : (z_sl (z_s Mc 29 t 5 (pu_cl (P t + pu_st V t m (L t) (T t - pu_mn 1000000000 T n) c 0))) 27 0 (lN (pu_nx (pu_it x t)))).1 29 t 5 = pu_cl (P t + pu_st V t m (L t) (T t - pu_mn 1000000000 T n) c 0) := if_pos (c := 29 = 29 ∧ t = t ∧ 5 = 5) ⟨rfl, rfl, rfl⟩
      rw [e5]
      have epf : pu_cl (pu_cl (P t + pu_st V t m (L t) (T t - pu_mn 1000000000 T n) c 0) + (if pu_it x t = 0 then 0 else if pu_nx (pu_it x t) % 7 = 0 then 1 else if pu_nx (pu_it x t) % 7 = 1 then -1 else 0)) = pu_pf V n m L T P x t := by
        unfold pu_pf
        rw [ec, nI_clamp (by omega)]
        rfl
      rw [epf]
      have h3 := ih (t + 1) (z_s (z_sl (z_s Mc 29 t 5 (pu_cl (P t + pu_st V t m (L t) (T t - pu_mn 1000000000 T n) c 0))) 27 0 (lN (pu_nx (pu_it x t)))) 29 t 5 (pu_pf V n m L T P x t)) (by omega) ?_ ?_ ?_
      · rw [← nI_1] at h3
        exact h3
      · have f1 : z_Fq [29] Mc (z_s Mc 29 t 5 (pu_cl (P t + pu_st V t m (L t) (T t - pu_mn 1000000000 T n) c 0))) := ((z_Fr.refl (L := [29]) (M := Mc)).s (by decide)).q
        have f2 : z_Fq [29] (z_sl (z_s Mc 29 t 5 (pu_cl (P t + pu_st V t m (L t) (T t - pu_mn 1000000000 T n) c 0))) 27 0 (lN (pu_nx (pu_it x t)))) (z_s (z_sl (z_s Mc 29 t 5 (pu_cl (P t + pu_st V t m (L t) (T t - pu_mn 1000000000 T n) c 0))) 27 0 (lN (pu_nx (pu_it x t)))) 29 t 5 (pu_pf V n m L T P x t)) := ((z_Fr.refl (L := [29])).s (by decide)).q
        exact (hF.trans f1.sl).trans f2
      · show (if 27 = 27 ∧ 0 = 0 then lN (pu_nx (pu_it x t)) else Mc.2.1 27 0) = _
        exact if_pos ⟨rfl, rfl⟩
      · intro j hj
        rcases (show j = t ∨ j ≠ t by omega) with w | w
        · subst w
          rw [if_pos (Nat.lt_succ_self j)]
          have q1 := hBt.s5 (v := pu_cl (P j + pu_st V j m (L j) (T j - pu_mn 1000000000 T n) c 0))
          exact z_Bd.s5 (M := z_sl (z_s Mc 29 j 5 (pu_cl (P j + pu_st V j m (L j) (T j - pu_mn 1000000000 T n) c 0))) 27 0 (lN (pu_nx (pu_it x j)))) q1
        · have q0 := hB j hj
          have q1 := q0.so (x := 5) (v := pu_cl (P t + pu_st V t m (L t) (T t - pu_mn 1000000000 T n) c 0)) w
          have q2 := z_Bd.so (M := z_sl (z_s Mc 29 t 5 (pu_cl (P t + pu_st V t m (L t) (T t - pu_mn 1000000000 T n) c 0))) 27 0 (lN (pu_nx (pu_it x t)))) (x := 5) (v := pu_pf V n m L T P x t) q1 w
          have e7 : (if j < t + 1 then pu_pf V n m L T P x j else P j) = (if j < t then pu_pf V n m L T P x j else P j) := by
            by_cases w2 : j < t
            · rw [if_pos w2, if_pos (by omega)]
            · rw [if_neg w2, if_neg (by omega)]
          rw [e7]
          exact q2
theorem hX3_feel {X : z_Cx} (M : z_M) {V : Nat → Nat → Int32} (hV : z_cv M 0 = V) {n m x : Nat} {L T P : Nat → Int32} (hn : n ≤ 4) (hm : m < 12) (hr : M.1 27 0 1 = nI n) (hx : x < 2147483647) (hc : ∀ r, r < n → ∃ c, c ≤ 6 ∧ V 6 r = nI c) (hl : M.2.1 27 0 = lN x) (hB : z_Fd V id n 0 M L T P) : z_Con X 2 mX3_feel [zr 27 0, zr 6 0, zi (nI m)] M (fun _ M' => z_Fq [29] M M' ∧ M'.2.1 27 0 = lN (pu_it x n) ∧ z_Fd V id n 0 M' L T (pu_pf V n m L T P x)) := by
  refine z_mg KX3_feel [(8, [0, 1, 2, 3, 4])] 60 (by decide +kernel) rfl ?_
  refine z_uR (hX3_leastTime M hB hn hr) (by decide) ?_
  refine z_Run.post (lX3_feel (X := X) (P := P) M hV hn hm hr hx hc n 0 M (by omega) z_Fq.refl hl (fun j hj => by rw [if_neg (Nat.not_lt_zero j)]; exact hB j hj)) ?_
  rintro v M' ⟨h1, h2, h3⟩
  exact ⟨h1, h2, fun j hj => h3 j hj⟩
theorem ix12 (r m : Nat) : nI r * 12 + nI m = nI (12 * r + m) := by
  show nI r * nI 12 + nI m = _
  rw [pk_mul, nI_add, Nat.mul_comm]
/-- what is recorded of body i -/
def z_rv (M : z_M) (i w : Nat) : Int32 := if w = 0 then M.1 29 i 6 else if w = 1 then M.1 29 i 5 else if w = 2 then M.1 29 i 3 else if w = 3 then (if M.1 29 i 7 = 0 then 0 else 1) else if w = 4 then (if M.1 29 i 9 = 0 then 0 else 1) else if w = 5 then M.1 29 i 4 else (if M.1 29 i 8 = 0 then 0 else 1)
theorem hX6_record {X : z_Cx} (M : z_M) (i r m : Nat) (hr : r < 4) (hm : m < 12) : z_Con X 0 mX6_record [zr 21 0, zr 29 i, zi (nI r), zi (nI m)] M (fun _ M' => z_Fr [23] M M' ∧ (∀ w, w < 7 → ∀ x, M'.1 23 w x = if x = 12 * r + m then z_rv M i w else M.1 23 w x) ∧ ∀ w, 7 ≤ w → ∀ x, M'.1 23 w x = M.1 23 w x) := by
  have ei : (nI r * 12 + nI m).toNatClampNeg = 12 * r + m := by rw [ix12]; exact nI_clamp (by omega)
  have vi : vp_in (nI r * 12 + nI m) 48 := by rw [ix12]; exact vp_in_nI (by omega) (by omega)
  have step : ∀ (Mc : z_M) (k : Nat) (v : Int32), z_Fr [23] M Mc → (∀ w, w < k → ∀ x, Mc.1 23 w x = if x = 12 * r + m then z_rv M i w else M.1 23 w x) → (∀ w, k ≤ w → ∀ x, Mc.1 23 w x = M.1 23 w x) → v = z_rv M i k → z_Fr [23] M (z_s Mc 23 k (12 * r + m) v) ∧ (∀ w, w < k + 1 → ∀ x, (z_s Mc 23 k (12 * r + m) v).1 23 w x = if x = 12 * r + m then z_rv M i w else M.1 23 w x) ∧ (∀ w, k + 1 ≤ w → ∀ x, (z_s Mc 23 k (12 * r + m) v).1 23 w x = M.1 23 w x) := by
    intro Mc k v hF h1 h2 hv
    refine ⟨hF.s (by decide), fun w hw x => ?_, fun w hw x => ?_⟩
    · rw [z_gs]
      rcases (show w < k ∨ w = k by omega) with e | e
      · rw [if_neg (by omega)]
        exact h1 w e x
      · subst e
        by_cases ex : x = 12 * r + m
        · rw [if_pos ⟨rfl, rfl, ex⟩, if_pos ex, hv]
        · rw [if_neg (fun q => ex q.2.2), if_neg ex]
          exact h2 w (Nat.le_refl w) x
    · rw [z_gs, if_neg (by omega)]
      exact h2 w (by omega) x
  refine z_mg KX6_record [(68, [0, 1, 2, 3, 4]), (89, [0, 1, 2, 3, 4])] 90 (by decide +kernel) rfl ?_
  have r29 : ∀ {Mc : z_M} {j : Nat}, z_Fr [23] M Mc → Mc.1 29 i j = M.1 29 i j := fun h => by rw [h.2 29 (by decide)]
  have last : ∀ Mc : z_M, z_Fr [23] M Mc → (∀ w, w < 5 → ∀ x, Mc.1 23 w x = if x = 12 * r + m then z_rv M i w else M.1 23 w x) → (∀ w, 5 ≤ w → ∀ x, Mc.1 23 w x = M.1 23 w x) → z_Run X 0 mX6_record (fun _ M' => z_Fr [23] M M' ∧ (∀ w, w < 7 → ∀ x, M'.1 23 w x = if x = 12 * r + m then z_rv M i w else M.1 23 w x) ∧ ∀ w, 7 ≤ w → ∀ x, M'.1 23 w x = M.1 23 w x) 89 [(0, zr 21 0), (1, zr 29 i), (2, zi (nI r)), (3, zi (nI m)), (4, zi (nI r * 12 + nI m))] [] Mc := by
    intro Mc hF h1 h2
    refine z_go_run KX6_record [] 90 ?_
    obtain ⟨f5, g5, k5⟩ := step Mc 5 (Mc.1 29 i 4) hF h1 h2 (by rw [r29 hF]; rfl)
    refine ⟨vin (by decide) (by decide), vi, vin (by decide) (by decide), ?_⟩
    rw [ei]
    refine ⟨fun h => ?_, fun h => ?_⟩
    · obtain ⟨f6, g6, k6⟩ := step _ 6 0 f5 g5 k5 (by show 0 = (if M.1 29 i 8 = 0 then 0 else 1); rw [if_pos (by rw [← r29 f5 (j := 8)]; exact h)])
      refine ⟨vi, ?_⟩
      rw [ei]
      exact ⟨f6, g6, k6⟩
    · obtain ⟨f6, g6, k6⟩ := step _ 6 1 f5 g5 k5 (by show 1 = (if M.1 29 i 8 = 0 then 0 else 1); rw [if_neg (by rw [← r29 f5 (j := 8)]; exact h)])
      refine ⟨vi, ?_⟩
      rw [ei]
      exact ⟨f6, g6, k6⟩
  have mid : ∀ Mc : z_M, z_Fr [23] M Mc → (∀ w, w < 4 → ∀ x, Mc.1 23 w x = if x = 12 * r + m then z_rv M i w else M.1 23 w x) → (∀ w, 4 ≤ w → ∀ x, Mc.1 23 w x = M.1 23 w x) → z_Run X 0 mX6_record (fun _ M' => z_Fr [23] M M' ∧ (∀ w, w < 7 → ∀ x, M'.1 23 w x = if x = 12 * r + m then z_rv M i w else M.1 23 w x) ∧ ∀ w, 7 ≤ w → ∀ x, M'.1 23 w x = M.1 23 w x) 68 [(0, zr 21 0), (1, zr 29 i), (2, zi (nI r)), (3, zi (nI m)), (4, zi (nI r * 12 + nI m))] [] Mc := by
    intro Mc hF h1 h2
    refine z_go_run KX6_record [(89, [0, 1, 2, 3, 4])] 90 ?_
    refine ⟨vin (by decide) (by decide), ?_⟩
    refine ⟨fun h => ?_, fun h => ?_⟩
    · obtain ⟨f6, g6, k6⟩ := step _ 4 0 hF h1 h2 (by show 0 = (if M.1 29 i 9 = 0 then 0 else 1); rw [if_pos (by rw [← r29 hF (j := 9)]; exact h)])
      refine ⟨vi, ?_⟩
      rw [ei]
      exact last _ f6 g6 k6
    · obtain ⟨f6, g6, k6⟩ := step _ 4 1 hF h1 h2 (by show 1 = (if M.1 29 i 9 = 0 then 0 else 1); rw [if_neg (by rw [← r29 hF (j := 9)]; exact h)])
      refine ⟨vi, ?_⟩
      rw [ei]
      exact last _ f6 g6 k6
  obtain ⟨f0, g0, k0⟩ := step M 0 (M.1 29 i 6) z_Fr.refl (fun w hw => absurd hw (Nat.not_lt_zero w)) (fun w _ x => rfl) rfl
  obtain ⟨f1, g1, k1⟩ := step _ 1 ((z_s M 23 0 (12 * r + m) (M.1 29 i 6)).1 29 i 5) f0 g0 k0 (by rw [r29 f0]; rfl)
  obtain ⟨f2, g2, k2⟩ := step _ 2 ((z_s (z_s M 23 0 (12 * r + m) (M.1 29 i 6)) 23 1 (12 * r + m) ((z_s M 23 0 (12 * r + m) (M.1 29 i 6)).1 29 i 5)).1 29 i 3) f1 g1 k1 (by rw [r29 f1]; rfl)
  refine ⟨vin (by decide) (by decide), vi, vin (by decide) (by decide), vi, vin (by decide) (by decide), vi, vin (by decide) (by decide), ?_⟩
  rw [ei]
  refine ⟨fun h => ?_, fun h => ?_⟩
  · obtain ⟨f6, g6, k6⟩ := step _ 3 0 f2 g2 k2 (by show 0 = (if M.1 29 i 7 = 0 then 0 else 1); rw [if_pos (by rw [← r29 f2 (j := 7)]; exact h)])
    refine ⟨vi, ?_⟩
    rw [ei]
    exact mid _ f6 g6 k6
  · obtain ⟨f6, g6, k6⟩ := step _ 3 1 f2 g2 k2 (by show 1 = (if M.1 29 i 7 = 0 then 0 else 1); rw [if_neg (by rw [← r29 f2 (j := 7)]; exact h)])
    refine ⟨vi, ?_⟩
    rw [ei]
    exact mid _ f6 g6 k6
