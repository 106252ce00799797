/-! ===== the class alone: solve ===== -/
/-- nothing else has changed -/
def z_Fr (L : List Nat) (M M' : z_M) : Prop := M'.2 = M.2 ∧ ∀ k, k ∉ L → M'.1 k = M.1 k
theorem z_Fr.refl {L : List Nat} {M : z_M} : z_Fr L M M := ⟨rfl, fun _ _ => rfl⟩
theorem z_Fr.trans {L : List Nat} {M M1 M2 : z_M} (h : z_Fr L M M1) (h2 : z_Fr L M1 M2) : z_Fr L M M2 := ⟨h2.1.trans h.1, fun k hk => (h2.2 k hk).trans (h.2 k hk)⟩
theorem z_Fr.s {L : List Nat} {M M1 : z_M} {k i j : Nat} {v : Int32} (h : z_Fr L M M1) (hk : k ∈ L) : z_Fr L M (z_s M1 k i j v) := by
  refine ⟨h.1, fun k' hk' => ?_⟩
  rw [← h.2 k' hk']
  funext a b
  have ne : k' ≠ k := fun w => hk' (by rw [w]; exact hk)
  exact if_neg (c := k' = k ∧ a = i ∧ b = j) (fun w => ne w.1)
theorem z_Fr.sr {L : List Nat} {M M1 : z_M} {k i : Nat} {f : Nat → Int32} (h : z_Fr L M M1) (hk : k ∈ L) : z_Fr L M (z_sr M1 k i f) := by
  refine ⟨h.1, fun k' hk' => ?_⟩
  rw [← h.2 k' hk']
  funext a b
  have ne : k' ≠ k := fun w => hk' (by rw [w]; exact hk)
  exact if_neg (c := k' = k ∧ a = i) (fun w => ne w.1)
theorem z_Fr.sf {L : List Nat} {M M1 : z_M} {k : Nat} {F : Nat → Nat → Int32} (h : z_Fr L M M1) (hk : k ∈ L) : z_Fr L M (z_sf M1 k F) := by
  refine ⟨h.1, fun k' hk' => ?_⟩
  rw [← h.2 k' hk']
  funext a b
  show (if k' = k then F a b else M1.1 k' a b) = M1.1 k' a b
  have ne : k' ≠ k := fun w => hk' (by rw [w]; exact hk)
  rw [if_neg ne]
theorem z_Fr.mono {L L' : List Nat} {M M1 : z_M} (h : z_Fr L M M1) (hs : ∀ k ∈ L, k ∈ L') : z_Fr L' M M1 := ⟨h.1, fun k hk => h.2 k (fun w => hk (hs k w))⟩
def pu_G (C : Nat → Nat → Int32) (st : Int32) (nm : Nat) : Nat → Nat → Int32
  | 0, _ => 0
  | d + 1, l => pu_la (C (nm - (d + 1))) (pu_G C st nm d) st (nI l) (pu_L C st (nm - (d + 1))) 1000000000
theorem ix_le {x st : Int32} {n : Nat} (hs : st = nI n) (hn : n < 2 ^ 31) (hx : 0 ≤ x) : (if x < st then x else st).toNatClampNeg ≤ n := by
  by_cases h : x < st
  · rw [if_pos h]
    obtain ⟨j, hj, e⟩ := nI_of (x := x) (Int32.not_lt.mpr hx)
    subst e
    rw [nI_clamp hj]
    rw [hs, nI_ltI hj hn] at h
    omega
  · rw [if_neg h, hs, nI_clamp hn]
    exact Nat.le_refl n
theorem la_congr {c bh bh' : Nat → Int32} {st left : Int32} {n : Nat} (hs : st = nI n) (hn : n < 2 ^ 31) (h : ∀ x, x ≤ n → bh x = bh' x) : ∀ (L : List Nat) (b : Int32), pu_la c bh st left L b = pu_la c bh' st left L b := by
  intro L
  induction L with
  | nil => intro b; rfl
  | cons k r ih =>
    intro b
    unfold pu_la
    by_cases hx : 0 ≤ left + c k
    · rw [if_pos hx, if_pos hx, h _ (ix_le hs hn hx)]
      exact ih _
    · rw [if_neg hx, if_neg hx]
      exact ih _
/-- what solve has done down to mile r -/
def z_Sv (M0 M : z_M) (n nm r : Nat) : Prop := z_Fr [37, 38, 40] M0 M ∧ ∀ j, r ≤ j → j ≤ nm → ∀ x, x ≤ n → M.1 40 j x = pu_G (M0.1 35) (M0.1 30 0 9) nm (nm - j) x
def z_Sp (M0 M : z_M) (n nm m l : Nat) : Prop := z_Sv M0 M n nm (m + 1) ∧ z_Tr M m (pu_L (M0.1 35) (M0.1 30 0 9) m) ∧ ∀ x, x < l → M.1 40 m x = pu_G (M0.1 35) (M0.1 30 0 9) nm (nm - m) x
theorem lX0_solve2 {X : z_Cx} (M0 : z_M) (n nm m : Nat) (hn : n ≤ 99) (hm : m < nm) (hnm : nm ≤ 12) (hst : M0.1 30 0 9 = nI n) (hs : ∀ k, k < 31 → M0.1 31 0 k = pu_sec k) {R : Int32 → z_M → Prop} (hk : ∀ M, z_Sp M0 M n nm m (n + 1) → z_Run X 1 mX0_solve R 20 [(0, zr 30 0), (1, zi (nI m + (-1)))] [] M) : ∀ (u l : Nat) (M : z_M), l + u = n + 1 → z_Sp M0 M n nm m l → z_Run X 1 mX0_solve R 31 [(0, zr 30 0), (1, zi (nI m)), (2, zi (nI l))] [] M := by
  have em : (nI m).toNatClampNeg = m := nI_clamp (by omega)
  intro u
  induction u with
  | zero =>
    intro l M hl hp
    have e30 : M.1 30 0 9 = nI n := by rw [hp.1.1.2 30 (by decide)]; exact hst
    refine z_go_run KX0_solve [(20, [0, 1]), (31, [0, 1, 2])] 60 ?_
    refine ⟨fun h => ?_, fun h => ?_⟩
    · exact hk M (by rw [← show l = n + 1 by omega]; exact hp)
    · rw [e30] at h
      exact absurd (nI_lt (by omega) (by omega)) h
  | succ u ih =>
    intro l M hl hp
    have e30' : M.1 30 = M0.1 30 := hp.1.1.2 30 (by decide)
    have e35 : M.1 35 = M0.1 35 := hp.1.1.2 35 (by decide)
    have e30 : M.1 30 0 9 = nI n := by rw [e30']; exact hst
    have el : (nI l).toNatClampNeg = l := nI_clamp (by omega)
    refine z_go_run KX0_solve [(20, [0, 1]), (31, [0, 1, 2])] 60 ?_
    refine ⟨fun h => ?_, fun h => ?_⟩
    · rw [e30] at h
      exact absurd h (nI_nlt (by omega) (by omega))
    · refine ⟨vp_in_nI (by omega) (by omega), ?_⟩
      refine z_uR (hX0_leastAt M m (nI l) (pu_L (M0.1 35) (M0.1 30 0 9) m) (by omega) hp.2.1 (fun k hk => by rw [hp.1.1.2 31 (by decide)]; exact hs k hk) (by rw [e30]; exact ⟨nI_pos' (by omega), nI_le (b := 99) (by omega) (by omega)⟩)) (by decide) ?_
      refine ⟨vp_in_nI (by omega) (by omega), ?_⟩
      show z_Run X 1 _ _ 31 [(0, zr 30 0), (1, zi (nI m)), (2, zi (nI l + 1))] [] (z_s M 40 (nI m).toNatClampNeg (nI l).toNatClampNeg (pu_la (M.1 35 m) (M.1 40 (m + 1)) (M.1 30 0 9) (nI l) (pu_L (M0.1 35) (M0.1 30 0 9) m) 1000000000))
      rw [em, el, nI_1]
      have ev : pu_la (M.1 35 m) (M.1 40 (m + 1)) (M.1 30 0 9) (nI l) (pu_L (M0.1 35) (M0.1 30 0 9) m) 1000000000 = pu_G (M0.1 35) (M0.1 30 0 9) nm (nm - m) l := by
        rw [la_congr (n := n) e30 (by omega) (fun x hx => hp.1.2 (m + 1) (Nat.le_refl _) (by omega) x hx), e35, e30']
        have e1 : nm - m = (nm - (m + 1)) + 1 := by omega
        rw [e1]
        show _ = pu_la (M0.1 35 (nm - (nm - (m + 1) + 1))) (pu_G (M0.1 35) (M0.1 30 0 9) nm (nm - (m + 1))) (M0.1 30 0 9) (nI l) (pu_L (M0.1 35) (M0.1 30 0 9) (nm - (nm - (m + 1) + 1))) 1000000000
        rw [show nm - (nm - (m + 1) + 1) = m by omega]
      rw [ev]
      refine ih (l + 1) _ (by omega) ⟨⟨hp.1.1.s (by decide), fun j h1 h2 x hx => ?_⟩, ⟨hp.2.1.1, hp.2.1.2.1, hp.2.1.2.2.1, hp.2.1.2.2.2⟩, fun x hx => ?_⟩
      · rw [z_gs, if_neg (by omega)]
        exact hp.1.2 j h1 h2 x hx
      · rw [z_gs]
        by_cases e : x = l
        · rw [if_pos ⟨rfl, rfl, e⟩, e]
        · rw [if_neg (fun w => e w.2.2)]
          exact hp.2.2 x (by omega)
theorem lX0_solve1 {X : z_Cx} (M0 : z_M) (n nm : Nat) (hn : n ≤ 99) (hnm : nm ≤ 12) (hst : M0.1 30 0 9 = nI n) (hs : ∀ k, k < 31 → M0.1 31 0 k = pu_sec k) : ∀ (r : Nat) (M : z_M), r ≤ nm → z_Sv M0 M n nm r → z_Run X 1 mX0_solve (fun _ M' => z_Sv M0 M' n nm 0) 20 [(0, zr 30 0), (1, zi (nI r + (-1)))] [] M := by
  intro r
  induction r with
  | zero =>
    intro M _ hp
    refine z_go_run KX0_solve [(20, [0, 1]), (31, [0, 1, 2])] 60 ?_
    refine ⟨fun h => ?_, fun h => ?_⟩
    · exact hp
    · exact absurd (by decide) h
  | succ r ih =>
    intro M hr hp
    rw [z_m1]
    have er : (nI r).toNatClampNeg = r := nI_clamp (by omega)
    have e35 : M.1 35 = M0.1 35 := hp.1.2 35 (by decide)
    have e30 : M.1 30 = M0.1 30 := hp.1.2 30 (by decide)
    refine z_go_run KX0_solve [(20, [0, 1]), (31, [0, 1, 2])] 60 ?_
    refine ⟨fun h => ?_, fun h => ?_⟩
    · exact absurd h (nI_pos (by omega))
    · refine z_uV (hX0_chooseTries M r (by omega)) (by decide) (fun _ => ?_)
      rw [e35, e30]
      refine lX0_solve2 M0 n nm r hn (by omega) hnm hst hs (fun M' hp' => ?_) (n + 1) 0 _ (by omega) ?_
      · refine ih M' (by omega) ⟨hp'.1.1, fun j h1 h2 x hx => ?_⟩
        by_cases e : j = r
        · rw [e]
          exact hp'.2.2 x (by omega)
        · exact hp'.1.2 j (by omega) h2 x hx
      · refine ⟨⟨(hp.1.sr (by decide)).s (by decide), fun j h1 h2 x hx => hp.2 j h1 h2 x hx⟩, ⟨tr_len 31 _, tr_lt 31 _, ?_, fun j hj => ?_⟩, fun x hx => absurd hx (Nat.not_lt_zero x)⟩
        · unfold z_ct
          rw [z_gs, if_pos ⟨rfl, rfl, rfl⟩]
        · unfold z_ct
          rw [z_gs, if_neg (by omega), z_gr, if_pos ⟨rfl, rfl⟩]
          unfold pu_row
          rw [if_pos hj]
theorem hX0_solve {X : z_Cx} (M0 : z_M) (n nm : Nat) (hn : n ≤ 99) (hnm : nm ≤ 12) (hm : M0.1 30 0 7 = nI nm) (hst : M0.1 30 0 9 = nI n) (hs : ∀ k, k < 31 → M0.1 31 0 k = pu_sec k) : z_Con X 1 mX0_solve [zr 30 0] M0 (fun _ M' => z_Sv M0 M' n nm 0) := by
  have en : (nI nm).toNatClampNeg = nm := nI_clamp (by omega)
  refine z_mg KX0_solve [(20, [0, 1])] 60 (by decide +kernel) rfl ?_
  rw [← hm] at en
  refine ⟨by rw [hm]; exact vp_in_nI (by omega) (by omega), ?_⟩
  refine z_uV (hJ7_fill_40 (M0.1 30 0 7).toNatClampNeg 0 M0) (by decide) (fun _ => ?_)
  rw [en]
  have h := lX0_solve1 (X := X) M0 n nm hn hnm hst hs nm (z_sr M0 40 nm (fun j => if j < 100 then 0 else M0.1 40 nm j)) (Nat.le_refl nm) ⟨z_Fr.refl.sr (by decide), fun j h1 h2 x hx => by
    rw [z_gr, if_pos ⟨rfl, by omega⟩, if_pos (by omega), show nm - j = 0 by omega]
    rfl⟩
  rw [← Int32.sub_eq_add_neg, ← hm] at h
  exact h
theorem hX0_leastTime {X : z_Cx} (M0 : z_M) (n nm : Nat) (hn : n ≤ 99) (hnm : nm ≤ 12) (hm : M0.1 30 0 7 = nI nm) (hst : M0.1 30 0 9 = nI n) (hs : ∀ k, k < 31 → M0.1 31 0 k = pu_sec k) : z_Con X 2 mX0_leastTime [zr 30 0] M0 (fun r M' => r = pu_G (M0.1 35) (M0.1 30 0 9) nm nm n ∧ z_Sv M0 M' n nm 0) := by
  refine z_mg KX0_leastTime [] 60 (by decide +kernel) rfl ?_
  refine z_use (hX0_solve M0 n nm hn hnm hm hst hs) (by decide) (fun _ M' hp => ?_)
  have e30 : M'.1 30 0 9 = nI n := by rw [hp.1.2 30 (by decide)]; exact hst
  refine ⟨vin (by decide) (by decide), ?_, ?_, hp⟩
  · rw [e30]
    exact vp_in_nI (by omega) (by omega)
  · show M'.1 40 0 (M'.1 30 0 9).toNatClampNeg = _
    rw [e30, nI_clamp (by omega)]
    exact hp.2 0 (Nat.le_refl 0) (by omega) n (Nat.le_refl n)
