/-! ===== the model's race, whole ===== -/
theorem CR_cg {V : Nat → Nat → Int32} {nm nr nb : Nat} {N N' : Nat → Int32} (h : z_CR V nm nr nb N) (e : ∀ y, y < 190 → N' y = N y) : z_CR V nm nr nb N' := by
  obtain ⟨⟨a1, a2, a3, a4, a5, a6, a7, a8⟩, hb, hc, hd, he⟩ := h
  refine ⟨⟨a1, a2, a3, (e 187 (by omega)).trans a4, (e 188 (by omega)).trans a5, (e 189 (by omega)).trans a6, a7, a8⟩, fun m hm => ?_, fun r hr => ?_, fun r hr k hk hlt => ?_, fun b hb => ?_⟩
  · rw [e (3 * m) (by omega), e (3 * m + 1) (by omega), e (3 * m + 2) (by omega)]
    exact hb m hm
  · rw [e (36 + 4 * r) (by omega), e (36 + 4 * r + 1) (by omega), e (36 + 4 * r + 2) (by omega), e (36 + 4 * r + 3) (by omega)]
    exact hc r hr
  · rw [e (52 + 30 * r + 5 * k) (by omega), e (52 + 30 * r + 5 * k + 1) (by omega), e (52 + 30 * r + 5 * k + 2) (by omega), e (52 + 30 * r + 5 * k + 3) (by omega), e (52 + 30 * r + 5 * k + 4) (by omega)]
    exact hd r hr k hk hlt
  · rw [e (172 + 3 * b) (by omega), e (172 + 3 * b + 1) (by omega), e (172 + 3 * b + 2) (by omega)]
    exact he b hb
theorem lX10_raceG {X : z_Cx} (Ms : z_M) {V : Nat → Nat → Int32} {nm nr nb : Nat} (hN : z_CR V nm nr nb (z_nw Ms)) (h0 : z_H0 Ms) {m seed : Nat} {x : Int64} {σ : z_S4} (hm : m < nm) (ok : pu_ok V nr m σ) (h56 : ∀ r, r < nr → Ms.1 56 0 r = pu_P2 V nr m σ r) (h60 : ∀ r, r < nr → Ms.1 60 0 r = pu_bb V nr m σ r) {R : Int32 → z_M → Prop}
    (hk : ∀ Mc, z_Fm [24, 25] [47, 57, 58] Ms Mc → z_Ra nr Mc (pu_nxt V nr m σ).1 (pu_nxt V nr m σ).2.1 (pu_nxt V nr m σ).2.2.1 → (∀ y, y < 191 → z_nw Mc y = z_nw Ms y) → (∀ r, r < nr → ∀ w, w < 6 → z_nw Mc (191 + 72 * r + 6 * m + w) = pu_rcd V nr m σ r w) → (∀ r, r < nr → ∀ m', m' < 12 → m' ≠ m → ∀ w, w < 6 → z_nw Mc (191 + 72 * r + 6 * m' + w) = z_nw Ms (191 + 72 * r + 6 * m' + w)) → z_Run X 4 mX10_race R 155 [(0, zr 46 0), (3, zi (nI seed)), (4, zl x), (6, zi (nI (m + 1)))] [] Mc) :
    ∀ (u t : Nat) (Mc : z_M), t + u = nr → z_Fm [24, 25] [47, 57, 58] Ms Mc → (∀ r, r < nr → Mc.1 57 0 r = (if r < t then (pu_nxt V nr m σ).1 r else σ.1 r) ∧ Mc.1 58 0 r = (if r < t then (pu_nxt V nr m σ).2.1 r else σ.2.1 r)) → (∀ y, y < 191 → z_nw Mc y = z_nw Ms y) → (∀ r, r < t → ∀ w, w < 6 → z_nw Mc (191 + 72 * r + 6 * m + w) = pu_rcd V nr m σ r w) → (∀ r, r < nr → ∀ m', m' < 12 → m' ≠ m → ∀ w, w < 6 → z_nw Mc (191 + 72 * r + 6 * m' + w) = z_nw Ms (191 + 72 * r + 6 * m' + w)) → z_Run X 4 mX10_race R 277 [(0, zr 46 0), (3, zi (nI seed)), (4, zl x), (6, zi (nI m)), (8, zi (nI t))] [] Mc := by
  have h4 := hN.1.2.1
  have h12 := hN.1.1
  intro u
  induction u with
  | zero =>
    intro t Mc ht hF ha hn1 hn2 hn3
    have e : t = nr := by omega
    subst e
    have hNc : z_CR V nm t nb (z_nw Mc) := CR_cg hN (fun y hy => hn1 y (by omega))
    refine z_go_run KX10_race [(277, [0, 3, 4, 6, 8]), (155, [0, 3, 4, 6])] 80 ?_
    refine z_uR (hX10_runners Mc hNc) (by decide) ?_
    refine ⟨fun _ => ?_, fun h => absurd (Int32.le_refl _) h⟩
    have h3 := hk Mc hF (fun r hr => by
      obtain ⟨a1, a2⟩ := ha r hr
      rw [if_pos hr] at a1 a2
      refine ⟨a1, a2, ?_⟩
      rw [nxt_3, hF.2.1 56 (by decide) (by decide)]
      exact h56 r hr) hn1 hn2 hn3
    rw [← nI_1] at h3
    exact h3
  | succ u ih =>
    intro t Mc ht hF ha hn1 hn2 hn3
    have hNc : z_CR V nm nr nb (z_nw Mc) := CR_cg hN (fun y hy => hn1 y (by omega))
    have h0c := h0.fm hF (by decide)
    have et : (nI t).toNatClampNeg = t := nI_clamp (by omega)
    have vt : vp_in (nI t) 4 := vp_in_nI (by omega) (by omega)
    obtain ⟨a1, a2⟩ := ha t (by omega)
    rw [if_neg (Nat.lt_irrefl t)] at a1 a2
    have e56 : Mc.1 56 0 t = pu_P2 V nr m σ t := by rw [hF.2.1 56 (by decide) (by decide)]; exact h56 t (by omega)
    have e60 : Mc.1 60 0 (nI t).toNatClampNeg = pu_bb V nr m σ t := by rw [et, hF.2.1 60 (by decide) (by decide)]; exact h60 t (by omega)
    have okt := ok.1 t (by omega)
    refine z_go_run KX10_race [(277, [0, 3, 4, 6, 8]), (332, [0, 3, 4, 6, 8, 9])] 80 ?_
    refine z_uR (hX10_runners Mc hNc) (by decide) ?_
    refine ⟨fun h => absurd h (nI_ge (by omega) (by omega)), fun h => ?_⟩
    refine ⟨vt, ?_⟩
    rw [e60]
    refine z_uV (hX10_goMile Mc hNc h0c t m (by omega) hm (pu_P2 V nr m σ t) (pu_bb V nr m σ t) (σ.1 t) a1 e56 okt.1 pf_bd) (by decide) (fun _ => ?_)
    refine ⟨vt, vt, ?_⟩
    rw [et]
    -- the memory behind the mile
    have g24 : (z_gm V t m (pu_P2 V nr m σ t) (pu_bb V nr m σ t) (σ.1 t) Mc).1 46 0 24 = pu_s1 V t m (pu_P2 V nr m σ t) (pu_bb V nr m σ t) (σ.1 t) := by unfold z_gm; rw [z_gs, if_pos ⟨rfl, rfl, rfl⟩]
    have g58 : (z_gm V t m (pu_P2 V nr m σ t) (pu_bb V nr m σ t) (σ.1 t) Mc).1 58 0 t = σ.2.1 t := by unfold z_gm; rw [z_gs, if_neg (by omega), z_gs, if_neg (by omega), z_gs, if_neg (by omega)]; exact a2
    rw [g24, g58]
    have fG : z_Fm [24, 25] [57, 58] Mc (z_s (z_gm V t m (pu_P2 V nr m σ t) (pu_bb V nr m σ t) (σ.1 t) Mc) 58 0 t (σ.2.1 t + pu_s1 V t m (pu_P2 V nr m σ t) (pu_bb V nr m σ t) (σ.1 t))) := by
      unfold z_gm
      exact ((((z_Fm.refl).s46 (by decide)).s (by decide) (by decide)).s46 (by decide)).s (by decide) (by decide)
    have k24 : (z_s (z_gm V t m (pu_P2 V nr m σ t) (pu_bb V nr m σ t) (σ.1 t) Mc) 58 0 t (σ.2.1 t + pu_s1 V t m (pu_P2 V nr m σ t) (pu_bb V nr m σ t) (σ.1 t))).1 46 0 24 = pu_s1 V t m (pu_P2 V nr m σ t) (pu_bb V nr m σ t) (σ.1 t) := by rw [z_gs, if_neg (by omega), g24]
    have k25 : (z_s (z_gm V t m (pu_P2 V nr m σ t) (pu_bb V nr m σ t) (σ.1 t) Mc) 58 0 t (σ.2.1 t + pu_s1 V t m (pu_P2 V nr m σ t) (pu_bb V nr m σ t) (σ.1 t))).1 46 0 25 = (if pu_gl V t m (pu_P2 V nr m σ t) (pu_bb V nr m σ t) (σ.1 t) < 0 then 1 else 0) := by
      rw [z_gs, if_neg (by omega)]
      unfold z_gm
      rw [z_gs, if_neg (by omega), z_gs, if_neg (by omega), z_gs, if_pos ⟨rfl, rfl, rfl⟩]
    have k57 : ∀ r, (z_s (z_gm V t m (pu_P2 V nr m σ t) (pu_bb V nr m σ t) (σ.1 t) Mc) 58 0 t (σ.2.1 t + pu_s1 V t m (pu_P2 V nr m σ t) (pu_bb V nr m σ t) (σ.1 t))).1 57 0 r = if r = t then (pu_nxt V nr m σ).1 t else Mc.1 57 0 r := by
      intro r
      rw [nxt_1, z_gs, if_neg (by omega)]
      unfold z_gm
      rw [z_gs, if_neg (by omega), z_gs]
      by_cases e : r = t
      · rw [if_pos ⟨rfl, rfl, e⟩, if_pos e]
      · rw [if_neg (fun w => e w.2.2), if_neg e, z_gs, if_neg (by omega)]
    have k58 : ∀ r, (z_s (z_gm V t m (pu_P2 V nr m σ t) (pu_bb V nr m σ t) (σ.1 t) Mc) 58 0 t (σ.2.1 t + pu_s1 V t m (pu_P2 V nr m σ t) (pu_bb V nr m σ t) (σ.1 t))).1 58 0 r = if r = t then (pu_nxt V nr m σ).2.1 t else Mc.1 58 0 r := by
      intro r
      rw [nxt_2, z_gs]
      by_cases e : r = t
      · rw [if_pos ⟨rfl, rfl, e⟩, if_pos e]
      · rw [if_neg (fun w => e w.2.2), if_neg e]
        unfold z_gm
        rw [z_gs, if_neg (by omega), z_gs, if_neg (by omega), z_gs, if_neg (by omega)]
    have n47 := nw_fm fG (by decide)
    generalize z_s (z_gm V t m (pu_P2 V nr m σ t) (pu_bb V nr m σ t) (σ.1 t) Mc) 58 0 t (σ.2.1 t + pu_s1 V t m (pu_P2 V nr m σ t) (pu_bb V nr m σ t) (σ.1 t)) = Mg at fG k24 k25 k57 k58 n47 ⊢
    refine lX10_raceW (F := pu_rcd V nr m σ t) Mg (by omega) (by omega) ?_ ?_ ?_ ?_ ?_ ?_ (fun Md hW => ?_)
    · rw [k24]; unfold pu_rcd; rw [if_pos rfl]
    · rw [fG.2.1 56 (by decide) (by decide), e56]; unfold pu_rcd; rw [if_neg (by decide), if_pos rfl]
    · rw [k57 t, if_pos rfl, nxt_1]; unfold pu_rcd; rw [if_neg (by decide), if_neg (by decide), if_pos rfl]
    · have e60' : Mg.1 60 0 t = pu_bb V nr m σ t := by rw [fG.2.1 60 (by decide) (by decide)]; rw [et] at e60; exact e60
      rw [e60', k25]
      unfold pu_rcd
      rw [if_neg (by decide), if_neg (by decide), if_neg (by decide), if_pos rfl]
      rcases b2_01 (pu_S1 σ.2.1 (pu_P2 V nr m σ) t nr) with w | w
      · rw [show pu_bb V nr m σ t = 0 from w, if_pos rfl, if_neg (fun q => absurd q.1 (by decide))]
      · rw [show pu_bb V nr m σ t = 1 from w]
        by_cases g : pu_gl V t m (pu_P2 V nr m σ t) 1 (σ.1 t) < 0
        · rw [if_neg (show ¬ ((1 : Int32) = 1 ∧ ¬ pu_gl V t m (pu_P2 V nr m σ t) 1 (σ.1 t) < 0) from fun q => q.2 g), if_neg (show ¬ (1 : Int32) = 0 by decide), if_pos g, if_neg (show ¬ (1 : Int32) = 0 by decide)]
        · rw [if_pos (show (1 : Int32) = 1 ∧ ¬ pu_gl V t m (pu_P2 V nr m σ t) 1 (σ.1 t) < 0 from ⟨rfl, g⟩), if_neg (show ¬ (1 : Int32) = 0 by decide), if_neg g, if_pos (show (0 : Int32) = 0 from rfl)]
    · rw [k25]
      unfold pu_rcd
      rw [if_neg (by decide), if_neg (by decide), if_neg (by decide), if_neg (by decide), if_pos rfl]
      by_cases g : pu_gl V t m (pu_P2 V nr m σ t) (pu_bb V nr m σ t) (σ.1 t) < 0
      · rw [if_pos g, if_neg (by decide)]
      · rw [if_neg g, if_pos rfl]
    · rw [k58 t, if_pos rfl, nxt_2]; unfold pu_rcd; rw [if_neg (by decide), if_neg (by decide), if_neg (by decide), if_neg (by decide), if_neg (by decide), if_pos rfl]
    · obtain ⟨w1, w2, w3⟩ := hW
      refine ih (t + 1) Md (by omega) ((hF.trans (fG.mono (by decide) (by decide))).trans (w1.mono (by decide) (by decide))) (fun r hr => ?_) (fun y hy => ?_) (fun r hr w hw => ?_) (fun r hr m' hm' hne w hw => ?_)
      · obtain ⟨b1, b2⟩ := ha r hr
        rw [w1.2.1 57 (by decide) (by decide), w1.2.1 58 (by decide) (by decide), k57 r, k58 r]
        by_cases e : r = t
        · rw [if_pos e, if_pos e, e, if_pos (by omega), if_pos (by omega)]
          exact ⟨rfl, rfl⟩
        · rw [if_neg e, if_neg e, b1, b2]
          by_cases q : r < t
          · rw [if_pos q, if_pos q, if_pos (by omega), if_pos (by omega)]
            exact ⟨rfl, rfl⟩
          · rw [if_neg q, if_neg q, if_neg (by omega), if_neg (by omega)]
            exact ⟨rfl, rfl⟩
      · rw [w3 y (by omega), n47]
        exact hn1 y hy
      · rcases (show r < t ∨ r = t by omega) with q | q
        · rw [w3 _ (by omega), n47]
          exact hn2 r q w hw
        · rw [q]
          exact w2 w hw
      · rw [w3 _ (by omega), n47]
        exact hn3 r hr m' hm' hne w hw
theorem lX10_raceF {X : z_Cx} (M : z_M) {V : Nat → Nat → Int32} {nm nr nb : Nat} (hN : z_CR V nm nr nb (z_nw M)) {T : Nat → Int32} (h1 : 1 ≤ nr) (hT : ∀ r, r < nr → M.1 58 0 r = T r) : ∀ (u t : Nat), t + u = nr → 1 ≤ t → z_Run X 4 mX10_race (fun v M' => v = nI (pu_win T nr) ∧ M' = z_s M 46 0 7 0) 472 [(0, zr 46 0), (6, zi (nI (pu_win T t))), (7, zi (nI t))] [] M := by
  have h4 := hN.1.2.1
  intro u
  induction u with
  | zero =>
    intro t ht h1t
    have e : t = nr := by omega
    subst e
    refine z_go_run KX10_race [(472, [0, 6, 7])] 80 ?_
    refine z_uR (hX10_runners M hN) (by decide) ?_
    refine ⟨fun _ => ?_, fun h => absurd (Int32.le_refl _) h⟩
    refine z_uW (hX10_through M _) (by decide) ?_
    exact ⟨rfl, rfl⟩
  | succ u ih =>
    intro t ht h1t
    have hw := (win_ok (T := T) t h1t).1
    have et : (nI t).toNatClampNeg = t := nI_clamp (by omega)
    have ew : (nI (pu_win T t)).toNatClampNeg = pu_win T t := nI_clamp (by omega)
    refine z_go_run KX10_race [(472, [0, 6, 7])] 80 ?_
    refine z_uR (hX10_runners M hN) (by decide) ?_
    refine ⟨fun h => absurd h (nI_ge (by omega) (by omega)), fun h => ?_⟩
    refine ⟨vp_in_nI (by omega) (by omega), vp_in_nI (by omega) (by omega), ?_⟩
    rw [et, ew, hT t (by omega), hT (pu_win T t) (by omega)]
    have h3 := ih (t + 1) (by omega) (by omega)
    rw [← nI_1 t] at h3
    refine ⟨fun g => ?_, fun g => ?_⟩
    · have e2 : pu_win T (t + 1) = pu_win T t := if_neg (Int32.not_lt.mpr g)
      rw [e2] at h3
      exact h3
    · have e2 : pu_win T (t + 1) = t := if_pos (Int32.not_le.mp g)
      rw [e2] at h3
      exact h3
/-- a race of the model -/
def z_Rn (V : Nat → Nat → Int32) (nm nr seed : Nat) (P0 : Nat → Int32) (M M' : z_M) : Prop := z_Fm [7, 24, 25] [47, 56, 57, 58, 59, 60] M M' ∧ M'.1 46 0 7 = 0 ∧ (∀ y, y < 190 → z_nw M' y = z_nw M y) ∧ z_nw M' 190 = 1 ∧ ∀ r, r < nr → ∀ m, m < nm → ∀ w, w < 6 → z_nw M' (191 + 72 * r + 6 * m + w) = pu_rcd V nr m (pu_rs V nr seed P0 m) r w
theorem lX10_raceM {X : z_Cx} (M0 M : z_M) {V : Nat → Nat → Int32} {nm nr nb : Nat} (hN : z_CR V nm nr nb (z_nw M)) (h0 : z_H0 M) (hM0 : z_Fm [] [56, 57, 58, 59] M0 M) {seed : Nat} {P0 : Nat → Int32} (hsd : seed ≤ 999999) (hP : ∀ r, r < nr → 10 ≤ P0 r ∧ P0 r ≤ 40) (h59 : ∀ r, r < 4 → M.1 59 0 r = if r < nr then 1 else 0) (h1 : 1 ≤ nr) : ∀ (u m : Nat) (Mc : z_M), m + u = nm → z_Fm [24, 25] [47, 56, 57, 58, 60] M Mc → z_Ra nr Mc (pu_rs V nr seed P0 m).1 (pu_rs V nr seed P0 m).2.1 (pu_rs V nr seed P0 m).2.2.1 → (∀ y, y < 191 → z_nw Mc y = z_nw M y) → (∀ r, r < nr → ∀ m', m' < m → ∀ w, w < 6 → z_nw Mc (191 + 72 * r + 6 * m' + w) = pu_rcd V nr m' (pu_rs V nr seed P0 m') r w) → z_Run X 4 mX10_race (fun v M' => v = nI (pu_win (pu_rs V nr seed P0 nm).2.1 nr) ∧ z_Rn V nm nr seed P0 M0 M') 155 [(0, zr 46 0), (3, zi (nI seed)), (4, zl (lN (pu_rs V nr seed P0 m).2.2.2)), (6, zi (nI m))] [] Mc := by
  have h4 := hN.1.2.1
  have h12 := hN.1.1
  have hs : ∀ r, r < nr → 1 ≤ V 4 r := fun r hr => (store_bd hN hr).1
  intro u
  induction u with
  | zero =>
    intro m Mc ht hF hA hn1 hn2
    have e : m = nm := by omega
    subst e
    have hNc : z_CR V m nr nb (z_nw Mc) := CR_cg hN (fun y hy => hn1 y (by omega))
    refine z_go_run KX10_race [(155, [0, 3, 4, 6]), (472, [0, 6, 7])] 80 ?_
    refine z_uR (hX10_miles Mc hNc) (by decide) ?_
    refine ⟨fun _ => ?_, fun h => absurd (Int32.le_refl _) h⟩
    refine ⟨vin (by decide) (by decide), ?_⟩
    have n1 : z_nw (z_s Mc 47 (Mc.2.2 46 0).toNat 190 1) = fun y => if y = 190 then 1 else z_nw Mc y := nw_s
    have f1 : z_Fm [24, 25] [47, 56, 57, 58, 60] M (z_s Mc 47 (Mc.2.2 46 0).toNat 190 1) := hF.s (by decide) (by decide)
    have hN1 : z_CR V m nr nb (z_nw (z_s Mc 47 (Mc.2.2 46 0).toNat 190 1)) := CR_cg hNc (fun y hy => by rw [n1]; exact if_neg (by omega))
    have e0 : pu_win (pu_rs V nr seed P0 m).2.1 1 = 0 := by
      show (if _ then 0 else 0) = 0
      split <;> rfl
    have h3 := lX10_raceF (X := X) (z_s Mc 47 (Mc.2.2 46 0).toNat 190 1) hN1 (T := (pu_rs V nr seed P0 m).2.1) h1 (fun r hr => by rw [z_gs, if_neg (by omega)]; exact (hA r hr).2.1) (nr - 1) 1 (by omega) (Nat.le_refl 1)
    rw [e0] at h3
    refine z_Run.post h3 ?_
    rintro v M' ⟨e1, e2⟩
    refine ⟨e1, ?_⟩
    subst e2
    have n2 : z_nw (z_s (z_s Mc 47 (Mc.2.2 46 0).toNat 190 1) 46 0 7 0) = fun y => if y = 190 then 1 else z_nw Mc y := by
      rw [nw_fm (J := [7]) (K := []) ((z_Fm.refl).s46 (by decide)) (by decide)]
      exact n1
    have nM : z_nw M = z_nw M0 := nw_fm hM0 (by decide)
    refine ⟨((hM0.mono (by decide) (by decide)).trans (f1.mono (by decide) (by decide))).s46 (by decide), by rw [z_gs, if_pos ⟨rfl, rfl, rfl⟩], fun y hy => ?_, ?_, fun r hr m' hm' w hw => ?_⟩
    · rw [n2]
      dsimp only
      rw [if_neg (by omega), hn1 y (by omega), nM]
    · rw [n2]
      dsimp only
      rw [if_pos rfl]
    · rw [n2]
      dsimp only
      rw [if_neg (by omega)]
      exact hn2 r hr m' hm' w hw
  | succ u ih =>
    intro m Mc ht hF hA hn1 hn2
    have hNc : z_CR V nm nr nb (z_nw Mc) := CR_cg hN (fun y hy => hn1 y (by omega))
    have ok := rs_ok (V := V) (nr := nr) hs hP (show seed < 2147483647 by omega) m (by omega)
    have hb : nI (1200 * m) ≤ 14400 := nI_le (b := 14400) (by omega) (by omega)
    have e59 : ∀ r, r < 4 → Mc.1 59 0 r = if r < nr then 1 else 0 := fun r hr => by rw [hF.2.1 59 (by decide) (by decide)]; exact h59 r hr
    have hss : seed = 0 ∧ (pu_rs V nr seed P0 m).2.2.2 = 0 ∨ seed ≠ 0 ∧ (pu_rs V nr seed P0 m).2.2.2 ≠ 0 := by
      have key : ∀ k, (seed = 0 → (pu_rs V nr seed P0 k).2.2.2 = 0) ∧ (seed ≠ 0 → (pu_rs V nr seed P0 k).2.2.2 ≠ 0 ∧ (pu_rs V nr seed P0 k).2.2.2 < 2147483647) := by
        intro k
        induction k with
        | zero => exact ⟨fun w => w, fun w => ⟨w, show seed < 2147483647 by omega⟩⟩
        | succ k ihk =>
          refine ⟨fun w => ?_, fun w => ?_⟩
          · show (pu_nxt V nr k (pu_rs V nr seed P0 k)).2.2.2 = 0
            rw [nxt_4, ihk.1 w, it_0]
          · show (pu_nxt V nr k (pu_rs V nr seed P0 k)).2.2.2 ≠ 0 ∧ (pu_nxt V nr k (pu_rs V nr seed P0 k)).2.2.2 < 2147483647
            rw [nxt_4]
            exact ⟨it_ne (ihk.2 w).1 (ihk.2 w).2 nr, it_lt (ihk.2 w).2 nr⟩
      rcases Nat.eq_zero_or_pos seed with w | w
      · exact Or.inl ⟨w, (key m).1 w⟩
      · exact Or.inr ⟨by omega, ((key m).2 (by omega)).1⟩
    have hl : pu_ml (Mc.1 59 0) (Mc.1 58 0) 4 = pu_mn 1000000000 (pu_rs V nr seed P0 m).2.1 nr := by
      rw [ml_mn (T' := (pu_rs V nr seed P0 m).2.1) e59 (fun o ho => (hA o ho).2.1) 4 (Nat.le_refl 4)]
      have e4 : (if 4 < nr then 4 else nr) = nr := if_neg (by omega)
      rw [e4]
      exact mn_eq (nr := nr) (fun o ho => ⟨(ok.1 o ho).2.1.1, Int32.le_trans (ok.1 o ho).2.1.2 hb⟩) nr h1 (Nat.le_refl nr)
    refine z_go_run KX10_race [(155, [0, 3, 4, 6]), (173, [0, 3, 4, 6, 7, 8])] 80 ?_
    refine z_uR (hX10_miles Mc hNc) (by decide) ?_
    refine ⟨fun h => absurd h (nI_ge (by omega) (by omega)), fun h => ?_⟩
    refine z_uR (hX10_leastTime Mc) (by decide) ?_
    refine lX10_raceP (L := (pu_rs V nr seed P0 m).1) (T := (pu_rs V nr seed P0 m).2.1) (P := (pu_rs V nr seed P0 m).2.2.1) (x := (pu_rs V nr seed P0 m).2.2.2) Mc hNc ok.2 hsd hss (fun r hr => (ok.1 r hr).2.2) hA hl (fun M1 hF1 h56 => ?_) nr 0 Mc (by omega) z_Fm.refl (fun r hr => by rw [if_neg (Nat.not_lt_zero r)]; exact (hA r hr).2.2)
    refine z_go_run KX10_race [(277, [0, 3, 4, 6, 8])] 80 ?_
    refine z_use (hX10_findShelters M1) (by decide) (fun _ M2 k => ?_)
    obtain ⟨k1, k2⟩ := k
    have fc2 : z_Fm [24, 25] [47, 56, 57, 58, 60] Mc M2 := (hF1.mono (by decide) (by decide)).trans (k1.mono (by decide) (by decide))
    have n2 : z_nw M2 = z_nw Mc := by rw [nw_fm k1 (by decide), nw_fm hF1 (by decide)]
    have hN2 : z_CR V nm nr nb (z_nw M2) := by rw [n2]; exact hNc
    have h02 : z_H0 M2 := ((h0.fm hF (by decide)).fm hF1 (by decide)).fm k1 (by decide)
    have e56 : ∀ r, r < nr → M2.1 56 0 r = pu_P2 V nr m (pu_rs V nr seed P0 m) r := fun r hr => by rw [k1.2.1 56 (by decide) (by decide)]; exact h56 r hr
    have e60 : ∀ r, r < nr → M2.1 60 0 r = pu_bb V nr m (pu_rs V nr seed P0 m) r := by
      intro r hr
      have q59 : ∀ o, o < 4 → M1.1 59 0 o = if o < nr then 1 else 0 := fun o ho => by rw [hF1.2.1 59 (by decide) (by decide)]; exact e59 o ho
      rw [k2 r (by omega), q59 r (by omega), if_pos hr, if_neg (by decide)]
      have q := Sm_S1 (U := M1.1 59 0) (T := M1.1 58 0) (P := M1.1 56 0) (T' := (pu_rs V nr seed P0 m).2.1) (P' := pu_P2 V nr m (pu_rs V nr seed P0 m)) q59 (fun o ho => by rw [hF1.2.1 58 (by decide) (by decide)]; exact (hA o ho).2.1) (fun o ho => h56 o ho) hr 4 (Nat.le_refl 4)
      have e4 : (if 4 < nr then 4 else nr) = nr := if_neg (by omega)
      rw [e4] at q
      rw [q]
    refine lX10_raceG (σ := pu_rs V nr seed P0 m) M2 hN2 h02 (show m < nm by omega) ok e56 e60 (fun Md g1 g2 g3 g5 g6 => ?_) nr 0 M2 (by omega) z_Fm.refl (fun r hr => ?_) (fun y hy => rfl) (fun r hr => absurd hr (Nat.not_lt_zero r)) (fun r hr m' hm' hne w hw => rfl)
    · have h3 := ih (m + 1) Md (by omega) ((hF.trans fc2).trans (g1.mono (by decide) (by decide))) g2 (fun y hy => by rw [g3 y hy, n2]; exact hn1 y hy) (fun r hr m' hm' w hw => by
        rcases (show m' < m ∨ m' = m by omega) with q | q
        · rw [g6 r hr m' (by omega) (by omega) w hw, n2]
          exact hn2 r hr m' q w hw
        · rw [q]
          exact g5 r hr w hw)
      exact h3
    · rw [if_neg (Nat.not_lt_zero r), if_neg (Nat.not_lt_zero r), k1.2.1 57 (by decide) (by decide), k1.2.1 58 (by decide) (by decide), hF1.2.1 57 (by decide) (by decide), hF1.2.1 58 (by decide) (by decide)]
      exact ⟨(hA r hr).1, (hA r hr).2.1⟩
