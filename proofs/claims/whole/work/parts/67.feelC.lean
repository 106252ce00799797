/-! ===== the class: the rule of feeling ===== -/
def pu_fn (V : Nat → Nat → Int32) (r m : Nat) (lo hi : Int32) (σ : Int32 × Int32 × Int32) : Int32 × Int32 × Int32 := (pu_l1 V r m (pu_cl (σ.2.2 + (if σ.1 < lo then -1 else if hi < σ.1 then 1 else 0))) 0 σ.1, σ.2.1 + pu_s1 V r m (pu_cl (σ.2.2 + (if σ.1 < lo then -1 else if hi < σ.1 then 1 else 0))) 0 σ.1, pu_cl (σ.2.2 + (if σ.1 < lo then -1 else if hi < σ.1 then 1 else 0)))
def pu_fs (V : Nat → Nat → Int32) (r : Nat) (p0 lo hi : Int32) : Nat → Int32 × Int32 × Int32
  | 0 => (V 4 r, 0, p0)
  | m + 1 => pu_fn V r m lo hi (pu_fs V r p0 lo hi m)
theorem fn_1 {V : Nat → Nat → Int32} {r m : Nat} {lo hi : Int32} {σ : Int32 × Int32 × Int32} : (pu_fn V r m lo hi σ).1 = pu_l1 V r m (pu_cl (σ.2.2 + (if σ.1 < lo then -1 else if hi < σ.1 then 1 else 0))) 0 σ.1 := by unfold pu_fn; rfl
theorem fn_2 {V : Nat → Nat → Int32} {r m : Nat} {lo hi : Int32} {σ : Int32 × Int32 × Int32} : (pu_fn V r m lo hi σ).2.1 = σ.2.1 + pu_s1 V r m (pu_cl (σ.2.2 + (if σ.1 < lo then -1 else if hi < σ.1 then 1 else 0))) 0 σ.1 := by unfold pu_fn; rfl
theorem fn_3 {V : Nat → Nat → Int32} {r m : Nat} {lo hi : Int32} {σ : Int32 × Int32 × Int32} : (pu_fn V r m lo hi σ).2.2 = pu_cl (σ.2.2 + (if σ.1 < lo then -1 else if hi < σ.1 then 1 else 0)) := by unfold pu_fn; rfl
theorem fs_ok {V : Nat → Nat → Int32} {r : Nat} {p0 lo hi : Int32} (hs : 1 ≤ V 4 r) : ∀ m, m ≤ 12 → (0 ≤ (pu_fs V r p0 lo hi m).1 ∧ (pu_fs V r p0 lo hi m).1 ≤ V 4 r) ∧ 0 ≤ (pu_fs V r p0 lo hi m).2.1 ∧ (pu_fs V r p0 lo hi m).2.1 ≤ nI (1200 * m) := by
  intro m
  induction m with
  | zero =>
    intro _
    refine ⟨⟨?_, Int32.le_refl _⟩, Int32.le_refl _, Int32.le_refl _⟩
    show 0 ≤ V 4 r
    grind
  | succ m ih =>
    intro hm
    obtain ⟨_, i2⟩ := ih (by omega)
    have e : nI (1200 * (m + 1)) = nI (1200 * m) + 1200 := by rw [show 1200 * (m + 1) = 1200 * m + 1200 by omega, ← nI_add]; rfl
    have hb : nI (1200 * m) ≤ 14400 := nI_le (b := 14400) (by omega) (by omega)
    show (0 ≤ (pu_fn V r m lo hi (pu_fs V r p0 lo hi m)).1 ∧ (pu_fn V r m lo hi (pu_fs V r p0 lo hi m)).1 ≤ V 4 r) ∧ 0 ≤ (pu_fn V r m lo hi (pu_fs V r p0 lo hi m)).2.1 ∧ (pu_fn V r m lo hi (pu_fs V r p0 lo hi m)).2.1 ≤ nI (1200 * (m + 1))
    rw [fn_1, fn_2, e]
    exact ⟨l1_bd hs, add_bd i2.1 i2.2 hb (s1_bd (cl_bd _))⟩
theorem lX3_felt {X : z_Cx} (M : z_M) {V : Nat → Nat → Int32} (hV : z_cv M 0 = V) {nm r : Nat} {p0 lo hi : Int32} (hnm : nm ≤ 12) (hm : M.1 6 0 1 = nI nm) (hs : 1 ≤ V 4 r) : ∀ (u m : Nat) (Mc : z_M), m + u = nm → z_Fr [29] M Mc → z_Bd V r Mc 0 (pu_fs V r p0 lo hi m).1 (pu_fs V r p0 lo hi m).2.1 (pu_fs V r p0 lo hi m).2.2 → Mc.1 29 0 7 = 0 → z_Run X 3 mX3_timeByFeeling (fun v M' => z_Fr [29] M M' ∧ v = (pu_fs V r p0 lo hi nm).2.1) 19 [(1, zr 6 0), (4, zi lo), (5, zi hi), (6, zr 29 0), (7, zi (nI m))] [] Mc := by
  intro u
  induction u with
  | zero =>
    intro m Mc ht hF hB h7
    have e : m = nm := by omega
    subst e
    refine z_go_run KX3_timeByFeeling [(19, [1, 4, 5, 6, 7])] 60 ?_
    refine ⟨fun _ => ⟨hF, hB.2.2.2.2.1⟩, fun h => ?_⟩
    rw [hF.2 6 (by decide), hm] at h
    exact absurd (Int32.le_refl _) h
  | succ u ih =>
    intro m Mc ht hF hB h7
    have hVc : z_cv Mc 0 = V := by rw [z_cvF hF no29]; exact hV
    obtain ⟨b0, b1, b2, b3, b4, b5⟩ := id hB
    have go : ∀ d : Int32, d = (if (pu_fs V r p0 lo hi m).1 < lo then -1 else if hi < (pu_fs V r p0 lo hi m).1 then 1 else 0) → z_Run X 3 mX3_timeByFeeling (fun v M' => z_Fr [29] M M' ∧ v = (pu_fs V r p0 lo hi nm).2.1) 59 [(1, zr 6 0), (4, zi lo), (5, zi hi), (6, zr 29 0), (7, zi (nI m))] [zi d, zr 29 0] Mc := by
      intro d ed
      refine z_go_run KX3_timeByFeeling [(19, [1, 4, 5, 6, 7])] 60 ?_
      refine z_uV (hX1_changePace Mc 0 d) (by decide) (fun _ => ?_)
      have hB1 := hB.s5 (v := pu_cl (Mc.1 29 0 5 + d))
      have hF1 : z_Fr [29] M (z_s Mc 29 0 5 (pu_cl (Mc.1 29 0 5 + d))) := hF.s (by decide)
      have hV1 : z_cv (z_s Mc 29 0 5 (pu_cl (Mc.1 29 0 5 + d))) 0 = V := by rw [z_cvF hF1 no29]; exact hV
      have h71 : (z_s Mc 29 0 5 (pu_cl (Mc.1 29 0 5 + d))).1 29 0 7 = 0 := by rw [z_gs, if_neg (by omega)]; exact h7
      refine z_use (hX1_run _ V hV1 0 r m (by omega) _ _ _ 0 hB1 h71 (Or.inl rfl) (cl_bd _).1 hs) (by decide) (fun _ M1 k => ?_)
      obtain ⟨k1, k2, k3⟩ := k
      have h3 := ih (m + 1) M1 (by omega) (hF1.trans k3.fr) (by
        show z_Bd V r M1 0 (pu_fn V r m lo hi (pu_fs V r p0 lo hi m)).1 (pu_fn V r m lo hi (pu_fs V r p0 lo hi m)).2.1 (pu_fn V r m lo hi (pu_fs V r p0 lo hi m)).2.2
        rw [fn_1, fn_2, fn_3, ← ed, ← b5]
        exact k1) (by rw [k2.2.1]; exact if_neg (fun w => absurd w.1 (by decide)))
      rw [← nI_1] at h3
      exact h3
    refine z_go_run KX3_timeByFeeling [(19, [1, 4, 5, 6, 7]), (59, [1, 4, 5, 6, 7])] 60 ?_
    refine ⟨fun h => ?_, fun h => ?_⟩
    · rw [hF.2 6 (by decide), hm] at h
      exact absurd h (nI_ge (by omega) (by omega))
    · refine ⟨fun g => ?_, fun g => ?_⟩ <;> rw [b3] at g
      · refine ⟨fun g2 => ?_, fun g2 => ?_⟩ <;> rw [b3] at g2
        · exact go 0 (by rw [if_neg (Int32.not_lt.mpr g), if_neg (Int32.not_lt.mpr g2)])
        · exact go 1 (by rw [if_neg (Int32.not_lt.mpr g), if_pos (Int32.not_le.mp g2)])
      · exact go (-1) (by rw [if_pos (Int32.not_le.mp g)])
theorem hX3_felt {X : z_Cx} (M : z_M) {V : Nat → Nat → Int32} (hV : z_cv M 0 = V) {nm r : Nat} (p0 lo hi : Int32) (hnm : nm ≤ 12) (hm : M.1 6 0 1 = nI nm) (hr : r < 4) (hs : 1 ≤ V 4 r) : z_Con X 3 mX3_timeByFeeling [zr 27 0, zr 6 0, zi (nI r), zi p0, zi lo, zi hi] M (fun v M' => z_Fr [29] M M' ∧ v = (pu_fs V r p0 lo hi nm).2.1) := by
  refine z_mg KX3_timeByFeeling [(19, [1, 4, 5, 6, 7])] 60 (by decide +kernel) rfl ?_
  refine ⟨vin (by decide) (by decide), ?_⟩
  refine z_use (hX1_start M 0 r hr p0) (by decide) (fun _ M1 k => ?_)
  obtain ⟨k1, k2, k3⟩ := k
  refine lX3_felt M hV hnm hm hs nm 0 M1 (by omega) k3.fr ?_ k2
  rw [hV] at k1
  have e11 : M.1 11 0 r = V 4 r := by rw [← hV]; rfl
  rw [e11] at k1
  exact k1
/-- the least of the first t, and which it is -/
def pu_bst (N : Int32) (T : Nat → Int32) : Nat → Int32 × Int32
  | 0 => (N, 0)
  | t + 1 => if T t < (pu_bst N T t).1 then (T t, nI t) else pu_bst N T t
theorem ix10 {t : Nat} (ht : t < 100) : nI t / 10 * 10 = nI (t / 10 * 10) ∧ (nI t - nI t / 10 * 10) * 10 = nI (t % 10 * 10) := by
  have e1 : nI t / 10 = nI (t / 10) := nI_divN (b := 10) (by omega) (by omega) (by omega)
  have e2 : nI t - nI t / 10 * 10 = nI (t % 10) := nI_rem (b := 10) (by omega) (by omega) (by omega)
  rw [e2, e1]
  exact ⟨pk_mul (t / 10) 10, pk_mul (t % 10) 10⟩
theorem lX9_feeling {X : z_Cx} (M : z_M) {V : Nat → Nat → Int32} (hV : z_cv M 0 = V) {nm r : Nat} (p0 wh : Int32) (hnm : nm ≤ 12) (hm : M.1 6 0 1 = nI nm) (hr : r < 4) (hs : 1 ≤ V 4 r) : ∀ (u t : Nat) (Mc : z_M), t + u = 100 → z_Fr [29] M Mc → z_Run X 4 mX9_feeling (fun v M' => z_Fr [29] M M' ∧ v = if wh = 0 then (pu_bst 1000000000 (fun t => (pu_fs V r p0 (nI (t / 10 * 10)) (nI (t % 10 * 10)) nm).2.1) 100).2 else (pu_bst 1000000000 (fun t => (pu_fs V r p0 (nI (t / 10 * 10)) (nI (t % 10 * 10)) nm).2.1) 100).1) 40 [(0, zr 0 0), (1, zi (nI r)), (2, zi p0), (3, zi wh), (4, zi (pu_bst 1000000000 (fun t => (pu_fs V r p0 (nI (t / 10 * 10)) (nI (t % 10 * 10)) nm).2.1) t).1), (5, zi (pu_bst 1000000000 (fun t => (pu_fs V r p0 (nI (t / 10 * 10)) (nI (t % 10 * 10)) nm).2.1) t).2), (6, zi (nI t))] [] Mc := by
  intro u
  induction u with
  | zero =>
    intro t Mc ht hF
    have e : t = 100 := by omega
    subst e
    refine z_go_run KX9_feeling [(40, [0, 1, 2, 3, 4, 5, 6])] 60 ?_
    refine ⟨fun _ => ?_, fun h => absurd (by decide) h⟩
    exact ⟨fun g => ⟨hF, by rw [if_neg g]⟩, fun g => ⟨hF, by rw [if_pos g]⟩⟩
  | succ u ih =>
    intro t Mc ht hF
    have hVc : z_cv Mc 0 = V := by rw [z_cvF hF no29]; exact hV
    obtain ⟨x1, x2⟩ := ix10 (show t < 100 by omega)
    refine z_go_run KX9_feeling [(40, [0, 1, 2, 3, 4, 5, 6])] 60 ?_
    refine ⟨fun h => absurd h (nI_ge (b := 100) (by omega) (by omega)), fun h => ?_⟩
    refine ⟨by decide, by decide, ?_⟩
    have hc : z_Con X 3 mX3_timeByFeeling [zr 27 0, zr 6 0, zi (nI r), zi p0, zi (nI t / 10 * 10), zi ((nI t - nI t / 10 * 10) * 10)] Mc (fun v M' => z_Fr [29] Mc M' ∧ v = (pu_fs V r p0 (nI (t / 10 * 10)) (nI (t % 10 * 10)) nm).2.1) := by
      rw [x2, x1]
      exact hX3_felt Mc hVc p0 _ _ hnm (by rw [hF.2 6 (by decide)]; exact hm) hr hs
    refine z_use hc (by decide) (fun v M1 k => ?_)
    obtain ⟨k1, k2⟩ := k
    subst k2
    have es : pu_bst 1000000000 (fun t => (pu_fs V r p0 (nI (t / 10 * 10)) (nI (t % 10 * 10)) nm).2.1) (t + 1) = if (pu_fs V r p0 (nI (t / 10 * 10)) (nI (t % 10 * 10)) nm).2.1 < (pu_bst 1000000000 (fun t => (pu_fs V r p0 (nI (t / 10 * 10)) (nI (t % 10 * 10)) nm).2.1) t).1 then ((pu_fs V r p0 (nI (t / 10 * 10)) (nI (t % 10 * 10)) nm).2.1, nI t) else pu_bst 1000000000 (fun t => (pu_fs V r p0 (nI (t / 10 * 10)) (nI (t % 10 * 10)) nm).2.1) t := by
      conv => lhs; unfold pu_bst
    have h3 := ih (t + 1) M1 (by omega) (hF.trans k1)
    rw [← nI_1, es] at h3
    refine ⟨fun g => ?_, fun g => ?_⟩
    · rw [if_neg (Int32.not_lt.mpr g)] at h3
      exact h3
    · rw [if_pos (Int32.not_le.mp g)] at h3
      exact h3
def pu_feel (N : Int32) (V : Nat → Nat → Int32) (nm r : Nat) (p0 wh : Int32) : Int32 := if wh = 0 then (pu_bst N (fun t => (pu_fs V r p0 (nI (t / 10 * 10)) (nI (t % 10 * 10)) nm).2.1) 100).2 else (pu_bst N (fun t => (pu_fs V r p0 (nI (t / 10 * 10)) (nI (t % 10 * 10)) nm).2.1) 100).1
theorem hX9_feeling {X : z_Cx} (M : z_M) {V : Nat → Nat → Int32} (hV : z_cv M 0 = V) {nm n : Nat} (hn : n ≤ 4) (hnm : nm ≤ 12) (hnr : M.1 6 0 5 = nI n) (hm : M.1 6 0 1 = nI nm) (hs : ∀ r, r < n → 1 ≤ V 4 r) (ru p0 wh : Int32) : z_Con X 4 mX9_feeling [zr 0 0, zi ru, zi p0, zi wh] M (fun v M' => z_Fr [29] M M' ∧ ((¬ (pu_ru n ru ∧ (10 ≤ p0 ∧ p0 ≤ 40) ∧ 0 ≤ wh ∧ wh ≤ 1) ∧ v = -1000001) ∨ (∃ r, r < n ∧ ru = nI r ∧ (10 ≤ p0 ∧ p0 ≤ 40) ∧ 0 ≤ wh ∧ wh ≤ 1 ∧ v = pu_feel 1000000000 V nm r p0 wh))) := by
  refine z_mg KX9_feeling [(40, [0, 1, 2, 3, 4, 5, 6])] 60 (by decide +kernel) rfl ?_
  refine z_uR (hX2_hasRunner M 0 ru) (by decide) ?_
  refine ⟨fun h => ?_, fun h => ?_⟩ <;> rw [hnr] at h
  · exact ⟨z_Fr.refl, Or.inl ⟨fun w => absurd w.1 (by unfold pu_ru; grind), rfl⟩⟩
  · have hru : pu_ru n ru := by unfold pu_ru; grind
    obtain ⟨r, hr, er⟩ := ru_of (by omega) hru
    subst er
    refine z_uR (hX9_isPace p0 M) (by decide) ?_
    refine ⟨fun h2 => ⟨z_Fr.refl, Or.inl ⟨fun w => absurd w.2.1 (by grind), rfl⟩⟩, fun h2 => ?_⟩
    have hp : 10 ≤ p0 ∧ p0 ≤ 40 := by grind
    refine z_uR (hX9_within wh 0 1 M) (by decide) ?_
    refine ⟨fun h3 => ?_, fun h3 => ⟨z_Fr.refl, Or.inl ⟨fun w => absurd w.2.2 (by grind), rfl⟩⟩⟩
    have hw : 0 ≤ wh ∧ wh ≤ 1 := by grind
    refine z_Run.post (lX9_feeling (X := X) M hV p0 wh hnm hm (by omega) (hs r hr) 100 0 M (by omega) z_Fr.refl) ?_
    rintro v M' ⟨e1, e2⟩
    exact ⟨e1, Or.inr ⟨r, hr, rfl, hp, hw.1, hw.2, e2⟩⟩
