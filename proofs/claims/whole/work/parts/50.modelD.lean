/-! ===== the model alone: even, early, hired, stays ===== -/
theorem lae_bd {C : Nat → Nat → Int32} {st : Int32} {n b t : Nat} (hs : st = nI n) (hn : n ≤ 99) (h : ¬ pu_lae C st b t < 0) : 0 ≤ pu_lae C st b t ∧ pu_lae C st b t ≤ st := by
  obtain ⟨l, hl, e⟩ := lae_left hs hn t h
  rw [e, hs]
  exact ⟨nI_pos' (by omega), nI_le hl (by omega)⟩
theorem lX10_evenTime {X : z_Cx} (M : z_M) {V : Nat → Nat → Int32} {nm nr nb : Nat} (hN : z_CR V nm nr nb (z_nw M)) (hH : z_Hh M) (r : Nat) (hr : r < nr) (set : Int32) (b n : Nat) (hb : b < 31) (en : V 4 r = nI n) (hn : n ≤ 99) : ∀ (u t : Nat), t + u = nm → ¬ pu_lae (z_mC M V nb r set) (V 4 r) b t < 0 → z_Run X 3 mX10_evenTime (fun v M' => M' = M ∧ v = if pu_lae (z_mC M V nb r set) (V 4 r) b nm < 0 then 100000000 else nI nm * pu_sec b) 11 [(0, zr 46 0), (1, zi (nI r)), (2, zi set), (3, zi (nI (10 + b))), (4, zi (pu_lae (z_mC M V nb r set) (V 4 r) b t)), (5, zi (nI t))] [] M := by
  have h12 := hN.1.1
  intro u
  induction u with
  | zero =>
    intro t ht hf
    have e : t = nm := by omega
    subst e
    refine z_go_run KX10_evenTime [(11, [0, 1, 2, 3, 4, 5])] 60 ?_
    refine z_uR (hX10_miles M hN) (by decide) ?_
    refine ⟨fun h => ?_, fun h => absurd (Int32.le_refl _) h⟩
    refine z_uR (hX10_miles M hN) (by decide) ?_
    refine z_uR (hX10_secondsBy M (nI (10 + b)) (z_10 hb).1.1) (by decide) ?_
    exact ⟨rfl, by rw [if_neg hf]; rfl⟩
  | succ u ih =>
    intro t ht hf
    have hbd := lae_bd en hn hf
    have es : pu_lae (z_mC M V nb r set) (V 4 r) b (t + 1) = pu_lb (z_mC M V nb r set) (V 4 r) t b (pu_lae (z_mC M V nb r set) (V 4 r) b t) := if_neg hf
    refine z_go_run KX10_evenTime [(11, [0, 1, 2, 3, 4, 5])] 60 ?_
    refine z_uR (hX10_miles M hN) (by decide) ?_
    refine ⟨fun h => absurd h (nI_ge (by omega) (by omega)), fun h => ?_⟩
    refine z_uR (hX10_leftAlone M hN hH r hr set t b (by omega) hb _ hbd.1 hbd.2) (by decide) ?_
    rw [← es]
    refine ⟨fun h2 => ?_, fun h2 => ?_⟩
    · have h3 := ih (t + 1) (by omega) (Int32.not_lt.mpr h2)
      rw [← nI_1] at h3
      exact h3
    · have h3 : pu_lae (z_mC M V nb r set) (V 4 r) b (t + 1) < 0 := Int32.not_le.mp h2
      have h4 := lae_stop h3 u
      rw [show t + 1 + u = nm by omega] at h4
      exact ⟨rfl, by rw [h4, if_pos h3]⟩
theorem hX10_evenTime {X : z_Cx} (M : z_M) {V : Nat → Nat → Int32} {nm nr nb : Nat} (hN : z_CR V nm nr nb (z_nw M)) (hH : z_Hh M) (r : Nat) (hr : r < nr) (set : Int32) (b n : Nat) (hb : b < 31) (en : V 4 r = nI n) (hn : n ≤ 99) : z_Con X 3 mX10_evenTime [zr 46 0, zi (nI r), zi set, zi (nI (10 + b))] M (fun v M' => M' = M ∧ v = if pu_lae (z_mC M V nb r set) (V 4 r) b nm < 0 then 100000000 else nI nm * pu_sec b) := by
  refine z_mg KX10_evenTime [(11, [0, 1, 2, 3, 4, 5])] 60 (by decide +kernel) rfl ?_
  refine z_uR (hX10_store0 M hN r hr) (by decide) ?_
  exact lX10_evenTime M hN hH r hr set b n hb en hn nm 0 (by omega) (by
    show ¬ V 4 r < 0
    rw [en]
    exact nI_pos (by omega))
theorem sec_str : ∀ b, b < 31 → ∀ c, c < b → 12000 / (10 + b) < 12000 / (10 + c) := by decide
/-- the best even pace of those below t, as the model holds it -/
def pu_eb (e : Int32) : Int32 := if e = 0 then -1000000 else e
def pu_et (nm : Nat) (e : Int32) : Int32 := if e = 0 then 100000000 else nI nm * (12000 / e)
theorem ev_of {C : Nat → Nat → Int32} {st : Int32} {nm : Nat} : ∀ n, n ≤ 31 → pu_ev C st nm n = 0 ∨ ∃ c, c < n ∧ pu_ev C st nm n = nI (10 + c) := by
  intro n
  induction n with
  | zero => intro _; exact Or.inl rfl
  | succ n ih =>
    intro hn
    unfold pu_ev
    split
    · exact Or.inr ⟨n, by omega, rfl⟩
    · rcases ih (by omega) with e | ⟨c, hc, e⟩
      · exact Or.inl e
      · exact Or.inr ⟨c, by omega, e⟩
theorem p_ne0 {c : Nat} (hc : c < 31) : ¬ nI (10 + c) = 0 := nI_ne0 (by omega) (by omega)
theorem nms {nm b : Nat} (h1 : 1 ≤ nm) (h12 : nm ≤ 12) (hb : b < 31) : nI nm * pu_sec b = nI (nm * (12000 / (10 + b))) ∧ nm * (12000 / (10 + b)) ≤ 14400 ∧ 1 ≤ nm * (12000 / (10 + b)) := by
  have h2 : 12000 / (10 + b) ≤ 12000 / 10 := Nat.div_le_div_left (by omega) (by omega)
  have h3 : 12000 / 40 ≤ 12000 / (10 + b) := Nat.div_le_div_left (by omega) (by omega)
  refine ⟨by rw [sec_nI hb, pk_mul], ?_, ?_⟩
  · exact Nat.le_trans (Nat.mul_le_mul h12 h2) (by omega)
  · exact Nat.le_trans (by omega) (Nat.mul_le_mul h1 h3)
theorem lX10_even {X : z_Cx} (M : z_M) {V : Nat → Nat → Int32} {nm nr nb : Nat} (hN : z_CR V nm nr nb (z_nw M)) (hH : z_Hh M) (r : Nat) (hr : r < nr) (set what : Int32) (n : Nat) (en : V 4 r = nI n) (hn : n ≤ 99) : ∀ (u t : Nat), t + u = 31 → z_Run X 4 mX10_even (fun v M' => M' = M ∧ v = if pu_ev (z_mC M V nb r set) (V 4 r) nm 31 = 0 then -1000000 else if what = 0 then pu_ev (z_mC M V nb r set) (V 4 r) nm 31 else nI nm * (12000 / pu_ev (z_mC M V nb r set) (V 4 r) nm 31)) 42 [(0, zr 46 0), (1, zi (nI r)), (2, zi set), (3, zi what), (4, zi (pu_eb (pu_ev (z_mC M V nb r set) (V 4 r) nm t))), (5, zi (pu_et nm (pu_ev (z_mC M V nb r set) (V 4 r) nm t))), (6, zi (nI (10 + t)))] [] M := by
  have h12 := hN.1.1
  have h1 : 1 ≤ nm := hN.1.2.2.2.2.2.2.2 (by omega)
  intro u
  induction u with
  | zero =>
    intro t ht
    have e : t = 31 := by omega
    subst e
    refine z_go_run KX10_even [(42, [0, 1, 2, 3, 4, 5, 6])] 60 ?_
    refine ⟨fun h => ?_, fun h => absurd (by decide) h⟩
    rcases ev_of (C := z_mC M V nb r set) (st := V 4 r) (nm := nm) 31 (Nat.le_refl 31) with e | ⟨c, hc, e⟩
    · rw [e]
      refine ⟨fun g => ⟨rfl, rfl⟩, fun g => absurd rfl g⟩
    · have hne : ¬ nI (10 + c) = 0 := p_ne0 hc
      have hne2 : ¬ nI (10 + c) = -1000000 := by
        have := (z_10 hc).1
        grind
      rw [e]
      unfold pu_eb pu_et
      rw [if_neg hne, if_neg hne, if_neg hne]
      refine ⟨fun g => absurd g hne2, fun g => ⟨fun g2 => ⟨rfl, by rw [if_neg g2]⟩, fun g2 => ⟨rfl, by rw [if_pos g2]⟩⟩⟩
  | succ u ih =>
    intro t ht
    have ht31 : t < 31 := by omega
    have nx : ∀ x y : Int32, x = pu_eb (pu_ev (z_mC M V nb r set) (V 4 r) nm (t + 1)) → y = pu_et nm (pu_ev (z_mC M V nb r set) (V 4 r) nm (t + 1)) → z_Run X 4 mX10_even (fun v M' => M' = M ∧ v = if pu_ev (z_mC M V nb r set) (V 4 r) nm 31 = 0 then -1000000 else if what = 0 then pu_ev (z_mC M V nb r set) (V 4 r) nm 31 else nI nm * (12000 / pu_ev (z_mC M V nb r set) (V 4 r) nm 31)) 42 [(0, zr 46 0), (1, zi (nI r)), (2, zi set), (3, zi what), (4, zi x), (5, zi y), (6, zi (nI (10 + t) + 1))] [] M := by
      intro x y hx hy
      rw [hx, hy, nI_1]
      exact ih (t + 1) (by omega)
    have hs := nms h1 h12 ht31
    have old : ¬ pu_et nm (pu_ev (z_mC M V nb r set) (V 4 r) nm t) ≤ nI nm * pu_sec t := by
      rw [hs.1]
      rcases ev_of (C := z_mC M V nb r set) (st := V 4 r) (nm := nm) t (by omega) with e | ⟨c, hc, e⟩
      · rw [e]
        exact nI_ge (b := 100000000) (by omega) (by omega)
      · have hs2 := nms h1 h12 (show c < 31 by omega)
        rw [e]
        unfold pu_et
        rw [if_neg (p_ne0 (show c < 31 by omega))]
        show ¬ nI nm * pu_sec c ≤ _
        rw [hs2.1]
        refine nI_ge ?_ (by omega)
        exact Nat.mul_lt_mul_of_pos_left (sec_str t ht31 c hc) (by omega)
    have old2 : pu_et nm (pu_ev (z_mC M V nb r set) (V 4 r) nm t) ≤ 100000000 := by
      rcases ev_of (C := z_mC M V nb r set) (st := V 4 r) (nm := nm) t (by omega) with e | ⟨c, hc, e⟩
      · rw [e]
        exact Int32.le_refl _
      · have hs2 := nms h1 h12 (show c < 31 by omega)
        rw [e]
        unfold pu_et
        rw [if_neg (p_ne0 (show c < 31 by omega))]
        show nI nm * pu_sec c ≤ _
        rw [hs2.1]
        exact nI_le (b := 100000000) (by omega) (by omega)
    refine z_go_run KX10_even [(42, [0, 1, 2, 3, 4, 5, 6])] 60 ?_
    refine ⟨fun h => absurd h (Int32.not_lt.mpr (z_10 ht31).1.2), fun h => ?_⟩
    refine z_uR (hX10_evenTime M hN hH r hr set t n ht31 en hn) (by decide) ?_
    by_cases hf : pu_lae (z_mC M V nb r set) (V 4 r) t nm < 0
    · have es : pu_ev (z_mC M V nb r set) (V 4 r) nm (t + 1) = pu_ev (z_mC M V nb r set) (V 4 r) nm t := if_neg (Int32.not_le.mpr hf)
      rw [if_pos hf]
      refine ⟨fun g => ?_, fun g => absurd old2 g⟩
      refine ⟨fun g => ?_, fun g => absurd old2 g⟩
      exact nx _ _ (by rw [es]) (by rw [es])
    · have es : pu_ev (z_mC M V nb r set) (V 4 r) nm (t + 1) = nI (10 + t) := if_pos (Int32.not_lt.mp hf)
      rw [if_neg hf]
      refine ⟨fun g => absurd g old, fun g => ?_⟩
      refine ⟨fun g => absurd g old, fun g => ?_⟩
      refine nx _ _ ?_ ?_
      · rw [es]
        unfold pu_eb
        rw [if_neg (p_ne0 ht31)]
      · rw [es]
        unfold pu_et
        rw [if_neg (p_ne0 ht31)]
        rfl
theorem hX10_even {X : z_Cx} (M : z_M) {V : Nat → Nat → Int32} {nm nr nb : Nat} (hN : z_CR V nm nr nb (z_nw M)) (h0 : z_H0 M) (ru set what : Int32) : z_Con X 4 mX10_even [zr 46 0, zi ru, zi set, zi what] M (fun v M' => M' = M ∧ ((¬ (pu_ru nr ru ∧ pu_se nb set ∧ 0 ≤ what ∧ what ≤ 1) ∧ v = -1000001) ∨ (∃ r, r < nr ∧ ru = nI r ∧ pu_se nb set ∧ 0 ≤ what ∧ what ≤ 1 ∧ v = pu_even V nm nb r set what))) := by
  have h12 := hN.1.1
  have h4 := hN.1.2.1
  refine z_mg KX10_even [(42, [0, 1, 2, 3, 4, 5, 6])] 80 (by decide +kernel) rfl ?_
  refine z_uR (hX10_isRunner M hN ru) (by decide) ?_
  refine ⟨fun h => ?_, fun h => ?_⟩
  · exact ⟨rfl, Or.inl ⟨fun w => absurd w.1 (by unfold pu_ru; grind), rfl⟩⟩
  · have hru : pu_ru nr ru := by unfold pu_ru; grind
    obtain ⟨r, hr, er⟩ := ru_of (by omega) hru
    subst er
    refine z_uR (hX10_isSet M hN set) (by decide) ?_
    refine ⟨fun h2 => ?_, fun h2 => ?_⟩
    · exact ⟨rfl, Or.inl ⟨fun w => absurd w.2.1 (by unfold pu_se; grind), rfl⟩⟩
    · have hse : pu_se nb set := by unfold pu_se; grind
      refine z_uR (hX10_inI M what 0 1 (by decide) (by decide)) (by decide) ?_
      refine ⟨fun h3 => ?_, fun h3 => ?_⟩
      · have hw : 0 ≤ what ∧ what ≤ 1 := by grind
        obtain ⟨n, _, hn, en⟩ := (hN.2.2.1 r hr).2.2.2.2.2.1
        refine z_Run.post (lX10_even (X := X) M hN h0.h r hr set what n en hn 31 0 (by omega)) ?_
        rintro v M' ⟨rfl, rfl⟩
        refine ⟨rfl, Or.inr ⟨r, hr, rfl, hse, hw.1, hw.2, ?_⟩⟩
        unfold pu_even
        rw [ev_cg (fun a ha b hb => h0.C h12 a ha b hb) 31 (Nat.le_refl 31)]
      · exact ⟨rfl, Or.inl ⟨fun w => absurd w.2.2 (by grind), rfl⟩⟩
theorem hX10_early {X : z_Cx} (M : z_M) {V : Nat → Nat → Int32} {nm nr nb : Nat} (hN : z_CR V nm nr nb (z_nw M)) (h0 : z_H0 M) (ru d : Int32) : z_Con X 6 mX10_early [zr 46 0, zi ru, zi d] M (fun v M' => z_Fr [61] M M' ∧ ((¬ (pu_ru nr ru ∧ 1 ≤ d ∧ d ≤ 20) ∧ v = -1000001) ∨ (∃ r, r < nr ∧ ru = nI r ∧ 1 ≤ d ∧ d ≤ 20 ∧ v = pu_early V nm nb r d))) := by
  have h12 := hN.1.1
  have h4 := hN.1.2.1
  refine z_mg KX10_early [] 80 (by decide +kernel) rfl ?_
  refine z_uR (hX10_isRunner M hN ru) (by decide) ?_
  refine ⟨fun h => ?_, fun h => ?_⟩
  · exact ⟨z_Fr.refl, Or.inl ⟨fun w => absurd w.1 (by unfold pu_ru; grind), rfl⟩⟩
  · have hru : pu_ru nr ru := by unfold pu_ru; grind
    obtain ⟨r, hr, er⟩ := ru_of (by omega) hru
    subst er
    have h1 : 1 ≤ nm := hN.1.2.2.2.2.2.2.2 (by omega)
    refine z_uR (hX10_inI M d 1 20 (by decide) (by decide)) (by decide) ?_
    refine ⟨fun h3 => ?_, fun h3 => ?_⟩
    · have hd : 1 ≤ d ∧ d ≤ 20 := by grind
      obtain ⟨n, _, hn, en⟩ := (hN.2.2.1 r hr).2.2.2.2.2.1
      refine z_use (hX10_leastAll M hN h0.h r hr 0 n en hn) (by decide) (fun v M1 h1 => ?_)
      obtain ⟨e1, hF, hL⟩ := h1
      have hN1 : z_CR V nm nr nb (z_nw M1) := by rw [nw_fr hF (by decide)]; exact hN
      have hH1 : z_H0 M1 := h0.fr hF (by decide)
      have eC : z_mC M1 V nb r 0 = z_mC M V nb r 0 := by
        show pu_C V (z_hm M1) 0 nb (V 3 r) (V 5 r) = _
        rw [hm_fr hF (by decide)]
      have hT := GH_fin h12 (T_of hN h0 hr en hn 0)
      subst e1
      refine ⟨fun g => ?_, fun g => ?_⟩
      · have g1 : ¬ 100000000 ≤ pu_H (z_mC M V nb r 0) (V 4 r) nm nm n := Int32.not_le.mpr g
        have gT : ¬ 1000000000 ≤ pu_T V 0 nm nb r := fun w => g1 (hT.1.mp w)
        refine z_uR (hX10_store0 M1 hN1 r hr) (by decide) ?_
        rw [show zi (V 4 r) = zi (nI n) by rw [en]]
        have g2 : ¬ 100000000 ≤ pu_H (z_mC M1 V nb r 0) (V 4 r) nm (nm - 0) n := by rw [eC]; exact g1
        refine z_uR (hX10_paceFor M1 hN1 hH1.h r hr 0 0 n n (by omega) en hn (Nat.le_refl n) (fun a ha x hx => by rw [eC]; exact hL a (Nat.zero_le a) ha x hx) g2) (by decide) ?_
        refine z_uR (hX10_brought M1 _) (by decide) ?_
        have hb := fp_lt (C := z_mC M1 V nb r 0) (st := V 4 r) (nm := nm) (m := 0) (left := nI n) 31 0 (by omega)
        have ep : pu_fp (z_mC M1 V nb r 0) (V 4 r) nm 0 (nI n) 31 0 = (pu_pb (pu_Cr V 0 nb r) (V 4 r) nm 1).1 := by
          rw [← pb_cg (fun a ha b hb => hH1.C h12 a ha b hb) 1 h1]
          show _ = (if V 4 r < 0 then (0, V 4 r) else (pu_fp (z_mC M1 V nb r 0) (V 4 r) nm 0 (V 4 r) 31 0, _)).1
          rw [if_neg (by rw [en]; exact nI_pos (by omega)), en]
        have hp0 := (z_10 hb).1
        have ew : (if nI (10 + pu_fp (z_mC M1 V nb r 0) (V 4 r) nm 0 (nI n) 31 0) + d < 10 then 10 else if 40 < nI (10 + pu_fp (z_mC M1 V nb r 0) (V 4 r) nm 0 (nI n) 31 0) + d then 40 else nI (10 + pu_fp (z_mC M1 V nb r 0) (V 4 r) nm 0 (nI n) 31 0) + d) = (if 40 < nI (10 + (pu_pb (pu_Cr V 0 nb r) (V 4 r) nm 1).1) + d then 40 else nI (10 + (pu_pb (pu_Cr V 0 nb r) (V 4 r) nm 1).1) + d) := by
          rw [← ep]
          generalize nI (10 + pu_fp (z_mC M1 V nb r 0) (V 4 r) nm 0 (nI n) 31 0) = x at hp0 ⊢
          grind
        have hw : 10 ≤ (if 40 < nI (10 + (pu_pb (pu_Cr V 0 nb r) (V 4 r) nm 1).1) + d then 40 else nI (10 + (pu_pb (pu_Cr V 0 nb r) (V 4 r) nm 1).1) + d) ∧ (if 40 < nI (10 + (pu_pb (pu_Cr V 0 nb r) (V 4 r) nm 1).1) + d then 40 else nI (10 + (pu_pb (pu_Cr V 0 nb r) (V 4 r) nm 1).1) + d) ≤ 40 := by
          rw [← ep]
          generalize nI (10 + pu_fp (z_mC M1 V nb r 0) (V 4 r) nm 0 (nI n) 31 0) = x at hp0 ⊢
          constructor <;> grind
        rw [ew]
        generalize hwE : (if 40 < nI (10 + (pu_pb (pu_Cr V 0 nb r) (V 4 r) nm 1).1) + d then 40 else nI (10 + (pu_pb (pu_Cr V 0 nb r) (V 4 r) nm 1).1) + d) = w at hw ⊢
        obtain ⟨b, hb2, eb, eb2⟩ := pace_of hw
        rw [eb]
        refine z_uR (hX10_timeBy M1 hN1 hH1.h r hr 0 0 b n n (by omega) hb2 en hn (Nat.le_refl n)) (by decide) ?_
        have etm : pu_tm (z_mC M1 V nb r 0) (V 4 r) (fun x => M1.1 61 0 (100 * (0 + 1) + x)) 0 b (nI n) = pu_tm (z_mC M V nb r 0) (V 4 r) (pu_H (z_mC M V nb r 0) (V 4 r) nm (nm - 1)) 0 b (nI n) := by
          rw [eC]
          exact tm_cg en hn (fun x hx => hL 1 (Nat.zero_le 1) h1 x hx)
        rw [etm]
        have elf : pu_lf (pu_Cr V 0 nb r) (V 4 r) nm b = pu_lf (z_mC M V nb r 0) (V 4 r) nm b := (lf_cg (fun a ha b hb => h0.C h12 a ha b hb) h1 hb2).symm
        have hlf : (1000000000 ≤ pu_lf (pu_Cr V 0 nb r) (V 4 r) nm b ↔ 100000000 ≤ pu_tm (z_mC M V nb r 0) (V 4 r) (pu_H (z_mC M V nb r 0) (V 4 r) nm (nm - 1)) 0 b (nI n)) ∧ (¬ 100000000 ≤ pu_tm (z_mC M V nb r 0) (V 4 r) (pu_H (z_mC M V nb r 0) (V 4 r) nm (nm - 1)) 0 b (nI n) → pu_lf (pu_Cr V 0 nb r) (V 4 r) nm b = pu_tm (z_mC M V nb r 0) (V 4 r) (pu_H (z_mC M V nb r 0) (V 4 r) nm (nm - 1)) 0 b (nI n)) := by
          rw [elf]
          unfold pu_lf pu_tm
          rw [en, ← en]
          by_cases hl : pu_lb (z_mC M V nb r 0) (V 4 r) 0 b (V 4 r) < 0
          · rw [if_pos hl, if_pos hl]
            exact ⟨⟨fun _ => Int32.le_refl _, fun _ => Int32.le_refl _⟩, fun w => absurd (Int32.le_refl _) w⟩
          · obtain ⟨x, hx, ex⟩ := lb_cases (C := z_mC M V nb r 0) (left := V 4 r) (a := 0) (b := b) en hn hl
            rw [if_neg hl, if_neg hl, ex, nI_clamp (by omega)]
            have hsb := sec_bd hb2
            rcases GH_of hN hr en hn (fun m hm => h0.h.at h12 hm) 0 (nm - 1) (by omega) x hx with ⟨q1, q2⟩ | ⟨q1, q2, q3⟩
            · rw [q1, q2]
              refine ⟨⟨fun _ => by grind, fun _ => by grind⟩, fun w => absurd (by grind) w⟩
            · have hbb : nI (1200 * (nm - 1)) ≤ 14400 := nI_le (b := 14400) (by omega) (by omega)
              rw [← q1]
              generalize pu_G (pu_C V (z_hm M) 0 nb (V 3 r) (V 5 r)) (V 4 r) nm (nm - 1) x = y at q2 q3 ⊢
              refine ⟨⟨fun w => by exfalso; grind, fun w => by exfalso; grind⟩, fun _ => rfl⟩
        refine ⟨fun g5 => ?_, fun g5 => ?_⟩
        · have g6 := Int32.not_le.mpr g5
          refine ⟨hF, Or.inr ⟨r, hr, rfl, hd.1, hd.2, ?_⟩⟩
          unfold pu_early
          rw [hwE, eb2, if_neg gT, if_neg (fun w => g6 (hlf.1.mp w)), hlf.2 g6, (hT.2 g1).1]
        · refine ⟨hF, Or.inr ⟨r, hr, rfl, hd.1, hd.2, ?_⟩⟩
          unfold pu_early
          rw [hwE, eb2, if_neg gT, if_pos (hlf.1.mpr (Int32.not_lt.mp g5))]
      · exact ⟨hF, Or.inr ⟨r, hr, rfl, hd.1, hd.2, by unfold pu_early; rw [if_pos (hT.1.mpr (Int32.not_lt.mp g))]⟩⟩
    · exact ⟨z_Fr.refl, Or.inl ⟨fun w => absurd w.2 (by grind), rfl⟩⟩
