/-! ===== the model alone: best, even, early, hired, stays ===== -/
/-- what is known of the least times, class and model -/
theorem GH_of {V : Nat → Nat → Int32} {nm nr nb : Nat} {N : Nat → Int32} (hN : z_CR V nm nr nb N) {r n : Nat} (hr : r < nr) (en : V 4 r = nI n) (hn : n ≤ 99) {mh : Nat → Int32} (hh : ∀ m, m < nm → 0 ≤ mh m ∧ mh m ≤ 20) (set : Int32) (d : Nat) (hd : d ≤ nm) (l : Nat) (hl : l ≤ n) : pu_GH d (pu_G (pu_C V mh set nb (V 3 r) (V 5 r)) (V 4 r) nm d l) (pu_H (pu_C V mh set nb (V 3 r) (V 5 r)) (V 4 r) nm d l) :=
  (dp_eq en hn hN.1.1 (C_bd hN hr hh (line_bd hN hr)) d hd).1 l hl
theorem GH_fin {d : Nat} {g h : Int32} (hd : d ≤ 12) (w : pu_GH d g h) : (1000000000 ≤ g ↔ 100000000 ≤ h) ∧ (¬ 100000000 ≤ h → g = h ∧ 0 ≤ h ∧ h ≤ 14400) := by
  have hb : nI (1200 * d) ≤ 14400 := nI_le (b := 14400) (by omega) (by omega)
  rcases w with ⟨e1, e2⟩ | ⟨e1, e2, e3⟩
  · rw [e1, e2]
    exact ⟨by decide, fun w => absurd (Int32.le_refl _) w⟩
  · subst e1
    exact ⟨by constructor <;> intro w <;> exfalso <;> grind, fun _ => ⟨rfl, e2, by grind⟩⟩
/-- a pace meets the least time, for the class and for the model -/
theorem fp_iff {C : Nat → Nat → Int32} {st : Int32} {nm n m b l : Nat} (hs : st = nI n) (hn : n ≤ 99) (hnm : nm ≤ 12) (hm : m < nm) (hb : b < 31) (hl : l ≤ n) (hG : ∀ d, d ≤ nm → ∀ x, x ≤ n → pu_GH d (pu_G C st nm d x) (pu_H C st nm d x)) (hf : ¬ 100000000 ≤ pu_H C st nm (nm - m) l) :
    (¬ pu_lb C st m b (nI l) < 0 ∧ pu_sec b + pu_G C st nm (nm - (m + 1)) (pu_lb C st m b (nI l)).toNatClampNeg = pu_G C st nm (nm - m) (nI l).toNatClampNeg) ↔ pu_tm C st (pu_H C st nm (nm - (m + 1))) m b (nI l) = pu_H C st nm (nm - m) l := by
  have h1 := GH_fin (by omega) (hG (nm - m) (by omega) l hl)
  obtain ⟨e1, e2, e3⟩ := h1.2 hf
  have hsb := sec_bd hb
  rw [nI_clamp (n := l) (by omega), e1]
  unfold pu_tm
  by_cases h0 : pu_lb C st m b (nI l) < 0
  · rw [if_pos h0]
    exact ⟨fun w => absurd h0 w.1, fun w => absurd (by rw [← w]; exact Int32.le_refl _) hf⟩
  · obtain ⟨x, hx, ex⟩ := lb_cases (C := C) (left := nI l) (a := m) (b := b) hs hn h0
    rw [if_neg h0, ex, nI_clamp (n := x) (by omega)]
    have h2 := hG (nm - (m + 1)) (by omega) x hx
    have h3 := GH_fin (by omega) h2
    by_cases hi : 100000000 ≤ pu_H C st nm (nm - (m + 1)) x
    · rcases h2 with ⟨g1, g2⟩ | ⟨g1, g2, g3⟩
      · rw [g1, g2]
        constructor
        · intro w
          exfalso
          grind
        · intro w
          exfalso
          grind
      · have hb : nI (1200 * (nm - (m + 1))) ≤ 14400 := nI_le (b := 14400) (by omega) (by omega)
        exfalso
        grind
    · obtain ⟨g1, g2, g3⟩ := h3.2 hi
      rw [g1]
      exact ⟨fun w => w.2, fun w => ⟨by rw [← ex]; exact h0, w⟩⟩
theorem lX10_paceFor {X : z_Cx} (M : z_M) {V : Nat → Nat → Int32} {nm nr nb : Nat} (hN : z_CR V nm nr nb (z_nw M)) (hH : z_Hh M) (r : Nat) (hr : r < nr) (set : Int32) (m l n : Nat) (hm : m < nm) (en : V 4 r = nI n) (hn : n ≤ 99) (hl : l ≤ n) (hL : ∀ a, a ≤ nm → ∀ x, x ≤ n → M.1 61 0 (100 * a + x) = pu_H (z_mC M V nb r set) (V 4 r) nm (nm - a) x) (hf : ¬ 100000000 ≤ pu_H (z_mC M V nb r set) (V 4 r) nm (nm - m) l) : ∀ (u b : Nat), b + u = 31 → (∃ b0, b ≤ b0 ∧ b0 < 31 ∧ pu_tm (z_mC M V nb r set) (V 4 r) (pu_H (z_mC M V nb r set) (V 4 r) nm (nm - (m + 1))) m b0 (nI l) = pu_H (z_mC M V nb r set) (V 4 r) nm (nm - m) l) → z_Run X 4 mX10_paceFor (fun v M' => M' = M ∧ v = nI (10 + pu_fp (z_mC M V nb r set) (V 4 r) nm m (nI l) u b)) 4 [(0, zr 46 0), (1, zi (nI r)), (2, zi set), (3, zi (nI m)), (4, zi (nI l)), (5, zi (nI (10 + b)))] [] M := by
  have h12 := hN.1.1
  have hGH : ∀ d, d ≤ nm → ∀ x, x ≤ n → pu_GH d (pu_G (z_mC M V nb r set) (V 4 r) nm d x) (pu_H (z_mC M V nb r set) (V 4 r) nm d x) := fun d hd x hx => GH_of hN hr en hn (fun m hm => hH.at h12 hm) set d hd x hx
  intro u
  induction u with
  | zero =>
    rintro b hb ⟨b0, h1, h2, _⟩
    omega
  | succ u ih =>
    rintro b hb ⟨b0, h1, h2, h3⟩
    have hb31 : b < 31 := by omega
    have hi := fp_iff (C := z_mC M V nb r set) (b := b) en hn h12 hm hb31 hl hGH hf
    have etm : pu_tm (z_mC M V nb r set) (V 4 r) (fun x => M.1 61 0 (100 * (m + 1) + x)) m b (nI l) = pu_tm (z_mC M V nb r set) (V 4 r) (pu_H (z_mC M V nb r set) (V 4 r) nm (nm - (m + 1))) m b (nI l) := tm_cg en hn (fun x hx => hL (m + 1) (by omega) x hx)
    refine z_go_run KX10_paceFor [(4, [0, 1, 2, 3, 4, 5])] 60 ?_
    refine z_uR (hX10_timeBy M hN hH r hr set m b l n hm hb31 en hn hl) (by decide) ?_
    refine ⟨by rw [ixl]; exact vp_in_nI (by omega) (by omega), ?_⟩
    have eL : M.1 61 0 (100 * nI m + nI l).toNatClampNeg = pu_H (z_mC M V nb r set) (V 4 r) nm (nm - m) l := by
      rw [ixl, nI_clamp (by omega)]
      exact hL m (by omega) l hl
    refine ⟨fun h => ?_, fun h => ?_⟩ <;> rw [eL, etm] at h
    · have e1 : pu_fp (z_mC M V nb r set) (V 4 r) nm m (nI l) (u + 1) b = b := if_pos (hi.mpr h)
      exact ⟨rfl, by rw [e1]⟩
    · have e2 : pu_fp (z_mC M V nb r set) (V 4 r) nm m (nI l) (u + 1) b = pu_fp (z_mC M V nb r set) (V 4 r) nm m (nI l) u (b + 1) := if_neg (fun w => h (hi.mp w))
      rw [e2]
      have h5 := ih (b + 1) (by omega) ⟨b0, by
        rcases (show b + 1 ≤ b0 ∨ b0 = b by omega) with w | w
        · exact w
        · rw [w] at h3; exact absurd h3 h, h2, h3⟩
      show z_Run X 4 _ _ 4 _ [] M
      exact z_Run.eq h5 (by rw [show 10 + (b + 1) = 10 + b + 1 by omega, ← nI_1 (10 + b)]) rfl
theorem fp_ex {C : Nat → Nat → Int32} {st : Int32} {nm m l : Nat} (hm : m < nm) (hf : ¬ 100000000 ≤ pu_H C st nm (nm - m) l) : ∃ b0, 0 ≤ b0 ∧ b0 < 31 ∧ pu_tm C st (pu_H C st nm (nm - (m + 1))) m b0 (nI l) = pu_H C st nm (nm - m) l := by
  rw [H_step hm] at hf ⊢
  rcases Hf_at (f := fun b => pu_tm C st (pu_H C st nm (nm - (m + 1))) m b (nI l)) 31 with e | ⟨b, hb, e⟩
  · exact absurd (by rw [e]; exact Int32.le_refl _) hf
  · exact ⟨b, Nat.zero_le b, hb, e.symm⟩
theorem fp_at {C : Nat → Nat → Int32} {st : Int32} {nm m : Nat} {left : Int32} : ∀ (u b b0 : Nat), b + u = 31 → b ≤ b0 → b0 < 31 → (¬ pu_lb C st m b0 left < 0 ∧ pu_sec b0 + pu_G C st nm (nm - (m + 1)) (pu_lb C st m b0 left).toNatClampNeg = pu_G C st nm (nm - m) left.toNatClampNeg) → ¬ pu_lb C st m (pu_fp C st nm m left u b) left < 0 ∧ pu_sec (pu_fp C st nm m left u b) + pu_G C st nm (nm - (m + 1)) (pu_lb C st m (pu_fp C st nm m left u b) left).toNatClampNeg = pu_G C st nm (nm - m) left.toNatClampNeg := by
  intro u
  induction u with
  | zero => intro b b0 h1 h2 h3; omega
  | succ u ih =>
    intro b b0 h1 h2 h3 h4
    by_cases h : ¬ pu_lb C st m b left < 0 ∧ pu_sec b + pu_G C st nm (nm - (m + 1)) (pu_lb C st m b left).toNatClampNeg = pu_G C st nm (nm - m) left.toNatClampNeg
    · have e : pu_fp C st nm m left (u + 1) b = b := if_pos h
      rw [e]
      exact h
    · have e : pu_fp C st nm m left (u + 1) b = pu_fp C st nm m left u (b + 1) := if_neg h
      rw [e]
      refine ih (b + 1) b0 (by omega) ?_ h3 h4
      rcases (show b + 1 ≤ b0 ∨ b0 = b by omega) with w | w
      · exact w
      · rw [w] at h4; exact absurd h4 h
theorem hX10_paceFor {X : z_Cx} (M : z_M) {V : Nat → Nat → Int32} {nm nr nb : Nat} (hN : z_CR V nm nr nb (z_nw M)) (hH : z_Hh M) (r : Nat) (hr : r < nr) (set : Int32) (m l n : Nat) (hm : m < nm) (en : V 4 r = nI n) (hn : n ≤ 99) (hl : l ≤ n) (hL : ∀ a, a ≤ nm → ∀ x, x ≤ n → M.1 61 0 (100 * a + x) = pu_H (z_mC M V nb r set) (V 4 r) nm (nm - a) x) (hf : ¬ 100000000 ≤ pu_H (z_mC M V nb r set) (V 4 r) nm (nm - m) l) : z_Con X 4 mX10_paceFor [zr 46 0, zi (nI r), zi set, zi (nI m), zi (nI l)] M (fun v M' => M' = M ∧ v = nI (10 + pu_fp (z_mC M V nb r set) (V 4 r) nm m (nI l) 31 0)) := by
  refine z_mg KX10_paceFor [(4, [0, 1, 2, 3, 4, 5])] 60 (by decide +kernel) rfl ?_
  exact lX10_paceFor M hN hH r hr set m l n hm en hn hl hL hf 31 0 (by omega) (fp_ex hm hf)
/-- by the first paces that meet it: where one is behind t miles -/
theorem pb_path {C : Nat → Nat → Int32} {st : Int32} {nm n : Nat} (hs : st = nI n) (hn : n ≤ 99) (hnm : nm ≤ 12) (hG : ∀ d, d ≤ nm → ∀ x, x ≤ n → pu_GH d (pu_G C st nm d x) (pu_H C st nm d x)) (hf : ¬ 100000000 ≤ pu_H C st nm nm n) : ∀ t, t ≤ nm → ∃ l, l ≤ n ∧ (pu_pb C st nm t).2 = nI l ∧ ¬ 100000000 ≤ pu_H C st nm (nm - t) l := by
  intro t
  induction t with
  | zero => intro _; exact ⟨n, Nat.le_refl n, hs, hf⟩
  | succ t ih =>
    intro ht
    obtain ⟨l, hl, el, hfl⟩ := ih (by omega)
    have ep : pu_pb C st nm (t + 1) = (pu_fp C st nm t (pu_pb C st nm t).2 31 0, pu_lb C st t (pu_fp C st nm t (pu_pb C st nm t).2 31 0) (pu_pb C st nm t).2) := if_neg (by rw [el]; exact nI_pos (by omega))
    rw [ep, el]
    obtain ⟨b0, _, h1, h2⟩ := fp_ex (C := C) (st := st) (show t < nm by omega) hfl
    have h3 := (fp_iff (C := C) hs hn hnm (show t < nm by omega) h1 hl hG hfl).mpr h2
    have h4 := fp_at 31 0 b0 (by omega) (Nat.zero_le b0) h1 h3
    have hb := fp_lt (C := C) (st := st) (nm := nm) (m := t) (left := nI l) 31 0 (by omega)
    have h5 := (fp_iff (C := C) hs hn hnm (show t < nm by omega) hb hl hG hfl).mp h4
    obtain ⟨x, hx, ex⟩ := lb_cases (C := C) (left := nI l) (a := t) (b := pu_fp C st nm t (nI l) 31 0) hs hn h4.1
    refine ⟨x, hx, ex, fun w => ?_⟩
    unfold pu_tm at h5
    rw [if_neg h4.1, ex, nI_clamp (by omega)] at h5
    have hsb := sec_bd hb
    have h6 := GH_fin (by omega) (hG (nm - (t + 1)) (by omega) x hx)
    have h7 := hG (nm - (t + 1)) (by omega) x hx
    rcases h7 with ⟨g1, g2⟩ | ⟨g1, g2, g3⟩
    · rw [g2] at h5
      grind
    · have hb : nI (1200 * (nm - (t + 1))) ≤ 14400 := nI_le (b := 14400) (by omega) (by omega)
      grind
theorem lX10_best {X : z_Cx} (M : z_M) {V : Nat → Nat → Int32} {nm nr nb : Nat} (hN : z_CR V nm nr nb (z_nw M)) (hH : z_Hh M) (r : Nat) (hr : r < nr) (set : Int32) (n k : Nat) (a4 : Int32) (hk : k < nm) (en : V 4 r = nI n) (hn : n ≤ 99) (hL : ∀ a, a ≤ nm → ∀ x, x ≤ n → M.1 61 0 (100 * a + x) = pu_H (z_mC M V nb r set) (V 4 r) nm (nm - a) x) (hf : ¬ 100000000 ≤ pu_H (z_mC M V nb r set) (V 4 r) nm nm n) : ∀ (u t : Nat) (pc : Int32), t + u = k + 1 → (1 ≤ t → pc = nI (10 + (pu_pb (z_mC M V nb r set) (V 4 r) nm t).1)) → z_Run X 6 mX10_best (fun v M' => M' = M ∧ v = nI (10 + (pu_pb (z_mC M V nb r set) (V 4 r) nm (k + 1)).1)) 72 [(0, zr 46 0), (1, zi (nI r)), (2, zi set), (3, zi (nI k)), (4, zi a4), (5, zi (pu_pb (z_mC M V nb r set) (V 4 r) nm t).2), (6, zi pc), (7, zi (nI t))] [] M := by
  have h12 := hN.1.1
  have hGH : ∀ d, d ≤ nm → ∀ x, x ≤ n → pu_GH d (pu_G (z_mC M V nb r set) (V 4 r) nm d x) (pu_H (z_mC M V nb r set) (V 4 r) nm d x) := fun d hd x hx => GH_of hN hr en hn (fun m hm => hH.at h12 hm) set d hd x hx
  intro u
  induction u with
  | zero =>
    intro t pc ht hp
    have e : t = k + 1 := by omega
    subst e
    refine z_go_run KX10_best [(72, [0, 1, 2, 3, 4, 5, 6, 7])] 60 ?_
    refine ⟨fun h => ⟨rfl, hp (by omega)⟩, fun h => absurd (nI_lt (by omega) (by omega)) h⟩
  | succ u ih =>
    intro t pc ht hp
    obtain ⟨l, hl, el, hfl⟩ := pb_path en hn h12 hGH hf t (by omega)
    have ep : pu_pb (z_mC M V nb r set) (V 4 r) nm (t + 1) = (pu_fp (z_mC M V nb r set) (V 4 r) nm t (pu_pb (z_mC M V nb r set) (V 4 r) nm t).2 31 0, pu_lb (z_mC M V nb r set) (V 4 r) t (pu_fp (z_mC M V nb r set) (V 4 r) nm t (pu_pb (z_mC M V nb r set) (V 4 r) nm t).2 31 0) (pu_pb (z_mC M V nb r set) (V 4 r) nm t).2) := if_neg (by rw [el]; exact nI_pos (by omega))
    rw [el] at ep ⊢
    refine z_go_run KX10_best [(72, [0, 1, 2, 3, 4, 5, 6, 7])] 60 ?_
    refine ⟨fun h => absurd h (nI_nlt (by omega) (by omega)), fun h => ?_⟩
    refine z_uR (hX10_paceFor M hN hH r hr set t l n (by omega) en hn hl hL hfl) (by decide) ?_
    have hb := fp_lt (C := z_mC M V nb r set) (st := V 4 r) (nm := nm) (m := t) (left := nI l) 31 0 (by omega)
    refine z_uR (hX10_leftAlone M hN hH r hr set t _ (by omega) hb (nI l) (nI_pos' (by omega)) (by rw [en]; exact nI_le hl (by omega))) (by decide) ?_
    have h5 := ih (t + 1) (nI (10 + pu_fp (z_mC M V nb r set) (V 4 r) nm t (nI l) 31 0)) (by omega) (fun _ => by rw [ep])
    show z_Run X 6 _ _ 72 _ [] M
    exact z_Run.eq h5 (by rw [ep, nI_1]) rfl
theorem H_none {V : Nat → Nat → Int32} {nm nb r n : Nat} {set : Int32} (en : V 4 r = nI n) (hn : n ≤ 99) : pu_G (pu_C V (fun _ => 0) set nb (V 3 r) (V 5 r)) (V 4 r) nm nm n = pu_T V set nm nb r := by
  unfold pu_T
  rw [en, nI_clamp (by omega), ← en]
  rfl
/-- at no hour -/
def z_H0 (M : z_M) : Prop := ∀ k, k < 3 → M.1 55 0 k = 0
theorem z_H0.h {M : z_M} (h : z_H0 M) : z_Hh M := fun k hk => by rw [h k hk]; decide
theorem z_H0.C {M : z_M} (h : z_H0 M) {V : Nat → Nat → Int32} {nb r nm : Nat} {set : Int32} (h12 : nm ≤ 12) : ∀ a, a < nm → ∀ b, b < 31 → z_mC M V nb r set a b = pu_Cr V set nb r a b := by
  intro a ha b hb
  show pu_chg (pu_need V (M.1 55 0 (a / 4)) a _ _) _ _ = pu_chg (pu_need V 0 a _ _) _ _
  rw [h (a / 4) (by omega)]
theorem z_H0.fr {L : List Nat} {M M' : z_M} (h : z_H0 M) (hF : z_Fr L M M') (h55 : 55 ∉ L) : z_H0 M' := by
  intro k hk
  rw [hF.2 55 h55]
  exact h k hk
theorem T_of {M : z_M} {V : Nat → Nat → Int32} {nm nr nb : Nat} (hN : z_CR V nm nr nb (z_nw M)) (h0 : z_H0 M) {r n : Nat} (hr : r < nr) (en : V 4 r = nI n) (hn : n ≤ 99) (set : Int32) : pu_GH nm (pu_T V set nm nb r) (pu_H (z_mC M V nb r set) (V 4 r) nm nm n) := by
  have h := GH_of hN hr en hn (fun m hm => h0.h.at hN.1.1 hm) set nm (Nat.le_refl nm) n (Nat.le_refl n)
  rw [G_cg (fun a ha b hb => h0.C hN.1.1 a ha b hb) nm (Nat.le_refl nm)] at h
  have e : pu_G (pu_Cr V set nb r) (V 4 r) nm nm n = pu_T V set nm nb r := by
    unfold pu_T
    rw [en, nI_clamp (by omega)]
  rw [e] at h
  exact h
theorem hX10_best {X : z_Cx} (M : z_M) {V : Nat → Nat → Int32} {nm nr nb : Nat} (hN : z_CR V nm nr nb (z_nw M)) (h0 : z_H0 M) (ru set k : Int32) : z_Con X 6 mX10_best [zr 46 0, zi ru, zi set, zi k] M (fun v M' => z_Fr [61] M M' ∧ ((¬ (pu_ru nr ru ∧ pu_se nb set ∧ -1 ≤ k) ∧ v = -1000001) ∨ (∃ r, r < nr ∧ ru = nI r ∧ pu_se nb set ∧ -1 ≤ k ∧ v = pu_best V nm nb r set k))) := by
  have h12 := hN.1.1
  have h4 := hN.1.2.1
  refine z_mg KX10_best [(72, [0, 1, 2, 3, 4, 5, 6, 7])] 80 (by decide +kernel) rfl ?_
  refine z_uR (hX10_isRunner M hN ru) (by decide) ?_
  refine ⟨fun h => ?_, fun h => ?_⟩
  · exact ⟨z_Fr.refl, Or.inl ⟨fun w => absurd w.1 (by unfold pu_ru; grind), rfl⟩⟩
  · have hru : pu_ru nr ru := by unfold pu_ru; grind
    obtain ⟨r, hr, er⟩ := ru_of (by omega) hru
    subst er
    refine z_uR (hX10_isSet M hN set) (by decide) ?_
    refine ⟨fun h2 => ?_, fun h2 => ?_⟩
    · exact ⟨z_Fr.refl, Or.inl ⟨fun w => absurd w.2.1 (by unfold pu_se; grind), rfl⟩⟩
    · have hse : pu_se nb set := by unfold pu_se; grind
      refine ⟨fun h3 => ?_, fun h3 => ?_⟩
      · obtain ⟨n, _, hn, en⟩ := (hN.2.2.1 r hr).2.2.2.2.2.1
        refine z_use (hX10_leastAll M hN h0.h r hr set n en hn) (by decide) (fun v M1 h1 => ?_)
        obtain ⟨e1, hF, hL⟩ := h1
        have hN1 : z_CR V nm nr nb (z_nw M1) := by rw [nw_fr hF (by decide)]; exact hN
        have hH1 : z_H0 M1 := h0.fr hF (by decide)
        have eC : z_mC M1 V nb r set = z_mC M V nb r set := by
          show pu_C V (z_hm M1) set nb (V 3 r) (V 5 r) = _
          rw [hm_fr hF (by decide)]
        have hT := GH_fin h12 (T_of hN h0 hr en hn set)
        subst e1
        refine ⟨fun g => ?_, fun g => ?_⟩
        · exact ⟨hF, Or.inr ⟨r, hr, rfl, hse, h3, by unfold pu_best; rw [if_pos (Or.inl (hT.1.mpr g))]⟩⟩
        · have gT : ¬ 1000000000 ≤ pu_T V set nm nb r := fun w => g (hT.1.mp w)
          refine z_uR (hX10_miles M1 hN1) (by decide) ?_
          refine ⟨fun g2 => ?_, fun g2 => ?_⟩
          · have g3 : ¬ (1000000000 ≤ pu_T V set nm nb r ∨ nI nm ≤ k) := fun w => w.elim gT (fun w => absurd g2 (Int32.not_lt.mpr w))
            refine ⟨fun g4 => ?_, fun g4 => ?_⟩
            · obtain ⟨j, hj, ej⟩ := nI_of (x := k) (Int32.not_lt.mpr g4)
              subst ej
              have hjn : j < nm := (nI_ltI hj (by omega)).mp g2
              refine z_uR (hX10_store0 M1 hN1 r hr) (by decide) ?_
              have h5 := lX10_best (X := X) M1 hN1 hH1.h r hr set n j (pu_H (z_mC M V nb r set) (V 4 r) nm nm n) hjn en hn (fun a ha x hx => by rw [eC]; exact hL a (Nat.zero_le a) ha x hx) (by rw [eC]; exact g) (j + 1) 0 0 (by omega) (fun w => by omega)
              refine z_Run.post h5 ?_
              rintro v M' ⟨rfl, rfl⟩
              refine ⟨hF, Or.inr ⟨r, hr, rfl, hse, h3, ?_⟩⟩
              unfold pu_best
              rw [if_neg g3, if_neg (Int32.not_lt.mpr g4), nI_clamp hj, pb_cg (fun a ha b hb => hH1.C h12 a ha b hb) (j + 1) (by omega)]
            · refine ⟨hF, Or.inr ⟨r, hr, rfl, hse, h3, ?_⟩⟩
              unfold pu_best
              rw [if_neg g3, if_pos (Int32.not_le.mp g4)]
              exact (hT.2 g).1.symm
          · exact ⟨hF, Or.inr ⟨r, hr, rfl, hse, h3, by unfold pu_best; rw [if_pos (Or.inr (Int32.not_lt.mp g2))]⟩⟩
      · exact ⟨z_Fr.refl, Or.inl ⟨fun w => absurd w.2.2 h3, rfl⟩⟩
