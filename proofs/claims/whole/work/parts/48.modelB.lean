/-! ===== the model alone ===== -/
theorem sq_bd {x : Int32} (h0 : -100 ≤ x) (h1 : x ≤ 100) : 0 ≤ x * x ∧ x * x ≤ 10000 ∧ (0 < x → 0 < x * x) := by
  have a0 := Int32.le_iff_toInt_le.mp h0
  have a1 := Int32.le_iff_toInt_le.mp h1
  have c0 : (-100 : Int32).toInt = -100 := by decide
  have c1 : (100 : Int32).toInt = 100 := by decide
  rw [c0] at a0
  rw [c1] at a1
  have b : x.toInt.natAbs * x.toInt.natAbs ≤ 100 * 100 := Nat.mul_le_mul (by omega) (by omega)
  have b2 : x.toInt * x.toInt = ((x.toInt.natAbs * x.toInt.natAbs : Nat) : Int) := (Int.natAbs_mul_self).symm
  have e : (x * x).toInt = ((x.toInt.natAbs * x.toInt.natAbs : Nat) : Int) := by
    rw [Int32.toInt_mul, b2]
    apply Int.bmod_eq_of_le
    · omega
    · omega
  refine ⟨Int32.le_iff_toInt_le.mpr ?_, Int32.le_iff_toInt_le.mpr ?_, fun hp => Int32.lt_iff_toInt_lt.mpr ?_⟩
  · rw [e]
    show (0 : Int) ≤ _
    omega
  · rw [e]
    show _ ≤ (10000 : Int)
    omega
  · rw [e]
    show (0 : Int) < _
    have hp2 := Int32.lt_iff_toInt_lt.mp hp
    have hp3 : (0 : Int) < x.toInt := hp2
    have : 0 < x.toInt.natAbs * x.toInt.natAbs := Nat.mul_pos (by omega) (by omega)
    omega
theorem neg_bd {q : Int32} (h0 : 0 ≤ q) (h1 : q ≤ 10000) : -10000 ≤ -q ∧ -q ≤ 9 := by constructor <;> grind
theorem go_a {st left q : Int32} (hst : st ≤ 99) (h0 : 0 ≤ left) (h1 : left ≤ st) (hq0 : 0 < q) (hq1 : q ≤ 10000) : (if q ≤ left then left - q else -1) = (if 0 ≤ left + -q then (if left + -q < st then left + -q else st) else -1) := by
  rw [← Int32.sub_eq_add_neg]
  by_cases h : q ≤ left
  · rw [if_pos h, if_pos (show 0 ≤ left - q by grind), if_pos (show left - q < st by grind)]
  · rw [if_neg h, if_neg (show ¬ 0 ≤ left - q by grind)]
theorem go_b {st left y fill : Int32} (hst : st ≤ 99) (h0 : 0 ≤ left) (h1 : left ≤ st) (hy : 0 ≤ y) (hf : 1 ≤ fill ∧ fill ≤ 9) : (if left + (if y < fill then y else fill) < st then left + (if y < fill then y else fill) else st) = (if 0 ≤ left + (if y < fill then y else fill) then (if left + (if y < fill then y else fill) < st then left + (if y < fill then y else fill) else st) else -1) := by
  have h2 : 0 ≤ (if y < fill then y else fill) ∧ (if y < fill then y else fill) ≤ 9 := by constructor <;> grind
  generalize (if y < fill then y else fill) = w at *
  rw [if_pos (show 0 ≤ left + w by grind)]
theorem chg_bd {need line fill : Int32} (hf : 1 ≤ fill ∧ fill ≤ 9) (hn : 0 ≤ need ∧ need ≤ 100) (hl : 0 ≤ line ∧ line ≤ 100) : -10000 ≤ pu_chg need line fill ∧ pu_chg need line fill ≤ 9 := by
  have hq := sq_bd (x := need - line) (by grind) (by grind)
  unfold pu_chg
  rw [Int32.neg_mul]
  by_cases h : 0 < need - line
  · rw [if_pos h]
    exact neg_bd hq.1 hq.2.1
  · rw [if_neg h]
    have g0 : 0 ≤ -(need - line) := by grind
    clear hq
    generalize -(need - line) = y at *
    constructor <;> grind
theorem mlb_go {st fill left need line : Int32} (hst : st ≤ 99) (h0 : 0 ≤ left) (h1 : left ≤ st) (hf : 1 ≤ fill ∧ fill ≤ 9) (hn : 0 ≤ need ∧ need ≤ 100) (hl : 0 ≤ line ∧ line ≤ 100) : pu_mlb st fill left need line = (if 0 ≤ left + pu_chg need line fill then (if left + pu_chg need line fill < st then left + pu_chg need line fill else st) else -1) := by
  have hq := sq_bd (x := need - line) (by grind) (by grind)
  unfold pu_mlb pu_chg
  rw [Int32.neg_mul]
  by_cases h : line < need
  · have hp : 0 < need - line := by grind
    have hq2 := hq.2.2 hp
    rw [if_pos h, if_pos hp]
    exact go_a hst h0 h1 hq2 hq.2.1
  · have hp : ¬ 0 < need - line := by grind
    have e : -(need - line) = line - need := by grind
    rw [if_neg h, if_neg hp, e]
    have g0 : 0 ≤ line - need := by grind
    exact go_b hst h0 h1 g0 hf
theorem need_bd {V : Nat → Nat → Int32} {nm nr nb : Nat} {N : Nat → Int32} (hN : z_CR V nm nr nb N) {m : Nat} (hm : m < nm) {mh p b : Int32} (hh : 0 ≤ mh ∧ mh ≤ 20) (hp : 10 ≤ p ∧ p ≤ 40) : 0 ≤ pu_need V mh m p b ∧ pu_need V mh m p b ≤ 100 := by
  obtain ⟨_, _, _, h0, h1, h2⟩ := hN.2.1 m hm
  obtain ⟨a, ha, ea⟩ := nI_of2 (M := 9) (n := 9) (by decide) (Int32.not_lt.mpr h1.1) h1.2
  obtain ⟨c, hc, ec⟩ := nI_of2 (M := 20) (n := 20) (by decide) (Int32.not_lt.mpr hh.1) hh.2
  obtain ⟨w, hw, ew⟩ := nI_of2 (M := 9) (n := 9) (by decide) (Int32.not_lt.mpr h2.1) h2.2
  have e1 : (V 1 m + mh) / 2 = nI ((a + c) / 2) := by rw [ea, ec, nI_add]; exact nI_divN (b := 2) (by omega) (by omega) (by omega)
  have e2 : V 2 m / 2 = nI (w / 2) := by rw [ew]; exact nI_divN (b := 2) (by omega) (by omega) (by omega)
  have b1 : 0 ≤ nI ((a + c) / 2) ∧ nI ((a + c) / 2) ≤ 14 := ⟨nI_pos' (by omega), nI_le (b := 14) (by omega) (by omega)⟩
  have b2 : 0 ≤ nI (w / 2) ∧ nI (w / 2) ≤ 4 := ⟨nI_pos' (by omega), nI_le (b := 4) (by omega) (by omega)⟩
  unfold pu_need
  rw [e1, e2]
  generalize nI ((a + c) / 2) = x at *
  generalize nI (w / 2) = y at *
  constructor <;> grind
theorem pace_bd {b : Nat} (hb : b < 31) : 10 ≤ 10 + nI b ∧ 10 + nI b ≤ 40 := by
  have e : 10 + nI b = nI (10 + b) := nI_add 10 b
  rw [e]
  exact (z_10 hb).1
theorem C_bd {V : Nat → Nat → Int32} {nm nr nb : Nat} {N : Nat → Int32} (hN : z_CR V nm nr nb N) {r : Nat} (hr : r < nr) {mh : Nat → Int32} (hh : ∀ m, m < nm → 0 ≤ mh m ∧ mh m ≤ 20) {set line : Int32} (hl : 0 ≤ line ∧ line ≤ 100) : ∀ a, a < nm → ∀ b, b < 31 → -10000 ≤ pu_C V mh set nb line (V 5 r) a b ∧ pu_C V mh set nb line (V 5 r) a b ≤ 9 :=
  fun a ha b hb => chg_bd (hN.2.2.1 r hr).2.2.2.2.2.2.1 (need_bd hN ha (hh a ha) (pace_bd hb)) hl
theorem nw_fr {L : List Nat} {M M' : z_M} (h : z_Fr L M M') (h47 : 47 ∉ L) : z_nw M' = z_nw M := by
  show M'.1 47 (M'.2.2 46 0).toNat = M.1 47 (M.2.2 46 0).toNat
  rw [h.1, h.2 47 h47]
theorem hm_fr {L : List Nat} {M M' : z_M} (h : z_Fr L M M') (h55 : 55 ∉ L) : z_hm M' = z_hm M := by
  show (fun m => M'.1 55 0 (m / 4)) = (fun m => M.1 55 0 (m / 4))
  rw [h.2 55 h55]
theorem lX10_isBehindRabbit {X : z_Cx} (M : z_M) {V : Nat → Nat → Int32} {nm nr nb : Nat} (hN : z_CR V nm nr nb (z_nw M)) (set m p : Int32) : ∀ (u t : Nat), t + u = nb → z_Run X 1 mX10_isBehindRabbit (fun v M' => M' = M ∧ v = if pu_sh V set m p nb = true then 1 else 0) 6 [(0, zr 46 0), (1, zi set), (2, zi m), (3, zi p), (4, zi (if pu_sh V set m p t = true then 1 else 0)), (5, zi (nI t))] [] M := by
  have h5 := hN.1.2.2.1
  intro u
  induction u with
  | zero =>
    intro t ht
    have e : t = nb := by omega
    subst e
    refine z_go_run KX10_isBehindRabbit [(6, [0, 1, 2, 3, 4, 5])] 60 ?_
    refine z_uR (hX10_rabbits M hN) (by decide) ?_
    refine ⟨fun h => ?_, fun h => absurd (Int32.le_refl _) h⟩
    refine ⟨by grind, rfl, rfl⟩
  | succ u ih =>
    intro t ht
    have nx : ∀ x : Int32, x = (if pu_sh V set m p (t + 1) = true then 1 else 0) → z_Run X 1 mX10_isBehindRabbit (fun v M' => M' = M ∧ v = if pu_sh V set m p nb = true then 1 else 0) 6 [(0, zr 46 0), (1, zi set), (2, zi m), (3, zi p), (4, zi x), (5, zi (nI t + 1))] [] M := by
      intro x hx
      rw [hx, nI_1]
      exact ih (t + 1) (by omega)
    have es : pu_sh V set m p (t + 1) = (pu_sh V set m p t || decide (pu_bit set t = 1 ∧ m < V 12 t ∧ V 11 t = p)) := rfl
    refine z_go_run KX10_isBehindRabbit [(6, [0, 1, 2, 3, 4, 5])] 60 ?_
    refine z_uR (hX10_rabbits M hN) (by decide) ?_
    refine ⟨fun h => absurd h (nI_ge (by omega) (by omega)), fun h => ?_⟩
    refine ⟨fun h1 => ?_, fun h1 => ?_⟩
    · exact nx 1 (by grind)
    · have hf : pu_sh V set m p t = false := by grind
      refine ⟨fun h2 => ?_, fun h2 => ?_⟩
      · refine nx 0 ?_
        rw [es, hf, Bool.false_or, decide_eq_false (fun w => h2 w.1)]
        rfl
      · refine z_uR (hX10_till0 M hN t (by omega)) (by decide) ?_
        refine ⟨fun h3 => ?_, fun h3 => ?_⟩
        · refine nx 0 ?_
          rw [es, hf, Bool.false_or, decide_eq_false (fun w => absurd w.2.1 (Int32.not_lt.mpr h3))]
          rfl
        · refine z_uR (hX10_pace0 M hN t (by omega)) (by decide) ?_
          refine ⟨fun h4 => ?_, fun h4 => ?_⟩
          · refine nx 0 ?_
            rw [es, hf, Bool.false_or, decide_eq_false (fun w => h4 w.2.2)]
            rfl
          · refine nx 1 ?_
            have w : pu_bit set t = 1 ∧ m < V 12 t ∧ V 11 t = p := ⟨h2, Int32.not_le.mp h3, h4⟩
            rw [es, hf, Bool.false_or, decide_eq_true w]
            rfl
theorem hX10_isBehindRabbit {X : z_Cx} (M : z_M) {V : Nat → Nat → Int32} {nm nr nb : Nat} (hN : z_CR V nm nr nb (z_nw M)) (set m p : Int32) : z_Con X 1 mX10_isBehindRabbit [zr 46 0, zi set, zi m, zi p] M (fun v M' => M' = M ∧ v = if pu_sh V set m p nb = true then 1 else 0) := by
  refine z_mg KX10_isBehindRabbit [(6, [0, 1, 2, 3, 4, 5])] 60 (by decide +kernel) rfl ?_
  exact lX10_isBehindRabbit M hN set m p nb 0 (by omega)
/-- the model's changes of what is left: of runner r with a set, at the hour's heats -/
abbrev z_mC (M : z_M) (V : Nat → Nat → Int32) (nb r : Nat) (set : Int32) : Nat → Nat → Int32 := pu_C V (z_hm M) set nb (V 3 r) (V 5 r)
/-- the heats of the hour are as they must be -/
def z_Hh (M : z_M) : Prop := ∀ k, k < 3 → 0 ≤ M.1 55 0 k ∧ M.1 55 0 k ≤ 20
theorem z_Hh.at {M : z_M} (h : z_Hh M) {m nm : Nat} (hn : nm ≤ 12) (hm : m < nm) : 0 ≤ z_hm M m ∧ z_hm M m ≤ 20 := h (m / 4) (by omega)
theorem z_Hh.fr {L : List Nat} {M M' : z_M} (h : z_Hh M) (hF : z_Fr L M M') (h55 : 55 ∉ L) : z_Hh M' := by
  intro k hk
  rw [hF.2 55 h55]
  exact h k hk
theorem line_bd {V : Nat → Nat → Int32} {nm nr nb : Nat} {N : Nat → Int32} (hN : z_CR V nm nr nb N) {r : Nat} (hr : r < nr) : 0 ≤ V 3 r ∧ V 3 r ≤ 100 := by
  have := (hN.2.2.1 r hr).2.2.2.2.1
  constructor <;> grind
theorem store_bd {V : Nat → Nat → Int32} {nm nr nb : Nat} {N : Nat → Int32} (hN : z_CR V nm nr nb N) {r : Nat} (hr : r < nr) : 1 ≤ V 4 r ∧ V 4 r ≤ 99 := by
  obtain ⟨n, h1, h2, e⟩ := (hN.2.2.1 r hr).2.2.2.2.2.1
  rw [e]
  exact ⟨nI_le (a := 1) h1 (by omega), nI_le (b := 99) h2 (by omega)⟩
theorem hX10_leftB {X : z_Cx} (M : z_M) {V : Nat → Nat → Int32} {nm nr nb : Nat} (hN : z_CR V nm nr nb (z_nw M)) (hH : z_Hh M) (r : Nat) (hr : r < nr) (m : Nat) (hm : m < nm) (p b line left : Int32) (hp : 10 ≤ p ∧ p ≤ 40) (h0 : 0 ≤ left) (h1 : left ≤ V 4 r) (hl : 0 ≤ line ∧ line ≤ 100) : z_Con X 1 mX10_leftBehind [zr 46 0, zi (nI r), zi left, zi (pu_need V (z_hm M m) m p b), zi line] M (fun v M' => M' = M ∧ v = (if 0 ≤ left + pu_chg (pu_need V (z_hm M m) m p b) line (V 5 r) then (if left + pu_chg (pu_need V (z_hm M m) m p b) line (V 5 r) < V 4 r then left + pu_chg (pu_need V (z_hm M m) m p b) line (V 5 r) else V 4 r) else -1)) :=
  (hX10_leftBehind M hN r hr left _ line).to (mlb_go (store_bd hN hr).2 h0 h1 (hN.2.2.1 r hr).2.2.2.2.2.2.1 (need_bd hN hm (hH.at hN.1.1 hm) hp) hl)
theorem hX10_leftAlone {X : z_Cx} (M : z_M) {V : Nat → Nat → Int32} {nm nr nb : Nat} (hN : z_CR V nm nr nb (z_nw M)) (hH : z_Hh M) (r : Nat) (hr : r < nr) (set : Int32) (m b : Nat) (hm : m < nm) (hb : b < 31) (left : Int32) (h0 : 0 ≤ left) (h1 : left ≤ V 4 r) : z_Con X 2 mX10_leftAlone [zr 46 0, zi (nI r), zi set, zi (nI m), zi left, zi (nI (10 + b))] M (fun v M' => M' = M ∧ v = pu_lb (z_mC M V nb r set) (V 4 r) m b left) := by
  refine z_mg KX10_leftAlone [] 60 (by decide +kernel) rfl ?_
  refine z_uR (hX10_isBehindRabbit M hN set (nI m) (nI (10 + b))) (by decide) ?_
  refine z_uR (hX10_needOf M hN m hm (nI (10 + b)) _) (by decide) ?_
  refine z_uR (hX10_line0 M hN r hr) (by decide) ?_
  refine z_uR (hX10_leftB M hN hH r hr m hm (nI (10 + b)) _ (V 3 r) left (z_10 hb).1 h0 h1 (line_bd hN hr)) (by decide) ?_
  refine ⟨rfl, ?_⟩
  have e : 10 + nI b = nI (10 + b) := nI_add 10 b
  rw [← e]
  rfl
theorem ixl (m x : Nat) : 100 * nI m + nI x = nI (100 * m + x) := by
  show nI 100 * nI m + nI x = _
  rw [pk_mul, nI_add]
theorem hX10_timeBy {X : z_Cx} (M : z_M) {V : Nat → Nat → Int32} {nm nr nb : Nat} (hN : z_CR V nm nr nb (z_nw M)) (hH : z_Hh M) (r : Nat) (hr : r < nr) (set : Int32) (m b l n : Nat) (hm : m < nm) (hb : b < 31) (en : V 4 r = nI n) (hn : n ≤ 99) (hl : l ≤ n) : z_Con X 3 mX10_timeBy [zr 46 0, zi (nI r), zi set, zi (nI m), zi (nI l), zi (nI (10 + b))] M (fun v M' => M' = M ∧ v = pu_tm (z_mC M V nb r set) (V 4 r) (fun x => M.1 61 0 (100 * (m + 1) + x)) m b (nI l)) := by
  have h12 := hN.1.1
  refine z_mg KX10_timeBy [] 60 (by decide +kernel) rfl ?_
  refine z_uR (hX10_leftAlone M hN hH r hr set m b hm hb (nI l) (nI_pos' (by omega)) (by rw [en]; exact nI_le hl (by omega))) (by decide) ?_
  unfold pu_tm
  refine ⟨fun h => ?_, fun h => ?_⟩
  · obtain ⟨x, hx, ex⟩ := lb_cases (C := z_mC M V nb r set) (left := nI l) (a := m) (b := b) en hn (Int32.not_lt.mpr h)
    refine z_uR (hX10_secondsBy M (nI (10 + b)) (z_10 hb).1.1) (by decide) ?_
    have ei : 100 * (nI m + 1) + pu_lb (z_mC M V nb r set) (V 4 r) m b (nI l) = nI (100 * (m + 1) + x) := by rw [ex, nI_1, ixl]
    refine ⟨by rw [ei]; exact vp_in_nI (by omega) (by omega), rfl, ?_⟩
    rw [if_neg (Int32.not_lt.mpr h), ei, nI_clamp (by omega), ex, nI_clamp (by omega)]
    rfl
  · exact ⟨rfl, by rw [if_pos (Int32.not_le.mp h)]⟩
theorem tm_cg {C : Nat → Nat → Int32} {st left : Int32} {bh bh' : Nat → Int32} {n a b : Nat} (hs : st = nI n) (hn : n ≤ 99) (h : ∀ x, x ≤ n → bh x = bh' x) : pu_tm C st bh a b left = pu_tm C st bh' a b left := by
  unfold pu_tm
  by_cases h0 : pu_lb C st a b left < 0
  · rw [if_pos h0, if_pos h0]
  · obtain ⟨x, hx, ex⟩ := lb_cases (C := C) (left := left) (a := a) (b := b) hs hn h0
    rw [if_neg h0, if_neg h0, ex, nI_clamp (by omega), h x hx]
theorem Hf_cg {f g : Nat → Int32} : ∀ n, (∀ b, b < n → f b = g b) → pu_Hf f n = pu_Hf g n := by
  intro n
  induction n with
  | zero => intro _; rfl
  | succ n ih =>
    intro h
    unfold pu_Hf
    rw [ih (fun b hb => h b (by omega)), h n (by omega)]
theorem H_step {C : Nat → Nat → Int32} {st : Int32} {nm m : Nat} (hm : m < nm) (l : Nat) : pu_H C st nm (nm - m) l = pu_Hf (fun b => pu_tm C st (pu_H C st nm (nm - (m + 1))) m b (nI l)) 31 := by
  have e : nm - m = (nm - (m + 1)) + 1 := by omega
  rw [e]
  show pu_Hf (fun b => pu_tm C st (pu_H C st nm (nm - (m + 1))) (nm - (nm - (m + 1) + 1)) b (nI l)) 31 = _
  rw [show nm - (nm - (m + 1) + 1) = m by omega]
/-- the model's row of least times, from mile j on -/
def z_Ml (M0 M : z_M) (C : Nat → Nat → Int32) (st : Int32) (n nm j : Nat) : Prop := z_Fr [61] M0 M ∧ ∀ a, j ≤ a → a ≤ nm → ∀ x, x ≤ n → M.1 61 0 (100 * a + x) = pu_H C st nm (nm - a) x
theorem lX10_findLeast4 {X : z_Cx} (M : z_M) {V : Nat → Nat → Int32} {nm nr nb : Nat} (hN : z_CR V nm nr nb (z_nw M)) (hH : z_Hh M) (r : Nat) (hr : r < nr) (set : Int32) (m l n : Nat) (hm : m < nm) (en : V 4 r = nI n) (hn : n ≤ 99) (hl : l ≤ n) {R : Int32 → z_M → Prop}
    (hk : z_Run X 4 mX10_findLeast R 43 [(0, zr 46 0), (1, zi (nI r)), (2, zi set), (3, zi (nI m)), (4, zi (nI (l + 1)))] [] (z_s M 61 0 (100 * m + l) (pu_Hf (fun b => pu_tm (z_mC M V nb r set) (V 4 r) (fun x => M.1 61 0 (100 * (m + 1) + x)) m b (nI l)) 31))) :
    ∀ (u b : Nat), b + u = 31 → z_Run X 4 mX10_findLeast R 62 [(0, zr 46 0), (1, zi (nI r)), (2, zi set), (3, zi (nI m)), (4, zi (nI l)), (5, zi (pu_Hf (fun b => pu_tm (z_mC M V nb r set) (V 4 r) (fun x => M.1 61 0 (100 * (m + 1) + x)) m b (nI l)) b)), (6, zi (nI (10 + b)))] [] M := by
  have h12 := hN.1.1
  intro u
  induction u with
  | zero =>
    intro b hb
    have e : b = 31 := by omega
    subst e
    refine z_go_run KX10_findLeast [(62, [0, 1, 2, 3, 4, 5, 6]), (43, [0, 1, 2, 3, 4])] 60 ?_
    refine ⟨fun h => ?_, fun h => absurd (by decide) h⟩
    refine ⟨by rw [ixl]; exact vp_in_nI (by omega) (by omega), ?_⟩
    show z_Run X 4 _ _ 43 [(0, zr 46 0), (1, zi (nI r)), (2, zi set), (3, zi (nI m)), (4, zi (nI l + 1))] [] (z_s M 61 0 (100 * nI m + nI l).toNatClampNeg _)
    rw [ixl, nI_clamp (by omega), nI_1]
    exact hk
  | succ u ih =>
    intro b hb
    refine z_go_run KX10_findLeast [(62, [0, 1, 2, 3, 4, 5, 6]), (43, [0, 1, 2, 3, 4])] 60 ?_
    refine ⟨fun h => absurd h (Int32.not_lt.mpr (z_10 (show b < 31 by omega)).1.2), fun h => ?_⟩
    refine z_uR (hX10_timeBy M hN hH r hr set m b l n hm (by omega) en hn hl) (by decide) ?_
    have nx : ∀ y : Int32, y = pu_Hf (fun b => pu_tm (z_mC M V nb r set) (V 4 r) (fun x => M.1 61 0 (100 * (m + 1) + x)) m b (nI l)) (b + 1) → z_Run X 4 mX10_findLeast R 62 [(0, zr 46 0), (1, zi (nI r)), (2, zi set), (3, zi (nI m)), (4, zi (nI l)), (5, zi y), (6, zi (nI (10 + b) + 1))] [] M := by
      intro y hy
      rw [hy, nI_1]
      exact ih (b + 1) (by omega)
    refine ⟨fun h2 => ?_, fun h2 => ?_⟩
    · refine nx _ ?_
      show _ = (if _ < _ then _ else _)
      rw [if_neg (Int32.not_lt.mpr h2)]
    · refine nx _ ?_
      show _ = (if _ < _ then _ else _)
      rw [if_pos (Int32.not_le.mp h2)]
theorem lX10_findLeast3 {X : z_Cx} (M : z_M) {V : Nat → Nat → Int32} {nm nr nb : Nat} (hN : z_CR V nm nr nb (z_nw M)) (hH : z_Hh M) (r : Nat) (hr : r < nr) (set : Int32) (m n : Nat) (hm : m < nm) (en : V 4 r = nI n) (hn : n ≤ 99) {R : Int32 → z_M → Prop}
    (hk : ∀ Mc, z_Ml M Mc (z_mC M V nb r set) (V 4 r) n nm m → z_Run X 4 mX10_findLeast R 36 [(0, zr 46 0), (1, zi (nI r)), (2, zi set), (3, zi (nI m + (-1)))] [] Mc) :
    ∀ (u l : Nat) (Mc : z_M), l + u = n + 1 → z_Ml M Mc (z_mC M V nb r set) (V 4 r) n nm (m + 1) → (∀ x, x < l → Mc.1 61 0 (100 * m + x) = pu_H (z_mC M V nb r set) (V 4 r) nm (nm - m) x) → z_Run X 4 mX10_findLeast R 43 [(0, zr 46 0), (1, zi (nI r)), (2, zi set), (3, zi (nI m)), (4, zi (nI l))] [] Mc := by
  have h12 := hN.1.1
  intro u
  induction u with
  | zero =>
    intro l Mc hl hM hx
    have hNc : z_CR V nm nr nb (z_nw Mc) := by rw [nw_fr hM.1 (by decide)]; exact hN
    refine z_go_run KX10_findLeast [(43, [0, 1, 2, 3, 4]), (62, [0, 1, 2, 3, 4, 5, 6]), (36, [0, 1, 2, 3])] 60 ?_
    refine z_uR (hX10_store0 Mc hNc r hr) (by decide) ?_
    refine ⟨fun h => ?_, fun h => ?_⟩
    · refine hk Mc ⟨hM.1, fun a h1 h2 x h3 => ?_⟩
      rcases (show m + 1 ≤ a ∨ a = m by omega) with e | e
      · exact hM.2 a e h2 x h3
      · rw [e]; exact hx x (by omega)
    · rw [en] at h
      exact absurd (nI_lt (by omega) (by omega)) h
  | succ u ih =>
    intro l Mc hl hM hx
    have hNc : z_CR V nm nr nb (z_nw Mc) := by rw [nw_fr hM.1 (by decide)]; exact hN
    have hHc : z_Hh Mc := hH.fr hM.1 (by decide)
    have eC : z_mC Mc V nb r set = z_mC M V nb r set := by
      show pu_C V (z_hm Mc) set nb (V 3 r) (V 5 r) = _
      rw [hm_fr hM.1 (by decide)]
    refine z_go_run KX10_findLeast [(43, [0, 1, 2, 3, 4]), (62, [0, 1, 2, 3, 4, 5, 6]), (36, [0, 1, 2, 3])] 60 ?_
    refine z_uR (hX10_store0 Mc hNc r hr) (by decide) ?_
    refine ⟨fun h => ?_, fun h => ?_⟩
    · rw [en] at h
      exact absurd h (nI_nlt (by omega) (by omega))
    · refine lX10_findLeast4 Mc hNc hHc r hr set m l n hm en hn (by omega) ?_ 31 0 (by omega)
      have ev : pu_Hf (fun b => pu_tm (z_mC Mc V nb r set) (V 4 r) (fun x => Mc.1 61 0 (100 * (m + 1) + x)) m b (nI l)) 31 = pu_H (z_mC M V nb r set) (V 4 r) nm (nm - m) l := by
        rw [H_step hm, eC]
        exact Hf_cg 31 (fun b hb => tm_cg en hn (fun x hx => hM.2 (m + 1) (Nat.le_refl _) (by omega) x hx))
      rw [ev]
      refine ih (l + 1) _ (by omega) ⟨hM.1.s (by decide), fun a h1 h2 x h3 => ?_⟩ (fun x h3 => ?_)
      · rw [z_gs, if_neg (by omega)]
        exact hM.2 a h1 h2 x h3
      · rw [z_gs]
        by_cases e : x = l
        · rw [if_pos ⟨rfl, rfl, by omega⟩, e]
        · rw [if_neg (by omega)]
          exact hx x (by omega)
theorem lX10_findLeast2 {X : z_Cx} (M : z_M) {V : Nat → Nat → Int32} {nm nr nb : Nat} (hN : z_CR V nm nr nb (z_nw M)) (hH : z_Hh M) (r : Nat) (hr : r < nr) (set : Int32) (n : Nat) (en : V 4 r = nI n) (hn : n ≤ 99) : ∀ (j : Nat) (Mc : z_M), j ≤ nm → z_Ml M Mc (z_mC M V nb r set) (V 4 r) n nm j → z_Run X 4 mX10_findLeast (fun _ M' => z_Ml M M' (z_mC M V nb r set) (V 4 r) n nm 0) 36 [(0, zr 46 0), (1, zi (nI r)), (2, zi set), (3, zi (nI j + (-1)))] [] Mc := by
  have h12 := hN.1.1
  intro j
  induction j with
  | zero =>
    intro Mc hj hM
    refine z_go_run KX10_findLeast [(36, [0, 1, 2, 3]), (43, [0, 1, 2, 3, 4])] 60 ?_
    exact ⟨fun h => hM, fun h => absurd (by decide) h⟩
  | succ j ih =>
    intro Mc hj hM
    rw [z_m1]
    refine z_go_run KX10_findLeast [(36, [0, 1, 2, 3]), (43, [0, 1, 2, 3, 4])] 60 ?_
    refine ⟨fun h => absurd h (nI_pos (by omega)), fun h => ?_⟩
    exact lX10_findLeast3 M hN hH r hr set j n (by omega) en hn (fun Mc' h' => ih Mc' (by omega) h') (n + 1) 0 Mc (by omega) hM (fun x hx => absurd hx (Nat.not_lt_zero x))
theorem lX10_findLeast1 {X : z_Cx} (M : z_M) {V : Nat → Nat → Int32} {nm nr nb : Nat} (hN : z_CR V nm nr nb (z_nw M)) (hH : z_Hh M) (r : Nat) (hr : r < nr) (set : Int32) (n : Nat) (en : V 4 r = nI n) (hn : n ≤ 99) : ∀ (u t : Nat) (Mc : z_M), t + u = 100 → z_Fr [61] M Mc → (∀ x, x < t → Mc.1 61 0 (100 * nm + x) = 0) → z_Run X 4 mX10_findLeast (fun _ M' => z_Ml M M' (z_mC M V nb r set) (V 4 r) n nm 0) 2 [(0, zr 46 0), (1, zi (nI r)), (2, zi set), (3, zi (nI t))] [] Mc := by
  have h12 := hN.1.1
  intro u
  induction u with
  | zero =>
    intro t Mc ht hF hx
    have hNc : z_CR V nm nr nb (z_nw Mc) := by rw [nw_fr hF (by decide)]; exact hN
    have e : t = 100 := by omega
    subst e
    refine z_go_run KX10_findLeast [(2, [0, 1, 2, 3]), (36, [0, 1, 2, 3])] 60 ?_
    refine ⟨fun h => ?_, fun h => absurd (by decide) h⟩
    refine z_uR (hX10_miles Mc hNc) (by decide) ?_
    have h3 := lX10_findLeast2 (X := X) M hN hH r hr set n en hn nm Mc (Nat.le_refl nm) ⟨hF, fun a h1 h2 x h3 => by
      have ea : a = nm := by omega
      rw [ea, Nat.sub_self]
      exact hx x (by omega)⟩
    rw [← Int32.sub_eq_add_neg] at h3
    exact h3
  | succ u ih =>
    intro t Mc ht hF hx
    have hNc : z_CR V nm nr nb (z_nw Mc) := by rw [nw_fr hF (by decide)]; exact hN
    refine z_go_run KX10_findLeast [(2, [0, 1, 2, 3]), (36, [0, 1, 2, 3])] 60 ?_
    refine ⟨fun h => absurd h (nI_ge (b := 100) (by omega) (by omega)), fun h => ?_⟩
    refine z_uR (hX10_miles Mc hNc) (by decide) ?_
    refine ⟨by rw [ixl]; exact vp_in_nI (by omega) (by omega), ?_⟩
    show z_Run X 4 _ _ 2 [(0, zr 46 0), (1, zi (nI r)), (2, zi set), (3, zi (nI t + 1))] [] (z_s Mc 61 0 (100 * nI nm + nI t).toNatClampNeg 0)
    rw [ixl, nI_clamp (by omega), nI_1]
    refine ih (t + 1) _ (by omega) (hF.s (by decide)) (fun x h3 => ?_)
    rw [z_gs]
    by_cases e : x = t
    · rw [if_pos ⟨rfl, rfl, by omega⟩]
    · rw [if_neg (by omega)]
      exact hx x (by omega)
theorem hX10_findLeast {X : z_Cx} (M : z_M) {V : Nat → Nat → Int32} {nm nr nb : Nat} (hN : z_CR V nm nr nb (z_nw M)) (hH : z_Hh M) (r : Nat) (hr : r < nr) (set : Int32) (n : Nat) (en : V 4 r = nI n) (hn : n ≤ 99) : z_Con X 4 mX10_findLeast [zr 46 0, zi (nI r), zi set] M (fun _ M' => z_Ml M M' (z_mC M V nb r set) (V 4 r) n nm 0) := by
  refine z_mg KX10_findLeast [(2, [0, 1, 2, 3])] 60 (by decide +kernel) rfl ?_
  exact lX10_findLeast1 M hN hH r hr set n en hn 100 0 M (by omega) z_Fr.refl (fun x hx => absurd hx (Nat.not_lt_zero x))
theorem hX10_leastAll {X : z_Cx} (M : z_M) {V : Nat → Nat → Int32} {nm nr nb : Nat} (hN : z_CR V nm nr nb (z_nw M)) (hH : z_Hh M) (r : Nat) (hr : r < nr) (set : Int32) (n : Nat) (en : V 4 r = nI n) (hn : n ≤ 99) : z_Con X 5 mX10_leastAll [zr 46 0, zi (nI r), zi set] M (fun v M' => v = pu_H (z_mC M V nb r set) (V 4 r) nm nm n ∧ z_Ml M M' (z_mC M V nb r set) (V 4 r) n nm 0) := by
  refine z_mg KX10_leastAll [] 60 (by decide +kernel) rfl ?_
  refine z_use (hX10_findLeast M hN hH r hr set n en hn) (by decide) (fun _ M1 h1 => ?_)
  have hNc : z_CR V nm nr nb (z_nw M1) := by rw [nw_fr h1.1 (by decide)]; exact hN
  refine z_uR (hX10_store0 M1 hNc r hr) (by decide) ?_
  refine ⟨by rw [en]; exact vp_in_nI (by omega) (by omega), ?_, h1⟩
  rw [en, nI_clamp (by omega), ← en]
  have h2 := h1.2 0 (Nat.le_refl 0) (Nat.zero_le nm) n (Nat.le_refl n)
  rw [Nat.mul_zero, Nat.zero_add, Nat.sub_zero] at h2
  exact h2
