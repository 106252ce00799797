/-! ===== the model: feed ===== -/
/-- the model's byte -/
def pu_mb (w : Int64) (k : Nat) : Int32 := (((w.toUInt64 >>> ((8 * nI k).toInt64.toUInt64 &&& Int64.toUInt64 63)).toInt64) &&& 255).toInt32
theorem sh8 : ∀ k, k < 8 → ((8 * nI k).toInt64 &&& 63).toBitVec.smod 64 = BitVec.ofNat 64 (8 * k) := by decide
theorem ush8 : ∀ k, k < 8 → (((8 * nI k).toInt64.toUInt64 &&& Int64.toUInt64 63).toBitVec % 64) = BitVec.ofNat 64 (8 * k) := by decide
theorem by8 (w : Int64) {k : Nat} (hk : k < 8) : ((w >>> ((8 * nI k).toInt64 &&& 63)).toInt32.toInt8).toBitVec = (w.toBitVec >>> (8 * k)).setWidth 8 := by
  apply BitVec.eq_of_getLsbD_eq
  intro i hi
  have e : (w >>> ((8 * nI k).toInt64 &&& 63)).toBitVec = w.toBitVec.sshiftRight (8 * k) := by
    rw [Int64.toBitVec_shiftRight, sh8 k hk]
    show w.toBitVec.sshiftRight (BitVec.ofNat 64 (8 * k)).toNat = _
    rw [BitVec.toNat_ofNat, Nat.mod_eq_of_lt (by omega)]
  rw [Int32.toBitVec_toInt8, Int64.toBitVec_toInt32, e, BitVec.getLsbD_signExtend, BitVec.getLsbD_signExtend, BitVec.getLsbD_sshiftRight, BitVec.getLsbD_setWidth, BitVec.getLsbD_ushiftRight]
  rw [if_pos (by omega), if_pos (by omega), if_pos (by omega), decide_eq_true (show i < 8 by omega), Bool.true_and]
  rw [decide_eq_false (show ¬ 64 ≤ i by omega)]
  simp
  intro _
  omega
theorem mb8 (w : Int64) {k : Nat} (hk : k < 8) : (pu_mb w k).toBitVec = ((w.toBitVec >>> (8 * k)).setWidth 8).setWidth 32 := by
  apply BitVec.eq_of_getLsbD_eq
  intro i hi
  have e : (w.toUInt64 >>> ((8 * nI k).toInt64.toUInt64 &&& Int64.toUInt64 63)).toInt64.toBitVec = w.toBitVec >>> (8 * k) := by
    show (w.toUInt64 >>> ((8 * nI k).toInt64.toUInt64 &&& Int64.toUInt64 63)).toBitVec = _
    rw [UInt64.toBitVec_shiftRight, ush8 k hk]
    show w.toBitVec >>> (BitVec.ofNat 64 (8 * k)).toNat = _
    rw [BitVec.toNat_ofNat, Nat.mod_eq_of_lt (by omega)]
  unfold pu_mb
  rw [Int64.toBitVec_toInt32, Int64.toBitVec_and, e, BitVec.getLsbD_signExtend, if_pos (by omega), BitVec.getLsbD_and, BitVec.getLsbD_setWidth, BitVec.getLsbD_setWidth]
  have e2 : ∀ i, i < 32 → (255 : Int64).toBitVec.getLsbD i = decide (i < 8) := by decide
  rw [e2 i hi, Bool.and_comm (decide (i < 8))]
theorem by_eq (w : Int64) {k : Nat} (hk : k < 8) : pu_mb w k = pu_by w k &&& 255 := by
  apply Int32.toBitVec_inj.mp
  rw [mb8 w hk, Int32.toBitVec_and]
  have e : (pu_by w k).toBitVec = ((w.toBitVec >>> (8 * k)).setWidth 8).signExtend 32 := by
    unfold pu_by
    rw [Int8.toInt8_toInt32, Int8.toBitVec_toInt32, by8 w hk]
  rw [e]
  apply BitVec.eq_of_getLsbD_eq
  intro i hi
  have e2 : ∀ i, i < 32 → (255 : Int32).toBitVec.getLsbD i = decide (i < 8) := by decide
  rw [BitVec.getLsbD_and, e2 i hi, BitVec.getLsbD_signExtend, BitVec.getLsbD_setWidth, decide_eq_true hi]
  by_cases h : i < 8
  · rw [if_pos h, decide_eq_true h]; simp
  · rw [decide_eq_false h, BitVec.getLsbD_setWidth, decide_eq_false h]; simp
/-- the tape: len bytes -/
def z_Tm (B : Nat → Int32) (len : Nat) (M : z_M) : Prop := len ≤ 600 ∧ M.1 46 0 5 = nI len ∧ ∀ x, x < len → M.1 50 0 x = B x &&& 255
def z_mt (M : z_M) (w : Int64) (len n j : Nat) : z_M := z_s (z_sr M 50 0 (fun x => if len ≤ x ∧ x < len + j then pu_mb w (n - 1 - (x - len)) else M.1 50 0 x)) 46 0 5 (nI (len + j))
theorem z_mt_step {M : z_M} {w : Int64} {len n j : Nat} : z_s (z_s (z_mt M w len n j) 50 0 (len + j) (pu_mb w (n - 1 - j))) 46 0 5 (nI (len + j) + 1) = z_mt M w len n (j + 1) := by
  unfold z_mt
  rw [nI_1, show len + j + 1 = len + (j + 1) by omega]
  refine Prod.ext ?_ rfl
  funext a b c
  show (if a = 46 ∧ b = 0 ∧ c = 5 then nI (len + (j + 1)) else if a = 50 ∧ b = 0 ∧ c = len + j then pu_mb w (n - 1 - j) else if a = 46 ∧ b = 0 ∧ c = 5 then nI (len + j) else if a = 50 ∧ b = 0 then (if len ≤ c ∧ c < len + j then pu_mb w (n - 1 - (c - len)) else M.1 50 0 c) else M.1 a b c) = (if a = 46 ∧ b = 0 ∧ c = 5 then nI (len + (j + 1)) else if a = 50 ∧ b = 0 then (if len ≤ c ∧ c < len + (j + 1) then pu_mb w (n - 1 - (c - len)) else M.1 50 0 c) else M.1 a b c)
  by_cases h1 : a = 46 ∧ b = 0 ∧ c = 5
  · rw [if_pos h1, if_pos h1]
  · rw [if_neg h1, if_neg h1, if_neg h1]
    by_cases h2 : a = 50 ∧ b = 0
    · rw [if_pos h2, if_pos h2]
      by_cases h3 : c = len + j
      · rw [if_pos ⟨h2.1, h2.2, h3⟩, if_pos (by omega), show c - len = j by omega]
      · rw [if_neg (fun w => h3 w.2.2)]
        by_cases h4 : len ≤ c ∧ c < len + j
        · rw [if_pos h4, if_pos (by omega)]
        · rw [if_neg h4, if_neg (by omega)]
    · rw [if_neg h2, if_neg h2, if_neg (fun w => h2 ⟨w.1, w.2.1⟩)]
theorem lX10_feed {X : z_Cx} (M : z_M) (w : Int64) (len n : Nat) (hn : n ≤ 8) (hl : len + n ≤ 600) : ∀ (r j : Nat), j + r = n → z_Run X 1 mX10_feed (fun v M' => v = nI (len + n) ∧ M' = z_mt M w len n n) 35 [(0, zr 46 0), (1, zl w), (3, zi (nI n)), (4, zi (nI r + (-1)))] [] (z_mt M w len n j) := by
  intro r
  induction r with
  | zero =>
    intro j hj
    have e : j = n := by omega
    subst e
    refine z_go_run KX10_feed [(35, [0, 1, 3, 4])] 60 ?_
    refine ⟨fun h => ⟨?_, rfl⟩, fun h => absurd (by decide) h⟩
    unfold z_mt
    rw [z_gs, if_pos ⟨rfl, rfl, rfl⟩]
  | succ r ih =>
    intro j hj
    rw [z_m1]
    have e46 : (z_mt M w len n j).1 46 0 5 = nI (len + j) := by
      unfold z_mt
      rw [z_gs, if_pos ⟨rfl, rfl, rfl⟩]
    have elj : (nI (len + j)).toNatClampNeg = len + j := nI_clamp (by omega)
    refine z_go_run KX10_feed [(35, [0, 1, 3, 4])] 60 ?_
    refine ⟨fun h => absurd h (nI_pos (by omega)), fun h => ?_⟩
    refine ⟨by rw [e46]; exact vp_in_nI (by omega) (by omega), ?_⟩
    have e2 : (z_s (z_mt M w len n j) 50 0 (len + j) (pu_mb w r)).1 46 0 5 = nI (len + j) := by rw [z_gs, if_neg (by omega), e46]
    show z_Run X 1 _ _ 35 [(0, zr 46 0), (1, zl w), (3, zi (nI n)), (4, zi (nI r + (-1)))] [] (z_s (z_s (z_mt M w len n j) 50 0 ((z_mt M w len n j).1 46 0 5).toNatClampNeg (pu_mb w r)) 46 0 5 ((z_s (z_mt M w len n j) 50 0 ((z_mt M w len n j).1 46 0 5).toNatClampNeg (pu_mb w r)).1 46 0 5 + 1))
    rw [e46, elj, e2, show r = n - 1 - j by omega, z_mt_step, ← show r = n - 1 - j by omega]
    exact ih (j + 1) (by omega)
theorem hX10_feed {X : z_Cx} (M : z_M) {B : Nat → Int32} {len : Nat} (hT : z_Tm B len M) (w : Int64) (n : Int32) : z_Con X 1 mX10_feed [zr 46 0, zl w, zi n] M (fun v M' => (¬ (1 ≤ n ∧ n ≤ 8) ∧ v = -1000001 ∧ M' = M) ∨ (∃ c, 1 ≤ c ∧ c ≤ 8 ∧ n = nI c ∧ ((600 < len + c ∧ v = -1000003 ∧ M' = M) ∨ (len + c ≤ 600 ∧ v = nI (len + c) ∧ z_Fm [5] [50] M M' ∧ z_Tm (fun x => if len ≤ x ∧ x < len + c then pu_by w (c - 1 - (x - len)) else B x) (len + c) M')))) := by
  obtain ⟨h6, hl, hB⟩ := hT
  refine z_mg KX10_feed [(35, [0, 1, 3, 4])] 60 (by decide +kernel) rfl ?_
  refine z_uR (hX10_inI M n 1 8 (by decide) (by decide)) (by decide) ?_
  refine ⟨fun h => ?_, fun h => ?_⟩
  · have hv : 1 ≤ n ∧ n ≤ 8 := by grind
    obtain ⟨c, hc, ec⟩ := nI_of2 (x := n) (M := 8) (n := 8) (by decide) (by grind) hv.2
    subst ec
    have hc1 : 1 ≤ c := (nI_leI (a := 1) (by omega) (by omega)).mp hv.1
    refine ⟨fun h1 => ?_, fun h1 => ?_⟩ <;> rw [hl, nI_add] at h1
    · have h2 : len + c ≤ 600 := (nI_leI (b := 600) (by omega) (by omega)).mp h1
      have h3 := lX10_feed (X := X) M w len c hc h2 c 0 (by omega)
      have e0 : z_mt M w len c 0 = M := by
        unfold z_mt
        rw [Nat.add_zero, ← hl]
        have e1 : z_sr M 50 0 (fun x => if len ≤ x ∧ x < len then pu_mb w (c - 1 - (x - len)) else M.1 50 0 x) = M := z_sr_self (by funext z; rw [if_neg (by omega)])
        rw [e1]
        refine Prod.ext ?_ rfl
        funext a b d
        show (if a = 46 ∧ b = 0 ∧ d = 5 then M.1 46 0 5 else M.1 a b d) = M.1 a b d
        by_cases e : a = 46 ∧ b = 0 ∧ d = 5
        · rw [if_pos e, e.1, e.2.1, e.2.2]
        · rw [if_neg e]
      rw [e0, ← Int32.sub_eq_add_neg] at h3
      refine z_Run.post h3 ?_
      rintro v M' ⟨rfl, rfl⟩
      refine Or.inr ⟨c, hc1, hc, rfl, Or.inr ⟨h2, rfl, ?_, h2, ?_, fun x hx => ?_⟩⟩
      · unfold z_mt
        exact ((z_Fm.refl).sr (by decide) (by decide)).s46 (by decide)
      · unfold z_mt
        rw [z_gs, if_pos ⟨rfl, rfl, rfl⟩]
      · unfold z_mt
        rw [z_gs, if_neg (by omega), z_gr, if_pos ⟨rfl, rfl⟩]
        dsimp only
        by_cases e : len ≤ x ∧ x < len + c
        · rw [if_pos e, if_pos e, by_eq w (by omega)]
        · rw [if_neg e, if_neg e, hB x (by omega)]
    · refine Or.inr ⟨c, hc1, hc, rfl, Or.inl ⟨?_, rfl, rfl⟩⟩
      rcases Nat.lt_or_ge 600 (len + c) with w | w
      · exact w
      · exact absurd (nI_le (b := 600) w (by omega)) h1
  · exact Or.inl ⟨by grind, rfl, rfl⟩
theorem hX10_fault {X : z_Cx} (M : z_M) : z_Con X 0 mX10_fault [zr 46 0] M (fun r M' => M' = M ∧ r = M.1 46 0 6) := by
  refine z_mg KX10_fault [] 40 (by decide +kernel) rfl ?_
  exact ⟨rfl, rfl⟩
theorem hX10_status {X : z_Cx} (M : z_M) : z_Con X 0 mX10_status [zr 46 0] M (fun r M' => M' = M ∧ r = M.1 46 0 7) := by
  refine z_mg KX10_status [] 40 (by decide +kernel) rfl ?_
  exact ⟨rfl, rfl⟩
theorem hX10_need {X : z_Cx} (M : z_M) {V : Nat → Nat → Int32} {nm nr nb : Nat} (hN : z_CR V nm nr nb (z_nw M)) (h0 : z_H0 M) (m p b : Int32) : z_Con X 2 mX10_need [zr 46 0, zi m, zi p, zi b] M (fun r M' => M' = M ∧ ((¬ (pu_ru nm m ∧ (10 ≤ p ∧ p ≤ 40) ∧ 0 ≤ b ∧ b ≤ 1) ∧ r = -1000001) ∨ (pu_ru nm m ∧ (10 ≤ p ∧ p ≤ 40) ∧ 0 ≤ b ∧ b ≤ 1 ∧ r = pu_need V 0 m.toNatClampNeg p b))) := by
  have h12 := hN.1.1
  refine z_mg KX10_need [] 60 (by decide +kernel) rfl ?_
  refine z_uR (hX10_isMile M hN m) (by decide) ?_
  refine ⟨fun h => ⟨rfl, Or.inl ⟨fun w => absurd w.1 (by unfold pu_ru; grind), rfl⟩⟩, fun h => ?_⟩
  have hm : pu_ru nm m := by unfold pu_ru; grind
  obtain ⟨x, hx, ex⟩ := ru_of (by omega) hm
  subst ex
  refine z_uR (hX10_isPace M p) (by decide) ?_
  refine ⟨fun h2 => ⟨rfl, Or.inl ⟨fun w => absurd w.2.1 (by grind), rfl⟩⟩, fun h2 => ?_⟩
  refine z_uR (hX10_inI M b 0 1 (by decide) (by decide)) (by decide) ?_
  refine ⟨fun h3 => ⟨rfl, Or.inl ⟨fun w => absurd w.2.2 (by grind), rfl⟩⟩, fun h3 => ?_⟩
  have hp : 10 ≤ p ∧ p ≤ 40 := by grind
  have hb : 0 ≤ b ∧ b ≤ 1 := by grind
  have e0 : z_hm M x = 0 := h0 (x / 4) (by omega)
  refine ⟨fun h4 => ?_, fun h4 => ?_⟩
  · refine z_uR (hX10_needOf M hN x hx p 0) (by decide) ?_
    refine ⟨rfl, Or.inr ⟨hm, hp, hb.1, hb.2, ?_⟩⟩
    rw [e0, nI_clamp (by omega), show b = 0 by grind]
  · refine z_uR (hX10_needOf M hN x hx p 1) (by decide) ?_
    refine ⟨rfl, Or.inr ⟨hm, hp, hb.1, hb.2, ?_⟩⟩
    rw [e0, nI_clamp (by omega), show b = 1 by grind]
