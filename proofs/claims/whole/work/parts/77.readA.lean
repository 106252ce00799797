/-! ===== the class's reader: bytes, words ===== -/
theorem hJ0_checkIndex {X : z_Cx} (M : z_M) (x y : Int32) (hx : ¬ x < 0) (hy : x < y) : z_Con X 1 mJ0_checkIndex_df160 [zi x, zi y] M (fun _ M' => M' = M) := by
  refine z_mg KSJ0_checkIndex_df160 [] 30 (by decide +kernel) rfl ?_
  exact ⟨⟨hx, hy, by decide⟩, rfl⟩
theorem hJ0_isLatin1 {X : z_Cx} (M : z_M) (j : Nat) : z_Con X 0 mJ0_isLatin1_aae02 [zr 66 j] M (fun v M' => M' = M ∧ v = 1) := by
  refine z_mg KSJ0_isLatin1_aae02 [] 30 (by decide +kernel) rfl ?_
  refine ⟨fun w => absurd w (by decide), fun _ => ?_⟩
  exact ⟨fun w => absurd rfl w, fun _ => ⟨Or.inr rfl, rfl, rfl⟩⟩
theorem hJ0_coder {X : z_Cx} (M : z_M) (j : Nat) : z_Con X 0 mJ0_coder_7d493 [zr 66 j] M (fun v M' => M' = M ∧ v = 0) := by
  refine z_mg KSJ0_coder_7d493 [] 30 (by decide +kernel) rfl ?_
  refine ⟨fun w => absurd w (by decide), fun _ => ?_⟩
  exact ⟨by decide, rfl, rfl⟩
theorem sl_bd : ∀ j, j < 10 → 4 ≤ z_sln.getD j 0 ∧ z_sln.getD j 0 ≤ 6 ∧ nI (z_sln.getD j 0) >>> ((0 : Int32) &&& 31) = nI (z_sln.getD j 0) := by decide
theorem hJ0_length {X : z_Cx} (M : z_M) (j : Nat) (hj : j < 10) : z_Con X 1 mJ0_length_8abf5 [zr 66 j] M (fun v M' => M' = M ∧ v = nI (z_sln.getD j 0)) := by
  refine z_mg KSJ0_length_8abf5 [] 30 (by decide +kernel) rfl ?_
  refine z_uR (hJ0_coder M j) (by decide) ?_
  exact ⟨rfl, (sl_bd j hj).2.2⟩
/-- byte k of String j -/
abbrev z_sb (j k : Nat) : Int32 := (z_sby.getD j []).getD k 0
theorem sb_bd : ∀ j, j < 10 → ∀ k, k < 6 → ((z_sb j k &&& 255).toUInt32 % 65536).toInt32 = z_sb j k ∧ narrow .char (.int (z_sb j k)) = .int (z_sb j k) ∧ 0 ≤ z_sb j k ∧ z_sb j k ≤ 122 := by decide +kernel
theorem hJ1_charAt {X : z_Cx} (M : z_M) (j k : Nat) (hj : j < 10) (hk : k < z_sln.getD j 0) : z_Con X 2 mJ1_charAt_3b067 [zr 67 j, zi (nI k)] M (fun v M' => M' = M ∧ v = z_sb j k) := by
  have hl := sl_bd j hj
  have hb := sb_bd j hj k (by omega)
  refine z_mg KSJ1_charAt_3b067 [] 30 (by decide +kernel) rfl ?_
  refine z_uV (hJ0_checkIndex M (nI k) _ (nI_pos (by omega)) (nI_lt hk (by omega))) (by decide) (fun _ => ?_)
  refine ⟨vp_in_nI hk (by omega), ?_⟩
  rw [nI_clamp (by omega)]
  show narrow .char (.int ((z_sb j k &&& 255).toUInt32 % 65536).toInt32) = .int ((z_sb j k &&& 255).toUInt32 % 65536).toInt32 ∧ M = M ∧ ((z_sb j k &&& 255).toUInt32 % 65536).toInt32 = z_sb j k
  rw [hb.1]
  exact ⟨hb.2.1, rfl, rfl⟩
theorem hJ0_charAt {X : z_Cx} (M : z_M) (j k : Nat) (hj : j < 10) (hk : k < z_sln.getD j 0) : z_Con X 3 mJ0_charAt_5068e [zr 66 j, zi (nI k)] M (fun v M' => M' = M ∧ v = z_sb j k) := by
  have hl := sl_bd j hj
  have hb := sb_bd j hj k (by omega)
  refine z_mg KSJ0_charAt_5068e [] 30 (by decide +kernel) rfl ?_
  refine z_uR (hJ0_isLatin1 M j) (by decide) ?_
  refine ⟨fun w => absurd w (by decide), fun _ => ?_⟩
  refine z_uR (hJ1_charAt M j k hj hk) (by decide) ?_
  exact ⟨hb.2.1, rfl, rfl⟩
/-- the tape's byte at x, below 0 beyond it -/
def pu_ba (B : Nat → Int32) (len x : Nat) : Int32 := if x < len then B x &&& 255 else -1
theorem hX5_byteAt {X : z_Cx} (M : z_M) (len : Nat) (hl : M.1 4 0 2 = nI len) (hl6 : len ≤ 600) (x : Nat) (hx : x ≤ 700) : z_Con X 0 mX5_byteAt [zr 4 0, zi (nI x)] M (fun v M' => M' = M ∧ v = pu_ba (M.1 5 0) len x) := by
  refine z_mg KX5_byteAt [] 40 (by decide +kernel) rfl ?_
  unfold pu_ba
  refine ⟨fun w => absurd w (nI_pos (by omega)), fun _ => ?_⟩
  refine ⟨fun g => ?_, fun g => ?_⟩ <;> rw [hl, nI_leI (by omega) (by omega)] at g
  · exact ⟨rfl, by rw [if_neg (by omega)]⟩
  · refine ⟨fun g2 => absurd g2 (nI_ge (b := 600) (by omega) (by omega)), fun g2 => ?_⟩
    refine ⟨vp_in_nI (by omega) (by omega), rfl, ?_⟩
    rw [nI_clamp (by omega), if_pos (by omega)]
theorem hX5_isBlank {X : z_Cx} (M : z_M) (b : Int32) : z_Con X 0 mX5_isBlank [zi b] M (fun v M' => M' = M ∧ v = if b = 32 ∨ b = 10 then 1 else 0) := by
  refine z_mg KX5_isBlank [] 40 (by decide +kernel) rfl ?_
  refine ⟨fun g => ⟨Or.inr rfl, rfl, by rw [if_pos (Or.inl g)]⟩, fun g => ?_⟩
  exact ⟨fun g2 => ⟨Or.inl rfl, rfl, by rw [if_neg (fun w => w.elim g g2)]⟩, fun g2 => ⟨Or.inr rfl, rfl, by rw [if_pos (Or.inr g2)]⟩⟩
theorem hX5_isLetter {X : z_Cx} (M : z_M) (b : Int32) : z_Con X 0 mX5_isLetter [zi b] M (fun v M' => M' = M ∧ v = if 97 ≤ b ∧ b ≤ 122 then 1 else 0) := by
  refine z_mg KX5_isLetter [] 40 (by decide +kernel) rfl ?_
  refine ⟨fun g => ⟨Or.inl rfl, rfl, by grind⟩, fun g => ?_⟩
  exact ⟨fun g2 => ⟨Or.inl rfl, rfl, by grind⟩, fun g2 => ⟨Or.inr rfl, rfl, by grind⟩⟩
theorem hX5_isFigure {X : z_Cx} (M : z_M) (b : Int32) : z_Con X 0 mX5_isFigure [zi b] M (fun v M' => M' = M ∧ v = if 48 ≤ b ∧ b ≤ 57 then 1 else 0) := by
  refine z_mg KX5_isFigure [] 40 (by decide +kernel) rfl ?_
  refine ⟨fun g => ⟨Or.inl rfl, rfl, by grind⟩, fun g => ?_⟩
  exact ⟨fun g2 => ⟨Or.inl rfl, rfl, by grind⟩, fun g2 => ⟨Or.inr rfl, rfl, by grind⟩⟩
theorem hX5_fails {X : z_Cx} (M : z_M) (n : Int32) : z_Con X 0 mX5_fails [zr 4 0, zi n] M (fun v M' => v = 0 ∧ M' = z_s M 4 0 3 n) := by
  refine z_mg KX5_fails [] 40 (by decide +kernel) rfl ?_
  exact ⟨Or.inl rfl, rfl, rfl⟩
/-- a token in hand: its first byte, the byte behind it, its sort, its value; sorts: 0 end, 1 name, 2 number, 3 semicolon, 4 none -/
def z_tkn (M : z_M) (f b : Nat) (s v : Int32) : Prop := M.1 4 0 4 = nI f ∧ M.1 4 0 5 = nI b ∧ M.1 4 0 6 = s ∧ (s = 2 → M.1 4 0 7 = v)
/-- the text from f to b is String j -/
def pu_wd (B : Nat → Int32) (f j : Nat) : Nat → Bool
  | 0 => true
  | k + 1 => pu_wd B f j k && decide (B (f + k) &&& 255 = z_sb j k)
def pu_isw (B : Nat → Int32) (f b : Nat) (s : Int32) (j : Nat) : Bool := decide (s = 1) && decide (b - f = z_sln.getD j 0) && pu_wd B f j (z_sln.getD j 0)
theorem wd_false {B : Nat → Int32} {f j t : Nat} (h : pu_wd B f j t = false) : ∀ u, pu_wd B f j (t + u) = false := by
  intro u
  induction u with
  | zero => exact h
  | succ u ih => show (pu_wd B f j (t + u) && _) = false; rw [ih]; rfl
theorem lX5_isWord {X : z_Cx} (M : z_M) (len f b : Nat) (s v : Int32) (hl : M.1 4 0 2 = nI len) (hl6 : len ≤ 600) (hfb : f ≤ b) (hb : b ≤ len) (ht : z_tkn M f b s v) (j : Nat) (hj : j < 10) (hbf : b - f = z_sln.getD j 0) : ∀ (u t : Nat), t + u = z_sln.getD j 0 → pu_wd (M.1 5 0) f j t = true → z_Run X 4 mX5_isWord (fun v M' => M' = M ∧ v = pu_b2 (pu_wd (M.1 5 0) f j (z_sln.getD j 0))) 28 [(0, zr 4 0), (1, zr 66 j), (2, zi (nI t))] [] M := by
  have hlj := sl_bd j hj
  intro u
  induction u with
  | zero =>
    intro t hu hw
    refine z_go_run KSX5_isWord [(28, [0, 1, 2])] 60 ?_
    refine z_uR (hJ0_length M j hj) (by decide) ?_
    rw [show t = z_sln.getD j 0 by omega]
    rw [show t = z_sln.getD j 0 by omega] at hw
    exact ⟨fun _ => ⟨Or.inr rfl, rfl, by rw [hw]; rfl⟩, fun h => absurd (Int32.le_refl _) h⟩
  | succ u ih =>
    intro t hu hw
    have es : pu_wd (M.1 5 0) f j (t + 1) = (pu_wd (M.1 5 0) f j t && decide (M.1 5 0 (f + t) &&& 255 = z_sb j t)) := rfl
    refine z_go_run KSX5_isWord [(28, [0, 1, 2])] 60 ?_
    refine z_uR (hJ0_length M j hj) (by decide) ?_
    refine ⟨fun h => absurd h (nI_ge (by omega) (by omega)), fun h => ?_⟩
    have hc : z_Con X 0 mX5_byteAt [zr 4 0, zi (M.1 4 0 4 + nI t)] M (fun v M' => M' = M ∧ v = M.1 5 0 (f + t) &&& 255) := by
      rw [ht.1, nI_add]
      refine (hX5_byteAt M len hl hl6 (f + t) (by omega)).to ?_
      unfold pu_ba
      rw [if_pos (by omega)]
    refine z_uR hc (by decide) ?_
    refine z_uR (hJ0_charAt M j t hj (by omega)) (by decide) ?_
    refine ⟨fun g => ?_, fun g => ?_⟩
    · have h3 := ih (t + 1) (by omega) (by rw [es, hw, Bool.true_and]; exact decide_eq_true g)
      rw [← nI_1] at h3
      exact h3
    · have h1 : pu_wd (M.1 5 0) f j (t + 1) = false := by rw [es, hw, Bool.true_and]; exact decide_eq_false g
      have h2 := wd_false h1 u
      rw [show t + 1 + u = z_sln.getD j 0 by omega] at h2
      exact ⟨Or.inl rfl, rfl, by rw [h2]; rfl⟩
theorem hX5_isWord {X : z_Cx} (M : z_M) (len f b : Nat) (s v : Int32) (hl : M.1 4 0 2 = nI len) (hl6 : len ≤ 600) (hfb : f ≤ b) (hb : s = 1 → b ≤ len) (hb7 : b ≤ 700) (ht : z_tkn M f b s v) (j : Nat) (hj : j < 10) : z_Con X 4 mX5_isWord [zr 4 0, zr 66 j] M (fun v M' => M' = M ∧ v = pu_b2 (pu_isw (M.1 5 0) f b s j)) := by
  have hlj := sl_bd j hj
  refine z_mg KSX5_isWord [(28, [0, 1, 2])] 60 (by decide +kernel) rfl ?_
  unfold pu_isw
  refine ⟨fun g => ?_, fun g => ?_⟩ <;> rw [ht.2.2.1] at g
  · exact ⟨Or.inl rfl, rfl, by rw [decide_eq_false g]; rfl⟩
  · refine z_uR (hJ0_length M j hj) (by decide) ?_
    have e : M.1 4 0 5 - M.1 4 0 4 = nI (b - f) := by rw [ht.1, ht.2.1]; exact pk_sub hfb
    refine ⟨fun g2 => ?_, fun g2 => ?_⟩ <;> rw [e, nI_eq (by omega) (by omega)] at g2
    · have h3 := lX5_isWord (X := X) M len f b s v hl hl6 hfb (hb g) ht j hj g2 (z_sln.getD j 0) 0 (by omega) rfl
      rw [decide_eq_true g, decide_eq_true g2, Bool.true_and, Bool.true_and]
      exact h3
    · exact ⟨Or.inl rfl, rfl, by rw [decide_eq_false g2, Bool.and_false]; rfl⟩
