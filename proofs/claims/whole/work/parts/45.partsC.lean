/-! ===== the class: parts, its pieces ===== -/
theorem nI_divN {a b : Nat} (ha : a < 2 ^ 31) (hb0 : 0 < b) (hb : b < 2 ^ 31) : nI a / nI b = nI (a / b) := by
  apply Int32.toInt_inj.mp
  have h1 : a / b ≤ a := Nat.div_le_self a b
  rw [Int32.toInt_div_of_ne_right _ _ (by
    intro w
    have h2 := congrArg Int32.toInt w
    rw [nI_toInt hb] at h2
    have h3 : (-1 : Int32).toInt = -1 := by decide
    rw [h3] at h2
    omega), nI_toInt ha, nI_toInt hb, nI_toInt (by omega)]
  exact Int.ofNat_tdiv a b
theorem nI_mulN {a b : Nat} : nI a * nI b = nI (a * b) := (Int32.ofNat_mul a b).symm
theorem nI_subN {a b : Nat} (h : b ≤ a) : nI a - nI b = nI (a - b) := by
  have h1 : nI (a - b) + nI b = nI a := by rw [nI_add, Nat.sub_add_cancel h]
  rw [← h1]
  grind
theorem nI_rem {a b : Nat} (ha : a < 2 ^ 31) (hb0 : 0 < b) (hb : b < 2 ^ 31) : nI a - nI a / nI b * nI b = nI (a % b) := by
  rw [nI_divN ha hb0 hb, nI_mulN, nI_subN (Nat.div_mul_le_self a b)]
  congr 1
  have h1 := Nat.div_add_mod a b
  have h2 : a / b * b = b * (a / b) := Nat.mul_comm _ _
  omega
theorem lX9_commonDivisor {X : z_Cx} (M : z_M) (v0 v1 : Int32) : ∀ (u t hi lo : Nat), hi ≤ u → t + u ≤ 100 → 0 < lo → hi < 2 ^ 31 → lo < 2 ^ 31 → z_Run X 0 mX9_commonDivisor (fun r M' => M' = M ∧ r = nI (Nat.gcd hi lo)) 7 [(0, zi v0), (1, zi v1), (2, zi (nI hi)), (3, zi (nI lo)), (4, zi (nI t))] [] M := by
  intro u
  induction u with
  | zero =>
    intro t hi lo h1 h2 h3 h4 h5
    have e : hi = 0 := by omega
    subst e
    refine z_go_run KX9_commonDivisor [(7, [0, 1, 2, 3, 4])] 60 ?_
    refine ⟨fun h => ?_, fun h => ?_⟩
    · exact ⟨rfl, by rw [Nat.gcd_zero_left]⟩
    · refine ⟨fun _ => ?_, fun w => absurd rfl w⟩
      exact ⟨rfl, by rw [Nat.gcd_zero_left]⟩
  | succ u ih =>
    intro t hi lo h1 h2 h3 h4 h5
    refine z_go_run KX9_commonDivisor [(7, [0, 1, 2, 3, 4])] 60 ?_
    refine ⟨fun h => ?_, fun h => ?_⟩
    · exact absurd h (nI_ge (a := t) (b := 100) (by omega) (by omega))
    · refine ⟨fun g => ?_, fun g => ?_⟩
      · have e : hi = 0 := (nI_eq (b := 0) h4 (by omega)).mp g
        subst e
        exact ⟨rfl, by rw [Nat.gcd_zero_left]⟩
      · have hp : 0 < hi := by
          rcases Nat.eq_zero_or_pos hi with e | e
          · exact absurd (by rw [e]; rfl) g
          · exact e
        refine ⟨g, ?_⟩
        have hm := Nat.mod_lt lo hp
        have h6 := ih (t + 1) (lo % hi) hi (by omega) (by omega) hp (by omega) h4
        rw [← nI_1 t, ← nI_rem h5 hp h4, ← Nat.gcd_rec hi lo] at h6
        exact h6
theorem hX9_commonDivisor {X : z_Cx} (M : z_M) (n : Nat) (hn : n < 2 ^ 31) : z_Con X 0 mX9_commonDivisor [zi (nI n), zi 24] M (fun r M' => M' = M ∧ r = nI (Nat.gcd n 24)) := by
  refine z_mg KX9_commonDivisor [(7, [0, 1, 2, 3, 4])] 60 (by decide +kernel) rfl ?_
  show z_Run X 0 _ _ 7 [(0, zi (nI n)), (1, zi 24), (2, zi (nI n)), (3, zi 24), (4, zi 0)] [] M
  rcases Nat.eq_zero_or_pos n with e | e
  · subst e
    exact lX9_commonDivisor M (nI 0) 24 0 0 0 24 (Nat.le_refl 0) (by omega) (by omega) (by omega) (by omega)
  · refine z_go_run KX9_commonDivisor [(7, [0, 1, 2, 3, 4])] 60 ?_
    refine ⟨fun w => absurd w (by decide), fun _ => ?_⟩
    have hne : ¬ nI n = 0 := nI_ne0 e hn
    refine ⟨fun w => absurd w hne, fun _ => ?_⟩
    refine ⟨hne, ?_⟩
    have h24 : 24 % n ≤ 24 := Nat.mod_le 24 n
    have h6 := lX9_commonDivisor (X := X) M (nI n) 24 25 1 (24 % n) n (by omega) (by omega) e (by omega) hn
    rw [← nI_rem (a := 24) (by omega) e hn, ← Nat.gcd_rec n 24] at h6
    exact h6
def pu_pop (t : Nat) : Nat := t % 2 + t / 2 % 2 + t / 4 % 2 + t / 8 % 2
theorem hJ6_bitCount {X : z_Cx} (M : z_M) (t : Nat) (ht : t < 16) : z_Con X 0 mJ6_bitCount_0f7a4 [zi (nI t)] M (fun r M' => M' = M ∧ r = nI (pu_pop t)) := by
  refine z_mg KJ6_bitCount_0f7a4 [] 80 (by decide +kernel) rfl ?_
  refine ⟨rfl, ?_⟩
  rcases (show t = 0 ∨ t = 1 ∨ t = 2 ∨ t = 3 ∨ t = 4 ∨ t = 5 ∨ t = 6 ∨ t = 7 ∨ t = 8 ∨ t = 9 ∨ t = 10 ∨ t = 11 ∨ t = 12 ∨ t = 13 ∨ t = 14 ∨ t = 15 by omega) with e | e | e | e | e | e | e | e | e | e | e | e | e | e | e | e <;> subst e <;> decide
