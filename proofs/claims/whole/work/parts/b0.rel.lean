/-! ===== class and reference, side by side ===== -/
abbrev z_Cm : Type := Nat → Nat → Nat → Int32
/-- the rows of the class's i-th course -/
def z_cq (C : z_Cm) (i : Nat) : Nat → Nat → Int32 := fun f j => if f < 14 then C (7 + f) i j else 0
/-- what holds of the class's memory -/
def z_Ci (C : z_Cm) (len nm nr nb : Nat) (l : List Int32) : Prop :=
  (∀ s, s < 8 → -1 ≤ C 2 s 1 ∧ C 2 s 1 ≤ 2 ∧ 0 ≤ C 2 s 2 ∧ C 2 s 2 ≤ 40) ∧ C 4 0 2 = nI len ∧ (C 6 0 1 = nI nm ∧ C 6 0 5 = nI nr ∧ C 6 0 14 = nI nb ∧ C 6 0 0 = if nm = 0 then 0 else 1) ∧ (∀ k, k < 31 → C 31 0 k = pu_sec k) ∧ (C 21 0 3 = 0 ∨ C 21 0 3 = 1) ∧ (l.length ≤ 16 ∧ C 44 0 1 = nI l.length ∧ ∀ j, j < l.length → C 45 0 j = l.getD j 0) ∧ ∀ j, j < 2 → (C 6 (j + 2) 0 = 0 ∨ C 6 (j + 2) 0 = 1) ∧ (C 21 (j + 1) 3 = 0 ∨ C 21 (j + 1) 3 = 1)
/-- the model's j-th image -/
def z_kp (M : z_M) (j : Nat) : Nat → Int32 := fun x => M.1 48 0 (479 * j + x)
def z_Im (C : z_Cm) (j : Nat) (M : z_M) : Prop := M.1 49 0 j = C 6 (j + 2) 0 ∧ (¬ C 6 (j + 2) 0 = 0 → ∃ nm nr nb, 1 ≤ nm ∧ (C 6 (j + 2) 1 = nI nm ∧ C 6 (j + 2) 5 = nI nr ∧ C 6 (j + 2) 14 = nI nb) ∧ z_CR (z_cq C (j + 2)) nm nr nb (z_kp M j) ∧ z_Rf (z_cq C (j + 2)) nm nr (C 21 (j + 1) 3) (fun w => C 23 (w + 7 * (j + 1))) (C 24 (j + 1)) (z_kp M j))
/-- the model's memory is that of the class C -/
def z_Mo (C : z_Cm) (len nm nr nb : Nat) (l : List Int32) (M : z_M) : Prop :=
  z_Sm (fun s => C 2 s 1) (fun s => C 2 s 2) (fun s => C 3 s) M ∧ z_Tm (C 5 0) len M ∧ z_CR (z_cq C 0) nm nr nb (z_nw M) ∧ z_Rf (z_cq C 0) nm nr (C 21 0 3) (C 23) (C 24 0) (z_nw M) ∧ z_Tx l M ∧ z_H0 M ∧ M.1 46 0 7 = C 0 0 10 ∧ M.1 46 0 6 = C 4 0 3 ∧ M.2.2 46 1 = (!M.2.2 46 0) ∧ ∀ j, j < 2 → z_Im C j M
def z_Rel (M : z_M) : Prop := ∃ len nm nr nb l, z_Ci M.1 len nm nr nb l ∧ z_Mo M.1 len nm nr nb l M
/-- the kinds of the class that the relation looks at (but its status) -/
abbrev z_vk (k : Nat) : Prop := (2 ≤ k ∧ k ≤ 21) ∨ k = 23 ∨ k = 24 ∨ k = 31 ∨ k = 44 ∨ k = 45
section MO
variable {C C' : z_Cm} {len nm nr nb : Nat} {l : List Int32} {M M' : z_M}
theorem z_Mo.sm (h : z_Mo C len nm nr nb l M) : z_Sm (fun s => C 2 s 1) (fun s => C 2 s 2) (fun s => C 3 s) M := h.1
theorem z_Mo.tm (h : z_Mo C len nm nr nb l M) : z_Tm (C 5 0) len M := h.2.1
theorem z_Mo.cr (h : z_Mo C len nm nr nb l M) : z_CR (z_cq C 0) nm nr nb (z_nw M) := h.2.2.1
theorem z_Mo.rf (h : z_Mo C len nm nr nb l M) : z_Rf (z_cq C 0) nm nr (C 21 0 3) (C 23) (C 24 0) (z_nw M) := h.2.2.2.1
theorem z_Mo.tx (h : z_Mo C len nm nr nb l M) : z_Tx l M := h.2.2.2.2.1
theorem z_Mo.h0 (h : z_Mo C len nm nr nb l M) : z_H0 M := h.2.2.2.2.2.1
theorem z_Mo.st (h : z_Mo C len nm nr nb l M) : M.1 46 0 7 = C 0 0 10 := h.2.2.2.2.2.2.1
theorem z_Mo.ft (h : z_Mo C len nm nr nb l M) : M.1 46 0 6 = C 4 0 3 := h.2.2.2.2.2.2.2.1
theorem z_Mo.sp (h : z_Mo C len nm nr nb l M) : M.2.2 46 1 = (!M.2.2 46 0) := h.2.2.2.2.2.2.2.2.1
theorem z_Mo.im (h : z_Mo C len nm nr nb l M) : ∀ j, j < 2 → z_Im C j M := h.2.2.2.2.2.2.2.2.2
theorem cw_eq (hc : ∀ k, z_vk k → C' k = C k) (i : Nat) : z_cq C' i = z_cq C i := by
  funext f j
  unfold z_cq
  by_cases h : f < 14
  · rw [if_pos h, if_pos h, hc (7 + f) (Or.inl (by omega))]
  · rw [if_neg h, if_neg h]
theorem nw_eq (h47 : M'.1 47 = M.1 47) (h2 : M'.2.2 = M.2.2) : z_nw M' = z_nw M := by
  show M'.1 47 (M'.2.2 46 0).toNat = M.1 47 (M.2.2 46 0).toNat
  rw [h47, h2]
theorem kp_eq (h48 : M'.1 48 = M.1 48) (j : Nat) : z_kp M' j = z_kp M j := by
  unfold z_kp
  rw [h48]
theorem Im_gen (hc : ∀ k, z_vk k → C' k = C k) (h48 : M'.1 48 = M.1 48) (h49 : M'.1 49 = M.1 49) {j : Nat} (h : z_Im C j M) : z_Im C' j M' := by
  unfold z_Im at h ⊢
  rw [h49, kp_eq h48, cw_eq hc, hc 6 (by decide), hc 21 (by decide), hc 23 (by decide), hc 24 (by decide)]
  exact h
theorem Mo_gen (h : z_Mo C len nm nr nb l M) (hc : ∀ k, z_vk k → C' k = C k) (hs : M'.1 46 0 7 = C' 0 0 10) (h46 : ∀ j, j = 5 ∨ j = 6 ∨ j = 29 → M'.1 46 0 j = M.1 46 0 j) (hk : ∀ k, ((47 ≤ k ∧ k ≤ 55) ∨ k = 63) → M'.1 k = M.1 k) (h2 : M'.2.2 = M.2.2) : z_Mo C' len nm nr nb l M' := by
  have h47 := hk 47 (by decide)
  refine ⟨fun s hs => ?_, ⟨h.tm.1, (h46 5 (by decide)).trans h.tm.2.1, fun x hx => ?_⟩, ?_, ?_, ⟨h.tx.1, (h46 29 (by decide)).trans h.tx.2.1, fun j hj => ?_⟩, fun k hk3 => ?_, hs, ?_, ?_, fun j hj => ?_⟩
  · have q := h.sm s hs
    rw [hk 51 (by decide), hk 52 (by decide), hk 53 (by decide), hk 54 (by decide)]
    rw [hc 2 (by decide), hc 3 (by decide)]
    exact q
  · rw [hk 50 (by decide), hc 5 (by decide)]
    exact h.tm.2.2 x hx
  · rw [nw_eq h47 h2, cw_eq hc]
    exact h.cr
  · rw [nw_eq h47 h2, cw_eq hc, hc 21 (by decide), hc 23 (by decide), hc 24 (by decide)]
    exact h.rf
  · rw [hk 63 (by decide)]
    exact h.tx.2.2 j hj
  · rw [hk 55 (by decide)]
    exact h.h0 k hk3
  · rw [h46 6 (by decide), hc 4 (by decide)]
    exact h.ft
  · rw [h2]
    exact h.sp
  · exact Im_gen hc (hk 48 (by decide)) (hk 49 (by decide)) (h.im j hj)
theorem Ci_gen (h : z_Ci C len nm nr nb l) (hc : ∀ k, z_vk k → C' k = C k) : z_Ci C' len nm nr nb l := by
  unfold z_Ci at h ⊢
  rw [hc 2 (by decide), hc 4 (by decide), hc 6 (by decide), hc 31 (by decide), hc 21 (by decide), hc 44 (by decide), hc 45 (by decide)]
  exact h
theorem Rel_gen (hC : z_Ci C len nm nr nb l) (h : z_Mo C len nm nr nb l M) (hc : ∀ k, z_vk k → M'.1 k = C k) (hs : M'.1 46 0 7 = M'.1 0 0 10) (h46 : ∀ j, j = 5 ∨ j = 6 ∨ j = 29 → M'.1 46 0 j = M.1 46 0 j) (hk : ∀ k, ((47 ≤ k ∧ k ≤ 55) ∨ k = 63) → M'.1 k = M.1 k) (h2 : M'.2.2 = M.2.2) : z_Rel M' :=
  ⟨len, nm, nr, nb, l, Ci_gen hC hc, Mo_gen h hc hs h46 hk h2⟩
/-- the class has done something: the model's memory is as it was -/
theorem Mo_cl (h : z_Mo C len nm nr nb l M) (hk : ∀ k, 46 ≤ k → M'.1 k = M.1 k) (h2 : M'.2.2 = M.2.2) : z_Mo C len nm nr nb l M' :=
  Mo_gen h (fun _ _ => rfl) (by rw [hk 46 (by decide)]; exact h.st) (fun j _ => by rw [hk 46 (by decide)]) (fun k w => hk k (by omega)) h2
theorem Rel_Wc (hC : z_Ci M.1 len nm nr nb l) (hM : z_Mo M.1 len nm nr nb l M) : z_Wc M nm nr nb := by
  have c := hM.cr
  refine ⟨hC.2.2.1.1, hC.2.2.1.2.1, hC.2.2.1.2.2.1, c.1.1, c.1.2.1, c.1.2.2.1, ?_, hC.2.2.2.1, fun r hr => ?_, fun b hb => ?_, fun b hb => ?_⟩
  · rcases Nat.eq_zero_or_pos nr with w | w
    · exact Or.inl w
    · exact Or.inr (c.1.2.2.2.2.2.2.2 w)
  · obtain ⟨n, h1, h2, h3⟩ := (c.2.2.1 r hr).2.2.2.2.2.1
    exact ⟨n, h2, h3⟩
  · exact (c.2.2.2.2 b hb).2.2.2.1
  · obtain ⟨t, h1, h2, h3⟩ := (c.2.2.2.2 b hb).2.2.2.2.1
    exact ⟨t, h2, h3⟩
theorem Rel_st (hM : z_Mo C len nm nr nb l M) : ∀ r, r < nr → 1 ≤ z_cq C 0 4 r := by
  intro r hr
  obtain ⟨n, h1, h2, h3⟩ := (hM.cr.2.2.1 r hr).2.2.2.2.2.1
  rw [h3]
  exact nI_le (a := 1) h1 (by omega)
theorem Rel_ru (hM : z_Mo C len nm nr nb l M) : ∀ r, r < nr → ∃ c, c ≤ 6 ∧ z_cq C 0 6 r = nI c := fun r hr => (hM.cr.2.2.1 r hr).2.2.2.2.2.2.2
end MO
/-- the law's two calls -/
def z_Op (X : z_Cx) (q q' : z_MI) (as : List z_V) (M : z_M) : Prop := z_Ca X 9 q (zr 0 0 :: as) M (fun v M1 => z_Ca X 9 q' (zr 46 0 :: as) M1 (fun v' M2 => v = v' ∧ z_Rel M2))
theorem z_Ca.mono {X : z_Cx} {D : Nat} {q : z_MI} {as : List z_V} {M : z_M} {S S' : Int32 → z_M → Prop} (h : z_Ca X D q as M S) (hS : ∀ v M', S v M' → S' v M') : z_Ca X D q as M S' := by
  obtain ⟨d, hd, hc⟩ := h
  exact ⟨d, hd, hc.mono hS⟩
theorem ru_nI {n r : Nat} (h : r < n) (hn : n ≤ 12) : pu_ru n (nI r) := ⟨nI_pos' (by omega), by
  rw [show nI n - 1 = nI (n - 1) from pk_sub (b := 1) (by omega)]
  exact nI_le (by omega) (by omega)⟩
theorem nI_inj {a b : Nat} (ha : a ≤ 1000) (hb : b ≤ 1000) (h : nI a = nI b) : a = b := (nI_eq (by omega) (by omega)).1 h
