/-! ===== the token's first byte grows ===== -/
def z_Tg (len a : Nat) (s : z_Ps) : Prop := a ≤ s.tk.1 ∧ s.tk.1 ≤ s.tk.2.1 ∧ s.tk.2.1 ≤ len ∧ (s.tk.2.2.1 ≠ 0 → s.tk.1 < s.tk.2.1)
theorem Tg_nx {B : Nat → Int32} {len a : Nat} {s : z_Ps} (h : z_Tg len a s) : z_Tg len a (s.nx B len) := by
  have k := tok_ok (B := B) (len := len) (x := s.tk.2.1) h.2.2.1
  exact ⟨Nat.le_trans h.1 (Nat.le_trans h.2.1 k.1), k.2.1, k.2.2.1, k.2.2.2.1⟩
/-- past a token that is no end -/
theorem Tg_up {B : Nat → Int32} {len a : Nat} {s : z_Ps} (h : z_Tg len a s) (h0 : s.tk.2.2.1 ≠ 0) : z_Tg len (s.tk.1 + 1) (s.nx B len) := by
  have k := tok_ok (B := B) (len := len) (x := s.tk.2.1) h.2.2.1
  exact ⟨Nat.le_trans (h.2.2.2 h0) k.1, k.2.1, k.2.2.1, k.2.2.2.1⟩
theorem Tg_w {len a f j : Nat} {v : Int32} {s : z_Ps} (h : z_Tg len a s) : z_Tg len a (s.w f j v) := h
theorem Tg_um {len a : Nat} {s : z_Ps} (h : z_Tg len a s) : z_Tg len a s.um := h
theorem Tg_ur {len a : Nat} {s : z_Ps} (h : z_Tg len a s) : z_Tg len a s.ur := h
theorem Tg_ub {len a : Nat} {s : z_Ps} (h : z_Tg len a s) : z_Tg len a s.ub := h
theorem three_g {B : Nat → Int32} {len f j a : Nat} {a1 b1 a2 b2 a3 b3 : Int32} {up : z_Ps → z_Ps} (hu : ∀ t, z_Tg len (a + 1) t → z_Tg len (a + 1) (up t)) {s s' : z_Ps} (ht : z_Tg len a s) (ea : s.tk.1 = a) (h0 : s.tk.2.2.1 ≠ 0) (h : pu_three B len f j a1 b1 a2 b2 a3 b3 up s = .ok s') : z_Tg len (a + 1) s' := by
  obtain ⟨v1, v2, v3, _, _, _, rfl⟩ := three_ok h
  have k := Tg_up (B := B) ht h0
  rw [ea] at k
  exact Tg_nx (hu _ (Tg_w (Tg_nx (Tg_w (Tg_nx (Tg_w (Tg_nx k)))))))
theorem mile_g {B : Nat → Int32} {len a : Nat} {s s' : z_Ps} (ht : z_Tg len a s) (ea : s.tk.1 = a) (h0 : s.tk.2.2.1 ≠ 0) (h : pu_mileP B len s = .ok s') : z_Tg len (a + 1) s' := by
  unfold pu_mileP at h
  by_cases w : s.m < 12
  · rw [if_pos w] at h
    exact three_g (up := z_Ps.um) (fun _ => Tg_um) ht ea h0 h
  · rw [if_neg w] at h
    exact absurd h Sum.inl_ne_inr
theorem run_g {B : Nat → Int32} {len a : Nat} {s s' : z_Ps} (ht : z_Tg len a s) (ea : s.tk.1 = a) (h0 : s.tk.2.2.1 ≠ 0) (h : pu_runP B len s = .ok s') : z_Tg len (a + 1) s' := by
  unfold pu_runP at h
  by_cases w : s.r < 4
  · rw [if_pos w] at h
    exact three_g (up := z_Ps.ur) (fun _ => Tg_ur) ht ea h0 h
  · rw [if_neg w] at h
    exact absurd h Sum.inl_ne_inr
theorem rab_g {B : Nat → Int32} {len a : Nat} {s s' : z_Ps} (ht : z_Tg len a s) (ea : s.tk.1 = a) (h0 : s.tk.2.2.1 ≠ 0) (h : pu_rabP B len s = .ok s') : z_Tg len (a + 1) s' := by
  unfold pu_rabP at h
  by_cases w : s.b < 5
  · rw [if_pos w] at h
    exact three_g (up := z_Ps.ub) (fun _ => Tg_ub) ht ea h0 h
  · rw [if_neg w] at h
    exact absurd h Sum.inl_ne_inr
theorem ruleA_g {B : Nat → Int32} {len r c a : Nat} {s s' : z_Ps} (ht : z_Tg len a s) (h : pu_ruleA B len r c s = .ok s') : z_Tg len a s' := by
  have hC : ∀ (what side : Int32) (t : z_Ps), z_Tg len a t → pu_ruleC B len r c what side t = .ok s' → z_Tg len a s' := by
    intro what side t q h
    unfold pu_ruleC at h
    obtain ⟨_, _, h1⟩ := num_ok h
    have q1 : z_Tg len a ((t.nx B len).nx B len) := Tg_nx (Tg_nx q)
    generalize (t.nx B len).nx B len = S at *
    by_cases w : z_Ps.is B S 8 = true ∨ z_Ps.is B S 9 = true
    · rw [if_pos w] at h1
      obtain ⟨_, _, h2⟩ := num_ok h1
      rw [(semi_ok h2).2]
      exact Tg_nx (Tg_w (Tg_w (Tg_nx (Tg_nx (Tg_w q1)))))
    · rw [if_neg w] at h1
      exact absurd h1 Sum.inl_ne_inr
  have hB : ∀ (what : Int32) (t : z_Ps), z_Tg len a t → pu_ruleB B len r c what t = .ok s' → z_Tg len a s' := by
    intro what t q h
    unfold pu_ruleB at h
    by_cases w : z_Ps.is B t 6 = true ∨ z_Ps.is B t 7 = true
    · rw [if_pos w] at h
      exact hC _ _ _ (Tg_w q) h
    · rw [if_neg w] at h
      exact absurd h Sum.inl_ne_inr
  unfold pu_ruleA at h
  by_cases x : s.is B 4 = true
  · rw [if_pos x] at h
    exact hB _ _ (Tg_nx (Tg_w ht)) h
  · rw [if_neg x] at h
    by_cases y : s.is B 5 = true
    · rw [if_pos y] at h
      exact hB _ _ (Tg_nx (Tg_w ht)) h
    · rw [if_neg y] at h
      by_cases z : s.is B 0 = true
      · rw [if_pos z] at h
        exact hB _ _ (Tg_nx (Tg_w ht)) h
      · rw [if_neg z] at h
        exact absurd h Sum.inl_ne_inr
theorem rule_g {B : Nat → Int32} {len a : Nat} {s s' : z_Ps} (ht : z_Tg len a s) (ea : s.tk.1 = a) (h0 : s.tk.2.2.1 ≠ 0) (h : pu_ruleP B len s = .ok s') : z_Tg len (a + 1) s' := by
  unfold pu_ruleP at h
  by_cases w : s.V 6 (s.r - 1) < 6
  · rw [if_pos w] at h
    have k := Tg_up (B := B) ht h0
    rw [ea] at k
    exact ruleA_g k h
  · rw [if_neg w] at h
    exact absurd h Sum.inl_ne_inr
/-- a word is no end -/
theorem is_0 {B : Nat → Int32} {s : z_Ps} {j : Nat} (h : s.is B j = true) : s.tk.2.2.1 ≠ 0 := by
  unfold z_Ps.is pu_isw at h
  have h1 := of_decide_eq_true (Bool.and_eq_true_iff.1 (Bool.and_eq_true_iff.1 h).1).1
  rw [h1]
  decide
/-- enough is enough: a loop whose steps grow -/
theorem lp_enough {len : Nat} {c : z_Ps → Bool} {f : z_Ps → z_Po} (hg : ∀ s s', z_Tg len s.tk.1 s → c s = true → f s = .ok s' → z_Tg len (s.tk.1 + 1) s') : ∀ (u u' : Nat) (s : z_Ps), z_Tg len s.tk.1 s → len < u + s.tk.1 → len < u' + s.tk.1 → pu_lp c f u s = pu_lp c f u' s := by
  intro u
  induction u with
  | zero =>
    intro u' s ht h1 h2
    have := ht.2.1
    have := ht.2.2.1
    omega
  | succ u ih =>
    intro u' s ht h1 h2
    cases u' with
    | zero =>
      have := ht.2.1
      have := ht.2.2.1
      omega
    | succ u' =>
      by_cases w : c s = true
      · rw [lp_1 w, lp_1 w]
        cases e : f s with
        | inl x => rfl
        | inr t =>
          have k := hg s t ht w e
          exact ih u' t ⟨Nat.le_refl _, k.2⟩ (by have := k.1; omega) (by have := k.1; omega)
      · rw [lp_0 w, lp_0 w]
