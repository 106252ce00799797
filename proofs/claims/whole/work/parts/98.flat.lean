/-! ===== runners and rules: one loop, or a loop in a loop ===== -/
def pu_nest (B : Nat → Int32) (len : Nat) (s : z_Ps) : z_Po := (pu_runP B len s).bind (pu_lp (fun (s : z_Ps) => s.is B 2) (pu_ruleP B len) 601)
theorem lp2_g {B : Nat → Int32} {len a u : Nat} {s s' : z_Ps} (ht : z_Tg len a s) (h : pu_lp (fun (s : z_Ps) => s.is B 2) (pu_ruleP B len) u s = .ok s') : z_Tg len a s' := by
  refine lp_inv (P := z_Tg len a) (fun x y hx hc e => ?_) u s s' ht h
  have k := rule_g (a := x.tk.1) ⟨Nat.le_refl _, hx.2⟩ rfl (is_0 hc) e
  exact ⟨Nat.le_trans hx.1 (Nat.le_trans (Nat.le_succ _) k.1), k.2⟩
theorem nest_g {B : Nat → Int32} {len : Nat} {s s' : z_Ps} (ht : z_Tg len s.tk.1 s) (hc : s.is B 1 = true) (h : pu_nest B len s = .ok s') : z_Tg len (s.tk.1 + 1) s' :=
  bd_inv (P := z_Tg len (s.tk.1 + 1)) (fun _ e => run_g ht rfl (is_0 hc) e) (fun _ _ q e => lp2_g q e) s' h
theorem flat_nest {B : Nat → Int32} {len : Nat} (hl6 : len ≤ 600) : ∀ (u : Nat) (s : z_Ps), z_Tg len s.tk.1 s → len < u + s.tk.1 → pu_lp (fun (s : z_Ps) => s.is B 1 || s.is B 2) (pu_flat B len) u s = (pu_lp (fun (s : z_Ps) => s.is B 2) (pu_ruleP B len) u s).bind (pu_lp (fun (s : z_Ps) => s.is B 1) (pu_nest B len) u) := by
  intro u
  induction u with
  | zero =>
    intro s ht h
    have := ht.2.1
    have := ht.2.2.1
    omega
  | succ u ih =>
    intro s ht h
    by_cases w2 : s.is B 2 = true
    · have w : (s.is B 1 || s.is B 2) = true := by rw [w2, Bool.or_true]
      rw [lp_1 (c := fun (s : z_Ps) => s.is B 1 || s.is B 2) w, lp_1 (c := fun (s : z_Ps) => s.is B 2) w2]
      have ef : pu_flat B len s = pu_ruleP B len s := if_pos w2
      rw [ef]
      cases e : pu_ruleP B len s with
      | inl x => rfl
      | inr t =>
        have k := rule_g ht rfl (is_0 w2) e
        have i := ih t ⟨Nat.le_refl _, k.2⟩ (by have := k.1; omega)
        refine Eq.trans i ?_
        show _ = z_Po.bind (pu_lp (fun (s : z_Ps) => s.is B 2) (pu_ruleP B len) u t) _
        cases e2 : pu_lp (fun (s : z_Ps) => s.is B 2) (pu_ruleP B len) u t with
        | inl x => rfl
        | inr t2 =>
          have k2 := lp2_g k e2
          exact lp_enough (fun a b x y z => nest_g x y z) u (u + 1) t2 ⟨Nat.le_refl _, k2.2⟩ (by have := k2.1; omega) (by have := k2.1; omega)
    · rw [lp_0 (c := fun (s : z_Ps) => s.is B 2) w2, bd_ok]
      have ef : pu_flat B len s = pu_runP B len s := if_neg w2
      by_cases w1 : s.is B 1 = true
      · have w : (s.is B 1 || s.is B 2) = true := by rw [w1, Bool.true_or]
        rw [lp_1 (c := fun (s : z_Ps) => s.is B 1 || s.is B 2) w, lp_1 (c := fun (s : z_Ps) => s.is B 1) w1, ef]
        unfold pu_nest
        cases e : pu_runP B len s with
        | inl x => rfl
        | inr t =>
          have k := run_g ht rfl (is_0 w1) e
          have i := ih t ⟨Nat.le_refl _, k.2⟩ (by have := k.1; omega)
          refine Eq.trans i ?_
          rw [lp_enough (len := len) (fun a b x y z => rule_g x rfl (is_0 y) z) u 601 t ⟨Nat.le_refl _, k.2⟩ (by have := k.1; omega) (by omega)]
          rfl
      · have w : ¬ (s.is B 1 || s.is B 2) = true := by
          intro q
          rcases Bool.or_eq_true_iff.1 q with q | q
          · exact w1 q
          · exact w2 q
        rw [lp_0 (c := fun (s : z_Ps) => s.is B 1 || s.is B 2) w, lp_0 (c := fun (s : z_Ps) => s.is B 1) w1]
