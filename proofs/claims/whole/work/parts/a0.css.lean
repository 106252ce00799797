/-! ===== the same, by the parser's states ===== -/
abbrev z_Cs (s : z_Ps) (N : Nat → Int32) : Prop := z_CS s.m s.r s.b s.V N
theorem CS_Pi {s : z_Ps} {N : Nat → Int32} (h : z_Cs s N) : z_Pi s := ⟨h.1.1, h.1.2.1, h.1.2.2.1, fun r hr => by
  by_cases w : r < s.r
  · exact (h.2.2.1 r w).2.2.2.2.2.2.2
  · exact ⟨0, by omega, h.2.2.2.2.2 r (by omega) hr⟩⟩
theorem nw_i {N : Nat → Int32} {i y : Nat} {v : Int32} (h : y = i) : pu_nw N i v y = v := if_pos h
theorem CSm {B : Nat → Int32} {len : Nat} {s s' : z_Ps} {N N' : Nat → Int32} (h : z_Cs s N) (hm : s.m < 12) (q : ∃ v1 v2 v3, N' = pu_nw (pu_nw (pu_nw (pu_nw N (0 + 3 * s.m + 0) v1) (0 + 3 * s.m + 1) v2) (0 + 3 * s.m + 2) v3) 187 (nI (s.m + 1)) ∧ ((-5 ≤ v1 ∧ v1 ≤ 5) ∧ (0 ≤ v2 ∧ v2 ≤ 9) ∧ (0 ≤ v3 ∧ v3 ≤ 9)) ∧ s' = (((((((s.nx B len).nx B len).w 0 s.m v1).nx B len).w (0 + 1) s.m v2).nx B len).w (0 + 2) s.m v3).um.nx B len) : z_Cs s' N' := by
  obtain ⟨v1, v2, v3, rfl, ⟨r1, r2, r3⟩, rfl⟩ := q
  show z_CS (s.m + 1) s.r s.b (fun f j => if f = 0 + 2 ∧ j = s.m then v3 else if f = 0 + 1 ∧ j = s.m then v2 else if f = 0 ∧ j = s.m then v1 else s.V f j) _
  refine CS_mile h hm r1 r2 r3 (fun y h1 h2 => ?_) ?_ ?_ ?_ (nw_i rfl) (fun f j hf => ?_) ?_ ?_ ?_
  · rw [nw_o h2, nw_o (by omega), nw_o (by omega), nw_o (by omega)]
  · rw [nw_o (by omega), nw_o (by omega), nw_o (by omega), nw_i (by omega)]
  · rw [nw_o (by omega), nw_o (by omega), nw_i (by omega)]
  · rw [nw_o (by omega), nw_i (by omega)]
  · rw [if_neg (by omega), if_neg (by omega), if_neg (by omega)]
  · rw [if_neg (by omega), if_neg (by omega), if_pos ⟨rfl, rfl⟩]
  · rw [if_neg (by omega), if_pos ⟨rfl, rfl⟩]
  · rw [if_pos ⟨rfl, rfl⟩]
theorem CSb {B : Nat → Int32} {len : Nat} {s s' : z_Ps} {N N' : Nat → Int32} (h : z_Cs s N) (hm : s.b < 5) (q : ∃ v1 v2 v3, N' = pu_nw (pu_nw (pu_nw (pu_nw N (172 + 3 * s.b + 0) v1) (172 + 3 * s.b + 1) v2) (172 + 3 * s.b + 2) v3) 189 (nI (s.b + 1)) ∧ ((10 ≤ v1 ∧ v1 ≤ 40) ∧ (1 ≤ v2 ∧ v2 ≤ 12) ∧ (0 ≤ v3 ∧ v3 ≤ 99)) ∧ s' = (((((((s.nx B len).nx B len).w 11 s.b v1).nx B len).w (11 + 1) s.b v2).nx B len).w (11 + 2) s.b v3).ub.nx B len) : z_Cs s' N' := by
  obtain ⟨v1, v2, v3, rfl, ⟨r1, r2, r3⟩, rfl⟩ := q
  show z_CS s.m s.r (s.b + 1) (fun f j => if f = 11 + 2 ∧ j = s.b then v3 else if f = 11 + 1 ∧ j = s.b then v2 else if f = 11 ∧ j = s.b then v1 else s.V f j) _
  refine CS_rab h hm r1 r2 r3 (fun y h1 h2 => ?_) ?_ ?_ ?_ (nw_i rfl) (fun f j hf => ?_) ?_ ?_ ?_
  · rw [nw_o h2, nw_o (by omega), nw_o (by omega), nw_o (by omega)]
  · rw [nw_o (by omega), nw_o (by omega), nw_o (by omega), nw_i (by omega)]
  · rw [nw_o (by omega), nw_o (by omega), nw_i (by omega)]
  · rw [nw_o (by omega), nw_i (by omega)]
  · rw [if_neg (by omega), if_neg (by omega), if_neg (by omega)]
  · rw [if_neg (by omega), if_neg (by omega), if_pos ⟨rfl, rfl⟩]
  · rw [if_neg (by omega), if_pos ⟨rfl, rfl⟩]
  · rw [if_pos ⟨rfl, rfl⟩]
theorem CSu {B : Nat → Int32} {len : Nat} {s s' : z_Ps} {N N' : Nat → Int32} {v1 v2 v3 : Int32} (h : z_Cs s N) (hm : s.r < 4) (r1 : 10 ≤ v1 ∧ v1 ≤ 30) (r2 : 1 ≤ v2 ∧ v2 ≤ 99) (r3 : 1 ≤ v3 ∧ v3 ≤ 9) (e1 : N' = pu_nw (pu_nw (pu_nw (pu_nw (pu_nw N (36 + 4 * s.r + 0) v1) (36 + 4 * s.r + 1) v2) (36 + 4 * s.r + 2) v3) (36 + 4 * s.r + 3) 0) 188 (nI (s.r + 1))) (e2 : s' = (((((((s.nx B len).nx B len).w 3 s.r v1).nx B len).w (3 + 1) s.r v2).nx B len).w (3 + 2) s.r v3).ur.nx B len) : z_Cs s' N' := by
  subst e1
  subst e2
  show z_CS s.m (s.r + 1) s.b (fun f j => if f = 3 + 2 ∧ j = s.r then v3 else if f = 3 + 1 ∧ j = s.r then v2 else if f = 3 ∧ j = s.r then v1 else s.V f j) _
  refine CS_run h hm r1 r2 r3 (fun y h1 h2 => ?_) ?_ ?_ ?_ ?_ (nw_i rfl) (fun f j hf => ?_) ?_ ?_ ?_
  · rw [nw_o h2, nw_o (by omega), nw_o (by omega), nw_o (by omega), nw_o (by omega)]
  · rw [nw_o (by omega), nw_o (by omega), nw_o (by omega), nw_o (by omega), nw_i (by omega)]
  · rw [nw_o (by omega), nw_o (by omega), nw_o (by omega), nw_i (by omega)]
  · rw [nw_o (by omega), nw_o (by omega), nw_i (by omega)]
  · rw [nw_o (by omega), nw_i (by omega)]
  · rw [if_neg (by omega), if_neg (by omega), if_neg (by omega)]
  · rw [if_neg (by omega), if_neg (by omega), if_pos ⟨rfl, rfl⟩]
  · rw [if_neg (by omega), if_pos ⟨rfl, rfl⟩]
  · rw [if_pos ⟨rfl, rfl⟩]
theorem CSr {s s' : z_Ps} {N N' : Nat → Int32} {r c : Nat} (h : z_Cs s N) (hr : r < s.r) (hc : c < 6) (ec : s.V 6 r = nI c) (q : z_Qr s N r c s' N') : z_Cs s' N' := by
  obtain ⟨what, n, st, a, p, _, _, r3, es, rfl⟩ := q
  have h4 := h.1.2.1
  have em : s'.m = s.m := congrArg (fun x => x.1) es
  have er : s'.r = s.r := congrArg (fun x => x.2.1) es
  have eb : s'.b = s.b := congrArg (fun x => x.2.2.1) es
  have eV : ∀ f j, s'.V f j = if f = 6 ∧ j = r then nI (c + 1) else if f = 10 ∧ j = 6 * r + c then (if p = true then 1 else -1) * st else if f = 9 ∧ j = 6 * r + c then n else if f = 8 ∧ j = 6 * r + c then pu_b2 a else if f = 7 ∧ j = 6 * r + c then what else s.V f j := fun f j => congrArg (fun x => x.2.2.2 f j) es
  show z_CS s'.m s'.r s'.b s'.V _
  rw [em, er, eb]
  refine CS_rule (what := what) (n := n) (st := st) (a := a) (p := p) h r c hr hc ec r3 (fun y h1 h2 => ?_) ?_ ?_ ?_ ?_ ?_ (nw_i rfl) (fun f j h1 h2 => ?_) ?_ ?_ ?_ ?_ ?_
  · rw [nw_o h2, nw_o (by omega), nw_o (by omega), nw_o (by omega), nw_o (by omega), nw_o (by omega)]
  · rw [nw_o (by omega), nw_o (by omega), nw_o (by omega), nw_o (by omega), nw_o (by omega), nw_i (by omega)]
  · rw [nw_o (by omega), nw_o (by omega), nw_o (by omega), nw_o (by omega), nw_i (by omega)]
  · rw [nw_o (by omega), nw_o (by omega), nw_o (by omega), nw_i (by omega)]
  · rw [nw_o (by omega), nw_o (by omega), nw_i (by omega)]
  · rw [nw_o (by omega), nw_i (by omega)]
  · rw [eV, if_neg (by omega), if_neg (by omega), if_neg (by omega), if_neg (by omega), if_neg (by omega)]
  · rw [eV, if_neg (by omega), if_neg (by omega), if_neg (by omega), if_neg (by omega), if_pos ⟨rfl, rfl⟩]
  · rw [eV, if_neg (by omega), if_neg (by omega), if_neg (by omega), if_pos ⟨rfl, rfl⟩]
  · rw [eV, if_neg (by omega), if_neg (by omega), if_pos ⟨rfl, rfl⟩]
  · rw [eV, if_neg (by omega), if_pos ⟨rfl, rfl⟩]
  · rw [eV, if_pos ⟨rfl, rfl⟩]
/-- an ok rule had room -/
theorem rule_lt {B : Nat → Int32} {len r c : Nat} {s s' : z_Ps} (er : s.r - 1 = r) (hc : c ≤ 6) (ec : s.V 6 r = nI c) (h : pu_ruleP B len s = .ok s') : c < 6 := by
  unfold pu_ruleP at h
  by_cases a : s.V 6 (s.r - 1) < 6
  · rw [er, ec] at a
    exact (nI_ltI (b := 6) (by omega) (by omega)).1 a
  · rw [if_neg a] at h
    exact absurd h Sum.inl_ne_inr
