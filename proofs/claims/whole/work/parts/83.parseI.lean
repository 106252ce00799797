/-! ===== what the parser keeps ===== -/
def z_Pi (s : z_Ps) : Prop := s.m ≤ 12 ∧ s.r ≤ 4 ∧ s.b ≤ 5 ∧ ∀ r, r < 4 → ∃ c, c ≤ 6 ∧ s.V 6 r = nI c
theorem num_ok {B : Nat → Int32} {len : Nat} {lo hi : Int32} {s s' : z_Ps} {k : Int32 → z_Ps → z_Po} (h : pu_num B len lo hi s k = .ok s') : (lo ≤ s.tk.2.2.2 ∧ s.tk.2.2.2 ≤ hi) ∧ s.tk.2.2.1 = 2 ∧ k s.tk.2.2.2 (s.nx B len) = .ok s' := by
  unfold pu_num at h
  by_cases a : s.tk.2.2.1 = 2
  · rw [if_pos a] at h
    by_cases b : lo ≤ s.tk.2.2.2 ∧ s.tk.2.2.2 ≤ hi
    · rw [if_pos b] at h
      exact ⟨b, a, h⟩
    · rw [if_neg b] at h
      exact absurd h Sum.inl_ne_inr
  · rw [if_neg a] at h
    exact absurd h Sum.inl_ne_inr
theorem semi_ok {B : Nat → Int32} {len : Nat} {s s' : z_Ps} (h : pu_semi B len s = .ok s') : s.tk.2.2.1 = 3 ∧ s' = s.nx B len := by
  unfold pu_semi at h
  by_cases a : s.tk.2.2.1 = 3
  · rw [if_pos a] at h
    exact ⟨a, (Sum.inr.inj h).symm⟩
  · rw [if_neg a] at h
    exact absurd h Sum.inl_ne_inr
/-- a step with three numbers, all of it -/
theorem three_ok {B : Nat → Int32} {len f j : Nat} {a1 b1 a2 b2 a3 b3 : Int32} {up : z_Ps → z_Ps} {s s' : z_Ps} (h : pu_three B len f j a1 b1 a2 b2 a3 b3 up s = .ok s') : ∃ v1 v2 v3, (a1 ≤ v1 ∧ v1 ≤ b1) ∧ (a2 ≤ v2 ∧ v2 ≤ b2) ∧ (a3 ≤ v3 ∧ v3 ≤ b3) ∧ s' = (up ((((((s.nx B len).nx B len).w f j v1).nx B len).w (f + 1) j v2).nx B len |>.w (f + 2) j v3)).nx B len := by
  unfold pu_three at h
  obtain ⟨r1, _, h1⟩ := num_ok h
  obtain ⟨r2, _, h2⟩ := num_ok h1
  obtain ⟨r3, _, h3⟩ := num_ok h2
  exact ⟨_, _, _, r1, r2, r3, (semi_ok h3).2⟩
theorem mile_ok {B : Nat → Int32} {len : Nat} {s s' : z_Ps} (hi : z_Pi s) (h : pu_mileP B len s = .ok s') : z_Pi s' ∧ s'.m = s.m + 1 ∧ s'.r = s.r ∧ s'.b = s.b := by
  unfold pu_mileP at h
  by_cases a : s.m < 12
  · rw [if_pos a] at h
    obtain ⟨v1, v2, v3, _, _, _, rfl⟩ := three_ok h
    exact ⟨⟨a, hi.2.1, hi.2.2.1, fun r hr => hi.2.2.2 r hr⟩, rfl, rfl, rfl⟩
  · rw [if_neg a] at h
    exact absurd h Sum.inl_ne_inr
theorem run_ok {B : Nat → Int32} {len : Nat} {s s' : z_Ps} (hi : z_Pi s) (h : pu_runP B len s = .ok s') : z_Pi s' ∧ s'.m = s.m ∧ s'.r = s.r + 1 ∧ s'.b = s.b := by
  unfold pu_runP at h
  by_cases a : s.r < 4
  · rw [if_pos a] at h
    obtain ⟨v1, v2, v3, _, _, _, rfl⟩ := three_ok h
    exact ⟨⟨hi.1, a, hi.2.2.1, fun r hr => hi.2.2.2 r hr⟩, rfl, rfl, rfl⟩
  · rw [if_neg a] at h
    exact absurd h Sum.inl_ne_inr
theorem rab_ok {B : Nat → Int32} {len : Nat} {s s' : z_Ps} (hi : z_Pi s) (h : pu_rabP B len s = .ok s') : z_Pi s' ∧ s'.m = s.m ∧ s'.r = s.r ∧ s'.b = s.b + 1 := by
  unfold pu_rabP at h
  by_cases a : s.b < 5
  · rw [if_pos a] at h
    obtain ⟨v1, v2, v3, _, _, _, rfl⟩ := three_ok h
    exact ⟨⟨hi.1, hi.2.1, a, fun r hr => hi.2.2.2 r hr⟩, rfl, rfl, rfl⟩
  · rw [if_neg a] at h
    exact absurd h Sum.inl_ne_inr
/-- a rule, all of it -/
theorem rule_ok0 {B : Nat → Int32} {len r c : Nat} {s s' : z_Ps} (h : pu_ruleA B len r c s = .ok s') : ∃ (t1 t2 t3 : z_Tk) (what side n way st : Int32), ((what = 0 ∨ what = 1 ∨ what = 2) ∧ (side = 0 ∨ side = 1) ∧ (0 ≤ n ∧ n ≤ 999) ∧ (way = 1 ∨ way = -1) ∧ (1 ≤ st ∧ st ≤ 9)) ∧ s'.2 = (((((s.w 7 (6 * r + c) what).w 8 (6 * r + c) side).w 9 (6 * r + c) n).w 10 (6 * r + c) (way * st)).w 6 r (nI (c + 1))).2 := by
  have hC : ∀ (what side : Int32) (t : z_Ps), pu_ruleC B len r c what side t = .ok s' → ∃ n way st : Int32, (0 ≤ n ∧ n ≤ 999) ∧ (way = 1 ∨ way = -1) ∧ (1 ≤ st ∧ st ≤ 9) ∧ s'.2 = (((t.w 9 (6 * r + c) n).w 10 (6 * r + c) (way * st)).w 6 r (nI (c + 1))).2 := by
    intro what side t h
    unfold pu_ruleC at h
    obtain ⟨r1, _, h1⟩ := num_ok h
    generalize (t.nx B len).tk.2.2.2 = n at *
    by_cases a : z_Ps.is B ((t.nx B len).nx B len) 8 = true ∨ z_Ps.is B ((t.nx B len).nx B len) 9 = true
    · rw [if_pos a] at h1
      obtain ⟨r2, _, h2⟩ := num_ok h1
      have h3 := (semi_ok h2).2
      refine ⟨n, (if z_Ps.is B ((t.nx B len).nx B len) 8 = true then 1 else -1), _, r1, ?_, r2, ?_⟩
      · split
        · exact Or.inl rfl
        · exact Or.inr rfl
      · rw [h3]
        rfl
    · rw [if_neg a] at h1
      exact absurd h1 Sum.inl_ne_inr
  have hB : ∀ (what : Int32) (t : z_Ps), pu_ruleB B len r c what t = .ok s' → ∃ side n way st : Int32, (side = 0 ∨ side = 1) ∧ (0 ≤ n ∧ n ≤ 999) ∧ (way = 1 ∨ way = -1) ∧ (1 ≤ st ∧ st ≤ 9) ∧ s'.2 = ((((t.w 8 (6 * r + c) side).w 9 (6 * r + c) n).w 10 (6 * r + c) (way * st)).w 6 r (nI (c + 1))).2 := by
    intro what t h
    unfold pu_ruleB at h
    by_cases a : z_Ps.is B t 6 = true ∨ z_Ps.is B t 7 = true
    · rw [if_pos a] at h
      obtain ⟨n, way, st, q⟩ := hC _ _ _ h
      refine ⟨(if z_Ps.is B t 6 = true then 1 else 0), n, way, st, ?_, q⟩
      split
      · exact Or.inr rfl
      · exact Or.inl rfl
    · rw [if_neg a] at h
      exact absurd h Sum.inl_ne_inr
  unfold pu_ruleA at h
  have fin : ∀ (what : Int32), (what = 0 ∨ what = 1 ∨ what = 2) → pu_ruleB B len r c what ((s.w 7 (6 * r + c) what).nx B len) = .ok s' → ∃ (t1 t2 t3 : z_Tk) (what side n way st : Int32), ((what = 0 ∨ what = 1 ∨ what = 2) ∧ (side = 0 ∨ side = 1) ∧ (0 ≤ n ∧ n ≤ 999) ∧ (way = 1 ∨ way = -1) ∧ (1 ≤ st ∧ st ≤ 9)) ∧ s'.2 = (((((s.w 7 (6 * r + c) what).w 8 (6 * r + c) side).w 9 (6 * r + c) n).w 10 (6 * r + c) (way * st)).w 6 r (nI (c + 1))).2 := by
    intro what hw h
    obtain ⟨side, n, way, st, q1, q2, q3, q4, q5⟩ := hB _ _ h
    exact ⟨s.tk, s.tk, s.tk, what, side, n, way, st, ⟨hw, q1, q2, q3, q4⟩, q5⟩
  by_cases a : s.is B 4 = true
  · rw [if_pos a] at h
    exact fin 0 (Or.inl rfl) h
  · rw [if_neg a] at h
    by_cases b : s.is B 5 = true
    · rw [if_pos b] at h
      exact fin 1 (Or.inr (Or.inl rfl)) h
    · rw [if_neg b] at h
      by_cases d : s.is B 0 = true
      · rw [if_pos d] at h
        exact fin 2 (Or.inr (Or.inr rfl)) h
      · rw [if_neg d] at h
        exact absurd h Sum.inl_ne_inr
theorem rule_ok {B : Nat → Int32} {len : Nat} {s s' : z_Ps} (hi : z_Pi s) (hr : 1 ≤ s.r) (h : pu_ruleP B len s = .ok s') : z_Pi s' ∧ s'.m = s.m ∧ s'.r = s.r ∧ s'.b = s.b := by
  unfold pu_ruleP at h
  by_cases a : s.V 6 (s.r - 1) < 6
  · rw [if_pos a] at h
    obtain ⟨c, hc, ec⟩ := hi.2.2.2 (s.r - 1) (by have := hi.2.1; omega)
    have hc6 : c < 6 := Classical.byContradiction (fun w => by
      rw [ec] at a
      exact absurd a (Int32.not_lt.2 (nI_le (a := 6) (by omega) (by omega))))
    rw [ec, nI_clamp (by omega)] at h
    obtain ⟨_, _, _, what, side, n, way, st, _, e⟩ := rule_ok0 h
    have em : s'.m = s.m := congrArg (fun x => x.1) e
    have er : s'.r = s.r := congrArg (fun x => x.2.1) e
    have eb : s'.b = s.b := congrArg (fun x => x.2.2.1) e
    have eV : ∀ r, s'.V 6 r = if r = s.r - 1 then nI (c + 1) else s.V 6 r := fun r => by
      have := congrArg (fun x => x.2.2.2 6 r) e
      refine Eq.trans this ?_
      show (if 6 = 6 ∧ r = s.r - 1 then nI (c + 1) else _) = _
      by_cases q : r = s.r - 1
      · rw [if_pos q, if_pos ⟨rfl, q⟩]
      · rw [if_neg q, if_neg (fun w => q w.2)]
        rfl
    refine ⟨⟨by rw [em]; exact hi.1, by rw [er]; exact hi.2.1, by rw [eb]; exact hi.2.2.1, fun r h4 => ?_⟩, em, er, eb⟩
    rw [eV r]
    split
    · exact ⟨c + 1, hc6, rfl⟩
    · exact hi.2.2.2 r h4
  · rw [if_neg a] at h
    exact absurd h Sum.inl_ne_inr
