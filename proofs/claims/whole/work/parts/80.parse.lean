/-! ===== the parser, of numbers alone ===== -/
/-- the token in hand; miles, runners, rabbits so far; the draft's rows -/
abbrev z_Ps : Type := z_Tk × Nat × Nat × Nat × (Nat → Nat → Int32)
abbrev z_Ps.tk (s : z_Ps) : z_Tk := s.1
abbrev z_Ps.m (s : z_Ps) : Nat := s.2.1
abbrev z_Ps.r (s : z_Ps) : Nat := s.2.2.1
abbrev z_Ps.b (s : z_Ps) : Nat := s.2.2.2.1
abbrev z_Ps.V (s : z_Ps) : Nat → Nat → Int32 := s.2.2.2.2
abbrev z_Po : Type := Sum (Int32 × z_Ps) z_Ps
abbrev z_Po.no (e : Int32) (s : z_Ps) : z_Po := Sum.inl (e, s)
abbrev z_Po.ok (s : z_Ps) : z_Po := Sum.inr s
def z_Po.bind : z_Po → (z_Ps → z_Po) → z_Po
  | .inl e, _ => .inl e
  | .inr s, k => k s
def z_Ps.nx (B : Nat → Int32) (len : Nat) (s : z_Ps) : z_Ps := (pu_tok B len s.tk.2.1, s.2)
def z_Ps.w (s : z_Ps) (f j : Nat) (v : Int32) : z_Ps := (s.tk, s.m, s.r, s.b, fun f' j' => if f' = f ∧ j' = j then v else s.V f' j')
def z_Ps.is (B : Nat → Int32) (s : z_Ps) (j : Nat) : Bool := pu_isw B s.tk.1 s.tk.2.1 s.tk.2.2.1 j
def pu_num (B : Nat → Int32) (len : Nat) (lo hi : Int32) (s : z_Ps) (k : Int32 → z_Ps → z_Po) : z_Po :=
  if s.tk.2.2.1 = 2 then (if lo ≤ s.tk.2.2.2 ∧ s.tk.2.2.2 ≤ hi then k s.tk.2.2.2 (s.nx B len) else .no 2 s) else .no 1 s
def pu_semi (B : Nat → Int32) (len : Nat) (s : z_Ps) : z_Po := if s.tk.2.2.1 = 3 then .ok (s.nx B len) else .no 1 s
/-- three numbers into rows f, f + 1, f + 2 at j, then how the count goes up, then a semicolon -/
def pu_three (B : Nat → Int32) (len f j : Nat) (a1 b1 a2 b2 a3 b3 : Int32) (up : z_Ps → z_Ps) (s : z_Ps) : z_Po :=
  pu_num B len a1 b1 (s.nx B len) fun v (s : z_Ps) => pu_num B len a2 b2 (s.w f j v) fun v (s : z_Ps) => pu_num B len a3 b3 (s.w (f + 1) j v) fun v (s : z_Ps) => pu_semi B len (up (s.w (f + 2) j v))
def z_Ps.um (s : z_Ps) : z_Ps := (s.tk, s.m + 1, s.r, s.b, s.V)
def z_Ps.ur (s : z_Ps) : z_Ps := (s.tk, s.m, s.r + 1, s.b, s.V)
def z_Ps.ub (s : z_Ps) : z_Ps := (s.tk, s.m, s.r, s.b + 1, s.V)
def pu_mileP (B : Nat → Int32) (len : Nat) (s : z_Ps) : z_Po := if s.m < 12 then pu_three B len 0 s.m (-5) 5 0 9 0 9 z_Ps.um s else .no 3 s
def pu_runP (B : Nat → Int32) (len : Nat) (s : z_Ps) : z_Po := if s.r < 4 then pu_three B len 3 s.r 10 30 1 99 1 9 z_Ps.ur s else .no 3 s
def pu_rabP (B : Nat → Int32) (len : Nat) (s : z_Ps) : z_Po := if s.b < 5 then pu_three B len 11 s.b 10 40 1 12 0 99 z_Ps.ub s else .no 3 s
/-- a word among those of a list of numbered words -/
def pu_ruleC (B : Nat → Int32) (len r c : Nat) (what side : Int32) (s : z_Ps) : z_Po :=
  pu_num B len 0 999 (s.nx B len) fun v (s : z_Ps) =>
    if s.is B 8 = true ∨ s.is B 9 = true then
      pu_num B len 1 9 ((s.w 9 (6 * r + c) v).nx B len) fun v (s' : z_Ps) => pu_semi B len ((s'.w 10 (6 * r + c) ((if s.is B 8 = true then 1 else -1) * v)).w 6 r (nI (c + 1)))
    else .no 1 (s.w 9 (6 * r + c) v)
def pu_ruleB (B : Nat → Int32) (len r c : Nat) (what : Int32) (s : z_Ps) : z_Po :=
  if s.is B 6 = true ∨ s.is B 7 = true then pu_ruleC B len r c what (if s.is B 6 = true then 1 else 0) (s.w 8 (6 * r + c) (if s.is B 6 = true then 1 else 0)) else .no 1 (s.w 8 (6 * r + c) 0)
def pu_ruleA (B : Nat → Int32) (len r c : Nat) (s : z_Ps) : z_Po :=
  if s.is B 4 = true then pu_ruleB B len r c 0 ((s.w 7 (6 * r + c) 0).nx B len) else
  if s.is B 5 = true then pu_ruleB B len r c 1 ((s.w 7 (6 * r + c) 1).nx B len) else
  if s.is B 0 = true then pu_ruleB B len r c 2 ((s.w 7 (6 * r + c) 2).nx B len) else .no 1 s
def pu_ruleP (B : Nat → Int32) (len : Nat) (s : z_Ps) : z_Po :=
  if s.V 6 (s.r - 1) < 6 then pu_ruleA B len (s.r - 1) (s.V 6 (s.r - 1)).toNatClampNeg (s.nx B len) else .no 3 s
/-- a loop -/
def pu_lp (c : z_Ps → Bool) (f : z_Ps → z_Po) : Nat → z_Ps → z_Po
  | 0, s => .ok s
  | u + 1, s => if c s = true then (f s).bind (pu_lp c f u) else .ok s
def pu_flat (B : Nat → Int32) (len : Nat) (s : z_Ps) : z_Po := if s.is B 2 = true then pu_ruleP B len s else pu_runP B len s
/-- all of it: a mile at least, a runner at least, then the end -/
def pu_all (B : Nat → Int32) (len : Nat) (V : Nat → Nat → Int32) : z_Po :=
  (if z_Ps.is B (pu_tok B len 0, 0, 0, 0, V) 0 = true then (pu_mileP B len (pu_tok B len 0, 0, 0, 0, V)).bind (pu_lp (fun (s : z_Ps) => s.is B 0) (pu_mileP B len) 600) else .no 1 (pu_tok B len 0, 0, 0, 0, V)).bind fun (s : z_Ps) =>
  (if s.is B 1 = true then (pu_runP B len s).bind (pu_lp (fun (s : z_Ps) => s.is B 1 || s.is B 2) (pu_flat B len) 600) else .no 1 s).bind fun (s : z_Ps) =>
  (pu_lp (fun (s : z_Ps) => s.is B 3) (pu_rabP B len) 600 s).bind fun (s : z_Ps) => if s.tk.2.2.1 = 0 then .ok s else .no 1 s
/-! the class's reader keeps to it -/
def z_Pq (M0 : z_M) (len : Nat) (fl : Int32) (M : z_M) (s : z_Ps) : Prop :=
  (M.2 = M0.2 ∧ (∀ k, k ≠ 4 → ¬ (6 ≤ k ∧ k ≤ 20) → M.1 k = M0.1 k) ∧ ∀ k i, k ≠ 4 → i ≠ 1 → M.1 k i = M0.1 k i) ∧ (M.1 4 0 2 = nI len ∧ len ≤ 600) ∧ M.1 4 0 3 = fl ∧ z_tok M s.tk ∧ (s.tk.1 ≤ s.tk.2.1 ∧ s.tk.2.1 ≤ len) ∧ (M.1 6 1 1 = nI s.m ∧ M.1 6 1 5 = nI s.r ∧ M.1 6 1 14 = nI s.b) ∧ ∀ f, f < 14 → M.1 (7 + f) 1 = s.V f
theorem Pc_tape {M0 M : z_M} {len : Nat} {fl : Int32} {s : z_Ps} (h : z_Pq M0 len fl M s) : M.1 5 0 = M0.1 5 0 := by rw [h.1.2.1 5 (by decide) (by decide)]
theorem Pc_nx {M0 M M' : z_M} {len : Nat} {fl : Int32} {s : z_Ps} (h : z_Pq M0 len fl M s) (hF : z_Ft M M') (ht : z_tok M' (pu_tok (M.1 5 0) len s.tk.2.1)) : z_Pq M0 len fl M' (s.nx (M0.1 5 0) len) := by
  have hk := tok_ok (B := M0.1 5 0) (x := s.tk.2.1) h.2.2.2.2.1.2
  rw [Pc_tape h] at ht
  refine ⟨⟨hF.1.trans h.1.1, fun k a b => (hF.2.1 k a).trans (h.1.2.1 k a b), fun k i a b => ?_⟩, ⟨hF.len.trans h.2.1.1, h.2.1.2⟩, (hF.2.2 3 (by decide) (by decide) (by decide) (by decide)).trans h.2.2.1, ht, ⟨hk.2.1, hk.2.2.1⟩, ?_, fun f hf => ?_⟩
  · rw [hF.2.1 k a]
    exact h.1.2.2 k i a b
  · rw [hF.2.1 6 (by decide)]
    exact h.2.2.2.2.2.1
  · rw [hF.2.1 (7 + f) (by omega)]
    exact h.2.2.2.2.2.2 f hf
/-- a slot of the reader that no token holds -/
theorem Pc_4 {M0 M : z_M} {len : Nat} {fl v : Int32} {s : z_Ps} {j : Nat} (hj : j = 3 ∨ j = 8) (h : z_Pq M0 len fl M s) : z_Pq M0 len (if j = 3 then v else fl) (z_s M 4 0 j v) s := by
  have e : ∀ k, k ≠ 4 → (z_s M 4 0 j v).1 k = M.1 k := fun k hk => by
    funext x y
    exact if_neg (c := k = 4 ∧ x = 0 ∧ y = j) (fun w => hk w.1)
  have e4 : ∀ x, x ≠ j → (z_s M 4 0 j v).1 4 0 x = M.1 4 0 x := fun x hx => if_neg (c := 4 = 4 ∧ 0 = 0 ∧ x = j) (fun w => hx w.2.2)
  refine ⟨⟨h.1.1, fun k a b => (e k a).trans (h.1.2.1 k a b), fun k i a b => by rw [e k a]; exact h.1.2.2 k i a b⟩, ⟨(e4 2 (by omega)).trans h.2.1.1, h.2.1.2⟩, ?_, ?_, h.2.2.2.2.1, ?_, fun f hf => ?_⟩
  · by_cases w : j = 3
    · rw [if_pos w, w, z_gs, if_pos ⟨rfl, rfl, rfl⟩]
    · rw [if_neg w, e4 3 (fun q => w q.symm)]
      exact h.2.2.1
  · obtain ⟨t1, t2, t3, t4⟩ := h.2.2.2.1
    exact ⟨(e4 4 (by omega)).trans t1, (e4 5 (by omega)).trans t2, (e4 6 (by omega)).trans t3, fun w => (e4 7 (by omega)).trans (t4 w)⟩
  · rw [e 6 (by decide)]
    exact h.2.2.2.2.2.1
  · rw [e (7 + f) (by omega)]
    exact h.2.2.2.2.2.2 f hf
theorem Pc_fl {M0 M : z_M} {len : Nat} {fl v : Int32} {s : z_Ps} (h : z_Pq M0 len fl M s) : z_Pq M0 len v (z_s M 4 0 3 v) s := Pc_4 (j := 3) (Or.inl rfl) h
theorem Pc_8 {M0 M : z_M} {len : Nat} {fl v : Int32} {s : z_Ps} (h : z_Pq M0 len fl M s) : z_Pq M0 len fl (z_s M 4 0 8 v) s := Pc_4 (j := 8) (Or.inr rfl) h
/-- a place of the draft's rows -/
theorem Pc_w {M0 M : z_M} {len : Nat} {fl x v w : Int32} {s : z_Ps} (f j : Nat) (hf : f < 14) (hj : x.toNatClampNeg = j) (hv : w = v) (h : z_Pq M0 len fl M s) : z_Pq M0 len fl (z_s M (7 + f) 1 x.toNatClampNeg w) (s.w f j v) := by
  subst hj
  subst hv
  have e4 : (z_s M (7 + f) 1 x.toNatClampNeg w).1 4 = M.1 4 := by
    funext a b
    exact if_neg (c := 4 = 7 + f ∧ a = 1 ∧ b = x.toNatClampNeg) (by omega)
  refine ⟨⟨h.1.1, fun k a b => ?_, fun k i a b => ?_⟩, by rw [e4]; exact h.2.1, by rw [e4]; exact h.2.2.1, by unfold z_tok z_tkn; rw [e4]; exact h.2.2.2.1, h.2.2.2.2.1, ?_, fun g hg => ?_⟩
  · rw [← h.1.2.1 k a b]
    funext a b
    exact if_neg (c := k = 7 + f ∧ a = 1 ∧ b = x.toNatClampNeg) (by omega)
  · rw [← h.1.2.2 k i a b]
    funext y
    exact if_neg (c := k = 7 + f ∧ i = 1 ∧ y = x.toNatClampNeg) (by omega)
  · have e6 : (z_s M (7 + f) 1 x.toNatClampNeg w).1 6 = M.1 6 := by
      funext a b
      exact if_neg (c := 6 = 7 + f ∧ a = 1 ∧ b = x.toNatClampNeg) (by omega)
    rw [e6]
    exact h.2.2.2.2.2.1
  · funext y
    show (if 7 + g = 7 + f ∧ 1 = 1 ∧ y = x.toNatClampNeg then w else M.1 (7 + g) 1 y) = if g = f ∧ y = x.toNatClampNeg then w else s.V g y
    rw [h.2.2.2.2.2.2 g hg]
    by_cases q : g = f ∧ y = x.toNatClampNeg
    · rw [if_pos q, if_pos ⟨by omega, rfl, q.2⟩]
    · rw [if_neg q, if_neg (fun w => q ⟨by omega, w.2.2⟩)]
/-- the counts -/
theorem Pc_c {M0 M : z_M} {len : Nat} {fl v : Int32} {s : z_Ps} (j m r b : Nat) (h : z_Pq M0 len fl M s) (hm : (if 1 = j then v else M.1 6 1 1) = nI m) (hr : (if 5 = j then v else M.1 6 1 5) = nI r) (hb : (if 14 = j then v else M.1 6 1 14) = nI b) : z_Pq M0 len fl (z_s M 6 1 j v) ⟨s.tk, m, r, b, s.V⟩ := by
  have e : ∀ k, k ≠ 6 → (z_s M 6 1 j v).1 k = M.1 k := fun k hk => by
    funext x y
    exact if_neg (c := k = 6 ∧ x = 1 ∧ y = j) (fun w => hk w.1)
  have e6 : ∀ x, (z_s M 6 1 j v).1 6 1 x = if x = j then v else M.1 6 1 x := fun x => by
    show (if 6 = 6 ∧ 1 = 1 ∧ x = j then v else M.1 6 1 x) = _
    by_cases q : x = j
    · rw [if_pos q, if_pos ⟨rfl, rfl, q⟩]
    · rw [if_neg q, if_neg (fun w => q w.2.2)]
  refine ⟨⟨h.1.1, fun k a b => ?_, fun k i a b => ?_⟩, by rw [e 4 (by decide)]; exact h.2.1, by rw [e 4 (by decide)]; exact h.2.2.1, by unfold z_tok z_tkn; rw [e 4 (by decide)]; exact h.2.2.2.1, h.2.2.2.2.1, ⟨(e6 1).trans hm, (e6 5).trans hr, (e6 14).trans hb⟩, fun g hg => by rw [e (7 + g) (by omega)]; exact h.2.2.2.2.2.2 g hg⟩
  · rw [e k (by omega)]
    exact h.1.2.1 k a b
  · rw [← h.1.2.2 k i a b]
    funext y
    exact if_neg (c := k = 6 ∧ i = 1 ∧ y = j) (by omega)
def z_Oq (M0 : z_M) (len : Nat) (fl v : Int32) (M : z_M) (o : z_Po) : Prop := (v = 0 ∧ ∃ e s, o = .no e s ∧ z_Pq M0 len e M s) ∨ (v = 1 ∧ ∃ s, o = .ok s ∧ z_Pq M0 len fl M s)
theorem Oc_no {M0 M : z_M} {len : Nat} {fl e : Int32} {s : z_Ps} {o : z_Po} (ho : o = .no e s) (h : z_Pq M0 len e M s) : z_Oq M0 len fl 0 M o := Or.inl ⟨rfl, e, s, ho, h⟩
theorem Oc_ok {M0 M : z_M} {len : Nat} {fl : Int32} {s : z_Ps} {o : z_Po} (ho : o = .ok s) (h : z_Pq M0 len fl M s) : z_Oq M0 len fl 1 M o := Or.inr ⟨rfl, s, ho, h⟩
theorem u_next {X : z_Cx} {D : Nat} {M0 M : z_M} {len : Nat} {fl : Int32} {s : z_Ps} {S' : Int32 → z_M → Prop} (h : z_Pq M0 len fl M s) (hd : 2 < D) (hk : ∀ r M', z_Pq M0 len fl M' (s.nx (M0.1 5 0) len) → S' r M') : z_Ca X D mX5_next [zr 4 0] M S' :=
  z_use (hX5_next M len s.tk.2.1 h.2.1.1 h.2.1.2 h.2.2.2.2.1.2 h.2.2.2.1.2.1) hd (fun r _ q => hk r _ (Pc_nx h q.1 q.2))
theorem u_word {X : z_Cx} {D : Nat} {M0 M : z_M} {len : Nat} {fl : Int32} {s : z_Ps} {S' : Int32 → z_M → Prop} (h : z_Pq M0 len fl M s) (j : Nat) (hj : j < 10) (hd : 4 < D) (hk : S' (pu_b2 (s.is (M0.1 5 0) j)) M) : z_Ca X D mX5_isWord [zr 4 0, zr 66 j] M S' := by
  have h2 := hX5_isWord (X := X) M len s.tk.1 s.tk.2.1 s.tk.2.2.1 s.tk.2.2.2 h.2.1.1 h.2.1.2 h.2.2.2.2.1.1 (fun _ => h.2.2.2.2.1.2) (by have := h.2.2.2.2.1.2; have := h.2.1.2; omega) h.2.2.2.1 j hj
  rw [Pc_tape h] at h2
  exact z_uR h2 hd hk
theorem hX5_readsNumber {X : z_Cx} (M0 M : z_M) (len : Nat) (fl lo hi : Int32) (s : z_Ps) (h : z_Pq M0 len fl M s) (k : Int32 → z_Ps → z_Po) : z_Con X 3 mX5_readsNumber [zr 4 0, zi lo, zi hi] M (fun v M' => (v = 0 ∧ ∃ e s', pu_num (M0.1 5 0) len lo hi s k = .no e s' ∧ z_Pq M0 len e M' s') ∨ (v = 1 ∧ M'.1 4 0 8 = s.tk.2.2.2 ∧ (lo ≤ s.tk.2.2.2 ∧ s.tk.2.2.2 ≤ hi) ∧ pu_num (M0.1 5 0) len lo hi s k = k s.tk.2.2.2 (s.nx (M0.1 5 0) len) ∧ z_Pq M0 len fl M' (s.nx (M0.1 5 0) len))) := by
  obtain ⟨t1, t2, t3, t4⟩ := h.2.2.2.1
  refine z_mg KX5_readsNumber [] 60 (by decide +kernel) rfl ?_
  unfold pu_num
  refine ⟨fun g => ?_, fun g => ?_⟩ <;> rw [t3] at g
  · have ev : M.1 4 0 7 = s.tk.2.2.2 := t4 g
    have hc : z_Con X 0 mX9_within [zi (M.1 4 0 7), zi lo, zi hi] M (fun r M' => M' = M ∧ r = if lo ≤ s.tk.2.2.2 ∧ s.tk.2.2.2 ≤ hi then 1 else 0) := by
      rw [ev]
      exact hX9_within s.tk.2.2.2 lo hi M
    refine z_uR hc (by decide) ?_
    refine ⟨fun g2 => ?_, fun g2 => ?_⟩
    · have hp : lo ≤ s.tk.2.2.2 ∧ s.tk.2.2.2 ≤ hi := by
        apply Classical.byContradiction
        intro w
        rw [if_neg w] at g2
        exact g2 rfl
      refine z_use (hX5_next (z_s M 4 0 8 (M.1 4 0 7)) len s.tk.2.1 (Pc_8 h).2.1.1 h.2.1.2 h.2.2.2.2.1.2 (Pc_8 h).2.2.2.1.2.1) (by decide) (fun r M' q => ?_)
      refine ⟨Or.inr rfl, Or.inr ⟨rfl, ?_, hp, by rw [if_pos g, if_pos hp], Pc_nx (Pc_8 h) q.1 q.2⟩⟩
      rw [q.1.2.2 8 (by decide) (by decide) (by decide) (by decide), z_gs, if_pos ⟨rfl, rfl, rfl⟩]
      exact ev
    · have hp : ¬ (lo ≤ s.tk.2.2.2 ∧ s.tk.2.2.2 ≤ hi) := by
        intro w
        rw [if_pos w] at g2
        exact absurd g2 (by decide)
      refine z_uW (hX5_fails M 2) (by decide) ?_
      exact ⟨Or.inl rfl, Or.inl ⟨rfl, 2, s, by rw [if_pos g, if_neg hp], Pc_fl h⟩⟩
  · refine z_uW (hX5_fails M 1) (by decide) ?_
    exact ⟨Or.inl rfl, Or.inl ⟨rfl, 1, s, by rw [if_neg g], Pc_fl h⟩⟩
theorem u_num {X : z_Cx} {D : Nat} {M0 M : z_M} {len : Nat} {fl lo hi : Int32} {s : z_Ps} {k : Int32 → z_Ps → z_Po} {o : z_Po} {S' : Int32 → z_M → Prop} (ho : o = pu_num (M0.1 5 0) len lo hi s k) (h : z_Pq M0 len fl M s) (hd : 3 < D) (hno : ∀ M' e s', o = .no e s' → z_Pq M0 len e M' s' → S' 0 M') (hok : ∀ M' v, M'.1 4 0 8 = v → lo ≤ v ∧ v ≤ hi → o = k v (s.nx (M0.1 5 0) len) → z_Pq M0 len fl M' (s.nx (M0.1 5 0) len) → S' 1 M') : z_Ca X D mX5_readsNumber [zr 4 0, zi lo, zi hi] M S' := by
  refine z_use (hX5_readsNumber M0 M len fl lo hi s h k) hd (fun v M' q => ?_)
  rcases q with ⟨rfl, e, s', e1, e2⟩ | ⟨rfl, e1, e2, e3, e4⟩
  · exact hno M' e s' (ho.trans e1) e2
  · exact hok M' _ e1 e2 (ho.trans e3) e4
theorem hX5_readsSemicolon {X : z_Cx} (M0 M : z_M) (len : Nat) (fl : Int32) (s : z_Ps) (h : z_Pq M0 len fl M s) : z_Con X 3 mX5_readsSemicolon [zr 4 0] M (fun v M' => (v = 0 ∨ v = 1) ∧ z_Oq M0 len fl v M' (pu_semi (M0.1 5 0) len s)) := by
  obtain ⟨t1, t2, t3, t4⟩ := h.2.2.2.1
  refine z_mg KX5_readsSemicolon [] 60 (by decide +kernel) rfl ?_
  refine ⟨fun g => ?_, fun g => ?_⟩ <;> rw [t3] at g
  · refine u_next h (by decide) (fun r M' q => ?_)
    exact ⟨Or.inr rfl, Or.inr rfl, Oc_ok (if_pos g) q⟩
  · refine z_uW (hX5_fails M 1) (by decide) ?_
    exact ⟨Or.inl rfl, Or.inl rfl, Oc_no (if_neg g) (Pc_fl h)⟩
