/-! ===== numbers and stops of the model's reader ===== -/
abbrev z_sp (M : z_M) : Nat := (M.2.2 46 1).toNat
/-- the model reads: the token in hand is tk, its spare row is N -/
def z_Pm (M0 : z_M) (B : Nat → Int32) (len : Nat) (fl : Int32) (M : z_M) (tk : z_Tk) (N : Nat → Int32) : Prop := (M.2 = M0.2 ∧ (∀ k, k ≠ 46 → k ≠ 47 → M.1 k = M0.1 k) ∧ (∀ i, i ≠ z_sp M0 → M.1 47 i = M0.1 47 i) ∧ ∀ j, j ∉ [6, 12, 13, 14, 15, 17] → M.1 46 0 j = M0.1 46 0 j) ∧ z_Te B len M ∧ M.1 46 0 6 = fl ∧ z_mtk M tk ∧ (tk.1 ≤ tk.2.1 ∧ tk.2.1 ≤ len) ∧ M.1 47 (z_sp M0) = N
theorem Pm_nx {M0 M M' : z_M} {B : Nat → Int32} {len : Nat} {fl : Int32} {tk : z_Tk} {N : Nat → Int32} (h : z_Pm M0 B len fl M tk N) (hF : z_Fm [12, 13, 14, 15] [] M M') (ht : z_mtk M' (pu_tok B len tk.2.1)) : z_Pm M0 B len fl M' (pu_tok B len tk.2.1) N := by
  have hk := tok_ok (B := B) (x := tk.2.1) h.2.2.2.2.1.2
  refine ⟨⟨hF.1.trans h.1.1, fun k a b => (hF.2.1 k a (fun w => by cases w)).trans (h.1.2.1 k a b), fun i a => ?_, fun j hj => ?_⟩, Te_F h.2.1 hF, (hF.2.2 6 (by decide)).trans h.2.2.1, ht, ⟨hk.2.1, hk.2.2.1⟩, ?_⟩
  · rw [hF.2.1 47 (by decide) (by decide)]
    exact h.1.2.2.1 i a
  · refine (hF.2.2 j (fun w => hj ?_)).trans (h.1.2.2.2 j hj)
    simp only [List.mem_cons, List.mem_nil_iff, or_false] at w ⊢
    omega
  · rw [hF.2.1 47 (by decide) (by decide)]
    exact h.2.2.2.2.2
theorem Pm_46 {M0 M : z_M} {B : Nat → Int32} {len : Nat} {fl v : Int32} {tk : z_Tk} {N : Nat → Int32} {j : Nat} (hj : j = 6 ∨ j = 17) (h : z_Pm M0 B len fl M tk N) : z_Pm M0 B len (if j = 6 then v else fl) (z_s M 46 0 j v) tk N := by
  have e : ∀ k, k ≠ 46 → (z_s M 46 0 j v).1 k = M.1 k := fun k hk => by
    funext x y
    exact if_neg (c := k = 46 ∧ x = 0 ∧ y = j) (fun w => hk w.1)
  have e4 : ∀ x, x ≠ j → (z_s M 46 0 j v).1 46 0 x = M.1 46 0 x := fun x hx => if_neg (c := 46 = 46 ∧ 0 = 0 ∧ x = j) (fun w => hx w.2.2)
  refine ⟨⟨h.1.1, fun k a b => (e k a).trans (h.1.2.1 k a b), fun i a => by rw [e 47 (by decide)]; exact h.1.2.2.1 i a, fun x hx => ?_⟩, ⟨h.2.1.1, (e4 16 (by omega)).trans h.2.1.2.1, fun x hx => by rw [e 50 (by decide)]; exact h.2.1.2.2 x hx⟩, ?_, ?_, h.2.2.2.2.1, by rw [e 47 (by decide)]; exact h.2.2.2.2.2⟩
  · rw [e4 x (fun w => hx (by rw [w]; rcases hj with rfl | rfl <;> decide))]
    exact h.1.2.2.2 x hx
  · by_cases w : j = 6
    · rw [if_pos w, w, z_gs, if_pos ⟨rfl, rfl, rfl⟩]
    · rw [if_neg w, e4 6 (fun q => w q.symm)]
      exact h.2.2.1
  · obtain ⟨t1, t2, t3, t4⟩ := h.2.2.2.1
    exact ⟨(e4 12 (by omega)).trans t1, (e4 13 (by omega)).trans t2, (e4 14 (by omega)).trans t3, fun w => (e4 15 (by omega)).trans (t4 w)⟩
theorem Pm_fl {M0 M : z_M} {B : Nat → Int32} {len : Nat} {fl v : Int32} {tk : z_Tk} {N : Nat → Int32} (h : z_Pm M0 B len fl M tk N) : z_Pm M0 B len v (z_s M 46 0 6 v) tk N := Pm_46 (j := 6) (Or.inl rfl) h
theorem Pm_17 {M0 M : z_M} {B : Nat → Int32} {len : Nat} {fl v : Int32} {tk : z_Tk} {N : Nat → Int32} (h : z_Pm M0 B len fl M tk N) : z_Pm M0 B len fl (z_s M 46 0 17 v) tk N := Pm_46 (j := 17) (Or.inr rfl) h
/-- a row with one place changed -/
def pu_nw (N : Nat → Int32) (i : Nat) (v : Int32) : Nat → Int32 := fun y => if y = i then v else N y
theorem Pm_w {M0 M : z_M} {B : Nat → Int32} {len : Nat} {fl x v w : Int32} {tk : z_Tk} {N : Nat → Int32} (i : Nat) (hi : x.toNatClampNeg = i) (hv : w = v) (h : z_Pm M0 B len fl M tk N) : z_Pm M0 B len fl (z_s M 47 (M.2.2 46 1).toNat x.toNatClampNeg w) tk (pu_nw N i v) := by
  subst hi
  subst hv
  have es : (M.2.2 46 1).toNat = z_sp M0 := by rw [h.1.1]
  rw [es]
  have e : ∀ k, k ≠ 47 → (z_s M 47 (z_sp M0) x.toNatClampNeg w).1 k = M.1 k := fun k hk => by
    funext a b
    exact if_neg (c := k = 47 ∧ a = z_sp M0 ∧ b = x.toNatClampNeg) (fun w => hk w.1)
  refine ⟨⟨h.1.1, fun k a b => (e k b).trans (h.1.2.1 k a b), fun i a => ?_, fun j hj => by rw [e 46 (by decide)]; exact h.1.2.2.2 j hj⟩, ?_, by rw [e 46 (by decide)]; exact h.2.2.1, by unfold z_mtk; rw [e 46 (by decide)]; exact h.2.2.2.1, h.2.2.2.2.1, ?_⟩
  · rw [← h.1.2.2.1 i a]
    funext y
    exact if_neg (c := 47 = 47 ∧ i = z_sp M0 ∧ y = x.toNatClampNeg) (fun w => a w.2.1)
  · unfold z_Te
    rw [e 46 (by decide), e 50 (by decide)]
    exact h.2.1
  · funext y
    show (if 47 = 47 ∧ z_sp M0 = z_sp M0 ∧ y = x.toNatClampNeg then w else M.1 47 (z_sp M0) y) = if y = x.toNatClampNeg then w else N y
    rw [h.2.2.2.2.2]
    by_cases q : y = x.toNatClampNeg
    · rw [if_pos q, if_pos ⟨rfl, rfl, q⟩]
    · rw [if_neg q, if_neg (fun w => q w.2.2)]
/-- a place of the spare row, read -/
theorem Pm_r {M0 M : z_M} {B : Nat → Int32} {len : Nat} {fl : Int32} {tk : z_Tk} {N : Nat → Int32} (h : z_Pm M0 B len fl M tk N) : M.1 47 (M.2.2 46 1).toNat = N := by
  rw [h.1.1]
  exact h.2.2.2.2.2
theorem m_next {X : z_Cx} {D : Nat} {M0 M : z_M} {B : Nat → Int32} {len : Nat} {fl : Int32} {tk : z_Tk} {N : Nat → Int32} {S' : Int32 → z_M → Prop} (h : z_Pm M0 B len fl M tk N) (hd : 3 < D) (hk : ∀ r M', z_Pm M0 B len fl M' (pu_tok B len tk.2.1) N → S' r M') : z_Ca X D mX10_next [zr 46 0] M S' :=
  z_use (hX10_next M B len tk h.2.1 h.2.2.2.2.1.1 h.2.2.2.2.1.2 h.2.2.2.1) hd (fun r _ q => hk r _ (Pm_nx h q.1 q.2))
theorem hX10_readNumber {X : z_Cx} (M0 M : z_M) (B : Nat → Int32) (len : Nat) (fl lo hi : Int32) (s : z_Ps) (N : Nat → Int32) (h : z_Pm M0 B len fl M s.tk N) (k : Int32 → z_Ps → z_Po) : z_Con X 4 mX10_readNumber [zr 46 0, zi lo, zi hi] M (fun v M' => (v = 0 ∧ ∃ e s', pu_num B len lo hi s k = .no e s' ∧ z_Pm M0 B len e M' s'.tk N) ∨ (v = 1 ∧ M'.1 46 0 17 = s.tk.2.2.2 ∧ (lo ≤ s.tk.2.2.2 ∧ s.tk.2.2.2 ≤ hi) ∧ pu_num B len lo hi s k = k s.tk.2.2.2 (s.nx B len) ∧ z_Pm M0 B len fl M' (s.nx B len).tk N)) := by
  obtain ⟨t1, t2, t3, t4⟩ := h.2.2.2.1
  refine z_mg KX10_readNumber [] 60 (by decide +kernel) rfl ?_
  unfold pu_num
  refine ⟨fun g => ?_, fun g => ?_⟩ <;> rw [t3] at g
  · have ev : M.1 46 0 15 = s.tk.2.2.2 := t4 g
    have hc : z_Con X 0 mX10_in [zl (M.1 46 0 15).toInt64, zl lo.toInt64, zl hi.toInt64] M (fun r M' => M' = M ∧ r = if lo ≤ s.tk.2.2.2 ∧ s.tk.2.2.2 ≤ hi then 1 else 0) := by
      rw [ev]
      exact hX10_inI M s.tk.2.2.2 lo hi rfl rfl
    refine z_uR hc (by decide) ?_
    refine ⟨fun g2 => ?_, fun g2 => ?_⟩
    · have hp : lo ≤ s.tk.2.2.2 ∧ s.tk.2.2.2 ≤ hi := by
        apply Classical.byContradiction
        intro w
        rw [if_neg w] at g2
        exact g2 rfl
      have h17 := Pm_17 (v := M.1 46 0 15) h
      refine z_use (hX10_next (z_s M 46 0 17 (M.1 46 0 15)) B len s.tk h17.2.1 h17.2.2.2.2.1.1 h17.2.2.2.2.1.2 h17.2.2.2.1) (by decide) (fun r M' q => ?_)
      refine ⟨Or.inr rfl, Or.inr ⟨rfl, ?_, hp, by rw [if_pos g, if_pos hp], Pm_nx h17 q.1 q.2⟩⟩
      rw [q.1.2.2 17 (by decide), z_gs, if_pos ⟨rfl, rfl, rfl⟩]
      exact ev
    · have hp : ¬ (lo ≤ s.tk.2.2.2 ∧ s.tk.2.2.2 ≤ hi) := by
        intro w
        rw [if_pos w] at g2
        exact absurd g2 (by decide)
      refine z_uW (hX10_faulty M 2) (by decide) ?_
      exact ⟨Or.inl rfl, Or.inl ⟨rfl, 2, s, by rw [if_pos g, if_neg hp], Pm_fl h⟩⟩
  · refine z_uW (hX10_faulty M 1) (by decide) ?_
    exact ⟨Or.inl rfl, Or.inl ⟨rfl, 1, s, by rw [if_neg g], Pm_fl h⟩⟩
theorem m_num {X : z_Cx} {D : Nat} {M0 M : z_M} {B : Nat → Int32} {len : Nat} {fl lo hi : Int32} {s : z_Ps} {N : Nat → Int32} {k : Int32 → z_Ps → z_Po} {o : z_Po} {S' : Int32 → z_M → Prop} (ho : o = pu_num B len lo hi s k) (h : z_Pm M0 B len fl M s.tk N) (hd : 4 < D) (hno : ∀ M' e s', o = .no e s' → z_Pm M0 B len e M' s'.tk N → S' 0 M') (hok : ∀ M' v, M'.1 46 0 17 = v → lo ≤ v ∧ v ≤ hi → o = k v (s.nx B len) → z_Pm M0 B len fl M' (s.nx B len).tk N → S' 1 M') : z_Ca X D mX10_readNumber [zr 46 0, zi lo, zi hi] M S' := by
  refine z_use (hX10_readNumber M0 M B len fl lo hi s N h k) hd (fun v M' q => ?_)
  rcases q with ⟨rfl, e, s', e1, e2⟩ | ⟨rfl, e1, e2, e3, e4⟩
  · exact hno M' e s' (ho.trans e1) e2
  · exact hok M' _ e1 e2 (ho.trans e3) e4
/-- the outcome, on the model's side: N is what an ok step has written -/
def z_Om (M0 : z_M) (B : Nat → Int32) (len : Nat) (fl v : Int32) (M : z_M) (o : z_Po) (Q : z_Ps → (Nat → Int32) → Prop) : Prop := (v = 0 ∧ ∃ e s N, o = .no e s ∧ z_Pm M0 B len e M s.tk N) ∨ (v = 1 ∧ ∃ s N, o = .ok s ∧ z_Pm M0 B len fl M s.tk N ∧ Q s N)
theorem hX10_readStop {X : z_Cx} (M0 M : z_M) (B : Nat → Int32) (len : Nat) (fl : Int32) (s : z_Ps) (N : Nat → Int32) (h : z_Pm M0 B len fl M s.tk N) : z_Con X 4 mX10_readStop [zr 46 0] M (fun v M' => (v = 0 ∨ v = 1) ∧ z_Om M0 B len fl v M' (pu_semi B len s) (fun s' N' => s' = s.nx B len ∧ N' = N)) := by
  obtain ⟨t1, t2, t3, t4⟩ := h.2.2.2.1
  refine z_mg KX10_readStop [] 60 (by decide +kernel) rfl ?_
  refine ⟨fun g => ?_, fun g => ?_⟩ <;> rw [t3] at g
  · refine m_next h (by decide) (fun r M' q => ?_)
    exact ⟨Or.inr rfl, Or.inr rfl, Or.inr ⟨rfl, s.nx B len, N, if_pos g, q, rfl, rfl⟩⟩
  · refine z_uW (hX10_faulty M 1) (by decide) ?_
    exact ⟨Or.inl rfl, Or.inl rfl, Or.inl ⟨rfl, 1, s, N, if_neg g, Pm_fl h⟩⟩
