/-! ===== course, of the model ===== -/
/-- what the model's course leaves when the text is at fault -/
def z_Nn (M0 M' : z_M) (e : Int32) : Prop := M'.2 = M0.2 ∧ (∀ k, k ≠ 46 → k ≠ 47 → M'.1 k = M0.1 k) ∧ (∀ i, i ≠ z_sp M0 → M'.1 47 i = M0.1 47 i) ∧ (∀ j, j ∉ [5, 6, 12, 13, 14, 15, 16, 17] → M'.1 46 0 j = M0.1 46 0 j) ∧ M'.1 46 0 5 = 0 ∧ M'.1 46 0 6 = e
/-- and when it is not -/
def z_Ny (M0 M' : z_M) (s : z_Ps) : Prop := (M'.2.1 = M0.2.1 ∧ M'.2.2 46 0 = M0.2.2 46 1 ∧ M'.2.2 46 1 = M0.2.2 46 0) ∧ (∀ k, k ≠ 46 → k ≠ 47 → M'.1 k = M0.1 k) ∧ (∀ i, i ≠ z_sp M0 → M'.1 47 i = M0.1 47 i) ∧ (∀ j, j ∉ [5, 6, 12, 13, 14, 15, 16, 17] → M'.1 46 0 j = M0.1 46 0 j) ∧ M'.1 46 0 5 = 0 ∧ M'.1 46 0 6 = M0.1 46 0 6 ∧ z_Cs s (z_nw M')
/-- the spare row, while it is cleared -/
def z_Zr (M0 : z_M) (n : Nat) (M : z_M) : Prop := M.2 = M0.2 ∧ (∀ k, k ≠ 47 → M.1 k = M0.1 k) ∧ (∀ i, i ≠ z_sp M0 → M.1 47 i = M0.1 47 i) ∧ ∀ y, y < n → M.1 47 (z_sp M0) y = 0
theorem lF_course {X : z_Cx} (M0 : z_M) {R : Int32 → z_M → Prop} (hk : ∀ M, z_Zr M0 479 M → z_Run X 8 mX10_course R 35 [(0, zr 46 0)] [] M) : ∀ (u n : Nat) (M : z_M), n + u = 479 → z_Zr M0 n M → z_Run X 8 mX10_course R 15 [(0, zr 46 0), (1, zi (nI n))] [] M := by
  intro u
  induction u with
  | zero =>
    intro n M hn h
    obtain rfl : n = 479 := by omega
    refine z_go_run KX10_course [(15, [0, 1]), (35, [0])] 40 ?_
    exact ⟨fun _ => hk M h, fun g => absurd (by decide) g⟩
  | succ u ih =>
    intro n M hn h
    refine z_go_run KX10_course [(15, [0, 1]), (35, [0])] 40 ?_
    refine ⟨fun g => absurd g (nI_ge (b := 479) (by omega) (by omega)), fun _ => ?_⟩
    refine ⟨vp_in_nI (by omega) (by omega), ?_⟩
    show z_Run X 8 mX10_course R 15 [(0, zr 46 0), (1, zi (nI n + 1))] [] (z_s M 47 (M.2.2 46 1).toNat (nI n).toNatClampNeg 0)
    rw [nI_clamp (by omega), nI_1, show (M.2.2 46 1).toNat = z_sp M0 by rw [h.1]]
    refine ih (n + 1) _ (by omega) ⟨h.1, fun k hk => ?_, fun i hi => ?_, fun y hy => ?_⟩
    · rw [← h.2.1 k hk]
      funext a b
      exact if_neg (c := k = 47 ∧ a = z_sp M0 ∧ b = n) (fun w => hk w.1)
    · rw [← h.2.2.1 i hi]
      funext b
      exact if_neg (c := 47 = 47 ∧ i = z_sp M0 ∧ b = n) (fun w => hi w.2.1)
    · rw [z_gs]
      by_cases e : y = n
      · rw [if_pos ⟨rfl, rfl, e⟩]
      · rw [if_neg (fun w => e w.2.2)]
        exact h.2.2.2 y (by omega)
theorem beq_b (b : Bool) : Nat.beq b.toNat 1 = b := by cases b <;> rfl
theorem hX10_course {X : z_Cx} (M0 : z_M) (B : Nat → Int32) (len : Nat) (hT : z_Tm B len M0) (V : Nat → Nat → Int32) (hV : ∀ j, j < 4 → V 6 j = 0) : z_Con X 8 mX10_course [zr 46 0] M0 (fun v M' => (∃ e s, pu_All B len V = .no e s ∧ v = -1000100 - nI s.tk.1 ∧ z_Nn M0 M' e) ∨ ∃ s, pu_All B len V = .ok s ∧ v = nI s.m ∧ z_Ny M0 M' s) := by
  refine z_mg KX10_course [(15, [0, 1])] 40 (by decide +kernel) rfl ?_
  show z_Run X 8 mX10_course _ 15 [(0, zr 46 0), (1, zi 0)] [] (z_s (z_s M0 46 0 16 (M0.1 46 0 5)) 46 0 5 0)
  have ek : ∀ k, k ≠ 46 → (z_s (z_s M0 46 0 16 (M0.1 46 0 5)) 46 0 5 0).1 k = M0.1 k := fun k hk => by
    funext x y
    rw [z_gs, if_neg (fun w => hk w.1), z_gs, if_neg (fun w => hk w.1)]
  have e46 : ∀ j, j ≠ 5 → j ≠ 16 → (z_s (z_s M0 46 0 16 (M0.1 46 0 5)) 46 0 5 0).1 46 0 j = M0.1 46 0 j := fun j h5 h16 => by
    rw [z_gs, if_neg (fun w => h5 w.2.2), z_gs, if_neg (fun w => h16 w.2.2)]
  have e5 : (z_s (z_s M0 46 0 16 (M0.1 46 0 5)) 46 0 5 0).1 46 0 5 = 0 := rfl
  have e16 : (z_s (z_s M0 46 0 16 (M0.1 46 0 5)) 46 0 5 0).1 46 0 16 = M0.1 46 0 5 := rfl
  have e2 : (z_s (z_s M0 46 0 16 (M0.1 46 0 5)) 46 0 5 0).2 = M0.2 := rfl
  generalize z_s (z_s M0 46 0 16 (M0.1 46 0 5)) 46 0 5 0 = M1 at *
  refine lF_course M1 (fun M h => ?_) 479 0 M1 (by omega) ⟨rfl, fun _ _ => rfl, fun _ _ => rfl, fun y hy => absurd hy (by omega)⟩
  have es : z_sp M = z_sp M0 := by
    show (M.2.2 46 1).toNat = _
    rw [h.1, e2]
  have es1 : z_sp M1 = z_sp M0 := by
    show (M1.2.2 46 1).toNat = _
    rw [e2]
  have fk : ∀ k, k ≠ 46 → k ≠ 47 → M.1 k = M0.1 k := fun k a b => (h.2.1 k b).trans (ek k a)
  have f47 : ∀ i, i ≠ z_sp M0 → M.1 47 i = M0.1 47 i := fun i hi => by
    rw [h.2.2.1 i (by rw [es1]; exact hi), ek 47 (by decide)]
  have f46 : ∀ j, M.1 46 0 j = M1.1 46 0 j := fun j => by rw [h.2.1 46 (by decide)]
  have hTe : z_Te B len M := ⟨hT.1, by rw [f46, e16]; exact hT.2.1, fun x hx => by rw [fk 50 (by decide) (by decide)]; exact hT.2.2 x hx⟩
  have hN : ∀ y, y < 479 → M.1 47 (z_sp M) y = 0 := fun y hy => by
    rw [es, ← es1]
    exact h.2.2.2 y hy
  refine z_go_run KX10_course [] 60 ?_
  refine z_use (hX10_readAll M B len hTe hN V hV) (by decide) (fun v M' q => ?_)
  have g46 : ∀ (e : Int32) (tk : z_Tk) (N : Nat → Int32), z_Pm M B len e M' tk N → (∀ j, j ∉ [5, 6, 12, 13, 14, 15, 16, 17] → M'.1 46 0 j = M0.1 46 0 j) ∧ M'.1 46 0 5 = 0 := by
    intro e tk N hp
    refine ⟨fun j hj => ?_, ?_⟩
    · simp only [List.mem_cons, List.mem_nil_iff, or_false, not_or] at hj
      rw [hp.1.2.2.2 j (by simp only [List.mem_cons, List.mem_nil_iff, or_false, not_or]; omega), f46, e46 j hj.1 hj.2.2.2.2.2.2.1]
    · rw [hp.1.2.2.2 5 (by decide), f46, e5]
  rcases q with ⟨rfl, e, s, N, e1, hp⟩ | ⟨rfl, s, N, e1, hp, hC⟩
  · refine ⟨fun w => absurd rfl w, fun _ => ?_⟩
    refine Or.inl ⟨e, s, e1, by rw [hp.2.2.2.1.1], (hp.1.1.trans h.1).trans e2, fun k a b => (hp.1.2.1 k a b).trans (fk k a b), fun i hi => ?_, (g46 _ _ _ hp).1, (g46 _ _ _ hp).2, hp.2.2.1⟩
    rw [hp.1.2.2.1 i (by rw [es]; exact hi)]
    exact f47 i hi
  · refine ⟨fun _ => ?_, fun w => absurd w (by decide)⟩
    have hk := All_ok hV s e1
    have e2' : M'.2 = M0.2 := (hp.1.1.trans h.1).trans e2
    generalize eM : z_sn (z_sn M' 46 0 (Nat.beq (M'.2.2 46 1).toNat 1)) 46 1 (Nat.beq (M'.2.2 46 0).toNat 1) = M3
    have n0 : M3.2.2 46 0 = M0.2.2 46 1 := by
      rw [← eM, ← e2']
      exact beq_b _
    have n1 : M3.2.2 46 1 = M0.2.2 46 0 := by
      rw [← eM, ← e2']
      exact beq_b _
    have m1 : M3.1 = M'.1 := by rw [← eM]; rfl
    have m2 : M3.2.1 = M0.2.1 := by rw [← eM, ← e2']; rfl
    have nw : z_nw M3 = N := by
      show M3.1 47 (M3.2.2 46 0).toNat = N
      rw [m1, n0]
      have := hp.2.2.2.2.2
      rw [es] at this
      exact this
    have hCR : z_CR s.V s.m s.r s.b (z_nw M3) := by
      rw [nw]
      exact CS_CR hC hk.2.1 hk.2.2
    show z_Ca X 8 mX10_miles [zr 46 0] (z_sn (z_sn M' 46 0 (Nat.beq (M'.2.2 46 1).toNat 1)) 46 1 (Nat.beq (M'.2.2 46 0).toNat 1)) _
    rw [eM]
    refine z_uR (hX10_miles M3 hCR) (by decide) ?_
    refine Or.inr ⟨s, e1, rfl, ⟨m2, n0, n1⟩, fun k a b => ?_, fun i hi => ?_, fun j hj => ?_, ?_, ?_, ?_⟩
    · rw [m1]
      exact (hp.1.2.1 k a b).trans (fk k a b)
    · rw [m1, hp.1.2.2.1 i (by rw [es]; exact hi)]
      exact f47 i hi
    · rw [m1]
      exact (g46 _ _ _ hp).1 j hj
    · rw [m1]
      exact (g46 _ _ _ hp).2
    · rw [m1, hp.2.2.1, f46, e46 6 (by decide) (by decide)]
    · rw [nw]
      exact hC
