/-! ===== course, of the class ===== -/
/-- what the class's course leaves when the text is at fault -/
def z_Cn (M0 M' : z_M) (e : Int32) : Prop := M'.2 = M0.2 ∧ (∀ k, k ≠ 4 → ¬ (6 ≤ k ∧ k ≤ 20) → M'.1 k = M0.1 k) ∧ (∀ k i, k ≠ 4 → i ≠ 1 → M'.1 k i = M0.1 k i) ∧ M'.1 4 0 2 = 0 ∧ M'.1 4 0 3 = e
/-- and when it is not -/
def z_Cy (M0 M' : z_M) (s : z_Ps) : Prop := M'.2 = M0.2 ∧ (∀ k, k ≠ 4 → k ≠ 21 → ¬ (6 ≤ k ∧ k ≤ 20) → M'.1 k = M0.1 k) ∧ (∀ k i, k ≠ 4 → i ≠ 0 → i ≠ 1 → M'.1 k i = M0.1 k i) ∧ (∀ i j, i ≠ 0 ∨ j ≠ 3 → M'.1 21 i j = M0.1 21 i j) ∧ M'.1 21 0 3 = 0 ∧ M'.1 4 0 2 = 0 ∧ M'.1 4 0 3 = M0.1 4 0 3 ∧ M'.1 6 0 0 = 1 ∧ M'.1 6 0 1 = nI s.m ∧ M'.1 6 0 5 = nI s.r ∧ M'.1 6 0 14 = nI s.b ∧ ∀ f, f < 14 → ∀ x, x < z_ln (7 + f) → M'.1 (7 + f) 0 x = s.V f x
theorem hX9_course {X : z_Cx} (M0 : z_M) (len : Nat) (hl : M0.1 4 0 2 = nI len) (hl6 : len ≤ 600) : z_Con X 7 mX9_course [zr 0 0] M0 (fun v M' => (∃ e s, pu_All (M0.1 5 0) len (pu_V0 M0) = .no e s ∧ v = -1000100 - nI s.tk.1 ∧ z_Cn M0 M' e) ∨ ∃ s, pu_All (M0.1 5 0) len (pu_V0 M0) = .ok s ∧ v = nI s.m ∧ z_Cy M0 M' s) := by
  refine z_mg KX9_course [(16, [0, 1])] 80 (by decide +kernel) rfl ?_
  refine z_use (hX5_readsAll M0 len hl hl6) (by decide) (fun v M1 q => ?_)
  show z_Run X 7 mX9_course _ 16 [(0, zr 0 0), (1, zi v)] [] (z_s M1 4 0 2 0)
  have e4 : ∀ k, k ≠ 4 → (z_s M1 4 0 2 0).1 k = M1.1 k := fun k hk => by
    funext x y
    exact if_neg (c := k = 4 ∧ x = 0 ∧ y = 2) (fun w => hk w.1)
  have e42 : (z_s M1 4 0 2 0).1 4 0 2 = 0 := by rw [z_gs, if_pos ⟨rfl, rfl, rfl⟩]
  have e4j : ∀ j, j ≠ 2 → (z_s M1 4 0 2 0).1 4 0 j = M1.1 4 0 j := fun j hj => if_neg (c := 4 = 4 ∧ 0 = 0 ∧ j = 2) (fun w => hj w.2.2)
  have e2 : (z_s M1 4 0 2 0).2 = M1.2 := rfl
  generalize z_s M1 4 0 2 0 = M2 at *
  refine z_go_run KX9_course [] 80 ?_
  rcases q.1 with ⟨rfl, e, s, ho, hq⟩ | ⟨rfl, s, ho, hq⟩
  · refine ⟨fun w => absurd rfl w, fun _ => ?_⟩
    refine Or.inl ⟨e, s, ho, ?_, e2.trans hq.1.1, fun k a b => (e4 k a).trans (hq.1.2.1 k a b), fun k i a b => by rw [e4 k a]; exact hq.1.2.2 k i a b, e42, (e4j 3 (by decide)).trans hq.2.2.1⟩
    rw [e4j 4 (by decide), hq.2.2.2.1.1]
  · refine ⟨fun _ => ?_, fun w => absurd w (by decide)⟩
    have e60 : M2.1 6 1 0 = 1 := by
      rw [e4 6 (by decide)]
      exact q.2
    refine z_use (hX2_become M2 0 1 (by decide) (Or.inr e60)) (by decide) (fun _ M3 b => ?_)
    obtain ⟨b1, b2, b3, b4, b5, b6, b7⟩ := b
    refine ⟨Or.inl rfl, ?_⟩
    have es : ∀ k i j, k ≠ 21 → (z_s M3 21 0 3 0).1 k i j = M3.1 k i j := fun k i j hk => if_neg (c := k = 21 ∧ i = 0 ∧ j = 3) (fun w => hk w.1)
    have eo : ∀ k i j, k ≠ 21 → ¬ (i = 0 ∧ 6 ≤ k ∧ k < 21) → (z_s M3 21 0 3 0).1 k i j = M2.1 k i j := fun k i j hk h => by
      rw [es k i j hk, b2 k i h]
    have hm : (z_s M3 21 0 3 0).1 6 0 1 = nI s.m := by
      rw [es 6 0 1 (by decide), b5, e4 6 (by decide)]
      exact hq.2.2.2.2.2.1.1
    refine Or.inr ⟨s, ho, hm, ?_, fun k h4 h21 h6 => ?_, fun k i h4 h0 h1 => ?_, fun i j hij => ?_, ?_, ?_, ?_, ?_, hm, ?_, ?_, fun f hf x hx => ?_⟩
    · exact b1.trans (e2.trans hq.1.1)
    · funext i j
      rw [eo k i j h21 (by omega), e4 k h4, hq.1.2.1 k h4 h6]
    · funext j
      by_cases h21 : k = 21
      · subst h21
        show (if 21 = 21 ∧ i = 0 ∧ j = 3 then _ else M3.1 21 i j) = _
        rw [if_neg (by omega), b2 21 i (by omega), e4 21 h4, hq.1.2.2 21 i h4 h1]
      · rw [eo k i j h21 (by omega), e4 k h4, hq.1.2.2 k i h4 h1]
    · show (if 21 = 21 ∧ i = 0 ∧ j = 3 then _ else M3.1 21 i j) = _
      rw [if_neg (by omega), b2 21 i (by omega), e4 21 (by decide), hq.1.2.1 21 (by decide) (by decide)]
    · rw [z_gs, if_pos ⟨rfl, rfl, rfl⟩]
    · rw [eo 4 0 2 (by decide) (by decide)]
      exact e42
    · rw [eo 4 0 3 (by decide) (by decide), e4j 3 (by decide)]
      exact hq.2.2.1
    · rw [es 6 0 0 (by decide), b4]
      exact e60
    · rw [es 6 0 5 (by decide), b6, e4 6 (by decide)]
      exact hq.2.2.2.2.2.1.2.1
    · rw [es 6 0 14 (by decide), b7, e4 6 (by decide)]
      exact hq.2.2.2.2.2.1.2.2
    · rw [es (7 + f) 0 x (by omega), b3 (7 + f) (by omega) (by omega) x hx, e4 (7 + f) (by omega), hq.2.2.2.2.2.2 f hf]
