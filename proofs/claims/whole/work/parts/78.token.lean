/-! ===== tokens: class and model ===== -/
abbrev pu_by8 (B : Nat → Int32) (x : Nat) : Int32 := B x &&& 255
def pu_blank (b : Int32) : Bool := decide (b = 32 ∨ b = 10)
def pu_let (b : Int32) : Bool := decide (97 ≤ b ∧ b ≤ 122)
def pu_fig (b : Int32) : Bool := decide (48 ≤ b ∧ b ≤ 57)
def pu_run (p : Int32 → Bool) (B : Nat → Int32) : Nat → Nat → Nat
  | 0, x => x
  | u + 1, x => if p (pu_by8 B x) = true then pu_run p B u (x + 1) else x
def pu_nu (B : Nat → Int32) (g : Nat) : Nat → Nat → Int32 → Nat × Int32
  | 0, x, s => (x, s)
  | u + 1, x, s => if pu_fig (pu_by8 B x) = true then pu_nu B g u (x + 1) (if x - g < 3 then s * 10 + pu_by8 B x - 48 else s) else (x, s)
abbrev z_Tk : Type := Nat × Nat × Int32 × Int32
def pu_tok2 (B : Nat → Int32) (len f : Nat) : z_Tk :=
  if f = len then (f, f, 0, 0) else if pu_let (pu_by8 B f) = true then (f, pu_run pu_let B (len - f) f, 1, 0) else
  if pu_by8 B f = 45 then (f, (pu_nu B (f + 1) (len - (f + 1)) (f + 1) 0).1, (if 1 ≤ (pu_nu B (f + 1) (len - (f + 1)) (f + 1) 0).1 - (f + 1) ∧ (pu_nu B (f + 1) (len - (f + 1)) (f + 1) 0).1 - (f + 1) ≤ 3 then 2 else 4), -(pu_nu B (f + 1) (len - (f + 1)) (f + 1) 0).2) else
  if pu_fig (pu_by8 B f) = true then (f, (pu_nu B f (len - f) f 0).1, (if (pu_nu B f (len - f) f 0).1 - f ≤ 3 then 2 else 4), (pu_nu B f (len - f) f 0).2) else
  (f, f + 1, (if pu_by8 B f = 59 then 3 else 4), 0)
def pu_tok (B : Nat → Int32) (len x : Nat) : z_Tk := pu_tok2 B len (pu_run pu_blank B (len - x) x)
theorem run_bd {p : Int32 → Bool} {B : Nat → Int32} : ∀ u x, x ≤ pu_run p B u x ∧ pu_run p B u x ≤ x + u := by
  intro u
  induction u with
  | zero => intro x; exact ⟨Nat.le_refl x, Nat.le_refl x⟩
  | succ u ih =>
    intro x
    unfold pu_run
    split
    · have := ih (x + 1)
      omega
    · omega
theorem run_1 {p : Int32 → Bool} {B : Nat → Int32} {u x : Nat} (h : p (pu_by8 B x) = true) : pu_run p B (u + 1) x = pu_run p B u (x + 1) := if_pos h
theorem run_0 {p : Int32 → Bool} {B : Nat → Int32} {u x : Nat} (h : ¬ p (pu_by8 B x) = true) : pu_run p B (u + 1) x = x := if_neg h
theorem nu_1 {B : Nat → Int32} {g u x : Nat} {s : Int32} (h : pu_fig (pu_by8 B x) = true) : pu_nu B g (u + 1) x s = pu_nu B g u (x + 1) (if x - g < 3 then s * 10 + pu_by8 B x - 48 else s) := if_pos h
theorem nu_0 {B : Nat → Int32} {g u x : Nat} {s : Int32} (h : ¬ pu_fig (pu_by8 B x) = true) : pu_nu B g (u + 1) x s = (x, s) := if_neg h
theorem nu_bd {B : Nat → Int32} {g : Nat} : ∀ u x s, x ≤ (pu_nu B g u x s).1 ∧ (pu_nu B g u x s).1 ≤ x + u := by
  intro u
  induction u with
  | zero => intro x s; exact ⟨Nat.le_refl x, Nat.le_refl x⟩
  | succ u ih =>
    intro x s
    by_cases h : pu_fig (pu_by8 B x) = true
    · rw [nu_1 h]
      have := ih (x + 1) (if x - g < 3 then s * 10 + pu_by8 B x - 48 else s)
      omega
    · rw [nu_0 h]
      show x ≤ x ∧ x ≤ x + (u + 1)
      omega
/-- a token lies where it may -/
theorem tok2_ok {B : Nat → Int32} {len f : Nat} (hf : f ≤ len) : (pu_tok2 B len f).1 = f ∧ f ≤ (pu_tok2 B len f).2.1 ∧ (pu_tok2 B len f).2.1 ≤ len ∧ ((pu_tok2 B len f).2.2.1 ≠ 0 → f < (pu_tok2 B len f).2.1) ∧ ((pu_tok2 B len f).2.2.1 = 0 → f = len) := by
  have h42 : ∀ (Q : Prop) [Decidable Q], (if Q then (2 : Int32) else 4) ≠ 0 := by
    intro Q _
    split <;> decide
  have h34 : ∀ (Q : Prop) [Decidable Q], (if Q then (3 : Int32) else 4) ≠ 0 := by
    intro Q _
    split <;> decide
  unfold pu_tok2
  by_cases e : f = len
  · rw [if_pos e]
    exact ⟨rfl, Nat.le_refl f, hf, fun w => absurd rfl w, fun _ => e⟩
  · rw [if_neg e]
    by_cases e1 : pu_let (pu_by8 B f) = true
    · rw [if_pos e1]
      have h := run_bd (p := pu_let) (B := B) (len - f) f
      have h2 : pu_run pu_let B (len - f) f = pu_run pu_let B (len - (f + 1)) (f + 1) := by
        rw [show len - f = (len - (f + 1)) + 1 by omega]
        exact run_1 e1
      have h3 := run_bd (p := pu_let) (B := B) (len - (f + 1)) (f + 1)
      dsimp only
      exact ⟨rfl, by omega, by omega, fun _ => by omega, fun w => absurd w (by decide)⟩
    · rw [if_neg e1]
      by_cases e2 : pu_by8 B f = 45
      · rw [if_pos e2]
        have h := nu_bd (B := B) (g := f + 1) (len - (f + 1)) (f + 1) 0
        dsimp only
        exact ⟨rfl, by omega, by omega, fun _ => by omega, fun w => absurd w (h42 _)⟩
      · rw [if_neg e2]
        by_cases e3 : pu_fig (pu_by8 B f) = true
        · rw [if_pos e3]
          have h : pu_nu B f (len - f) f 0 = pu_nu B f (len - (f + 1)) (f + 1) (if f - f < 3 then 0 * 10 + pu_by8 B f - 48 else 0) := by
            rw [show len - f = (len - (f + 1)) + 1 by omega]
            exact nu_1 e3
          have h2 := nu_bd (B := B) (g := f) (len - (f + 1)) (f + 1) (if f - f < 3 then 0 * 10 + pu_by8 B f - 48 else 0)
          rw [← h] at h2
          dsimp only
          exact ⟨rfl, by omega, by omega, fun _ => by omega, fun w => absurd w (h42 _)⟩
        · rw [if_neg e3]
          dsimp only
          exact ⟨rfl, by omega, by omega, fun _ => by omega, fun w => absurd w (h34 _)⟩
theorem tok_ok {B : Nat → Int32} {len x : Nat} (hx : x ≤ len) : x ≤ (pu_tok B len x).1 ∧ (pu_tok B len x).1 ≤ (pu_tok B len x).2.1 ∧ (pu_tok B len x).2.1 ≤ len ∧ ((pu_tok B len x).2.2.1 ≠ 0 → (pu_tok B len x).1 < (pu_tok B len x).2.1) ∧ ((pu_tok B len x).2.2.1 = 0 → (pu_tok B len x).1 = len) := by
  have h := run_bd (p := pu_blank) (B := B) (len - x) x
  have h2 := tok2_ok (B := B) (len := len) (f := pu_run pu_blank B (len - x) x) (by omega)
  unfold pu_tok
  rw [h2.1]
  exact ⟨h.1, h2.2.1, h2.2.2.1, h2.2.2.2.1, h2.2.2.2.2⟩
/-! the class's tokens -/
/-- of the reader only the token has changed -/
def z_Ft (M M' : z_M) : Prop := M'.2 = M.2 ∧ (∀ k, k ≠ 4 → M'.1 k = M.1 k) ∧ ∀ j, j ≠ 4 → j ≠ 5 → j ≠ 6 → j ≠ 7 → M'.1 4 0 j = M.1 4 0 j
theorem z_Ft.refl {M : z_M} : z_Ft M M := ⟨rfl, fun _ _ => rfl, fun _ _ _ _ _ => rfl⟩
theorem z_Ft.trans {M M1 M2 : z_M} (h : z_Ft M M1) (h2 : z_Ft M1 M2) : z_Ft M M2 := ⟨h2.1.trans h.1, fun k hk => (h2.2.1 k hk).trans (h.2.1 k hk), fun j a b c d => (h2.2.2 j a b c d).trans (h.2.2 j a b c d)⟩
theorem z_Ft.s {M M1 : z_M} {j : Nat} {v : Int32} (h : z_Ft M M1) (hj : 4 ≤ j ∧ j ≤ 7) : z_Ft M (z_s M1 4 0 j v) := by
  refine ⟨h.1, fun k hk => ?_, fun a h4 h5 h6 h7 => ?_⟩
  · rw [← h.2.1 k hk]
    funext x y
    exact if_neg (c := k = 4 ∧ x = 0 ∧ y = j) (fun w => hk w.1)
  · rw [← h.2.2 a h4 h5 h6 h7]
    exact if_neg (c := 4 = 4 ∧ 0 = 0 ∧ a = j) (fun w => by omega)
theorem z_Ft.len {M M1 : z_M} (h : z_Ft M M1) : M1.1 4 0 2 = M.1 4 0 2 := h.2.2 2 (by decide) (by decide) (by decide) (by decide)
theorem z_Ft.tape {M M1 : z_M} (h : z_Ft M M1) : M1.1 5 0 = M.1 5 0 := by rw [h.2.1 5 (by decide)]
theorem ba_lt {B : Nat → Int32} {len x : Nat} (h : x < len) : pu_ba B len x = pu_by8 B x := if_pos h
theorem by8_nn (B : Nat → Int32) (x : Nat) : 0 ≤ pu_by8 B x ∧ pu_by8 B x ≤ 255 := by
  obtain ⟨j, hj, e⟩ := pk_andE (B x) (m := 255) 8 (by decide)
  show 0 ≤ B x &&& 255 ∧ B x &&& 255 ≤ 255
  rw [e]
  exact ⟨nI_pos' (by omega), nI_le (b := 255) (by omega) (by omega)⟩
theorem lX5_takeName {X : z_Cx} (M : z_M) (len f : Nat) (hl : M.1 4 0 2 = nI len) (hl6 : len ≤ 600) : ∀ (u x : Nat) (Mc : z_M), x + u = len → z_Ft M Mc → Mc.1 4 0 4 = nI f → Mc.1 4 0 5 = nI x → Mc.1 4 0 6 = 1 → z_Run X 1 mX5_takeName (fun _ M' => z_Ft M M' ∧ M'.1 4 0 4 = nI f ∧ M'.1 4 0 5 = nI (pu_run pu_let (M.1 5 0) u x) ∧ M'.1 4 0 6 = 1) 5 [(0, zr 4 0)] [] Mc := by
  intro u
  induction u with
  | zero =>
    intro x Mc hx hF h4 h5 h6
    refine z_go_run KX5_takeName [(5, [0])] 60 ?_
    refine ⟨fun _ => ⟨hF, h4, h5, h6⟩, fun g => ?_⟩
    rw [h5, hF.len, hl] at g
    exact absurd (nI_le (by omega) (by omega)) g
  | succ u ih =>
    intro x Mc hx hF h4 h5 h6
    refine z_go_run KX5_takeName [(5, [0])] 60 ?_
    refine ⟨fun g => ?_, fun g => ?_⟩
    · rw [h5, hF.len, hl] at g
      exact absurd g (nI_ge (by omega) (by omega))
    · have hc : z_Con X 0 mX5_byteAt [zr 4 0, zi (Mc.1 4 0 5)] Mc (fun v M' => M' = Mc ∧ v = pu_by8 (M.1 5 0) x) := by
        rw [h5]
        refine (hX5_byteAt Mc len (by rw [hF.len]; exact hl) hl6 x (by omega)).to ?_
        rw [hF.tape, ba_lt (by omega)]
      refine z_uR hc (by decide) ?_
      refine z_uR (hX5_isLetter Mc _) (by decide) ?_
      refine ⟨fun g2 => ?_, fun g2 => ?_⟩
      · have hp : ¬ pu_let (pu_by8 (M.1 5 0) x) = true := by
          intro w
          rw [if_pos (of_decide_eq_true w)] at g2
          exact absurd g2 (by decide)
        exact ⟨hF, h4, by rw [run_0 hp]; exact h5, h6⟩
      · have hp : pu_let (pu_by8 (M.1 5 0) x) = true := by
          apply decide_eq_true
          apply Classical.byContradiction
          intro w
          rw [if_neg w] at g2
          exact g2 rfl
        have h3 := ih (x + 1) (z_s Mc 4 0 5 (Mc.1 4 0 5 + 1)) (by omega) (hF.s (by decide)) (by rw [z_gs, if_neg (by omega)]; exact h4) (by rw [z_gs, if_pos ⟨rfl, rfl, rfl⟩, h5, nI_1]) (by rw [z_gs, if_neg (by omega)]; exact h6)
        rw [← run_1 (u := u) hp] at h3
        exact h3
theorem hX5_takeName {X : z_Cx} (M : z_M) (len f : Nat) (hl : M.1 4 0 2 = nI len) (hl6 : len ≤ 600) (hf : f ≤ len) (h4 : M.1 4 0 4 = nI f) (h5 : M.1 4 0 5 = nI f) : z_Con X 1 mX5_takeName [zr 4 0] M (fun _ M' => z_Ft M M' ∧ M'.1 4 0 4 = nI f ∧ M'.1 4 0 5 = nI (pu_run pu_let (M.1 5 0) (len - f) f) ∧ M'.1 4 0 6 = 1) := by
  refine z_mg KX5_takeName [(5, [0])] 60 (by decide +kernel) rfl ?_
  refine lX5_takeName M len f hl hl6 (len - f) f _ (by omega) (z_Ft.refl.s (by decide)) ?_ ?_ ?_
  · rw [z_gs, if_neg (by omega)]; exact h4
  · rw [z_gs, if_neg (by omega)]; exact h5
  · rw [z_gs, if_pos ⟨rfl, rfl, rfl⟩]
theorem lX5_takeNumber {X : z_Cx} (M : z_M) (len f g : Nat) (ng : Int32) (hl : M.1 4 0 2 = nI len) (hl6 : len ≤ 600) {R : Int32 → z_M → Prop} (y : Nat) (w : Int32) (hk : ∀ Mc, z_Ft M Mc → Mc.1 4 0 4 = nI f → Mc.1 4 0 5 = nI y → z_Run X 1 mX5_takeNumber R 94 [(0, zr 4 0), (1, zi ng), (2, zi (nI g)), (3, zi w)] [] Mc) : ∀ (u x : Nat) (s : Int32) (Mc : z_M), x + u = len → g ≤ x → pu_nu (M.1 5 0) g u x s = (y, w) → z_Ft M Mc → Mc.1 4 0 4 = nI f → Mc.1 4 0 5 = nI x → z_Run X 1 mX5_takeNumber R 25 [(0, zr 4 0), (1, zi ng), (2, zi (nI g)), (3, zi s)] [] Mc := by
  intro u
  induction u with
  | zero =>
    intro x s Mc hx hg e hF h4 h5
    obtain ⟨rfl, rfl⟩ := Prod.mk.inj e
    refine z_go_run KX5_takeNumber [(25, [0, 1, 2, 3]), (94, [0, 1, 2, 3])] 80 ?_
    refine ⟨fun _ => hk Mc hF h4 h5, fun q => ?_⟩
    rw [h5, hF.len, hl] at q
    exact absurd (nI_le (by omega) (by omega)) q
  | succ u ih =>
    intro x s Mc hx hg e hF h4 h5
    have hc : z_Con X 0 mX5_byteAt [zr 4 0, zi (Mc.1 4 0 5)] Mc (fun v M' => M' = Mc ∧ v = pu_by8 (M.1 5 0) x) := by
      rw [h5]
      refine (hX5_byteAt Mc len (by rw [hF.len]; exact hl) hl6 x (by omega)).to ?_
      rw [hF.tape, ba_lt (by omega)]
    refine z_go_run KX5_takeNumber [(25, [0, 1, 2, 3]), (94, [0, 1, 2, 3])] 80 ?_
    refine ⟨fun q => ?_, fun q => ?_⟩
    · rw [h5, hF.len, hl] at q
      exact absurd q (nI_ge (by omega) (by omega))
    · refine z_uR hc (by decide) ?_
      refine z_uR (hX5_isFigure Mc _) (by decide) ?_
      refine ⟨fun g2 => ?_, fun g2 => ?_⟩
      · have hp : ¬ pu_fig (pu_by8 (M.1 5 0) x) = true := by
          intro w
          rw [if_pos (of_decide_eq_true w)] at g2
          exact absurd g2 (by decide)
        rw [nu_0 hp] at e
        obtain ⟨rfl, rfl⟩ := Prod.mk.inj e
        exact hk Mc hF h4 h5
      · have hp : pu_fig (pu_by8 (M.1 5 0) x) = true := by
          apply decide_eq_true
          apply Classical.byContradiction
          intro w
          rw [if_neg w] at g2
          exact g2 rfl
        rw [nu_1 hp] at e
        have exg : Mc.1 4 0 5 - nI g = nI (x - g) := by rw [h5]; exact pk_sub hg
        have nx : ∀ s' : Int32, s' = (if x - g < 3 then s * 10 + pu_by8 (M.1 5 0) x - 48 else s) → z_Run X 1 mX5_takeNumber R 25 [(0, zr 4 0), (1, zi ng), (2, zi (nI g)), (3, zi s')] [] (z_s Mc 4 0 5 (Mc.1 4 0 5 + 1)) := by
          intro s' es
          rw [h5, nI_1, es]
          exact ih (x + 1) _ _ (by omega) (by omega) e (hF.s (by decide)) (by rw [z_gs, if_neg (by omega)]; exact h4) (by rw [z_gs, if_pos ⟨rfl, rfl, rfl⟩])
        refine ⟨fun g3 => ?_, fun g3 => ?_⟩ <;> rw [exg] at g3
        · exact nx s (by rw [if_neg]; intro w; exact absurd g3 (nI_ge (b := 3) w (by omega)))
        · refine z_uR hc (by decide) ?_
          exact nx _ (by rw [if_pos]; exact Classical.byContradiction (fun w => g3 (nI_le (a := 3) (by omega) (by omega))))
theorem hX5_takeNumber {X : z_Cx} (M : z_M) (len f : Nat) (neg : Bool) (hl : M.1 4 0 2 = nI len) (hl6 : len ≤ 600) (hf : f < len) (h4 : M.1 4 0 4 = nI f) : z_Con X 1 mX5_takeNumber [zr 4 0, zi (pu_b2 neg)] M (fun _ M' => z_Ft M M' ∧ M'.1 4 0 4 = nI f ∧ M'.1 4 0 5 = nI (pu_nu (M.1 5 0) (f + neg.toNat) (len - (f + neg.toNat)) (f + neg.toNat) 0).1 ∧ M'.1 4 0 6 = (if 1 ≤ (pu_nu (M.1 5 0) (f + neg.toNat) (len - (f + neg.toNat)) (f + neg.toNat) 0).1 - (f + neg.toNat) ∧ (pu_nu (M.1 5 0) (f + neg.toNat) (len - (f + neg.toNat)) (f + neg.toNat) 0).1 - (f + neg.toNat) ≤ 3 then 2 else 4) ∧ M'.1 4 0 7 = if neg = true then -(pu_nu (M.1 5 0) (f + neg.toNat) (len - (f + neg.toNat)) (f + neg.toNat) 0).2 else (pu_nu (M.1 5 0) (f + neg.toNat) (len - (f + neg.toNat)) (f + neg.toNat) 0).2) := by
  have hb := nu_bd (B := M.1 5 0) (g := f + neg.toNat) (len - (f + neg.toNat)) (f + neg.toNat) 0
  have hng : neg.toNat ≤ 1 := by cases neg <;> decide
  have go : z_Run X 1 mX5_takeNumber (fun _ M' => z_Ft M M' ∧ M'.1 4 0 4 = nI f ∧ M'.1 4 0 5 = nI (pu_nu (M.1 5 0) (f + neg.toNat) (len - (f + neg.toNat)) (f + neg.toNat) 0).1 ∧ M'.1 4 0 6 = (if 1 ≤ (pu_nu (M.1 5 0) (f + neg.toNat) (len - (f + neg.toNat)) (f + neg.toNat) 0).1 - (f + neg.toNat) ∧ (pu_nu (M.1 5 0) (f + neg.toNat) (len - (f + neg.toNat)) (f + neg.toNat) 0).1 - (f + neg.toNat) ≤ 3 then 2 else 4) ∧ M'.1 4 0 7 = if neg = true then -(pu_nu (M.1 5 0) (f + neg.toNat) (len - (f + neg.toNat)) (f + neg.toNat) 0).2 else (pu_nu (M.1 5 0) (f + neg.toNat) (len - (f + neg.toNat)) (f + neg.toNat) 0).2) 25 [(0, zr 4 0), (1, zi (pu_b2 neg)), (2, zi (nI (f + neg.toNat))), (3, zi 0)] [] (z_s M 4 0 5 (nI (f + neg.toNat))) := by
    refine lX5_takeNumber M len f (f + neg.toNat) (pu_b2 neg) hl hl6 (pu_nu (M.1 5 0) (f + neg.toNat) (len - (f + neg.toNat)) (f + neg.toNat) 0).1 (pu_nu (M.1 5 0) (f + neg.toNat) (len - (f + neg.toNat)) (f + neg.toNat) 0).2 (fun Mc hF q4 q5 => ?_) (len - (f + neg.toNat)) (f + neg.toNat) 0 _ (by omega) (Nat.le_refl _) rfl (z_Ft.refl.s (by decide)) (by rw [z_gs, if_neg (by omega)]; exact h4) (by rw [z_gs, if_pos ⟨rfl, rfl, rfl⟩])
    generalize pu_nu (M.1 5 0) (f + neg.toNat) (len - (f + neg.toNat)) (f + neg.toNat) 0 = yw at *
    refine z_go_run KX5_takeNumber [(117, [0, 1, 3])] 80 ?_
    have e1 : Mc.1 4 0 5 - nI (f + neg.toNat) = nI (yw.1 - (f + neg.toNat)) := by rw [q5]; exact pk_sub hb.1
    have e2 : (if (1 : Int32) ≤ nI (yw.1 - (f + neg.toNat)) ∧ nI (yw.1 - (f + neg.toNat)) ≤ 3 then (1 : Int32) else 0) = if 1 ≤ yw.1 - (f + neg.toNat) ∧ yw.1 - (f + neg.toNat) ≤ 3 then 1 else 0 := by
      have a1 : (1 : Int32) ≤ nI (yw.1 - (f + neg.toNat)) ↔ 1 ≤ yw.1 - (f + neg.toNat) := nI_leI (a := 1) (by omega) (by omega)
      have a2 : nI (yw.1 - (f + neg.toNat)) ≤ 3 ↔ yw.1 - (f + neg.toNat) ≤ 3 := nI_leI (b := 3) (by omega) (by omega)
      simp only [a1, a2]
    refine z_uRe (hX9_within (Mc.1 4 0 5 - nI (f + neg.toNat)) 1 3 Mc) (g := if 1 ≤ yw.1 - (f + neg.toNat) ∧ yw.1 - (f + neg.toNat) ≤ 3 then 1 else 0) (by rw [e1]; exact e2) (by decide) ?_
    have fin : ∀ (t : Int32), t = (if 1 ≤ yw.1 - (f + neg.toNat) ∧ yw.1 - (f + neg.toNat) ≤ 3 then 2 else 4) → z_Run X 1 mX5_takeNumber (fun _ M' => z_Ft M M' ∧ M'.1 4 0 4 = nI f ∧ M'.1 4 0 5 = nI yw.1 ∧ M'.1 4 0 6 = (if 1 ≤ yw.1 - (f + neg.toNat) ∧ yw.1 - (f + neg.toNat) ≤ 3 then 2 else 4) ∧ M'.1 4 0 7 = if neg = true then -yw.2 else yw.2) 117 [(0, zr 4 0), (1, zi (pu_b2 neg)), (3, zi yw.2)] [] (z_s Mc 4 0 6 t) := by
      intro t et
      have last : ∀ v : Int32, v = (if neg = true then -yw.2 else yw.2) → z_Ft M (z_s (z_s Mc 4 0 6 t) 4 0 7 v) ∧ (z_s (z_s Mc 4 0 6 t) 4 0 7 v).1 4 0 4 = nI f ∧ (z_s (z_s Mc 4 0 6 t) 4 0 7 v).1 4 0 5 = nI yw.1 ∧ (z_s (z_s Mc 4 0 6 t) 4 0 7 v).1 4 0 6 = (if 1 ≤ yw.1 - (f + neg.toNat) ∧ yw.1 - (f + neg.toNat) ≤ 3 then 2 else 4) ∧ (z_s (z_s Mc 4 0 6 t) 4 0 7 v).1 4 0 7 = if neg = true then -yw.2 else yw.2 := by
        intro v hv
        refine ⟨(hF.s (by decide)).s (by decide), ?_, ?_, ?_, ?_⟩
        · rw [z_gs, if_neg (by omega), z_gs, if_neg (by omega)]; exact q4
        · rw [z_gs, if_neg (by omega), z_gs, if_neg (by omega)]; exact q5
        · rw [z_gs, if_neg (by omega), z_gs, if_pos ⟨rfl, rfl, rfl⟩]; exact et
        · rw [z_gs, if_pos ⟨rfl, rfl, rfl⟩]; exact hv
      refine z_go_run KX5_takeNumber [] 80 ?_
      refine ⟨fun g2 => ?_, fun g2 => ?_⟩
      · have q := last yw.2 (by
          cases neg with
          | false => rfl
          | true => exact absurd g2 (by decide))
        exact ⟨q.1, q.2⟩
      · have q := last (-yw.2) (by
          cases neg with
          | true => rfl
          | false => exact absurd rfl g2)
        exact ⟨q.1, q.2⟩
    refine ⟨fun g2 => fin 4 ?_, fun g2 => fin 2 ?_⟩
    · rw [if_neg]
      intro w
      rw [if_pos w] at g2
      exact absurd g2 (by decide)
    · rw [if_pos]
      apply Classical.byContradiction
      intro w
      rw [if_neg w] at g2
      exact g2 rfl
  refine z_mg KX5_takeNumber [(25, [0, 1, 2, 3])] 80 (by decide +kernel) rfl ?_
  refine ⟨fun g => ?_, fun g => ?_⟩
  · have e : neg = false := by
      cases neg with
      | false => rfl
      | true => exact absurd g (by decide)
    subst e
    show z_Run X 1 _ _ 25 [(0, zr 4 0), (1, zi 0), (2, zi (M.1 4 0 4)), (3, zi 0)] [] (z_s M 4 0 5 (M.1 4 0 4))
    rw [h4]
    exact go
  · have e : neg = true := by
      cases neg with
      | true => rfl
      | false => exact absurd rfl g
    subst e
    show z_Run X 1 _ _ 25 [(0, zr 4 0), (1, zi 1), (2, zi (M.1 4 0 4 + 1)), (3, zi 0)] [] (z_s M 4 0 5 (M.1 4 0 4 + 1))
    rw [h4, nI_1]
    exact go
