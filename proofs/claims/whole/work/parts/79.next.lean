/-! ===== the class's next token, numbers, semicolons ===== -/
/-- the token in hand is tk -/
def z_tok (M : z_M) (tk : z_Tk) : Prop := z_tkn M tk.1 tk.2.1 tk.2.2.1 tk.2.2.2
theorem lX5_next {X : z_Cx} (M : z_M) (len : Nat) (hl : M.1 4 0 2 = nI len) (hl6 : len ≤ 600) {R : Int32 → z_M → Prop} (y : Nat) (hk : ∀ Mc, z_Ft M Mc → Mc.1 4 0 5 = nI y → z_Run X 2 mX5_next R 38 [(0, zr 4 0)] [] Mc) : ∀ (u x : Nat) (Mc : z_M), x + u = len → pu_run pu_blank (M.1 5 0) u x = y → z_Ft M Mc → Mc.1 4 0 5 = nI x → z_Run X 2 mX5_next R 0 [(0, zr 4 0)] [] Mc := by
  intro u
  induction u with
  | zero =>
    intro x Mc hx e hF h5
    obtain rfl : x = y := e
    refine z_go_run KX5_next [(0, [0]), (38, [0])] 80 ?_
    refine ⟨fun _ => hk Mc hF h5, fun q => ?_⟩
    rw [h5, hF.len, hl] at q
    exact absurd (nI_le (by omega) (by omega)) q
  | succ u ih =>
    intro x Mc hx e hF h5
    have hc : z_Con X 0 mX5_byteAt [zr 4 0, zi (Mc.1 4 0 5)] Mc (fun v M' => M' = Mc ∧ v = pu_by8 (M.1 5 0) x) := by
      rw [h5]
      refine (hX5_byteAt Mc len (by rw [hF.len]; exact hl) hl6 x (by omega)).to ?_
      rw [hF.tape, ba_lt (by omega)]
    refine z_go_run KX5_next [(0, [0]), (38, [0])] 80 ?_
    refine ⟨fun q => ?_, fun q => ?_⟩
    · rw [h5, hF.len, hl] at q
      exact absurd q (nI_ge (by omega) (by omega))
    · refine z_uR hc (by decide) ?_
      refine z_uR (hX5_isBlank Mc _) (by decide) ?_
      refine ⟨fun g2 => ?_, fun g2 => ?_⟩
      · have hp : ¬ pu_blank (pu_by8 (M.1 5 0) x) = true := by
          intro w
          rw [if_pos (of_decide_eq_true w)] at g2
          exact absurd g2 (by decide)
        rw [run_0 hp] at e
        obtain rfl : x = y := e
        exact hk Mc hF h5
      · have hp : pu_blank (pu_by8 (M.1 5 0) x) = true := by
          apply decide_eq_true
          apply Classical.byContradiction
          intro w
          rw [if_neg w] at g2
          exact g2 rfl
        rw [run_1 hp] at e
        have h3 := ih (x + 1) (z_s Mc 4 0 5 (Mc.1 4 0 5 + 1)) (by omega) e (hF.s (by decide)) (by rw [z_gs, if_pos ⟨rfl, rfl, rfl⟩, h5, nI_1])
        exact h3
/-- what next leaves, out of the token's parts -/
theorem tk_mk {M' : z_M} {B : Nat → Int32} {len f : Nat} (h4 : M'.1 4 0 4 = nI (pu_tok2 B len f).1) (h5 : M'.1 4 0 5 = nI (pu_tok2 B len f).2.1) (h6 : M'.1 4 0 6 = (pu_tok2 B len f).2.2.1) (h7 : (pu_tok2 B len f).2.2.1 = 2 → M'.1 4 0 7 = (pu_tok2 B len f).2.2.2) : z_tok M' (pu_tok2 B len f) := ⟨h4, h5, h6, h7⟩
/-- a token behind no end, by its first byte -/
def pu_tok3 (B : Nat → Int32) (len f : Nat) (b : Int32) : z_Tk := if pu_let b = true then (f, pu_run pu_let B (len - f) f, 1, 0) else if b = 45 then (f, (pu_nu B (f + 1) (len - (f + 1)) (f + 1) 0).1, (if 1 ≤ (pu_nu B (f + 1) (len - (f + 1)) (f + 1) 0).1 - (f + 1) ∧ (pu_nu B (f + 1) (len - (f + 1)) (f + 1) 0).1 - (f + 1) ≤ 3 then 2 else 4), -(pu_nu B (f + 1) (len - (f + 1)) (f + 1) 0).2) else if pu_fig b = true then (f, (pu_nu B f (len - f) f 0).1, (if (pu_nu B f (len - f) f 0).1 - f ≤ 3 then 2 else 4), (pu_nu B f (len - f) f 0).2) else (f, f + 1, (if b = 59 then 3 else 4), 0)
theorem tok2_3 {B : Nat → Int32} {len f : Nat} (e : ¬ f = len) : pu_tok2 B len f = pu_tok3 B len f (pu_by8 B f) := if_neg e
theorem hX5_next {X : z_Cx} (M : z_M) (len x : Nat) (hl : M.1 4 0 2 = nI len) (hl6 : len ≤ 600) (hx : x ≤ len) (h5 : M.1 4 0 5 = nI x) : z_Con X 2 mX5_next [zr 4 0] M (fun _ M' => z_Ft M M' ∧ z_tok M' (pu_tok (M.1 5 0) len x)) := by
  have hb := run_bd (p := pu_blank) (B := M.1 5 0) (len - x) x
  unfold pu_tok
  generalize ef : pu_run pu_blank (M.1 5 0) (len - x) x = f at *
  refine z_mk (by decide +kernel) rfl ?_
  refine lX5_next M len hl hl6 f (fun Mc hF q5 => ?_) (len - x) x M (by omega) ef z_Ft.refl h5
  have hc : z_Con X 0 mX5_byteAt [zr 4 0, zi (nI f)] (z_s Mc 4 0 4 (nI f)) (fun v M' => M' = z_s Mc 4 0 4 (nI f) ∧ v = pu_ba (M.1 5 0) len f) := by
    refine (hX5_byteAt (z_s Mc 4 0 4 (nI f)) len (by rw [z_gs, if_neg (by omega), hF.len]; exact hl) hl6 f (by omega)).to ?_
    rw [(hF.s (j := 4) (v := nI f) (by decide)).tape]
  have hF4 : z_Ft M (z_s Mc 4 0 4 (nI f)) := hF.s (by decide)
  have q44 : (z_s Mc 4 0 4 (nI f)).1 4 0 4 = nI f := by rw [z_gs, if_pos ⟨rfl, rfl, rfl⟩]
  have q45 : (z_s Mc 4 0 4 (nI f)).1 4 0 5 = nI f := by rw [z_gs, if_neg (by omega)]; exact q5
  have hl4 : (z_s Mc 4 0 4 (nI f)).1 4 0 2 = nI len := hF4.len.trans hl
  refine z_go_run KX5_next [(46, [0])] 80 ?_
  show z_Run X 2 mX5_next _ 46 [(0, zr 4 0)] [] (z_s Mc 4 0 4 (Mc.1 4 0 5))
  rw [q5]
  generalize z_s Mc 4 0 4 (nI f) = Md at *
  clear hF q5
  have hc2 : z_Con X 0 mX5_byteAt [zr 4 0, zi (Md.1 4 0 4)] Md (fun v M' => M' = Md ∧ v = pu_ba (M.1 5 0) len f) := by
    rw [q44]
    exact hc
  refine z_go_run KX5_next [] 80 ?_
  refine z_uR hc2 (by decide) ?_
  by_cases e : f = len
  · have eb : pu_ba (M.1 5 0) len f = -1 := if_neg (by omega)
    have et : pu_tok2 (M.1 5 0) len f = (f, f, 0, 0) := if_pos e
    refine ⟨fun g => ?_, fun g => ?_⟩ <;> rw [eb] at g
    · exact absurd g (by decide)
    · refine ⟨hF4.s (by decide), ?_⟩
      rw [et]
      exact ⟨by rw [z_gs, if_neg (by omega)]; exact q44, by rw [z_gs, if_neg (by omega)]; exact q45, by rw [z_gs, if_pos ⟨rfl, rfl, rfl⟩], fun w => absurd (show (0 : Int32) = 2 from w) (by decide)⟩
  · have eb : pu_ba (M.1 5 0) len f = pu_by8 (M.1 5 0) f := ba_lt (by omega)
    have h8 := by8_nn (M.1 5 0) f
    rw [← eb] at h8
    have et := tok2_3 (B := M.1 5 0) e
    rw [← eb] at et
    unfold pu_tok3 at et
    generalize pu_ba (M.1 5 0) len f = b at *
    refine ⟨fun g => ?_, fun g => ?_⟩
    · refine z_uR (hX5_isLetter Md _) (by decide) ?_
      refine ⟨fun g2 => ?_, fun g2 => ?_⟩
      · have hp : ¬ pu_let b = true := by
          intro w
          rw [if_pos (of_decide_eq_true w)] at g2
          exact absurd g2 (by decide)
        rw [if_neg hp] at et
        have num : ∀ neg : Bool, (neg = true ↔ b = 45) → (neg = false → pu_fig b = true) → z_Con X 1 mX5_takeNumber [zr 4 0, zi (pu_b2 neg)] Md (fun _ M' => z_Ft M M' ∧ z_tok M' (pu_tok2 (M.1 5 0) len f)) := by
          intro neg h1 h2
          refine (hX5_takeNumber Md len f neg hl4 hl6 (by omega) q44).mono (fun _ M' h => ?_)
          refine ⟨hF4.trans h.1, ?_⟩
          rw [hF4.tape] at h
          cases neg with
          | true =>
            rw [if_pos (h1.1 rfl)] at et
            rw [et]
            exact ⟨h.2.1, h.2.2.1, h.2.2.2.1, fun _ => h.2.2.2.2⟩
          | false =>
            have hp2 := h2 rfl
            rw [if_neg (fun w => absurd (h1.2 w) (by decide)), if_pos hp2] at et
            rw [et]
            refine ⟨h.2.1, h.2.2.1, ?_, fun _ => h.2.2.2.2⟩
            rw [h.2.2.2.1]
            have hn : pu_nu (M.1 5 0) f (len - f) f 0 = pu_nu (M.1 5 0) f (len - (f + 1)) (f + 1) (if f - f < 3 then 0 * 10 + pu_by8 (M.1 5 0) f - 48 else 0) := by
              rw [show len - f = (len - (f + 1)) + 1 by omega]
              exact nu_1 (by rw [← eb]; exact hp2)
            have hn2 := nu_bd (B := M.1 5 0) (g := f) (len - (f + 1)) (f + 1) (if f - f < 3 then 0 * 10 + pu_by8 (M.1 5 0) f - 48 else 0)
            rw [← hn] at hn2
            show (if 1 ≤ (pu_nu (M.1 5 0) f (len - f) f 0).1 - f ∧ (pu_nu (M.1 5 0) f (len - f) f 0).1 - f ≤ 3 then (2 : Int32) else 4) = if (pu_nu (M.1 5 0) f (len - f) f 0).1 - f ≤ 3 then 2 else 4
            by_cases w : (pu_nu (M.1 5 0) f (len - f) f 0).1 - f ≤ 3
            · rw [if_pos ⟨by omega, w⟩, if_pos w]
            · rw [if_neg (fun q => w q.2), if_neg w]
        have oth : ∀ t : Int32, b ≠ 45 → ¬ pu_fig b = true → t = (if b = 59 then 3 else 4) → z_Ft M (z_s (z_s Md 4 0 6 t) 4 0 5 ((z_s Md 4 0 6 t).1 4 0 5 + 1)) ∧ z_tok (z_s (z_s Md 4 0 6 t) 4 0 5 ((z_s Md 4 0 6 t).1 4 0 5 + 1)) (pu_tok2 (M.1 5 0) len f) := by
          intro t h1 h2 ht
          rw [if_neg h1, if_neg h2] at et
          refine ⟨(hF4.s (by decide)).s (by decide), ?_⟩
          rw [et]
          refine ⟨?_, ?_, ?_, fun w => ?_⟩
          · rw [z_gs, if_neg (by omega), z_gs, if_neg (by omega)]; exact q44
          · rw [z_gs, if_pos ⟨rfl, rfl, rfl⟩, z_gs, if_neg (by omega), q45, nI_1]
          · rw [z_gs, if_neg (by omega), z_gs, if_pos ⟨rfl, rfl, rfl⟩]; exact ht
          · exfalso
            dsimp only at w
            split at w <;> exact absurd w (by decide)
        refine z_uR (hX5_isFigure Md _) (by decide) ?_
        refine ⟨fun g3 => ?_, fun g3 => ?_⟩
        · have hp3 : pu_fig b = true := by
            apply decide_eq_true
            apply Classical.byContradiction
            intro w
            rw [if_neg w] at g3
            exact g3 rfl
          refine ⟨fun g5 => ?_, fun g5 => ?_⟩
          · exact z_use (num false ⟨fun w => absurd w (by decide), fun w => absurd w g5⟩ (fun _ => hp3)) (by decide) (fun _ _ h => h)
          · exact z_use (num true ⟨fun _ => g5, fun _ => rfl⟩ (fun w => absurd w (by decide))) (by decide) (fun _ _ h => h)
        · have hp3 : ¬ pu_fig b = true := by
            intro w
            rw [if_pos (of_decide_eq_true w)] at g3
            exact absurd g3 (by decide)
          refine ⟨fun g4 => ?_, fun g4 => ?_⟩
          · refine ⟨fun g5 => ?_, fun g5 => ?_⟩
            · exact oth 4 g4 hp3 (by rw [if_neg g5])
            · exact oth 3 g4 hp3 (by rw [if_pos g5])
          · refine ⟨fun g5 => absurd g4 g5, fun g5 => ?_⟩
            exact z_use (num true ⟨fun _ => g4, fun _ => rfl⟩ (fun w => absurd w (by decide))) (by decide) (fun _ _ h => h)
      · have hp : pu_let b = true := by
          apply decide_eq_true
          apply Classical.byContradiction
          intro w
          rw [if_neg w] at g2
          exact g2 rfl
        rw [if_pos hp] at et
        refine z_use (hX5_takeName Md len f hl4 hl6 (by omega) q44 q45) (by decide) (fun _ M' h => ?_)
        refine ⟨hF4.trans h.1, ?_⟩
        rw [hF4.tape] at h
        rw [et]
        exact ⟨h.2.1, h.2.2.1, h.2.2.2, fun w => absurd (show (1 : Int32) = 2 from w) (by decide)⟩
    · exact absurd h8.1 g
