/-! ===== all of a course, read by the class ===== -/
/-- the draft's rows, cleared -/
def pu_V0 (M0 : z_M) : Nat → Nat → Int32 := fun f j => if f = 6 ∧ j < 4 then 0 else M0.1 (7 + f) 1 j
theorem hX2_clear {X : z_Cx} (M : z_M) : z_Con X 1 mX2_clear [zr 6 1] M (fun _ M' => M' = z_sr (z_s (z_s (z_s M 6 1 1 0) 6 1 5 0) 6 1 14 0) 13 1 (fun j => if j < 4 then 0 else M.1 13 1 j)) := by
  refine z_mg KX2_clear [] 40 (by decide +kernel) rfl ?_
  refine z_uV (hJ7_fill_13 1 0 _) (by decide) (fun _ => ?_)
  rfl
theorem lp_1 {c : z_Ps → Bool} {f : z_Ps → z_Po} {u : Nat} {s : z_Ps} (h : c s = true) : pu_lp c f (u + 1) s = (f s).bind (pu_lp c f u) := if_pos h
theorem lp_0 {c : z_Ps → Bool} {f : z_Ps → z_Po} {u : Nat} {s : z_Ps} (h : ¬ c s = true) : pu_lp c f (u + 1) s = .ok s := if_neg h
theorem bd_no {e : Int32} {s : z_Ps} {k : z_Ps → z_Po} : z_Po.bind (.no e s) k = .no e s := rfl
theorem bd_ok {s : z_Ps} {k : z_Ps → z_Po} : z_Po.bind (.ok s) k = k s := rfl
theorem bd_0 {c : z_Ps → Bool} {f : z_Ps → z_Po} : ∀ o : z_Po, o.bind (pu_lp c f 0) = o := by
  intro o
  cases o <;> rfl
theorem Oq_01 {M0 M : z_M} {len : Nat} {fl v : Int32} {o : z_Po} (h : z_Oq M0 len fl v M o) : v = 0 ∨ v = 1 := h.elim (fun a => Or.inl a.1) (fun a => Or.inr a.1)
theorem lA_all {X : z_Cx} (M0 : z_M) (len : Nat) (fl : Int32) (o : z_Po) {R : Int32 → z_M → Prop} (hk : ∀ v M', z_Oq M0 len fl v M' o → z_Run X 6 mX5_readsAll R 54 [(0, zr 4 0), (1, zi v)] [] M') : ∀ (u n : Nat) (v : Int32) (p : z_Po) (M : z_M), n + u = 600 → z_Oq M0 len fl v M p → (∀ s, p = .ok s → z_Pi s) → o = p.bind (pu_lp (fun (s : z_Ps) => s.is (M0.1 5 0) 0) (pu_mileP (M0.1 5 0) len) u) → z_Run X 6 mX5_readsAll R 23 [(0, zr 4 0), (1, zi v), (2, zi (nI n))] [] M := by
  intro u
  induction u with
  | zero =>
    intro n v p M hn hO hI ho
    rw [bd_0] at ho
    refine z_go_run KSX5_readsAll [(23, [0, 1, 2]), (54, [0, 1])] 80 ?_
    refine ⟨fun _ => hk v M (Oq_eq ho hO), fun g => ?_⟩
    exact absurd (nI_le (a := 600) (by omega) (by omega)) g
  | succ u ih =>
    intro n v p M hn hO hI ho
    refine z_go_run KSX5_readsAll [(23, [0, 1, 2]), (54, [0, 1])] 80 ?_
    refine ⟨fun g => absurd g (nI_ge (b := 600) (by omega) (by omega)), fun _ => ?_⟩
    rcases hO with ⟨rfl, e, s, rfl, hq⟩ | ⟨rfl, s, rfl, hq⟩
    · refine ⟨fun _ => hk 0 M (Oc_no ho hq), fun w => absurd rfl w⟩
    · refine ⟨fun w => absurd w (by decide), fun _ => ?_⟩
      have hi := hI s rfl
      refine u_word hq 0 (by decide) (by decide) ?_
      refine ⟨fun g => ?_, fun g => ?_⟩
      · rw [bd_ok, lp_0 (by rw [b2_0 g]; decide)] at ho
        exact hk 1 M (Oc_ok ho hq)
      · have w0 := b2_1 g
        rw [bd_ok, lp_1 w0] at ho
        refine z_use (hX5_readsMile M0 M len fl s hq hi.1) (by decide) (fun v' M' q => ?_)
        have q2 := q.2
        rw [if_pos w0] at q2
        exact z_Run.eq (ih (n + 1) v' _ M' (by omega) q2 (fun s' e => (mile_ok hi e).1) ho) (by rw [← nI_1]) rfl
theorem lB_all {X : z_Cx} (M0 : z_M) (len : Nat) (fl : Int32) (o : z_Po) {R : Int32 → z_M → Prop} (hk : ∀ v M', z_Oq M0 len fl v M' o → z_Run X 6 mX5_readsAll R 138 [(0, zr 4 0), (1, zi v)] [] M') : ∀ (u n : Nat) (v : Int32) (p : z_Po) (M : z_M), n + u = 600 → z_Oq M0 len fl v M p → (∀ s, p = .ok s → z_Pi s ∧ 1 ≤ s.r) → o = p.bind (pu_lp (fun (s : z_Ps) => s.is (M0.1 5 0) 1 || s.is (M0.1 5 0) 2) (pu_flat (M0.1 5 0) len) u) → z_Run X 6 mX5_readsAll R 73 [(0, zr 4 0), (1, zi v), (2, zi (nI n))] [] M := by
  intro u
  induction u with
  | zero =>
    intro n v p M hn hO hI ho
    rw [bd_0] at ho
    refine z_go_run KSX5_readsAll [(73, [0, 1, 2]), (138, [0, 1])] 80 ?_
    refine ⟨fun _ => hk v M (Oq_eq ho hO), fun g => ?_⟩
    exact absurd (nI_le (a := 600) (by omega) (by omega)) g
  | succ u ih =>
    intro n v p M hn hO hI ho
    refine z_go_run KSX5_readsAll [(73, [0, 1, 2]), (138, [0, 1]), (102, [0, 1, 2])] 80 ?_
    refine ⟨fun g => absurd g (nI_ge (b := 600) (by omega) (by omega)), fun _ => ?_⟩
    rcases hO with ⟨rfl, e, s, rfl, hq⟩ | ⟨rfl, s, rfl, hq⟩
    · refine ⟨fun _ => hk 0 M (Oc_no ho hq), fun w => absurd rfl w⟩
    · refine ⟨fun w => absurd w (by decide), fun _ => ?_⟩
      have hi := hI s rfl
      have one : (s.is (M0.1 5 0) 1 || s.is (M0.1 5 0) 2) = true → z_Run X 6 mX5_readsAll R 102 [(0, zr 4 0), (1, zi 1), (2, zi (nI n))] [] M := by
        intro hw
        rw [bd_ok, lp_1 hw] at ho
        unfold pu_flat at ho
        refine z_go_run KSX5_readsAll [(73, [0, 1, 2])] 80 ?_
        refine u_word hq 2 (by decide) (by decide) ?_
        refine ⟨fun g => ?_, fun g => ?_⟩
        · rw [if_neg (by rw [b2_0 g]; decide)] at ho
          have w1 : s.is (M0.1 5 0) 1 = true := by
            rw [b2_0 g, Bool.or_false] at hw
            exact hw
          refine z_use (hX5_readsRunner M0 M len fl s hq hi.1.2.1) (by decide) (fun v' M' q => ?_)
          have q2 := q.2
          rw [if_pos w1] at q2
          refine z_Run.eq (ih (n + 1) v' _ M' (by omega) q2 (fun s' e => ?_) ho) (by rw [← nI_1]) rfl
          have k := run_ok hi.1 e
          exact ⟨k.1, by rw [k.2.2.1]; omega⟩
        · rw [if_pos (b2_1 g)] at ho
          obtain ⟨c, hc, ec⟩ := hi.1.2.2.2 (s.r - 1) (by have := hi.1.2.1; have := hi.2; omega)
          have hcon : z_Con X 5 mX5_readsRule [zr 4 0, zi (M.1 6 1 5 - 1)] M (fun v M' => (v = 0 ∨ v = 1) ∧ z_Oq M0 len fl v M' (pu_ruleP (M0.1 5 0) len s)) := by
            rw [hq.2.2.2.2.2.1.2.1, show nI s.r - 1 = nI (s.r - 1) from pk_sub (b := 1) hi.2]
            exact hX5_readsRule M0 M len fl s hq hi.2 hi.1.2.1 c hc ec
          refine z_use hcon (by decide) (fun v' M' q => ?_)
          refine z_Run.eq (ih (n + 1) v' _ M' (by omega) q.2 (fun s' e => ?_) ho) (by rw [← nI_1]) rfl
          have k := rule_ok hi.1 hi.2 e
          exact ⟨k.1, by rw [k.2.2.1]; exact hi.2⟩
      refine u_word hq 1 (by decide) (by decide) ?_
      refine ⟨fun g => one (by rw [b2_1 g]; rfl), fun g => ?_⟩
      refine u_word hq 2 (by decide) (by decide) ?_
      refine ⟨fun g2 => ?_, fun g2 => one (by rw [b2_1 g2, Bool.or_true])⟩
      rw [bd_ok, lp_0 (by rw [b2_0 g, b2_0 g2]; decide)] at ho
      exact hk 1 M (Oc_ok ho hq)
theorem lC_all {X : z_Cx} (M0 : z_M) (len : Nat) (fl : Int32) (o : z_Po) {R : Int32 → z_M → Prop} (hk : ∀ v M', z_Oq M0 len fl v M' o → z_Run X 6 mX5_readsAll R 171 [(0, zr 4 0), (1, zi v)] [] M') : ∀ (u n : Nat) (v : Int32) (p : z_Po) (M : z_M), n + u = 600 → z_Oq M0 len fl v M p → (∀ s, p = .ok s → z_Pi s) → o = p.bind (pu_lp (fun (s : z_Ps) => s.is (M0.1 5 0) 3) (pu_rabP (M0.1 5 0) len) u) → z_Run X 6 mX5_readsAll R 140 [(0, zr 4 0), (1, zi v), (2, zi (nI n))] [] M := by
  intro u
  induction u with
  | zero =>
    intro n v p M hn hO hI ho
    rw [bd_0] at ho
    refine z_go_run KSX5_readsAll [(140, [0, 1, 2]), (171, [0, 1])] 80 ?_
    refine ⟨fun _ => hk v M (Oq_eq ho hO), fun g => ?_⟩
    exact absurd (nI_le (a := 600) (by omega) (by omega)) g
  | succ u ih =>
    intro n v p M hn hO hI ho
    refine z_go_run KSX5_readsAll [(140, [0, 1, 2]), (171, [0, 1])] 80 ?_
    refine ⟨fun g => absurd g (nI_ge (b := 600) (by omega) (by omega)), fun _ => ?_⟩
    rcases hO with ⟨rfl, e, s, rfl, hq⟩ | ⟨rfl, s, rfl, hq⟩
    · refine ⟨fun _ => hk 0 M (Oc_no ho hq), fun w => absurd rfl w⟩
    · refine ⟨fun w => absurd w (by decide), fun _ => ?_⟩
      have hi := hI s rfl
      refine u_word hq 3 (by decide) (by decide) ?_
      refine ⟨fun g => ?_, fun g => ?_⟩
      · rw [bd_ok, lp_0 (by rw [b2_0 g]; decide)] at ho
        exact hk 1 M (Oc_ok ho hq)
      · rw [bd_ok, lp_1 (b2_1 g)] at ho
        refine z_use (hX5_readsRabbit M0 M len fl s hq hi.2.2.1) (by decide) (fun v' M' q => ?_)
        exact z_Run.eq (ih (n + 1) v' _ M' (by omega) q.2 (fun s' e => (rab_ok hi e).1) ho) (by rw [← nI_1]) rfl
