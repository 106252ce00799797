/-! ===== the law's loop ===== -/
theorem vp_sc {X : z_Cx} {i : Nat} (c : Nat) {x : Int32} (hc : x = nI c) (h : c < 6) (hi : i + 6 ≤ X.2.2.2.2.1) (hL : X.2.2.2.2.1 ≤ 384) : vp_in (nI i + x) (z_sN X 4) := by
  rw [hc, nI_add]
  show vp_in _ X.2.2.2.2.1
  exact vp_in_nI (by omega) (by omega)
theorem law_sheet {X : z_Cx} {R : Int32 → z_M → Prop} {i : Nat} {M : z_M} (hL : X.2.2.2.2.1 ≤ 384) (hi : i + 6 ≤ X.2.2.2.2.1) (hR : z_Rel M) (hk : ∀ M', z_Rel M' → z_Run X 9 mL_law R 1298 [(0, zr 65 4), (1, zr 0 0), (2, zr 46 0), (3, zi (nI i))] [] M') : z_Run X 9 mL_law R 168 [(0, zr 65 4), (1, zr 0 0), (2, zr 46 0), (3, zi (nI i))] [] M := by
  refine z_go_run KL_law [(1298, [0, 1, 2, 3])] 80 ?_
  refine ⟨vp_sc 1 rfl (by decide) hi hL, ⟨vp_sc 2 rfl (by decide) hi hL, ⟨vp_sc 3 rfl (by decide) hi hL, ?_⟩⟩⟩
  refine z_Ca.mono (op_sheet hR _ _ _) (fun v M1 h => ?_)
  refine ⟨vp_sc 1 rfl (by decide) hi hL, ⟨vp_sc 2 rfl (by decide) hi hL, ⟨vp_sc 3 rfl (by decide) hi hL, ?_⟩⟩⟩
  refine z_Ca.mono h (fun v' M2 g => ?_)
  exact ⟨fun _ => hk M2 g.2, fun w => absurd g.1 w⟩
theorem law_set {X : z_Cx} {R : Int32 → z_M → Prop} {i : Nat} {M : z_M} (hL : X.2.2.2.2.1 ≤ 384) (hi : i + 6 ≤ X.2.2.2.2.1) (hR : z_Rel M) (hk : ∀ M', z_Rel M' → z_Run X 9 mL_law R 1298 [(0, zr 65 4), (1, zr 0 0), (2, zr 46 0), (3, zi (nI i))] [] M') : z_Run X 9 mL_law R 211 [(0, zr 65 4), (1, zr 0 0), (2, zr 46 0), (3, zi (nI i))] [] M := by
  refine z_go_run KL_law [(1298, [0, 1, 2, 3])] 80 ?_
  refine ⟨vp_sc 1 rfl (by decide) hi hL, ⟨vp_sc 2 rfl (by decide) hi hL, ⟨vp_sc 3 rfl (by decide) hi hL, ?_⟩⟩⟩
  refine z_Ca.mono (op_set hR _ _ _) (fun v M1 h => ?_)
  refine ⟨vp_sc 1 rfl (by decide) hi hL, ⟨vp_sc 2 rfl (by decide) hi hL, ⟨vp_sc 3 rfl (by decide) hi hL, ?_⟩⟩⟩
  refine z_Ca.mono h (fun v' M2 g => ?_)
  exact ⟨fun _ => hk M2 g.2, fun w => absurd g.1 w⟩
theorem law_copy {X : z_Cx} {R : Int32 → z_M → Prop} {i : Nat} {M : z_M} (hL : X.2.2.2.2.1 ≤ 384) (hi : i + 6 ≤ X.2.2.2.2.1) (hR : z_Rel M) (hk : ∀ M', z_Rel M' → z_Run X 9 mL_law R 1298 [(0, zr 65 4), (1, zr 0 0), (2, zr 46 0), (3, zi (nI i))] [] M') : z_Run X 9 mL_law R 254 [(0, zr 65 4), (1, zr 0 0), (2, zr 46 0), (3, zi (nI i))] [] M := by
  refine z_go_run KL_law [(1298, [0, 1, 2, 3])] 80 ?_
  refine ⟨vp_sc 1 rfl (by decide) hi hL, ⟨vp_sc 2 rfl (by decide) hi hL, ⟨vp_sc 3 rfl (by decide) hi hL, ⟨vp_sc 4 rfl (by decide) hi hL, ⟨vp_sc 5 rfl (by decide) hi hL, ?_⟩⟩⟩⟩⟩
  refine z_Ca.mono (op_copy hR _ _ _ _ _) (fun v M1 h => ?_)
  refine ⟨vp_sc 1 rfl (by decide) hi hL, ⟨vp_sc 2 rfl (by decide) hi hL, ⟨vp_sc 3 rfl (by decide) hi hL, ⟨vp_sc 4 rfl (by decide) hi hL, ⟨vp_sc 5 rfl (by decide) hi hL, ?_⟩⟩⟩⟩⟩
  refine z_Ca.mono h (fun v' M2 g => ?_)
  exact ⟨fun _ => hk M2 g.2, fun w => absurd g.1 w⟩
theorem law_drop {X : z_Cx} {R : Int32 → z_M → Prop} {i : Nat} {M : z_M} (hL : X.2.2.2.2.1 ≤ 384) (hi : i + 6 ≤ X.2.2.2.2.1) (hR : z_Rel M) (hk : ∀ M', z_Rel M' → z_Run X 9 mL_law R 1298 [(0, zr 65 4), (1, zr 0 0), (2, zr 46 0), (3, zi (nI i))] [] M') : z_Run X 9 mL_law R 317 [(0, zr 65 4), (1, zr 0 0), (2, zr 46 0), (3, zi (nI i))] [] M := by
  refine z_go_run KL_law [(1298, [0, 1, 2, 3])] 80 ?_
  refine ⟨vp_sc 1 rfl (by decide) hi hL, ?_⟩
  refine z_Ca.mono (op_drop hR _) (fun v M1 h => ?_)
  refine ⟨vp_sc 1 rfl (by decide) hi hL, ?_⟩
  refine z_Ca.mono h (fun v' M2 g => ?_)
  exact ⟨fun _ => hk M2 g.2, fun w => absurd g.1 w⟩
theorem law_feed {X : z_Cx} {R : Int32 → z_M → Prop} {i : Nat} {M : z_M} (hL : X.2.2.2.2.1 ≤ 384) (hi : i + 6 ≤ X.2.2.2.2.1) (hR : z_Rel M) (hk : ∀ M', z_Rel M' → z_Run X 9 mL_law R 1298 [(0, zr 65 4), (1, zr 0 0), (2, zr 46 0), (3, zi (nI i))] [] M') : z_Run X 9 mL_law R 340 [(0, zr 65 4), (1, zr 0 0), (2, zr 46 0), (3, zi (nI i))] [] M := by
  refine z_go_run KL_law [(1298, [0, 1, 2, 3])] 80 ?_
  refine ⟨vp_sc 1 rfl (by decide) hi hL, ⟨vp_sc 2 rfl (by decide) hi hL, ⟨vp_sc 3 rfl (by decide) hi hL, ?_⟩⟩⟩
  refine z_Ca.mono (op_feed hR _ _) (fun v M1 h => ?_)
  refine ⟨vp_sc 1 rfl (by decide) hi hL, ⟨vp_sc 2 rfl (by decide) hi hL, ⟨vp_sc 3 rfl (by decide) hi hL, ?_⟩⟩⟩
  refine z_Ca.mono h (fun v' M2 g => ?_)
  exact ⟨fun _ => hk M2 g.2, fun w => absurd g.1 w⟩
theorem law_course {X : z_Cx} {R : Int32 → z_M → Prop} {i : Nat} {M : z_M} (hL : X.2.2.2.2.1 ≤ 384) (hi : i + 6 ≤ X.2.2.2.2.1) (hR : z_Rel M) (hk : ∀ M', z_Rel M' → z_Run X 9 mL_law R 1298 [(0, zr 65 4), (1, zr 0 0), (2, zr 46 0), (3, zi (nI i))] [] M') : z_Run X 9 mL_law R 403 [(0, zr 65 4), (1, zr 0 0), (2, zr 46 0), (3, zi (nI i))] [] M := by
  refine z_go_run KL_law [(1298, [0, 1, 2, 3])] 80 ?_
  refine z_Ca.mono (op_course hR) (fun v M1 h => ?_)
  refine z_Ca.mono h (fun v' M2 g => ?_)
  exact ⟨fun _ => hk M2 g.2, fun w => absurd g.1 w⟩
theorem law_fault {X : z_Cx} {R : Int32 → z_M → Prop} {i : Nat} {M : z_M} (hL : X.2.2.2.2.1 ≤ 384) (hi : i + 6 ≤ X.2.2.2.2.1) (hR : z_Rel M) (hk : ∀ M', z_Rel M' → z_Run X 9 mL_law R 1298 [(0, zr 65 4), (1, zr 0 0), (2, zr 46 0), (3, zi (nI i))] [] M') : z_Run X 9 mL_law R 416 [(0, zr 65 4), (1, zr 0 0), (2, zr 46 0), (3, zi (nI i))] [] M := by
  refine z_go_run KL_law [(1298, [0, 1, 2, 3])] 80 ?_
  refine z_Ca.mono (op_fault hR) (fun v M1 h => ?_)
  refine z_Ca.mono h (fun v' M2 g => ?_)
  exact ⟨fun _ => hk M2 g.2, fun w => absurd g.1 w⟩
theorem law_need {X : z_Cx} {R : Int32 → z_M → Prop} {i : Nat} {M : z_M} (hL : X.2.2.2.2.1 ≤ 384) (hi : i + 6 ≤ X.2.2.2.2.1) (hR : z_Rel M) (hk : ∀ M', z_Rel M' → z_Run X 9 mL_law R 1298 [(0, zr 65 4), (1, zr 0 0), (2, zr 46 0), (3, zi (nI i))] [] M') : z_Run X 9 mL_law R 429 [(0, zr 65 4), (1, zr 0 0), (2, zr 46 0), (3, zi (nI i))] [] M := by
  refine z_go_run KL_law [(1298, [0, 1, 2, 3])] 80 ?_
  refine ⟨vp_sc 1 rfl (by decide) hi hL, ⟨vp_sc 2 rfl (by decide) hi hL, ⟨vp_sc 3 rfl (by decide) hi hL, ?_⟩⟩⟩
  refine z_Ca.mono (op_need hR _ _ _) (fun v M1 h => ?_)
  refine ⟨vp_sc 1 rfl (by decide) hi hL, ⟨vp_sc 2 rfl (by decide) hi hL, ⟨vp_sc 3 rfl (by decide) hi hL, ?_⟩⟩⟩
  refine z_Ca.mono h (fun v' M2 g => ?_)
  exact ⟨fun _ => hk M2 g.2, fun w => absurd g.1 w⟩
theorem law_race {X : z_Cx} {R : Int32 → z_M → Prop} {i : Nat} {M : z_M} (hL : X.2.2.2.2.1 ≤ 384) (hi : i + 6 ≤ X.2.2.2.2.1) (hR : z_Rel M) (hk : ∀ M', z_Rel M' → z_Run X 9 mL_law R 1298 [(0, zr 65 4), (1, zr 0 0), (2, zr 46 0), (3, zi (nI i))] [] M') : z_Run X 9 mL_law R 472 [(0, zr 65 4), (1, zr 0 0), (2, zr 46 0), (3, zi (nI i))] [] M := by
  refine z_go_run KL_law [(1298, [0, 1, 2, 3])] 80 ?_
  refine ⟨vp_sc 1 rfl (by decide) hi hL, ⟨vp_sc 2 rfl (by decide) hi hL, ⟨vp_sc 3 rfl (by decide) hi hL, ?_⟩⟩⟩
  refine z_Ca.mono (op_race hR _ _ _) (fun v M1 h => ?_)
  refine ⟨vp_sc 1 rfl (by decide) hi hL, ⟨vp_sc 2 rfl (by decide) hi hL, ⟨vp_sc 3 rfl (by decide) hi hL, ?_⟩⟩⟩
  refine z_Ca.mono h (fun v' M2 g => ?_)
  exact ⟨fun _ => hk M2 g.2, fun w => absurd g.1 w⟩
theorem law_ran {X : z_Cx} {R : Int32 → z_M → Prop} {i : Nat} {M : z_M} (hL : X.2.2.2.2.1 ≤ 384) (hi : i + 6 ≤ X.2.2.2.2.1) (hR : z_Rel M) (hk : ∀ M', z_Rel M' → z_Run X 9 mL_law R 1298 [(0, zr 65 4), (1, zr 0 0), (2, zr 46 0), (3, zi (nI i))] [] M') : z_Run X 9 mL_law R 515 [(0, zr 65 4), (1, zr 0 0), (2, zr 46 0), (3, zi (nI i))] [] M := by
  refine z_go_run KL_law [(1298, [0, 1, 2, 3])] 80 ?_
  refine ⟨vp_sc 1 rfl (by decide) hi hL, ⟨vp_sc 2 rfl (by decide) hi hL, ⟨vp_sc 3 rfl (by decide) hi hL, ?_⟩⟩⟩
  refine z_Ca.mono (op_ran hR _ _ _) (fun v M1 h => ?_)
  refine ⟨vp_sc 1 rfl (by decide) hi hL, ⟨vp_sc 2 rfl (by decide) hi hL, ⟨vp_sc 3 rfl (by decide) hi hL, ?_⟩⟩⟩
  refine z_Ca.mono h (fun v' M2 g => ?_)
  exact ⟨fun _ => hk M2 g.2, fun w => absurd g.1 w⟩
theorem law_place {X : z_Cx} {R : Int32 → z_M → Prop} {i : Nat} {M : z_M} (hL : X.2.2.2.2.1 ≤ 384) (hi : i + 6 ≤ X.2.2.2.2.1) (hR : z_Rel M) (hk : ∀ M', z_Rel M' → z_Run X 9 mL_law R 1298 [(0, zr 65 4), (1, zr 0 0), (2, zr 46 0), (3, zi (nI i))] [] M') : z_Run X 9 mL_law R 558 [(0, zr 65 4), (1, zr 0 0), (2, zr 46 0), (3, zi (nI i))] [] M := by
  refine z_go_run KL_law [(1298, [0, 1, 2, 3])] 80 ?_
  refine ⟨vp_sc 1 rfl (by decide) hi hL, ?_⟩
  refine z_Ca.mono (op_place hR _) (fun v M1 h => ?_)
  refine ⟨vp_sc 1 rfl (by decide) hi hL, ?_⟩
  refine z_Ca.mono h (fun v' M2 g => ?_)
  exact ⟨fun _ => hk M2 g.2, fun w => absurd g.1 w⟩
theorem law_best {X : z_Cx} {R : Int32 → z_M → Prop} {i : Nat} {M : z_M} (hL : X.2.2.2.2.1 ≤ 384) (hi : i + 6 ≤ X.2.2.2.2.1) (hR : z_Rel M) (hk : ∀ M', z_Rel M' → z_Run X 9 mL_law R 1298 [(0, zr 65 4), (1, zr 0 0), (2, zr 46 0), (3, zi (nI i))] [] M') : z_Run X 9 mL_law R 581 [(0, zr 65 4), (1, zr 0 0), (2, zr 46 0), (3, zi (nI i))] [] M := by
  refine z_go_run KL_law [(1298, [0, 1, 2, 3])] 80 ?_
  refine ⟨vp_sc 1 rfl (by decide) hi hL, ⟨vp_sc 2 rfl (by decide) hi hL, ⟨vp_sc 3 rfl (by decide) hi hL, ?_⟩⟩⟩
  refine z_Ca.mono (op_best hR _ _ _) (fun v M1 h => ?_)
  refine ⟨vp_sc 1 rfl (by decide) hi hL, ⟨vp_sc 2 rfl (by decide) hi hL, ⟨vp_sc 3 rfl (by decide) hi hL, ?_⟩⟩⟩
  refine z_Ca.mono h (fun v' M2 g => ?_)
  exact ⟨fun _ => hk M2 g.2, fun w => absurd g.1 w⟩
theorem law_even {X : z_Cx} {R : Int32 → z_M → Prop} {i : Nat} {M : z_M} (hL : X.2.2.2.2.1 ≤ 384) (hi : i + 6 ≤ X.2.2.2.2.1) (hR : z_Rel M) (hk : ∀ M', z_Rel M' → z_Run X 9 mL_law R 1298 [(0, zr 65 4), (1, zr 0 0), (2, zr 46 0), (3, zi (nI i))] [] M') : z_Run X 9 mL_law R 624 [(0, zr 65 4), (1, zr 0 0), (2, zr 46 0), (3, zi (nI i))] [] M := by
  refine z_go_run KL_law [(1298, [0, 1, 2, 3])] 80 ?_
  refine ⟨vp_sc 1 rfl (by decide) hi hL, ⟨vp_sc 2 rfl (by decide) hi hL, ⟨vp_sc 3 rfl (by decide) hi hL, ?_⟩⟩⟩
  refine z_Ca.mono (op_even hR _ _ _) (fun v M1 h => ?_)
  refine ⟨vp_sc 1 rfl (by decide) hi hL, ⟨vp_sc 2 rfl (by decide) hi hL, ⟨vp_sc 3 rfl (by decide) hi hL, ?_⟩⟩⟩
  refine z_Ca.mono h (fun v' M2 g => ?_)
  exact ⟨fun _ => hk M2 g.2, fun w => absurd g.1 w⟩
theorem law_early {X : z_Cx} {R : Int32 → z_M → Prop} {i : Nat} {M : z_M} (hL : X.2.2.2.2.1 ≤ 384) (hi : i + 6 ≤ X.2.2.2.2.1) (hR : z_Rel M) (hk : ∀ M', z_Rel M' → z_Run X 9 mL_law R 1298 [(0, zr 65 4), (1, zr 0 0), (2, zr 46 0), (3, zi (nI i))] [] M') : z_Run X 9 mL_law R 667 [(0, zr 65 4), (1, zr 0 0), (2, zr 46 0), (3, zi (nI i))] [] M := by
  refine z_go_run KL_law [(1298, [0, 1, 2, 3])] 80 ?_
  refine ⟨vp_sc 1 rfl (by decide) hi hL, ⟨vp_sc 2 rfl (by decide) hi hL, ?_⟩⟩
  refine z_Ca.mono (op_early hR _ _) (fun v M1 h => ?_)
  refine ⟨vp_sc 1 rfl (by decide) hi hL, ⟨vp_sc 2 rfl (by decide) hi hL, ?_⟩⟩
  refine z_Ca.mono h (fun v' M2 g => ?_)
  exact ⟨fun _ => hk M2 g.2, fun w => absurd g.1 w⟩
theorem law_hired {X : z_Cx} {R : Int32 → z_M → Prop} {i : Nat} {M : z_M} (hL : X.2.2.2.2.1 ≤ 384) (hi : i + 6 ≤ X.2.2.2.2.1) (hR : z_Rel M) (hk : ∀ M', z_Rel M' → z_Run X 9 mL_law R 1298 [(0, zr 65 4), (1, zr 0 0), (2, zr 46 0), (3, zi (nI i))] [] M') : z_Run X 9 mL_law R 700 [(0, zr 65 4), (1, zr 0 0), (2, zr 46 0), (3, zi (nI i))] [] M := by
  refine z_go_run KL_law [(1298, [0, 1, 2, 3])] 80 ?_
  refine ⟨vp_sc 1 rfl (by decide) hi hL, ⟨vp_sc 2 rfl (by decide) hi hL, ⟨vp_sc 3 rfl (by decide) hi hL, ?_⟩⟩⟩
  refine z_Ca.mono (op_hired hR _ _ _) (fun v M1 h => ?_)
  refine ⟨vp_sc 1 rfl (by decide) hi hL, ⟨vp_sc 2 rfl (by decide) hi hL, ⟨vp_sc 3 rfl (by decide) hi hL, ?_⟩⟩⟩
  refine z_Ca.mono h (fun v' M2 g => ?_)
  exact ⟨fun _ => hk M2 g.2, fun w => absurd g.1 w⟩
theorem law_stays {X : z_Cx} {R : Int32 → z_M → Prop} {i : Nat} {M : z_M} (hL : X.2.2.2.2.1 ≤ 384) (hi : i + 6 ≤ X.2.2.2.2.1) (hR : z_Rel M) (hk : ∀ M', z_Rel M' → z_Run X 9 mL_law R 1298 [(0, zr 65 4), (1, zr 0 0), (2, zr 46 0), (3, zi (nI i))] [] M') : z_Run X 9 mL_law R 743 [(0, zr 65 4), (1, zr 0 0), (2, zr 46 0), (3, zi (nI i))] [] M := by
  refine z_go_run KL_law [(1298, [0, 1, 2, 3])] 80 ?_
  refine ⟨vp_sc 1 rfl (by decide) hi hL, ⟨vp_sc 2 rfl (by decide) hi hL, ?_⟩⟩
  refine z_Ca.mono (op_stays hR _ _) (fun v M1 h => ?_)
  refine ⟨vp_sc 1 rfl (by decide) hi hL, ⟨vp_sc 2 rfl (by decide) hi hL, ?_⟩⟩
  refine z_Ca.mono h (fun v' M2 g => ?_)
  exact ⟨fun _ => hk M2 g.2, fun w => absurd g.1 w⟩
theorem law_rests {X : z_Cx} {R : Int32 → z_M → Prop} {i : Nat} {M : z_M} (hL : X.2.2.2.2.1 ≤ 384) (hi : i + 6 ≤ X.2.2.2.2.1) (hR : z_Rel M) (hk : ∀ M', z_Rel M' → z_Run X 9 mL_law R 1298 [(0, zr 65 4), (1, zr 0 0), (2, zr 46 0), (3, zi (nI i))] [] M') : z_Run X 9 mL_law R 776 [(0, zr 65 4), (1, zr 0 0), (2, zr 46 0), (3, zi (nI i))] [] M := by
  refine z_go_run KL_law [(1298, [0, 1, 2, 3])] 80 ?_
  refine ⟨vp_sc 1 rfl (by decide) hi hL, ⟨vp_sc 2 rfl (by decide) hi hL, ⟨vp_sc 3 rfl (by decide) hi hL, ?_⟩⟩⟩
  refine z_Ca.mono (op_rests hR _ _ _) (fun v M1 h => ?_)
  refine ⟨vp_sc 1 rfl (by decide) hi hL, ⟨vp_sc 2 rfl (by decide) hi hL, ⟨vp_sc 3 rfl (by decide) hi hL, ?_⟩⟩⟩
  refine z_Ca.mono h (fun v' M2 g => ?_)
  exact ⟨fun _ => hk M2 g.2, fun w => absurd g.1 w⟩
theorem law_wins {X : z_Cx} {R : Int32 → z_M → Prop} {i : Nat} {M : z_M} (hL : X.2.2.2.2.1 ≤ 384) (hi : i + 6 ≤ X.2.2.2.2.1) (hR : z_Rel M) (hk : ∀ M', z_Rel M' → z_Run X 9 mL_law R 1298 [(0, zr 65 4), (1, zr 0 0), (2, zr 46 0), (3, zi (nI i))] [] M') : z_Run X 9 mL_law R 819 [(0, zr 65 4), (1, zr 0 0), (2, zr 46 0), (3, zi (nI i))] [] M := by
  refine z_go_run KL_law [(1298, [0, 1, 2, 3])] 80 ?_
  refine ⟨vp_sc 1 rfl (by decide) hi hL, ⟨vp_sc 2 rfl (by decide) hi hL, ⟨vp_sc 3 rfl (by decide) hi hL, ⟨vp_sc 4 rfl (by decide) hi hL, ?_⟩⟩⟩⟩
  refine z_Ca.mono (op_wins hR _ _ _ _) (fun v M1 h => ?_)
  refine ⟨vp_sc 1 rfl (by decide) hi hL, ⟨vp_sc 2 rfl (by decide) hi hL, ⟨vp_sc 3 rfl (by decide) hi hL, ⟨vp_sc 4 rfl (by decide) hi hL, ?_⟩⟩⟩⟩
  refine z_Ca.mono h (fun v' M2 g => ?_)
  exact ⟨fun _ => hk M2 g.2, fun w => absurd g.1 w⟩
theorem law_line {X : z_Cx} {R : Int32 → z_M → Prop} {i : Nat} {M : z_M} (hL : X.2.2.2.2.1 ≤ 384) (hi : i + 6 ≤ X.2.2.2.2.1) (hR : z_Rel M) (hk : ∀ M', z_Rel M' → z_Run X 9 mL_law R 1298 [(0, zr 65 4), (1, zr 0 0), (2, zr 46 0), (3, zi (nI i))] [] M') : z_Run X 9 mL_law R 872 [(0, zr 65 4), (1, zr 0 0), (2, zr 46 0), (3, zi (nI i))] [] M := by
  refine z_go_run KL_law [(1298, [0, 1, 2, 3])] 80 ?_
  refine ⟨vp_sc 1 rfl (by decide) hi hL, ⟨vp_sc 2 rfl (by decide) hi hL, ⟨vp_sc 3 rfl (by decide) hi hL, ?_⟩⟩⟩
  refine z_Ca.mono (op_line hR _ _ _) (fun v M1 h => ?_)
  refine ⟨vp_sc 1 rfl (by decide) hi hL, ⟨vp_sc 2 rfl (by decide) hi hL, ⟨vp_sc 3 rfl (by decide) hi hL, ?_⟩⟩⟩
  refine z_Ca.mono h (fun v' M2 g => ?_)
  exact ⟨fun _ => hk M2 g.2, fun w => absurd g.1 w⟩
theorem law_parts {X : z_Cx} {R : Int32 → z_M → Prop} {i : Nat} {M : z_M} (hL : X.2.2.2.2.1 ≤ 384) (hi : i + 6 ≤ X.2.2.2.2.1) (hR : z_Rel M) (hk : ∀ M', z_Rel M' → z_Run X 9 mL_law R 1298 [(0, zr 65 4), (1, zr 0 0), (2, zr 46 0), (3, zi (nI i))] [] M') : z_Run X 9 mL_law R 915 [(0, zr 65 4), (1, zr 0 0), (2, zr 46 0), (3, zi (nI i))] [] M := by
  refine z_go_run KL_law [(1298, [0, 1, 2, 3])] 80 ?_
  refine ⟨vp_sc 1 rfl (by decide) hi hL, ⟨vp_sc 2 rfl (by decide) hi hL, ⟨vp_sc 3 rfl (by decide) hi hL, ⟨vp_sc 4 rfl (by decide) hi hL, ?_⟩⟩⟩⟩
  refine z_Ca.mono (op_parts hR _ _ _ _) (fun v M1 h => ?_)
  refine ⟨vp_sc 1 rfl (by decide) hi hL, ⟨vp_sc 2 rfl (by decide) hi hL, ⟨vp_sc 3 rfl (by decide) hi hL, ⟨vp_sc 4 rfl (by decide) hi hL, ?_⟩⟩⟩⟩
  refine z_Ca.mono h (fun v' M2 g => ?_)
  exact ⟨fun _ => hk M2 g.2, fun w => absurd g.1 w⟩
theorem law_hour {X : z_Cx} {R : Int32 → z_M → Prop} {i : Nat} {M : z_M} (hL : X.2.2.2.2.1 ≤ 384) (hi : i + 6 ≤ X.2.2.2.2.1) (hR : z_Rel M) (hk : ∀ M', z_Rel M' → z_Run X 9 mL_law R 1298 [(0, zr 65 4), (1, zr 0 0), (2, zr 46 0), (3, zi (nI i))] [] M') : z_Run X 9 mL_law R 968 [(0, zr 65 4), (1, zr 0 0), (2, zr 46 0), (3, zi (nI i))] [] M := by
  refine z_go_run KL_law [(1298, [0, 1, 2, 3])] 80 ?_
  refine ⟨vp_sc 1 rfl (by decide) hi hL, ⟨vp_sc 2 rfl (by decide) hi hL, ⟨vp_sc 3 rfl (by decide) hi hL, ⟨vp_sc 4 rfl (by decide) hi hL, ⟨vp_sc 5 rfl (by decide) hi hL, ?_⟩⟩⟩⟩⟩
  refine z_Ca.mono (op_hour hR _ _ _ _ _) (fun v M1 h => ?_)
  refine ⟨vp_sc 1 rfl (by decide) hi hL, ⟨vp_sc 2 rfl (by decide) hi hL, ⟨vp_sc 3 rfl (by decide) hi hL, ⟨vp_sc 4 rfl (by decide) hi hL, ⟨vp_sc 5 rfl (by decide) hi hL, ?_⟩⟩⟩⟩⟩
  refine z_Ca.mono h (fun v' M2 g => ?_)
  exact ⟨fun _ => hk M2 g.2, fun w => absurd g.1 w⟩
theorem law_feeling {X : z_Cx} {R : Int32 → z_M → Prop} {i : Nat} {M : z_M} (hL : X.2.2.2.2.1 ≤ 384) (hi : i + 6 ≤ X.2.2.2.2.1) (hR : z_Rel M) (hk : ∀ M', z_Rel M' → z_Run X 9 mL_law R 1298 [(0, zr 65 4), (1, zr 0 0), (2, zr 46 0), (3, zi (nI i))] [] M') : z_Run X 9 mL_law R 1031 [(0, zr 65 4), (1, zr 0 0), (2, zr 46 0), (3, zi (nI i))] [] M := by
  refine z_go_run KL_law [(1298, [0, 1, 2, 3])] 80 ?_
  refine ⟨vp_sc 1 rfl (by decide) hi hL, ⟨vp_sc 2 rfl (by decide) hi hL, ⟨vp_sc 3 rfl (by decide) hi hL, ?_⟩⟩⟩
  refine z_Ca.mono (op_feeling hR _ _ _) (fun v M1 h => ?_)
  refine ⟨vp_sc 1 rfl (by decide) hi hL, ⟨vp_sc 2 rfl (by decide) hi hL, ⟨vp_sc 3 rfl (by decide) hi hL, ?_⟩⟩⟩
  refine z_Ca.mono h (fun v' M2 g => ?_)
  exact ⟨fun _ => hk M2 g.2, fun w => absurd g.1 w⟩
theorem law_image {X : z_Cx} {R : Int32 → z_M → Prop} {i : Nat} {M : z_M} (hL : X.2.2.2.2.1 ≤ 384) (hi : i + 6 ≤ X.2.2.2.2.1) (hR : z_Rel M) (hk : ∀ M', z_Rel M' → z_Run X 9 mL_law R 1298 [(0, zr 65 4), (1, zr 0 0), (2, zr 46 0), (3, zi (nI i))] [] M') : z_Run X 9 mL_law R 1074 [(0, zr 65 4), (1, zr 0 0), (2, zr 46 0), (3, zi (nI i))] [] M := by
  refine z_go_run KL_law [(1298, [0, 1, 2, 3])] 80 ?_
  refine ⟨vp_sc 1 rfl (by decide) hi hL, ?_⟩
  refine z_Ca.mono (op_image hR _) (fun v M1 h => ?_)
  refine ⟨vp_sc 1 rfl (by decide) hi hL, ?_⟩
  refine z_Ca.mono h (fun v' M2 g => ?_)
  exact ⟨fun _ => hk M2 g.2, fun w => absurd g.1 w⟩
theorem law_restore {X : z_Cx} {R : Int32 → z_M → Prop} {i : Nat} {M : z_M} (hL : X.2.2.2.2.1 ≤ 384) (hi : i + 6 ≤ X.2.2.2.2.1) (hR : z_Rel M) (hk : ∀ M', z_Rel M' → z_Run X 9 mL_law R 1298 [(0, zr 65 4), (1, zr 0 0), (2, zr 46 0), (3, zi (nI i))] [] M') : z_Run X 9 mL_law R 1097 [(0, zr 65 4), (1, zr 0 0), (2, zr 46 0), (3, zi (nI i))] [] M := by
  refine z_go_run KL_law [(1298, [0, 1, 2, 3])] 80 ?_
  refine ⟨vp_sc 1 rfl (by decide) hi hL, ?_⟩
  refine z_Ca.mono (op_restore hR _) (fun v M1 h => ?_)
  refine ⟨vp_sc 1 rfl (by decide) hi hL, ?_⟩
  refine z_Ca.mono h (fun v' M2 g => ?_)
  exact ⟨fun _ => hk M2 g.2, fun w => absurd g.1 w⟩
theorem law_kind {X : z_Cx} {R : Int32 → z_M → Prop} {i : Nat} {M : z_M} (hL : X.2.2.2.2.1 ≤ 384) (hi : i + 6 ≤ X.2.2.2.2.1) (hR : z_Rel M) (hk : ∀ M', z_Rel M' → z_Run X 9 mL_law R 1298 [(0, zr 65 4), (1, zr 0 0), (2, zr 46 0), (3, zi (nI i))] [] M') : z_Run X 9 mL_law R 1120 [(0, zr 65 4), (1, zr 0 0), (2, zr 46 0), (3, zi (nI i))] [] M := by
  refine z_go_run KL_law [(1298, [0, 1, 2, 3])] 80 ?_
  refine ⟨vp_sc 1 rfl (by decide) hi hL, ⟨vp_sc 2 rfl (by decide) hi hL, ?_⟩⟩
  refine z_Ca.mono (op_kind hR _ _) (fun v M1 h => ?_)
  refine ⟨vp_sc 1 rfl (by decide) hi hL, ⟨vp_sc 2 rfl (by decide) hi hL, ?_⟩⟩
  refine z_Ca.mono h (fun v' M2 g => ?_)
  exact ⟨fun _ => hk M2 g.2, fun w => absurd g.1 w⟩
theorem law_as {X : z_Cx} {R : Int32 → z_M → Prop} {i : Nat} {M : z_M} (hL : X.2.2.2.2.1 ≤ 384) (hi : i + 6 ≤ X.2.2.2.2.1) (hR : z_Rel M) (hk : ∀ M', z_Rel M' → z_Run X 9 mL_law R 1298 [(0, zr 65 4), (1, zr 0 0), (2, zr 46 0), (3, zi (nI i))] [] M') : z_Run X 9 mL_law R 1153 [(0, zr 65 4), (1, zr 0 0), (2, zr 46 0), (3, zi (nI i))] [] M := by
  refine z_go_run KL_law [(1298, [0, 1, 2, 3])] 80 ?_
  refine ⟨vp_sc 1 rfl (by decide) hi hL, ⟨vp_sc 2 rfl (by decide) hi hL, ⟨vp_sc 3 rfl (by decide) hi hL, ?_⟩⟩⟩
  refine z_Ca.mono (op_as hR _ _ _) (fun v M1 h => ?_)
  refine ⟨vp_sc 1 rfl (by decide) hi hL, ⟨vp_sc 2 rfl (by decide) hi hL, ⟨vp_sc 3 rfl (by decide) hi hL, ?_⟩⟩⟩
  refine z_Ca.mono h (fun v' M2 g => ?_)
  exact ⟨fun _ => hk M2 g.2, fun w => absurd g.1 w⟩
theorem law_ask {X : z_Cx} {R : Int32 → z_M → Prop} {i : Nat} {M : z_M} (hL : X.2.2.2.2.1 ≤ 384) (hi : i + 6 ≤ X.2.2.2.2.1) (hR : z_Rel M) (hk : ∀ M', z_Rel M' → z_Run X 9 mL_law R 1298 [(0, zr 65 4), (1, zr 0 0), (2, zr 46 0), (3, zi (nI i))] [] M') : z_Run X 9 mL_law R 1196 [(0, zr 65 4), (1, zr 0 0), (2, zr 46 0), (3, zi (nI i))] [] M := by
  refine z_go_run KL_law [(1298, [0, 1, 2, 3])] 80 ?_
  refine ⟨vp_sc 1 rfl (by decide) hi hL, ⟨vp_sc 2 rfl (by decide) hi hL, ⟨vp_sc 3 rfl (by decide) hi hL, ?_⟩⟩⟩
  refine z_Ca.mono (op_ask hR _ _ _) (fun v M1 h => ?_)
  refine ⟨vp_sc 1 rfl (by decide) hi hL, ⟨vp_sc 2 rfl (by decide) hi hL, ⟨vp_sc 3 rfl (by decide) hi hL, ?_⟩⟩⟩
  refine z_Ca.mono h (fun v' M2 g => ?_)
  exact ⟨fun _ => hk M2 g.2, fun w => absurd g.1 w⟩
theorem law_trace {X : z_Cx} {R : Int32 → z_M → Prop} {i : Nat} {M : z_M} (hL : X.2.2.2.2.1 ≤ 384) (hi : i + 6 ≤ X.2.2.2.2.1) (hR : z_Rel M) (hk : ∀ M', z_Rel M' → z_Run X 9 mL_law R 1298 [(0, zr 65 4), (1, zr 0 0), (2, zr 46 0), (3, zi (nI i))] [] M') : z_Run X 9 mL_law R 1239 [(0, zr 65 4), (1, zr 0 0), (2, zr 46 0), (3, zi (nI i))] [] M := by
  refine z_go_run KL_law [(1298, [0, 1, 2, 3])] 80 ?_
  refine ⟨vp_sc 1 rfl (by decide) hi hL, ?_⟩
  refine z_Ca.mono (op_trace hR _) (fun v M1 h => ?_)
  refine ⟨vp_sc 1 rfl (by decide) hi hL, ?_⟩
  refine z_Ca.mono h (fun v' M2 g => ?_)
  exact ⟨fun _ => hk M2 g.2, fun w => absurd g.1 w⟩
theorem law_count {X : z_Cx} {R : Int32 → z_M → Prop} {i : Nat} {M : z_M} (hL : X.2.2.2.2.1 ≤ 384) (hi : i + 6 ≤ X.2.2.2.2.1) (hR : z_Rel M) (hk : ∀ M', z_Rel M' → z_Run X 9 mL_law R 1298 [(0, zr 65 4), (1, zr 0 0), (2, zr 46 0), (3, zi (nI i))] [] M') : z_Run X 9 mL_law R 1262 [(0, zr 65 4), (1, zr 0 0), (2, zr 46 0), (3, zi (nI i))] [] M := by
  refine z_go_run KL_law [(1298, [0, 1, 2, 3])] 80 ?_
  refine ⟨vp_sc 1 rfl (by decide) hi hL, ?_⟩
  refine z_Ca.mono (op_count hR _) (fun v M1 h => ?_)
  refine ⟨vp_sc 1 rfl (by decide) hi hL, ?_⟩
  refine z_Ca.mono h (fun v' M2 g => ?_)
  exact ⟨fun _ => hk M2 g.2, fun w => absurd g.1 w⟩
theorem law_status {X : z_Cx} {R : Int32 → z_M → Prop} {i : Nat} {M : z_M} (hL : X.2.2.2.2.1 ≤ 384) (hi : i + 6 ≤ X.2.2.2.2.1) (hR : z_Rel M) (hk : ∀ M', z_Rel M' → z_Run X 9 mL_law R 1298 [(0, zr 65 4), (1, zr 0 0), (2, zr 46 0), (3, zi (nI i))] [] M') : z_Run X 9 mL_law R 1285 [(0, zr 65 4), (1, zr 0 0), (2, zr 46 0), (3, zi (nI i))] [] M := by
  refine z_go_run KL_law [(1298, [0, 1, 2, 3])] 80 ?_
  refine z_Ca.mono (op_status hR) (fun v M1 h => ?_)
  refine z_Ca.mono h (fun v' M2 g => ?_)
  exact ⟨fun _ => hk M2 g.2, fun w => absurd g.1 w⟩
theorem law_loop {X : z_Cx} (hL : X.2.2.2.2.1 ≤ 384) : ∀ (u t : Nat) (M : z_M), t + u = 65 → z_Rel M → z_Run X 9 mL_law (fun v _ => v = 1) 18 [(0, zr 65 4), (1, zr 0 0), (2, zr 46 0), (3, zi (nI (6 * t)))] [] M := by
  intro u
  induction u with
  | zero =>
    intro t M ht hR
    refine z_go_run KL_law [(18, [0, 1, 2, 3])] 40 ?_
    refine ⟨fun _ => ?_, fun g => ?_⟩
    · exact ⟨Or.inr rfl, rfl⟩
    · exfalso
      apply g
      show nI X.2.2.2.2.1 - nI 6 < nI (6 * t)
      rw [Int32.lt_iff_toInt_lt, pk_sub_toInt (b := 6) (by omega) (by omega), nI_toInt (by omega)]
      omega
  | succ u ih =>
    intro t M ht hR
    have hend : ∀ M', z_Rel M' → z_Run X 9 mL_law (fun v _ => v = 1) 1298 [(0, zr 65 4), (1, zr 0 0), (2, zr 46 0), (3, zi (nI (6 * t)))] [] M' := by
      intro M' hR'
      refine z_go_run KL_law [(18, [0, 1, 2, 3])] 40 ?_
      refine z_Run.eq (ih (t + 1) M' (by omega) hR') ?_ rfl
      rw [show nI (6 * (t + 1)) = nI (6 * t) + 6 from (nI_add (6 * t) 6).symm]
    refine z_go_run KL_law [(18, [0, 1, 2, 3]), (168, [0, 1, 2, 3]), (211, [0, 1, 2, 3]), (254, [0, 1, 2, 3]), (317, [0, 1, 2, 3]), (340, [0, 1, 2, 3]), (403, [0, 1, 2, 3]), (416, [0, 1, 2, 3]), (429, [0, 1, 2, 3]), (472, [0, 1, 2, 3]), (515, [0, 1, 2, 3]), (558, [0, 1, 2, 3]), (581, [0, 1, 2, 3]), (624, [0, 1, 2, 3]), (667, [0, 1, 2, 3]), (700, [0, 1, 2, 3]), (743, [0, 1, 2, 3]), (776, [0, 1, 2, 3]), (819, [0, 1, 2, 3]), (872, [0, 1, 2, 3]), (915, [0, 1, 2, 3]), (968, [0, 1, 2, 3]), (1031, [0, 1, 2, 3]), (1074, [0, 1, 2, 3]), (1097, [0, 1, 2, 3]), (1120, [0, 1, 2, 3]), (1153, [0, 1, 2, 3]), (1196, [0, 1, 2, 3]), (1239, [0, 1, 2, 3]), (1262, [0, 1, 2, 3]), (1285, [0, 1, 2, 3]), (1298, [0, 1, 2, 3])] 40 ?_
    refine ⟨fun _ => ⟨Or.inr rfl, rfl⟩, fun g => ?_⟩
    have hi : 6 * t + 6 ≤ X.2.2.2.2.1 := by
      apply Classical.byContradiction
      intro w
      apply g
      show nI X.2.2.2.2.1 - nI 6 < nI (6 * t)
      rw [Int32.lt_iff_toInt_lt, pk_sub_toInt (b := 6) (by omega) (by omega), nI_toInt (by omega)]
      omega
    refine ⟨show vp_in (nI (6 * t)) X.2.2.2.2.1 from vp_in_nI (by omega) (by omega), ?_⟩
    refine ⟨fun _ => law_sheet hL hi hR hend, fun _ => ?_⟩
    refine ⟨fun _ => law_set hL hi hR hend, fun _ => ?_⟩
    refine ⟨fun _ => law_copy hL hi hR hend, fun _ => ?_⟩
    refine ⟨fun _ => law_drop hL hi hR hend, fun _ => ?_⟩
    refine ⟨fun _ => law_feed hL hi hR hend, fun _ => ?_⟩
    refine ⟨fun _ => law_course hL hi hR hend, fun _ => ?_⟩
    refine ⟨fun _ => law_fault hL hi hR hend, fun _ => ?_⟩
    refine ⟨fun _ => law_need hL hi hR hend, fun _ => ?_⟩
    refine ⟨fun _ => law_race hL hi hR hend, fun _ => ?_⟩
    refine ⟨fun _ => law_ran hL hi hR hend, fun _ => ?_⟩
    refine ⟨fun _ => law_place hL hi hR hend, fun _ => ?_⟩
    refine ⟨fun _ => law_best hL hi hR hend, fun _ => ?_⟩
    refine ⟨fun _ => law_even hL hi hR hend, fun _ => ?_⟩
    refine ⟨fun _ => law_early hL hi hR hend, fun _ => ?_⟩
    refine ⟨fun _ => law_hired hL hi hR hend, fun _ => ?_⟩
    refine ⟨fun _ => law_stays hL hi hR hend, fun _ => ?_⟩
    refine ⟨fun _ => law_rests hL hi hR hend, fun _ => ?_⟩
    refine ⟨fun _ => law_wins hL hi hR hend, fun _ => ?_⟩
    refine ⟨fun _ => law_line hL hi hR hend, fun _ => ?_⟩
    refine ⟨fun _ => law_parts hL hi hR hend, fun _ => ?_⟩
    refine ⟨fun _ => law_hour hL hi hR hend, fun _ => ?_⟩
    refine ⟨fun _ => law_feeling hL hi hR hend, fun _ => ?_⟩
    refine ⟨fun _ => law_image hL hi hR hend, fun _ => ?_⟩
    refine ⟨fun _ => law_restore hL hi hR hend, fun _ => ?_⟩
    refine ⟨fun _ => law_kind hL hi hR hend, fun _ => ?_⟩
    refine ⟨fun _ => law_as hL hi hR hend, fun _ => ?_⟩
    refine ⟨fun _ => law_ask hL hi hR hend, fun _ => ?_⟩
    refine ⟨fun _ => law_trace hL hi hR hend, fun _ => ?_⟩
    refine ⟨fun _ => law_count hL hi hR hend, fun _ => ?_⟩
    refine ⟨fun _ => law_status hL hi hR hend, fun _ => ?_⟩
    exact hend M hR
