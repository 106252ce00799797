/-! ===== all of a course, read by the model ===== -/
theorem bd_in {x : Int32 × z_Ps} {k : z_Ps → z_Po} : z_Po.bind (Sum.inl x) k = Sum.inl x := rfl
theorem bd_in2 {x : z_Ps} {k : z_Ps → z_Po} : z_Po.bind (Sum.inr x) k = k x := rfl
theorem Bf_nest {B : Nat → Int32} {len : Nat} {s : z_Ps} (hl6 : len ≤ 600) (ht : z_Tg len s.tk.1 s) (w1 : s.is B 1 = true) : pu_Bf B len s = pu_lp (fun (s : z_Ps) => s.is B 1) (pu_nest B len) 601 s := by
  unfold pu_Bf
  rw [if_pos w1, lp_1 (c := fun (s : z_Ps) => s.is B 1) w1]
  cases e : pu_runP B len s with
  | inl x =>
    rw [nest_no (e := x.1) (s' := x.2) e, bd_in, bd_no]
  | inr t =>
    have k := run_g ht rfl (is_0 w1) e
    have k1 := k.1
    rw [nest_ok e, bd_in2, flat_nest hl6 600 t ⟨Nat.le_refl _, k.2⟩ (by omega), lp_enough (len := len) (fun a b x y z => rule_g x rfl (is_0 y) z) 600 601 t ⟨Nat.le_refl _, k.2⟩ (by omega) (by omega)]
theorem lA_allM {X : z_Cx} (M0 : z_M) (B : Nat → Int32) (len : Nat) (hl6 : len ≤ 600) (fl : Int32) {R : Int32 → z_M → Prop} (o : z_Po) (K : z_Ps → z_Po) (hk : ∀ (s : z_Ps) (N : Nat → Int32) (M : z_M), z_Pm M0 B len fl M s.tk N → z_Cs s N → z_Tg len s.tk.1 s → 1 ≤ s.tk.1 → o = K s → z_Run X 7 mX10_readAll R 34 [(0, zr 46 0)] [] M) (hR : ∀ e s N M', o = .no e s → z_Pm M0 B len e M' s.tk N → R 0 M') : ∀ (u : Nat) (s : z_Ps) (N : Nat → Int32) (M : z_M), z_Pm M0 B len fl M s.tk N → z_Cs s N → z_Tg len s.tk.1 s → (1 ≤ s.tk.1 ∨ s.is B 0 = true) → len < u + s.tk.1 → o = (pu_lp (fun (s : z_Ps) => s.is B 0) (pu_mileP B len) u s).bind K → z_Run X 7 mX10_readAll R 18 [(0, zr 46 0)] [] M := by
  intro u
  induction u with
  | zero =>
    intro s N M h hC ht hs hl ho
    have := ht.2.1
    have := ht.2.2.1
    omega
  | succ u ih =>
    intro s N M h hC ht hs hl ho
    refine z_go_run KX10_readAll [(18, [0]), (34, [0])] 40 ?_
    refine z_uR (hX10_isMileWord h) (by decide) ?_
    refine ⟨fun g => ?_, fun g => ?_⟩
    · rw [lp_0 (c := fun (s : z_Ps) => s.is B 0) (by rw [b2_0 g]; decide), bd_ok] at ho
      exact hk s N M h hC ht (hs.resolve_right (by rw [b2_0 g]; decide)) ho
    · have w0 := b2_1 g
      rw [lp_1 (c := fun (s : z_Ps) => s.is B 0) w0, bd_as] at ho
      refine z_use (hX10_readMile M0 M B len fl s N h hC.1.1 hC.1.2.2.2.1) (by decide) (fun v M' q => ?_)
      rcases q.2 with ⟨rfl, e, s', N', e1, e2⟩ | ⟨rfl, s', N', e1, e2, e3⟩
      · refine ⟨fun w => absurd rfl w, fun _ => ⟨Or.inl rfl, hR e s' N' M' ?_ e2⟩⟩
        rw [ho, e1]
        rfl
      · refine ⟨fun _ => ?_, fun w => absurd w (by decide)⟩
        have k := mile_g ht rfl (is_0 w0) e1
        have k1 := k.1
        have kr := mile_ok (CS_Pi hC) e1
        have h12 : s.m < 12 := by
          have := kr.1.1
          rw [kr.2.1] at this
          omega
        refine ih s' N' M' e2 (CSm hC h12 e3) ⟨Nat.le_refl _, k.2⟩ (Or.inl (by omega)) (by omega) ?_
        rw [ho, e1]
        rfl
theorem lB_allM {X : z_Cx} (M0 : z_M) (B : Nat → Int32) (len : Nat) (hl6 : len ≤ 600) (fl : Int32) {R : Int32 → z_M → Prop} (o : z_Po) (K : z_Ps → z_Po) (hk : ∀ (s : z_Ps) (N : Nat → Int32) (M : z_M), z_Pm M0 B len fl M s.tk N → z_Cs s N → z_Tg len s.tk.1 s → 1 ≤ s.tk.1 → o = K s → z_Run X 7 mX10_readAll R 63 [(0, zr 46 0)] [] M) (hR : ∀ e s N M', o = .no e s → z_Pm M0 B len e M' s.tk N → R 0 M') : ∀ (u : Nat) (s : z_Ps) (N : Nat → Int32) (M : z_M), z_Pm M0 B len fl M s.tk N → z_Cs s N → z_Tg len s.tk.1 s → (1 ≤ s.tk.1 ∨ s.is B 1 = true) → len < u + s.tk.1 → o = (pu_lp (fun (s : z_Ps) => s.is B 1) (pu_nest B len) u s).bind K → z_Run X 7 mX10_readAll R 47 [(0, zr 46 0)] [] M := by
  intro u
  induction u with
  | zero =>
    intro s N M h hC ht hs hl ho
    have := ht.2.1
    have := ht.2.2.1
    omega
  | succ u ih =>
    intro s N M h hC ht hs hl ho
    refine z_go_run KX10_readAll [(47, [0]), (63, [0])] 40 ?_
    refine z_uR (hX10_isRunnerWord h) (by decide) ?_
    refine ⟨fun g => ?_, fun g => ?_⟩
    · rw [lp_0 (c := fun (s : z_Ps) => s.is B 1) (by rw [b2_0 g]; decide), bd_ok] at ho
      exact hk s N M h hC ht (hs.resolve_right (by rw [b2_0 g]; decide)) ho
    · have w0 := b2_1 g
      rw [lp_1 (c := fun (s : z_Ps) => s.is B 1) w0, bd_as] at ho
      refine z_use (hX10_readRunner M0 M B len hl6 fl s N h hC ht w0) (by decide) (fun v M' q => ?_)
      rcases q.2 with ⟨rfl, e, s', N', e1, e2⟩ | ⟨rfl, s', N', e1, e2, e3⟩
      · refine ⟨fun w => absurd rfl w, fun _ => ⟨Or.inl rfl, hR e s' N' M' ?_ e2⟩⟩
        rw [ho, e1]
        rfl
      · refine ⟨fun _ => ?_, fun w => absurd w (by decide)⟩
        have k := nest_g ht w0 e1
        have k1 := k.1
        refine ih s' N' M' e2 e3 ⟨Nat.le_refl _, k.2⟩ (Or.inl (by omega)) (by omega) ?_
        rw [ho, e1]
        rfl
theorem lC_allM {X : z_Cx} (M0 : z_M) (B : Nat → Int32) (len : Nat) (hl6 : len ≤ 600) (fl : Int32) {R : Int32 → z_M → Prop} (o : z_Po) (K : z_Ps → z_Po) (hk : ∀ (s : z_Ps) (N : Nat → Int32) (M : z_M), z_Pm M0 B len fl M s.tk N → z_Cs s N → z_Tg len s.tk.1 s → 1 ≤ s.tk.1 → o = K s → z_Run X 7 mX10_readAll R 91 [(0, zr 46 0)] [] M) (hR : ∀ e s N M', o = .no e s → z_Pm M0 B len e M' s.tk N → R 0 M') : ∀ (u : Nat) (s : z_Ps) (N : Nat → Int32) (M : z_M), z_Pm M0 B len fl M s.tk N → z_Cs s N → z_Tg len s.tk.1 s → (1 ≤ s.tk.1 ∨ s.is B 3 = true) → len < u + s.tk.1 → o = (pu_lp (fun (s : z_Ps) => s.is B 3) (pu_rabP B len) u s).bind K → z_Run X 7 mX10_readAll R 63 [(0, zr 46 0)] [] M := by
  intro u
  induction u with
  | zero =>
    intro s N M h hC ht hs hl ho
    have := ht.2.1
    have := ht.2.2.1
    omega
  | succ u ih =>
    intro s N M h hC ht hs hl ho
    refine z_go_run KX10_readAll [(63, [0]), (91, [0])] 40 ?_
    refine m_word h 3 (by decide) (by decide) ?_
    refine ⟨fun g => ?_, fun g => ?_⟩
    · rw [lp_0 (c := fun (s : z_Ps) => s.is B 3) (by rw [b2_0 g]; decide), bd_ok] at ho
      exact hk s N M h hC ht (hs.resolve_right (by rw [b2_0 g]; decide)) ho
    · have w0 := b2_1 g
      rw [lp_1 (c := fun (s : z_Ps) => s.is B 3) w0, bd_as] at ho
      refine z_use (hX10_readRabbit M0 M B len fl s N h hC.1.2.2.1 hC.1.2.2.2.2.2.1) (by decide) (fun v M' q => ?_)
      rcases q.2 with ⟨rfl, e, s', N', e1, e2⟩ | ⟨rfl, s', N', e1, e2, e3⟩
      · refine ⟨fun w => absurd rfl w, fun _ => ⟨Or.inl rfl, hR e s' N' M' ?_ e2⟩⟩
        rw [ho, e1]
        rfl
      · refine ⟨fun _ => ?_, fun w => absurd w (by decide)⟩
        have k := rab_g ht rfl (is_0 w0) e1
        have k1 := k.1
        have kr := rab_ok (CS_Pi hC) e1
        have h12 : s.b < 5 := by
          have := kr.1.2.2.1
          rw [kr.2.2.2] at this
          omega
        refine ih s' N' M' e2 (CSb hC h12 e3) ⟨Nat.le_refl _, k.2⟩ (Or.inl (by omega)) (by omega) ?_
        rw [ho, e1]
        rfl
theorem hX10_readAll {X : z_Cx} (M0 : z_M) (B : Nat → Int32) (len : Nat) (hT : z_Te B len M0) (hN : ∀ y, y < 479 → M0.1 47 (z_sp M0) y = 0) (V : Nat → Nat → Int32) (hV : ∀ j, j < 4 → V 6 j = 0) : z_Con X 7 mX10_readAll [zr 46 0] M0 (fun v M' => z_Om M0 B len (M0.1 46 0 6) v M' (pu_All B len V) z_Cs) := by
  have hl6 := hT.1
  have ea : pu_All B len V = (pu_A B len (pu_s0 B len V)).bind (fun s => (pu_Bf B len s).bind (fun s => (pu_lp (fun (s : z_Ps) => s.is B 3) (pu_rabP B len) 600 s).bind pu_D)) := by
    unfold pu_All
    rw [bd_as, bd_as]
  have hR : ∀ (e : Int32) (s : z_Ps) (N : Nat → Int32) (M' : z_M), pu_All B len V = .no e s → z_Pm M0 B len e M' s.tk N → z_Om M0 B len (M0.1 46 0 6) 0 M' (pu_All B len V) z_Cs := fun e s N M' h1 h2 => Om_no h1 h2
  generalize pu_All B len V = o at *
  have st91 : ∀ (s : z_Ps) (N : Nat → Int32) (M : z_M), z_Pm M0 B len (M0.1 46 0 6) M s.tk N → z_Cs s N → z_Tg len s.tk.1 s → 1 ≤ s.tk.1 → o = pu_D s → z_Run X 7 mX10_readAll (fun v M' => z_Om M0 B len (M0.1 46 0 6) v M' o z_Cs) 91 [(0, zr 46 0)] [] M := by
    intro s N M h hC ht h1 ho
    obtain ⟨t1, t2, t3, t4⟩ := h.2.2.2.1
    unfold pu_D at ho
    refine z_go_run KX10_readAll [] 40 ?_
    refine ⟨fun g => ?_, fun g => ?_⟩ <;> rw [t3] at g
    · rw [if_pos g] at ho
      exact ⟨Or.inr rfl, Or.inr ⟨rfl, s, N, ho, h, hC⟩⟩
    · rw [if_neg g] at ho
      refine z_uW (hX10_faulty M 1) (by decide) ?_
      refine ⟨fun _ => ?_, fun w => absurd rfl w⟩
      exact ⟨Or.inl rfl, hR 1 s N _ ho (Pm_fl h)⟩
  have st63 : ∀ (s : z_Ps) (N : Nat → Int32) (M : z_M), z_Pm M0 B len (M0.1 46 0 6) M s.tk N → z_Cs s N → z_Tg len s.tk.1 s → 1 ≤ s.tk.1 → o = (pu_lp (fun (s : z_Ps) => s.is B 3) (pu_rabP B len) 600 s).bind pu_D → z_Run X 7 mX10_readAll (fun v M' => z_Om M0 B len (M0.1 46 0 6) v M' o z_Cs) 63 [(0, zr 46 0)] [] M :=
    fun s N M h hC ht h1 ho => lC_allM M0 B len hl6 (M0.1 46 0 6) o pu_D st91 hR 600 s N M h hC ht (Or.inl h1) (by omega) ho
  have st34 : ∀ (s : z_Ps) (N : Nat → Int32) (M : z_M), z_Pm M0 B len (M0.1 46 0 6) M s.tk N → z_Cs s N → z_Tg len s.tk.1 s → 1 ≤ s.tk.1 → o = (pu_Bf B len s).bind (fun s => (pu_lp (fun (s : z_Ps) => s.is B 3) (pu_rabP B len) 600 s).bind pu_D) → z_Run X 7 mX10_readAll (fun v M' => z_Om M0 B len (M0.1 46 0 6) v M' o z_Cs) 34 [(0, zr 46 0)] [] M := by
    intro s N M h hC ht h1 ho
    refine z_go_run KX10_readAll [(47, [0])] 40 ?_
    refine z_uR (hX10_isRunnerWord h) (by decide) ?_
    refine ⟨fun g => ?_, fun g => ?_⟩
    · have w1 := b2_1 g
      rw [Bf_nest hl6 ht w1] at ho
      exact lB_allM M0 B len hl6 (M0.1 46 0 6) o _ st63 hR 601 s N M h hC ht (Or.inl h1) (by omega) ho
    · unfold pu_Bf at ho
      rw [if_neg (by rw [b2_0 g]; decide), bd_no, bd_no] at ho
      refine z_uW (hX10_faulty M 1) (by decide) ?_
      exact ⟨Or.inl rfl, hR 1 s N _ ho (Pm_fl h)⟩
  refine z_mg KX10_readAll [(18, [0])] 40 (by decide +kernel) rfl ?_
  refine z_use (hX10_look M0 B len 0 hT (by omega)) (by decide) (fun _ M1 q => ?_)
  have hk := tok_ok (B := B) (x := 0) (len := len) (by omega)
  have h : z_Pm M0 B len (M0.1 46 0 6) M1 (pu_s0 B len V).tk (M0.1 47 (z_sp M0)) := by
    refine ⟨⟨q.1.1, fun k a b => q.1.2.1 k a (fun w => by cases w), fun i a => ?_, fun j hj => ?_⟩, Te_F hT q.1, q.1.2.2 6 (by decide), q.2, ⟨hk.2.1, hk.2.2.1⟩, ?_⟩
    · rw [q.1.2.1 47 (by decide) (by decide)]
    · refine q.1.2.2 j (fun w => hj ?_)
      simp only [List.mem_cons, List.mem_nil_iff, or_false] at w ⊢
      omega
    · rw [q.1.2.1 47 (by decide) (by decide)]
  have ht : z_Tg len (pu_s0 B len V).tk.1 (pu_s0 B len V) := ⟨Nat.le_refl _, hk.2.1, hk.2.2.1, hk.2.2.2.1⟩
  have hC : z_Cs (pu_s0 B len V) (M0.1 47 (z_sp M0)) := CS_0 hV hN
  generalize pu_s0 B len V = s at *
  refine z_uR (hX10_isMileWord h) (by decide) ?_
  refine ⟨fun g => ?_, fun g => ?_⟩
  · have w0 := b2_1 g
    have ea2 : o = (pu_lp (fun (s : z_Ps) => s.is B 0) (pu_mileP B len) 601 s).bind (fun s => (pu_Bf B len s).bind (fun s => (pu_lp (fun (s : z_Ps) => s.is B 3) (pu_rabP B len) 600 s).bind pu_D)) := by
      rw [ea, lp_1 (c := fun (s : z_Ps) => s.is B 0) w0]
      unfold pu_A
      rw [if_pos w0]
    exact lA_allM M0 B len hl6 (M0.1 46 0 6) o _ st34 hR 601 s _ M1 h hC ht (Or.inr w0) (by omega) ea2
  · have ea2 : o = .no 1 s := by
      rw [ea]
      unfold pu_A
      rw [if_neg (by rw [b2_0 g]; decide)]
      rfl
    refine z_uW (hX10_faulty M1 1) (by decide) ?_
    exact ⟨Or.inl rfl, hR 1 s _ _ ea2 (Pm_fl h)⟩
