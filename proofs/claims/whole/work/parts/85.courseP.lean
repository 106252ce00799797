/-! ===== a course, fed to the class ===== -/
theorem bd_as {f g : z_Ps → z_Po} : ∀ o : z_Po, (o.bind f).bind g = o.bind (fun s => (f s).bind g) := by
  intro o
  cases o <;> rfl
def pu_s0 (B : Nat → Int32) (len : Nat) (V : Nat → Nat → Int32) : z_Ps := (pu_tok B len 0, 0, 0, 0, V)
def pu_A (B : Nat → Int32) (len : Nat) (s : z_Ps) : z_Po := (if s.is B 0 = true then pu_mileP B len s else .no 1 s).bind (pu_lp (fun (s : z_Ps) => s.is B 0) (pu_mileP B len) 600)
def pu_Bf (B : Nat → Int32) (len : Nat) (s : z_Ps) : z_Po := (if s.is B 1 = true then pu_runP B len s else .no 1 s).bind (pu_lp (fun (s : z_Ps) => s.is B 1 || s.is B 2) (pu_flat B len) 600)
def pu_D (s : z_Ps) : z_Po := if s.tk.2.2.1 = 0 then .ok s else .no 1 s
/-- all of a course: miles, runners with their rules, rabbits, the end -/
def pu_All (B : Nat → Int32) (len : Nat) (V : Nat → Nat → Int32) : z_Po := (((pu_A B len (pu_s0 B len V)).bind (pu_Bf B len)).bind (pu_lp (fun (s : z_Ps) => s.is B 3) (pu_rabP B len) 600)).bind pu_D
theorem bd_inv {P Q : z_Ps → Prop} {f : z_Ps → z_Po} {o : z_Po} (h1 : ∀ s, o = .ok s → P s) (h2 : ∀ s s', P s → f s = .ok s' → Q s') : ∀ s, o.bind f = .ok s → Q s := by
  intro s e
  cases o with
  | inl a => exact absurd e Sum.inl_ne_inr
  | inr t => exact h2 t s (h1 t rfl) e
theorem lp_inv {P : z_Ps → Prop} {c : z_Ps → Bool} {f : z_Ps → z_Po} (h : ∀ s s', P s → c s = true → f s = .ok s' → P s') : ∀ (u : Nat) (s s' : z_Ps), P s → pu_lp c f u s = .ok s' → P s' := by
  intro u
  induction u with
  | zero =>
    intro s s' hs e
    have e2 : s = s' := Sum.inr.inj e
    exact e2 ▸ hs
  | succ u ih =>
    intro s s' hs e
    by_cases w : c s = true
    · rw [lp_1 w] at e
      exact bd_inv (P := P) (Q := P) (fun t et => h s t hs w et) (fun t t' a b => ih t t' a b) s' e
    · rw [lp_0 w] at e
      have e2 : s = s' := Sum.inr.inj e
      exact e2 ▸ hs
theorem if_ok {c : Bool} {o : z_Po} {e : Int32} {s s' : z_Ps} (h : (if c = true then o else .no e s) = .ok s') : c = true ∧ o = .ok s' := by
  cases c with
  | true => exact ⟨rfl, h⟩
  | false => exact absurd h Sum.inl_ne_inr
theorem A_ok {B : Nat → Int32} {len : Nat} {s : z_Ps} (hi : z_Pi s) : ∀ s', pu_A B len s = .ok s' → z_Pi s' ∧ 1 ≤ s'.m ∧ s'.r = s.r := by
  refine bd_inv (P := fun t => z_Pi t ∧ 1 ≤ t.m ∧ t.r = s.r) (fun t et => ?_) (fun t t' ht e => ?_)
  · have k := mile_ok hi (if_ok et).2
    exact ⟨k.1, by rw [k.2.1]; omega, k.2.2.1⟩
  · refine lp_inv (P := fun t => z_Pi t ∧ 1 ≤ t.m ∧ t.r = s.r) (fun a b ha _ e => ?_) 600 t t' ht e
    have k := mile_ok ha.1 e
    exact ⟨k.1, by rw [k.2.1]; omega, k.2.2.1.trans ha.2.2⟩
theorem B_ok {B : Nat → Int32} {len : Nat} {s : z_Ps} (hi : z_Pi s ∧ 1 ≤ s.m) : ∀ s', pu_Bf B len s = .ok s' → z_Pi s' ∧ 1 ≤ s'.m ∧ 1 ≤ s'.r := by
  refine bd_inv (P := fun t => z_Pi t ∧ 1 ≤ t.m ∧ 1 ≤ t.r) (fun t et => ?_) (fun t t' ht e => ?_)
  · have k := run_ok hi.1 (if_ok et).2
    exact ⟨k.1, by rw [k.2.1]; exact hi.2, by rw [k.2.2.1]; omega⟩
  · refine lp_inv (P := fun t => z_Pi t ∧ 1 ≤ t.m ∧ 1 ≤ t.r) (fun a b ha _ e => ?_) 600 t t' ht e
    unfold pu_flat at e
    by_cases w : a.is B 2 = true
    · rw [if_pos w] at e
      have k := rule_ok ha.1 ha.2.2 e
      exact ⟨k.1, by rw [k.2.1]; exact ha.2.1, by rw [k.2.2.1]; exact ha.2.2⟩
    · rw [if_neg w] at e
      have k := run_ok ha.1 e
      exact ⟨k.1, by rw [k.2.1]; exact ha.2.1, by rw [k.2.2.1]; omega⟩
theorem C_ok {B : Nat → Int32} {len : Nat} {s : z_Ps} (hi : z_Pi s ∧ 1 ≤ s.m ∧ 1 ≤ s.r) : ∀ s', pu_lp (fun (s : z_Ps) => s.is B 3) (pu_rabP B len) 600 s = .ok s' → z_Pi s' ∧ 1 ≤ s'.m ∧ 1 ≤ s'.r := by
  intro s' e
  refine lp_inv (P := fun t => z_Pi t ∧ 1 ≤ t.m ∧ 1 ≤ t.r) (fun a b ha _ e => ?_) 600 s s' hi e
  have k := rab_ok ha.1 e
  exact ⟨k.1, by rw [k.2.1]; exact ha.2.1, by rw [k.2.2.1]; exact ha.2.2⟩
theorem D_ok {s s' : z_Ps} (h : pu_D s = .ok s') : s.tk.2.2.1 = 0 ∧ s' = s := by
  unfold pu_D at h
  by_cases w : s.tk.2.2.1 = 0
  · rw [if_pos w] at h
    exact ⟨w, (Sum.inr.inj h).symm⟩
  · rw [if_neg w] at h
    exact absurd h Sum.inl_ne_inr
theorem s0_i {B : Nat → Int32} {len : Nat} {V : Nat → Nat → Int32} (hV : ∀ j, j < 4 → V 6 j = 0) : z_Pi (pu_s0 B len V) := ⟨Nat.zero_le _, Nat.zero_le _, Nat.zero_le _, fun r hr => ⟨0, by decide, hV r hr⟩⟩
theorem AB_ok {B : Nat → Int32} {len : Nat} {V : Nat → Nat → Int32} (hV : ∀ j, j < 4 → V 6 j = 0) : ∀ s, (pu_A B len (pu_s0 B len V)).bind (pu_Bf B len) = .ok s → z_Pi s ∧ 1 ≤ s.m ∧ 1 ≤ s.r :=
  bd_inv (fun s e => A_ok (s0_i hV) s e) (fun _ s' h e => B_ok ⟨h.1, h.2.1⟩ s' e)
theorem ABC_ok {B : Nat → Int32} {len : Nat} {V : Nat → Nat → Int32} (hV : ∀ j, j < 4 → V 6 j = 0) : ∀ s, ((pu_A B len (pu_s0 B len V)).bind (pu_Bf B len)).bind (pu_lp (fun (s : z_Ps) => s.is B 3) (pu_rabP B len) 600) = .ok s → z_Pi s ∧ 1 ≤ s.m ∧ 1 ≤ s.r :=
  bd_inv (AB_ok hV) (fun _ s' h e => C_ok h s' e)
theorem All_ok {B : Nat → Int32} {len : Nat} {V : Nat → Nat → Int32} (hV : ∀ j, j < 4 → V 6 j = 0) : ∀ s, pu_All B len V = .ok s → z_Pi s ∧ 1 ≤ s.m ∧ 1 ≤ s.r :=
  bd_inv (ABC_ok hV) (fun s s' h e => by
    rw [(D_ok e).2]
    exact h)
theorem V0_6 {M0 : z_M} : ∀ j, j < 4 → pu_V0 M0 6 j = 0 := fun _ hj => if_pos ⟨rfl, hj⟩
theorem Pc_0 {M0 M : z_M} {len : Nat} {fl v : Int32} {s : z_Ps} (h : z_Pq M0 len fl M s) : z_Pq M0 len fl (z_s M 6 1 0 v) s :=
  Pc_c 0 s.m s.r s.b h (by rw [if_neg (by decide)]; exact h.2.2.2.2.2.1.1) (by rw [if_neg (by decide)]; exact h.2.2.2.2.2.1.2.1) (by rw [if_neg (by decide)]; exact h.2.2.2.2.2.1.2.2)
theorem Oq_0 {M0 M : z_M} {len : Nat} {fl v w : Int32} {o : z_Po} (h : z_Oq M0 len fl v M o) : z_Oq M0 len fl v (z_s M 6 1 0 w) o := by
  rcases h with ⟨h1, e, s, h2, h3⟩ | ⟨h1, s, h2, h3⟩
  · exact Or.inl ⟨h1, e, s, h2, Pc_0 h3⟩
  · exact Or.inr ⟨h1, s, h2, Pc_0 h3⟩
theorem Pq_start {M0 M' : z_M} {len : Nat} (hl : M0.1 4 0 2 = nI len) (hl6 : len ≤ 600) {F : Nat → Int32} (hFF : F = fun j => if j < 4 then 0 else M0.1 13 1 j) (hF : z_Ft (z_s (z_sr (z_s (z_s (z_s M0 6 1 1 0) 6 1 5 0) 6 1 14 0) 13 1 F) 4 0 5 0) M') (ht : z_tok M' (pu_tok (M0.1 5 0) len 0)) : z_Pq M0 len (M0.1 4 0 3) M' (pu_s0 (M0.1 5 0) len (pu_V0 M0)) := by
  have hk := tok_ok (B := M0.1 5 0) (x := 0) (len := len) (by omega)
  have e : ∀ k i j, k ≠ 4 → (k ≠ 13 ∨ i ≠ 1) → (k ≠ 6 ∨ i ≠ 1) → M'.1 k i j = M0.1 k i j := by
    intro k i j h4 h13 h6
    rw [hF.2.1 k h4]
    show (if k = 4 ∧ i = 0 ∧ j = 5 then _ else if k = 13 ∧ i = 1 then _ else if k = 6 ∧ i = 1 ∧ j = 14 then _ else if k = 6 ∧ i = 1 ∧ j = 5 then _ else if k = 6 ∧ i = 1 ∧ j = 1 then _ else M0.1 k i j) = _
    rw [if_neg (by omega), if_neg (by omega), if_neg (by omega), if_neg (by omega), if_neg (by omega)]
  have e4 : ∀ j, j ≤ 3 → M'.1 4 0 j = M0.1 4 0 j := by
    intro j hj
    rw [hF.2.2 j (by omega) (by omega) (by omega) (by omega)]
    show (if 4 = 4 ∧ 0 = 0 ∧ j = 5 then (0 : Int32) else if 4 = 13 ∧ 0 = 1 then F j else if 4 = 6 ∧ 0 = 1 ∧ j = 14 then (0 : Int32) else if 4 = 6 ∧ 0 = 1 ∧ j = 5 then (0 : Int32) else if 4 = 6 ∧ 0 = 1 ∧ j = 1 then (0 : Int32) else M0.1 4 0 j) = _
    rw [if_neg (by omega), if_neg (by omega), if_neg (by omega), if_neg (by omega), if_neg (by omega)]
  refine ⟨⟨hF.1, fun k a b => ?_, fun k i a b => ?_⟩, ⟨(e4 2 (by decide)).trans hl, hl6⟩, e4 3 (by decide), ht, ⟨hk.2.1, hk.2.2.1⟩, ?_, fun f hf => ?_⟩
  · funext i j
    exact e k i j a (by omega) (by omega)
  · funext j
    exact e k i j a (by omega) (by omega)
  · rw [hF.2.1 6 (by decide)]
    exact ⟨rfl, rfl, rfl⟩
  · funext j
    show M'.1 (7 + f) 1 j = if f = 6 ∧ j < 4 then 0 else M0.1 (7 + f) 1 j
    by_cases q : f = 6
    · subst q
      rw [hF.2.1 13 (by decide)]
      show F j = _
      rw [hFF]
      by_cases w : j < 4
      · rw [if_pos ⟨rfl, w⟩]
        exact if_pos w
      · rw [if_neg (fun a => w a.2)]
        exact if_neg w
    · rw [if_neg (fun a => q a.1)]
      exact e (7 + f) 1 j (by omega) (by omega) (by omega)
theorem hX5_readsAll {X : z_Cx} (M0 : z_M) (len : Nat) (hl : M0.1 4 0 2 = nI len) (hl6 : len ≤ 600) : z_Con X 6 mX5_readsAll [zr 4 0] M0 (fun v M' => z_Oq M0 len (M0.1 4 0 3) v M' (pu_All (M0.1 5 0) len (pu_V0 M0)) ∧ M'.1 6 1 0 = v) := by
  have hV := V0_6 (M0 := M0)
  have stD : ∀ v M', z_Oq M0 len (M0.1 4 0 3) v M' (((pu_A (M0.1 5 0) len (pu_s0 (M0.1 5 0) len (pu_V0 M0))).bind (pu_Bf (M0.1 5 0) len)).bind (pu_lp (fun (s : z_Ps) => s.is (M0.1 5 0) 3) (pu_rabP (M0.1 5 0) len) 600)) → z_Run X 6 mX5_readsAll (fun v M' => z_Oq M0 len (M0.1 4 0 3) v M' (pu_All (M0.1 5 0) len (pu_V0 M0)) ∧ M'.1 6 1 0 = v) 171 [(0, zr 4 0), (1, zi v)] [] M' := by
    unfold pu_All
    generalize ((pu_A (M0.1 5 0) len (pu_s0 (M0.1 5 0) len (pu_V0 M0))).bind (pu_Bf (M0.1 5 0) len)).bind (pu_lp (fun (s : z_Ps) => s.is (M0.1 5 0) 3) (pu_rabP (M0.1 5 0) len) 600) = o3
    intro v M' hO
    have fin : ∀ (w : Int32) (M1 : z_M), z_Oq M0 len (M0.1 4 0 3) w M1 (o3.bind pu_D) → ((z_s M1 6 1 0 w).1 6 1 0 = 0 ∨ (z_s M1 6 1 0 w).1 6 1 0 = 1) ∧ z_Oq M0 len (M0.1 4 0 3) ((z_s M1 6 1 0 w).1 6 1 0) (z_s M1 6 1 0 w) (o3.bind pu_D) ∧ (z_s M1 6 1 0 w).1 6 1 0 = (z_s M1 6 1 0 w).1 6 1 0 := by
      intro w M1 hw
      have ev : (z_s M1 6 1 0 w).1 6 1 0 = w := by rw [z_gs, if_pos ⟨rfl, rfl, rfl⟩]
      rw [ev]
      exact ⟨Oq_01 hw, Oq_0 hw, rfl⟩
    refine z_go_run KSX5_readsAll [] 80 ?_
    rcases hO with ⟨rfl, e, s, rfl, hq⟩ | ⟨rfl, s, rfl, hq⟩
    · refine ⟨fun _ => ?_, fun w => absurd rfl w⟩
      exact ⟨Or.inl rfl, fin 0 M' (Oc_no rfl hq)⟩
    · refine ⟨fun w => absurd w (by decide), fun _ => ?_⟩
      have t3 := hq.2.2.2.1.2.2.1
      refine ⟨fun g => ?_, fun g => ?_⟩ <;> rw [t3] at g
      · exact ⟨Or.inr rfl, fin 1 M' (Oc_ok (if_pos g) hq)⟩
      · refine z_uW (hX5_fails M' 1) (by decide) ?_
        refine ⟨fun _ => ?_, fun w => absurd rfl w⟩
        exact ⟨Or.inl rfl, fin 0 _ (Oc_no (if_neg g) (Pc_fl hq))⟩
  have stC : ∀ v M', z_Oq M0 len (M0.1 4 0 3) v M' ((pu_A (M0.1 5 0) len (pu_s0 (M0.1 5 0) len (pu_V0 M0))).bind (pu_Bf (M0.1 5 0) len)) → z_Run X 6 mX5_readsAll (fun v M' => z_Oq M0 len (M0.1 4 0 3) v M' (pu_All (M0.1 5 0) len (pu_V0 M0)) ∧ M'.1 6 1 0 = v) 138 [(0, zr 4 0), (1, zi v)] [] M' := by
    intro v M' hO
    refine z_go_run KSX5_readsAll [(140, [0, 1, 2])] 80 ?_
    exact lC_all M0 len (M0.1 4 0 3) _ stD 600 0 v _ M' rfl hO (fun s e => (AB_ok hV s e).1) rfl
  have stB : ∀ v M', z_Oq M0 len (M0.1 4 0 3) v M' (pu_A (M0.1 5 0) len (pu_s0 (M0.1 5 0) len (pu_V0 M0))) → z_Run X 6 mX5_readsAll (fun v M' => z_Oq M0 len (M0.1 4 0 3) v M' (pu_All (M0.1 5 0) len (pu_V0 M0)) ∧ M'.1 6 1 0 = v) 54 [(0, zr 4 0), (1, zi v)] [] M' := by
    have hA := A_ok (B := M0.1 5 0) (len := len) (s0_i (B := M0.1 5 0) (len := len) hV)
    generalize pu_A (M0.1 5 0) len (pu_s0 (M0.1 5 0) len (pu_V0 M0)) = o1 at *
    intro v M' hO
    refine z_go_run KSX5_readsAll [(73, [0, 1, 2])] 80 ?_
    rcases hO with ⟨rfl, e, s, rfl, hq⟩ | ⟨rfl, s, rfl, hq⟩
    · refine ⟨fun _ => ?_, fun w => absurd rfl w⟩
      exact lB_all M0 len (M0.1 4 0 3) _ stC 600 0 0 (.no e s) M' rfl (Oc_no rfl hq) (fun s e => absurd e Sum.inl_ne_inr) rfl
    · refine ⟨fun w => absurd w (by decide), fun _ => ?_⟩
      have hi := hA s rfl
      refine z_use (hX5_readsRunner M0 M' len (M0.1 4 0 3) s hq hi.1.2.1) (by decide) (fun v' M2 q => ?_)
      have go := lB_all M0 len (M0.1 4 0 3) _ stC 600 0 v' _ M2 rfl q.2 (fun s' e => by
        have k := run_ok hi.1 (if_ok e).2
        exact ⟨k.1, by rw [k.2.2.1]; omega⟩) rfl
      rcases q.1 with rfl | rfl
      · exact ⟨fun _ => go, fun w => absurd rfl w⟩
      · exact ⟨fun w => absurd w (by decide), fun _ => go⟩
  refine z_mg KSX5_readsAll [(23, [0, 1, 2])] 80 (by decide +kernel) rfl ?_
  refine z_uV (hX2_clear M0) (by decide) (fun _ => ?_)
  have hl2 : (z_s (z_sr (z_s (z_s (z_s M0 6 1 1 0) 6 1 5 0) 6 1 14 0) 13 1 (fun j => if j < 4 then 0 else M0.1 13 1 j)) 4 0 5 0).1 4 0 2 = nI len := hl
  have h52 : (z_s (z_sr (z_s (z_s (z_s M0 6 1 1 0) 6 1 5 0) 6 1 14 0) 13 1 (fun j => if j < 4 then 0 else M0.1 13 1 j)) 4 0 5 0).1 4 0 5 = nI 0 := rfl
  refine z_use (hX5_next _ len 0 hl2 hl6 (by omega) h52) (by decide) (fun _ M1 q => ?_)
  have hq : z_Pq M0 len (M0.1 4 0 3) M1 (pu_s0 (M0.1 5 0) len (pu_V0 M0)) := Pq_start hl hl6 rfl q.1 q.2
  have hi := s0_i (B := M0.1 5 0) (len := len) hV
  have hA : pu_A (M0.1 5 0) len (pu_s0 (M0.1 5 0) len (pu_V0 M0)) = _ := rfl
  generalize pu_s0 (M0.1 5 0) len (pu_V0 M0) = s at *
  refine z_use (hX5_readsMile M0 M1 len (M0.1 4 0 3) s hq hi.1) (by decide) (fun v M2 q2 => ?_)
  exact lA_all M0 len (M0.1 4 0 3) _ stB 600 0 v _ M2 rfl q2.2 (fun s' e => (mile_ok hi (if_ok e).2).1) rfl
