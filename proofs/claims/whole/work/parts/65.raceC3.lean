/-! ===== the class's race, whole ===== -/
abbrev z_S4 : Type := (Nat → Int32) × (Nat → Int32) × (Nat → Int32) × Nat
abbrev pu_P2 (V : Nat → Nat → Int32) (nr m : Nat) (σ : z_S4) : Nat → Int32 := pu_pf V nr m σ.1 σ.2.1 σ.2.2.1 σ.2.2.2
abbrev pu_bb (V : Nat → Nat → Int32) (nr m : Nat) (σ : z_S4) (r : Nat) : Int32 := pu_b2 (pu_S1 σ.2.1 (pu_P2 V nr m σ) r nr)
def pu_nxt (V : Nat → Nat → Int32) (nr m : Nat) (σ : z_S4) : z_S4 := (fun r => pu_l1 V r m (pu_P2 V nr m σ r) (pu_bb V nr m σ r) (σ.1 r), fun r => σ.2.1 r + pu_s1 V r m (pu_P2 V nr m σ r) (pu_bb V nr m σ r) (σ.1 r), pu_P2 V nr m σ, pu_it σ.2.2.2 nr)
def pu_rs (V : Nat → Nat → Int32) (nr seed : Nat) (P0 : Nat → Int32) : Nat → z_S4
  | 0 => (fun r => V 4 r, fun _ => 0, P0, seed)
  | m + 1 => pu_nxt V nr m (pu_rs V nr seed P0 m)
def pu_rcd (V : Nat → Nat → Int32) (nr m : Nat) (σ : z_S4) (r w : Nat) : Int32 :=
  if w = 0 then pu_s1 V r m (pu_P2 V nr m σ r) (pu_bb V nr m σ r) (σ.1 r) else if w = 1 then pu_P2 V nr m σ r else if w = 2 then pu_l1 V r m (pu_P2 V nr m σ r) (pu_bb V nr m σ r) (σ.1 r) else if w = 3 then (if pu_bb V nr m σ r = 1 ∧ ¬ pu_gl V r m (pu_P2 V nr m σ r) (pu_bb V nr m σ r) (σ.1 r) < 0 then 1 else 0) else if w = 4 then (if pu_gl V r m (pu_P2 V nr m σ r) (pu_bb V nr m σ r) (σ.1 r) < 0 then 1 else 0) else if w = 5 then σ.2.1 r + pu_s1 V r m (pu_P2 V nr m σ r) (pu_bb V nr m σ r) (σ.1 r) else (if V 3 r < pu_need V 0 m (pu_P2 V nr m σ r) (pu_bb V nr m σ r) then 1 else 0)
theorem cl_bd (v : Int32) : 10 ≤ pu_cl v ∧ pu_cl v ≤ 40 := by
  unfold pu_cl
  constructor <;> grind
theorem sec_p {p : Int32} (h : 10 ≤ p ∧ p ≤ 40) : 300 ≤ 12000 / p ∧ 12000 / p ≤ 1200 := by
  obtain ⟨b, hb, eb, _⟩ := pace_of h
  rw [eb]
  exact sec_bd hb
theorem s1_bd {V : Nat → Nat → Int32} {r m : Nat} {p b l : Int32} (hp : 10 ≤ p ∧ p ≤ 40) : 300 ≤ pu_s1 V r m p b l ∧ pu_s1 V r m p b l ≤ 1200 := by
  unfold pu_s1
  split
  · exact sec_p (easy_bd 30 (Nat.le_refl 30))
  · exact sec_p hp
theorem l1_bd {V : Nat → Nat → Int32} {r m : Nat} {p b l : Int32} (hs : 1 ≤ V 4 r) : 0 ≤ pu_l1 V r m p b l ∧ pu_l1 V r m p b l ≤ V 4 r := by
  unfold pu_l1 pu_gl
  generalize l + pu_chg (pu_need V 0 m p b) (V 3 r) (V 5 r) = y
  generalize V 4 r = st at *
  constructor <;> grind
/-- all that a race's state keeps -/
def pu_ok (V : Nat → Nat → Int32) (nr m : Nat) (σ : z_S4) : Prop := (∀ r, r < nr → (0 ≤ σ.1 r ∧ σ.1 r ≤ V 4 r) ∧ (0 ≤ σ.2.1 r ∧ σ.2.1 r ≤ nI (1200 * m)) ∧ 10 ≤ σ.2.2.1 r ∧ σ.2.2.1 r ≤ 40) ∧ σ.2.2.2 < 2147483647
theorem add_bd {a c d : Int32} (h0 : 0 ≤ a) (h1 : a ≤ d) (hd : d ≤ 14400) (hc : 300 ≤ c ∧ c ≤ 1200) : 0 ≤ a + c ∧ a + c ≤ d + 1200 := by constructor <;> grind
theorem pf_bd {V : Nat → Nat → Int32} {nr m : Nat} {L T P : Nat → Int32} {x r : Nat} : 10 ≤ pu_pf V nr m L T P x r ∧ pu_pf V nr m L T P x r ≤ 40 := by
  unfold pu_pf
  exact cl_bd _
theorem nxt_1 {V : Nat → Nat → Int32} {nr m : Nat} {σ : z_S4} {r : Nat} : (pu_nxt V nr m σ).1 r = pu_l1 V r m (pu_P2 V nr m σ r) (pu_bb V nr m σ r) (σ.1 r) := by unfold pu_nxt; rfl
theorem nxt_2 {V : Nat → Nat → Int32} {nr m : Nat} {σ : z_S4} {r : Nat} : (pu_nxt V nr m σ).2.1 r = σ.2.1 r + pu_s1 V r m (pu_P2 V nr m σ r) (pu_bb V nr m σ r) (σ.1 r) := by unfold pu_nxt; rfl
theorem nxt_3 {V : Nat → Nat → Int32} {nr m : Nat} {σ : z_S4} : (pu_nxt V nr m σ).2.2.1 = pu_P2 V nr m σ := rfl
theorem nxt_4 {V : Nat → Nat → Int32} {nr m : Nat} {σ : z_S4} : (pu_nxt V nr m σ).2.2.2 = pu_it σ.2.2.2 nr := rfl
theorem nxt_ok {V : Nat → Nat → Int32} {nr m : Nat} {σ : z_S4} (hs : ∀ r, r < nr → 1 ≤ V 4 r) (hm : m < 12) (h : pu_ok V nr m σ) : pu_ok V nr (m + 1) (pu_nxt V nr m σ) := by
  unfold pu_ok at h ⊢
  rw [nxt_4]
  refine ⟨fun r hr => ?_, it_lt h.2 nr⟩
  have j2 := (h.1 r hr).2.1
  have hp := pf_bd (V := V) (nr := nr) (m := m) (L := σ.1) (T := σ.2.1) (P := σ.2.2.1) (x := σ.2.2.2) (r := r)
  have hs1 := s1_bd (V := V) (r := r) (m := m) (b := pu_bb V nr m σ r) (l := σ.1 r) hp
  have e : nI (1200 * (m + 1)) = nI (1200 * m) + 1200 := by rw [show 1200 * (m + 1) = 1200 * m + 1200 by omega, ← nI_add]; rfl
  have hb : nI (1200 * m) ≤ 14400 := nI_le (b := 14400) (by omega) (by omega)
  have h3 := add_bd j2.1 j2.2 hb hs1
  rw [← e] at h3
  rw [nxt_1, nxt_2, nxt_3]
  exact ⟨l1_bd (hs r hr), h3, hp⟩
theorem rs_ok {V : Nat → Nat → Int32} {nr seed : Nat} {P0 : Nat → Int32} (hs : ∀ r, r < nr → 1 ≤ V 4 r) (hP : ∀ r, r < nr → 10 ≤ P0 r ∧ P0 r ≤ 40) (hx : seed < 2147483647) : ∀ m, m ≤ 12 → pu_ok V nr m (pu_rs V nr seed P0 m) := by
  intro m
  induction m with
  | zero =>
    intro _
    refine ⟨fun r hr => ⟨⟨?_, Int32.le_refl _⟩, ⟨Int32.le_refl _, Int32.le_refl _⟩, hP r hr⟩, hx⟩
    have := hs r hr
    show 0 ≤ V 4 r
    grind
  | succ m ih =>
    intro hm
    exact nxt_ok hs (by omega) (ih (by omega))
theorem rv_rcd {V : Nat → Nat → Int32} {nr m : Nat} {σ : z_S4} {M : z_M} {r w : Nat} (h1 : z_Bd V r M r (pu_l1 V r m (pu_P2 V nr m σ r) (pu_bb V nr m σ r) (σ.1 r)) (σ.2.1 r + pu_s1 V r m (pu_P2 V nr m σ r) (pu_bb V nr m σ r) (σ.1 r)) (pu_P2 V nr m σ r)) (h2 : z_Ba V r m M r (pu_P2 V nr m σ r) (pu_bb V nr m σ r) (σ.1 r)) : z_rv M r w = pu_rcd V nr m σ r w := by
  obtain ⟨_, _, _, b3, b4, b5⟩ := h1
  obtain ⟨c6, c7, c8, c9⟩ := h2
  unfold z_rv pu_rcd
  have z01 : ∀ (Q : Prop) [Decidable Q], (if (if Q then (1 : Int32) else 0) = 0 then (0 : Int32) else 1) = if Q then 1 else 0 := by
    intro Q _
    by_cases q : Q
    · rw [if_pos q]; rfl
    · rw [if_neg q]; rfl
  rw [b3, b4, b5, c6, c7, c8, c9, z01, z01, z01]
theorem lX3_rank2 {X : z_Cx} (M : z_M) {n r : Nat} {T : Nat → Int32} (hn : n ≤ 4) (hrn : r < n) (hT : ∀ j, j < n → M.1 29 j 4 = T j ∧ 0 ≤ T j ∧ T j ≤ 14400) (hr : M.1 27 0 1 = nI n) {R : Int32 → z_M → Prop} (hk : z_Run X 0 mX3_rank R 71 [(0, zr 27 0), (1, zr 21 0), (2, zi (nI r)), (3, zi (pu_rank T n r))] [] M) : ∀ (u t : Nat), t + u = n → z_Run X 0 mX3_rank R 15 [(0, zr 27 0), (1, zr 21 0), (2, zi (nI r)), (3, zi (pu_rank T t r)), (4, zi (nI t))] [] M := by
  intro u
  induction u with
  | zero =>
    intro t ht
    have e : t = n := by omega
    subst e
    refine z_go_run KX3_rank [(15, [0, 1, 2, 3, 4]), (71, [0, 1, 2, 3])] 60 ?_
    refine ⟨fun _ => hk, fun h => ?_⟩
    rw [hr] at h
    exact absurd (Int32.le_refl _) h
  | succ u ih =>
    intro t ht
    have es : pu_rank T (t + 1) r = pu_rank T t r + (if T t < T r ∨ (T t = T r ∧ t < r) then 1 else 0) := rfl
    have nx : ∀ x : Int32, x = pu_rank T (t + 1) r → z_Run X 0 mX3_rank R 15 [(0, zr 27 0), (1, zr 21 0), (2, zi (nI r)), (3, zi x), (4, zi (nI t + 1))] [] M := by
      intro x hx
      rw [hx, nI_1]
      exact ih (t + 1) (by omega)
    obtain ⟨a1, a2, a3⟩ := hT r hrn
    obtain ⟨c1, c2, c3⟩ := hT t (by omega)
    have er : M.1 29 ((nI r).toNatClampNeg + 4 * 0) 4 = T r := by rw [nI_clamp (by omega)]; exact a1
    have et : M.1 29 ((nI t).toNatClampNeg + 4 * 0) 4 = T t := by rw [nI_clamp (by omega)]; exact c1
    have d1 : 0 < T r - T t ↔ T t < T r := by
      generalize T r = x at *
      generalize T t = y at *
      constructor <;> intro w <;> grind
    have d2 : T r - T t = 0 ↔ T t = T r := by
      generalize T r = x at *
      generalize T t = y at *
      constructor <;> intro w <;> grind
    refine z_go_run KX3_rank [(15, [0, 1, 2, 3, 4]), (71, [0, 1, 2, 3])] 60 ?_
    refine ⟨fun h => ?_, fun h => ?_⟩
    · rw [hr] at h
      exact absurd h (nI_ge (by omega) (by omega))
    · refine ⟨vp_in_nI (by omega) (by omega), vp_in_nI (by omega) (by omega), ?_⟩
      refine ⟨fun g => ?_, fun g => ?_⟩
      · have g0 : 0 < T r - T t := by rw [← er, ← et]; exact g
        exact nx _ (by rw [es, if_pos (Or.inl (d1.mp g0))])
      · have g' : ¬ T t < T r := fun w => g (by have q := d1.mpr w; rw [← er, ← et] at q; exact q)
        refine ⟨fun g2 => ?_, fun g2 => ?_⟩
        · exact nx _ (by rw [es, if_neg (fun w => w.elim g' (fun w => g2 (by have q := d2.mpr w.1; rw [← er, ← et] at q; exact q))), Int32.add_zero])
        · refine ⟨fun g3 => ?_, fun g3 => ?_⟩
          · exact nx _ (by rw [es, if_neg (fun w => w.elim g' (fun w => absurd g3 (nI_ge w.2 (by omega)))), Int32.add_zero])
          · refine nx _ ?_
            rw [es, if_pos (Or.inr ⟨d2.mp (by rw [← er, ← et]; exact g2), by
              rcases Nat.lt_or_ge t r with w | w
              · exact w
              · exact absurd (nI_le w (by omega)) g3⟩)]
theorem lX3_rank1 {X : z_Cx} (M : z_M) {n : Nat} {T : Nat → Int32} (hn : n ≤ 4) (hT : ∀ j, j < n → M.1 29 j 4 = T j ∧ 0 ≤ T j ∧ T j ≤ 14400) (hr : M.1 27 0 1 = nI n) : ∀ (u t : Nat) (Mc : z_M), t + u = n → z_Fr [24] M Mc → (∀ i, i ≠ 0 → Mc.1 24 i = M.1 24 i) → (∀ j, j < t → Mc.1 24 0 j = pu_rank T n j) → z_Run X 0 mX3_rank (fun _ M' => z_Fr [21, 24] M M' ∧ (∀ j, j < n → M'.1 24 0 j = pu_rank T n j) ∧ M'.1 21 0 2 = nI n ∧ M'.1 21 0 3 = 1 ∧ (∀ i, i ≠ 0 → M'.1 24 i = M.1 24 i) ∧ ∀ i, i ≠ 0 → M'.1 21 i = M.1 21 i) 2 [(0, zr 27 0), (1, zr 21 0), (2, zi (nI t))] [] Mc := by
  intro u
  induction u with
  | zero =>
    intro t Mc ht hF h24 hx
    have e : t = n := by omega
    subst e
    refine z_go_run KX3_rank [(2, [0, 1, 2])] 60 ?_
    have hrc : Mc.1 27 0 1 = nI t := by rw [hF.2 27 (by decide)]; exact hr
    refine ⟨fun _ => ?_, fun h => ?_⟩
    · refine ⟨Or.inr rfl, ((hF.mono (L' := [21, 24]) (by decide)).s (by decide)).s (by decide), fun j hj => ?_, ?_, ?_, fun i hi => ?_, fun i hi => ?_⟩
      · rw [z_gs, if_neg (by omega), z_gs, if_neg (by omega)]
        exact hx j hj
      · rw [z_gs, if_neg (by omega), z_gs, if_pos ⟨rfl, rfl, rfl⟩]
        exact hrc
      · rw [z_gs, if_pos ⟨rfl, rfl, rfl⟩]
      · funext y
        rw [z_gs, if_neg (by omega), z_gs, if_neg (by omega), h24 i hi]
      · funext y
        rw [z_gs, if_neg (by omega), z_gs, if_neg (by omega), hF.2 21 (by decide)]
    · rw [hrc] at h
      exact absurd (Int32.le_refl _) h
  | succ u ih =>
    intro t Mc ht hF h24 hx
    have hrc : Mc.1 27 0 1 = nI n := by rw [hF.2 27 (by decide)]; exact hr
    refine z_go_run KX3_rank [(2, [0, 1, 2]), (15, [0, 1, 2, 3, 4])] 60 ?_
    refine ⟨fun h => ?_, fun h => ?_⟩
    · rw [hrc] at h
      exact absurd h (nI_ge (by omega) (by omega))
    · refine lX3_rank2 (T := T) Mc hn (show t < n by omega) (fun j hj => by rw [hF.2 29 (by decide)]; exact hT j hj) hrc ?_ n 0 (by omega)
      refine z_go_run KX3_rank [(2, [0, 1, 2])] 60 ?_
      refine ⟨vp_in_nI (by omega) (by omega), ?_⟩
      rw [nI_clamp (by omega)]
      have h3 := ih (t + 1) (z_s Mc 24 0 t (pu_rank T n t)) (by omega) (hF.s (by decide)) (fun i hi => by
        funext y
        rw [z_gs, if_neg (by omega), h24 i hi]) (fun j hj => by
        rw [z_gs]
        by_cases e : j = t
        · rw [if_pos ⟨rfl, rfl, e⟩, e]
        · rw [if_neg (fun w => e w.2.2)]
          exact hx j (by omega))
      rw [← nI_1] at h3
      exact h3
theorem hX3_rank {X : z_Cx} (M : z_M) {n : Nat} {T : Nat → Int32} (hn : n ≤ 4) (hT : ∀ j, j < n → M.1 29 j 4 = T j ∧ 0 ≤ T j ∧ T j ≤ 14400) (hr : M.1 27 0 1 = nI n) : z_Con X 0 mX3_rank [zr 27 0, zr 21 0] M (fun _ M' => z_Fr [21, 24] M M' ∧ (∀ j, j < n → M'.1 24 0 j = pu_rank T n j) ∧ M'.1 21 0 2 = nI n ∧ M'.1 21 0 3 = 1 ∧ (∀ i, i ≠ 0 → M'.1 24 i = M.1 24 i) ∧ ∀ i, i ≠ 0 → M'.1 21 i = M.1 21 i) := by
  refine z_mg KX3_rank [(2, [0, 1, 2])] 60 (by decide +kernel) rfl ?_
  exact lX3_rank1 M hn hT hr n 0 M (by omega) z_Fr.refl (fun _ _ => rfl) (fun j hj => absurd hj (Nat.not_lt_zero j))
/-- who is first -/
def pu_win (T : Nat → Int32) : Nat → Nat
  | 0 => 0
  | t + 1 => if T t < T (pu_win T t) then t else pu_win T t
theorem win_ok {T : Nat → Int32} : ∀ n, 1 ≤ n → pu_win T n < n ∧ (∀ o, o < n → ¬ T o < T (pu_win T n)) ∧ ∀ o, o < pu_win T n → T (pu_win T n) < T o := by
  intro n
  induction n with
  | zero => intro h; omega
  | succ n ih =>
    intro _
    rcases Nat.eq_zero_or_pos n with e | e
    · subst e
      have e0 : pu_win T 1 = 0 := by
        show (if T 0 < T 0 then 0 else 0) = 0
        split <;> rfl
      rw [e0]
      exact ⟨by omega, fun o ho => by rw [show o = 0 by omega]; exact Int32.lt_irrefl, fun o ho => by omega⟩
    · obtain ⟨h1, h2, h3⟩ := ih e
      by_cases h : T n < T (pu_win T n)
      · have e2 : pu_win T (n + 1) = n := if_pos h
        rw [e2]
        refine ⟨Nat.lt_succ_self n, fun o ho => ?_, fun o ho => ?_⟩
        · rcases (show o < n ∨ o = n by omega) with w | w
          · have := h2 o w
            grind
          · rw [w]; exact Int32.lt_irrefl
        · have := h2 o ho
          grind
      · have e2 : pu_win T (n + 1) = pu_win T n := if_neg h
        rw [e2]
        refine ⟨by omega, fun o ho => ?_, h3⟩
        rcases (show o < n ∨ o = n by omega) with w | w
        · exact h2 o w
        · rw [w]; exact h
theorem sum01 {f : Nat → Int32} (hf : ∀ o, f o = 0 ∨ f o = 1) : ∀ n, n ≤ 4 → 0 ≤ pu_sum f n ∧ pu_sum f n ≤ nI n ∧ (pu_sum f n = 0 ↔ ∀ o, o < n → f o = 0) := by
  intro n
  induction n with
  | zero => intro _; exact ⟨(show (0 : Int32) ≤ 0 by decide), (show (0 : Int32) ≤ nI 0 by decide), fun _ o ho => absurd ho (Nat.not_lt_zero o), fun _ => rfl⟩
  | succ n ih =>
    intro hn
    obtain ⟨i1, i2, i3⟩ := ih (by omega)
    have hb : nI n ≤ 4 := nI_le (b := 4) (by omega) (by omega)
    have es : pu_sum f (n + 1) = pu_sum f n + f n := rfl
    have en : nI (n + 1) = nI n + 1 := nI_succ n
    rw [es, en]
    rcases hf n with e | e
    · rw [e, Int32.add_zero]
      refine ⟨i1, by grind, fun w o ho => ?_, fun w => i3.mpr (fun o ho => w o (by omega))⟩
      rcases (show o < n ∨ o = n by omega) with q | q
      · exact i3.mp w o q
      · rw [q]; exact e
    · rw [e]
      refine ⟨by grind, by grind, fun w => ?_, fun w => ?_⟩
      · exfalso
        grind
      · have := w n (by omega)
        rw [e] at this
        exact absurd this (by decide)
theorem rank0 {T : Nat → Int32} {n r : Nat} (hn : n ≤ 4) (hr : r < n) : pu_rank T n r = 0 ↔ r = pu_win T n := by
  obtain ⟨h1, h2, h3⟩ := win_ok (T := T) n (by omega)
  have hs := (sum01 (f := fun o => if T o < T r ∨ (T o = T r ∧ o < r) then 1 else 0) (fun o => by split <;> simp) n hn).2.2
  show pu_sum _ n = 0 ↔ _
  rw [hs]
  constructor
  · intro w
    have w1 := w (pu_win T n) h1
    rcases Nat.lt_trichotomy r (pu_win T n) with q | q | q
    · have := h3 r q
      rw [if_pos (Or.inl this)] at w1
      exact absurd w1 (by decide)
    · exact q
    · have h4 := h2 r hr
      by_cases e : T (pu_win T n) < T r
      · rw [if_pos (Or.inl e)] at w1
        exact absurd w1 (by decide)
      · have e2 : T (pu_win T n) = T r := by grind
        rw [if_pos (Or.inr ⟨e2, q⟩)] at w1
        exact absurd w1 (by decide)
  · intro w o ho
    subst w
    rw [if_neg]
    rintro (w | ⟨w1, w2⟩)
    · exact h2 o ho w
    · have := h3 o w2
      rw [w1] at this
      exact Int32.lt_irrefl this
theorem lX6_runnerAt {X : z_Cx} (M : z_M) {n : Nat} {T : Nat → Int32} (hn : n ≤ 4) (hr : M.1 21 0 2 = nI n) (hp : ∀ j, j < n → M.1 24 0 j = pu_rank T n j) : ∀ (u t : Nat), t + u = n → t ≤ pu_win T n → pu_win T n < n → z_Run X 0 mX6_runnerAt (fun v M' => M' = M ∧ v = nI (pu_win T n)) 2 [(0, zr 21 0), (1, zi 0), (2, zi (nI t))] [] M := by
  intro u
  induction u with
  | zero => intro t ht h1 h2; omega
  | succ u ih =>
    intro t ht h1 h2
    refine z_go_run KX6_runnerAt [(2, [0, 1, 2])] 60 ?_
    refine ⟨fun h => ?_, fun h => ?_⟩
    · rw [hr] at h
      exact absurd h (nI_ge (by omega) (by omega))
    · refine ⟨vp_in_nI (by omega) (by omega), ?_⟩
      rw [nI_clamp (by omega), hp t (by omega)]
      have h0 := rank0 (T := T) hn (show t < n by omega)
      refine ⟨fun g => ?_, fun g => ?_⟩
      · have h3 := ih (t + 1) (by omega) (by
          rcases (show t < pu_win T n ∨ t = pu_win T n by omega) with w | w
          · exact w
          · exact absurd (h0.mpr w) g) h2
        rw [← nI_1] at h3
        exact h3
      · exact ⟨rfl, by rw [← h0.mp g]⟩
theorem hX6_runnerAt {X : z_Cx} (M : z_M) {n : Nat} {T : Nat → Int32} (h1 : 1 ≤ n) (hn : n ≤ 4) (hr : M.1 21 0 2 = nI n) (hp : ∀ j, j < n → M.1 24 0 j = pu_rank T n j) : z_Con X 0 mX6_runnerAt [zr 21 0, zi 0] M (fun v M' => M' = M ∧ v = nI (pu_win T n)) := by
  refine z_mg KX6_runnerAt [(2, [0, 1, 2])] 60 (by decide +kernel) rfl ?_
  exact lX6_runnerAt M hn hr hp n 0 (by omega) (Nat.zero_le _) (win_ok n h1).1
