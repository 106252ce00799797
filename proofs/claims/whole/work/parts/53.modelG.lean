/-! ===== the model: set, drop, copy, feed ===== -/
theorem Sm_there {L S : Nat → Int32} {I : Nat → Nat → Int32} {M : z_M} (hS : z_Sm L S I M) {s : Nat} (hs : s < 8) : (M.1 53 0 s = 0 ↔ L s = -1) := by
  rw [(hS s hs).1]
  by_cases e : L s = -1
  · rw [if_pos e]; exact ⟨fun _ => e, fun _ => rfl⟩
  · rw [if_neg e]; exact ⟨fun w => absurd w (by decide), fun w => absurd w e⟩
theorem hX10_set {X : z_Cx} (M : z_M) {L S : Nat → Int32} {I : Nat → Nat → Int32} (hS : z_Sm L S I M) (s i v : Int32) : z_Con X 2 mX10_set [zr 46 0, zi s, zi i, zi v] M (fun r M' =>
    (¬ (0 ≤ s ∧ s ≤ 7) ∧ r = -1000001 ∧ M' = M) ∨ ((0 ≤ s ∧ s ≤ 7) ∧ ¬ pu_fd L S s i 1 = 0 ∧ r = -1000010 - pu_fd L S s i 1 ∧ M' = z_s M 46 0 7 (pu_fd L S s i 1)) ∨
    ((0 ≤ s ∧ s ≤ 7) ∧ pu_fd L S s i 1 = 0 ∧ ∃ x, x < 40 ∧ i = nI x ∧ r = pu_cut (L s.toNatClampNeg) v ∧ M' = z_s (z_s M 54 0 (40 * s.toNatClampNeg + x) (pu_cut (L s.toNatClampNeg) v)) 46 0 7 0)) := by
  refine z_mg KX10_set [(79, [0, 1, 2, 3])] 80 (by decide +kernel) rfl ?_
  refine z_uR (hX10_isSheet M s) (by decide) ?_
  refine ⟨fun h => ?_, fun h => ?_⟩
  · have hv : 0 ≤ s ∧ s ≤ 7 := by grind
    obtain ⟨x, hx, e1, e2⟩ := s_of hv
    subst e1
    have ht := Sm_there hS hx
    refine ⟨vp_in_nI (by omega) (by omega), ?_⟩
    unfold pu_fd
    rw [e2]
    refine ⟨fun h1 => ?_, fun h1 => ?_⟩
    · have hl : ¬ L x = -1 := fun w => h1 (ht.mpr w)
      obtain ⟨b1, b2, b3, b4⟩ := (hS x hx).2.1 hl
      have e52 : M.1 52 0 (nI x).toNatClampNeg = S x := by rw [e2]; exact b2
      have e51 : M.1 51 0 (nI x).toNatClampNeg = L x := by rw [e2]; exact b1
      refine ⟨vp_in_nI (by omega) (by omega), ?_⟩
      refine z_uR (hX10_inI M i 0 (M.1 52 0 (nI x).toNatClampNeg - 1) (by decide) rfl) (by decide) ?_
      rw [e52]
      refine ⟨fun h2 => ?_, fun h2 => ?_⟩
      · have hi : 0 ≤ i ∧ i ≤ S x - 1 := by grind
        have hf : ¬ (0 ≤ i ∧ 0 ≤ (1 : Int32) ∧ i ≤ S x - 1) → False := fun w => w ⟨hi.1, by decide, hi.2⟩
        obtain ⟨y, hy, ey⟩ := nI_of2 (x := i) (M := 39) (n := 39) (by decide) (Int32.not_lt.mpr hi.1) (by grind)
        subst ey
        have fin : z_Run X 2 mX10_set (fun r M' => (¬ (0 ≤ nI x ∧ nI x ≤ 7) ∧ r = -1000001 ∧ M' = M) ∨ ((0 ≤ nI x ∧ nI x ≤ 7) ∧ ¬ (if L x = -1 then 1 else if 0 ≤ nI y ∧ 0 ≤ (1 : Int32) ∧ nI y ≤ S x - 1 then 0 else 2) = (0 : Int32) ∧ r = -1000010 - (if L x = -1 then 1 else if 0 ≤ nI y ∧ 0 ≤ (1 : Int32) ∧ nI y ≤ S x - 1 then 0 else 2) ∧ M' = z_s M 46 0 7 (if L x = -1 then 1 else if 0 ≤ nI y ∧ 0 ≤ (1 : Int32) ∧ nI y ≤ S x - 1 then 0 else 2)) ∨ ((0 ≤ nI x ∧ nI x ≤ 7) ∧ (if L x = -1 then 1 else if 0 ≤ nI y ∧ 0 ≤ (1 : Int32) ∧ nI y ≤ S x - 1 then 0 else 2) = (0 : Int32) ∧ ∃ z, z < 40 ∧ nI y = nI z ∧ r = pu_cut (L x) v ∧ M' = z_s (z_s M 54 0 (40 * x + z) (pu_cut (L x) v)) 46 0 7 0)) 79 [(0, zr 46 0), (1, zi (nI x)), (2, zi (nI y)), (3, zi v)] [zi (pu_cut (L x) v)] M := by
          refine z_go_run KX10_set [] 80 ?_
          refine ⟨by rw [ixs]; exact vp_in_nI (by omega) (by omega), ?_⟩
          rw [ixs, nI_clamp (by omega)]
          refine z_uW (hX10_through _ _) (by decide) ?_
          refine Or.inr (Or.inr ⟨hv, ?_, y, by omega, rfl, rfl, rfl⟩)
          rw [if_neg hl, if_pos ⟨hi.1, by decide, hi.2⟩]
        refine ⟨vp_in_nI (by omega) (by omega), ?_⟩
        rw [e51]
        refine ⟨fun h3 => ?_, fun h3 => ?_⟩
        · refine ⟨vp_in_nI (by omega) (by omega), ?_⟩
          rw [e51]
          refine ⟨fun h4 => ?_, fun h4 => ?_⟩
          · have e : pu_cut (L x) v = v := by unfold pu_cut; rw [if_neg h3, if_neg h4]
            rw [e] at fin
            rw [e]
            exact fin
          · have e : pu_cut (L x) v = v.toInt16.toInt32 := by unfold pu_cut; rw [if_neg h3, if_pos h4]
            rw [e] at fin
            rw [e]
            exact fin
        · have e : pu_cut (L x) v = v.toInt8.toInt32 := by unfold pu_cut; rw [if_pos h3]
          rw [e] at fin
          rw [e]
          exact fin
      · refine z_uW (hX10_found M 2) (by decide) ?_
        have e : (if L x = -1 then 1 else if 0 ≤ i ∧ 0 ≤ (1 : Int32) ∧ i ≤ S x - 1 then 0 else 2) = (2 : Int32) := by rw [if_neg hl, if_neg (by grind)]
        rw [e]
        exact Or.inr (Or.inl ⟨hv, by decide, rfl, rfl⟩)
    · have hl : L x = -1 := ht.mp h1
      refine z_uW (hX10_found M 1) (by decide) ?_
      rw [if_pos hl]
      exact Or.inr (Or.inl ⟨hv, by decide, rfl, rfl⟩)
  · exact Or.inl ⟨by grind, rfl, rfl⟩
theorem hX10_drop {X : z_Cx} (M : z_M) {L S : Nat → Int32} {I : Nat → Nat → Int32} (hS : z_Sm L S I M) (s : Int32) : z_Con X 2 mX10_drop [zr 46 0, zi s] M (fun r M' =>
    (¬ (0 ≤ s ∧ s ≤ 7) ∧ r = -1000001 ∧ M' = M) ∨ ((0 ≤ s ∧ s ≤ 7) ∧ L s.toNatClampNeg = -1 ∧ r = -1000011 ∧ M' = z_s M 46 0 7 1) ∨
    ((0 ≤ s ∧ s ≤ 7) ∧ ¬ L s.toNatClampNeg = -1 ∧ r = S s.toNatClampNeg ∧ M' = z_s (z_s M 53 0 s.toNatClampNeg 0) 46 0 7 0)) := by
  refine z_mg KX10_drop [] 80 (by decide +kernel) rfl ?_
  refine z_uR (hX10_isSheet M s) (by decide) ?_
  refine ⟨fun h => ?_, fun h => ?_⟩
  · have hv : 0 ≤ s ∧ s ≤ 7 := by grind
    obtain ⟨x, hx, e1, e2⟩ := s_of hv
    subst e1
    have ht := Sm_there hS hx
    refine ⟨vp_in_nI (by omega) (by omega), ?_⟩
    rw [e2]
    refine ⟨fun h1 => ?_, fun h1 => ?_⟩
    · have hl : ¬ L x = -1 := fun w => h1 (ht.mpr w)
      obtain ⟨b1, b2, b3, b4⟩ := (hS x hx).2.1 hl
      refine ⟨vp_in_nI (by omega) (by omega), Or.inl rfl, vp_in_nI (by omega) (by omega), ?_⟩
      rw [e2]
      refine z_uW (hX10_through _ _) (by decide) ?_
      exact Or.inr (Or.inr ⟨hv, hl, b2, rfl⟩)
    · refine z_uW (hX10_found M 1) (by decide) ?_
      exact Or.inr (Or.inl ⟨hv, ht.mp h1, rfl, rfl⟩)
  · exact Or.inl ⟨by grind, rfl, rfl⟩
/-- items copied, t of them, from one end -/
def z_cu (M : z_M) (f g t : Nat) : z_M := z_sr M 54 0 (fun x => if g ≤ x ∧ x < g + t then M.1 54 0 (f + (x - g)) else M.1 54 0 x)
theorem z_cu_s {M : z_M} {f g t : Nat} (h : ¬ (g ≤ f + t ∧ f + t < g + t)) : z_s (z_cu M f g t) 54 0 (g + t) ((z_cu M f g t).1 54 0 (f + t)) = z_cu M f g (t + 1) := by
  unfold z_cu
  rw [z_sr_s, z_gr, if_pos ⟨rfl, rfl⟩, if_neg h]
  congr 1
  funext x
  by_cases e : x = g + t
  · rw [if_pos e, if_pos (by omega), show x - g = t by omega]
  · rw [if_neg e]
    by_cases e2 : g ≤ x ∧ x < g + t
    · rw [if_pos e2, if_pos (by omega)]
    · rw [if_neg e2, if_neg (by omega)]
theorem ixc (a i k : Nat) : 40 * nI a + nI i + nI k = nI (40 * a + i + k) := by rw [ixs, nI_add]
theorem lX10_copyU {X : z_Cx} (M : z_M) (a i b j c : Nat) (ha : a < 8) (hb : b < 8) (hi : i + c ≤ 40) (hj : j + c ≤ 40) (hd : a = b → j ≤ i) {R : Int32 → z_M → Prop} (hk : R (nI c) (z_s (z_cu M (40 * a + i) (40 * b + j) c) 46 0 7 0)) : ∀ (u t : Nat), t + u = c → z_Run X 2 mX10_copy R 154 [(0, zr 46 0), (1, zi (nI a)), (2, zi (nI i)), (3, zi (nI b)), (4, zi (nI j)), (5, zi (nI c)), (6, zi (nI t))] [] (z_cu M (40 * a + i) (40 * b + j) t) := by
  intro u
  induction u with
  | zero =>
    intro t ht
    have e : t = c := by omega
    subst e
    refine z_go_run KX10_copy [(154, [0, 1, 2, 3, 4, 5, 6])] 80 ?_
    refine ⟨fun h => ?_, fun h => absurd (Int32.le_refl _) h⟩
    refine z_uW (hX10_through _ (nI t)) (by decide) ?_
    exact hk
  | succ u ih =>
    intro t ht
    refine z_go_run KX10_copy [(154, [0, 1, 2, 3, 4, 5, 6])] 80 ?_
    refine ⟨fun h => absurd h (nI_ge (by omega) (by omega)), fun h => ?_⟩
    refine ⟨by rw [ixc]; exact vp_in_nI (by omega) (by omega), by rw [ixc]; exact vp_in_nI (by omega) (by omega), ?_⟩
    show z_Run X 2 _ _ 154 [(0, zr 46 0), (1, zi (nI a)), (2, zi (nI i)), (3, zi (nI b)), (4, zi (nI j)), (5, zi (nI c)), (6, zi (nI t + 1))] [] (z_s (z_cu M (40 * a + i) (40 * b + j) t) 54 0 (40 * nI b + nI j + nI t).toNatClampNeg ((z_cu M (40 * a + i) (40 * b + j) t).1 54 0 (40 * nI a + nI i + nI t).toNatClampNeg))
    rw [ixc, ixc, nI_clamp (by omega), nI_clamp (by omega), nI_1, z_cu_s (by
      rcases Nat.lt_trichotomy a b with w | w | w
      · omega
      · have := hd w
        omega
      · omega)]
    exact ih (t + 1) (by omega)
/-- from the other end: those from t on -/
def z_cd (M : z_M) (f g t c : Nat) : z_M := z_sr M 54 0 (fun x => if g + t ≤ x ∧ x < g + c then M.1 54 0 (f + (x - g)) else M.1 54 0 x)
theorem z_cd_s {M : z_M} {f g t c : Nat} (hc : t < c) (h : ¬ (g + (t + 1) ≤ f + t ∧ f + t < g + c)) : z_s (z_cd M f g (t + 1) c) 54 0 (g + t) ((z_cd M f g (t + 1) c).1 54 0 (f + t)) = z_cd M f g t c := by
  unfold z_cd
  rw [z_sr_s, z_gr, if_pos ⟨rfl, rfl⟩, if_neg h]
  congr 1
  funext x
  by_cases e : x = g + t
  · rw [if_pos e, if_pos (by omega), show x - g = t by omega]
  · rw [if_neg e]
    by_cases e2 : g + (t + 1) ≤ x ∧ x < g + c
    · rw [if_pos e2, if_pos (by omega)]
    · rw [if_neg e2, if_neg (by omega)]
theorem lX10_copyD {X : z_Cx} (M : z_M) (a i j c : Nat) (ha : a < 8) (hi : i + c ≤ 40) (hj : j + c ≤ 40) (hd : i < j) {R : Int32 → z_M → Prop} (hk : R (nI c) (z_s (z_cd M (40 * a + i) (40 * a + j) 0 c) 46 0 7 0)) : ∀ (t : Nat), t ≤ c → z_Run X 2 mX10_copy R 108 [(0, zr 46 0), (1, zi (nI a)), (2, zi (nI i)), (3, zi (nI a)), (4, zi (nI j)), (5, zi (nI c)), (6, zi (nI t + (-1)))] [] (z_cd M (40 * a + i) (40 * a + j) t c) := by
  intro t
  induction t with
  | zero =>
    intro ht
    refine z_go_run KX10_copy [(108, [0, 1, 2, 3, 4, 5, 6])] 80 ?_
    refine ⟨fun h => ?_, fun h => absurd (by decide) h⟩
    refine z_uW (hX10_through _ (nI c)) (by decide) ?_
    exact hk
  | succ t ih =>
    intro ht
    rw [z_m1]
    refine z_go_run KX10_copy [(108, [0, 1, 2, 3, 4, 5, 6])] 80 ?_
    refine ⟨fun h => absurd h (nI_pos (by omega)), fun h => ?_⟩
    refine ⟨by rw [ixc]; exact vp_in_nI (by omega) (by omega), by rw [ixc]; exact vp_in_nI (by omega) (by omega), ?_⟩
    show z_Run X 2 _ _ 108 [(0, zr 46 0), (1, zi (nI a)), (2, zi (nI i)), (3, zi (nI a)), (4, zi (nI j)), (5, zi (nI c)), (6, zi (nI t + (-1)))] [] (z_s (z_cd M (40 * a + i) (40 * a + j) (t + 1) c) 54 0 (40 * nI a + nI j + nI t).toNatClampNeg ((z_cd M (40 * a + i) (40 * a + j) (t + 1) c).1 54 0 (40 * nI a + nI i + nI t).toNatClampNeg))
    rw [ixc, ixc, nI_clamp (by omega), nI_clamp (by omega), z_cd_s (by omega) (by omega)]
    exact ih (by omega)
theorem cd0 {M : z_M} {f g c : Nat} : z_cd M f g 0 c = z_cu M f g c := rfl
theorem in_of {S : Nat → Int32} {x : Nat} {i n : Int32} (h : 0 ≤ i ∧ 0 ≤ n ∧ i ≤ S x - n) (hs : 0 ≤ S x ∧ S x ≤ 40) : ∃ y c, i = nI y ∧ n = nI c ∧ y + c ≤ 40 := by
  obtain ⟨y, hy, ey⟩ := nI_of (x := i) (Int32.not_lt.mpr h.1)
  obtain ⟨c, hc, ec⟩ := nI_of (x := n) (Int32.not_lt.mpr h.2.1)
  refine ⟨y, c, ey, ec, ?_⟩
  have h2 := (holds_iff h.1 h.2.1 hs.1 hs.2).mpr h.2.2
  obtain ⟨w, hw, ew⟩ := nI_of2 (x := S x) (M := 40) (n := 40) (by decide) (Int32.not_lt.mpr hs.1) hs.2
  rw [ey, ec, ew, nI_l hy, nI_l hc, nI_l (by omega), lN_add, pk_lLE (by omega) (by omega)] at h2
  omega
theorem hX10_copy {X : z_Cx} (M : z_M) {L S : Nat → Int32} {I : Nat → Nat → Int32} (hS : z_Sm L S I M) (a i b j n : Int32) : z_Con X 2 mX10_copy [zr 46 0, zi a, zi i, zi b, zi j, zi n] M (fun r M' =>
    (¬ ((0 ≤ a ∧ a ≤ 7) ∧ 0 ≤ b ∧ b ≤ 7) ∧ r = -1000001 ∧ M' = M) ∨
    (((0 ≤ a ∧ a ≤ 7) ∧ 0 ≤ b ∧ b ≤ 7) ∧ (L a.toNatClampNeg = -1 ∨ L b.toNatClampNeg = -1) ∧ r = -1000011 ∧ M' = z_s M 46 0 7 1) ∨
    (((0 ≤ a ∧ a ≤ 7) ∧ 0 ≤ b ∧ b ≤ 7) ∧ ¬ (L a.toNatClampNeg = -1 ∨ L b.toNatClampNeg = -1) ∧ ¬ L a.toNatClampNeg = L b.toNatClampNeg ∧ r = -1000015 ∧ M' = z_s M 46 0 7 5) ∨
    (((0 ≤ a ∧ a ≤ 7) ∧ 0 ≤ b ∧ b ≤ 7) ∧ ¬ (L a.toNatClampNeg = -1 ∨ L b.toNatClampNeg = -1) ∧ L a.toNatClampNeg = L b.toNatClampNeg ∧ ¬ ((0 ≤ i ∧ 0 ≤ n ∧ i ≤ S a.toNatClampNeg - n) ∧ 0 ≤ j ∧ 0 ≤ n ∧ j ≤ S b.toNatClampNeg - n) ∧ r = -1000012 ∧ M' = z_s M 46 0 7 2) ∨
    (((0 ≤ a ∧ a ≤ 7) ∧ 0 ≤ b ∧ b ≤ 7) ∧ ¬ (L a.toNatClampNeg = -1 ∨ L b.toNatClampNeg = -1) ∧ L a.toNatClampNeg = L b.toNatClampNeg ∧ (0 ≤ i ∧ 0 ≤ n ∧ i ≤ S a.toNatClampNeg - n) ∧ (0 ≤ j ∧ 0 ≤ n ∧ j ≤ S b.toNatClampNeg - n) ∧ ∃ x y c, i = nI x ∧ j = nI y ∧ n = nI c ∧ x + c ≤ 40 ∧ y + c ≤ 40 ∧ r = n ∧ M' = z_s (z_cu M (40 * a.toNatClampNeg + x) (40 * b.toNatClampNeg + y) c) 46 0 7 0)) := by
  refine z_mg KX10_copy [(108, [0, 1, 2, 3, 4, 5, 6]), (154, [0, 1, 2, 3, 4, 5, 6])] 100 (by decide +kernel) rfl ?_
  refine z_uR (hX10_isSheet M a) (by decide) ?_
  refine ⟨fun h => Or.inl ⟨by grind, rfl, rfl⟩, fun h => ?_⟩
  have hva : 0 ≤ a ∧ a ≤ 7 := by grind
  refine z_uR (hX10_isSheet M b) (by decide) ?_
  refine ⟨fun h1 => ?_, fun h1 => Or.inl ⟨by grind, rfl, rfl⟩⟩
  have hvb : 0 ≤ b ∧ b ≤ 7 := by grind
  obtain ⟨a', ha, ea, ea2⟩ := s_of hva
  obtain ⟨b', hb, eb, eb2⟩ := s_of hvb
  subst ea eb
  have ta := Sm_there hS ha
  have tb := Sm_there hS hb
  rw [ea2, eb2]
  refine ⟨vp_in_nI (by omega) (by omega), ?_⟩
  rw [ea2]
  refine ⟨fun h2 => ?_, fun h2 => ?_⟩
  · refine z_uW (hX10_found M 1) (by decide) ?_
    exact Or.inr (Or.inl ⟨⟨hva, hvb⟩, Or.inl (ta.mp h2), rfl, rfl⟩)
  · refine ⟨vp_in_nI (by omega) (by omega), ?_⟩
    rw [eb2]
    refine ⟨fun h3 => ?_, fun h3 => ?_⟩
    · have la : ¬ L a' = -1 := fun w => h2 (ta.mpr w)
      have lb : ¬ L b' = -1 := fun w => h3 (tb.mpr w)
      have lab : ¬ (L a' = -1 ∨ L b' = -1) := fun w => w.elim la lb
      obtain ⟨p1, p2, p3, p4⟩ := (hS a' ha).2.1 la
      obtain ⟨q1, q2, q3, q4⟩ := (hS b' hb).2.1 lb
      refine ⟨vp_in_nI (by omega) (by omega), vp_in_nI (by omega) (by omega), ?_⟩
      rw [ea2, eb2, p1, q1]
      refine ⟨fun h4 => ?_, fun h4 => ?_⟩
      · refine z_uR (hX10_holds M hS a' ha la i n) (by decide) ?_
        refine ⟨fun h5 => ?_, fun h5 => ?_⟩
        · refine z_uW (hX10_found M 2) (by decide) ?_
          exact Or.inr (Or.inr (Or.inr (Or.inl ⟨⟨hva, hvb⟩, lab, h4, fun w => by rw [if_pos w.1] at h5; exact absurd h5 (by decide), rfl, rfl⟩)))
        · have g1 : 0 ≤ i ∧ 0 ≤ n ∧ i ≤ S a' - n := by grind
          refine z_uR (hX10_holds M hS b' hb lb j n) (by decide) ?_
          refine ⟨fun h6 => ?_, fun h6 => ?_⟩
          · have g2 : 0 ≤ j ∧ 0 ≤ n ∧ j ≤ S b' - n := by grind
            obtain ⟨x, c, ex, ec, hxc⟩ := in_of g1 p4
            obtain ⟨y, c2, ey, ec2, hyc⟩ := in_of g2 q4
            have ecc : c2 = c := by
              rw [ec] at ec2
              exact ((nI_eq (by omega) (by omega)).mp ec2).symm
            subst ecc
            subst ex ey ec
            have up : (a' = b' → y ≤ x) → z_Run X 2 mX10_copy (fun r M' => r = nI c2 ∧ M' = z_s (z_cu M (40 * a' + x) (40 * b' + y) c2) 46 0 7 0) 154 [(0, zr 46 0), (1, zi (nI a')), (2, zi (nI x)), (3, zi (nI b')), (4, zi (nI y)), (5, zi (nI c2)), (6, zi (nI 0))] [] (z_cu M (40 * a' + x) (40 * b' + y) 0) := fun hd => lX10_copyU (X := X) M a' x b' y c2 ha hb hxc hyc hd ⟨rfl, rfl⟩ c2 0 (by omega)
            have e0 : z_cu M (40 * a' + x) (40 * b' + y) 0 = M := z_sr_self (by funext z; rw [if_neg (by omega)])
            rw [e0] at up
            refine ⟨fun h7 => ?_, fun h7 => ?_⟩
            · exact z_Run.post (up (fun w => absurd (by rw [w]) h7)) (fun r M' w => Or.inr (Or.inr (Or.inr (Or.inr ⟨⟨hva, hvb⟩, lab, h4, g1, g2, x, y, c2, rfl, rfl, rfl, hxc, hyc, w.1, w.2⟩))))
            · have hab : a' = b' := (nI_eq (by omega) (by omega)).mp h7
              subst hab
              refine ⟨fun h8 => ?_, fun h8 => ?_⟩
              · exact z_Run.post (up (fun _ => (nI_leI (by omega) (by omega)).mp h8)) (fun r M' w => Or.inr (Or.inr (Or.inr (Or.inr ⟨⟨hva, hvb⟩, lab, h4, g1, g2, x, y, c2, rfl, rfl, rfl, hxc, hyc, w.1, w.2⟩))))
              · have hxy : x < y := by
                  rcases Nat.lt_or_ge x y with w | w
                  · exact w
                  · exact absurd (nI_le w (by omega)) h8
                have dn := lX10_copyD (X := X) (R := fun r M' => r = nI c2 ∧ M' = z_s (z_cu M (40 * a' + x) (40 * a' + y) c2) 46 0 7 0) M a' x y c2 ha hxc hyc hxy ⟨rfl, rfl⟩ c2 (Nat.le_refl c2)
                have e1 : z_cd M (40 * a' + x) (40 * a' + y) c2 c2 = M := z_sr_self (by funext z; rw [if_neg (by omega)])
                rw [e1, ← Int32.sub_eq_add_neg] at dn
                exact z_Run.post dn (fun r M' w => Or.inr (Or.inr (Or.inr (Or.inr ⟨⟨hva, hvb⟩, lab, h4, g1, g2, x, y, c2, rfl, rfl, rfl, hxc, hyc, w.1, w.2⟩))))
          · refine z_uW (hX10_found M 2) (by decide) ?_
            exact Or.inr (Or.inr (Or.inr (Or.inl ⟨⟨hva, hvb⟩, lab, h4, fun w => by rw [if_pos w.2] at h6; exact absurd h6 (by decide), rfl, rfl⟩)))
      · refine z_uW (hX10_found M 5) (by decide) ?_
        exact Or.inr (Or.inr (Or.inl ⟨⟨hva, hvb⟩, lab, h4, rfl, rfl⟩))
    · refine z_uW (hX10_found M 1) (by decide) ?_
      exact Or.inr (Or.inl ⟨⟨hva, hvb⟩, Or.inr (tb.mp h3), rfl, rfl⟩)
