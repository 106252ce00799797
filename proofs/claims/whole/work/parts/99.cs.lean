/-! ===== what the model has read is the course so far ===== -/
def z_CS (nm nr nb : Nat) (V : Nat → Nat → Int32) (N : Nat → Int32) : Prop :=
  (nm ≤ 12 ∧ nr ≤ 4 ∧ nb ≤ 5 ∧ N 187 = nI nm ∧ N 188 = nI nr ∧ N 189 = nI nb ∧ N 190 = 0) ∧
  (∀ m, m < nm → N (3 * m) = V 0 m ∧ N (3 * m + 1) = V 1 m ∧ N (3 * m + 2) = V 2 m ∧ (-5 ≤ V 0 m ∧ V 0 m ≤ 5) ∧ (0 ≤ V 1 m ∧ V 1 m ≤ 9) ∧ 0 ≤ V 2 m ∧ V 2 m ≤ 9) ∧
  (∀ r, r < nr → N (36 + 4 * r) = V 3 r ∧ N (36 + 4 * r + 1) = V 4 r ∧ N (36 + 4 * r + 2) = V 5 r ∧ N (36 + 4 * r + 3) = V 6 r ∧ (10 ≤ V 3 r ∧ V 3 r ≤ 30) ∧ (∃ n, 1 ≤ n ∧ n ≤ 99 ∧ V 4 r = nI n) ∧ (1 ≤ V 5 r ∧ V 5 r ≤ 9) ∧ ∃ c, c ≤ 6 ∧ V 6 r = nI c) ∧
  (∀ r, r < nr → ∀ k, k < 6 → nI k < V 6 r → N (52 + 30 * r + 5 * k) = V 7 (6 * r + k) ∧ N (52 + 30 * r + 5 * k + 1) = V 8 (6 * r + k) ∧ N (52 + 30 * r + 5 * k + 2) = V 9 (6 * r + k) ∧ V 10 (6 * r + k) = (if N (52 + 30 * r + 5 * k + 3) = 1 then N (52 + 30 * r + 5 * k + 4) else -N (52 + 30 * r + 5 * k + 4)) ∧ -9 ≤ V 10 (6 * r + k) ∧ V 10 (6 * r + k) ≤ 9) ∧
  (∀ b, b < nb → N (172 + 3 * b) = V 11 b ∧ N (172 + 3 * b + 1) = V 12 b ∧ N (172 + 3 * b + 2) = V 13 b ∧ (∃ p, p < 31 ∧ V 11 b = nI (10 + p)) ∧ (∃ t, 1 ≤ t ∧ t ≤ 12 ∧ V 12 b = nI t) ∧ 0 ≤ V 13 b ∧ V 13 b ≤ 99) ∧
  ∀ x, nr ≤ x → x < 4 → V 6 x = 0
theorem CS_CR {nm nr nb : Nat} {V : Nat → Nat → Int32} {N : Nat → Int32} (h : z_CS nm nr nb V N) (h1 : 1 ≤ nm) (h2 : 1 ≤ nr) : z_CR V nm nr nb N := ⟨⟨h.1.1, h.1.2.1, h.1.2.2.1, h.1.2.2.2.1, h.1.2.2.2.2.1, h.1.2.2.2.2.2.1, fun _ => h2, fun _ => h1⟩, h.2.1, h.2.2.1, h.2.2.2.1, h.2.2.2.2.1⟩
theorem CS_0 {V : Nat → Nat → Int32} {N : Nat → Int32} (hV : ∀ j, j < 4 → V 6 j = 0) (hN : ∀ y, y < 479 → N y = 0) : z_CS 0 0 0 V N :=
  ⟨⟨by omega, by omega, by omega, hN 187 (by omega), hN 188 (by omega), hN 189 (by omega), hN 190 (by omega)⟩, fun _ h => absurd h (by omega), fun _ h => absurd h (by omega), fun _ h => absurd h (by omega), fun _ h => absurd h (by omega), fun x _ h => hV x h⟩
theorem nI_rng {x : Int32} {a b : Nat} (ha : a < 2 ^ 31) (hb : b < 2 ^ 31) (h1 : nI a ≤ x) (h2 : x ≤ nI b) : ∃ n, a ≤ n ∧ n ≤ b ∧ x = nI n := by
  have h0 : ¬ x < 0 := Int32.not_lt.2 (Int32.le_trans (nI_pos' ha) h1)
  obtain ⟨j, hj, rfl⟩ := nI_of h0
  exact ⟨j, (nI_leI ha hj).1 h1, (nI_leI hj hb).1 h2, rfl⟩
theorem CS_mile {nm nr nb : Nat} {V V' : Nat → Nat → Int32} {N N' : Nat → Int32} {v1 v2 v3 : Int32} (h : z_CS nm nr nb V N) (hm : nm < 12) (r1 : -5 ≤ v1 ∧ v1 ≤ 5) (r2 : 0 ≤ v2 ∧ v2 ≤ 9) (r3 : 0 ≤ v3 ∧ v3 ≤ 9) (eN : ∀ y, ¬ (3 * nm ≤ y ∧ y ≤ 3 * nm + 2) → y ≠ 187 → N' y = N y) (n1 : N' (3 * nm) = v1) (n2 : N' (3 * nm + 1) = v2) (n3 : N' (3 * nm + 2) = v3) (n4 : N' 187 = nI (nm + 1)) (eV : ∀ f j, ¬ (f ≤ 2 ∧ j = nm) → V' f j = V f j) (w1 : V' 0 nm = v1) (w2 : V' 1 nm = v2) (w3 : V' 2 nm = v3) : z_CS (nm + 1) nr nb V' N' := by
  obtain ⟨⟨a1, a2, a3, a4, a5, a6, a7⟩, hM, hR, hU, hB, hZ⟩ := h
  refine ⟨⟨hm, a2, a3, n4, (eN 188 (by omega) (by omega)).trans a5, (eN 189 (by omega) (by omega)).trans a6, (eN 190 (by omega) (by omega)).trans a7⟩, fun m h => ?_, fun r h => ?_, fun r h k hk g => ?_, fun b h => ?_, fun x h1 h2 => (eV 6 x (by omega)).trans (hZ x h1 h2)⟩
  · by_cases e : m = nm
    · rw [e, n1, n2, n3, w1, w2, w3]
      exact ⟨rfl, rfl, rfl, r1, r2, r3⟩
    · rw [eN (3 * m) (by omega) (by omega), eN (3 * m + 1) (by omega) (by omega), eN (3 * m + 2) (by omega) (by omega), eV 0 m (by omega), eV 1 m (by omega), eV 2 m (by omega)]
      exact hM m (by omega)
  · rw [eN (36 + 4 * r) (by omega) (by omega), eN (36 + 4 * r + 1) (by omega) (by omega), eN (36 + 4 * r + 2) (by omega) (by omega), eN (36 + 4 * r + 3) (by omega) (by omega), eV 3 r (by omega), eV 4 r (by omega), eV 5 r (by omega), eV 6 r (by omega)]
    exact hR r h
  · rw [eV 6 r (by omega)] at g
    rw [eN (52 + 30 * r + 5 * k) (by omega) (by omega), eN (52 + 30 * r + 5 * k + 1) (by omega) (by omega), eN (52 + 30 * r + 5 * k + 2) (by omega) (by omega), eN (52 + 30 * r + 5 * k + 3) (by omega) (by omega), eN (52 + 30 * r + 5 * k + 4) (by omega) (by omega), eV 7 _ (by omega), eV 8 _ (by omega), eV 9 _ (by omega), eV 10 _ (by omega)]
    exact hU r h k hk g
  · rw [eN (172 + 3 * b) (by omega) (by omega), eN (172 + 3 * b + 1) (by omega) (by omega), eN (172 + 3 * b + 2) (by omega) (by omega), eV 11 b (by omega), eV 12 b (by omega), eV 13 b (by omega)]
    exact hB b h
theorem CS_rab {nm nr nb : Nat} {V V' : Nat → Nat → Int32} {N N' : Nat → Int32} {v1 v2 v3 : Int32} (h : z_CS nm nr nb V N) (hm : nb < 5) (r1 : 10 ≤ v1 ∧ v1 ≤ 40) (r2 : 1 ≤ v2 ∧ v2 ≤ 12) (r3 : 0 ≤ v3 ∧ v3 ≤ 99) (eN : ∀ y, ¬ (172 + 3 * nb ≤ y ∧ y ≤ 172 + 3 * nb + 2) → y ≠ 189 → N' y = N y) (n1 : N' (172 + 3 * nb) = v1) (n2 : N' (172 + 3 * nb + 1) = v2) (n3 : N' (172 + 3 * nb + 2) = v3) (n4 : N' 189 = nI (nb + 1)) (eV : ∀ f j, ¬ (11 ≤ f ∧ f ≤ 13 ∧ j = nb) → V' f j = V f j) (w1 : V' 11 nb = v1) (w2 : V' 12 nb = v2) (w3 : V' 13 nb = v3) : z_CS nm nr (nb + 1) V' N' := by
  obtain ⟨⟨a1, a2, a3, a4, a5, a6, a7⟩, hM, hR, hU, hB, hZ⟩ := h
  refine ⟨⟨a1, a2, hm, (eN 187 (by omega) (by omega)).trans a4, (eN 188 (by omega) (by omega)).trans a5, n4, (eN 190 (by omega) (by omega)).trans a7⟩, fun m h => ?_, fun r h => ?_, fun r h k hk g => ?_, fun b h => ?_, fun x h1 h2 => (eV 6 x (by omega)).trans (hZ x h1 h2)⟩
  · rw [eN (3 * m) (by omega) (by omega), eN (3 * m + 1) (by omega) (by omega), eN (3 * m + 2) (by omega) (by omega), eV 0 m (by omega), eV 1 m (by omega), eV 2 m (by omega)]
    exact hM m (by omega)
  · rw [eN (36 + 4 * r) (by omega) (by omega), eN (36 + 4 * r + 1) (by omega) (by omega), eN (36 + 4 * r + 2) (by omega) (by omega), eN (36 + 4 * r + 3) (by omega) (by omega), eV 3 r (by omega), eV 4 r (by omega), eV 5 r (by omega), eV 6 r (by omega)]
    exact hR r h
  · rw [eV 6 r (by omega)] at g
    rw [eN (52 + 30 * r + 5 * k) (by omega) (by omega), eN (52 + 30 * r + 5 * k + 1) (by omega) (by omega), eN (52 + 30 * r + 5 * k + 2) (by omega) (by omega), eN (52 + 30 * r + 5 * k + 3) (by omega) (by omega), eN (52 + 30 * r + 5 * k + 4) (by omega) (by omega), eV 7 _ (by omega), eV 8 _ (by omega), eV 9 _ (by omega), eV 10 _ (by omega)]
    exact hU r h k hk g
  · by_cases e : b = nb
    · rw [e, n1, n2, n3, w1, w2, w3]
      obtain ⟨p, p1, p2, p3⟩ := nI_rng (a := 10) (b := 40) (by omega) (by omega) r1.1 r1.2
      exact ⟨rfl, rfl, rfl, ⟨p - 10, by omega, by rw [p3, show 10 + (p - 10) = p by omega]⟩, nI_rng (a := 1) (b := 12) (by omega) (by omega) r2.1 r2.2, r3⟩
    · rw [eN (172 + 3 * b) (by omega) (by omega), eN (172 + 3 * b + 1) (by omega) (by omega), eN (172 + 3 * b + 2) (by omega) (by omega), eV 11 b (by omega), eV 12 b (by omega), eV 13 b (by omega)]
      exact hB b (by omega)
theorem CS_run {nm nr nb : Nat} {V V' : Nat → Nat → Int32} {N N' : Nat → Int32} {v1 v2 v3 : Int32} (h : z_CS nm nr nb V N) (hm : nr < 4) (r1 : 10 ≤ v1 ∧ v1 ≤ 30) (r2 : 1 ≤ v2 ∧ v2 ≤ 99) (r3 : 1 ≤ v3 ∧ v3 ≤ 9) (eN : ∀ y, ¬ (36 + 4 * nr ≤ y ∧ y ≤ 36 + 4 * nr + 3) → y ≠ 188 → N' y = N y) (n1 : N' (36 + 4 * nr) = v1) (n2 : N' (36 + 4 * nr + 1) = v2) (n3 : N' (36 + 4 * nr + 2) = v3) (n0 : N' (36 + 4 * nr + 3) = 0) (n4 : N' 188 = nI (nr + 1)) (eV : ∀ f j, ¬ (3 ≤ f ∧ f ≤ 5 ∧ j = nr) → V' f j = V f j) (w1 : V' 3 nr = v1) (w2 : V' 4 nr = v2) (w3 : V' 5 nr = v3) : z_CS nm (nr + 1) nb V' N' := by
  obtain ⟨⟨a1, a2, a3, a4, a5, a6, a7⟩, hM, hR, hU, hB, hZ⟩ := h
  have z6 : V' 6 nr = 0 := (eV 6 nr (by omega)).trans (hZ nr (Nat.le_refl _) hm)
  refine ⟨⟨a1, hm, a3, (eN 187 (by omega) (by omega)).trans a4, n4, (eN 189 (by omega) (by omega)).trans a6, (eN 190 (by omega) (by omega)).trans a7⟩, fun m h => ?_, fun r h => ?_, fun r h k hk g => ?_, fun b h => ?_, fun x h1 h2 => (eV 6 x (by omega)).trans (hZ x (by omega) h2)⟩
  · rw [eN (3 * m) (by omega) (by omega), eN (3 * m + 1) (by omega) (by omega), eN (3 * m + 2) (by omega) (by omega), eV 0 m (by omega), eV 1 m (by omega), eV 2 m (by omega)]
    exact hM m (by omega)
  · by_cases e : r = nr
    · rw [e, n1, n2, n3, n0, w1, w2, w3, z6]
      exact ⟨rfl, rfl, rfl, rfl, r1, nI_rng (a := 1) (b := 99) (by omega) (by omega) r2.1 r2.2, r3, 0, by omega, rfl⟩
    · rw [eN (36 + 4 * r) (by omega) (by omega), eN (36 + 4 * r + 1) (by omega) (by omega), eN (36 + 4 * r + 2) (by omega) (by omega), eN (36 + 4 * r + 3) (by omega) (by omega), eV 3 r (by omega), eV 4 r (by omega), eV 5 r (by omega), eV 6 r (by omega)]
      exact hR r (by omega)
  · by_cases e : r = nr
    · rw [e, z6] at g
      exact absurd g (nI_pos (by omega))
    · rw [eV 6 r (by omega)] at g
      rw [eN (52 + 30 * r + 5 * k) (by omega) (by omega), eN (52 + 30 * r + 5 * k + 1) (by omega) (by omega), eN (52 + 30 * r + 5 * k + 2) (by omega) (by omega), eN (52 + 30 * r + 5 * k + 3) (by omega) (by omega), eN (52 + 30 * r + 5 * k + 4) (by omega) (by omega), eV 7 _ (by omega), eV 8 _ (by omega), eV 9 _ (by omega), eV 10 _ (by omega)]
      exact hU r (by omega) k hk g
  · rw [eN (172 + 3 * b) (by omega) (by omega), eN (172 + 3 * b + 1) (by omega) (by omega), eN (172 + 3 * b + 2) (by omega) (by omega), eV 11 b (by omega), eV 12 b (by omega), eV 13 b (by omega)]
    exact hB b h
theorem st_way {st : Int32} {p : Bool} (h : 1 ≤ st ∧ st ≤ 9) : (if p = true then (1 : Int32) else -1) * st = (if pu_b2 p = 1 then st else -st) ∧ -9 ≤ (if p = true then (1 : Int32) else -1) * st ∧ (if p = true then (1 : Int32) else -1) * st ≤ 9 := by
  obtain ⟨j, h1, h2, rfl⟩ := nI_rng (a := 1) (b := 9) (by omega) (by omega) h.1 h.2
  have key : ∀ j, j < 10 → ∀ p : Bool, (if p = true then (1 : Int32) else -1) * nI j = (if pu_b2 p = 1 then nI j else -nI j) ∧ -9 ≤ (if p = true then (1 : Int32) else -1) * nI j ∧ (if p = true then (1 : Int32) else -1) * nI j ≤ 9 := by decide
  exact key j (by omega) p
theorem CS_rule {nm nr nb : Nat} {V V' : Nat → Nat → Int32} {N N' : Nat → Int32} {what n st : Int32} {a p : Bool} (h : z_CS nm nr nb V N) (r c : Nat) (hr : r < nr) (hc : c < 6) (ec : V 6 r = nI c) (r3 : 1 ≤ st ∧ st ≤ 9) (eN : ∀ y, ¬ (52 + 30 * r + 5 * c ≤ y ∧ y ≤ 52 + 30 * r + 5 * c + 4) → y ≠ 36 + 4 * r + 3 → N' y = N y) (n0 : N' (52 + 30 * r + 5 * c) = what) (n1 : N' (52 + 30 * r + 5 * c + 1) = pu_b2 a) (n2 : N' (52 + 30 * r + 5 * c + 2) = n) (n3 : N' (52 + 30 * r + 5 * c + 3) = pu_b2 p) (n4 : N' (52 + 30 * r + 5 * c + 4) = st) (n5 : N' (36 + 4 * r + 3) = nI (c + 1)) (eV : ∀ f j, ¬ (7 ≤ f ∧ f ≤ 10 ∧ j = 6 * r + c) → ¬ (f = 6 ∧ j = r) → V' f j = V f j) (w7 : V' 7 (6 * r + c) = what) (w8 : V' 8 (6 * r + c) = pu_b2 a) (w9 : V' 9 (6 * r + c) = n) (w10 : V' 10 (6 * r + c) = (if p = true then 1 else -1) * st) (w6 : V' 6 r = nI (c + 1)) : z_CS nm nr nb V' N' := by
  obtain ⟨⟨a1, a2, a3, a4, a5, a6, a7⟩, hM, hR, hU, hB, hZ⟩ := h
  refine ⟨⟨a1, a2, a3, (eN 187 (by omega) (by omega)).trans a4, (eN 188 (by omega) (by omega)).trans a5, (eN 189 (by omega) (by omega)).trans a6, (eN 190 (by omega) (by omega)).trans a7⟩, fun m h => ?_, fun x h => ?_, fun x h k hk g => ?_, fun b h => ?_, fun x h1 h2 => (eV 6 x (by omega) (by omega)).trans (hZ x (by omega) h2)⟩
  · rw [eN (3 * m) (by omega) (by omega), eN (3 * m + 1) (by omega) (by omega), eN (3 * m + 2) (by omega) (by omega), eV 0 m (by omega) (by omega), eV 1 m (by omega) (by omega), eV 2 m (by omega) (by omega)]
    exact hM m (by omega)
  · by_cases e : x = r
    · have q := hR r hr
      rw [e, eN (36 + 4 * r) (by omega) (by omega), eN (36 + 4 * r + 1) (by omega) (by omega), eN (36 + 4 * r + 2) (by omega) (by omega), n5, w6, eV 3 r (by omega) (by omega), eV 4 r (by omega) (by omega), eV 5 r (by omega) (by omega)]
      exact ⟨q.1, q.2.1, q.2.2.1, rfl, q.2.2.2.2.1, q.2.2.2.2.2.1, q.2.2.2.2.2.2.1, c + 1, hc, rfl⟩
    · rw [eN (36 + 4 * x) (by omega) (by omega), eN (36 + 4 * x + 1) (by omega) (by omega), eN (36 + 4 * x + 2) (by omega) (by omega), eN (36 + 4 * x + 3) (by omega) (by omega), eV 3 x (by omega) (by omega), eV 4 x (by omega) (by omega), eV 5 x (by omega) (by omega), eV 6 x (by omega) (by omega)]
      exact hR x h
  · by_cases e : x = r ∧ k = c
    · rw [e.1, e.2, n0, n1, n2, n3, n4, w7, w8, w9, w10]
      exact ⟨rfl, rfl, rfl, st_way r3⟩
    · have g2 : nI k < V 6 x := by
        by_cases e2 : x = r
        · rw [e2, w6, nI_ltI (by omega) (by omega)] at g
          rw [e2, ec]
          exact nI_lt (by omega) (by omega)
        · rw [eV 6 x (by omega) (by omega)] at g
          exact g
      rw [eN (52 + 30 * x + 5 * k) (by omega) (by omega), eN (52 + 30 * x + 5 * k + 1) (by omega) (by omega), eN (52 + 30 * x + 5 * k + 2) (by omega) (by omega), eN (52 + 30 * x + 5 * k + 3) (by omega) (by omega), eN (52 + 30 * x + 5 * k + 4) (by omega) (by omega), eV 7 _ (by omega) (by omega), eV 8 _ (by omega) (by omega), eV 9 _ (by omega) (by omega), eV 10 _ (by omega) (by omega)]
      exact hU x h k hk g2
  · rw [eN (172 + 3 * b) (by omega) (by omega), eN (172 + 3 * b + 1) (by omega) (by omega), eN (172 + 3 * b + 2) (by omega) (by omega), eV 11 b (by omega) (by omega), eV 12 b (by omega) (by omega), eV 13 b (by omega) (by omega)]
    exact hB b h
