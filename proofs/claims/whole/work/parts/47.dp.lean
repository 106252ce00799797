/-! ===== alone: what is chosen among few paces is what is chosen among all ===== -/
def pu_tm (C : Nat → Nat → Int32) (st : Int32) (bh : Nat → Int32) (a b : Nat) (left : Int32) : Int32 := if pu_lb C st a b left < 0 then 100000000 else pu_sec b + bh (pu_lb C st a b left).toNatClampNeg
def pu_Hf (f : Nat → Int32) : Nat → Int32
  | 0 => 100000000
  | b + 1 => if f b < pu_Hf f b then f b else pu_Hf f b
def pu_H (C : Nat → Nat → Int32) (st : Int32) (nm : Nat) : Nat → Nat → Int32
  | 0, _ => 0
  | d + 1, l => pu_Hf (fun b => pu_tm C st (pu_H C st nm d) (nm - (d + 1)) b (nI l)) 31
theorem Hf_le {f : Nat → Int32} : ∀ n, pu_Hf f n ≤ 100000000 ∧ ∀ b, b < n → pu_Hf f n ≤ f b := by
  intro n
  induction n with
  | zero => exact ⟨Int32.le_refl _, fun b hb => absurd hb (Nat.not_lt_zero b)⟩
  | succ n ih =>
    unfold pu_Hf
    by_cases h : f n < pu_Hf f n
    · rw [if_pos h]
      refine ⟨by grind, fun b hb => ?_⟩
      rcases (show b < n ∨ b = n by omega) with e | e
      · have := ih.2 b e
        grind
      · rw [e]; exact Int32.le_refl _
    · rw [if_neg h]
      refine ⟨ih.1, fun b hb => ?_⟩
      rcases (show b < n ∨ b = n by omega) with e | e
      · exact ih.2 b e
      · rw [e]; exact Int32.not_lt.mp h
theorem Hf_at {f : Nat → Int32} : ∀ n, pu_Hf f n = 100000000 ∨ ∃ b, b < n ∧ pu_Hf f n = f b := by
  intro n
  induction n with
  | zero => exact Or.inl rfl
  | succ n ih =>
    unfold pu_Hf
    by_cases h : f n < pu_Hf f n
    · rw [if_pos h]; exact Or.inr ⟨n, Nat.lt_succ_self n, rfl⟩
    · rw [if_neg h]
      rcases ih with e | ⟨b, hb, e⟩
      · exact Or.inl e
      · exact Or.inr ⟨b, by omega, e⟩
/-- the time of pace k, where it can be run -/
def pu_vl (c bh : Nat → Int32) (st left : Int32) (k : Nat) : Int32 := pu_sec k + bh (if left + c k < st then left + c k else st).toNatClampNeg
theorem la_le {c bh : Nat → Int32} {st left : Int32} : ∀ (L : List Nat) (b : Int32), pu_la c bh st left L b ≤ b ∧ ∀ k ∈ L, 0 ≤ left + c k → pu_la c bh st left L b ≤ pu_vl c bh st left k := by
  intro L
  induction L with
  | nil => intro b; exact ⟨Int32.le_refl _, fun k hk => absurd hk List.not_mem_nil⟩
  | cons a r ih =>
    intro b
    unfold pu_la
    have key : ∀ x : Int32, x ≤ b → (0 ≤ left + c a → x ≤ pu_vl c bh st left a) → pu_la c bh st left r x ≤ b ∧ ∀ k ∈ a :: r, 0 ≤ left + c k → pu_la c bh st left r x ≤ pu_vl c bh st left k := by
      intro x hx hx2
      have h1 := ih x
      refine ⟨Int32.le_trans h1.1 hx, fun k hk h0 => ?_⟩
      rcases List.mem_cons.mp hk with e | e
      · rw [e] at h0 ⊢
        exact Int32.le_trans h1.1 (hx2 h0)
      · exact h1.2 k e h0
    refine key _ ?_ (fun h0 => ?_)
    · grind
    · rw [if_pos h0]
      show (if pu_vl c bh st left a < b then pu_vl c bh st left a else b) ≤ pu_vl c bh st left a
      grind
theorem la_at {c bh : Nat → Int32} {st left : Int32} : ∀ (L : List Nat) (b : Int32), pu_la c bh st left L b = b ∨ ∃ k ∈ L, 0 ≤ left + c k ∧ pu_la c bh st left L b = pu_vl c bh st left k := by
  intro L
  induction L with
  | nil => intro b; exact Or.inl rfl
  | cons a r ih =>
    intro b
    unfold pu_la
    by_cases h0 : 0 ≤ left + c a
    · rw [if_pos h0]
      show pu_la c bh st left r (if pu_vl c bh st left a < b then pu_vl c bh st left a else b) = b ∨ ∃ k ∈ a :: r, 0 ≤ left + c k ∧ pu_la c bh st left r (if pu_vl c bh st left a < b then pu_vl c bh st left a else b) = pu_vl c bh st left k
      rcases ih (if pu_vl c bh st left a < b then pu_vl c bh st left a else b) with e | ⟨k, hk, h1, e⟩
      · rw [e]
        by_cases h2 : pu_vl c bh st left a < b
        · rw [if_pos h2]; exact Or.inr ⟨a, List.mem_cons_self, h0, rfl⟩
        · rw [if_neg h2]; exact Or.inl rfl
      · exact Or.inr ⟨k, List.mem_cons_of_mem _ hk, h1, e⟩
    · rw [if_neg h0]
      rcases ih b with e | ⟨k, hk, h1, e⟩
      · exact Or.inl e
      · exact Or.inr ⟨k, List.mem_cons_of_mem _ hk, h1, e⟩
theorem tr_dom {c : Nat → Int32} : ∀ (k : Nat) (most : Int32), ∀ b, b < k → c b ≤ most ∨ ∃ k' ∈ pu_tr c k most, b ≤ k' ∧ c b ≤ c k' := by
  intro k
  induction k with
  | zero => intro most b hb; omega
  | succ k ih =>
    intro most b hb
    unfold pu_tr
    by_cases h : most < c k
    · rw [if_pos h]
      rcases (show b < k ∨ b = k by omega) with e | e
      · rcases ih (c k) b e with w | ⟨k', h1, h2, h3⟩
        · exact Or.inr ⟨k, List.mem_cons_self, by omega, w⟩
        · exact Or.inr ⟨k', List.mem_cons_of_mem _ h1, h2, h3⟩
      · rw [e]; exact Or.inr ⟨k, List.mem_cons_self, Nat.le_refl k, Int32.le_refl _⟩
    · rw [if_neg h]
      rcases (show b < k ∨ b = k by omega) with e | e
      · exact ih most b e
      · rw [e]; exact Or.inl (Int32.not_lt.mp h)
theorem sec_nI {b : Nat} (hb : b < 31) : pu_sec b = nI (12000 / (10 + b)) := nI_divN (a := 12000) (by omega) (by omega) (by omega)
theorem sec_bd {b : Nat} (hb : b < 31) : 300 ≤ pu_sec b ∧ pu_sec b ≤ 1200 := by
  have h1 : 12000 / (10 + b) ≤ 12000 / 10 := Nat.div_le_div_left (by omega) (by omega)
  have h2 : 12000 / 40 ≤ 12000 / (10 + b) := Nat.div_le_div_left (by omega) (by omega)
  rw [sec_nI hb]
  exact ⟨nI_le (a := 300) (by omega) (by omega), nI_le (b := 1200) (by omega) (by omega)⟩
theorem sec_fall {b k : Nat} (h : b ≤ k) (hk : k < 31) : pu_sec k ≤ pu_sec b := by
  have h1 : 12000 / (10 + k) ≤ 12000 / (10 + b) := Nat.div_le_div_left (by omega) (by omega)
  have h2 : 12000 / (10 + b) ≤ 12000 / 10 := Nat.div_le_div_left (by omega) (by omega)
  rw [sec_nI hk, sec_nI (show b < 31 by omega)]
  exact nI_le h1 (by omega)
/-- how the class's least time and the model's belong together -/
def pu_GH (d : Nat) (g h : Int32) : Prop := (g = 1000000000 ∧ h = 100000000) ∨ (g = h ∧ 0 ≤ g ∧ g ≤ nI (1200 * d))
theorem then_le {x y st : Int32} {n : Nat} (hs : st = nI n) (hn : n ≤ 99) (h0 : 0 ≤ x) (h : x ≤ y) : (if x < st then x else st).toNatClampNeg ≤ (if y < st then y else st).toNatClampNeg ∧ (if y < st then y else st).toNatClampNeg ≤ n := by
  obtain ⟨a, ha, ea⟩ := nI_of (x := x) (Int32.not_lt.mpr h0)
  obtain ⟨b, hb, eb⟩ := nI_of (x := y) (Int32.not_lt.mpr (Int32.le_trans h0 h))
  subst ea
  subst eb
  rw [nI_leI ha hb] at h
  subst hs
  by_cases h1 : nI a < nI n
  · have h1' := (nI_ltI ha (by omega)).mp h1
    rw [if_pos h1, nI_clamp ha]
    by_cases h2 : nI b < nI n
    · have h2' := (nI_ltI hb (by omega)).mp h2
      rw [if_pos h2, nI_clamp hb]
      omega
    · rw [if_neg h2, nI_clamp (by omega)]
      omega
  · have h1' : n ≤ a := by
      rcases Nat.lt_or_ge a n with w | w
      · exact absurd (nI_lt w (by omega)) h1
      · exact w
    rw [if_neg h1, if_neg (nI_nlt (by omega) hb), nI_clamp (by omega)]
    omega
theorem dp_eq {C : Nat → Nat → Int32} {st : Int32} {nm n : Nat} (hs : st = nI n) (hn : n ≤ 99) (hnm : nm ≤ 12) (hC : ∀ a, a < nm → ∀ b, b < 31 → -10000 ≤ C a b ∧ C a b ≤ 9) : ∀ d, d ≤ nm → (∀ l, l ≤ n → pu_GH d (pu_G C st nm d l) (pu_H C st nm d l)) ∧ ∀ l l', l ≤ l' → l' ≤ n → pu_G C st nm d l' ≤ pu_G C st nm d l := by
  intro d
  induction d with
  | zero => exact fun _ => ⟨fun l _ => Or.inr ⟨rfl, (show (0 : Int32) ≤ 0 by decide), (show (0 : Int32) ≤ nI 0 by decide)⟩, fun l l' _ _ => Int32.le_refl _⟩
  | succ d ih =>
    intro hd
    obtain ⟨i1, i2⟩ := ih (by omega)
    have ha : nm - (d + 1) < nm := by omega
    have hd12 : nI (1200 * d) ≤ 14400 := nI_le (b := 14400) (by omega) (by omega)
    have hd13 : nI (1200 * (d + 1)) = nI (1200 * d) + 1200 := by rw [show 1200 * (d + 1) = 1200 * d + 1200 by omega, ← nI_add]; rfl
    have hd0 : 0 ≤ nI (1200 * d) := nI_pos' (by omega)
    -- a try's value
    have hv : ∀ l, l ≤ n → ∀ k, k < 31 → 0 ≤ nI l + C (nm - (d + 1)) k → (if nI l + C (nm - (d + 1)) k < st then nI l + C (nm - (d + 1)) k else st).toNatClampNeg ≤ n := fun l hl k hk h0 => (then_le hs hn h0 (Int32.le_refl _)).2
    have hlb : ∀ l k, 0 ≤ nI l + C (nm - (d + 1)) k → pu_lb C st (nm - (d + 1)) k (nI l) = (if nI l + C (nm - (d + 1)) k < st then nI l + C (nm - (d + 1)) k else st) := fun l k h0 => if_pos h0
    have hlb0 : ∀ l, l ≤ n → ∀ k, 0 ≤ nI l + C (nm - (d + 1)) k → ¬ pu_lb C st (nm - (d + 1)) k (nI l) < 0 := by
      intro l hl k h0
      rw [hlb l k h0]
      have : 0 ≤ st := by rw [hs]; exact nI_pos' (by omega)
      grind
    have hlbn : ∀ l k, ¬ 0 ≤ nI l + C (nm - (d + 1)) k → pu_lb C st (nm - (d + 1)) k (nI l) < 0 := by
      intro l k h0
      unfold pu_lb
      rw [if_neg h0]
      decide
    -- G's and H's value of one pace
    have hp : ∀ l, l ≤ n → ∀ k, k < 31 → 0 ≤ nI l + C (nm - (d + 1)) k → (1000000000 < pu_vl (C (nm - (d + 1))) (pu_G C st nm d) st (nI l) k ∧ 100000000 < pu_tm C st (pu_H C st nm d) (nm - (d + 1)) k (nI l)) ∨ (pu_vl (C (nm - (d + 1))) (pu_G C st nm d) st (nI l) k = pu_tm C st (pu_H C st nm d) (nm - (d + 1)) k (nI l) ∧ 0 ≤ pu_vl (C (nm - (d + 1))) (pu_G C st nm d) st (nI l) k ∧ pu_vl (C (nm - (d + 1))) (pu_G C st nm d) st (nI l) k ≤ nI (1200 * (d + 1))) := by
      intro l hl k hk h0
      have h1 := i1 _ (hv l hl k hk h0)
      have h2 := sec_bd hk
      unfold pu_tm
      rw [if_neg (hlb0 l hl k h0), hlb l k h0]
      unfold pu_vl
      rcases h1 with ⟨e1, e2⟩ | ⟨e1, e2, e3⟩
      · left
        rw [e1, e2]
        constructor <;> grind
      · right
        rw [← e1, hd13]
        refine ⟨rfl, ?_, ?_⟩ <;> grind
    have hG : ∀ l, pu_G C st nm (d + 1) l = pu_la (C (nm - (d + 1))) (pu_G C st nm d) st (nI l) (pu_L C st (nm - (d + 1))) 1000000000 := fun l => rfl
    have hH : ∀ l, pu_H C st nm (d + 1) l = pu_Hf (fun b => pu_tm C st (pu_H C st nm d) (nm - (d + 1)) b (nI l)) 31 := fun l => rfl
    have hL : ∀ k ∈ pu_L C st (nm - (d + 1)), k < 31 := fun k hk => tr_lt 31 _ k hk
    have hnl : ∀ l, l ≤ n → 0 ≤ nI l ∧ nI l ≤ 99 := fun l hl => ⟨nI_pos' (by omega), nI_le (b := 99) (by omega) (by omega)⟩
    have hst : 0 ≤ st ∧ st ≤ 99 := by rw [hs]; exact hnl n (Nat.le_refl n)
    -- what isn't tried is no better
    have hD : ∀ l, l ≤ n → ∀ b, b < 31 → 0 ≤ nI l + C (nm - (d + 1)) b → ∃ k ∈ pu_L C st (nm - (d + 1)), 0 ≤ nI l + C (nm - (d + 1)) k ∧ pu_vl (C (nm - (d + 1))) (pu_G C st nm d) st (nI l) k ≤ pu_vl (C (nm - (d + 1))) (pu_G C st nm d) st (nI l) b := by
      intro l hl b hb h0
      have hb1 := hC _ ha b hb
      have hl1 := hnl l hl
      have hls : nI l ≤ st := by rw [hs]; exact nI_le hl (by omega)
      rcases tr_dom (c := C (nm - (d + 1))) 31 (-st - 1) b hb with w | ⟨k, h1, h2, h3⟩
      · exfalso
        grind
      · have hk := tr_lt 31 _ k h1
        have hk1 := hC _ ha k hk
        have h4 : nI l + C (nm - (d + 1)) b ≤ nI l + C (nm - (d + 1)) k := by grind
        have h5 := then_le hs hn h0 h4
        have h6 := i2 _ _ h5.1 h5.2
        have h7 := sec_fall h2 hk
        have h8 := i1 _ h5.2
        have h9 := i1 _ (Nat.le_trans h5.1 h5.2)
        have hs1 := sec_bd hk
        have hs2 := sec_bd hb
        refine ⟨k, h1, Int32.le_trans h0 h4, ?_⟩
        unfold pu_vl
        have g1 : ∀ {e g h : Int32}, pu_GH d g h → 0 ≤ g ∧ g ≤ 1000000000 := by
          intro e g h w
          rcases w with ⟨w1, _⟩ | ⟨_, w1, w2⟩
          · rw [w1]; decide
          · exact ⟨w1, by grind⟩
        have q1 := g1 (e := 0) h8
        have q2 := g1 (e := 0) h9
        grind
    refine ⟨fun l hl => ?_, fun l l' hll hl' => ?_⟩
    · have hg := la_le (c := C (nm - (d + 1))) (bh := pu_G C st nm d) (st := st) (left := nI l) (pu_L C st (nm - (d + 1))) 1000000000
      have hh := Hf_le (f := fun b => pu_tm C st (pu_H C st nm d) (nm - (d + 1)) b (nI l)) 31
      rw [← hG l] at hg
      rw [← hH l] at hh
      have big : nI (1200 * (d + 1)) < 100000000 := by rw [hd13]; grind
      -- the least of H is no less than G's
      have up : pu_H C st nm (d + 1) l = 100000000 ∨ (pu_G C st nm (d + 1) l ≤ pu_H C st nm (d + 1) l ∧ pu_H C st nm (d + 1) l ≤ nI (1200 * (d + 1))) := by
        rcases Hf_at (f := fun b => pu_tm C st (pu_H C st nm d) (nm - (d + 1)) b (nI l)) 31 with e | ⟨b, hb, e⟩
        · exact Or.inl e
        · rw [← hH l] at e
          by_cases h0 : 0 ≤ nI l + C (nm - (d + 1)) b
          · rcases hp l hl b hb h0 with ⟨w1, w2⟩ | ⟨w1, w2, w3⟩
            · exfalso
              have := hh.1
              rw [e] at this
              grind
            · obtain ⟨k, h1, h2, h3⟩ := hD l hl b hb h0
              have h4 := hg.2 k h1 h2
              right
              rw [e]
              show pu_G C st nm (d + 1) l ≤ pu_tm C st (pu_H C st nm d) (nm - (d + 1)) b (nI l) ∧ pu_tm C st (pu_H C st nm d) (nm - (d + 1)) b (nI l) ≤ nI (1200 * (d + 1))
              rw [← w1]
              exact ⟨Int32.le_trans h4 h3, w3⟩
          · left
            rw [e]
            show pu_tm C st (pu_H C st nm d) (nm - (d + 1)) b (nI l) = 100000000
            unfold pu_tm
            rw [if_pos (hlbn l b h0)]
      rcases la_at (c := C (nm - (d + 1))) (bh := pu_G C st nm d) (st := st) (left := nI l) (pu_L C st (nm - (d + 1))) 1000000000 with e | ⟨k, hk, h0, e⟩
      · rw [← hG l] at e
        left
        refine ⟨e, ?_⟩
        rcases up with w | ⟨w1, w2⟩
        · exact w
        · exfalso
          rw [e] at w1
          grind
      · rw [← hG l] at e
        rcases hp l hl k (hL k hk) h0 with ⟨w1, w2⟩ | ⟨w1, w2, w3⟩
        · exfalso
          have := hg.1
          rw [e] at this
          grind
        · right
          have h5 := hh.2 k (hL k hk)
          have h6 : pu_H C st nm (d + 1) l ≤ pu_G C st nm (d + 1) l := by rw [e, w1]; exact h5
          rcases up with w | ⟨u1, u2⟩
          · exfalso
            rw [e] at h6
            grind
          · exact ⟨by grind, by rw [e]; exact w2, by rw [e]; exact w3⟩
    · have hg := la_le (c := C (nm - (d + 1))) (bh := pu_G C st nm d) (st := st) (left := nI l') (pu_L C st (nm - (d + 1))) 1000000000
      rw [← hG l'] at hg
      rcases la_at (c := C (nm - (d + 1))) (bh := pu_G C st nm d) (st := st) (left := nI l) (pu_L C st (nm - (d + 1))) 1000000000 with e | ⟨k, hk, h0, e⟩
      · rw [← hG l] at e
        rw [e]
        exact hg.1
      · rw [← hG l] at e
        have hk31 := hL k hk
        have hc := hC _ ha k hk31
        have b1 := hnl l (by omega)
        have b2 := hnl l' hl'
        have b3 : nI l ≤ nI l' := nI_le hll (by omega)
        have h1 : nI l + C (nm - (d + 1)) k ≤ nI l' + C (nm - (d + 1)) k := by grind
        have h2 := then_le hs hn h0 h1
        have h3 := i2 _ _ h2.1 h2.2
        have h4 := hg.2 k hk (Int32.le_trans h0 h1)
        have q1 := i1 _ h2.2
        have q2 := i1 _ (Nat.le_trans h2.1 h2.2)
        have hs1 := sec_bd hk31
        rw [e]
        refine Int32.le_trans h4 ?_
        unfold pu_vl
        have g1 : ∀ {g h : Int32}, pu_GH d g h → 0 ≤ g ∧ g ≤ 1000000000 := by
          intro g h w
          rcases w with ⟨w1, _⟩ | ⟨_, w1, w2⟩
          · rw [w1]; decide
          · exact ⟨w1, by grind⟩
        have p1 := g1 q1
        have p2 := g1 q2
        grind
