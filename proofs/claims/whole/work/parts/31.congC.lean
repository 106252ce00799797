/-! ===== only the changes of miles and paces that are there count ===== -/
theorem tr_cg {c c' : Nat → Int32} : ∀ (k : Nat) (most : Int32), (∀ b, b < k → c b = c' b) → pu_tr c k most = pu_tr c' k most := by
  intro k
  induction k with
  | zero => intro most _; rfl
  | succ k ih =>
    intro most h
    unfold pu_tr
    rw [h k (by omega), ih _ (fun b hb => h b (by omega)), ih most (fun b hb => h b (by omega))]
theorem la_cg {c c' bh : Nat → Int32} {st left : Int32} : ∀ (L : List Nat) (b : Int32), (∀ k ∈ L, c k = c' k) → pu_la c bh st left L b = pu_la c' bh st left L b := by
  intro L
  induction L with
  | nil => intro b _; rfl
  | cons k r ih =>
    intro b h
    unfold pu_la
    rw [h k List.mem_cons_self, ih _ (fun x hx => h x (List.mem_cons_of_mem _ hx))]
section CG
variable {C C' : Nat → Nat → Int32} {st : Int32} {nm : Nat} (hC : ∀ a, a < nm → ∀ b, b < 31 → C a b = C' a b)
theorem G_cg {C C' : Nat → Nat → Int32} {st : Int32} {nm : Nat} (hC : ∀ a, a < nm → ∀ b, b < 31 → C a b = C' a b) : ∀ d, d ≤ nm → pu_G C st nm d = pu_G C' st nm d := by
  intro d
  induction d with
  | zero => intro _; rfl
  | succ d ih =>
    intro hd
    funext l
    unfold pu_G
    rw [ih (by omega)]
    have e : pu_L C st (nm - (d + 1)) = pu_L C' st (nm - (d + 1)) := tr_cg 31 _ (fun b hb => hC _ (by omega) b hb)
    rw [e]
    exact la_cg _ _ (fun k hk => hC _ (by omega) k (tr_lt 31 _ k hk))
theorem lb_cg {C C' : Nat → Nat → Int32} {st left : Int32} {nm a b : Nat} (hC : ∀ a, a < nm → ∀ b, b < 31 → C a b = C' a b) (ha : a < nm) (hb : b < 31) : pu_lb C st a b left = pu_lb C' st a b left := by
  unfold pu_lb
  rw [hC a ha b hb]
theorem lae_cg {C C' : Nat → Nat → Int32} {st : Int32} {nm b : Nat} (hC : ∀ a, a < nm → ∀ b, b < 31 → C a b = C' a b) (hb : b < 31) : ∀ t, t ≤ nm → pu_lae C st b t = pu_lae C' st b t := by
  intro t
  induction t with
  | zero => intro _; rfl
  | succ t ih =>
    intro ht
    unfold pu_lae
    rw [ih (by omega), lb_cg hC (by omega) hb]
theorem ev_cg {C C' : Nat → Nat → Int32} {st : Int32} {nm : Nat} (hC : ∀ a, a < nm → ∀ b, b < 31 → C a b = C' a b) : ∀ n, n ≤ 31 → pu_ev C st nm n = pu_ev C' st nm n := by
  intro n
  induction n with
  | zero => intro _; rfl
  | succ n ih =>
    intro hn
    unfold pu_ev
    rw [ih (by omega), lae_cg hC (by omega) nm (Nat.le_refl nm)]
theorem lf_cg {C C' : Nat → Nat → Int32} {st : Int32} {nm b : Nat} (hC : ∀ a, a < nm → ∀ b, b < 31 → C a b = C' a b) (h1 : 1 ≤ nm) (hb : b < 31) : pu_lf C st nm b = pu_lf C' st nm b := by
  unfold pu_lf
  rw [lb_cg hC (by omega) hb, G_cg hC (nm - 1) (by omega)]
theorem fp_cg {C C' : Nat → Nat → Int32} {st left : Int32} {nm m : Nat} (hC : ∀ a, a < nm → ∀ b, b < 31 → C a b = C' a b) (hm : m < nm) : ∀ u b, b + u = 31 → pu_fp C st nm m left u b = pu_fp C' st nm m left u b := by
  intro u
  induction u with
  | zero => intro b _; rfl
  | succ u ih =>
    intro b hb
    unfold pu_fp
    rw [ih (b + 1) (by omega), lb_cg hC hm (by omega), G_cg hC (nm - (m + 1)) (by omega), G_cg hC (nm - m) (by omega)]
theorem pb_cg {C C' : Nat → Nat → Int32} {st : Int32} {nm : Nat} (hC : ∀ a, a < nm → ∀ b, b < 31 → C a b = C' a b) : ∀ t, t ≤ nm → pu_pb C st nm t = pu_pb C' st nm t := by
  intro t
  induction t with
  | zero => intro _; rfl
  | succ t ih =>
    intro ht
    unfold pu_pb
    rw [ih (by omega), fp_cg hC (by omega) 31 0 rfl, lb_cg hC (by omega) (fp_lt 31 0 rfl)]
end CG
def pu_C (V : Nat → Nat → Int32) (mh : Nat → Int32) (set : Int32) (nb : Nat) (line fill : Int32) : Nat → Nat → Int32 := fun a b => pu_chg (pu_nd V mh set nb a b) line fill
/-- a runner faces a course: what the memory has then -/
def z_Fc (M M' : z_M) (i r nm nb : Nat) (set : Int32) (mh : Nat → Int32) : Prop := z_Fr [30, 33, 35, 41] M M' ∧ M'.1 30 0 7 = nI nm ∧ M'.1 30 0 9 = M.1 11 i r ∧ M'.1 30 0 10 = M.1 12 i r ∧ (∀ a, a < nm → ∀ b, b < 31 → M'.1 33 a b = pu_nd (z_cv M i) mh set nb a b) ∧ ∀ a, a < nm → ∀ b, b < 31 → M'.1 35 a b = pu_C (z_cv M i) mh set nb (M.1 10 i r) (M.1 12 i r) a b
theorem z_f2_Fc {M M1 : z_M} {i r nm nb : Nat} {set : Int32} {mh : Nat → Int32} (hn : nm ≤ 12) (hF : z_Fr [41] M M1) (hh : ∀ a, a < 12 → M1.1 41 0 a = mh a) : z_Fc M (z_f2 M1 i r nm nb set) i r nm nb set mh := by
  have ecv : z_cv M1 i = z_cv M i := z_cv_c (fun k h1 h2 => by rw [hF.2 k (by simp; omega)])
  have e10 : M1.1 10 i r = M.1 10 i r := by rw [hF.2 10 (by decide)]
  have e11 : M1.1 11 i r = M.1 11 i r := by rw [hF.2 11 (by decide)]
  have e12 : M1.1 12 i r = M.1 12 i r := by rw [hF.2 12 (by decide)]
  have hF' : z_Fr [30, 33, 35, 41] M M1 := hF.mono (by decide)
  have hnd : ∀ a, a < nm → ∀ b, b < 31 → (z_f1 M1 i r nm nb set nm 0).1 33 a b = pu_nd (z_cv M i) mh set nb a b := by
    intro a ha b hb
    show (if (a < nm ∧ b < 31) ∨ (a = nm ∧ b < 0) then pu_nd (z_cv M1 i) (M1.1 41 0) set nb a b else M1.1 33 a b) = _
    rw [if_pos (Or.inl ⟨ha, hb⟩), ecv]
    unfold pu_nd
    rw [hh a (by omega)]
  refine ⟨?_, rfl, e11, e12, hnd, fun a ha b hb => ?_⟩
  · exact (((((hF'.s (by decide)).s (by decide)).s (by decide)).sf (by decide)).s (by decide)).sf (by decide)
  · show (if (a < nm ∧ b < 31) ∨ (a = nm ∧ b < 0) then pu_chg ((z_f1 M1 i r nm nb set nm 0).1 33 a b) (M1.1 10 i r) (M1.1 12 i r) else _) = _
    rw [if_pos (Or.inl ⟨ha, hb⟩), hnd a ha b hb, e10, e12]
    rfl
theorem gX0_face {X : z_Cx} (M : z_M) (i r nm nb : Nat) (set : Int32) (hr : r < 4) (hn : nm ≤ 12) (hb5 : nb ≤ 5) (hb : M.1 6 i 14 = nI nb) (hm : M.1 6 i 1 = nI nm) : z_Con X 3 mX0_face [zr 30 0, zr 6 i, zi (nI r), zi set] M (fun _ M' => z_Fc M M' i r nm nb set (fun _ => 0)) := by
  refine (hX0_face M i r nm nb set hr hn hb5 hb hm).mono (fun _ M' e => ?_)
  rw [e]
  refine z_f2_Fc hn (z_Fr.refl.sr (by decide)) (fun a ha => ?_)
  rw [z_gr, if_pos ⟨rfl, rfl⟩, if_pos ha]
/-- the heats of a row, by the mile -/
def pu_mh (M : z_M) (s : Nat) (x : Int32) (a : Nat) : Int32 := if 0 ≤ x + nI a / 4 ∧ x + nI a / 4 ≤ 39 then M.1 3 s (x + nI a / 4).toNatClampNeg else 0
def z_hh (M : z_M) (s : Nat) (x : Int32) (t : Nat) : z_M := z_sr M 41 0 (fun a => if a < t then pu_mh M s x a else M.1 41 0 a)
theorem z_hh_step {M : z_M} {s t : Nat} {x : Int32} : z_s (z_hh M s x t) 41 0 t (pu_mh M s x t) = z_hh M s x (t + 1) := by
  unfold z_hh
  rw [z_sr_s]
  congr 1
  funext a
  grind
theorem lX0_faceHour {X : z_Cx} (M : z_M) (i r s nm nb : Nat) (x : Int32) (hr : r < 4) (hn : nm ≤ 12) (hb5 : nb ≤ 5) (hb : M.1 6 i 14 = nI nb) (hm : M.1 6 i 1 = nI nm) : ∀ (u t : Nat), t + u = 12 → z_Run X 3 mX0_faceHour (fun _ M' => M' = z_f2 (z_hh M s x 12) i r nm nb 0) 3 [(0, zr 30 0), (1, zr 6 i), (2, zi (nI r)), (3, zr 2 s), (4, zi x), (5, zi (nI t))] [] (z_hh M s x t) := by
  intro u
  induction u with
  | zero =>
    intro t ht
    have e : t = 12 := by omega
    subst e
    refine z_go_run KX0_faceHour [(3, [0, 1, 2, 3, 4, 5])] 60 ?_
    refine ⟨fun h => ?_, fun h => ?_⟩
    · refine z_uV (hX0_faceHeats (z_hh M s x 12) i r nm nb 0 hr hn hb5 hb hm) (by decide) (fun _ => ?_)
      exact rfl
    · exact absurd (by decide) h
  | succ u ih =>
    intro t ht
    have et : (nI t).toNatClampNeg = t := nI_clamp (by omega)
    refine z_go_run KX0_faceHour [(3, [0, 1, 2, 3, 4, 5])] 60 ?_
    refine ⟨fun h => ?_, fun h => ?_⟩
    · exact absurd h (nI_ge (a := t) (b := 12) (by omega) (by omega))
    · refine ⟨by decide, ?_⟩
      refine z_uR (hX7_at s (z_hh M s x t) (x + nI t / 4)) (by decide) ?_
      refine ⟨vp_in_nI (by omega) (by omega), ?_⟩
      have h1 := ih (t + 1) (by omega)
      rw [← z_hh_step (t := t), ← nI_1 t] at h1
      show z_Run X 3 _ _ 3 [(0, zr 30 0), (1, zr 6 i), (2, zi (nI r)), (3, zr 2 s), (4, zi x), (5, zi (nI t + 1))] [] (z_s (z_hh M s x t) 41 0 (nI t).toNatClampNeg (pu_mh M s x t))
      rw [et]
      exact h1
theorem gX0_faceHour {X : z_Cx} (M : z_M) (i r s nm nb : Nat) (x : Int32) (hr : r < 4) (hn : nm ≤ 12) (hb5 : nb ≤ 5) (hb : M.1 6 i 14 = nI nb) (hm : M.1 6 i 1 = nI nm) : z_Con X 3 mX0_faceHour [zr 30 0, zr 6 i, zi (nI r), zr 2 s, zi x] M (fun _ M' => z_Fc M M' i r nm nb 0 (pu_mh M s x)) := by
  have h : z_Con X 3 mX0_faceHour [zr 30 0, zr 6 i, zi (nI r), zr 2 s, zi x] M (fun _ M' => M' = z_f2 (z_hh M s x 12) i r nm nb 0) := by
    refine z_mg KX0_faceHour [(3, [0, 1, 2, 3, 4, 5])] 60 (by decide +kernel) rfl ?_
    have h := lX0_faceHour (X := X) M i r s nm nb x hr hn hb5 hb hm 12 0 rfl
    have e : z_hh M s x 0 = M := z_sr_self (by funext a; exact if_neg (Nat.not_lt_zero a))
    rw [e] at h
    exact h
  refine h.mono (fun _ M' e => ?_)
  rw [e]
  refine z_f2_Fc hn (z_Fr.refl.sr (by decide)) (fun a ha => ?_)
  unfold z_hh
  rw [z_gr, if_pos ⟨rfl, rfl⟩, if_pos ha]
