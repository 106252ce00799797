/-! ===== arrays ===== -/
def x_iald : z_X := fun ks _ _ _ ls st M => match st with
  | .inl x :: .inr (.inr (k, i)) :: r => match z_kd k with
    | (tg, t0, n, _, _, _) => bif (Nat.beq tg 1 && Nat.beq t0 0) then vp_in x n ∧ ks ls (zi (M.1 k i x.toNatClampNeg) :: r) M else False
  | _ => False
def x_bald : z_X := fun ks _ _ _ ls st M => match st with
  | .inl x :: .inr (.inr (k, i)) :: r => match z_kd k with
    | (tg, t0, n, _, _, _) => bif (Nat.beq tg 1 && Nat.beq t0 1) then vp_in x n ∧ ks ls (zi (M.1 k i x.toNatClampNeg) :: r) M else False
  | _ => False
def x_zald : z_X := fun ks _ _ _ ls st M => match st with
  | .inl x :: .inr (.inr (k, i)) :: r => match z_kd k with
    | (tg, t0, n, _, _, _) => bif (Nat.beq tg 1 && Nat.beq t0 2) then vp_in x n ∧ ks ls (zi (M.1 k i x.toNatClampNeg) :: r) M else False
  | _ => False
def x_iast : z_X := fun ks _ _ _ ls st M => match st with
  | .inl v :: .inl x :: .inr (.inr (k, i)) :: r => match z_kd k with
    | (tg, t0, n, _, _, _) => bif (Nat.beq tg 1 && Nat.beq t0 0) then vp_in x n ∧ ks ls r (z_s M k i x.toNatClampNeg v) else False
  | _ => False
def x_bast : z_X := fun ks _ _ _ ls st M => match st with
  | .inl v :: .inl x :: .inr (.inr (k, i)) :: r => match z_kd k with
    | (tg, t0, n, _, _, _) => bif (Nat.beq tg 1 && Nat.beq t0 1) then vp_in x n ∧ ks ls r (z_s M k i x.toNatClampNeg v.toInt8.toInt32) else False
  | _ => False
def x_zast : z_X := fun ks _ _ _ ls st M => match st with
  | .inl v :: .inl x :: .inr (.inr (k, i)) :: r => match z_kd k with
    | (tg, t0, n, _, _, _) => bif (Nat.beq tg 1 && Nat.beq t0 2) then vp_in x n ∧ (v = 0 ∨ v = 1) ∧ ks ls r (z_s M k i x.toNatClampNeg v) else False
  | _ => False
def x_aald : z_X := fun ks _ _ _ ls st M => match st with
  | .inl x :: .inr (.inr (k, i)) :: r => match z_kd k with
    | (tg, _, n, a, b, c) => bif Nat.beq tg 2 then vp_in x n ∧ (bif Nat.beq b 0 then (bif Nat.beq c 0 then ks ls (zr a x.toNatClampNeg :: r) M else ks ls (zr a (x.toNatClampNeg + c) :: r) M) else bif Nat.beq c 0 then ks ls (zr a (x.toNatClampNeg + b * i) :: r) M else False) else False
  | _ => False
def x_alen : z_X := fun ks _ _ _ ls st M => match st with
  | .inr (.inr (k, i)) :: r => match z_kd k with
    | (tg, t0, n, _, _, _) => bif (Nat.beq tg 1 && Nat.beq t0 0) then ks ls (zi (nI n) :: r) M else False
  | _ => False
/-- the static arrays, and the script (65, 4) -/
def x_gst (j : Nat) : z_X := fun ks _ _ _ ls st M => ks ls (zr 65 j :: st) M
def x_sald (X : z_Cx) : z_X := fun ks _ _ _ ls st M => match st with
  | .inl x :: .inr (.inr (k, j)) :: r => bif Nat.beq k 65 then vp_in x (z_sN X j) ∧ ks ls (zi (z_sv X j x.toNatClampNeg) :: r) M else False
  | _ => False
def x_slen (X : z_Cx) : z_X := fun ks _ _ _ ls st M => match st with
  | .inr (.inr (k, j)) :: r => bif Nat.beq k 65 then ks ls (zi (nI (z_sN X j)) :: r) M else False
  | _ => False
theorem z_nk {k : Nat} {t : Nat × Nat × Nat × Nat × Nat} {g : Nat} (h : z_kd k = (g, t)) (hg : g < 3) : k < 64 := by
  rcases Nat.lt_or_ge k 64 with h1 | h1
  · exact h1
  · exfalso
    have e : ∀ n, n ≤ 63 → Nat.ble k n = false := by
      intro n hn
      cases hb : Nat.ble k n with
      | false => rfl
      | true => exact absurd (Nat.le_of_ble_eq_true hb) (by omega)
    have h2 : z_kd k = (3, 0, 0, 0, 0, 0) := by
      simp [z_kd, e]
    rw [h2] at h
    have := congrArg Prod.fst h
    simp at this
    omega
theorem z_pa {X : z_Cx} {M : z_M} {k i t0 n a b c : Nat} (hkd : z_kd k = (1, t0, n, a, b, c)) (hi : i < z_cnt k) : ∃ q0 : Nat, z_pl[q0]? = some (k, i) ∧ (z_w X M)[q0]? = some (X.2.2.1 k i, Sum.inl (X.2.2.2.1 t0, n, Sum.inl (M.1 k i))) := by
  obtain ⟨q0, hq⟩ := z_pl_at (z_pl_mem (z_nk hkd (by decide)) hi)
  exact ⟨q0, hq, by rw [z_w_at hq, z_en_p hkd]⟩
theorem z_pset {X : z_Cx} {M : z_M} {k i t0 n a b c q0 j : Nat} {v : Int32} (hkd : z_kd k = (1, t0, n, a, b, c)) (hq : z_pl[q0]? = some (k, i)) : (z_w X M).set q0 (X.2.2.1 k i, .inl (X.2.2.2.1 t0, n, .inl (upd (M.1 k i) j v))) = z_w X (z_s M k i j v) := by
  have h := z_w_set (X := X) (M := M) (M' := z_s M k i j v) hq (fun r hr hne => z_en_congr (z_s_ne hne) rfl rfl)
  rw [z_en_p hkd, z_s_at] at h
  exact h
theorem s_iald {X : z_Cx} {D : Nat} {q : z_MI} {pc : Nat} (hd : decode q.2.1 pc = .ok (.iaload, 1)) : z_Sd X D q pc (pc + 1) x_iald := by
  intro ks kj R ls st M h hs hj p e s m args below meth c Rm cells slots Q C0 H locs la I
  rcases st with _ | ⟨x | x | x, _ | ⟨y | y | ⟨k, i⟩, r⟩⟩ <;> first | exact False.elim h | skip
  unfold x_iald at h
  simp only at h
  cases hkd : z_kd k with
  | mk tg t =>
    obtain ⟨t0, n, a, b, c2⟩ := t
    rw [hkd] at h
    simp only at h
    cases hb : (Nat.beq tg 1 && Nat.beq t0 0) with
    | false => rw [hb] at h; exact False.elim h
    | true =>
      rw [hb] at h
      obtain ⟨hb1, hb2⟩ := Bool.and_eq_true_iff.mp hb
      have e1 := Nat.eq_of_beq_eq_true hb1
      have e2 := Nat.eq_of_beq_eq_true hb2
      subst e1
      subst e2
      obtain ⟨q0, hq, he⟩ := z_pa (X := X) (M := M) hkd I.2.1.2.1
      exact va_iald C0.1 C0.2.1 C0.2.2.2.2.2.1 I.2.2.1 q0 0 he rfl h.1 hd (hs _ _ _ h.2 p e s m args below meth c Rm cells slots Q C0 H locs la ⟨I.1, ⟨trivial, I.2.1.2.2⟩, I.2.2⟩)
theorem s_bald {X : z_Cx} {D : Nat} {q : z_MI} {pc : Nat} (hd : decode q.2.1 pc = .ok (.baload, 1)) : z_Sd X D q pc (pc + 1) x_bald := by
  intro ks kj R ls st M h hs hj p e s m args below meth c Rm cells slots Q C0 H locs la I
  rcases st with _ | ⟨x | x | x, _ | ⟨y | y | ⟨k, i⟩, r⟩⟩ <;> first | exact False.elim h | skip
  unfold x_bald at h
  simp only at h
  cases hkd : z_kd k with
  | mk tg t =>
    obtain ⟨t0, n, a, b, c2⟩ := t
    rw [hkd] at h
    simp only at h
    cases hb : (Nat.beq tg 1 && Nat.beq t0 1) with
    | false => rw [hb] at h; exact False.elim h
    | true =>
      rw [hb] at h
      obtain ⟨hb1, hb2⟩ := Bool.and_eq_true_iff.mp hb
      have e1 := Nat.eq_of_beq_eq_true hb1
      have e2 := Nat.eq_of_beq_eq_true hb2
      subst e1
      subst e2
      obtain ⟨q0, hq, he⟩ := z_pa (X := X) (M := M) hkd I.2.1.2.1
      exact va_bald C0.1 C0.2.1 C0.2.2.2.2.2.1 I.2.2.1 q0 1 he rfl h.1 hd (hs _ _ _ h.2 p e s m args below meth c Rm cells slots Q C0 H locs la ⟨I.1, ⟨trivial, I.2.1.2.2⟩, I.2.2⟩)
theorem s_zald {X : z_Cx} {D : Nat} {q : z_MI} {pc : Nat} (hd : decode q.2.1 pc = .ok (.baload, 1)) : z_Sd X D q pc (pc + 1) x_zald := by
  intro ks kj R ls st M h hs hj p e s m args below meth c Rm cells slots Q C0 H locs la I
  rcases st with _ | ⟨x | x | x, _ | ⟨y | y | ⟨k, i⟩, r⟩⟩ <;> first | exact False.elim h | skip
  unfold x_zald at h
  simp only at h
  cases hkd : z_kd k with
  | mk tg t =>
    obtain ⟨t0, n, a, b, c2⟩ := t
    rw [hkd] at h
    simp only at h
    cases hb : (Nat.beq tg 1 && Nat.beq t0 2) with
    | false => rw [hb] at h; exact False.elim h
    | true =>
      rw [hb] at h
      obtain ⟨hb1, hb2⟩ := Bool.and_eq_true_iff.mp hb
      have e1 := Nat.eq_of_beq_eq_true hb1
      have e2 := Nat.eq_of_beq_eq_true hb2
      subst e1
      subst e2
      obtain ⟨q0, hq, he⟩ := z_pa (X := X) (M := M) hkd I.2.1.2.1
      exact va_zald C0.1 C0.2.1 C0.2.2.2.2.2.1 I.2.2.1 q0 2 he rfl h.1 hd (hs _ _ _ h.2 p e s m args below meth c Rm cells slots Q C0 H locs la ⟨I.1, ⟨trivial, I.2.1.2.2⟩, I.2.2⟩)
theorem s_iast {X : z_Cx} {D : Nat} {q : z_MI} {pc : Nat} (hd : decode q.2.1 pc = .ok (.iastore, 1)) : z_Sd X D q pc (pc + 1) x_iast := by
  intro ks kj R ls st M h hs hj p e s m args below meth c Rm cells slots Q C0 H locs la I
  rcases st with _ | ⟨v | v | v, _ | ⟨x | x | x, _ | ⟨y | y | ⟨k, i⟩, r⟩⟩⟩ <;> first | exact False.elim h | skip
  unfold x_iast at h
  simp only at h
  cases hkd : z_kd k with
  | mk tg t =>
    obtain ⟨t0, n, a, b, c2⟩ := t
    rw [hkd] at h
    simp only at h
    cases hb : (Nat.beq tg 1 && Nat.beq t0 0) with
    | false => rw [hb] at h; exact False.elim h
    | true =>
      rw [hb] at h
      obtain ⟨hb1, hb2⟩ := Bool.and_eq_true_iff.mp hb
      have e1 := Nat.eq_of_beq_eq_true hb1
      have e2 := Nat.eq_of_beq_eq_true hb2
      subst e1
      subst e2
      obtain ⟨q0, hq, he⟩ := z_pa (X := X) (M := M) hkd I.2.1.2.2.1
      exact va_iast C0.1 C0.2.1 C0.2.2.2.2.2.1 I.2.2.1 (z_w_D C0.2.2.2.2.2.2.2.1) I.2.2.2.1 q0 0 he rfl h.1 hd (fun H1 locs1 hP1 _ hS1 => hs _ _ _ h.2 p e s m args below meth c Rm cells slots Q C0 H1 locs1 la ⟨I.1, I.2.1.2.2.2, by rw [z_pset hkd hq] at hP1; exact hP1, hS1, I.2.2.2.2⟩)
theorem s_bast {X : z_Cx} {D : Nat} {q : z_MI} {pc : Nat} (hd : decode q.2.1 pc = .ok (.bastore, 1)) : z_Sd X D q pc (pc + 1) x_bast := by
  intro ks kj R ls st M h hs hj p e s m args below meth c Rm cells slots Q C0 H locs la I
  rcases st with _ | ⟨v | v | v, _ | ⟨x | x | x, _ | ⟨y | y | ⟨k, i⟩, r⟩⟩⟩ <;> first | exact False.elim h | skip
  unfold x_bast at h
  simp only at h
  cases hkd : z_kd k with
  | mk tg t =>
    obtain ⟨t0, n, a, b, c2⟩ := t
    rw [hkd] at h
    simp only at h
    cases hb : (Nat.beq tg 1 && Nat.beq t0 1) with
    | false => rw [hb] at h; exact False.elim h
    | true =>
      rw [hb] at h
      obtain ⟨hb1, hb2⟩ := Bool.and_eq_true_iff.mp hb
      have e1 := Nat.eq_of_beq_eq_true hb1
      have e2 := Nat.eq_of_beq_eq_true hb2
      subst e1
      subst e2
      obtain ⟨q0, hq, he⟩ := z_pa (X := X) (M := M) hkd I.2.1.2.2.1
      exact va_bast C0.1 C0.2.1 C0.2.2.2.2.2.1 I.2.2.1 (z_w_D C0.2.2.2.2.2.2.2.1) I.2.2.2.1 q0 1 he rfl h.1 hd (fun H1 locs1 hP1 _ hS1 => hs _ _ _ h.2 p e s m args below meth c Rm cells slots Q C0 H1 locs1 la ⟨I.1, I.2.1.2.2.2, by rw [z_pset hkd hq] at hP1; exact hP1, hS1, I.2.2.2.2⟩)
theorem z_nz {v : Int32} (h : v = 0 ∨ v = 1) : vp_nar .boolean v = v := by rcases h with e | e <;> rw [e] <;> rfl
theorem s_zast {X : z_Cx} {D : Nat} {q : z_MI} {pc : Nat} (hd : decode q.2.1 pc = .ok (.bastore, 1)) : z_Sd X D q pc (pc + 1) x_zast := by
  intro ks kj R ls st M h hs hj p e s m args below meth c Rm cells slots Q C0 H locs la I
  rcases st with _ | ⟨v | v | v, _ | ⟨x | x | x, _ | ⟨y | y | ⟨k, i⟩, r⟩⟩⟩ <;> first | exact False.elim h | skip
  unfold x_zast at h
  simp only at h
  cases hkd : z_kd k with
  | mk tg t =>
    obtain ⟨t0, n, a, b, c2⟩ := t
    rw [hkd] at h
    simp only at h
    cases hb : (Nat.beq tg 1 && Nat.beq t0 2) with
    | false => rw [hb] at h; exact False.elim h
    | true =>
      rw [hb] at h
      obtain ⟨hb1, hb2⟩ := Bool.and_eq_true_iff.mp hb
      have e1 := Nat.eq_of_beq_eq_true hb1
      have e2 := Nat.eq_of_beq_eq_true hb2
      subst e1
      subst e2
      obtain ⟨q0, hq, he⟩ := z_pa (X := X) (M := M) hkd I.2.1.2.2.1
      exact va_zast C0.1 C0.2.1 C0.2.2.2.2.2.1 I.2.2.1 (z_w_D C0.2.2.2.2.2.2.2.1) I.2.2.2.1 q0 2 he rfl h.1 hd (fun H1 locs1 hP1 _ hS1 => hs _ _ _ h.2.2 p e s m args below meth c Rm cells slots Q C0 H1 locs1 la ⟨I.1, I.2.1.2.2.2, by rw [z_nz h.2.1, z_pset hkd hq] at hP1; exact hP1, hS1, I.2.2.2.2⟩)
theorem s_alen {X : z_Cx} {D : Nat} {q : z_MI} {pc : Nat} (hd : decode q.2.1 pc = .ok (.arraylength, 1)) : z_Sd X D q pc (pc + 1) x_alen := by
  intro ks kj R ls st M h hs hj p e s m args below meth c Rm cells slots Q C0 H locs la I
  rcases st with _ | ⟨x | x | ⟨k, i⟩, r⟩ <;> first | exact False.elim h | skip
  unfold x_alen at h
  simp only at h
  cases hkd : z_kd k with
  | mk tg t =>
    obtain ⟨t0, n, a, b, c2⟩ := t
    rw [hkd] at h
    simp only at h
    cases hb : (Nat.beq tg 1 && Nat.beq t0 0) with
    | false => rw [hb] at h; exact False.elim h
    | true =>
      rw [hb] at h
      obtain ⟨hb1, hb2⟩ := Bool.and_eq_true_iff.mp hb
      have e1 := Nat.eq_of_beq_eq_true hb1
      have e2 := Nat.eq_of_beq_eq_true hb2
      subst e1
      subst e2
      obtain ⟨q0, hq, he⟩ := z_pa (X := X) (M := M) hkd I.2.1.1
      exact va_alen C0.1 C0.2.1 C0.2.2.2.2.2.1 I.2.2.1 q0 0 he (ty := .int) rfl rfl hd (hs _ _ _ h p e s m args below meth c Rm cells slots Q C0 H locs la ⟨I.1, ⟨trivial, I.2.1.2⟩, I.2.2⟩)
theorem s_gst {X : z_Cx} {D : Nat} {q : z_MI} {pc j idx : Nat} (hj4 : j < 4) (hlink : Cond.fieldLink q.1.cls idx (z_sd j).1 (z_sd j).2.1 "[I" ∈ z_U) (hd : decode q.2.1 pc = .ok (.getstatic idx, 3)) : z_Sd X D q pc (pc + 3) (x_gst j) := by
  intro ks kj R ls st M h hs hj p e s m args below meth c Rm cells slots Q C0 H locs la I
  exact va_gets C0.1 C0.2.1 (C0.2.2.2.2.2.2.1.1 j hj4) I.2.2.2.1 C0.2.2.2.1 (C0.2.2.2.2.1 _ hlink) (fun _ h9 => h9) hd (hs _ _ _ h p e s m args below meth c Rm cells slots Q C0 H locs la ⟨I.1, ⟨(show j < z_cnt 65 from Nat.lt_of_lt_of_le hj4 (by decide)), I.2.1⟩, I.2.2⟩)
theorem s_sald {X : z_Cx} {D : Nat} {q : z_MI} {pc : Nat} (hd : decode q.2.1 pc = .ok (.iaload, 1)) : z_Sd X D q pc (pc + 1) (x_sald X) := by
  intro ks kj R ls st M h hs hj p e s m args below meth c Rm cells slots Q C0 H locs la I
  rcases st with _ | ⟨x | x | x, _ | ⟨y | y | ⟨k, j⟩, r⟩⟩ <;> first | exact False.elim h | skip
  unfold x_sald at h
  simp only at h
  cases hb : Nat.beq k 65 with
  | false => rw [hb] at h; exact False.elim h
  | true =>
    rw [hb] at h
    have e1 := Nat.eq_of_beq_eq_true hb
    subst e1
    have hj5 : j < 5 := I.2.1.2.1
    exact va_ti C0.1 C0.2.1 (C0.2.2.2.2.2.2.1.2.1 j hj5) I.2.2.2.1 h.1 rfl hd (hs _ _ _ h.2 p e s m args below meth c Rm cells slots Q C0 H locs la ⟨I.1, ⟨trivial, I.2.1.2.2⟩, I.2.2⟩)
theorem s_slen {X : z_Cx} {D : Nat} {q : z_MI} {pc : Nat} (hd : decode q.2.1 pc = .ok (.arraylength, 1)) : z_Sd X D q pc (pc + 1) (x_slen X) := by
  intro ks kj R ls st M h hs hj p e s m args below meth c Rm cells slots Q C0 H locs la I
  rcases st with _ | ⟨x | x | ⟨k, j⟩, r⟩ <;> first | exact False.elim h | skip
  unfold x_slen at h
  simp only at h
  cases hb : Nat.beq k 65 with
  | false => rw [hb] at h; exact False.elim h
  | true =>
    rw [hb] at h
    have e1 := Nat.eq_of_beq_eq_true hb
    subst e1
    have hj5 : j < 5 := I.2.1.1
    exact va_tlen C0.1 C0.2.1 (C0.2.2.2.2.2.2.1.2.1 j hj5) I.2.2.2.1 rfl hd (hs _ _ _ h p e s m args below meth c Rm cells slots Q C0 H locs la ⟨I.1, ⟨trivial, I.2.1.2⟩, I.2.2⟩)
theorem z_aa {X : z_Cx} {D : Nat} {q : z_MI} {R : Int32 → z_M → Prop} {p : Program} {e : Env} {s : State} {m : MethodId} {args : Array Value} {below : List Frame} {meth : Method} {c : Code} {Rm : Room} {cells slots : Nat} {Q : State → Prop}
    (C0 : z_MC X D q R p e s m args below meth c Rm cells slots Q) {k i t0 n a b c2 pc : Nat} (hkd : z_kd k = (2, t0, n, a, b, c2)) (ht : 3 ≤ t0 ∧ t0 < 8) (hi : i < z_cnt k) (hd : decode q.2.1 pc = .ok (.aaload, 1)) {M : z_M} {H : Heap} {locs : List Loc} {la : Array Slot} {rest : List Value} {x : Int32} (hin : vp_in x n) (hP : va_P X.2.1 vwCl (z_w X M) H)
    (kk : W p X.1 e Rm s m args below meth c H locs cells slots Q (F0 m (pc + 1) la (.ref (X.2.2.1 a (b * i + c2 + x.toNatClampNeg)) :: rest))) : W p X.1 e Rm s m args below meth c H locs cells slots Q (F0 m pc la (.int x :: .ref (X.2.2.1 k i) :: rest)) := by
  obtain ⟨q0, hq⟩ := z_pl_at (z_pl_mem (z_nk hkd (by decide)) hi)
  have he : (z_w X M)[q0]? = _ := (z_w_at hq).trans (congrArg some (z_en_r hkd))
  have hK := C0.2.2.2.2.2.1
  have hlt : x.toNatClampNeg < n := Nat.not_le.mp fun q => hin (Or.inr q)
  have key : ∀ (ty : FieldType), (z_ty X.2.2.2.1)[t0]? = some (X.2.2.2.1 t0, ty) → ty.isReference = true → W p X.1 e Rm s m args below meth c H locs cells slots Q (F0 m pc la (.int x :: .ref (X.2.2.1 k i) :: rest)) := by
    intro ty hty hrf
    exact W.aald (v := .ref (X.2.2.1 a (b * i + c2 + x.toNatClampNeg))) (ty := ty) C0.1 C0.2.1 (hP q0 _ he) ((hK.2 t0 _ hty).1 n (fun j => va_rf (some (X.2.2.1 a (b * i + c2 + j))))) hrf (fun q => by cases q) (by show ¬ (x < 0 ∨ (arrV _ _ _).slots.size ≤ _); rw [arrV_size]; exact hin) (by show (arrV _ _ _).slots[_]? = _; rw [arrV_read _ _ hlt]; rfl) rfl rfl hd kk
  rcases (show t0 = 3 ∨ t0 = 4 ∨ t0 = 5 ∨ t0 = 6 ∨ t0 = 7 by omega) with e | e | e | e | e <;> subst e <;> exact key _ rfl rfl
/-- the arrays of places: their rows are places -/
theorem z_aaT : ∀ k, k < 64 → (z_kd k).1 = 2 → 3 ≤ (z_kd k).2.1 ∧ (z_kd k).2.1 < 8 ∧ ((z_kd k).2.2.2.2.1 * (z_cnt k - 1) + (z_kd k).2.2.2.2.2 + (z_kd k).2.2.1 ≤ z_cnt (z_kd k).2.2.2.1) := by decide +kernel
theorem s_aald {X : z_Cx} {D : Nat} {q : z_MI} {pc : Nat} (hd : decode q.2.1 pc = .ok (.aaload, 1)) : z_Sd X D q pc (pc + 1) x_aald := by
  intro ks kj R ls st M h hs hj p e s m args below meth c Rm cells slots Q C0 H locs la I
  rcases st with _ | ⟨x | x | x, _ | ⟨y | y | ⟨k, i⟩, r⟩⟩ <;> first | exact False.elim h | skip
  unfold x_aald at h
  simp only at h
  cases hkd : z_kd k with
  | mk tg t =>
    obtain ⟨t0, n, a, b, c2⟩ := t
    rw [hkd] at h
    simp only at h
    cases hb : (Nat.beq tg 2) with
    | false => rw [hb] at h; exact False.elim h
    | true =>
      rw [hb] at h
      have e1 := Nat.eq_of_beq_eq_true hb
      subst e1
      obtain ⟨hin, h⟩ := h
      have hT := z_aaT k (z_nk hkd (by decide)) (by rw [hkd])
      rw [hkd] at hT
      obtain ⟨ht1, ht2, ht3⟩ := hT
      simp only at ht1 ht2 ht3
      have hi : i < z_cnt k := I.2.1.2.1
      have hlt : x.toNatClampNeg < n := Nat.not_le.mp fun q => hin (Or.inr q)
      have hok : b * i + c2 + x.toNatClampNeg < z_cnt a := by
        have : b * i ≤ b * (z_cnt k - 1) := Nat.mul_le_mul_left b (by omega)
        omega
      refine z_aa C0 hkd ⟨ht1, ht2⟩ hi hd hin I.2.2.1 ?_
      have go : ∀ v, v = b * i + c2 + x.toNatClampNeg → ks ls (zr a v :: r) M → W p X.1 e Rm s m args below meth c H locs cells slots Q (F0 m (pc + 1) la (.ref (X.2.2.1 a (b * i + c2 + x.toNatClampNeg)) :: z_cs X r)) := by
        intro v hv hk
        rw [← hv]
        exact hs _ _ _ hk p e s m args below meth c Rm cells slots Q C0 H locs la ⟨I.1, ⟨by show v < z_cnt a; rw [hv]; exact hok, I.2.1.2.2⟩, I.2.2⟩
      cases hb0 : Nat.beq b 0 with
      | true =>
        rw [hb0] at h
        have e0 := Nat.eq_of_beq_eq_true hb0
        cases hc0 : Nat.beq c2 0 with
        | true =>
          rw [hc0] at h
          have e2 := Nat.eq_of_beq_eq_true hc0
          exact go x.toNatClampNeg (by rw [e0, e2]; omega) h
        | false =>
          rw [hc0] at h
          exact go (x.toNatClampNeg + c2) (by rw [e0]; omega) h
      | false =>
        rw [hb0] at h
        cases hc0 : Nat.beq c2 0 with
        | true =>
          rw [hc0] at h
          have e2 := Nat.eq_of_beq_eq_true hc0
          exact go (x.toNatClampNeg + b * i) (by rw [e2]; omega) h
        | false => rw [hc0] at h; exact False.elim h
