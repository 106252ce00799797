/-! ===== Math, System.arraycopy, switches, tables ===== -/
def x_min : z_X := fun ks _ _ _ ls st M => match st with
  | .inl y :: .inl x :: r => bif Nat.ble (z_wd r) 8 then ks ls (zi (if y < x then y else x) :: r) M else False
  | _ => False
def x_max : z_X := fun ks _ _ _ ls st M => match st with
  | .inl y :: .inl x :: r => bif Nat.ble (z_wd r) 8 then ks ls (zi (if x < y then y else x) :: r) M else False
  | _ => False
def x_abs : z_X := fun ks _ _ _ ls st M => match st with
  | .inl x :: r => bif Nat.ble (z_wd r) 8 then ks ls (zi (if 0 ≤ x then x else 0 - x) :: r) M else False
  | _ => False
def z_mw (q : z_MI) (idx : Nat) (y : MethodName) (b : ByteArray) (n : Nat) : Prop := Cond.methodLink q.1.cls idx y ∈ z_U ∧ Cond.static y ∈ z_U ∧ Cond.initialized "java/lang/Math" ∈ z_U ∧ Cond.code y b n (some .int) ∈ z_U
theorem s_min {X : z_Cx} {D : Nat} {q : z_MI} {pc idx : Nat} (hw : z_mw q idx Lib.Math.min.name Lib.Math.min.code 2) (hd : decode q.2.1 pc = .ok (.invokestatic idx, 3)) : z_Sd X D q pc (pc + 3) x_min := by
  intro ks kj R ls st M h hs hj p e s m args below meth c Rm cells slots Q C0 H locs la I
  rcases st with _ | ⟨y | y | y, _ | ⟨x | x | x, r⟩⟩ <;> first | exact False.elim h | skip
  unfold x_min at h
  simp only at h
  cases hb : Nat.ble (z_wd r) 8 with
  | false => rw [hb] at h; exact False.elim h
  | true =>
    rw [hb] at h
    have hwd := Nat.le_of_ble_eq_true hb
    have hts := C0.2.2.2.2.1
    obtain ⟨r1, r2, r3, r4⟩ := C0.2.2.2.2.2.2.2.2.1
    exact va_mmin C0.1 C0.2.1 (by rw [C0.2.2.1]; exact I.2.2.2.2.1.symm) C0.2.2.2.1 (hts _ hw.1) (hts _ hw.2.1) (hts _ hw.2.2.1) (hts _ hw.2.2.2) (by omega) (by rw [show (List.map (fun v => v.category) (List.map (z_co X.2.2.1) r)).sum = z_wd r from z_wd_cs (X := X) r]; omega) r3 r4 hd (hs _ _ _ h p e s m args below meth c Rm cells slots Q C0 H locs la ⟨I.1, ⟨trivial, I.2.1.2.2⟩, I.2.2⟩)
theorem s_max {X : z_Cx} {D : Nat} {q : z_MI} {pc idx : Nat} (hw : z_mw q idx Lib.Math.max.name Lib.Math.max.code 2) (hd : decode q.2.1 pc = .ok (.invokestatic idx, 3)) : z_Sd X D q pc (pc + 3) x_max := by
  intro ks kj R ls st M h hs hj p e s m args below meth c Rm cells slots Q C0 H locs la I
  rcases st with _ | ⟨y | y | y, _ | ⟨x | x | x, r⟩⟩ <;> first | exact False.elim h | skip
  unfold x_max at h
  simp only at h
  cases hb : Nat.ble (z_wd r) 8 with
  | false => rw [hb] at h; exact False.elim h
  | true =>
    rw [hb] at h
    have hwd := Nat.le_of_ble_eq_true hb
    have hts := C0.2.2.2.2.1
    obtain ⟨r1, r2, r3, r4⟩ := C0.2.2.2.2.2.2.2.2.1
    exact va_mmax C0.1 C0.2.1 (by rw [C0.2.2.1]; exact I.2.2.2.2.1.symm) C0.2.2.2.1 (hts _ hw.1) (hts _ hw.2.1) (hts _ hw.2.2.1) (hts _ hw.2.2.2) (by omega) (by rw [show (List.map (fun v => v.category) (List.map (z_co X.2.2.1) r)).sum = z_wd r from z_wd_cs (X := X) r]; omega) r3 r4 hd (hs _ _ _ h p e s m args below meth c Rm cells slots Q C0 H locs la ⟨I.1, ⟨trivial, I.2.1.2.2⟩, I.2.2⟩)
theorem s_abs {X : z_Cx} {D : Nat} {q : z_MI} {pc idx : Nat} (hw : z_mw q idx Lib.Math.abs.name Lib.Math.abs.code 1) (hd : decode q.2.1 pc = .ok (.invokestatic idx, 3)) : z_Sd X D q pc (pc + 3) x_abs := by
  intro ks kj R ls st M h hs hj p e s m args below meth c Rm cells slots Q C0 H locs la I
  rcases st with _ | ⟨x | x | x, r⟩ <;> first | exact False.elim h | skip
  unfold x_abs at h
  simp only at h
  cases hb : Nat.ble (z_wd r) 8 with
  | false => rw [hb] at h; exact False.elim h
  | true =>
    rw [hb] at h
    have hwd := Nat.le_of_ble_eq_true hb
    have hts := C0.2.2.2.2.1
    obtain ⟨r1, r2, r3, r4⟩ := C0.2.2.2.2.2.2.2.2.1
    exact va_mabs C0.1 C0.2.1 (by rw [C0.2.2.1]; exact I.2.2.2.2.1.symm) C0.2.2.2.1 (hts _ hw.1) (hts _ hw.2.1) (hts _ hw.2.2.1) (hts _ hw.2.2.2) (by omega) (by rw [show (List.map (fun v => v.category) (List.map (z_co X.2.2.1) r)).sum = z_wd r from z_wd_cs (X := X) r]; omega) r3 r4 hd (hs _ _ _ h p e s m args below meth c Rm cells slots Q C0 H locs la ⟨I.1, ⟨trivial, I.2.1.2⟩, I.2.2⟩)
/-- a row of memory in place of another -/
def z_sr (M : z_M) (k i : Nat) (f : Nat → Int32) : z_M := (fun k' i' j' => if k' = k ∧ i' = i then f j' else M.1 k' i' j', M.2)
theorem z_sr_ne {M : z_M} {k i : Nat} {f : Nat → Int32} {q : Nat × Nat} (h : q ≠ (k, i)) : (z_sr M k i f).1 q.1 q.2 = M.1 q.1 q.2 := by
  funext x
  show (if q.1 = k ∧ q.2 = i then f x else M.1 q.1 q.2 x) = _
  rw [if_neg]
  rintro ⟨h1, h2⟩
  exact h (Prod.ext h1 h2)
theorem z_sr_at {M : z_M} {k i : Nat} {f : Nat → Int32} : (z_sr M k i f).1 k i = f := by
  funext x
  exact if_pos ⟨rfl, rfl⟩
theorem z_psetr {X : z_Cx} {M : z_M} {k i t0 n a b c q0 : Nat} {f : Nat → Int32} (hkd : z_kd k = (1, t0, n, a, b, c)) (hq : z_pl[q0]? = some (k, i)) : (z_w X M).set q0 (X.2.2.1 k i, .inl (X.2.2.2.1 t0, n, .inl f)) = z_w X (z_sr M k i f) := by
  have h := z_w_set (X := X) (M := M) (M' := z_sr M k i f) hq (fun r hr hne => z_en_congr (z_sr_ne hne) rfl rfl)
  rw [z_en_p hkd, z_sr_at] at h
  exact h
def x_cpy : z_X := fun ks _ _ _ ls st M => match st with
  | .inl n :: .inl dp :: .inr (.inr (k1, i1)) :: .inl sp :: .inr (.inr (k0, i0)) :: r => match z_kd k0 with
    | (tg0, t0, n0, _, _, _) => match z_kd k1 with
      | (tg1, t1, n1, _, _, _) => bif (Nat.beq tg0 1 && Nat.beq t0 0 && Nat.beq tg1 1 && Nat.beq t1 0 && Nat.ble (z_wd r) 8) then (¬ sp < 0 ∧ ¬ dp < 0 ∧ ¬ n < 0 ∧ sp.toNatClampNeg + n.toNatClampNeg ≤ n0 ∧ dp.toNatClampNeg + n.toNatClampNeg ≤ n1) ∧ ks ls r (z_sr M k1 i1 (va_cpy (M.1 k0 i0) (M.1 k1 i1) sp.toNatClampNeg dp.toNatClampNeg n.toNatClampNeg)) else False
  | _ => False
theorem s_cpy {X : z_Cx} {D : Nat} {q : z_MI} {pc idx : Nat} (hw : Cond.methodLink q.1.cls idx arraycopyName ∈ z_U ∧ Cond.native arraycopyName ∈ z_U ∧ Cond.static arraycopyName ∈ z_U ∧ Cond.initialized "java/lang/System" ∈ z_U) (hd : decode q.2.1 pc = .ok (.invokestatic idx, 3)) : z_Sd X D q pc (pc + 3) x_cpy := by
  intro ks kj R ls st M h hs hj p e s m args below meth c Rm cells slots Q C0 H locs la I
  rcases st with _ | ⟨n | n | n, _ | ⟨dp | dp | dp, _ | ⟨y | y | ⟨k1, i1⟩, _ | ⟨sp | sp | sp, _ | ⟨z | z | ⟨k0, i0⟩, r⟩⟩⟩⟩⟩ <;> first | exact False.elim h | skip
  unfold x_cpy at h
  simp only at h
  cases hkd0 : z_kd k0 with
  | mk tg0 t0 =>
    obtain ⟨t0, n0, a0, b0, c0⟩ := t0
    cases hkd1 : z_kd k1 with
    | mk tg1 t1 =>
      obtain ⟨t1, n1, a1, b1, c1⟩ := t1
      rw [hkd0, hkd1] at h
      simp only at h
      cases hb : (Nat.beq tg0 1 && Nat.beq t0 0 && Nat.beq tg1 1 && Nat.beq t1 0 && Nat.ble (z_wd r) 8) with
      | false => rw [hb] at h; exact False.elim h
      | true =>
        rw [hb] at h
        simp only [Bool.and_eq_true] at hb
        obtain ⟨⟨⟨⟨g1, g2⟩, g3⟩, g4⟩, g5⟩ := hb
        have e1 := Nat.eq_of_beq_eq_true g1
        have e2 := Nat.eq_of_beq_eq_true g2
        have e3 := Nat.eq_of_beq_eq_true g3
        have e4 := Nat.eq_of_beq_eq_true g4
        have hwd := Nat.le_of_ble_eq_true g5
        subst e1 e2 e3 e4
        have hts := C0.2.2.2.2.1
        obtain ⟨r1, r2, r3, r4⟩ := C0.2.2.2.2.2.2.2.2.1
        obtain ⟨⟨v1, v2, v3, v4, v5⟩, h⟩ := h
        obtain ⟨q0, hq0, he0⟩ := z_pa (X := X) (M := M) hkd0 I.2.1.2.2.2.2.1
        obtain ⟨q1, hq1, he1⟩ := z_pa (X := X) (M := M) hkd1 I.2.1.2.2.1
        exact va_copyi C0.1 C0.2.1 (by rw [C0.2.2.1]; exact I.2.2.2.2.1.symm) C0.2.2.2.1 (hts _ hw.1) (hts _ hw.2.1) (hts _ hw.2.2.1) (hts _ hw.2.2.2) C0.2.2.2.2.2.1 I.2.2.1 (z_w_D C0.2.2.2.2.2.2.2.1) I.2.2.2.1 q0 q1 0 0 he0 he1 (ty := .int) rfl rfl rfl v1 v2 v3 v4 v5 (fun _ _ => rfl) (by omega) (by rw [show (List.map (fun v => v.category) (List.map (z_co X.2.2.1) r)).sum = z_wd r from z_wd_cs (X := X) r]; show z_wd r + (7 + 11) ≤ _; omega) hd (fun H1 locs1 hP1 _ hS1 => hs _ _ _ h p e s m args below meth c Rm cells slots Q C0 H1 locs1 la ⟨I.1, I.2.1.2.2.2.2.2, by rw [z_psetr hkd1 hq1] at hP1; exact hP1, hS1, I.2.2.2.2⟩)
/-- a switch over a table -/
def z_sw (kj : Nat → Prop) (x : Int32) (dflt : Nat) : List (Int32 × Nat) → Prop
  | [] => kj dflt
  | (v, t) :: r => (x = v → kj t) ∧ (¬ x = v → z_sw kj x dflt r)
def x_tsw (cs : List (Int32 × Nat)) (dflt : Nat) : z_X := fun _ kj _ _ ls st M => match st with
  | .inl x :: r => z_sw (fun t => kj t ls r M) x dflt cs
  | _ => False
theorem z_sw_in {kj : Nat → Prop} {x : Int32} {dflt : Nat} : ∀ {cs : List (Int32 × Nat)}, z_sw kj x dflt cs → (∃ t, (x, t) ∈ cs ∧ kj t) ∨ ((∀ q ∈ cs, ¬ x = q.1) ∧ kj dflt) := by
  intro cs
  induction cs with
  | nil => exact fun h => Or.inr ⟨fun q hq => (by cases hq), h⟩
  | cons q r ih =>
    obtain ⟨v, t⟩ := q
    intro h
    by_cases e : x = v
    · exact Or.inl ⟨t, by rw [e]; exact List.mem_cons_self, h.1 e⟩
    · rcases ih (h.2 e) with ⟨t, h1, h2⟩ | ⟨h1, h2⟩
      · exact Or.inl ⟨t, List.mem_cons_of_mem _ h1, h2⟩
      · exact Or.inr ⟨fun a ha => (List.mem_cons.mp ha).elim (fun w => w ▸ e) (h1 a), h2⟩
theorem s_tsw {X : z_Cx} {D : Nat} {q : z_MI} {pc len : Nat} {d lo hi : Int} {offs : Array Int} {cs : List (Int32 × Nat)} {dflt : Nat} (hd : decode q.2.1 pc = .ok (.tableswitch d lo hi offs, len)) (hdf : (pc : Int) + d = (dflt : Int))
    (hcs : ∀ a ∈ cs, lo ≤ a.1.toInt ∧ a.1.toInt ≤ hi ∧ (offs[(a.1.toInt - lo).toNat]?).map (fun o => (pc : Int) + o) = some (a.2 : Int)) (hall : (List.range (hi - lo + 1).toNat).all (fun (j : Nat) => cs.any (fun a => decide (a.1.toInt = lo + (j : Int)))) = true) : z_Sd X D q pc (pc + len) (x_tsw cs dflt) := by
  intro ks kj R ls st M h hs hj p e s m args below meth c Rm cells slots Q C0 H locs la I
  rcases st with _ | ⟨x | x | x, r⟩ <;> first | exact False.elim h | skip
  rcases z_sw_in h with ⟨t, h1, h2⟩ | ⟨h1, h2⟩
  · obtain ⟨g1, g2, g3⟩ := hcs _ h1
    obtain ⟨o, ho, ho2⟩ := Option.map_eq_some_iff.mp g3
    exact lv_tableIn C0.1 C0.2.1 hd (Int.not_lt.mpr g1) (Int.not_lt.mpr g2) ho ho2 (hj _ _ _ _ h2 p e s m args below meth c Rm cells slots Q C0 H locs la ⟨I.1, I.2.1.2, I.2.2⟩)
  · refine lv_tableOut C0.1 C0.2.1 hd ?_ hdf (hj _ _ _ _ h2 p e s m args below meth c Rm cells slots Q C0 H locs la ⟨I.1, I.2.1.2, I.2.2⟩)
    by_cases hx : x.toInt < lo ∨ hi < x.toInt
    · exact hx
    · exfalso
      have h3 := List.all_eq_true.mp hall (x.toInt - lo).toNat (List.mem_range.mpr (by omega))
      obtain ⟨a, ha, hb⟩ := List.any_eq_true.mp h3
      have h4 := of_decide_eq_true hb
      exact h1 a ha (Int32.toInt_inj.mp (by omega))
/-! tables: chunks of rows -/
abbrev z_R : Type := Nat × Nat × z_X
def z_t1 (pc : Nat) : List z_R → Nat × z_X
  | [] => (0, z_no)
  | r :: t => bif Nat.beq r.1 pc then r.2 else z_t1 pc t
def z_t2 (pc : Nat) : List (Nat × List z_R) → Nat × z_X
  | [] => (0, z_no)
  | c :: t => bif Nat.ble pc c.1 then z_t1 pc c.2 else z_t2 pc t
def z_Ro (X : z_Cx) (D : Nat) (q : z_MI) (l : List z_R) : Prop := ∀ r ∈ l, z_Sd X D q r.1 r.2.1 r.2.2
theorem z_rn {X : z_Cx} {D : Nat} {q : z_MI} : z_Ro X D q [] := fun r h => by cases h
theorem z_rc1 {X : z_Cx} {D : Nat} {q : z_MI} {pc npc : Nat} {f : z_X} {l : List z_R} (h : z_Sd X D q pc npc f) (hl : z_Ro X D q l) : z_Ro X D q ((pc, npc, f) :: l) := fun r hr => (List.mem_cons.mp hr).elim (fun e => e ▸ h) (hl r)
theorem z_no_ok {X : z_Cx} {D : Nat} {q : z_MI} {pc npc : Nat} : z_Sd X D q pc npc z_no := fun _ _ _ _ _ _ h => False.elim h
theorem z_t1_ok {X : z_Cx} {D : Nat} {q : z_MI} {pc : Nat} : ∀ {l : List z_R}, z_Ro X D q l → z_Sd X D q pc (z_t1 pc l).1 (z_t1 pc l).2 := by
  intro l
  induction l with
  | nil => exact fun _ => z_no_ok
  | cons r t ih =>
    intro h
    unfold z_t1
    cases hb : Nat.beq r.1 pc with
    | true =>
      have e := Nat.eq_of_beq_eq_true hb
      rw [← e]
      exact h r List.mem_cons_self
    | false => exact ih (fun a ha => h a (List.mem_cons_of_mem _ ha))
theorem z_t2_ok {X : z_Cx} {D : Nat} {q : z_MI} {pc : Nat} : ∀ {l : List (Nat × List z_R)}, (∀ c ∈ l, z_Ro X D q c.2) → z_Sd X D q pc (z_t2 pc l).1 (z_t2 pc l).2 := by
  intro l
  induction l with
  | nil => exact fun _ => z_no_ok
  | cons r t ih =>
    intro h
    unfold z_t2
    cases hb : Nat.ble pc r.1 with
    | true => exact z_t1_ok (h r List.mem_cons_self)
    | false => exact ih (fun a ha => h a (List.mem_cons_of_mem _ ha))
theorem z_cn {X : z_Cx} {D : Nat} {q : z_MI} : ∀ c ∈ ([] : List (Nat × List z_R)), z_Ro X D q c.2 := fun r h => by cases h
theorem z_cc {X : z_Cx} {D : Nat} {q : z_MI} {n : Nat} {a : List z_R} {l : List (Nat × List z_R)} (h : z_Ro X D q a) (hl : ∀ c ∈ l, z_Ro X D q c.2) : ∀ c ∈ (n, a) :: l, z_Ro X D q c.2 := fun r hr => (List.mem_cons.mp hr).elim (fun e => e ▸ h) (hl r)
