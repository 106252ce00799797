/-! ===== constructors: fields, rows, rows of rows ===== -/
section ZR
variable {l : Launch} {G : va_G} {cA : Nat → ClassId} {D : Nat} {q : z_MI} {pc : Nat}
/-- a field gets a reference -/
def yc_pr (ci f : Nat) : zc_X := fun (th, ct, st, hp, c, z) => match st with
  | .inr (.inr (some k)) :: .inr (.inr (some i)) :: r => (match hp[i]? with
    | some (.inl (cj, fs)) => bif (Nat.beq cj ci && Nat.blt f fs.length) then some (none, th, ct, r, hp.set i (.inl (ci, fs.set f (zc_r k))), c, z) else none
    | _ => none)
  | _ => none
theorem pr_inv {ci f : Nat} {σ : zc_S} {j : Option Nat} {σ' : zc_S} (h : yc_pr ci f σ = some (j, σ')) : ∃ th ct k i r hp c z fs, σ = (th, ct, zc_r k :: zc_r i :: r, hp, c, z) ∧ hp[i]? = some (.inl (ci, fs)) ∧ f < fs.length ∧ j = none ∧ σ' = (th, ct, r, hp.set i (.inl (ci, fs.set f (zc_r k))), c, z) := by
  obtain ⟨th, ct, st, hp, c, z⟩ := σ
  rcases st with _ | ⟨x | x | _ | k, _ | ⟨y | y | _ | i, r⟩⟩ <;> first | cases h; done | skip
  simp only [yc_pr] at h
  cases he : hp[i]? with
  | none => rw [he] at h; cases h
  | some e =>
    rw [he] at h
    rcases e with ⟨cj, fs⟩ | e
    · simp only at h
      cases hb : (Nat.beq cj ci && Nat.blt f fs.length) with
      | false => rw [hb] at h; cases h
      | true =>
        rw [hb] at h
        cases h
        obtain ⟨hb1, hb2⟩ := Bool.and_eq_true_iff.mp hb
        have e1 := Nat.eq_of_beq_eq_true hb1
        subst e1
        exact ⟨th, ct, k, i, r, hp, c, z, fs, rfl, he, Nat.le_of_ble_eq_true hb2, rfl, rfl⟩
    · cases h
theorem re_set {n : Nat} {ci f : Nat} {fs : List zc_V} {v : zc_V} (h : zc_re n (.inl (ci, fs))) (hv : zc_rk n v) : zc_re n (.inl (ci, fs.set f v)) := by
  intro w hw
  rcases List.mem_or_eq_of_mem_set hw with g | g
  · exact h w g
  · rw [g]; exact hv
theorem yk_st {A : Nat → Prop} {nL n0 : Nat} {s : State} {ad0 ad : Nat → Nat} {th : Nat} {ct : Option Int32} {st : List zc_V} {hp : zc_H} {H H1 : Heap} {locs locs1 : List Loc} {la : Array Slot} {i : Nat} {e : zc_E} (I : zc_I G cA A nL s n0 ad0 ad th ct st hp H locs la) (he : zc_re hp.length e) (hP : va_P G vwCl ((zc_w cA ad hp).set i (ad i, zc_en cA ad e)) H1) (hD : va_D A ((zc_w cA ad hp).set i (ad i, zc_en cA ad e))) (hS : va_S A s.heap H1 locs1) : zc_I G cA A nL s n0 ad0 ad th ct st (hp.set i e) H1 locs1 la := by
  rw [w_set] at hP hD
  exact ⟨⟨wf_set I.1.1 he, by rw [List.length_set]; exact I.1.2.1, by rw [List.length_set]; exact I.1.2.2⟩, ⟨I.2.1.1, by rw [List.length_set]; exact I.2.1.2⟩, hP, hD, hS, I.2.2.2.2.2⟩
theorem yk_prF {k0 ci nf f idx : Nat} {C : String} {T : u_T} {ty : Nat → FieldType} (hC : z_Cl k0 ci nf C T) (hty : ∀ k, k < nf → parseFieldDescriptor (T k).2.2.1 = some (ty k)) (hnm : ∀ a, a < nf → ∀ b, b < nf → a ≠ b → (T a).2.1 ≠ (T b).2.1) (hf : f < nf) (hfin : (T f).2.2.2 = true) (hdecl : (T f).1 = q.1.cls) (hv : ∀ a : Nat, narrow (ty f) (.ref a) = .ref a ∧ fits (ty f) (.ref a) = true) (hlink : Cond.fieldLink q.1.cls idx (T f).1 (T f).2.1 (T f).2.2.1 ∈ z_U) (hd : decode q.2.1 pc = .ok (.putfield idx, 3)) : zc_Sd l G cA D q pc (pc + 3) (yc_pr ci f) := by
  refine ⟨fun σ j σ' h => ?_, ?_⟩
  · obtain ⟨th, ct, k, i, r, hp, c, z, fs, rfl, -, -, -, rfl⟩ := pr_inv h
    exact ⟨Nat.le_refl _, Nat.le_refl _⟩
  · intro p e s m args below meth c Rm Q A n0 ad0 C0 σ j σ' h hc hz ad H locs la I kk
    obtain ⟨th, ct, k, i, r, hp, cc, z, fs, rfl, he, hlf, rfl, rfl⟩ := pr_inv h
    have hts := C0.2.2.2.2.1
    refine va_putF (D := G) (ci := ci) (v := .ref (ad k)) (ty := ty f) (C := C) (T := T) (N := nf) (fs := fs.map (zc_co ad)) C0.1 C0.2.1 hts hC.2.2.2 ty hty hnm C0.2.2.2.1 C0.2.2.2.2.2.1 I.2.2.1 I.2.2.2.1 I.2.2.2.2.1 i (w_lk he) hC.2.2.1 f hf (hts _ hlink) (fun _ h9 => h9) hfin C0.2.2.2.2.2.2.2.2.1 hdecl (hty f hf) (hv _).1 (hv _).2 (by rw [List.length_map]; exact hlf) hd (fun H1 locs1 hP1 hD1 hS1 => ?_)
    have e1 : (Sum.inr (ci, (fs.map (zc_co ad)).set f (.ref (ad k))) : va_E) = zc_en cA ad (.inl (ci, fs.set f (zc_r k))) := by
      show _ = Sum.inr (ci, (fs.set f (zc_r k)).map (zc_co ad))
      rw [List.map_set]
      rfl
    rw [e1] at hP1 hD1
    exact kk ad H1 locs1 la (yk_st (yk_pop (yk_pop I)) (re_set (I.1.1 _ (List.mem_of_getElem? he)) (I.1.2.1 _ List.mem_cons_self)) hP1 hD1 hS1)
theorem yk_pr {k0 ci nf f idx : Nat} {C : String} {T : u_T} {ty : Nat → FieldType} (hC : z_Cl k0 ci nf C T) (hty : ∀ k, k < nf → parseFieldDescriptor (T k).2.2.1 = some (ty k)) (hnm : ∀ a, a < nf → ∀ b, b < nf → a ≠ b → (T a).2.1 ≠ (T b).2.1) (hf : f < nf) (hfin : (T f).2.2.2 = false) (hv : ∀ a : Nat, narrow (ty f) (.ref a) = .ref a ∧ fits (ty f) (.ref a) = true) (hlink : Cond.fieldLink q.1.cls idx (T f).1 (T f).2.1 (T f).2.2.1 ∈ z_U) (hd : decode q.2.1 pc = .ok (.putfield idx, 3)) : zc_Sd l G cA D q pc (pc + 3) (yc_pr ci f) := by
  refine ⟨fun σ j σ' h => ?_, ?_⟩
  · obtain ⟨th, ct, k, i, r, hp, c, z, fs, rfl, -, -, -, rfl⟩ := pr_inv h
    exact ⟨Nat.le_refl _, Nat.le_refl _⟩
  · intro p e s m args below meth c Rm Q A n0 ad0 C0 σ j σ' h hc hz ad H locs la I kk
    obtain ⟨th, ct, k, i, r, hp, cc, z, fs, rfl, he, hlf, rfl, rfl⟩ := pr_inv h
    have hts := C0.2.2.2.2.1
    refine va_put (D := G) (ci := ci) (v := .ref (ad k)) (ty := ty f) (C := C) (T := T) (N := nf) (fs := fs.map (zc_co ad)) C0.1 C0.2.1 hts hC.2.2.2 ty hty hnm C0.2.2.2.1 C0.2.2.2.2.2.1 I.2.2.1 I.2.2.2.1 I.2.2.2.2.1 i (w_lk he) hC.2.2.1 f hf (hts _ hlink) (fun _ h9 => h9) hfin (hty f hf) (hv _).1 (hv _).2 (by rw [List.length_map]; exact hlf) hd (fun H1 locs1 hP1 hD1 hS1 => ?_)
    have e1 : (Sum.inr (ci, (fs.map (zc_co ad)).set f (.ref (ad k))) : va_E) = zc_en cA ad (.inl (ci, fs.set f (zc_r k))) := by
      show _ = Sum.inr (ci, (fs.set f (zc_r k)).map (zc_co ad))
      rw [List.map_set]
      rfl
    rw [e1] at hP1 hD1
    exact kk ad H1 locs1 la (yk_st (yk_pop (yk_pop I)) (re_set (I.1.1 _ (List.mem_of_getElem? he)) (I.1.2.1 _ List.mem_cons_self)) hP1 hD1 hS1)
/-- a field gets an int -/
def yc_pi (ci f : Nat) : zc_X := fun (th, ct, st, hp, c, z) => match st with
  | .inl x :: .inr (.inr (some i)) :: r => (match hp[i]? with
    | some (.inl (cj, fs)) => bif (Nat.beq cj ci && Nat.blt f fs.length) then some (none, th, ct, r, hp.set i (.inl (ci, fs.set f (.inl x))), c, z) else none
    | _ => none)
  | _ => none
theorem pi_inv {ci f : Nat} {σ : zc_S} {j : Option Nat} {σ' : zc_S} (h : yc_pi ci f σ = some (j, σ')) : ∃ th ct x i r hp c z fs, σ = (th, ct, .inl x :: zc_r i :: r, hp, c, z) ∧ hp[i]? = some (.inl (ci, fs)) ∧ f < fs.length ∧ j = none ∧ σ' = (th, ct, r, hp.set i (.inl (ci, fs.set f (.inl x))), c, z) := by
  obtain ⟨th, ct, st, hp, c, z⟩ := σ
  rcases st with _ | ⟨x | x | _ | k, _ | ⟨y | y | _ | i, r⟩⟩ <;> first | cases h; done | skip
  simp only [yc_pi] at h
  cases he : hp[i]? with
  | none => rw [he] at h; cases h
  | some e =>
    rw [he] at h
    rcases e with ⟨cj, fs⟩ | e
    · simp only at h
      cases hb : (Nat.beq cj ci && Nat.blt f fs.length) with
      | false => rw [hb] at h; cases h
      | true =>
        rw [hb] at h
        cases h
        obtain ⟨hb1, hb2⟩ := Bool.and_eq_true_iff.mp hb
        have e1 := Nat.eq_of_beq_eq_true hb1
        subst e1
        exact ⟨th, ct, x, i, r, hp, c, z, fs, rfl, he, Nat.le_of_ble_eq_true hb2, rfl, rfl⟩
    · cases h
theorem yk_pi {k0 ci nf f idx : Nat} {C : String} {T : u_T} {ty : Nat → FieldType} (hC : z_Cl k0 ci nf C T) (hty : ∀ k, k < nf → parseFieldDescriptor (T k).2.2.1 = some (ty k)) (hnm : ∀ a, a < nf → ∀ b, b < nf → a ≠ b → (T a).2.1 ≠ (T b).2.1) (hf : f < nf) (hfin : (T f).2.2.2 = false) (hi : ty f = .int) (hlink : Cond.fieldLink q.1.cls idx (T f).1 (T f).2.1 (T f).2.2.1 ∈ z_U) (hd : decode q.2.1 pc = .ok (.putfield idx, 3)) : zc_Sd l G cA D q pc (pc + 3) (yc_pi ci f) := by
  refine ⟨fun σ j σ' h => ?_, ?_⟩
  · obtain ⟨th, ct, k, i, r, hp, c, z, fs, rfl, -, -, -, rfl⟩ := pi_inv h
    exact ⟨Nat.le_refl _, Nat.le_refl _⟩
  · intro p e s m args below meth c Rm Q A n0 ad0 C0 σ j σ' h hc hz ad H locs la I kk
    obtain ⟨th, ct, x, i, r, hp, cc, z, fs, rfl, he, hlf, rfl, rfl⟩ := pi_inv h
    have hts := C0.2.2.2.2.1
    refine va_put (D := G) (ci := ci) (v := .int x) (ty := ty f) (C := C) (T := T) (N := nf) (fs := fs.map (zc_co ad)) C0.1 C0.2.1 hts hC.2.2.2 ty hty hnm C0.2.2.2.1 C0.2.2.2.2.2.1 I.2.2.1 I.2.2.2.1 I.2.2.2.2.1 i (w_lk he) hC.2.2.1 f hf (hts _ hlink) (fun _ h9 => h9) hfin (hty f hf) (by rw [hi]; rfl) (by rw [hi]; rfl) (by rw [List.length_map]; exact hlf) hd (fun H1 locs1 hP1 hD1 hS1 => ?_)
    have e1 : (Sum.inr (ci, (fs.map (zc_co ad)).set f (.int x)) : va_E) = zc_en cA ad (.inl (ci, fs.set f (.inl x))) := by
      show _ = Sum.inr (ci, (fs.set f (.inl x)).map (zc_co ad))
      rw [List.map_set]
      rfl
    rw [e1] at hP1 hD1
    exact kk ad H1 locs1 la (yk_st (yk_pop (yk_pop I)) (re_set (I.1.1 _ (List.mem_of_getElem? he)) trivial) hP1 hD1 hS1)
def yc_get (ci f : Nat) : zc_X := fun (th, ct, st, hp, c, z) => match st with
  | .inr (.inr (some i)) :: r => (match hp[i]? with
    | some (.inl (cj, fs)) => (match fs[f]? with
      | some v => bif Nat.beq cj ci then some (none, th, ct, v :: r, hp, c, z) else none
      | none => none)
    | _ => none)
  | _ => none
theorem get_inv {ci f : Nat} {σ : zc_S} {j : Option Nat} {σ' : zc_S} (h : yc_get ci f σ = some (j, σ')) : ∃ th ct i r hp c z fs v, σ = (th, ct, zc_r i :: r, hp, c, z) ∧ hp[i]? = some (.inl (ci, fs)) ∧ fs[f]? = some v ∧ j = none ∧ σ' = (th, ct, v :: r, hp, c, z) := by
  obtain ⟨th, ct, st, hp, c, z⟩ := σ
  rcases st with _ | ⟨x | x | _ | i, r⟩ <;> first | cases h; done | skip
  simp only [yc_get] at h
  cases he : hp[i]? with
  | none => rw [he] at h; cases h
  | some e =>
    rw [he] at h
    rcases e with ⟨cj, fs⟩ | e
    · simp only at h
      cases hv : fs[f]? with
      | none => rw [hv] at h; cases h
      | some v =>
        rw [hv] at h
        simp only at h
        cases hb : Nat.beq cj ci with
        | false => rw [hb] at h; cases h
        | true =>
          rw [hb] at h
          cases h
          have e1 := Nat.eq_of_beq_eq_true hb
          subst e1
          exact ⟨th, ct, i, r, hp, c, z, fs, v, rfl, he, hv, rfl, rfl⟩
    · cases h
theorem yk_get {k0 ci nf f idx : Nat} {C : String} {T : u_T} (hC : z_Cl k0 ci nf C T) (hf : f < nf) (hlink : Cond.fieldLink q.1.cls idx (T f).1 (T f).2.1 (T f).2.2.1 ∈ z_U) (hd : decode q.2.1 pc = .ok (.getfield idx, 3)) : zc_Sd l G cA D q pc (pc + 3) (yc_get ci f) := by
  refine ⟨fun σ j σ' h => ?_, ?_⟩
  · obtain ⟨th, ct, i, r, hp, c, z, fs, v, rfl, -, -, -, rfl⟩ := get_inv h
    exact ⟨Nat.le_refl _, Nat.le_refl _⟩
  · intro p e s m args below meth c Rm Q A n0 ad0 C0 σ j σ' h hc hz ad H locs la I kk
    obtain ⟨th, ct, i, r, hp, cc, z, fs, v, rfl, he, hv, rfl, rfl⟩ := get_inv h
    have hts := C0.2.2.2.2.1
    exact va_get (D := G) (ci := ci) (v := zc_co ad v) (C := C) (T := T) (N := nf) (fs := fs.map (zc_co ad)) C0.1 C0.2.1 hts hC.2.2.2 C0.2.2.2.1 C0.2.2.2.2.2.1 I.2.2.1 i (w_lk he) hC.2.2.1 f hf (hts _ hlink) (fun _ h9 => h9) (by rw [List.getElem?_map, hv]; rfl) hd (kk ad H locs la (yk_push (yk_pop I) (I.1.1 _ (List.mem_of_getElem? he) v (List.mem_of_getElem? hv))))
def yc_in (i : Int32) (n : Nat) : Bool := decide (0 ≤ i) && Nat.blt i.toNatClampNeg n
theorem in_ok {i : Int32} {n : Nat} (h : yc_in i n = true) : vp_in i n := by
  obtain ⟨h1, h2⟩ := Bool.and_eq_true_iff.mp h
  intro w
  rcases w with w | w
  · exact absurd w (Int32.not_lt.mpr (of_decide_eq_true h1))
  · have := Nat.le_of_ble_eq_true h2
    omega
def yc_ia : zc_X := fun (th, ct, st, hp, c, z) => match st with
  | .inl x :: .inl i :: .inr (.inr (some a)) :: r => (match hp[a]? with
    | some (.inr (0, n, .inl f)) => bif yc_in i n then some (none, th, ct, r, hp.set a (.inr (0, n, .inl (upd f i.toNatClampNeg x))), c, z) else none
    | _ => none)
  | _ => none
theorem ia_inv {σ : zc_S} {j : Option Nat} {σ' : zc_S} (h : yc_ia σ = some (j, σ')) : ∃ th ct x i a r hp c z n f, σ = (th, ct, .inl x :: .inl i :: zc_r a :: r, hp, c, z) ∧ hp[a]? = some (.inr (0, n, .inl f)) ∧ yc_in i n = true ∧ j = none ∧ σ' = (th, ct, r, hp.set a (.inr (0, n, .inl (upd f i.toNatClampNeg x))), c, z) := by
  obtain ⟨th, ct, st, hp, c, z⟩ := σ
  rcases st with _ | ⟨x | x | x, _ | ⟨i | i | i, _ | ⟨y | y | _ | a, r⟩⟩⟩ <;> first | cases h; done | skip
  simp only [yc_ia] at h
  cases he : hp[a]? with
  | none => rw [he] at h; cases h
  | some e =>
    rw [he] at h
    rcases e with e | ⟨_ | t0, n, f | g⟩ <;> first | cases h; done | skip
    simp only at h
    cases hb : yc_in i n with
    | false => rw [hb] at h; cases h
    | true =>
      rw [hb] at h
      cases h
      exact ⟨th, ct, x, i, a, r, hp, c, z, n, f, rfl, he, hb, rfl, rfl⟩
theorem yk_ia (hd : decode q.2.1 pc = .ok (.iastore, 1)) : zc_Sd l G cA D q pc (pc + 1) yc_ia := by
  refine ⟨fun σ j σ' h => ?_, ?_⟩
  · obtain ⟨th, ct, x, i, a, r, hp, c, z, n, f, rfl, -, -, -, rfl⟩ := ia_inv h
    exact ⟨Nat.le_refl _, Nat.le_refl _⟩
  · intro p e s m args below meth c Rm Q A n0 ad0 C0 σ j σ' h hc hz ad H locs la I kk
    obtain ⟨th, ct, x, i, a, r, hp, cc, z, n, f, rfl, he, hb, rfl, rfl⟩ := ia_inv h
    refine va_iast (cA := cA 0) (f := f) C0.1 C0.2.1 C0.2.2.2.2.2.1 I.2.2.1 I.2.2.2.1 I.2.2.2.2.1 a 0 (w_lk he) rfl (in_ok hb) hd (fun H1 locs1 hP1 hD1 hS1 => ?_)
    exact kk ad H1 locs1 la (yk_st (e := .inr (0, n, .inl (upd f i.toNatClampNeg x))) (yk_pop (yk_pop (yk_pop I))) trivial hP1 hD1 hS1)
/-- which class the rows of a number hold -/
def zc_tc (t0 : Nat) : Nat := bif Nat.beq t0 3 then 7 else bif Nat.beq t0 4 then 2 else bif Nat.beq t0 5 then 6 else 1
def yc_aa : zc_X := fun (th, ct, st, hp, c, z) => match st with
  | .inr (.inr (some v)) :: .inl i :: .inr (.inr (some a)) :: r => (match hp[a]?, hp[v]? with
    | some (.inr (t0, n, .inr g)), some (.inl (ci, _)) => bif (yc_in i n && (Nat.ble 3 t0 && Nat.ble t0 6) && Nat.beq ci (zc_tc t0)) then some (none, th, ct, r, hp.set a (.inr (t0, n, .inr (va_up g i.toNatClampNeg (some v)))), c, z) else none
    | _, _ => none)
  | _ => none
theorem aa_inv {σ : zc_S} {j : Option Nat} {σ' : zc_S} (h : yc_aa σ = some (j, σ')) : ∃ th ct v i a r hp c z t0 n g fs, σ = (th, ct, zc_r v :: .inl i :: zc_r a :: r, hp, c, z) ∧ hp[a]? = some (.inr (t0, n, .inr g)) ∧ hp[v]? = some (.inl (zc_tc t0, fs)) ∧ yc_in i n = true ∧ (3 ≤ t0 ∧ t0 ≤ 6) ∧ j = none ∧ σ' = (th, ct, r, hp.set a (.inr (t0, n, .inr (va_up g i.toNatClampNeg (some v)))), c, z) := by
  obtain ⟨th, ct, st, hp, c, z⟩ := σ
  rcases st with _ | ⟨x | x | _ | v, _ | ⟨i | i | i, _ | ⟨y | y | _ | a, r⟩⟩⟩ <;> first | cases h; done | skip
  simp only [yc_aa] at h
  cases he : hp[a]? with
  | none => rw [he] at h; cases h
  | some e =>
    cases hv : hp[v]? with
    | none =>
      rw [he, hv] at h
      rcases e with e | ⟨t0, n, f | g⟩ <;> cases h
    | some e2 =>
      rw [he, hv] at h
      rcases e with e | ⟨t0, n, f | g⟩ <;> rcases e2 with ⟨ci, fs⟩ | e2 <;> first | cases h; done | skip
      simp only at h
      cases hb : (yc_in i n && (Nat.ble 3 t0 && Nat.ble t0 6) && Nat.beq ci (zc_tc t0)) with
      | false => rw [hb] at h; cases h
      | true =>
        rw [hb] at h
        cases h
        obtain ⟨hb1, hb2⟩ := Bool.and_eq_true_iff.mp hb
        obtain ⟨hb3, hb4⟩ := Bool.and_eq_true_iff.mp hb1
        obtain ⟨hb5, hb6⟩ := Bool.and_eq_true_iff.mp hb4
        have e1 := Nat.eq_of_beq_eq_true hb2
        subst e1
        exact ⟨th, ct, v, i, a, r, hp, c, z, t0, n, g, fs, rfl, he, hv, hb3, ⟨Nat.le_of_ble_eq_true hb5, Nat.le_of_ble_eq_true hb6⟩, rfl, rfl⟩
theorem tc_ok {t0 : Nat} (h : 3 ≤ t0 ∧ t0 ≤ 6) : ∃ r : vw_C, vwCl[zc_tc t0]? = some r ∧ ∀ cA : Nat → ClassId, (z_ty cA)[t0]? = some (cA t0, .object r.1) := by
  rcases (show t0 = 3 ∨ t0 = 4 ∨ t0 = 5 ∨ t0 = 6 by omega) with rfl | rfl | rfl | rfl
  · exact ⟨_, rfl, fun _ => rfl⟩
  · exact ⟨_, rfl, fun _ => rfl⟩
  · exact ⟨_, rfl, fun _ => rfl⟩
  · exact ⟨_, rfl, fun _ => rfl⟩
theorem yk_aa (hd : decode q.2.1 pc = .ok (.aastore, 1)) : zc_Sd l G cA D q pc (pc + 1) yc_aa := by
  refine ⟨fun σ j σ' h => ?_, ?_⟩
  · obtain ⟨th, ct, v, i, a, r, hp, c, z, t0, n, g, fs, rfl, -, -, -, -, -, rfl⟩ := aa_inv h
    exact ⟨Nat.le_refl _, Nat.le_refl _⟩
  · intro p e s m args below meth c Rm Q A n0 ad0 C0 σ j σ' h hc hz ad H locs la I kk
    obtain ⟨th, ct, v, i, a, r, hp, cc, z, t0, n, g, fs, rfl, he, hv, hb, ht, rfl, rfl⟩ := aa_inv h
    obtain ⟨rr, h1, h2⟩ := tc_ok ht
    refine va_astq (cA := cA t0) (r := rr) (f := fun j => (g j).map ad) (v := ad v) C0.1 C0.2.1 C0.2.2.2.2.2.1 I.2.2.1 I.2.2.2.1 I.2.2.2.2.1 a t0 v (zc_tc t0) (w_lk he) (h2 cA) (w_lk hv) h1 (in_ok hb) hd (fun H1 locs1 hP1 hD1 hS1 => ?_)
    have hvl : v < hp.length := (List.getElem?_eq_some_iff.mp hv).1
    have e1 : (Sum.inl (cA t0, n, .inr (.inr (.inr (.inr (va_up (fun j => (g j).map ad) i.toNatClampNeg (some (ad v))))))) : va_E) = zc_en cA ad (.inr (t0, n, .inr (va_up g i.toNatClampNeg (some v)))) := by
      show _ = (Sum.inl (cA t0, n, Sum.inr (Sum.inr (Sum.inr (Sum.inr (fun j => (va_up g i.toNatClampNeg (some v) j).map ad))))) : va_E)
      have : va_up (fun j => (g j).map ad) i.toNatClampNeg (some (ad v)) = fun j => (va_up g i.toNatClampNeg (some v) j).map ad := by
        funext j
        unfold va_up
        by_cases w : j = i.toNatClampNeg
        · rw [if_pos w, if_pos w]
          rfl
        · rw [if_neg w, if_neg w]
      rw [this]
    rw [e1] at hP1 hD1
    refine kk ad H1 locs1 la (yk_st (yk_pop (yk_pop (yk_pop I))) ?_ hP1 hD1 hS1)
    intro j r' hj
    unfold va_up at hj
    by_cases w : j = i.toNatClampNeg
    · rw [if_pos w] at hj
      cases hj
      exact hvl
    · rw [if_neg w] at hj
      exact I.1.1 _ (List.mem_of_getElem? he) j r' hj
end ZR
