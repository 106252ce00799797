/-! ===== fields, arrays, statics ===== -/
theorem z_en_congr {X : z_Cx} {M M' : z_M} {q : Nat × Nat} (h1 : M'.1 q.1 q.2 = M.1 q.1 q.2) (h2 : M'.2.1 q.1 q.2 = M.2.1 q.1 q.2) (h3 : M'.2.2 q.1 = M.2.2 q.1) : z_en X M' q = z_en X M q := by
  have hf : ∀ f, z_fv q.1 f q.2 M' = z_fv q.1 f q.2 M := by
    intro f
    unfold z_fv
    rw [h1, h2, h3]
  unfold z_en
  simp only [hf, h1]
theorem z_en_o {X : z_Cx} {M : z_M} {k i ci nf a b c : Nat} (h : z_kd k = (0, ci, nf, a, b, c)) : z_en X M (k, i) = (X.2.2.1 k i, .inr (ci, (List.range nf).map (fun f => z_co X.2.2.1 (z_fv k f i M)))) := by
  unfold z_en
  rw [show z_kd (k, i).1 = _ from h]
  rfl
theorem z_en_p {X : z_Cx} {M : z_M} {k i t0 n a b c : Nat} (h : z_kd k = (1, t0, n, a, b, c)) : z_en X M (k, i) = (X.2.2.1 k i, .inl (X.2.2.2.1 t0, n, .inl (M.1 k i))) := by
  unfold z_en
  rw [show z_kd (k, i).1 = _ from h]
  rfl
theorem z_en_r {X : z_Cx} {M : z_M} {k i t0 n a b c : Nat} (h : z_kd k = (2, t0, n, a, b, c)) : z_en X M (k, i) = (X.2.2.1 k i, .inl (X.2.2.2.1 t0, n, .inr (.inr (.inr (.inr (fun j => some (X.2.2.1 a (b * i + c + j)))))))) := by
  unfold z_en
  rw [show z_kd (k, i).1 = _ from h]
  rfl
theorem z_rg {α : Type} (nf f : Nat) (g : Nat → α) (h : f < nf) : ((List.range nf).map g)[f]? = some (g f) := by
  rw [List.getElem?_map, List.getElem?_range h]
  rfl
theorem z_rgs {α : Type} (nf f : Nat) (g g' : Nat → α) (h : ∀ j, j ≠ f → g' j = g j) : ((List.range nf).map g).set f (g' f) = (List.range nf).map g' := by
  apply List.ext_getElem?
  intro j
  rw [List.getElem?_set, List.getElem?_map, List.getElem?_map, List.length_map, List.length_range]
  by_cases e : f = j
  · subst e
    rw [if_pos rfl]
    by_cases hl : f < nf
    · rw [if_pos hl, List.getElem?_range hl]; rfl
    · rw [if_neg hl, List.getElem?_eq_none (by rw [List.length_range]; omega)]; rfl
  · rw [if_neg e]
    cases hj : (List.range nf)[j]? with
    | none => rfl
    | some r =>
      have : r = j := by
        obtain ⟨h1, h2⟩ := List.getElem?_eq_some_iff.mp hj
        rw [List.getElem_range] at h2
        exact h2.symm
      subst this
      show some (g r) = some (g' r)
      rw [h r (fun w => e w.symm)]
theorem z_s_ne {M : z_M} {k i j : Nat} {v : Int32} {q : Nat × Nat} (h : q ≠ (k, i)) : (z_s M k i j v).1 q.1 q.2 = M.1 q.1 q.2 := by
  funext x
  show (if q.1 = k ∧ q.2 = i ∧ x = j then v else M.1 q.1 q.2 x) = _
  rw [if_neg]
  rintro ⟨h1, h2, -⟩
  exact h (Prod.ext h1 h2)
theorem z_s_at {M : z_M} {k i j : Nat} {v : Int32} : (z_s M k i j v).1 k i = upd (M.1 k i) j v := by
  funext x
  show (if k = k ∧ i = i ∧ x = j then v else M.1 k i x) = (if x = j then v else M.1 k i x)
  by_cases e : x = j
  · rw [if_pos ⟨rfl, rfl, e⟩, if_pos e]
  · rw [if_neg (fun w => e w.2.2), if_neg e]
theorem z_sn_ne {M : z_M} {k n n' : Nat} {v : Bool} (h : n' ≠ n) : (z_sn M k n v).2.2 k n' = M.2.2 k n' := if_neg (fun w => h w.2)
theorem z_lt64 {q : Nat × Nat} (h : q ∈ z_pl) : q.1 < 64 ∧ q.2 < z_cnt q.1 := by
  unfold z_pl at h
  rw [List.mem_flatMap] at h
  obtain ⟨k, hk, hm⟩ := h
  obtain ⟨i, hi, rfl⟩ := List.mem_map.mp hm
  exact ⟨List.mem_range.mp hk, List.mem_range.mp hi⟩
/-- an object's class, as the tables have it -/
def z_Cl (k ci nf : Nat) (C : String) (T : u_T) : Prop := k < 64 ∧ z_kd k = (0, ci, nf, 0, 0, 0) ∧ vwCl[ci]? = some (C, T, nf) ∧ ∀ w ∈ u_ws C T nf, w ∈ z_U
def x_gI (k f : Nat) : z_X := fun ks _ _ _ ls st M => match st with
  | .inr (.inr (k', i)) :: r => bif Nat.beq k' k then ks ls (zi (M.1 k i f) :: r) M else False
  | _ => False
def x_gL (k : Nat) : z_X := fun ks _ _ _ ls st M => match st with
  | .inr (.inr (k', i)) :: r => bif Nat.beq k' k then ks ls (zl (M.2.1 k i) :: r) M else False
  | _ => False
def x_gR0 (k a c : Nat) : z_X := fun ks _ _ _ ls st M => match st with
  | .inr (.inr (k', _)) :: r => bif Nat.beq k' k then ks ls (zr a c :: r) M else False
  | _ => False
def x_gR1 (k a : Nat) : z_X := fun ks _ _ _ ls st M => match st with
  | .inr (.inr (k', i)) :: r => bif Nat.beq k' k then ks ls (zr a i :: r) M else False
  | _ => False
def x_gD (k a n : Nat) : z_X := fun ks _ _ _ ls st M => match st with
  | .inr (.inr (k', _)) :: r => bif Nat.beq k' k then ks ls (zr a (M.2.2 k n).toNat :: r) M else False
  | _ => False
theorem z_gw {X : z_Cx} {D : Nat} {q : z_MI} {R : Int32 → z_M → Prop} {p : Program} {e : Env} {s : State} {m : MethodId} {args : Array Value} {below : List Frame} {meth : Method} {c : Code} {Rm : Room} {cells slots : Nat} {Q : State → Prop}
    (C0 : z_MC X D q R p e s m args below meth c Rm cells slots Q) {k ci nf f idx pc i : Nat} {C : String} {T : u_T} (hC : z_Cl k ci nf C T) (hf : f < nf) (hlink : Cond.fieldLink q.1.cls idx (T f).1 (T f).2.1 (T f).2.2.1 ∈ z_U) (hd : decode q.2.1 pc = .ok (.getfield idx, 3))
    {M : z_M} {H : Heap} {locs : List Loc} {la : Array Slot} {rest : List Value} (hi : i < z_cnt k) (hP : va_P X.2.1 vwCl (z_w X M) H) {v : z_V} (hv : z_fv k f i M = v) (kk : W p X.1 e Rm s m args below meth c H locs cells slots Q (F0 m (pc + 3) la (z_co X.2.2.1 v :: rest))) :
    W p X.1 e Rm s m args below meth c H locs cells slots Q (F0 m pc la (.ref (X.2.2.1 k i) :: rest)) := by
  obtain ⟨h64, hkd, hcl, hin⟩ := hC
  obtain ⟨q0, hq⟩ := z_pl_at (z_pl_mem h64 hi)
  have he := z_w_at (X := X) (M := M) hq
  rw [z_en_o hkd] at he
  exact va_get (D := X.2.1) (ci := ci) (v := z_co X.2.2.1 v) (C := C) (T := T) (N := nf) C0.1 C0.2.1 C0.2.2.2.2.1 hin C0.2.2.2.1 C0.2.2.2.2.2.1 hP q0 he hcl f hf (C0.2.2.2.2.1 _ hlink) (fun _ h9 => h9) (by rw [z_rg _ _ _ hf, hv]) hd kk
theorem s_gI {X : z_Cx} {D : Nat} {q : z_MI} {pc k ci nf f idx : Nat} {C : String} {T : u_T} (hC : z_Cl k ci nf C T) (hf : f < nf) (hft : z_ft k f = (0, 0, 0, 0)) (hlink : Cond.fieldLink q.1.cls idx (T f).1 (T f).2.1 (T f).2.2.1 ∈ z_U) (hd : decode q.2.1 pc = .ok (.getfield idx, 3)) : z_Sd X D q pc (pc + 3) (x_gI k f) := by
  intro ks kj R ls st M h hs hj p e s m args below meth c Rm cells slots Q C0 H locs la I
  rcases st with _ | ⟨x | x | ⟨k', i⟩, r⟩ <;> first | exact False.elim h | skip
  unfold x_gI at h
  cases hb : Nat.beq k' k with
  | false => simp only [hb] at h; exact False.elim h
  | true =>
    simp only [hb] at h
    have hk := Nat.eq_of_beq_eq_true hb
    subst hk
    exact z_gw C0 hC hf hlink hd I.2.1.1 I.2.2.1 (v := zi (M.1 k' i f)) (by unfold z_fv; rw [hft]; rfl) (hs _ _ _ h p e s m args below meth c Rm cells slots Q C0 H locs la ⟨I.1, ⟨trivial, I.2.1.2⟩, I.2.2⟩)
theorem s_gL {X : z_Cx} {D : Nat} {q : z_MI} {pc k ci nf f idx : Nat} {C : String} {T : u_T} (hC : z_Cl k ci nf C T) (hf : f < nf) (hft : z_ft k f = (1, 0, 0, 0)) (hlink : Cond.fieldLink q.1.cls idx (T f).1 (T f).2.1 (T f).2.2.1 ∈ z_U) (hd : decode q.2.1 pc = .ok (.getfield idx, 3)) : z_Sd X D q pc (pc + 3) (x_gL k) := by
  intro ks kj R ls st M h hs hj p e s m args below meth c Rm cells slots Q C0 H locs la I
  rcases st with _ | ⟨x | x | ⟨k', i⟩, r⟩ <;> first | exact False.elim h | skip
  unfold x_gL at h
  cases hb : Nat.beq k' k with
  | false => simp only [hb] at h; exact False.elim h
  | true =>
    simp only [hb] at h
    have hk := Nat.eq_of_beq_eq_true hb
    subst hk
    exact z_gw C0 hC hf hlink hd I.2.1.1 I.2.2.1 (v := zl (M.2.1 k' i)) (by unfold z_fv; rw [hft]; rfl) (hs _ _ _ h p e s m args below meth c Rm cells slots Q C0 H locs la ⟨I.1, ⟨trivial, I.2.1.2⟩, I.2.2⟩)
theorem s_gR0 {X : z_Cx} {D : Nat} {q : z_MI} {pc k ci nf f idx a c : Nat} {C : String} {T : u_T} (hC : z_Cl k ci nf C T) (hf : f < nf) (hft : z_ft k f = (2, a, 0, c)) (hlink : Cond.fieldLink q.1.cls idx (T f).1 (T f).2.1 (T f).2.2.1 ∈ z_U) (hd : decode q.2.1 pc = .ok (.getfield idx, 3)) (hok : Nat.ble (c + 1) (z_cnt a) = true) : z_Sd X D q pc (pc + 3) (x_gR0 k a c) := by
  intro ks kj R ls st M h hs hj p e s m args below meth c' Rm cells slots Q C0 H locs la I
  rcases st with _ | ⟨x | x | ⟨k', i⟩, r⟩ <;> first | exact False.elim h | skip
  unfold x_gR0 at h
  cases hb : Nat.beq k' k with
  | false => simp only [hb] at h; exact False.elim h
  | true =>
    simp only [hb] at h
    have hk := Nat.eq_of_beq_eq_true hb
    subst hk
    exact z_gw C0 hC hf hlink hd I.2.1.1 I.2.2.1 (v := zr a c) (by unfold z_fv; rw [hft]; show zr a (0 * i + c) = zr a c; rw [Nat.zero_mul, Nat.zero_add]) (hs _ _ _ h p e s m args below meth c' Rm cells slots Q C0 H locs la ⟨I.1, ⟨Nat.le_of_ble_eq_true hok, I.2.1.2⟩, I.2.2⟩)
theorem s_gR1 {X : z_Cx} {D : Nat} {q : z_MI} {pc k ci nf f idx a : Nat} {C : String} {T : u_T} (hC : z_Cl k ci nf C T) (hf : f < nf) (hft : z_ft k f = (2, a, 1, 0)) (hlink : Cond.fieldLink q.1.cls idx (T f).1 (T f).2.1 (T f).2.2.1 ∈ z_U) (hd : decode q.2.1 pc = .ok (.getfield idx, 3)) (hok : Nat.ble (z_cnt k) (z_cnt a) = true) : z_Sd X D q pc (pc + 3) (x_gR1 k a) := by
  intro ks kj R ls st M h hs hj p e s m args below meth c Rm cells slots Q C0 H locs la I
  rcases st with _ | ⟨x | x | ⟨k', i⟩, r⟩ <;> first | exact False.elim h | skip
  unfold x_gR1 at h
  cases hb : Nat.beq k' k with
  | false => simp only [hb] at h; exact False.elim h
  | true =>
    simp only [hb] at h
    have hk := Nat.eq_of_beq_eq_true hb
    subst hk
    exact z_gw C0 hC hf hlink hd I.2.1.1 I.2.2.1 (v := zr a i) (by unfold z_fv; rw [hft]; show zr a (1 * i + 0) = zr a i; rw [Nat.one_mul]; rfl) (hs _ _ _ h p e s m args below meth c Rm cells slots Q C0 H locs la ⟨I.1, ⟨Nat.lt_of_lt_of_le I.2.1.1 (Nat.le_of_ble_eq_true hok), I.2.1.2⟩, I.2.2⟩)
theorem s_gD {X : z_Cx} {D : Nat} {q : z_MI} {pc k ci nf f idx a n : Nat} {C : String} {T : u_T} (hC : z_Cl k ci nf C T) (hf : f < nf) (hft : z_ft k f = (3, a, n, 0)) (hlink : Cond.fieldLink q.1.cls idx (T f).1 (T f).2.1 (T f).2.2.1 ∈ z_U) (hd : decode q.2.1 pc = .ok (.getfield idx, 3)) (hok : Nat.ble 2 (z_cnt a) = true) : z_Sd X D q pc (pc + 3) (x_gD k a n) := by
  intro ks kj R ls st M h hs hj p e s m args below meth c Rm cells slots Q C0 H locs la I
  rcases st with _ | ⟨x | x | ⟨k', i⟩, r⟩ <;> first | exact False.elim h | skip
  unfold x_gD at h
  cases hb : Nat.beq k' k with
  | false => simp only [hb] at h; exact False.elim h
  | true =>
    simp only [hb] at h
    have hk := Nat.eq_of_beq_eq_true hb
    subst hk
    exact z_gw C0 hC hf hlink hd I.2.1.1 I.2.2.1 (v := zr a (M.2.2 k' n).toNat) (by unfold z_fv; rw [hft]; rfl) (hs _ _ _ h p e s m args below meth c Rm cells slots Q C0 H locs la ⟨I.1, ⟨Nat.lt_of_lt_of_le (Bool.toNat_lt (M.2.2 k' n)) (Nat.le_of_ble_eq_true hok), I.2.1.2⟩, I.2.2⟩)
/-- a field put: the world, at the new memory -/
theorem z_pw {X : z_Cx} {D : Nat} {q : z_MI} {R : Int32 → z_M → Prop} {p : Program} {e : Env} {s : State} {m : MethodId} {args : Array Value} {below : List Frame} {meth : Method} {c : Code} {Rm : Room} {cells slots : Nat} {Q : State → Prop}
    (C0 : z_MC X D q R p e s m args below meth c Rm cells slots Q) {k ci nf f idx pc i : Nat} {C : String} {T : u_T} {ty0 : Nat → FieldType} (hC : z_Cl k ci nf C T) (hty : ∀ k, k < nf → parseFieldDescriptor (T k).2.2.1 = some (ty0 k)) (hnm : ∀ a, a < nf → ∀ b, b < nf → a ≠ b → (T a).2.1 ≠ (T b).2.1) (hf : f < nf) (hfin : (T f).2.2.2 = false) (hlink : Cond.fieldLink q.1.cls idx (T f).1 (T f).2.1 (T f).2.2.1 ∈ z_U) (hd : decode q.2.1 pc = .ok (.putfield idx, 3))
    {M M' : z_M} {H : Heap} {locs : List Loc} {la : Array Slot} {rest : List Value} {v : z_V} (hi : i < z_cnt k) (hP : va_P X.2.1 vwCl (z_w X M) H) (hS : va_S (z_A X) s.heap H locs) (hn : narrow (ty0 f) (z_co X.2.2.1 v) = z_co X.2.2.1 v) (hfit : fits (ty0 f) (z_co X.2.2.1 v) = true)
    (hv : z_fv k f i M' = v) (ho : ∀ j, j ≠ f → z_fv k j i M' = z_fv k j i M) (hr : ∀ r ∈ z_pl, r ≠ (k, i) → z_en X M' r = z_en X M r)
    (kk : ∀ (H1 : Heap) (locs1 : List Loc), va_P X.2.1 vwCl (z_w X M') H1 → va_S (z_A X) s.heap H1 locs1 → W p X.1 e Rm s m args below meth c H1 locs1 cells slots Q (F0 m (pc + 3) la rest)) :
    W p X.1 e Rm s m args below meth c H locs cells slots Q (F0 m pc la (z_co X.2.2.1 v :: .ref (X.2.2.1 k i) :: rest)) := by
  obtain ⟨h64, hkd, hcl, hin⟩ := hC
  obtain ⟨q0, hq⟩ := z_pl_at (z_pl_mem h64 hi)
  have he := z_w_at (X := X) (M := M) hq
  have hs := z_w_set (X := X) (M := M) (M' := M') hq hr
  rw [z_en_o hkd] at he hs
  refine va_put (D := X.2.1) (ci := ci) (v := z_co X.2.2.1 v) (ty := ty0 f) (C := C) (T := T) (N := nf) C0.1 C0.2.1 C0.2.2.2.2.1 hin ty0 hty hnm C0.2.2.2.1 C0.2.2.2.2.2.1 hP (z_w_D C0.2.2.2.2.2.2.2.1) hS q0 he hcl f hf (C0.2.2.2.2.1 _ hlink) (fun _ h9 => h9) hfin (hty f hf) hn hfit (by rw [List.length_map, List.length_range]; exact hf) hd (fun H1 locs1 hP1 _ hS1 => kk H1 locs1 ?_ hS1)
  rw [← hs, ← z_rgs nf f (fun f => z_co X.2.2.1 (z_fv k f i M)) (fun f => z_co X.2.2.1 (z_fv k f i M')) (fun j hj => by rw [ho j hj])]
  simp only [hv]
  exact hP1
def x_pI (k f : Nat) : z_X := fun ks _ _ _ ls st M => match st with
  | .inl x :: .inr (.inr (k', i)) :: r => bif Nat.beq k' k then ks ls r (z_s M k i f x) else False
  | _ => False
def x_pZ (k f : Nat) : z_X := fun ks _ _ _ ls st M => match st with
  | .inl x :: .inr (.inr (k', i)) :: r => bif Nat.beq k' k then (x = 0 ∨ x = 1) ∧ ks ls r (z_s M k i f x) else False
  | _ => False
def x_pL (k : Nat) : z_X := fun ks _ _ _ ls st M => match st with
  | .inr (.inl x) :: .inr (.inr (k', i)) :: r => bif Nat.beq k' k then ks ls r (z_sl M k i x) else False
  | _ => False
def x_pD (k a n : Nat) : z_X := fun ks _ _ _ ls st M => match st with
  | .inr (.inr (a', j)) :: .inr (.inr (k', _)) :: r => bif (Nat.beq k' k && Nat.beq a' a) then ks ls r (z_sn M k n (Nat.beq j 1)) else False
  | _ => False
theorem z_ftI {k f j i : Nat} {M : z_M} {x : Int32} (hj : j ≠ f) : z_fv k j i (z_s M k i f x) = z_fv k j i M := by
  unfold z_fv
  rw [z_s_at]
  have : upd (M.1 k i) f x j = M.1 k i j := by unfold upd; rw [if_neg hj]
  rw [this]
  rfl
theorem s_pI {X : z_Cx} {D : Nat} {q : z_MI} {pc k ci nf f idx : Nat} {C : String} {T : u_T} {ty0 : Nat → FieldType} (hC : z_Cl k ci nf C T) (hty : ∀ k, k < nf → parseFieldDescriptor (T k).2.2.1 = some (ty0 k)) (hnm : ∀ a, a < nf → ∀ b, b < nf → a ≠ b → (T a).2.1 ≠ (T b).2.1) (hf : f < nf) (hft : z_ft k f = (0, 0, 0, 0)) (hfin : (T f).2.2.2 = false) (ht : ty0 f = .int) (hlink : Cond.fieldLink q.1.cls idx (T f).1 (T f).2.1 (T f).2.2.1 ∈ z_U) (hd : decode q.2.1 pc = .ok (.putfield idx, 3)) : z_Sd X D q pc (pc + 3) (x_pI k f) := by
  intro ks kj R ls st M h hs hj p e s m args below meth c Rm cells slots Q C0 H locs la I
  rcases st with _ | ⟨x | x | x, _ | ⟨y | y | ⟨k', i⟩, r⟩⟩ <;> first | exact False.elim h | skip
  unfold x_pI at h
  cases hb : Nat.beq k' k with
  | false => simp only [hb] at h; exact False.elim h
  | true =>
    simp only [hb] at h
    have hk := Nat.eq_of_beq_eq_true hb
    subst hk
    refine z_pw C0 hC hty hnm hf hfin hlink hd I.2.1.2.1 I.2.2.1 I.2.2.2.1 (v := zi x) (M' := z_s M k' i f x) (by rw [ht]; rfl) (by rw [ht]; rfl) ?_ (fun j hj => z_ftI hj) (fun r hr hne => z_en_congr (z_s_ne hne) rfl rfl) (fun H1 locs1 hP1 hS1 => hs _ _ _ h p e s m args below meth c Rm cells slots Q C0 H1 locs1 la ⟨I.1, I.2.1.2.2, hP1, hS1, I.2.2.2.2⟩)
    unfold z_fv
    rw [hft, z_s_at]
    show zi (upd _ f x f) = zi x
    unfold upd
    rw [if_pos rfl]
theorem s_pZ {X : z_Cx} {D : Nat} {q : z_MI} {pc k ci nf f idx : Nat} {C : String} {T : u_T} {ty0 : Nat → FieldType} (hC : z_Cl k ci nf C T) (hty : ∀ k, k < nf → parseFieldDescriptor (T k).2.2.1 = some (ty0 k)) (hnm : ∀ a, a < nf → ∀ b, b < nf → a ≠ b → (T a).2.1 ≠ (T b).2.1) (hf : f < nf) (hft : z_ft k f = (0, 0, 0, 0)) (hfin : (T f).2.2.2 = false) (ht : ty0 f = .boolean) (hlink : Cond.fieldLink q.1.cls idx (T f).1 (T f).2.1 (T f).2.2.1 ∈ z_U) (hd : decode q.2.1 pc = .ok (.putfield idx, 3)) : z_Sd X D q pc (pc + 3) (x_pZ k f) := by
  intro ks kj R ls st M h hs hj p e s m args below meth c Rm cells slots Q C0 H locs la I
  rcases st with _ | ⟨x | x | x, _ | ⟨y | y | ⟨k', i⟩, r⟩⟩ <;> first | exact False.elim h | skip
  unfold x_pZ at h
  cases hb : Nat.beq k' k with
  | false => simp only [hb] at h; exact False.elim h
  | true =>
    simp only [hb] at h
    have hk := Nat.eq_of_beq_eq_true hb
    subst hk
    obtain ⟨hx, h⟩ := h
    refine z_pw C0 hC hty hnm hf hfin hlink hd I.2.1.2.1 I.2.2.1 I.2.2.2.1 (v := zi x) (M' := z_s M k' i f x) (by rw [ht]; rcases hx with e | e <;> rw [e] <;> rfl) (by rw [ht]; rcases hx with e | e <;> rw [e] <;> rfl) ?_ (fun j hj => z_ftI hj) (fun r hr hne => z_en_congr (z_s_ne hne) rfl rfl) (fun H1 locs1 hP1 hS1 => hs _ _ _ h p e s m args below meth c Rm cells slots Q C0 H1 locs1 la ⟨I.1, I.2.1.2.2, hP1, hS1, I.2.2.2.2⟩)
    unfold z_fv
    rw [hft, z_s_at]
    show zi (upd _ f x f) = zi x
    unfold upd
    rw [if_pos rfl]
theorem s_pL {X : z_Cx} {D : Nat} {q : z_MI} {pc k ci nf f idx : Nat} {C : String} {T : u_T} {ty0 : Nat → FieldType} (hC : z_Cl k ci nf C T) (hty : ∀ k, k < nf → parseFieldDescriptor (T k).2.2.1 = some (ty0 k)) (hnm : ∀ a, a < nf → ∀ b, b < nf → a ≠ b → (T a).2.1 ≠ (T b).2.1) (hf : f < nf) (hft : z_ft k f = (1, 0, 0, 0)) (hft2 : ∀ j, j ≠ f → (z_ft k j).1 ≠ 1) (hfin : (T f).2.2.2 = false) (ht : ty0 f = .long) (hlink : Cond.fieldLink q.1.cls idx (T f).1 (T f).2.1 (T f).2.2.1 ∈ z_U) (hd : decode q.2.1 pc = .ok (.putfield idx, 3)) : z_Sd X D q pc (pc + 3) (x_pL k) := by
  intro ks kj R ls st M h hs hj p e s m args below meth c Rm cells slots Q C0 H locs la I
  rcases st with _ | ⟨x | x | x, _ | ⟨y | y | ⟨k', i⟩, r⟩⟩ <;> first | exact False.elim h | skip
  unfold x_pL at h
  cases hb : Nat.beq k' k with
  | false => simp only [hb] at h; exact False.elim h
  | true =>
    simp only [hb] at h
    have hk := Nat.eq_of_beq_eq_true hb
    subst hk
    refine z_pw C0 hC hty hnm hf hfin hlink hd I.2.1.2.1 I.2.2.1 I.2.2.2.1 (v := zl x) (M' := z_sl M k' i x) (by rw [ht]; rfl) (by rw [ht]; rfl) ?_ (fun j hj => ?_) (fun r hr hne => z_en_congr rfl ?_ rfl) (fun H1 locs1 hP1 hS1 => hs _ _ _ h p e s m args below meth c Rm cells slots Q C0 H1 locs1 la ⟨I.1, I.2.1.2.2, hP1, hS1, I.2.2.2.2⟩)
    · unfold z_fv
      rw [hft]
      show zl (if k' = k' ∧ i = i then x else _) = zl x
      rw [if_pos ⟨rfl, rfl⟩]
    · have h2 := hft2 j hj
      unfold z_fv
      revert h2
      rcases z_ft k' j with ⟨_ | _ | _ | t, a, b, c⟩ <;> intro h2 <;> first | rfl | exact absurd rfl h2
    · show (if r.1 = k' ∧ r.2 = i then x else _) = _
      rw [if_neg (fun w => hne (Prod.ext w.1 w.2))]
theorem s_pD {X : z_Cx} {D : Nat} {q : z_MI} {pc k ci nf f idx a n : Nat} {C : String} {T : u_T} {ty0 : Nat → FieldType} (hC : z_Cl k ci nf C T) (hty : ∀ k, k < nf → parseFieldDescriptor (T k).2.2.1 = some (ty0 k)) (hnm : ∀ a, a < nf → ∀ b, b < nf → a ≠ b → (T a).2.1 ≠ (T b).2.1) (hf : f < nf) (hft : z_ft k f = (3, a, n, 0)) (hft2 : ∀ j, j ≠ f → (z_ft k j).1 ≤ 2 ∨ (z_ft k j).2.2.1 ≠ n) (hc1 : z_cnt k = 1) (hca : z_cnt a = 2) (hfin : (T f).2.2.2 = false) (ht : ty0 f = .array .int) (hlink : Cond.fieldLink q.1.cls idx (T f).1 (T f).2.1 (T f).2.2.1 ∈ z_U) (hd : decode q.2.1 pc = .ok (.putfield idx, 3)) : z_Sd X D q pc (pc + 3) (x_pD k a n) := by
  intro ks kj R ls st M h hs hj p e s m args below meth c Rm cells slots Q C0 H locs la I
  rcases st with _ | ⟨x | x | ⟨a', j⟩, _ | ⟨y | y | ⟨k', i⟩, r⟩⟩ <;> first | exact False.elim h | skip
  unfold x_pD at h
  cases hb : (Nat.beq k' k && Nat.beq a' a) with
  | false => simp only [hb] at h; exact False.elim h
  | true =>
    simp only [hb] at h
    obtain ⟨hb1, hb2⟩ := Bool.and_eq_true_iff.mp hb
    have hk := Nat.eq_of_beq_eq_true hb1
    have hka := Nat.eq_of_beq_eq_true hb2
    subst hk
    subst hka
    have hj2 : j < 2 := by have := I.2.1.1; rw [show z_ok (Sum.inr (Sum.inr (a', j))) = (j < z_cnt a') from rfl, hca] at this; exact this
    have hjb : (Nat.beq j 1).toNat = j := by
      rcases (show j = 0 ∨ j = 1 by omega) with e | e <;> rw [e] <;> rfl
    refine z_pw C0 hC hty hnm hf hfin hlink hd I.2.1.2.1 I.2.2.1 I.2.2.2.1 (v := zr a' j) (M' := z_sn M k' n (Nat.beq j 1)) (by rw [ht]; rfl) (by rw [ht]; rfl) ?_ (fun j' hj' => ?_) (fun r hr hne => z_en_congr rfl rfl ?_) (fun H1 locs1 hP1 hS1 => hs _ _ _ h p e s m args below meth c Rm cells slots Q C0 H1 locs1 la ⟨I.1, I.2.1.2.2, hP1, hS1, I.2.2.2.2⟩)
    · unfold z_fv
      rw [hft]
      show zr a' (if k' = k' ∧ n = n then Nat.beq j 1 else _).toNat = zr a' j
      rw [if_pos ⟨rfl, rfl⟩, hjb]
    · have h2 := hft2 j' hj'
      unfold z_fv
      revert h2
      rcases z_ft k' j' with ⟨_ | _ | _ | t, b1, b2, b3⟩ <;> intro h2 <;> first | rfl | skip
      show zr b1 ((z_sn M k' n (Nat.beq j 1)).2.2 k' b2).toNat = zr b1 (M.2.2 k' b2).toNat
      rw [z_sn_ne]
      rcases h2 with h2 | h2
      · exact absurd (show t + 3 ≤ 2 from h2) (by omega)
      · exact h2
    · have hr1 := z_lt64 hr
      have hne1 : r.1 ≠ k' := by
        intro w
        apply hne
        have hi0 : i < 1 := by rw [← hc1]; exact I.2.1.2.1
        have hr2 : r.2 < 1 := by rw [← hc1, ← w]; exact hr1.2
        exact Prod.ext w (by show r.2 = i; omega)
      funext x
      show (if r.1 = k' ∧ x = n then _ else _) = _
      rw [if_neg (fun w => hne1 w.1)]
