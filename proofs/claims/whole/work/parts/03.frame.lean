/-! ===== THE ABSTRACT MACHINE: values, memory, places ===== -/
/-- a value: an int, a long, a place (kind, number) -/
abbrev z_V : Type := Int32 ⊕ Int64 ⊕ (Nat × Nat)
/-- the memory: ints by kind, number, slot; longs by kind, number; which of two rows a field names, by kind, field's number -/
abbrev z_M : Type := (Nat → Nat → Nat → Int32) × (Nat → Nat → Int64) × (Nat → Nat → Bool)
abbrev z_L : Type := List (Nat × z_V)
abbrev z_K : Type := z_L → List z_V → z_M → Prop
/-- launch, classes, addresses of the places, array classes, the script's length and ints -/
abbrev z_Cx : Type := Launch × va_G × (Nat → Nat → Nat) × (Nat → ClassId) × Nat × (Nat → Int32)
/-- a method: name, code, locals, what it returns -/
abbrev z_MI : Type := MethodName × ByteArray × Nat × Option FieldType
abbrev z_C : Type := z_MI → List z_V → z_M → (Int32 → z_M → Prop) → Prop
abbrev z_X : Type := z_K → (Nat → z_K) → (Int32 → z_M → Prop) → z_C → z_K
abbrev zi (x : Int32) : z_V := Sum.inl x
abbrev zl (x : Int64) : z_V := Sum.inr (Sum.inl x)
abbrev zr (k i : Nat) : z_V := Sum.inr (Sum.inr (k, i))
def z_co (ad : Nat → Nat → Nat) : z_V → Value
  | .inl x => .int x
  | .inr (.inl x) => .long x
  | .inr (.inr q) => .ref (ad q.1 q.2)
def z_fv (k f i : Nat) (M : z_M) : z_V := match z_ft k f with
  | (0, _, _, _) => zi (M.1 k i f)
  | (1, _, _, _) => zl (M.2.1 k i)
  | (2, a, b, c) => zr a (b * i + c)
  | (_, a, n, _) => zr a (M.2.2 k n).toNat
def z_en (X : z_Cx) (M : z_M) (q : Nat × Nat) : Nat × va_E := (X.2.2.1 q.1 q.2, match z_kd q.1 with
  | (0, ci, nf, _, _, _) => .inr (ci, (List.range nf).map (fun f => z_co X.2.2.1 (z_fv q.1 f q.2 M)))
  | (1, t0, n, _, _, _) => .inl (X.2.2.2.1 t0, n, .inl (M.1 q.1 q.2))
  | (_, t0, n, a, b, c) => .inl (X.2.2.2.1 t0, n, .inr (.inr (.inr (.inr (fun j => some (X.2.2.1 a (b * q.2 + c + j))))))))
def z_pl : List (Nat × Nat) := (List.range 64).flatMap (fun k => (List.range (z_cnt k)).map (fun i => (k, i)))
def z_w (X : z_Cx) (M : z_M) : va_W := z_pl.map (z_en X M)
def z_A (X : z_Cx) : Nat → Prop := fun a => ∃ q ∈ z_pl, a = X.2.2.1 q.1 q.2
def z_inj (X : z_Cx) : Prop := ∀ q ∈ z_pl, ∀ r ∈ z_pl, X.2.2.1 q.1 q.2 = X.2.2.1 r.1 r.2 → q = r
def z_ty (cA : Nat → ClassId) : List (ClassId × FieldType) := [(cA 0, .int), (cA 1, .byte), (cA 2, .boolean), (cA 3, .object "PaceStore$Sheet"), (cA 4, .object "PaceStore$Course"), (cA 5, .object "PaceStore$Results"), (cA 6, .object "PaceStore$Body"), (cA 7, .array .int)]
def z_tt (t : Nat) : FieldType := bif Nat.beq t 0 then .int else bif Nat.beq t 1 then .byte else .boolean
theorem z_pl_mem {k i : Nat} (hk : k < 64) (hi : i < z_cnt k) : (k, i) ∈ z_pl := by
  unfold z_pl
  rw [List.mem_flatMap]
  exact ⟨k, List.mem_range.mpr hk, List.mem_map.mpr ⟨i, List.mem_range.mpr hi, rfl⟩⟩
theorem z_pl_nd : z_pl.Nodup := by decide +kernel
theorem z_pl_at {q : Nat × Nat} (h : q ∈ z_pl) : ∃ q0 : Nat, z_pl[q0]? = some q := List.getElem?_of_mem h
theorem z_pl_inj {i j : Nat} {q : Nat × Nat} (hi : z_pl[i]? = some q) (hj : z_pl[j]? = some q) : i = j := by
  exact (List.getElem?_inj (List.getElem?_eq_some_iff.mp hi).1 z_pl_nd).mp (hi.trans hj.symm)
theorem z_w_at {X : z_Cx} {M : z_M} {q0 : Nat} {q : Nat × Nat} (h : z_pl[q0]? = some q) : (z_w X M)[q0]? = some (z_en X M q) := by
  unfold z_w
  rw [List.getElem?_map, h]
  rfl
theorem z_w_set {X : z_Cx} {M M' : z_M} {q0 : Nat} {q : Nat × Nat} (h : z_pl[q0]? = some q) (hne : ∀ r ∈ z_pl, r ≠ q → z_en X M' r = z_en X M r) : (z_w X M).set q0 (z_en X M' q) = z_w X M' := by
  apply List.ext_getElem?
  intro j
  unfold z_w
  rw [List.getElem?_set, List.getElem?_map, List.getElem?_map, List.length_map]
  by_cases e : q0 = j
  · subst e
    have hl : q0 < z_pl.length := (List.getElem?_eq_some_iff.mp h).1
    rw [if_pos rfl, if_pos hl, h]
    rfl
  · rw [if_neg e]
    cases hj : z_pl[j]? with
    | none => rfl
    | some r =>
      have hr : r ≠ q := fun w => e (z_pl_inj h (w ▸ hj))
      show some (z_en X M r) = some (z_en X M' r)
      rw [hne r (List.mem_of_getElem? hj) hr]
theorem z_w_D {X : z_Cx} {M : z_M} (h : z_inj X) : va_D (z_A X) (z_w X M) := by
  have key : ∀ (i : Nat) (p : Nat × va_E), (z_w X M)[i]? = some p → ∃ q, z_pl[i]? = some q ∧ p = z_en X M q := by
    intro i p hp
    unfold z_w at hp
    rw [List.getElem?_map] at hp
    cases hi : z_pl[i]? with
    | none => rw [hi] at hp; cases hp
    | some q => rw [hi] at hp; exact ⟨q, rfl, (Option.some.inj hp).symm⟩
  refine ⟨fun i j p q hp hq e => ?_, fun k q hq => ?_⟩
  · obtain ⟨a, ha, rfl⟩ := key i p hp
    obtain ⟨b, hb, rfl⟩ := key j q hq
    have : a = b := h a (List.mem_of_getElem? ha) b (List.mem_of_getElem? hb) e
    subst this
    exact z_pl_inj ha hb
  · obtain ⟨a, ha, rfl⟩ := key k q hq
    exact ⟨a, List.mem_of_getElem? ha, rfl⟩
def z_ok : z_V → Prop
  | .inr (.inr q) => q.2 < z_cnt q.1
  | _ => True
def z_oks : List z_V → Prop
  | [] => True
  | v :: r => z_ok v ∧ z_oks r
def z_okl : z_L → Prop
  | [] => True
  | q :: r => z_ok q.2 ∧ z_okl r
def z_cs (X : z_Cx) (st : List z_V) : List Value := st.map (z_co X.2.2.1)
def z_cl (X : z_Cx) (ls : z_L) : List (Nat × Value) := ls.map (fun q => (q.1, z_co X.2.2.1 q.2))
/-- a local's value; a local stored (a long's second half, and what a store breaks, are forgotten) -/
def z_lk (i : Nat) : z_L → Option z_V
  | [] => none
  | (n, v) :: r => bif Nat.beq n i then some v else z_lk i r
def z_isl : z_V → Bool
  | .inr (.inl _) => true
  | _ => false
def z_rm1 (i : Nat) : z_L → z_L
  | [] => []
  | (n, v) :: r => bif Nat.beq n i then z_rm1 i r else bif (Nat.beq (n + 1) i && z_isl v) then z_rm1 i r else (n, v) :: z_rm1 i r
/-- the same, handed on -/
def z_rmk (i : Nat) : z_L → (z_L → Prop) → Prop
  | [], k => k []
  | (n, v) :: r, k => bif Nat.beq n i then z_rmk i r k else bif (Nat.beq (n + 1) i && z_isl v) then z_rmk i r k else z_rmk i r (fun l => k ((n, v) :: l))
theorem z_rmk_eq {i : Nat} : ∀ {ls : z_L} {k : z_L → Prop}, z_rmk i ls k = k (z_rm1 i ls) := by
  intro ls
  induction ls with
  | nil => intro k; rfl
  | cons q r ih =>
    obtain ⟨n, v⟩ := q
    intro k
    unfold z_rmk z_rm1
    cases hb : Nat.beq n i with
    | true => exact ih
    | false =>
      cases hc : (Nat.beq (n + 1) i && z_isl v) with
      | true => exact ih
      | false => exact ih
def z_pk : List Nat → z_L → z_L
  | [], _ => []
  | k :: r, ls => match z_lk k ls with
    | some v => (k, v) :: z_pk r ls
    | none => z_pk r ls
def z_pkk : List Nat → z_L → (z_L → Prop) → Prop
  | [], _, k => k []
  | a :: r, ls, k => match z_lk a ls with
    | some v => z_pkk r ls (fun l => k ((a, v) :: l))
    | none => z_pkk r ls k
theorem z_pkk_eq {ls : z_L} : ∀ {ks : List Nat} {k : z_L → Prop}, z_pkk ks ls k = k (z_pk ks ls) := by
  intro ks
  induction ks with
  | nil => intro k; rfl
  | cons a r ih =>
    intro k
    unfold z_pkk z_pk
    cases z_lk a ls with
    | none => exact ih
    | some v => exact ih
def z_wd : List z_V → Nat
  | [] => 0
  | .inr (.inl _) :: r => 2 + z_wd r
  | _ :: r => 1 + z_wd r
def z_pop : Nat → List z_V → List z_V → Option (List z_V × List z_V)
  | 0, st, acc => some (acc, st)
  | _ + 1, [], _ => none
  | n + 1, v :: r, acc => z_pop n r (v :: acc)
/-- ints of memory -/
def z_s (M : z_M) (k i j : Nat) (v : Int32) : z_M := (fun k' i' j' => if k' = k ∧ i' = i ∧ j' = j then v else M.1 k' i' j', M.2)
def z_sl (M : z_M) (k i : Nat) (v : Int64) : z_M := (M.1, fun k' i' => if k' = k ∧ i' = i then v else M.2.1 k' i', M.2.2)
def z_sn (M : z_M) (k n : Nat) (v : Bool) : z_M := (M.1, M.2.1, fun k' n' => if k' = k ∧ n' = n then v else M.2.2 k' n')
theorem z_oks_pop {n : Nat} : ∀ {st acc as r : List z_V}, z_pop n st acc = some (as, r) → z_oks st → z_oks acc → z_oks as ∧ z_oks r := by
  induction n with
  | zero => intro st acc as r h h1 h2; cases h; exact ⟨h2, h1⟩
  | succ n ih =>
    intro st acc as r h h1 h2
    cases st with
    | nil => cases h
    | cons v t => exact ih (acc := v :: acc) h h1.2 ⟨h1.1, h2⟩
theorem z_pop_spec {n : Nat} : ∀ {st acc as r : List z_V}, z_pop n st acc = some (as, r) → ∃ b, as = b ++ acc ∧ b.length = n ∧ st = b.reverse ++ r := by
  induction n with
  | zero => intro st acc as r h; cases h; exact ⟨[], rfl, rfl, rfl⟩
  | succ n ih =>
    intro st acc as r h
    cases st with
    | nil => cases h
    | cons v t =>
      obtain ⟨b, e1, e2, e3⟩ := ih (acc := v :: acc) h
      refine ⟨b ++ [v], by rw [e1, List.append_assoc]; rfl, by rw [List.length_append, e2]; rfl, by rw [e3, List.reverse_append]; rfl⟩
theorem z_lk_ok {i : Nat} : ∀ {ls : z_L} {v : z_V}, z_lk i ls = some v → z_okl ls → z_ok v := by
  intro ls
  induction ls with
  | nil => intro v h; cases h
  | cons q r ih =>
    obtain ⟨n, w⟩ := q
    intro v h ho
    unfold z_lk at h
    cases hb : Nat.beq n i with
    | true => rw [hb] at h; cases h; exact ho.1
    | false => rw [hb] at h; exact ih h ho.2
theorem z_lk_mem {i : Nat} : ∀ {ls : z_L} {v : z_V}, z_lk i ls = some v → (i, v) ∈ ls := by
  intro ls
  induction ls with
  | nil => intro v h; cases h
  | cons q r ih =>
    obtain ⟨n, w⟩ := q
    intro v h
    unfold z_lk at h
    cases hb : Nat.beq n i with
    | true =>
      rw [hb] at h
      cases h
      have e : n = i := Nat.eq_of_beq_eq_true hb
      rw [← e]
      exact List.mem_cons_self
    | false => rw [hb] at h; exact List.mem_cons_of_mem _ (ih h)
theorem z_lk_has {X : z_Cx} {i nL : Nat} {ls : z_L} {v : z_V} {la : Array Slot} (h : z_lk i ls = some v) (hl : lv_has la nL (z_cl X ls)) : la[i]? = some (.val (z_co X.2.2.1 v)) :=
  hl.2.2 (i, z_co X.2.2.1 v) (List.mem_map.mpr ⟨(i, v), z_lk_mem h, rfl⟩)
theorem z_okl_mem {ls : z_L} : z_okl ls ↔ ∀ q ∈ ls, z_ok q.2 := by
  induction ls with
  | nil => exact ⟨fun _ q h => (by cases h), fun _ => trivial⟩
  | cons q r ih => exact ⟨fun h x hx => (List.mem_cons.mp hx).elim (fun e => e ▸ h.1) (fun hx => ih.mp h.2 x hx), fun h => ⟨h q List.mem_cons_self, ih.mpr (fun x hx => h x (List.mem_cons_of_mem _ hx))⟩⟩
theorem z_rm1_sub {i : Nat} : ∀ {ls : z_L} {q : Nat × z_V}, q ∈ z_rm1 i ls → q ∈ ls ∧ ¬ q.1 = i ∧ ¬ (q.1 + 1 = i ∧ z_isl q.2 = true) := by
  intro ls
  induction ls with
  | nil => intro q h; cases h
  | cons a r ih =>
    obtain ⟨n, w⟩ := a
    intro q h
    unfold z_rm1 at h
    cases hb : Nat.beq n i with
    | true => rw [hb] at h; exact ⟨List.mem_cons_of_mem _ (ih h).1, (ih h).2⟩
    | false =>
      rw [hb] at h
      cases hc : (Nat.beq (n + 1) i && z_isl w) with
      | true => rw [hc] at h; exact ⟨List.mem_cons_of_mem _ (ih h).1, (ih h).2⟩
      | false =>
        rw [hc] at h
        rcases List.mem_cons.mp h with e | h
        · subst e
          refine ⟨List.mem_cons_self, fun e => ?_, fun e => ?_⟩
          · rw [show n = i from e, Nat.beq_refl] at hb; cases hb
          · rw [show n + 1 = i from e.1, Nat.beq_refl, show z_isl w = true from e.2] at hc; cases hc
        · exact ⟨List.mem_cons_of_mem _ (ih h).1, (ih h).2⟩
theorem z_pk_sub {ls : z_L} : ∀ {ks : List Nat} {q : Nat × z_V}, q ∈ z_pk ks ls → q ∈ ls := by
  intro ks
  induction ks with
  | nil => intro q h; cases h
  | cons k r ih =>
    intro q h
    unfold z_pk at h
    cases hk : z_lk k ls with
    | none => rw [hk] at h; exact ih h
    | some v =>
      rw [hk] at h
      rcases List.mem_cons.mp h with e | h
      · subst e; exact z_lk_mem hk
      · exact ih h
theorem z_cl_sub {X : z_Cx} {nL : Nat} {ls ls' : z_L} {la : Array Slot} (h : ∀ q ∈ ls', q ∈ ls) (hl : lv_has la nL (z_cl X ls)) : lv_has la nL (z_cl X ls') := by
  refine ⟨hl.1, hl.2.1, fun q hq => ?_⟩
  obtain ⟨a, ha, rfl⟩ := List.mem_map.mp hq
  exact hl.2.2 _ (List.mem_map.mpr ⟨a, h a ha, rfl⟩)
theorem z_okl_sub {ls ls' : z_L} (h : ∀ q ∈ ls', q ∈ ls) (ho : z_okl ls) : z_okl ls' := z_okl_mem.mpr (fun q hq => z_okl_mem.mp ho q (h q hq))
theorem z_co_cat {ad : Nat → Nat → Nat} {v : z_V} : (z_co ad v).category = (bif z_isl v then 2 else 1) := by
  rcases v with x | x | x <;> rfl
theorem z_rm1_okl {i : Nat} {ls : z_L} (h : z_okl ls) : z_okl (z_rm1 i ls) := z_okl_sub (fun _ hq => (z_rm1_sub hq).1) h
theorem z_wd_cs {X : z_Cx} (st : List z_V) : ((z_cs X st).map fun v => v.category).sum = z_wd st := by
  induction st with
  | nil => rfl
  | cons v r ih =>
    have e : ((z_cs X (v :: r)).map fun v => v.category).sum = (z_co X.2.2.1 v).category + ((z_cs X r).map fun v => v.category).sum := by
      simp [z_cs]
    rw [e, ih]
    rcases v with x | x | x <;> rfl
