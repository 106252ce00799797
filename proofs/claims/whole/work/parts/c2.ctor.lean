/-! ===== constructors: a machine of numbers ===== -/
/-- an int, a long, a reference: none, or the n-th cell made -/
abbrev zc_V : Type := Int32 ⊕ Int64 ⊕ Option Nat
/-- a cell: an object (its class, its fields), a row (its class, how long, ints or references) -/
abbrev zc_E : Type := (Nat × List zc_V) ⊕ (Nat × Nat × ((Nat → Int32) ⊕ (Nat → Option Nat)))
abbrev zc_H : Type := List zc_E
/-- this, the counter, the stack, the cells made, how many of them are new, how many slots they have -/
abbrev zc_S : Type := Nat × Option Int32 × List zc_V × zc_H × Nat × Nat
abbrev zc_r (i : Nat) : zc_V := .inr (.inr (some i))
def zc_co (ad : Nat → Nat) : zc_V → Value
  | .inl x => .int x
  | .inr (.inl x) => .long x
  | .inr (.inr none) => .null
  | .inr (.inr (some i)) => .ref (ad i)
def zc_en (cA : Nat → ClassId) (ad : Nat → Nat) : zc_E → va_E
  | .inl (ci, fs) => .inr (ci, fs.map (zc_co ad))
  | .inr (t0, n, .inl f) => .inl (cA t0, n, .inl f)
  | .inr (t0, n, .inr g) => .inl (cA t0, n, .inr (.inr (.inr (.inr (fun j => (g j).map ad)))))
def zc_w (cA : Nat → ClassId) (ad : Nat → Nat) (hp : zc_H) : va_W := hp.mapIdx (fun i e => (ad i, zc_en cA ad e))
def zc_rk (n : Nat) : zc_V → Prop
  | .inr (.inr (some i)) => i < n
  | _ => True
def zc_re (n : Nat) : zc_E → Prop
  | .inl (_, fs) => ∀ v ∈ fs, zc_rk n v
  | .inr (_, _, .inl _) => True
  | .inr (_, _, .inr g) => ∀ j r, g j = some r → r < n
def zc_wf (hp : zc_H) : Prop := ∀ e ∈ hp, zc_re hp.length e
theorem rk_le {n n' : Nat} {v : zc_V} (h : n ≤ n') (hv : zc_rk n v) : zc_rk n' v := by
  rcases v with x | x | _ | i
  · trivial
  · trivial
  · trivial
  · exact Nat.lt_of_lt_of_le hv h
theorem re_le {n n' : Nat} {e : zc_E} (h : n ≤ n') (he : zc_re n e) : zc_re n' e := by
  rcases e with ⟨ci, fs⟩ | ⟨t0, k, f | g⟩
  · exact fun v hv => rk_le h (he v hv)
  · trivial
  · exact fun j r q => Nat.lt_of_lt_of_le (he j r q) h
theorem co_ext {n : Nat} {ad ad' : Nat → Nat} (h : ∀ i, i < n → ad' i = ad i) {v : zc_V} (hv : zc_rk n v) : zc_co ad' v = zc_co ad v := by
  rcases v with x | x | _ | i
  · rfl
  · rfl
  · rfl
  · exact congrArg Value.ref (h i hv)
theorem en_ext {n : Nat} {cA : Nat → ClassId} {ad ad' : Nat → Nat} (h : ∀ i, i < n → ad' i = ad i) {e : zc_E} (he : zc_re n e) : zc_en cA ad' e = zc_en cA ad e := by
  rcases e with ⟨ci, fs⟩ | ⟨t0, k, f | g⟩
  · show Sum.inr (ci, fs.map (zc_co ad')) = Sum.inr (ci, fs.map (zc_co ad))
    rw [List.map_congr_left (fun v hv => co_ext h (he v hv))]
  · rfl
  · show Sum.inl (cA t0, k, _) = Sum.inl (cA t0, k, _)
    have : (fun j => (g j).map ad') = fun j => (g j).map ad := by
      funext j
      cases q : g j with
      | none => rfl
      | some r => exact congrArg some (h r (he j r q))
    rw [this]
theorem w_lk {cA : Nat → ClassId} {ad : Nat → Nat} {hp : zc_H} {i : Nat} {e : zc_E} (h : hp[i]? = some e) : (zc_w cA ad hp)[i]? = some (ad i, zc_en cA ad e) := by
  unfold zc_w
  rw [List.getElem?_mapIdx, h]
  rfl
theorem w_ext {cA : Nat → ClassId} {ad ad' : Nat → Nat} {hp : zc_H} (h : ∀ i, i < hp.length → ad' i = ad i) (hw : zc_wf hp) : zc_w cA ad' hp = zc_w cA ad hp := by
  apply List.ext_getElem?
  intro j
  unfold zc_w
  rw [List.getElem?_mapIdx, List.getElem?_mapIdx]
  cases q : hp[j]? with
  | none => rfl
  | some e =>
    show some (ad' j, zc_en cA ad' e) = some (ad j, zc_en cA ad e)
    rw [h j (List.getElem?_eq_some_iff.mp q).1, en_ext h (hw e (List.mem_of_getElem? q))]
theorem w_set {cA : Nat → ClassId} {ad : Nat → Nat} {hp : zc_H} {i : Nat} {e : zc_E} : (zc_w cA ad hp).set i (ad i, zc_en cA ad e) = zc_w cA ad (hp.set i e) := by
  apply List.ext_getElem?
  intro j
  unfold zc_w
  rw [List.getElem?_set, List.getElem?_mapIdx, List.getElem?_mapIdx, List.getElem?_set, List.length_mapIdx]
  by_cases q : i = j
  · subst q
    rw [if_pos rfl, if_pos rfl]
    by_cases w : i < hp.length
    · rw [if_pos w, if_pos w]
      rfl
    · rw [if_neg w, if_neg w]
      rfl
  · rw [if_neg q, if_neg q]
theorem wf_set {hp : zc_H} {i : Nat} {e : zc_E} (hw : zc_wf hp) (he : zc_re hp.length e) : zc_wf (hp.set i e) := by
  intro x hx
  rw [List.length_set]
  rcases List.mem_or_eq_of_mem_set hx with h | h
  · exact hw x h
  · rw [h]; exact he
def zc_up (ad : Nat → Nat) (n q : Nat) : Nat → Nat := fun i => if i = n then q else ad i
theorem up_lt {ad : Nat → Nat} {n q i : Nat} (h : i < n) : zc_up ad n q i = ad i := if_neg (by omega)
theorem up_at {ad : Nat → Nat} {n q : Nat} : zc_up ad n q n = q := if_pos rfl
/-- one cell more -/
theorem w_push {cA : Nat → ClassId} {ad : Nat → Nat} {hp : zc_H} {e : zc_E} {q : Nat} (hw : zc_wf hp) (he : zc_re hp.length e) : zc_w cA (zc_up ad hp.length q) (hp ++ [e]) = zc_w cA ad hp ++ [(q, zc_en cA ad e)] := by
  have h1 : zc_w cA (zc_up ad hp.length q) (hp ++ [e]) = zc_w cA (zc_up ad hp.length q) hp ++ [(zc_up ad hp.length q hp.length, zc_en cA (zc_up ad hp.length q) e)] := by
    unfold zc_w
    rw [List.mapIdx_concat]
  rw [h1, w_ext (ad := ad) (fun i hi => up_lt hi) hw, up_at, en_ext (ad := ad) (fun i hi => up_lt hi) he]
theorem wf_push {hp : zc_H} {e : zc_E} (hw : zc_wf hp) (he : zc_re (hp.length + 1) e) : zc_wf (hp ++ [e]) := by
  intro x hx
  rw [List.length_append]
  rcases List.mem_append.mp hx with h | h
  · exact re_le (by simp) (hw x h)
  · rw [List.mem_singleton.mp h]
    exact he
/-- words of the start that a call or a new row asks for -/
def zc_N : List (String × Nat × MethodName × String) := [("PaceStore", 17, ⟨"PaceStore$Reader", "<init>", "()V"⟩, "PaceStore"), ("PaceStore$Reader", 17, ⟨"PaceStore$Course", "<init>", "()V"⟩, "PaceStore"), ("PaceStore", 24, ⟨"PaceStore$Course", "<init>", "()V"⟩, "PaceStore"), ("PaceStore", 31, ⟨"PaceStore$Results", "<init>", "()V"⟩, "PaceStore"), ("PaceStore$Field", 17, ⟨"PaceStore$Body", "<init>", "()V"⟩, "PaceStore"), ("PaceStore", 60, ⟨"PaceStore$Game", "<init>", "()V"⟩, "PaceStore"), ("PaceStore", 67, ⟨"PaceStore$Step", "<init>", "()V"⟩, "PaceStore"), ("PaceStore", 72, ⟨"PaceStore$Sheet", "<init>", "()V"⟩, "PaceStore"), ("PaceStore$Alone", 35, ⟨"PaceStore", "secondsBy", "(I)I"⟩, "PaceStore")]
def zc_O : List String := ["PaceStore$Sheet", "PaceStore$Course", "PaceStore$Results", "PaceStore$Body"]
def zc_F (s : State) : Prop := (∀ x ∈ zc_N, va_Nw (.methodLinkNest x.1 x.2.1 x.2.2.1 x.2.2.2) s) ∧ (∀ C ∈ zc_O, va_AO C s) ∧ ∀ a : Array Value, (Cond.arrayOver (.array .int)).before a s = true
def zc_MC (G : va_G) (cA : Nat → ClassId) (D : Nat) (q : z_MI) (A : Nat → Prop) (p : Program) (s : State) (m : MethodId) (args : Array Value) (meth : Method) (c : Code) (Rm : Room) : Prop :=
  p.tables.exec = Jvm.exec ∧ c.code = q.2.1 ∧ c.maxLocals = q.2.2.1 ∧ s.vm.findClass q.1.cls = some m.cls ∧ (∀ w ∈ z_U, w.before args s = true) ∧ va_K G vwCl (z_ty cA) s ∧ zc_F s ∧ (∀ a, s.heap.size ≤ a → A a) ∧ meth.name = "<init>" ∧ (D + 1 ≤ Rm.frames ∧ 64 * (D + 1) ≤ Rm.locals)
def zc_ll (ad : Nat → Nat) (th : Nat) (ct : Option Int32) : List (Nat × Value) := match ct with
  | none => [(0, .ref (ad th))]
  | some x => [(1, .int x), (0, .ref (ad th))]
def zc_I (G : va_G) (cA : Nat → ClassId) (A : Nat → Prop) (nL : Nat) (s : State) (n0 : Nat) (ad0 ad : Nat → Nat) (th : Nat) (ct : Option Int32) (st : List zc_V) (hp : zc_H) (H : Heap) (locs : List Loc) (la : Array Slot) : Prop :=
  (zc_wf hp ∧ (∀ v ∈ st, zc_rk hp.length v) ∧ th < hp.length) ∧ ((∀ i, i < n0 → ad i = ad0 i) ∧ n0 ≤ hp.length) ∧ va_P G vwCl (zc_w cA ad hp) H ∧ va_D A (zc_w cA ad hp) ∧ va_S A s.heap H locs ∧ lv_has la nL (zc_ll ad th ct)
abbrev zc_X : Type := zc_S → Option (Option Nat × zc_S)
/-- a step is sound -/
def zc_Sd (l : Launch) (G : va_G) (cA : Nat → ClassId) (D : Nat) (q : z_MI) (pc npc : Nat) (f : zc_X) : Prop :=
  (∀ σ j σ', f σ = some (j, σ') → σ.2.2.2.2.1 ≤ σ'.2.2.2.2.1 ∧ σ.2.2.2.2.2 ≤ σ'.2.2.2.2.2) ∧
  ∀ (p : Program) (e : Env) (s : State) (m : MethodId) (args : Array Value) (below : List Frame) (meth : Method) (c : Code) (Rm : Room) (Q : State → Prop) (A : Nat → Prop) (n0 : Nat) (ad0 : Nat → Nat), zc_MC G cA D q A p s m args meth c Rm → ∀ (σ : zc_S) (j : Option Nat) (σ' : zc_S), f σ = some (j, σ') → σ'.2.2.2.2.1 ≤ Rm.cells → σ'.2.2.2.2.2 ≤ Rm.slots → ∀ (ad : Nat → Nat) (H : Heap) (locs : List Loc) (la : Array Slot), zc_I G cA A q.2.2.1 s n0 ad0 ad σ.1 σ.2.1 σ.2.2.1 σ.2.2.2.1 H locs la →
  (∀ (ad' : Nat → Nat) (H' : Heap) (locs' : List Loc) (la' : Array Slot), zc_I G cA A q.2.2.1 s n0 ad0 ad' σ'.1 σ'.2.1 σ'.2.2.1 σ'.2.2.2.1 H' locs' la' → W p l e Rm s m args below meth c H' locs' σ'.2.2.2.2.1 σ'.2.2.2.2.2 Q (F0 m (j.getD npc) la' (σ'.2.2.1.map (zc_co ad')))) →
  W p l e Rm s m args below meth c H locs σ.2.2.2.2.1 σ.2.2.2.2.2 Q (F0 m pc la (σ.2.2.1.map (zc_co ad)))
section ZP
variable {l : Launch} {G : va_G} {cA : Nat → ClassId} {D : Nat} {q : z_MI} {pc : Nat}
def yc_ic (v : Int32) : zc_X := fun (th, ct, st, hp, c, z) => some (none, th, ct, .inl v :: st, hp, c, z)
theorem yk_push {A : Nat → Prop} {nL n0 : Nat} {s : State} {ad0 ad : Nat → Nat} {th : Nat} {ct : Option Int32} {st : List zc_V} {hp : zc_H} {H : Heap} {locs : List Loc} {la : Array Slot} {v : zc_V} (I : zc_I G cA A nL s n0 ad0 ad th ct st hp H locs la) (hv : zc_rk hp.length v) : zc_I G cA A nL s n0 ad0 ad th ct (v :: st) hp H locs la :=
  ⟨⟨I.1.1, fun w hw => (List.mem_cons.mp hw).elim (fun e => e ▸ hv) (I.1.2.1 w), I.1.2.2⟩, I.2⟩
theorem yk_pop {A : Nat → Prop} {nL n0 : Nat} {s : State} {ad0 ad : Nat → Nat} {th : Nat} {ct : Option Int32} {st : List zc_V} {hp : zc_H} {H : Heap} {locs : List Loc} {la : Array Slot} {v : zc_V} (I : zc_I G cA A nL s n0 ad0 ad th ct (v :: st) hp H locs la) : zc_I G cA A nL s n0 ad0 ad th ct st hp H locs la :=
  ⟨⟨I.1.1, fun w hw => I.1.2.1 w (List.mem_cons_of_mem _ hw), I.1.2.2⟩, I.2⟩
theorem yk_iconst {n : Int} {v : Int32} (hd : decode q.2.1 pc = .ok (.iconst n, 1)) (hv : Int32.ofInt n = v) : zc_Sd l G cA D q pc (pc + 1) (yc_ic v) := by
  refine ⟨fun σ j σ' h => by cases h; exact ⟨Nat.le_refl _, Nat.le_refl _⟩, ?_⟩
  intro p e s m args below meth c Rm Q A n0 ad0 C0 σ j σ' h hc hz ad H locs la I k
  cases h
  exact lv_iconst C0.1 C0.2.1 hd hv (k ad H locs la (yk_push I trivial))
theorem yk_bipush {n : Int} {v : Int32} (hd : decode q.2.1 pc = .ok (.bipush n, 2)) (hv : (Int8.ofInt n).toInt32 = v) : zc_Sd l G cA D q pc (pc + 2) (yc_ic v) := by
  refine ⟨fun σ j σ' h => by cases h; exact ⟨Nat.le_refl _, Nat.le_refl _⟩, ?_⟩
  intro p e s m args below meth c Rm Q A n0 ad0 C0 σ j σ' h hc hz ad H locs la I k
  cases h
  exact lv_bipush C0.1 C0.2.1 hd hv (k ad H locs la (yk_push I trivial))
theorem yk_sipush {n : Int} {v : Int32} (hd : decode q.2.1 pc = .ok (.sipush n, 3)) (hv : (Int16.ofInt n).toInt32 = v) : zc_Sd l G cA D q pc (pc + 3) (yc_ic v) := by
  refine ⟨fun σ j σ' h => by cases h; exact ⟨Nat.le_refl _, Nat.le_refl _⟩, ?_⟩
  intro p e s m args below meth c Rm Q A n0 ad0 C0 σ j σ' h hc hz ad H locs la I k
  cases h
  exact lv_sipush C0.1 C0.2.1 hd hv (k ad H locs la (yk_push I trivial))
def yc_ald : zc_X := fun (th, ct, st, hp, c, z) => some (none, th, ct, zc_r th :: st, hp, c, z)
theorem ll_0 {ad : Nat → Nat} {th nL : Nat} {ct : Option Int32} {la : Array Slot} (h : lv_has la nL (zc_ll ad th ct)) : la[0]? = some (.val (.ref (ad th))) := by
  cases ct with
  | none => exact lv_at h 0 rfl
  | some x => exact lv_at h 1 rfl
theorem yk_ald (hd : decode q.2.1 pc = .ok (.aload_n 0, 1)) : zc_Sd l G cA D q pc (pc + 1) yc_ald := by
  refine ⟨fun σ j σ' h => by cases h; exact ⟨Nat.le_refl _, Nat.le_refl _⟩, ?_⟩
  intro p e s m args below meth c Rm Q A n0 ad0 C0 σ j σ' h hc hz ad H locs la I k
  cases h
  exact lv_aload_n (i := 0) C0.1 C0.2.1 hd rfl (ll_0 I.2.2.2.2.2) (k ad H locs la (yk_push I I.1.2.2))
def yc_ild : zc_X := fun (th, ct, st, hp, c, z) => match ct with
  | some x => some (none, th, some x, .inl x :: st, hp, c, z)
  | none => none
theorem yk_ild (hd : decode q.2.1 pc = .ok (.iload_n 1, 1)) : zc_Sd l G cA D q pc (pc + 1) yc_ild := by
  refine ⟨?_, ?_⟩
  · rintro ⟨th, _ | x, st, hp, c, z⟩ j σ' h <;> cases h
    exact ⟨Nat.le_refl _, Nat.le_refl _⟩
  · intro p e s m args below meth c Rm Q A n0 ad0 C0 σ j σ' h hc hz ad H locs la I k
    obtain ⟨th, _ | x, st, hp, cc, z⟩ := σ <;> cases h
    exact lv_iload_n (i := 1) C0.1 C0.2.1 hd rfl (lv_at I.2.2.2.2.2 0 rfl) (k ad H locs la (yk_push I trivial))
def yc_ist : zc_X := fun (th, ct, st, hp, c, z) => match st with
  | .inl x :: r => some (none, th, some x, r, hp, c, z)
  | _ => none
theorem yk_ist (hd : decode q.2.1 pc = .ok (.istore_n 1, 1)) (hn : Nat.ble 2 q.2.2.1 = true) : zc_Sd l G cA D q pc (pc + 1) yc_ist := by
  refine ⟨?_, ?_⟩
  · rintro ⟨th, ct, _ | ⟨x | x | x, r⟩, hp, c, z⟩ j σ' h <;> cases h
    exact ⟨Nat.le_refl _, Nat.le_refl _⟩
  · intro p e s m args below meth c Rm Q A n0 ad0 C0 σ j σ' h hc hz ad H locs la I k
    obtain ⟨th, ct, _ | ⟨x | x | x, r⟩, hp, cc, z⟩ := σ <;> cases h
    have hI := yk_pop I
    refine lv_istore_n (i := 1) C0.1 C0.2.1 hd rfl I.2.2.2.2.2 (Nat.le_of_ble_eq_true hn) (lv' := zc_ll ad th (some x)) ?_ (fun la' hl' => k ad H locs la' ⟨hI.1, hI.2.1, hI.2.2.1, hI.2.2.2.1, hI.2.2.2.2.1, hl'⟩)
    cases ct <;> rfl
def yc_inc (d : Int32) : zc_X := fun (th, ct, st, hp, c, z) => match ct with
  | some x => some (none, th, some (x + d), st, hp, c, z)
  | none => none
theorem yk_inc {n : Int} {d : Int32} (hd : decode q.2.1 pc = .ok (.iinc 1 n, 3)) (hv : Int32.ofInt n = d) (hn : Nat.ble 2 q.2.2.1 = true) : zc_Sd l G cA D q pc (pc + 3) (yc_inc d) := by
  refine ⟨?_, ?_⟩
  · rintro ⟨th, _ | x, st, hp, c, z⟩ j σ' h <;> cases h
    exact ⟨Nat.le_refl _, Nat.le_refl _⟩
  · intro p e s m args below meth c Rm Q A n0 ad0 C0 σ j σ' h hc hz ad H locs la I k
    obtain ⟨th, _ | x, st, hp, cc, z⟩ := σ <;> cases h
    exact lv_iinc (k := 0) C0.1 C0.2.1 hd I.2.2.2.2.2 rfl (by rw [hv]) (Nat.le_of_ble_eq_true hn) (lv' := zc_ll ad th (some (x + d))) rfl (fun la' hl' => k ad H locs la' ⟨I.1, I.2.1, I.2.2.1, I.2.2.2.1, I.2.2.2.2.1, hl'⟩)
def yc_dup : zc_X := fun (th, ct, st, hp, c, z) => match st with
  | .inr (.inr (some i)) :: r => some (none, th, ct, zc_r i :: zc_r i :: r, hp, c, z)
  | _ => none
theorem yk_dup (hd : decode q.2.1 pc = .ok (.dup, 1)) : zc_Sd l G cA D q pc (pc + 1) yc_dup := by
  refine ⟨?_, ?_⟩
  · rintro ⟨th, ct, _ | ⟨x | x | _ | i, r⟩, hp, c, z⟩ j σ' h <;> cases h
    exact ⟨Nat.le_refl _, Nat.le_refl _⟩
  · intro p e s m args below meth c Rm Q A n0 ad0 C0 σ j σ' h hc hz ad H locs la I k
    obtain ⟨th, ct, _ | ⟨x | x | _ | i, r⟩, hp, cc, z⟩ := σ <;> cases h
    exact lv_dup C0.1 C0.2.1 hd rfl (k ad H locs la (yk_push I (I.1.2.1 _ List.mem_cons_self)))
def yc_goto (t : Nat) : zc_X := fun σ => some (some t, σ)
theorem yk_goto {off : Int} {t : Nat} (hd : decode q.2.1 pc = .ok (.goto off, 3)) (ht : (pc : Int) + off = (t : Int)) : zc_Sd l G cA D q pc (pc + 3) (yc_goto t) := by
  refine ⟨fun σ j σ' h => by cases h; exact ⟨Nat.le_refl _, Nat.le_refl _⟩, ?_⟩
  intro p e s m args below meth c Rm Q A n0 ad0 C0 σ j σ' h hc hz ad H locs la I k
  cases h
  exact lv_goto C0.1 C0.2.1 hd ht (k ad H locs la I)
def yc_ge (t : Nat) : zc_X := fun (th, ct, st, hp, c, z) => match st with
  | .inl y :: .inl x :: r => some (bif decide (y ≤ x) then some t else none, th, ct, r, hp, c, z)
  | _ => none
theorem yk_ge {off : Int} {t : Nat} (hd : decode q.2.1 pc = .ok (.if_icmp .ge off, 3)) (ht : (pc : Int) + off = (t : Int)) : zc_Sd l G cA D q pc (pc + 3) (yc_ge t) := by
  refine ⟨?_, ?_⟩
  · rintro ⟨th, ct, _ | ⟨y | y | y, _ | ⟨x | x | x, r⟩⟩, hp, c, z⟩ j σ' h <;> cases h
    exact ⟨Nat.le_refl _, Nat.le_refl _⟩
  · intro p e s m args below meth c Rm Q A n0 ad0 C0 σ j σ' h hc hz ad H locs la I k
    obtain ⟨th, ct, _ | ⟨y | y | y, _ | ⟨x | x | x, r⟩⟩, hp, cc, z⟩ := σ <;> cases h
    have hk := k ad H locs la (yk_pop (yk_pop I))
    refine lv_icmp_ge C0.1 C0.2.1 hd ht (fun g => ?_) (fun g => ?_)
    · rw [decide_eq_true g] at hk
      exact hk
    · rw [decide_eq_false g] at hk
      exact hk
def yc_add : zc_X := fun (th, ct, st, hp, c, z) => match st with
  | .inl y :: .inl x :: r => some (none, th, ct, .inl (x + y) :: r, hp, c, z)
  | _ => none
theorem yk_add (hd : decode q.2.1 pc = .ok (.iadd, 1)) : zc_Sd l G cA D q pc (pc + 1) yc_add := by
  refine ⟨?_, ?_⟩
  · rintro ⟨th, ct, _ | ⟨y | y | y, _ | ⟨x | x | x, r⟩⟩, hp, c, z⟩ j σ' h <;> cases h
    exact ⟨Nat.le_refl _, Nat.le_refl _⟩
  · intro p e s m args below meth c Rm Q A n0 ad0 C0 σ j σ' h hc hz ad H locs la I k
    obtain ⟨th, ct, _ | ⟨y | y | y, _ | ⟨x | x | x, r⟩⟩, hp, cc, z⟩ := σ <;> cases h
    exact lv_iadd C0.1 C0.2.1 hd (k ad H locs la (yk_push (yk_pop (yk_pop I)) trivial))
end ZP
