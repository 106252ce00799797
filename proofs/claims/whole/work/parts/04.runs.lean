/-! ===== the words that hold everywhere; rooms by depth; contracts; runs ===== -/
def z_U : List Cond := lw_tbl.filter goodWord
theorem z_U_good {w : Cond} (h : w ∈ z_U) : (w.onTables && w.keeps) = true ∨ ∃ ty, w = .arrayClass ty := good_of_word (List.mem_filter.mp h).2
theorem z_U_mem {w : Cond} {i : Nat} (h : lw_tbl[i]? = some w) (hg : goodWord w = true) : w ∈ z_U := List.mem_filter.mpr ⟨List.mem_of_getElem? h, hg⟩
theorem z_U_in {L : List Cond} (h : ∀ w ∈ L, w ∈ z_U) : GoodIn z_U L := fun w hw => ⟨h w hw, z_U_good (h w hw)⟩
def z_rm (d : Nat) : Room := { frames := d + 1, cells := 0, slots := 0, locals := 64 * (d + 1) }
/-- the static arrays (0 to 3), and the script (4), as the start has them -/
def z_sd (j : Nat) : String × String × Nat × List Int32 := bif Nat.beq j 0 then ("PaceStore", "ORDERS_BEHIND", 4, [6, 2, 2, 6]) else bif Nat.beq j 1 then ("PaceStore$Step", "NEAREST", 6, [0, 0, 0, 1, 2, 2]) else bif Nat.beq j 2 then ("PaceStore$Step", "SIZE_BODIES", 6, [10, 13, 11, 14, 12, 11]) else ("PaceStore$Step", "MARK_BODIES", 6, [20, 23, 21, 24, 21, 22])
def z_sN (X : z_Cx) (j : Nat) : Nat := bif Nat.beq j 4 then X.2.2.2.2.1 else (z_sd j).2.2.1
def z_sv (X : z_Cx) (j i : Nat) : Int32 := bif Nat.beq j 4 then X.2.2.2.2.2 i else (z_sd j).2.2.2.getD i 0
/-- the String constants of the reader: their pool numbers and texts; lengths; bytes -/
def z_sg (j : Nat) : Nat × String := (bif Nat.ble j 4 then (bif Nat.ble j 1 then (bif Nat.ble j 0 then (39, "mile") else (48, "runner")) else (bif Nat.ble j 2 then (50, "when") else (bif Nat.ble j 3 then (59, "rabbit") else (112, "store")))) else (bif Nat.ble j 6 then (bif Nat.ble j 5 then (114, "behind") else (121, "above")) else (bif Nat.ble j 7 then (123, "below") else (bif Nat.ble j 8 then (128, "push") else (130, "ease")))))
def z_sln : List Nat := [4, 6, 4, 6, 5, 6, 5, 5, 4, 4]
def z_sby : List (List Int32) := [[109, 105, 108, 101], [114, 117, 110, 110, 101, 114], [119, 104, 101, 110], [114, 97, 98, 98, 105, 116], [115, 116, 111, 114, 101], [98, 101, 104, 105, 110, 100], [97, 98, 111, 118, 101], [98, 101, 108, 111, 119], [112, 117, 115, 104], [101, 97, 115, 101]]
/-- links to private methods of nest mates -/
def z_N : List (String × Nat × MethodName × String) := [("PaceStore$Alone", 35, ⟨"PaceStore", "secondsBy", "(I)I"⟩, "PaceStore"), ("PaceStore$Sheet", 28, ⟨"PaceStore", "within", "(III)Z"⟩, "PaceStore"), ("PaceStore$Reader", 150, ⟨"PaceStore", "within", "(III)Z"⟩, "PaceStore"), ("PaceStore$Course", 80, ⟨"PaceStore", "within", "(III)Z"⟩, "PaceStore"), ("PaceStore$Body", 44, ⟨"PaceStore", "asPace", "(I)I"⟩, "PaceStore"), ("PaceStore$Body", 54, ⟨"PaceStore", "changeBy", "(III)I"⟩, "PaceStore"), ("PaceStore$Body", 76, ⟨"PaceStore", "secondsBy", "(I)I"⟩, "PaceStore"), ("PaceStore$Alone", 90, ⟨"PaceStore", "changeBy", "(III)I"⟩, "PaceStore"), ("PaceStore$Alone", 94, ⟨"PaceStore", "asPace", "(I)I"⟩, "PaceStore"), ("PaceStore$Game", 52, ⟨"PaceStore", "asPace", "(I)I"⟩, "PaceStore"), ("PaceStore$Step", 13, ⟨"PaceStore", "within", "(III)Z"⟩, "PaceStore")]
def z_SF (X : z_Cx) (U : State) (H : Heap) : Prop :=
  (∀ j : Nat, j < 4 → va_Z (z_sd j).1 (z_sd j).2.1 "[I" (.ref (X.2.2.1 65 j)) (z_A X) U H) ∧ (∀ j : Nat, j < 5 → va_T .int (X.2.2.1 65 j) (z_sN X j) (fun i => .int (z_sv X j i)) (z_A X) U H) ∧
  va_Z "java/lang/String" "COMPACT_STRINGS" "Z" (.int 1) (z_A X) U H ∧ va_Zq "jdk/internal/util/Preconditions" "SIOOBE_FORMATTER" "Ljava/util/function/BiFunction;" (z_A X) U H ∧ vk_S 10 z_sln z_sby (X.2.2.1 66) (X.2.2.1 67) (z_A X) U H ∧
  (∀ j : Nat, j < 10 → vk_R "PaceStore$Reader" (z_sg j).1 (z_sg j).2 (X.2.2.1 66 j) U) ∧ (∀ x ∈ z_N, va_Nw (.methodLinkNest x.1 x.2.1 x.2.2.1 x.2.2.2) U)
theorem z_SF.warm {X : z_Cx} {u U : State} {H : Heap} (hW : u.WarmedH U.vm) (h : z_SF X u H) : z_SF X U H := ⟨fun j hj => (h.1 j hj).moved hW.alike, fun j hj => (h.2.1 j hj).moved hW.alike, h.2.2.1.moved hW.alike, h.2.2.2.1.moved hW.alike, h.2.2.2.2.1.moved hW.alike, fun j hj => (h.2.2.2.2.2.1 j hj).warm hW, fun x hx => (h.2.2.2.2.2.2 x hx).warmM hW⟩
theorem z_SF.same {X : z_Cx} {u U : State} {H : Heap} (hv : U.vm = u.vm) (h : z_SF X u H) : z_SF X U H := by
  have hA : u.vm.Alike U.vm := by rw [hv]; exact Vm.Alike.refl u.vm
  exact ⟨fun j hj => (h.1 j hj).moved hA, fun j hj => (h.2.1 j hj).moved hA, h.2.2.1.moved hA, h.2.2.2.1.moved hA, h.2.2.2.2.1.moved hA, fun j hj => (h.2.2.2.2.2.1 j hj).same hv, fun x hx => (h.2.2.2.2.2.2 x hx).same rfl hv.symm⟩
theorem z_SF.kept {X : z_Cx} {U : State} {H H1 : Heap} (h : z_SF X U H) (hq : ∀ a : Nat, a < H.size → ¬ z_A X a → H1[a]? = H[a]?) : z_SF X U H1 := ⟨fun j hj => (h.1 j hj).kept hq, fun j hj => (h.2.1 j hj).kept hq, h.2.2.1.kept hq, h.2.2.2.1.kept hq, h.2.2.2.2.1.kept hq, h.2.2.2.2.2.1, h.2.2.2.2.2.2⟩
def z_Pc (X : z_Cx) (as : List z_V) (M : z_M) : Array Value → State → Prop := va_Pc (z_cs X as) (fun U => va_P X.2.1 vwCl (z_w X M) U.heap ∧ va_K X.2.1 vwCl (z_ty X.2.2.2.1) U ∧ z_SF X U U.heap ∧ z_inj X)
def z_Q (X : z_Cx) (rt : Option FieldType) (S : Int32 → z_M → Prop) : Array Value → State → Outcome → State → Prop := match rt with
  | none => va_Qv (fun M' : z_M => S 0 M') (fun M' t => va_P X.2.1 vwCl (z_w X M') t.heap) (z_A X)
  | some _ => va_Qi (fun (r : Int32) (M' : z_M) => S r M') (fun M' t => va_P X.2.1 vwCl (z_w X M') t.heap) (z_A X)
abbrev z_ws (q : z_MI) : List Cond := Cond.code q.1 q.2.1 q.2.2.1 q.2.2.2 :: z_U
/-- a contract, at depth d: from the memory M with these arguments, q returns, and S of its answer (0 where it has none) and of the memory then -/
def z_Con (X : z_Cx) (d : Nat) (q : z_MI) (as : List z_V) (M : z_M) (S : Int32 → z_M → Prop) : Prop :=
  z_oks as → Met X.1 q.1 (z_ws q) (z_rm d) (z_Pc X as M) (z_Q X q.2.2.2 S) 0 0 (z_A X)
def z_Ca (X : z_Cx) (D : Nat) : z_C := fun q as M S => ∃ d : Nat, d < D ∧ z_Con X d q as M S
theorem z_Con.mono {X : z_Cx} {d : Nat} {q : z_MI} {as : List z_V} {M : z_M} {S S' : Int32 → z_M → Prop} (h : z_Con X d q as M S) (hS : ∀ v M', S v M' → S' v M') : z_Con X d q as M S' := by
  intro ho
  refine MetFree.mono (h ho) (fun _ _ h => h) (fun _ _ _ _ _ h => h) (fun a s o t _ hq => ⟨?_, hq.2⟩)
  have h1 := hq.1
  revert h1
  unfold z_Q
  cases q.2.2.2 with
  | none =>
    rintro ⟨⟨u, e, p1, p2⟩, hF⟩
    exact ⟨⟨u, e, hS _ _ p1, p2⟩, hF⟩
  | some ty =>
    rintro ⟨⟨r, u, e, p1, p2⟩, hF⟩
    exact ⟨⟨r, u, e, hS _ _ p1, p2⟩, hF⟩
/-- a callee's contract at its call -/
theorem z_use {X : z_Cx} {D d : Nat} {q : z_MI} {as : List z_V} {M : z_M} {S S' : Int32 → z_M → Prop} (h : z_Con X d q as M S) (hd : d < D) (hS : ∀ v M', S v M' → S' v M') : z_Ca X D q as M S' := ⟨d, hd, h.mono hS⟩
/-- what holds all the way through a method's body -/
def z_MC (X : z_Cx) (D : Nat) (q : z_MI) (R : Int32 → z_M → Prop) (p : Program) (e : Env) (s : State) (m : MethodId) (args : Array Value) (below : List Frame) (meth : Method) (c : Code) (Rm : Room) (cells slots : Nat) (Q : State → Prop) : Prop :=
  p.tables.exec = Jvm.exec ∧ c.code = q.2.1 ∧ c.maxLocals = q.2.2.1 ∧ s.vm.findClass q.1.cls = some m.cls ∧ (∀ w ∈ z_U, w.before args s = true) ∧ va_K X.2.1 vwCl (z_ty X.2.2.2.1) s ∧ z_SF X s s.heap ∧ z_inj X ∧
  (D + 1 ≤ Rm.frames ∧ 64 * (D + 1) ≤ Rm.locals ∧ cells ≤ Rm.cells ∧ slots ≤ Rm.slots) ∧
  (∀ (v : Int32) (M : z_M) (H : Heap) (locs : List Loc) (ls : Array Slot) (pc : Nat) (ty : FieldType), q.2.2.2 = some ty → narrow ty (.int v) = .int v → R v M → va_P X.2.1 vwCl (z_w X M) H → va_S (z_A X) s.heap H locs → decode q.2.1 pc = .ok (.ireturn, 1) → W p X.1 e Rm s m args below meth c H locs cells slots Q (F0 m pc ls [.int v])) ∧
  (∀ (M : z_M) (H : Heap) (locs : List Loc) (ls : Array Slot) (pc : Nat), q.2.2.2 = none → R 0 M → va_P X.2.1 vwCl (z_w X M) H → va_S (z_A X) s.heap H locs → decode q.2.1 pc = .ok (.return_, 1) → W p X.1 e Rm s m args below meth c H locs cells slots Q (F0 m pc ls []))
def z_Is (X : z_Cx) (nL : Nat) (s : State) (ls : z_L) (st : List z_V) (M : z_M) (H : Heap) (locs : List Loc) (la : Array Slot) : Prop :=
  z_okl ls ∧ z_oks st ∧ va_P X.2.1 vwCl (z_w X M) H ∧ va_S (z_A X) s.heap H locs ∧ lv_has la nL (z_cl X ls)
/-- from pc and this state the method returns with R -/
def z_Run (X : z_Cx) (D : Nat) (q : z_MI) (R : Int32 → z_M → Prop) (pc : Nat) (ls : z_L) (st : List z_V) (M : z_M) : Prop :=
  ∀ (p : Program) (e : Env) (s : State) (m : MethodId) (args : Array Value) (below : List Frame) (meth : Method) (c : Code) (Rm : Room) (cells slots : Nat) (Q : State → Prop), z_MC X D q R p e s m args below meth c Rm cells slots Q →
  ∀ (H : Heap) (locs : List Loc) (la : Array Slot), z_Is X q.2.2.1 s ls st M H locs la → W p X.1 e Rm s m args below meth c H locs cells slots Q (F0 m pc la (z_cs X st))
/-- a row of a method's table is sound -/
def z_Sd (X : z_Cx) (D : Nat) (q : z_MI) (pc npc : Nat) (f : z_X) : Prop :=
  ∀ (ks : z_K) (kj : Nat → z_K) (R : Int32 → z_M → Prop) (ls : z_L) (st : List z_V) (M : z_M), f ks kj R (z_Ca X D) ls st M → (∀ ls st M, ks ls st M → z_Run X D q R npc ls st M) → (∀ t ls st M, kj t ls st M → z_Run X D q R t ls st M) → z_Run X D q R pc ls st M
def z_no : z_X := fun _ _ _ _ _ _ _ => False
abbrev z_T : Type := Nat → Nat × z_X
def z_Tok (X : z_Cx) (D : Nat) (q : z_MI) (T : z_T) : Prop := ∀ pc : Nat, z_Sd X D q pc (T pc).1 (T pc).2
/-- the stops: a pc, and which locals are kept there -/
def z_sk (t : Nat) : List (Nat × List Nat) → Option (List Nat)
  | [] => none
  | (n, l) :: r => bif Nat.beq n t then some l else z_sk t r
/-- the run of a table, from pc, up to the stops -/
def z_go (T : z_T) (C : z_C) (R : Int32 → z_M → Prop) (stops : List (Nat × List Nat)) (K : Nat → z_K) : Nat → Nat → z_K
  | 0, _, _, _, _ => False
  | n + 1, pc, ls, st, M => match T pc with
    | (npc, f) => f (fun ls st M => match z_sk npc stops with
        | some ks => z_pkk ks ls (fun l => K npc l st M)
        | none => z_go T C R stops K n npc ls st M) (fun t ls st M => match z_sk t stops with
        | some ks => z_pkk ks ls (fun l => K t l st M)
        | none => z_go T C R stops K n t ls st M) R C ls st M
theorem z_Run.sub {X : z_Cx} {D : Nat} {q : z_MI} {R : Int32 → z_M → Prop} {pc : Nat} {ls ls' : z_L} {st : List z_V} {M : z_M} (h : ∀ x ∈ ls', x ∈ ls) (k : z_Run X D q R pc ls' st M) : z_Run X D q R pc ls st M :=
  fun p e s m args below meth c Rm cells slots Q C0 H locs la I => k p e s m args below meth c Rm cells slots Q C0 H locs la ⟨z_okl_sub h I.1, I.2.1, I.2.2.1, I.2.2.2.1, z_cl_sub h I.2.2.2.2⟩
theorem z_go_run {X : z_Cx} {D : Nat} {q : z_MI} {R : Int32 → z_M → Prop} {T : z_T} (hT : z_Tok X D q T) (stops : List (Nat × List Nat)) : ∀ (n : Nat) {pc : Nat} {ls : z_L} {st : List z_V} {M : z_M}, z_go T (z_Ca X D) R stops (z_Run X D q R) n pc ls st M → z_Run X D q R pc ls st M := by
  intro n
  induction n with
  | zero => intro pc ls st M h; exact False.elim h
  | succ n ih =>
    intro pc ls st M h
    have hs := hT pc
    unfold z_go at h
    revert h hs
    cases T pc with
    | mk npc f =>
      intro hs h
      refine hs _ _ R ls st M h (fun ls st M h' => ?_) (fun t ls st M h' => ?_)
      · revert h'
        cases z_sk npc stops with
        | some ks => intro h'; simp only [z_pkk_eq] at h'; exact z_Run.sub (fun _ => z_pk_sub) h'
        | none => exact fun h' => ih h'
      · revert h'
        cases z_sk t stops with
        | some ks => intro h'; simp only [z_pkk_eq] at h'; exact z_Run.sub (fun _ => z_pk_sub) h'
        | none => exact fun h' => ih h'
def z_en0 (n : Nat) : List z_V → z_L
  | [] => []
  | .inr (.inl x) :: r => (n, .inr (.inl x)) :: z_en0 (n + 2) r
  | v :: r => (n, v) :: z_en0 (n + 1) r
def z_enk : Nat → List z_V → (z_L → Prop) → Prop
  | _, [], k => k []
  | n, .inr (.inl x) :: r, k => z_enk (Nat.succ (Nat.succ n)) r (fun l => k ((n, .inr (.inl x)) :: l))
  | n, .inl x :: r, k => z_enk (Nat.succ n) r (fun l => k ((n, .inl x) :: l))
  | n, .inr (.inr x) :: r, k => z_enk (Nat.succ n) r (fun l => k ((n, .inr (.inr x)) :: l))
theorem z_enk_eq : ∀ {as : List z_V} {n : Nat} {k : z_L → Prop}, z_enk n as k = k (z_en0 n as) := by
  intro as
  induction as with
  | nil => intro n k; rfl
  | cons v r ih =>
    intro n k
    rcases v with x | x | x
    · exact ih
    · exact ih
    · exact ih
theorem z_en0_args {X : z_Cx} : ∀ (as : List z_V) (n : Nat), z_cl X (z_en0 n as) = lv_args n (z_cs X as) := by
  intro as
  induction as with
  | nil => intro n; rfl
  | cons v r ih =>
    intro n
    rcases v with x | x | x
    · show (n, _) :: z_cl X (z_en0 (n + 1) r) = _
      rw [ih]; rfl
    · show (n, _) :: z_cl X (z_en0 (n + 2) r) = _
      rw [ih]; rfl
    · show (n, _) :: z_cl X (z_en0 (n + 1) r) = _
      rw [ih]; rfl
theorem z_en0_ok : ∀ (as : List z_V) (n : Nat), z_oks as → z_okl (z_en0 n as) := by
  intro as
  induction as with
  | nil => intro n h; trivial
  | cons v r ih =>
    intro n h
    rcases v with x | x | x
    · exact ⟨trivial, ih _ h.2⟩
    · exact ⟨trivial, ih _ h.2⟩
    · exact ⟨h.1, ih _ h.2⟩
/-- a contract out of the run of a table from its entry -/
theorem z_mk {X : z_Cx} {D : Nat} {q : z_MI} {as : List z_V} {M : z_M} {S : Int32 → z_M → Prop} (hy : plainName q.1.cls = true) (hn : Nat.ble (lg_sl (z_cs X as)).length q.2.2.1 = true)
    (h : z_enk 0 as (fun l => z_Run X D q S 0 l [] M)) : z_Con X D q as M S := by
  rw [z_enk_eq] at h
  intro ho
  refine Met.ofW (cc := q.2.1) (maxL := q.2.2.1) (ret := q.2.2.2) hy rfl ?_
  intro p e s m args below meth c s₁ B hml hv
  obtain ⟨rfl, hP, hK, hF, hJ⟩ := hv
  have hts := atoms_spec (ws := z_ws q) B.pre
  have hl := lv_entry (z_cs X as) (n := q.2.2.1) (Nat.le_of_ble_eq_true hn)
  rw [lg_entry_eq]
  rw [← z_en0_args] at hl
  have hlocks := B.notSynchronized
  have hr := B.returns
  refine h p e s m _ below meth c _ 0 0 _ ⟨B.exec, B.bytes, hml, findClass_of_methodNamed B.named, fun w hw => hts w (List.mem_cons_of_mem _ hw), hK, hF, hJ, ⟨Nat.le_refl _, Nat.le_refl _, Nat.zero_le _, Nat.zero_le _⟩, ?_, ?_⟩ s.heap [] _ ⟨z_en0_ok _ _ ho, trivial, hP, va_S.rf, hl⟩
  · intro v M' H locs ls pc ty hty hnr hR hP' hS' hd
    refine W.zret (ty := ty) B.exec B.bytes (by rw [hr, hty]) hnr (fun t ht hW => ?_) hS'.2.2 hd
    unfold z_Q
    rw [hty]
    exact ⟨⟨v, M', rfl, hR, by show va_P _ _ _ t.heap; rw [ht]; exact hP'⟩, hS'.F ht⟩
  · intro M' H locs ls pc hty hR hP' hS' hd
    refine W.vret B.exec B.bytes (by rw [hr, hty]) (fun t ht hW => ?_) hS'.2.2 hd
    unfold z_Q
    rw [hty]
    exact ⟨⟨M', rfl, hR, by show va_P _ _ _ t.heap; rw [ht]; exact hP'⟩, hS'.F ht⟩
/-- the same, with the table's run -/
theorem z_mg {X : z_Cx} {D : Nat} {q : z_MI} {as : List z_V} {M : z_M} {S : Int32 → z_M → Prop} {T : z_T} (hT : z_Tok X D q T) (stops : List (Nat × List Nat)) (n : Nat) (hy : plainName q.1.cls = true) (hn : Nat.ble (lg_sl (z_cs X as)).length q.2.2.1 = true)
    (h : z_enk 0 as (fun l => z_go T (z_Ca X D) S stops (z_Run X D q S) n 0 l [] M)) : z_Con X D q as M S := by
  refine z_mk hy hn ?_
  rw [z_enk_eq] at h ⊢
  exact z_go_run hT stops n h
