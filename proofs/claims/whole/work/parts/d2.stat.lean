/-! ===== what the start of the machine gives: classes, links, statics, Strings ===== -/
theorem zs_N : ∀ x ∈ z_N, Cond.methodLinkNest x.1 x.2.1 x.2.2.1 x.2.2.2 ∈ lw_tbl := by decide +kernel
theorem zs_cN : ∀ x ∈ zc_N, Cond.methodLinkNest x.1 x.2.1 x.2.2.1 x.2.2.2 ∈ lw_tbl := by decide +kernel
theorem zs_O : ∀ C ∈ zc_O, Cond.arrayOver (.object C) ∈ lw_tbl := by decide +kernel
theorem zs_Ai : Cond.arrayOver (.array .int) ∈ lw_tbl := by decide +kernel
theorem zs_AC : ∀ t ∈ ([.int, .byte, .boolean] : List FieldType), Cond.arrayClass t ∈ lw_tbl := by decide +kernel
theorem zs_S : ∀ j, j < 4 → Cond.laysStatic (z_sd j).1 (z_sd j).2.1 "[I" ∈ lw_tbl ∧ Cond.initialized (z_sd j).1 ∈ lw_tbl := by decide +kernel
theorem zs_S1 : Cond.laysStatic "java/lang/String" "COMPACT_STRINGS" "Z" ∈ lw_tbl ∧ Cond.initialized "java/lang/String" ∈ lw_tbl := by decide +kernel
theorem zs_S2 : Cond.laysStatic "jdk/internal/util/Preconditions" "SIOOBE_FORMATTER" "Ljava/util/function/BiFunction;" ∈ lw_tbl ∧ Cond.initialized "jdk/internal/util/Preconditions" ∈ lw_tbl := by decide +kernel
theorem zs_R : ∀ j, j < 10 → Cond.stringRef "PaceStore$Reader" (z_sg j).1 (z_sg j).2 ∈ lw_tbl := by decide +kernel
def zs_F : List Cond := flatC (Jvm.Cond.and given_1 narrow_1)
abbrev zs_t (j : Nat) : Term := .static (z_sd j).1 (z_sd j).2.1 "[I"
abbrev zs_g (j : Nat) : Term := .string "PaceStore$Reader" (z_sg j).1
abbrev zs_bv (j : Nat) : Term := .field (zs_g j) "java/lang/String" "value" "[B"
theorem zs_f1 : ∀ j, j < 4 → Cond.arrayOf (zs_t j) .int ∈ zs_F ∧ Cond.eq (.length (zs_t j)) (.int (Int32.ofNat (z_sd j).2.2.1)) ∈ zs_F ∧ ∀ i, i < (z_sd j).2.2.1 → Cond.eq (.elem (zs_t j) (.int (Int32.ofNat i))) (.int ((z_sd j).2.2.2.getD i 0)) ∈ zs_F := by decide +kernel
theorem zs_f2 : Cond.eq (.static "java/lang/String" "COMPACT_STRINGS" "Z") (.int 1) ∈ zs_F ∧ Cond.isRef (.static "jdk/internal/util/Preconditions" "SIOOBE_FORMATTER" "Ljava/util/function/BiFunction;") ∈ zs_F := by decide +kernel
theorem zs_f3 : ∀ j, j < 10 → Cond.exactly (zs_g j) "java/lang/String" ∈ zs_F ∧ Cond.eq (.field (zs_g j) "java/lang/String" "coder" "B") (.int 0) ∈ zs_F ∧ Cond.arrayOf (zs_bv j) .byte ∈ zs_F ∧ Cond.eq (.length (zs_bv j)) (.int (Int32.ofNat (z_sln.getD j 0))) ∈ zs_F ∧ ∀ i, i < z_sln.getD j 0 → Cond.eq (.elem (zs_bv j) (.int (Int32.ofNat i))) (.int ((z_sby.getD j []).getD i 0)) ∈ zs_F := by decide +kernel
theorem zs_f4 : ∀ i, i < 10 → ∀ j, j < 10 → i = j ∨ Cond.not (Cond.eq (zs_g i) (zs_g j)) ∈ zs_F ∨ Cond.not (Cond.eq (zs_g j) (zs_g i)) ∈ zs_F := by decide +kernel
theorem zs_f5 : ∀ j, j < 10 → z_sln.getD j 0 < 2 ^ 31 := by decide +kernel
def zs_ty : List FieldType := [.int, .byte, .boolean, .object "PaceStore$Sheet", .object "PaceStore$Course", .object "PaceStore$Results", .object "PaceStore$Body", .array .int]
section ZS
variable {s : State} {b : Nat}
theorem zs_arr {c : ClassId} {kA : Class} {comp : ClassId} {ty : FieldType} (h2 : s.vm.classes[c]? = some kA) (h3 : kA.kind = .array comp ty) : ArrOfT s c ty := fun n z => ⟨fun k h => (by cases h), kA, h2, comp, h3⟩
theorem zs_p {ty : FieldType} {args : Array Value} (hr : ∀ c, s.vm.findClass ("[" ++ ty.toString) = some c → va_RA s c ty) (h : (Cond.arrayClass ty).before args s = true) : ∃ c : ClassId, ArrOfT s c ty ∧ va_RA s c ty := by
  obtain ⟨c, k, comp, h1, h2, h3⟩ := Cond.arrayClass_spec h
  exact ⟨c, zs_arr h2 h3, hr c h1⟩
theorem zs_o {C : String} {args : Array Value} (h : (Cond.arrayOver (.object C)).before args s = true) : ∃ c : ClassId, ArrOfT s c (.object C) ∧ va_RA s c (.object C) := by
  obtain ⟨comp, c, k, h1, h2, h3, h4, h5⟩ := Cond.arrayOver_spec h
  exact ⟨c, zs_arr h3 h4, k, comp, h3, h4, h1, h5⟩
theorem zs_a {args : Array Value} (h : (Cond.arrayOver (.array .int)).before args s = true) : ∃ c : ClassId, ArrOfT s c (.array .int) ∧ va_RA s c (.array .int) := by
  obtain ⟨comp, c, k, h1, h2, h3, h4, h5⟩ := arrayOverA_spec h
  exact ⟨c, zs_arr h3 h4, h5⟩
theorem zs_cA (hts : ∀ w ∈ lw_tbl, w.before #[Value.ref b] s = true) : ∃ cA : Nat → ClassId, ∀ (k : Nat) (q : ClassId × FieldType), (z_ty cA)[k]? = some q → ArrOfT s q.1 q.2 ∧ va_RA s q.1 q.2 := by
  have h0 : ∀ t : Nat, ∃ c : ClassId, ∀ ty, zs_ty[t]? = some ty → ArrOfT s c ty ∧ va_RA s c ty := by
    intro t
    have key : t < 8 → ∃ c : ClassId, ∃ ty, zs_ty[t]? = some ty ∧ ArrOfT s c ty ∧ va_RA s c ty := by
      intro ht
      match t, ht with
      | 0, _ => obtain ⟨c, h⟩ := zs_p (ty := .int) (fun c h => h) (hts _ (zs_AC _ (by decide))); exact ⟨c, _, rfl, h⟩
      | 1, _ => obtain ⟨c, h⟩ := zs_p (ty := .byte) (fun c h => h) (hts _ (zs_AC _ (by decide))); exact ⟨c, _, rfl, h⟩
      | 2, _ => obtain ⟨c, h⟩ := zs_p (ty := .boolean) (fun c h => h) (hts _ (zs_AC _ (by decide))); exact ⟨c, _, rfl, h⟩
      | 3, _ => obtain ⟨c, h⟩ := zs_o (hts _ (zs_O "PaceStore$Sheet" (by decide))); exact ⟨c, _, rfl, h⟩
      | 4, _ => obtain ⟨c, h⟩ := zs_o (hts _ (zs_O "PaceStore$Course" (by decide))); exact ⟨c, _, rfl, h⟩
      | 5, _ => obtain ⟨c, h⟩ := zs_o (hts _ (zs_O "PaceStore$Results" (by decide))); exact ⟨c, _, rfl, h⟩
      | 6, _ => obtain ⟨c, h⟩ := zs_o (hts _ (zs_O "PaceStore$Body" (by decide))); exact ⟨c, _, rfl, h⟩
      | 7, _ => obtain ⟨c, h⟩ := zs_a (hts _ zs_Ai); exact ⟨c, _, rfl, h⟩
      | n + 8, h => omega
    by_cases ht : t < 8
    · obtain ⟨c, ty, h1, h2⟩ := key ht
      exact ⟨c, fun ty' h' => by cases h1.symm.trans h'; exact h2⟩
    · exact ⟨0, fun ty h => absurd (List.getElem?_eq_some_iff.mp h).1 ht⟩
  obtain ⟨cA, hA⟩ := Classical.axiomOfChoice h0
  refine ⟨cA, fun k q hq => ?_⟩
  have hk : k < 8 := (List.getElem?_eq_some_iff.mp hq).1
  match k, hk, hq with
  | 0, _, hq => cases hq; exact hA 0 _ rfl
  | 1, _, hq => cases hq; exact hA 1 _ rfl
  | 2, _, hq => cases hq; exact hA 2 _ rfl
  | 3, _, hq => cases hq; exact hA 3 _ rfl
  | 4, _, hq => cases hq; exact hA 4 _ rfl
  | 5, _, hq => cases hq; exact hA 5 _ rfl
  | 6, _, hq => cases hq; exact hA 6 _ rfl
  | 7, _, hq => cases hq; exact hA 7 _ rfl
  | n + 8, h, _ => omega
theorem zs_ins : ∀ q ∈ vwCl, Cond.instantiable q.1 q.2.2 ∈ lw_tbl := by
  intro q hq
  have h : ∀ x ∈ vwCl.map (fun q => (q.1, q.2.2)), Cond.instantiable x.1 x.2 ∈ lw_tbl := by decide +kernel
  exact h (q.1, q.2.2) (List.mem_map.mpr ⟨q, hq, rfl⟩)
theorem zs_uw : ∀ q ∈ vwCl, ∀ w ∈ u_ws q.1 q.2.1 q.2.2, w ∈ lw_tbl := by
  intro q hq w hw
  have hz : ∀ w, w ∈ z_U → w ∈ lw_tbl := fun w h => (List.mem_filter.mp h).1
  apply hz
  obtain ⟨i, hi⟩ := List.getElem?_of_mem hq
  have hk : i < 11 := (List.getElem?_eq_some_iff.mp hi).1
  match i, hk, hi with
  | 0, _, hi => cases hi; exact z_c0.2.2.2 w hw
  | 1, _, hi => cases hi; exact z_c1.2.2.2 w hw
  | 2, _, hi => cases hi; exact z_c2.2.2.2 w hw
  | 3, _, hi => cases hi; exact z_c3.2.2.2 w hw
  | 4, _, hi => cases hi; exact z_c4.2.2.2 w hw
  | 5, _, hi => cases hi; exact z_c5.2.2.2 w hw
  | 6, _, hi => cases hi; exact z_c6.2.2.2 w hw
  | 7, _, hi => cases hi; exact z_c7.2.2.2 w hw
  | 8, _, hi => cases hi; exact z_c8.2.2.2 w hw
  | 9, _, hi => cases hi; exact z_c9.2.2.2 w hw
  | 10, _, hi => cases hi; exact z_c10.2.2.2 w hw
  | n + 11, h, _ => omega
theorem zs_K (hts : ∀ w ∈ lw_tbl, w.before #[Value.ref b] s = true) : ∃ (G : va_G) (cA : Nat → ClassId), va_K G vwCl (z_ty cA) s := by
  obtain ⟨cA, hA⟩ := zs_cA hts
  have h0 : ∀ c : Nat, ∃ p : ClassId × (Nat → Nat), ∀ q : vw_C, vwCl[c]? = some q → u_Kn s q.1 q.2.1 q.2.2 p.1 p.2 := by
    intro c
    cases hc : vwCl[c]? with
    | none => exact ⟨(0, fun _ => 0), fun q h => by cases h⟩
    | some q =>
      have hm := List.mem_of_getElem? hc
      obtain ⟨cC, iS, h⟩ := u_known (C := q.1) (T := q.2.1) (N := q.2.2) (n := q.2.2) hts (zs_uw q hm) (hts _ (zs_ins q hm))
      exact ⟨(cC, iS), fun q' h' => by cases h'; exact h⟩
  obtain ⟨f, hf⟩ := Classical.axiomOfChoice h0
  exact ⟨(fun c => (f c).1, fun c => (f c).2), cA, fun c q hq => hf c q hq, hA⟩
theorem zs_cF (hts : ∀ w ∈ lw_tbl, w.before #[Value.ref b] s = true) : zc_F s :=
  ⟨fun x hx => va_Nw.of rfl (hts _ (zs_cN x hx)), fun C hC => va_AO.of (hts _ (zs_O C hC)), fun a => hts _ zs_Ai⟩
/-- the statics, with their addresses -/
theorem zs_st {L : Nat} {xs : Nat → Int32} {A : Nat → Prop} (hts : ∀ w ∈ lw_tbl, w.before #[Value.ref b] s = true) (hgv : (Jvm.Cond.and given_1 narrow_1).before #[Value.ref b] s = true) (hX : va_X b L xs s s.heap) (hA : ∀ a : Nat, a < s.heap.size → ¬ A a) : ∃ a65 a66 a67 : Nat → Nat, a65 4 = b ∧ (∀ j : Nat, j < 4 → va_Z (z_sd j).1 (z_sd j).2.1 "[I" (.ref (a65 j)) A s s.heap ∧ va_T .int (a65 j) (z_sd j).2.2.1 (fun i => .int ((z_sd j).2.2.2.getD i 0)) A s s.heap) ∧ va_T .int b L (fun i => .int (xs i)) A s s.heap ∧ va_Z "java/lang/String" "COMPACT_STRINGS" "Z" (.int 1) A s s.heap ∧ va_Zq "jdk/internal/util/Preconditions" "SIOOBE_FORMATTER" "Ljava/util/function/BiFunction;" A s s.heap ∧ vk_S 10 z_sln z_sby a66 a67 A s s.heap ∧ ∀ j : Nat, j < 10 → vk_R "PaceStore$Reader" (z_sg j).1 (z_sg j).2 (a66 j) s := by
  have hs : ∀ w ∈ zs_F, w.before #[Value.ref b] s = true := flat_of_before _ hgv
  have h0 : ∀ j : Nat, ∃ t : Nat, j < 4 → va_Z (z_sd j).1 (z_sd j).2.1 "[I" (.ref t) A s s.heap ∧ va_T .int t (z_sd j).2.2.1 (fun i => .int ((z_sd j).2.2.2.getD i 0)) A s s.heap := by
    intro j
    by_cases hj : j < 4
    · obtain ⟨h1, h2, h3⟩ := zs_f1 j hj
      have hN : (z_sd j).2.2.1 < 2 ^ 31 := by
        have : ∀ j, j < 4 → (z_sd j).2.2.1 < 2 ^ 31 := by decide +kernel
        exact this j hj
      obtain ⟨t, ht, hT⟩ := va_Tof (tm := zs_t j) (ty := .int) (f := fun i => .int ((z_sd j).2.2.2.getD i 0)) (A := A) hN (hs _ h1) (va_eqt (hs _ h2)) (fun i hi => va_eqt (hs _ (h3 i hi))) hA
      exact ⟨t, fun _ => ⟨va_Zof (hts _ (zs_S j hj).1) (hts _ (zs_S j hj).2) ht hA, hT⟩⟩
    · exact ⟨0, fun h => absurd h hj⟩
  obtain ⟨f, hf⟩ := Classical.axiomOfChoice h0
  obtain ⟨a66, a67, hS, hE⟩ := vk_Sof (args := #[Value.ref b]) (N := 10) (tm := zs_g) (len := z_sln) (byt := z_sby) (A := A) zs_f5 (fun i hi => hs _ (zs_f3 i hi).1) (fun i hi => hs _ (zs_f3 i hi).2.1) (fun i hi => hs _ (zs_f3 i hi).2.2.1) (fun i hi => hs _ (zs_f3 i hi).2.2.2.1) (fun i hi j hj => hs _ ((zs_f3 i hi).2.2.2.2 j hj)) (fun i j hi hj hij => (zs_f4 i hi j hj).elim (fun h => absurd h hij) (fun h => h.elim (fun h => Or.inl (hs _ h)) (fun h => Or.inr (hs _ h)))) hA
  refine ⟨fun j => if j = 4 then b else f j, a66, a67, rfl, fun j hj => ?_, ?_, va_Zof (hts _ zs_S1.1) (hts _ zs_S1.2) (va_eqi (hs _ zs_f2.1)) hA, va_Zqof (hts _ zs_S2.1) (hts _ zs_S2.2) (hs _ zs_f2.2) hA, hS, fun j hj => vk_R.of (hts _ (zs_R j hj)) (hE j hj)⟩
  · have e : (if j = 4 then b else f j) = f j := if_neg (by omega)
    simp only [e]
    exact hf j hj
  · obtain ⟨scr, h1, h2, h3, h4, h5⟩ := hX
    exact ⟨scr, h1, h2, h3, Nat.le_of_eq h4.symm, by rw [h4], h5, hA b (Array.getElem?_eq_some_iff.mp h1).1⟩
end ZS
