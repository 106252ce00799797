/-! ===== calls ===== -/
def x_vi (q' : z_MI) (n kc : Nat) : z_X := fun ks _ _ C ls stk M => match z_pop (n + 1) stk [] with
  | some (.inr (.inr (k, i)) :: as, r) => bif (Nat.beq k kc && Nat.ble (z_wd r) 8) then C q' (zr k i :: as) M (fun v M' => ks ls (zi v :: r) M') else False
    | _ => False
def x_vv (q' : z_MI) (n kc : Nat) : z_X := fun ks _ _ C ls stk M => match z_pop (n + 1) stk [] with
  | some (.inr (.inr (k, i)) :: as, r) => bif (Nat.beq k kc && Nat.ble (z_wd r) 8) then C q' (zr k i :: as) M (fun _ M' => ks ls r M') else False
    | _ => False
def x_si (q' : z_MI) (n : Nat) : z_X := fun ks _ _ C ls stk M => match z_pop n stk [] with
  | some (as, r) => bif (Nat.ble (z_wd r) 8) then C q' as M (fun v M' => ks ls (zi v :: r) M') else False
    | none => False
def x_sv (q' : z_MI) (n : Nat) : z_X := fun ks _ _ C ls stk M => match z_pop n stk [] with
  | some (as, r) => bif (Nat.ble (z_wd r) 8) then C q' as M (fun _ M' => ks ls r M') else False
    | none => False
theorem z_Qs {X : z_Cx} {rt : Option FieldType} {S : Int32 → z_M → Prop} {ty : FieldType} (h : rt = some ty) : z_Q X rt S = va_Qi (fun (r : Int32) (M' : z_M) => S r M') (fun M' t => va_P X.2.1 vwCl (z_w X M') t.heap) (z_A X) := by rw [h]; rfl
theorem z_Qn {X : z_Cx} {rt : Option FieldType} {S : Int32 → z_M → Prop} (h : rt = none) : z_Q X rt S = va_Qv (fun M' : z_M => S 0 M') (fun M' t => va_P X.2.1 vwCl (z_w X M') t.heap) (z_A X) := by rw [h]; rfl
theorem z_blind {X : z_Cx} {as : List z_V} {M : z_M} : FrameBlind (z_Pc X as M) := fun a U g mk q => by
  obtain ⟨h1, h2, h3, h4, h5⟩ := q
  exact ⟨h1, h2, va_K.moved (u := U) (U := U.calling g mk a) (Vm.Alike.refl U.vm) h3, z_SF.same (u := U) (U := U.calling g mk a) rfl h4, h5⟩
theorem z_pre {X : z_Cx} {D : Nat} {q : z_MI} {R : Int32 → z_M → Prop} {p : Program} {e : Env} {s : State} {m : MethodId} {args : Array Value} {below : List Frame} {meth : Method} {c : Code} {Rm : Room} {cells slots : Nat} {Q : State → Prop}
    (C0 : z_MC X D q R p e s m args below meth c Rm cells slots Q) {M : z_M} {as : List z_V} {H : Heap} {locs : List Loc} (hP : va_P X.2.1 vwCl (z_w X M) H) (hS : va_S (z_A X) s.heap H locs) : PreS s H (z_Pc X as M) (z_cs X as) :=
  ⟨z_blind, fun U hU hW => ⟨rfl, by rw [hU]; exact hP, va_K.moved hW.alike C0.2.2.2.2.2.1, by rw [hU]; exact (C0.2.2.2.2.2.2.1.kept hS.2.1).warm hW, C0.2.2.2.2.2.2.2.1⟩⟩
theorem z_room {X : z_Cx} {D : Nat} {q : z_MI} {R : Int32 → z_M → Prop} {p : Program} {e : Env} {s : State} {m : MethodId} {args : Array Value} {below : List Frame} {meth : Method} {c : Code} {Rm : Room} {cells slots : Nat} {Q : State → Prop}
    (C0 : z_MC X D q R p e s m args below meth c Rm cells slots Q) {d maxL : Nat} (hd : d < D) (hm : Nat.ble maxL 45 = true) : (z_rm d).frames + 1 ≤ Rm.frames ∧ 8 + (maxL + 11) + (z_rm d).locals ≤ Rm.locals := by
  obtain ⟨h1, h2, -, -⟩ := C0.2.2.2.2.2.2.2.2.1
  have h3 := Nat.le_of_ble_eq_true hm
  show d + 1 + 1 ≤ _ ∧ 8 + (maxL + 11) + 64 * (d + 1) ≤ _
  omega
/-- what a call row asks of the callee's words -/
def z_cw (q q' : z_MI) (idx n : Nat) : Prop := Cond.methodLink q.1.cls idx q'.1 ∈ z_U ∧ Cond.initialized q'.1.cls ∈ z_U ∧ Cond.code q'.1 q'.2.1 q'.2.2.1 q'.2.2.2 ∈ z_U ∧ (q'.1.cls ≠ "java/lang/invoke/MethodHandle" ∧ q'.1.cls ≠ "java/lang/invoke/VarHandle" ∧ (parseMethodDescriptor q'.1.desc).map (fun d => d.parameters.length) = some n) ∧ Nat.ble q'.2.2.1 45 = true
def z_cwN (q q' : z_MI) (idx n : Nat) (host : String) : Prop := (q.1.cls, idx, q'.1, host) ∈ z_N ∧ Cond.initialized q'.1.cls ∈ z_U ∧ Cond.code q'.1 q'.2.1 q'.2.2.1 q'.2.2.2 ∈ z_U ∧ (q'.1.cls ≠ "java/lang/invoke/MethodHandle" ∧ q'.1.cls ≠ "java/lang/invoke/VarHandle" ∧ (parseMethodDescriptor q'.1.desc).map (fun d => d.parameters.length) = some n) ∧ Nat.ble q'.2.2.1 45 = true
theorem z_ws_in {q' : z_MI} (h : Cond.code q'.1 q'.2.1 q'.2.2.1 q'.2.2.2 ∈ z_U) : GoodIn z_U (z_ws q') := z_U_in (fun w hw => (List.mem_cons.mp hw).elim (fun e => e ▸ h) id)
theorem z_cb {X : z_Cx} {D : Nat} {q q' : z_MI} {R : Int32 → z_M → Prop} {p : Program} {e : Env} {s : State} {m : MethodId} {args : Array Value} {below : List Frame} {meth : Method} {c : Code} {Rm : Room} {cells slots : Nat} {Q : State → Prop}
    (C0 : z_MC X D q R p e s m args below meth c Rm cells slots Q) {idx n d : Nat} (h : z_cw q q' idx n) (hd : d < D) : CallB Rm s args q.1.cls idx q'.1 q'.2.1 q'.2.2.1 q'.2.2.2 (z_ws q') (z_rm d) 0 0 n := by
  obtain ⟨h1, h2, h3, h4, h5⟩ := h
  have hts := C0.2.2.2.2.1
  exact callB_of n hts (z_ws_in h3) rfl rfl rfl (hts _ h2) (hts _ h1) h4 (z_room C0 hd h5)
theorem z_cbN {X : z_Cx} {D : Nat} {q q' : z_MI} {R : Int32 → z_M → Prop} {p : Program} {e : Env} {s : State} {m : MethodId} {args : Array Value} {below : List Frame} {meth : Method} {c : Code} {Rm : Room} {cells slots : Nat} {Q : State → Prop}
    (C0 : z_MC X D q R p e s m args below meth c Rm cells slots Q) {idx n d : Nat} {host : String} (h : z_cwN q q' idx n host) (hd : d < D) : va_CN Rm s args q.1.cls idx q'.1 host q'.2.1 q'.2.2.1 q'.2.2.2 (z_ws q') (z_rm d) 0 0 n := by
  obtain ⟨h1, h2, h3, h4, h5⟩ := h
  have hts := C0.2.2.2.2.1
  exact va_cnB n hts (z_ws_in h3) rfl rfl rfl (C0.2.2.2.2.2.2.1.2.2.2.2.2.2 _ h1) (hts _ h2) h4 (z_room C0 hd h5)
theorem z_cs_pop {X : z_Cx} {n : Nat} {st as r : List z_V} (h : z_pop n st [] = some (as, r)) : as.length = n ∧ z_cs X st = (z_cs X as).reverse ++ z_cs X r := by
  obtain ⟨b, e1, e2, e3⟩ := z_pop_spec h
  rw [List.append_nil] at e1
  subst e1
  exact ⟨e2, by rw [e3]; unfold z_cs; rw [List.map_append, List.map_reverse]⟩
theorem z_len {X : z_Cx} {as : List z_V} : (z_cs X as).length = as.length := List.length_map ..
/-- the receiver is of the class that the call names -/
theorem z_rc {X : z_Cx} {D : Nat} {q : z_MI} {R : Int32 → z_M → Prop} {p : Program} {e : Env} {s : State} {m : MethodId} {args : Array Value} {below : List Frame} {meth : Method} {c : Code} {Rm : Room} {cells slots : Nat} {Q : State → Prop}
    (C0 : z_MC X D q R p e s m args below meth c Rm cells slots Q) {k ci nf i : Nat} {C : String} {T : u_T} (hC : z_Cl k ci nf C T) {M : z_M} {H : Heap} (hi : i < z_cnt k) (hP : va_P X.2.1 vwCl (z_w X M) H) : ∃ cell : Cell, H[X.2.2.1 k i]? = some cell ∧ cell.vm.isStatics = false ∧ s.vm.findClass C = some cell.cls := by
  obtain ⟨h64, hkd, hcl, -⟩ := hC
  obtain ⟨q0, hq⟩ := z_pl_at (z_pl_mem h64 hi)
  have he := z_w_at (X := X) (M := M) hq
  rw [z_en_o hkd] at he
  exact va_recv C0.2.2.2.2.2.1 hP hcl he
section ZC
variable {X : z_Cx} {D : Nat} {q q' : z_MI} {pc idx n k ci nf : Nat} {T : u_T} {ty : FieldType} {host : String}
theorem z_vgo {ks : z_K} {ls : z_L} {stk : List z_V} {M : z_M} {C : z_C} {push : Int32 → List z_V → List z_V} {kc : Nat}
    (h : match z_pop (n + 1) stk [] with
      | some (.inr (.inr (k, i)) :: as, r) => bif (Nat.beq k kc && Nat.ble (z_wd r) 8) then C q' (zr k i :: as) M (fun v M' => ks ls (push v r) M') else False
      | _ => False) : ∃ (i : Nat) (as r : List z_V), z_pop (n + 1) stk [] = some (zr kc i :: as, r) ∧ z_wd r ≤ 8 ∧ C q' (zr kc i :: as) M (fun v M' => ks ls (push v r) M') := by
  revert h
  cases hp : z_pop (n + 1) stk [] with
  | none => exact fun h => False.elim h
  | some w =>
    obtain ⟨_ | ⟨v | v | ⟨k2, i⟩, as⟩, r⟩ := w
    · exact fun h => False.elim h
    · exact fun h => False.elim h
    · exact fun h => False.elim h
    · intro h
      cases hb : (Nat.beq k2 kc && Nat.ble (z_wd r) 8) with
      | false => simp only [hb] at h; exact False.elim h
      | true =>
        simp only [hb] at h
        obtain ⟨hb1, hb2⟩ := Bool.and_eq_true_iff.mp hb
        have e1 := Nat.eq_of_beq_eq_true hb1
        subst e1
        exact ⟨i, as, r, rfl, Nat.le_of_ble_eq_true hb2, h⟩
theorem z_sgo {ks : z_K} {ls : z_L} {stk : List z_V} {M : z_M} {C : z_C} {push : Int32 → List z_V → List z_V}
    (h : match z_pop n stk [] with
      | some (as, r) => bif (Nat.ble (z_wd r) 8) then C q' as M (fun v M' => ks ls (push v r) M') else False
      | none => False) : ∃ (as r : List z_V), z_pop n stk [] = some (as, r) ∧ z_wd r ≤ 8 ∧ C q' as M (fun v M' => ks ls (push v r) M') := by
  revert h
  cases hp : z_pop n stk [] with
  | none => exact fun h => False.elim h
  | some w =>
    obtain ⟨as, r⟩ := w
    intro h
    cases hb : (Nat.ble (z_wd r) 8) with
    | false => simp only [hb] at h; exact False.elim h
    | true =>
      simp only [hb] at h
      exact ⟨as, r, rfl, Nat.le_of_ble_eq_true hb, h⟩
theorem s_vi (hC : z_Cl k ci nf q'.1.cls T) (hw : z_cw q q' idx n) (hin : Cond.instanceMethod q'.1 ∈ z_U) (hsel : Cond.selects q'.1.cls q'.1 q'.1 ∈ z_U) (hrt : q'.2.2.2 = some ty) (hd : decode q.2.1 pc = .ok (.invokevirtual idx, 3)) : z_Sd X D q pc (pc + 3) (x_vi q' n k) := by
  intro ks kj R ls st M h hs hj p e s m args below meth c Rm cells slots Q C0 H locs la I
  obtain ⟨i, as, r, hp, hwd, d, hdD, hcon⟩ := z_vgo (push := fun v r => zi v :: r) h
  obtain ⟨ho1, ho2⟩ := z_oks_pop hp I.2.1 trivial
  obtain ⟨hl1, hl2⟩ := z_cs_pop (X := X) hp
  have hM := hcon ho1
  rw [z_Qs hrt] at hM
  have hts := C0.2.2.2.2.1
  refine va_calli (va_runV (As := z_cs X as) (rest := z_cs X r) (C := q'.1.cls) ⟨C0.1, C0.2.1, C0.2.2.1, C0.2.2.2.1, hts⟩ hM ⟨z_cb C0 hw hdD, hts _ hin, hts _ hsel⟩ ⟨z_blind, z_rc C0 hC ho1.1 I.2.2.1, (z_pre C0 (as := zr k i :: as) I.2.2.1 I.2.2.2.1).2⟩ rfl (by rw [z_len]; simpa using hl1) I.2.2.2.2.1 ?_ (lv_room (by rw [z_wd_cs]; exact hwd)) hd ⟨C0.2.2.2.2.2.2.2.2.1.2.2.1, C0.2.2.2.2.2.2.2.2.1.2.2.2⟩) I.2.2.2.1 (fun _ _ h => h) (fun _ h => h) (fun v M' t H1 locs1 ht hvm hw2 hB hz hk hS1 => ?_)
  · show z_cs X st = _
    rw [hl2]
    show (z_co X.2.2.1 (zr k i) :: z_cs X as).reverse ++ z_cs X r = _
    rw [List.reverse_cons, List.append_assoc]
    rfl
  · exact hs _ _ _ hw2 p e s m args below meth c Rm cells slots Q C0 H1 locs1 la ⟨I.1, ⟨trivial, ho2⟩, by rw [← ht]; exact hB, hS1, I.2.2.2.2⟩
theorem s_vv (hC : z_Cl k ci nf q'.1.cls T) (hw : z_cw q q' idx n) (hin : Cond.instanceMethod q'.1 ∈ z_U) (hsel : Cond.selects q'.1.cls q'.1 q'.1 ∈ z_U) (hrt : q'.2.2.2 = none) (hd : decode q.2.1 pc = .ok (.invokevirtual idx, 3)) : z_Sd X D q pc (pc + 3) (x_vv q' n k) := by
  intro ks kj R ls st M h hs hj p e s m args below meth c Rm cells slots Q C0 H locs la I
  obtain ⟨i, as, r, hp, hwd, d, hdD, hcon⟩ := z_vgo (push := fun _ r => r) h
  obtain ⟨ho1, ho2⟩ := z_oks_pop hp I.2.1 trivial
  obtain ⟨hl1, hl2⟩ := z_cs_pop (X := X) hp
  have hM := hcon ho1
  rw [z_Qn hrt] at hM
  have hts := C0.2.2.2.2.1
  refine va_callv (va_runV (As := z_cs X as) (rest := z_cs X r) (C := q'.1.cls) ⟨C0.1, C0.2.1, C0.2.2.1, C0.2.2.2.1, hts⟩ hM ⟨z_cb C0 hw hdD, hts _ hin, hts _ hsel⟩ ⟨z_blind, z_rc C0 hC ho1.1 I.2.2.1, (z_pre C0 (as := zr k i :: as) I.2.2.1 I.2.2.2.1).2⟩ rfl (by rw [z_len]; simpa using hl1) I.2.2.2.2.1 ?_ (lv_room (by rw [z_wd_cs]; exact hwd)) hd ⟨C0.2.2.2.2.2.2.2.2.1.2.2.1, C0.2.2.2.2.2.2.2.2.1.2.2.2⟩) I.2.2.2.1 (fun _ _ h => h) (fun _ h => h) (fun M' t H1 locs1 ht hvm hw2 hB hz hk hS1 => ?_)
  · show z_cs X st = _
    rw [hl2]
    show (z_co X.2.2.1 (zr k i) :: z_cs X as).reverse ++ z_cs X r = _
    rw [List.reverse_cons, List.append_assoc]
    rfl
  · exact hs _ _ _ hw2 p e s m args below meth c Rm cells slots Q C0 H1 locs1 la ⟨I.1, ho2, by rw [← ht]; exact hB, hS1, I.2.2.2.2⟩
theorem s_viN (hC : z_Cl k ci nf q'.1.cls T) (hw : z_cwN q q' idx n host) (hin : Cond.instanceMethod q'.1 ∈ z_U) (hsel : Cond.selects q'.1.cls q'.1 q'.1 ∈ z_U) (hrt : q'.2.2.2 = some ty) (hd : decode q.2.1 pc = .ok (.invokevirtual idx, 3)) : z_Sd X D q pc (pc + 3) (x_vi q' n k) := by
  intro ks kj R ls st M h hs hj p e s m args below meth c Rm cells slots Q C0 H locs la I
  obtain ⟨i, as, r, hp, hwd, d, hdD, hcon⟩ := z_vgo (push := fun v r => zi v :: r) h
  obtain ⟨ho1, ho2⟩ := z_oks_pop hp I.2.1 trivial
  obtain ⟨hl1, hl2⟩ := z_cs_pop (X := X) hp
  have hM := hcon ho1
  rw [z_Qs hrt] at hM
  have hts := C0.2.2.2.2.1
  refine va_calli (va_runVN (As := z_cs X as) (rest := z_cs X r) (C := q'.1.cls) ⟨C0.1, C0.2.1, C0.2.2.1, C0.2.2.2.1, hts⟩ hM ⟨z_cbN C0 hw hdD, hts _ hin, hts _ hsel⟩ ⟨z_blind, z_rc C0 hC ho1.1 I.2.2.1, (z_pre C0 (as := zr k i :: as) I.2.2.1 I.2.2.2.1).2⟩ rfl (by rw [z_len]; simpa using hl1) I.2.2.2.2.1 ?_ (lv_room (by rw [z_wd_cs]; exact hwd)) hd ⟨C0.2.2.2.2.2.2.2.2.1.2.2.1, C0.2.2.2.2.2.2.2.2.1.2.2.2⟩) I.2.2.2.1 (fun _ _ h => h) (fun _ h => h) (fun v M' t H1 locs1 ht hvm hw2 hB hz hk hS1 => ?_)
  · show z_cs X st = _
    rw [hl2]
    show (z_co X.2.2.1 (zr k i) :: z_cs X as).reverse ++ z_cs X r = _
    rw [List.reverse_cons, List.append_assoc]
    rfl
  · exact hs _ _ _ hw2 p e s m args below meth c Rm cells slots Q C0 H1 locs1 la ⟨I.1, ⟨trivial, ho2⟩, by rw [← ht]; exact hB, hS1, I.2.2.2.2⟩
theorem s_si (hw : z_cw q q' idx n) (hst : Cond.static q'.1 ∈ z_U) (hrt : q'.2.2.2 = some ty) (hd : decode q.2.1 pc = .ok (.invokestatic idx, 3)) : z_Sd X D q pc (pc + 3) (x_si q' n) := by
  intro ks kj R ls st M h hs hj p e s m args below meth c Rm cells slots Q C0 H locs la I
  obtain ⟨as, r, hp, hwd, d, hdD, hcon⟩ := z_sgo (push := fun v r => zi v :: r) h
  obtain ⟨ho1, ho2⟩ := z_oks_pop hp I.2.1 trivial
  obtain ⟨hl1, hl2⟩ := z_cs_pop (X := X) hp
  have hM := hcon ho1
  rw [z_Qs hrt] at hM
  have hts := C0.2.2.2.2.1
  exact va_calli (va_runS (As := z_cs X as) (rest := z_cs X r) ⟨C0.1, C0.2.1, C0.2.2.1, C0.2.2.2.1, hts⟩ hM ⟨z_cb C0 hw hdD, hts _ hst⟩ (z_pre C0 (as := as) I.2.2.1 I.2.2.2.1) rfl (by rw [z_len]; exact hl1) I.2.2.2.2.1 hl2 (lv_room (by rw [z_wd_cs]; exact hwd)) hd ⟨C0.2.2.2.2.2.2.2.2.1.2.2.1, C0.2.2.2.2.2.2.2.2.1.2.2.2⟩) I.2.2.2.1 (fun _ _ h => h) (fun _ h => h) (fun v M' t H1 locs1 ht hvm hw2 hB hz hk hS1 => hs _ _ _ hw2 p e s m args below meth c Rm cells slots Q C0 H1 locs1 la ⟨I.1, ⟨trivial, ho2⟩, by rw [← ht]; exact hB, hS1, I.2.2.2.2⟩)
theorem s_sv (hw : z_cw q q' idx n) (hst : Cond.static q'.1 ∈ z_U) (hrt : q'.2.2.2 = none) (hd : decode q.2.1 pc = .ok (.invokestatic idx, 3)) : z_Sd X D q pc (pc + 3) (x_sv q' n) := by
  intro ks kj R ls st M h hs hj p e s m args below meth c Rm cells slots Q C0 H locs la I
  obtain ⟨as, r, hp, hwd, d, hdD, hcon⟩ := z_sgo (push := fun _ r => r) h
  obtain ⟨ho1, ho2⟩ := z_oks_pop hp I.2.1 trivial
  obtain ⟨hl1, hl2⟩ := z_cs_pop (X := X) hp
  have hM := hcon ho1
  rw [z_Qn hrt] at hM
  have hts := C0.2.2.2.2.1
  exact va_callv (va_runS (As := z_cs X as) (rest := z_cs X r) ⟨C0.1, C0.2.1, C0.2.2.1, C0.2.2.2.1, hts⟩ hM ⟨z_cb C0 hw hdD, hts _ hst⟩ (z_pre C0 (as := as) I.2.2.1 I.2.2.2.1) rfl (by rw [z_len]; exact hl1) I.2.2.2.2.1 hl2 (lv_room (by rw [z_wd_cs]; exact hwd)) hd ⟨C0.2.2.2.2.2.2.2.2.1.2.2.1, C0.2.2.2.2.2.2.2.2.1.2.2.2⟩) I.2.2.2.1 (fun _ _ h => h) (fun _ h => h) (fun M' t H1 locs1 ht hvm hw2 hB hz hk hS1 => hs _ _ _ hw2 p e s m args below meth c Rm cells slots Q C0 H1 locs1 la ⟨I.1, ho2, by rw [← ht]; exact hB, hS1, I.2.2.2.2⟩)
theorem s_siN (hw : z_cwN q q' idx n host) (hst : Cond.static q'.1 ∈ z_U) (hrt : q'.2.2.2 = some ty) (hd : decode q.2.1 pc = .ok (.invokestatic idx, 3)) : z_Sd X D q pc (pc + 3) (x_si q' n) := by
  intro ks kj R ls st M h hs hj p e s m args below meth c Rm cells slots Q C0 H locs la I
  obtain ⟨as, r, hp, hwd, d, hdD, hcon⟩ := z_sgo (push := fun v r => zi v :: r) h
  obtain ⟨ho1, ho2⟩ := z_oks_pop hp I.2.1 trivial
  obtain ⟨hl1, hl2⟩ := z_cs_pop (X := X) hp
  have hM := hcon ho1
  rw [z_Qs hrt] at hM
  have hts := C0.2.2.2.2.1
  exact va_calli (va_runSN (As := z_cs X as) (rest := z_cs X r) ⟨C0.1, C0.2.1, C0.2.2.1, C0.2.2.2.1, hts⟩ hM ⟨z_cbN C0 hw hdD, hts _ hst, trivial⟩ (z_pre C0 (as := as) I.2.2.1 I.2.2.2.1) rfl (by rw [z_len]; exact hl1) I.2.2.2.2.1 hl2 (lv_room (by rw [z_wd_cs]; exact hwd)) hd ⟨C0.2.2.2.2.2.2.2.2.1.2.2.1, C0.2.2.2.2.2.2.2.2.1.2.2.2⟩) I.2.2.2.1 (fun _ _ h => h) (fun _ h => h) (fun v M' t H1 locs1 ht hvm hw2 hB hz hk hS1 => hs _ _ _ hw2 p e s m args below meth c Rm cells slots Q C0 H1 locs1 la ⟨I.1, ⟨trivial, ho2⟩, by rw [← ht]; exact hB, hS1, I.2.2.2.2⟩)
end ZC
