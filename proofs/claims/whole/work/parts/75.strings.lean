/-! ===== String constants: what is asked of them ===== -/
def x_lds (j : Nat) : z_X := fun ks _ _ _ ls st M => ks ls (zr 66 j :: st) M
def x_gsV : z_X := fun ks _ _ _ ls st M => match st with
  | .inr (.inr (k, i)) :: r => bif Nat.beq k 66 then ks ls (zr 67 i :: r) M else False
  | _ => False
def x_gsC : z_X := fun ks _ _ _ ls st M => match st with
  | .inr (.inr (k, _)) :: r => bif Nat.beq k 66 then ks ls (zi 0 :: r) M else False
  | _ => False
def x_blen : z_X := fun ks _ _ _ ls st M => match st with
  | .inr (.inr (k, i)) :: r => bif Nat.beq k 67 then ks ls (zi (nI (z_sln.getD i 0)) :: r) M else False
  | _ => False
def x_sbld : z_X := fun ks _ _ _ ls st M => match st with
  | .inl x :: .inr (.inr (k, i)) :: r => bif Nat.beq k 67 then vp_in x (z_sln.getD i 0) ∧ ks ls (zi ((z_sby.getD i []).getD x.toNatClampNeg 0) :: r) M else False
  | _ => False
def x_gsZ : z_X := fun ks _ _ _ ls st M => ks ls (zi 1 :: st) M
def x_chk : z_X := fun ks _ _ _ ls st M => match st with
  | .inl y :: .inl x :: r => (¬ x < 0 ∧ x < y ∧ z_wd r ≤ 8) ∧ ks ls (zi x :: r) M
  | _ => False
section ZS
variable {X : z_Cx} {D : Nat} {q q' : z_MI} {pc idx n : Nat} {ty : FieldType}
theorem s_lds {j : Nat} (hj10 : j < 10) (hown : q.1.cls = "PaceStore$Reader") (hd : decode q.2.1 pc = .ok (.ldc (z_sg j).1, 2)) : z_Sd X D q pc (pc + 2) (x_lds j) := by
  intro ks kj R ls st M h hs hj p e s m args below meth c Rm cells slots Q C0 H locs la I
  refine va_ldcS C0.1 C0.2.1 (own := "PaceStore$Reader") (by rw [← hown]; exact C0.2.2.2.1) (C0.2.2.2.2.2.2.1.2.2.2.2.2.1 j hj10) hd ?_
  exact hs _ _ _ h p e s m args below meth c Rm cells slots Q C0 H locs la ⟨I.1, ⟨(show j < z_cnt 66 from hj10), I.2.1⟩, I.2.2⟩
theorem s_gsV (hlink : Cond.fieldLink q.1.cls idx "java/lang/String" "value" "[B" ∈ z_U) (hd : decode q.2.1 pc = .ok (.getfield idx, 3)) : z_Sd X D q pc (pc + 3) x_gsV := by
  intro ks kj R ls st M h hs hj p e s m args below meth c Rm cells slots Q C0 H locs la I
  rcases st with _ | ⟨x | x | ⟨k, i⟩, r⟩ <;> first | exact False.elim h | skip
  unfold x_gsV at h
  simp only at h
  cases hb : Nat.beq k 66 with
  | false => rw [hb] at h; exact False.elim h
  | true =>
    rw [hb] at h
    have e1 := Nat.eq_of_beq_eq_true hb
    subst e1
    have hi : i < 10 := I.2.1.1
    exact vk_getf C0.1 C0.2.1 ((C0.2.2.2.2.2.2.1.2.2.2.2.1.1 i hi).2.2.1) I.2.2.2.1 C0.2.2.2.1 (C0.2.2.2.2.1 _ hlink) (fun _ h9 => h9) hd (hs _ _ _ h p e s m args below meth c Rm cells slots Q C0 H locs la ⟨I.1, ⟨(show i < z_cnt 67 from hi), I.2.1.2⟩, I.2.2⟩)
theorem s_gsC (hlink : Cond.fieldLink q.1.cls idx "java/lang/String" "coder" "B" ∈ z_U) (hd : decode q.2.1 pc = .ok (.getfield idx, 3)) : z_Sd X D q pc (pc + 3) x_gsC := by
  intro ks kj R ls st M h hs hj p e s m args below meth c Rm cells slots Q C0 H locs la I
  rcases st with _ | ⟨x | x | ⟨k, i⟩, r⟩ <;> first | exact False.elim h | skip
  unfold x_gsC at h
  simp only at h
  cases hb : Nat.beq k 66 with
  | false => rw [hb] at h; exact False.elim h
  | true =>
    rw [hb] at h
    have e1 := Nat.eq_of_beq_eq_true hb
    subst e1
    have hi : i < 10 := I.2.1.1
    exact vk_getf C0.1 C0.2.1 ((C0.2.2.2.2.2.2.1.2.2.2.2.1.1 i hi).2.1) I.2.2.2.1 C0.2.2.2.1 (C0.2.2.2.2.1 _ hlink) (fun _ h9 => h9) hd (hs _ _ _ h p e s m args below meth c Rm cells slots Q C0 H locs la ⟨I.1, ⟨trivial, I.2.1.2⟩, I.2.2⟩)
theorem s_blen (hd : decode q.2.1 pc = .ok (.arraylength, 1)) : z_Sd X D q pc (pc + 1) x_blen := by
  intro ks kj R ls st M h hs hj p e s m args below meth c Rm cells slots Q C0 H locs la I
  rcases st with _ | ⟨x | x | ⟨k, i⟩, r⟩ <;> first | exact False.elim h | skip
  unfold x_blen at h
  simp only at h
  cases hb : Nat.beq k 67 with
  | false => rw [hb] at h; exact False.elim h
  | true =>
    rw [hb] at h
    have e1 := Nat.eq_of_beq_eq_true hb
    subst e1
    have hi : i < 10 := I.2.1.1
    exact va_tlen C0.1 C0.2.1 ((C0.2.2.2.2.2.2.1.2.2.2.2.1.1 i hi).2.2.2) I.2.2.2.1 rfl hd (hs _ _ _ h p e s m args below meth c Rm cells slots Q C0 H locs la ⟨I.1, ⟨trivial, I.2.1.2⟩, I.2.2⟩)
theorem s_sbld (hd : decode q.2.1 pc = .ok (.baload, 1)) : z_Sd X D q pc (pc + 1) x_sbld := by
  intro ks kj R ls st M h hs hj p e s m args below meth c Rm cells slots Q C0 H locs la I
  rcases st with _ | ⟨x | x | x, _ | ⟨y | y | ⟨k, i⟩, r⟩⟩ <;> first | exact False.elim h | skip
  unfold x_sbld at h
  simp only at h
  cases hb : Nat.beq k 67 with
  | false => rw [hb] at h; exact False.elim h
  | true =>
    rw [hb] at h
    have e1 := Nat.eq_of_beq_eq_true hb
    subst e1
    have hi : i < 10 := I.2.1.2.1
    exact va_tb C0.1 C0.2.1 ((C0.2.2.2.2.2.2.1.2.2.2.2.1.1 i hi).2.2.2) I.2.2.2.1 h.1 rfl hd (hs _ _ _ h.2 p e s m args below meth c Rm cells slots Q C0 H locs la ⟨I.1, ⟨trivial, I.2.1.2.2⟩, I.2.2⟩)
theorem s_gsZ (hlink : Cond.fieldLink q.1.cls idx "java/lang/String" "COMPACT_STRINGS" "Z" ∈ z_U) (hd : decode q.2.1 pc = .ok (.getstatic idx, 3)) : z_Sd X D q pc (pc + 3) x_gsZ := by
  intro ks kj R ls st M h hs hj p e s m args below meth c Rm cells slots Q C0 H locs la I
  exact va_gets C0.1 C0.2.1 C0.2.2.2.2.2.2.1.2.2.1 I.2.2.2.1 C0.2.2.2.1 (C0.2.2.2.2.1 _ hlink) (fun _ h9 => h9) hd (hs _ _ _ h p e s m args below meth c Rm cells slots Q C0 H locs la ⟨I.1, ⟨trivial, I.2.1⟩, I.2.2⟩)
theorem s_viS (hcls : q'.1.cls = "java/lang/String") (hw : z_cw q q' idx n) (hin : Cond.instanceMethod q'.1 ∈ z_U) (hsel : Cond.selects q'.1.cls q'.1 q'.1 ∈ z_U) (hrt : q'.2.2.2 = some ty) (hd : decode q.2.1 pc = .ok (.invokevirtual idx, 3)) : z_Sd X D q pc (pc + 3) (x_vi q' n 66) := by
  intro ks kj R ls st M h hs hj p e s m args below meth c Rm cells slots Q C0 H locs la I
  obtain ⟨i, as, r, hp, hwd, d, hdD, hcon⟩ := z_vgo (push := fun v r => zi v :: r) h
  obtain ⟨ho1, ho2⟩ := z_oks_pop hp I.2.1 trivial
  obtain ⟨hl1, hl2⟩ := z_cs_pop (X := X) hp
  have hM := hcon ho1
  rw [z_Qs hrt] at hM
  have hts := C0.2.2.2.2.1
  have hi : i < 10 := ho1.1
  have hrc : ∃ cell : Cell, H[X.2.2.1 66 i]? = some cell ∧ cell.vm.isStatics = false ∧ s.vm.findClass q'.1.cls = some cell.cls := by
    rw [hcls]
    exact vk_recv C0.2.2.2.2.2.2.1.2.2.2.2.1 hi I.2.2.2.1
  refine va_calli (va_runV (As := z_cs X as) (rest := z_cs X r) (C := q'.1.cls) ⟨C0.1, C0.2.1, C0.2.2.1, C0.2.2.2.1, hts⟩ hM ⟨z_cb C0 hw hdD, hts _ hin, hts _ hsel⟩ ⟨z_blind, hrc, (z_pre C0 (as := zr 66 i :: as) I.2.2.1 I.2.2.2.1).2⟩ rfl (by rw [z_len]; simpa using hl1) I.2.2.2.2.1 ?_ (lv_room (by rw [z_wd_cs]; exact hwd)) hd ⟨C0.2.2.2.2.2.2.2.2.1.2.2.1, C0.2.2.2.2.2.2.2.2.1.2.2.2⟩) I.2.2.2.1 (fun _ _ h => h) (fun _ h => h) (fun v M' t H1 locs1 ht hvm hw2 hB hz hk hS1 => ?_)
  · show z_cs X st = _
    rw [hl2]
    show (z_co X.2.2.1 (zr 66 i) :: z_cs X as).reverse ++ z_cs X r = _
    rw [List.reverse_cons, List.append_assoc]
    rfl
  · exact hs _ _ _ hw2 p e s m args below meth c Rm cells slots Q C0 H1 locs1 la ⟨I.1, ⟨trivial, ho2⟩, by rw [← ht]; exact hB, hS1, I.2.2.2.2⟩
end ZS
/-- a contract of a method with one more argument, whatever it is -/
def z_Pc3 (X : z_Cx) (as : List z_V) (v : Value) (M : z_M) : Array Value → State → Prop := va_Pc (z_cs X as ++ [v]) (fun U => va_P X.2.1 vwCl (z_w X M) U.heap ∧ va_K X.2.1 vwCl (z_ty X.2.2.2.1) U ∧ z_SF X U U.heap ∧ z_inj X)
theorem args_pre (as : List Value) (v : Value) : ∀ n, ∀ x ∈ lv_args n as, x ∈ lv_args n (as ++ [v]) := by
  induction as with
  | nil => intro n x h; cases h
  | cons a r ih =>
    intro n x h
    rcases List.mem_cons.mp h with e | e
    · exact List.mem_cons.mpr (Or.inl e)
    · exact List.mem_cons.mpr (Or.inr (ih _ x e))
theorem z_mk3 {X : z_Cx} {D : Nat} {q : z_MI} {as : List z_V} {v : Value} {M : z_M} {S : Int32 → z_M → Prop} (ho : z_oks as) (hy : plainName q.1.cls = true) (hn : (lg_sl (z_cs X as ++ [v])).length ≤ q.2.2.1)
    (h : z_Run X D q S 0 (z_en0 0 as) [] M) : Met X.1 q.1 (z_ws q) (z_rm D) (z_Pc3 X as v M) (z_Q X q.2.2.2 S) 0 0 (z_A X) := by
  refine Met.ofW (cc := q.2.1) (maxL := q.2.2.1) (ret := q.2.2.2) hy rfl ?_
  intro p e s m args below meth c s₁ B hml hv
  obtain ⟨rfl, hP, hK, hF, hJ⟩ := hv
  have hts := atoms_spec (ws := z_ws q) B.pre
  have hl := lv_entry (z_cs X as ++ [v]) (n := q.2.2.1) hn
  rw [lg_entry_eq]
  have hl2 : lv_has ((lg_sl (z_cs X as ++ [v]) ++ List.replicate (q.2.2.1 - (lg_sl (z_cs X as ++ [v])).length) Slot.unset).toArray) q.2.2.1 (z_cl X (z_en0 0 as)) := by
    rw [z_en0_args]
    exact ⟨hl.1, hl.2.1, fun x hx => hl.2.2 x (args_pre (z_cs X as) v 0 x hx)⟩
  have hlocks := B.notSynchronized
  have hr := B.returns
  refine h p e s m _ below meth c _ 0 0 _ ⟨B.exec, B.bytes, hml, findClass_of_methodNamed B.named, fun w hw => hts w (List.mem_cons_of_mem _ hw), hK, hF, hJ, ⟨Nat.le_refl _, Nat.le_refl _, Nat.zero_le _, Nat.zero_le _⟩, ?_, ?_⟩ s.heap [] _ ⟨z_en0_ok _ _ ho, trivial, hP, va_S.rf, hl2⟩
  · intro v' M' H locs ls pc ty hty hnr hR hP' hS' hd
    refine W.zret (ty := ty) B.exec B.bytes (by rw [hr, hty]) hnr (fun t ht hW => ?_) hS'.2.2 hd
    unfold z_Q
    rw [hty]
    exact ⟨⟨v', M', rfl, hR, by show va_P _ _ _ t.heap; rw [ht]; exact hP'⟩, hS'.F ht⟩
  · intro M' H locs ls pc hty hR hP' hS' hd
    refine W.vret B.exec B.bytes (by rw [hr, hty]) (fun t ht hW => ?_) hS'.2.2 hd
    unfold z_Q
    rw [hty]
    exact ⟨⟨M', rfl, hR, by show va_P _ _ _ t.heap; rw [ht]; exact hP'⟩, hS'.F ht⟩
theorem z_blind3 {X : z_Cx} {as : List z_V} {v : Value} {M : z_M} : FrameBlind (z_Pc3 X as v M) := fun a U g mk q => by
  obtain ⟨h1, h2, h3, h4, h5⟩ := q
  exact ⟨h1, h2, va_K.moved (u := U) (U := U.calling g mk a) (Vm.Alike.refl U.vm) h3, z_SF.same (u := U) (U := U.calling g mk a) rfl h4, h5⟩
/-- a static that may be null is read, and a method is called with it that doesn't look at it -/
theorem s_chk {X : z_Cx} {D : Nat} {q q' : z_MI} {pc idx i2 : Nat} {ty : FieldType} (hlink : Cond.fieldLink q.1.cls idx "jdk/internal/util/Preconditions" "SIOOBE_FORMATTER" "Ljava/util/function/BiFunction;" ∈ z_U) (hd : decode q.2.1 pc = .ok (.getstatic idx, 3)) (hw : z_cw q q' i2 3) (hst : Cond.static q'.1 ∈ z_U) (hrt : q'.2.2.2 = some ty) (hd2 : decode q.2.1 (pc + 3) = .ok (.invokestatic i2, 3))
    (hcon : ∀ (x y : Int32) (v : Value) (M : z_M), (v = .null ∨ ∃ t, v = .ref t) → ¬ x < 0 → x < y → Met X.1 q'.1 (z_ws q') (z_rm 0) (z_Pc3 X [zi x, zi y] v M) (z_Q X q'.2.2.2 (fun r M' => r = x ∧ M' = M)) 0 0 (z_A X)) (hD : 0 < D) : z_Sd X D q pc (pc + 6) x_chk := by
  intro ks kj R ls st M h hs hj p e s m args below meth c Rm cells slots Q C0 H locs la I
  rcases st with _ | ⟨y | y | y, _ | ⟨x | x | x, r⟩⟩ <;> first | exact False.elim h | skip
  obtain ⟨⟨hx0, hxy, hwd⟩, hks⟩ := h
  have hts := C0.2.2.2.2.1
  have call : ∀ v : Value, (v = .null ∨ ∃ t, v = .ref t) → W p X.1 e Rm s m args below meth c H locs cells slots Q (F0 m (pc + 3) la (v :: z_cs X (zi y :: zi x :: r))) := by
    intro v hv
    have hM := hcon x y v M hv hx0 hxy
    rw [z_Qs hrt] at hM
    refine va_calli (va_runS (As := z_cs X [zi x, zi y] ++ [v]) (rest := z_cs X r) ⟨C0.1, C0.2.1, C0.2.2.1, C0.2.2.2.1, hts⟩ hM ⟨z_cb C0 hw hD, hts _ hst⟩ ⟨z_blind3, fun U hU hW => ⟨rfl, by rw [hU]; exact I.2.2.1, va_K.moved hW.alike C0.2.2.2.2.2.1, by rw [hU]; exact (C0.2.2.2.2.2.2.1.kept I.2.2.2.1.2.1).warm hW, C0.2.2.2.2.2.2.2.1⟩⟩ rfl rfl I.2.2.2.2.1 rfl (lv_room (by rw [z_wd_cs]; exact hwd)) hd2 ⟨C0.2.2.2.2.2.2.2.2.1.2.2.1, C0.2.2.2.2.2.2.2.2.1.2.2.2⟩) I.2.2.2.1 (fun _ _ h => h) (fun _ h => h) (fun v' M' t H1 locs1 ht hvm hw2 hB hz hk hS1 => ?_)
    obtain ⟨rfl, rfl⟩ := hw2
    exact hs _ _ _ hks p e s m args below meth c Rm cells slots Q C0 H1 locs1 la ⟨I.1, ⟨trivial, I.2.1.2.2⟩, by rw [← ht]; exact hB, hS1, I.2.2.2.2⟩
  rcases C0.2.2.2.2.2.2.1.2.2.2.1 with hz | ⟨t, hz⟩
  · exact va_gets C0.1 C0.2.1 hz I.2.2.2.1 C0.2.2.2.1 (hts _ hlink) (fun _ h9 => h9) hd (call .null (Or.inl rfl))
  · exact va_gets C0.1 C0.2.1 hz I.2.2.2.1 C0.2.2.2.1 (hts _ hlink) (fun _ h9 => h9) hd (call (.ref t) (Or.inr ⟨t, rfl⟩))
