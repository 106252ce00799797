/-! ===== constructors: cells made, fields put, rows stored ===== -/
section ZQ
variable {l : Launch} {G : va_G} {cA : Nat → ClassId} {D : Nat} {q : z_MI} {pc : Nat}
variable {A : Nat → Prop} {nL n0 : Nat} {s : State} {ad0 ad : Nat → Nat} {th : Nat} {ct : Option Int32} {st : List zc_V} {hp : zc_H} {H : Heap} {locs : List Loc} {la : Array Slot}
theorem cat_le {r : List zc_V} : (List.map (fun v => v.category) (List.map (zc_co ad) r)).sum ≤ 2 * r.length := by
  induction r with
  | nil => exact Nat.le_refl 0
  | cons v r ih =>
    have h : (zc_co ad v).category ≤ 2 := by
      rcases v with x | x | _ | i
      · exact Nat.le_succ 1
      · exact Nat.le_refl 2
      · exact Nat.le_succ 1
      · exact Nat.le_succ 1
    simp only [List.map_cons, List.sum_cons, List.length_cons]
    omega
theorem ll_ext {ad' : Nat → Nat} (h : ad' th = ad th) : zc_ll ad' th ct = zc_ll ad th ct := by
  unfold zc_ll
  rw [h]
def yc_oi : zc_X := fun (th, ct, st, hp, c, z) => match st with
  | .inr (.inr (some _)) :: r => bif Nat.ble r.length 4 then some (none, th, ct, r, hp, c, z) else none
  | _ => none
theorem yk_oi {idx : Nat} (hlink : Cond.methodLink q.1.cls idx Lib.objectInit ∈ z_U) (hi : Cond.instanceMethod Lib.objectInit ∈ z_U) (hco : Cond.code Lib.objectInit ⟨#[0xb1]⟩ 1 none ∈ z_U) (hd : decode q.2.1 pc = .ok (.invokespecial idx, 3)) : zc_Sd l G cA D q pc (pc + 3) yc_oi := by
  refine ⟨?_, ?_⟩
  · rintro ⟨th, ct, _ | ⟨x | x | _ | i, r⟩, hp, c, z⟩ j σ' h <;> first | cases h; done | skip
    simp only [yc_oi] at h
    cases hb : Nat.ble r.length 4 with
    | false => rw [hb] at h; cases h
    | true =>
      rw [hb] at h
      cases h
      exact ⟨Nat.le_refl _, Nat.le_refl _⟩
  · intro p e s m args below meth c Rm Q A n0 ad0 C0 σ j σ' h hc hz ad H locs la I k
    obtain ⟨th, ct, _ | ⟨x | x | _ | i, r⟩, hp, cc, z⟩ := σ <;> first | cases h; done | skip
    simp only [yc_oi] at h
    cases hb : Nat.ble r.length 4 with
    | false => rw [hb] at h; cases h
    | true =>
      rw [hb] at h
      cases h
      have hr := Nat.le_of_ble_eq_true hb
      have hcs := cat_le (ad := ad) (r := r)
      have hts := C0.2.2.2.2.1
      obtain ⟨r1, r2⟩ := C0.2.2.2.2.2.2.2.2.2
      refine W.objInit C0.1 C0.2.1 C0.2.2.2.1 (hts _ hlink) (hts _ hi) (hts _ hco) rfl (by rw [C0.2.2.1]; exact I.2.2.2.2.2.1) rfl hd (by omega) ?_ ?_
      · show 0 + _ + 12 ≤ _
        omega
      · exact k ad H locs la (yk_pop I)
theorem yk_new1 {e : zc_E} {q0 : Nat} {H1 : Heap} (I : zc_I G cA A nL s n0 ad0 ad th ct st hp H locs la) (he : zc_re hp.length e) (hP : va_P G vwCl (zc_w cA ad hp ++ [(q0, zc_en cA ad e)]) H1) (hD : va_D A (zc_w cA ad hp ++ [(q0, zc_en cA ad e)])) (hS : va_S A s.heap H1 locs) : zc_I G cA A nL s n0 ad0 (zc_up ad hp.length q0) th ct (zc_r hp.length :: st) (hp ++ [e]) H1 locs la := by
  have hl : (hp ++ [e]).length = hp.length + 1 := by simp
  refine ⟨⟨wf_push I.1.1 (re_le (Nat.le_succ _) he), fun v hv => ?_, by rw [hl]; exact Nat.lt_succ_of_lt I.1.2.2⟩, ⟨fun i hi => ?_, by rw [hl]; exact Nat.le_succ_of_le I.2.1.2⟩, by rw [w_push I.1.1 he]; exact hP, by rw [w_push I.1.1 he]; exact hD, hS, by rw [ll_ext (up_lt I.1.2.2)]; exact I.2.2.2.2.2⟩
  · rw [hl]
    rcases List.mem_cons.mp hv with h | h
    · rw [h]
      exact Nat.lt_succ_self _
    · exact rk_le (Nat.le_succ _) (I.1.2.1 v h)
  · rw [up_lt (Nat.lt_of_lt_of_le hi I.2.1.2)]
    exact I.2.1.1 i hi
theorem st_ext {n : Nat} {ad' : Nat → Nat} (h : ∀ i, i < n → ad' i = ad i) (hs : ∀ v ∈ st, zc_rk n v) : st.map (zc_co ad') = st.map (zc_co ad) := List.map_congr_left (fun v hv => co_ext h (hs v hv))
theorem st_new {q0 : Nat} (I : zc_I G cA A nL s n0 ad0 ad th ct st hp H locs la) : (zc_r hp.length :: st).map (zc_co (zc_up ad hp.length q0)) = .ref q0 :: st.map (zc_co ad) := by
  show Value.ref (zc_up ad hp.length q0 hp.length) :: st.map (zc_co (zc_up ad hp.length q0)) = _
  rw [up_at, st_ext (fun i hi => up_lt hi) I.1.2.1]
def zc_df : FieldType → zc_V
  | .long => .inr (.inl 0)
  | .object _ => .inr (.inr none)
  | .array _ => .inr (.inr none)
  | _ => .inl 0
def zc_dk : FieldType → Bool
  | .float => false
  | .double => false
  | _ => true
theorem df_ok {t : FieldType} (h : zc_dk t = true) : defaultValue t = zc_co ad (zc_df t) := by
  cases t <;> first | rfl | cases h
theorem df_rk {t : FieldType} {n : Nat} : zc_rk n (zc_df t) := by
  cases t <;> trivial
def zc_fs (ty : Nat → FieldType) (N : Nat) : List zc_V := (List.range N).map (fun j => zc_df (ty j))
def yc_new (ci N : Nat) (ty : Nat → FieldType) : zc_X := fun (th, ct, st, hp, c, z) => some (none, th, ct, zc_r hp.length :: st, hp ++ [.inl (ci, zc_fs ty N)], c + 1, z + N)
theorem yk_new {k ci nf idx : Nat} {C : String} {T : u_T} {ty : Nat → FieldType} (hC : z_Cl k ci nf C T) (hty : ∀ k, k < nf → parseFieldDescriptor (T k).2.2.1 = some (ty k)) (hdk : ∀ j, j < nf → zc_dk (ty j) = true) (hcl : Cond.classLink q.1.cls idx C ∈ z_U) (hin : Cond.instantiable C nf ∈ z_U) (hini : Cond.initialized C ∈ z_U) (hd : decode q.2.1 pc = .ok (.new idx, 3)) : zc_Sd l G cA D q pc (pc + 3) (yc_new ci nf ty) := by
  refine ⟨fun σ j σ' h => by cases h; exact ⟨Nat.le_succ _, Nat.le_add_right _ _⟩, ?_⟩
  intro p e s m args below meth c Rm Q A n0 ad0 C0 σ j σ' h hc hz ad H locs la I kk
  obtain ⟨th, ct, st, hp, cc, z⟩ := σ
  cases h
  have hts := C0.2.2.2.2.1
  refine va_new (ci := ci) (fs := (zc_fs ty nf).map (zc_co ad)) (C := C) (T := T) (N := nf) C0.1 C0.2.1 hts hC.2.2.2 ty hty C0.2.2.2.1 (hts _ hcl) (hts _ hin) (hts _ hini) C0.2.2.2.2.2.1 I.2.2.1 I.2.2.2.1 I.2.2.2.2.1 C0.2.2.2.2.2.2.2.1 hC.2.2.1 (fun j hj => ?_) hc hz hd (fun q0 H1 hP1 hD1 hS1 => ?_)
  · unfold zc_fs vp_V
    rw [List.map_map, List.getD_eq_getElem?_getD, z_rg _ _ _ hj]
    exact df_ok (hdk j hj)
  · have he : zc_re hp.length (Sum.inl (ci, zc_fs ty nf)) := by
      intro v hv
      obtain ⟨j, -, rfl⟩ := List.mem_map.mp hv
      exact df_rk
    have hk := kk _ H1 locs la (yk_new1 I he hP1 hD1 hS1)
    rw [st_new I] at hk
    exact hk
/-- the class of a row is the one that the tables name -/
theorem zc_cA {tys : List (ClassId × FieldType)} {cB : ClassId} {ty : FieldType} {t0 : Nat} (hK : va_K G vwCl (z_ty cA) s) (hK2 : va_K G vwCl (tys ++ [(cB, ty)]) s) (ht : (z_ty cA)[t0]? = some (cA t0, ty)) : cB = cA t0 := by
  have h1 := (hK2.2 tys.length (cB, ty) (by rw [List.getElem?_append_right (Nat.le_refl _), Nat.sub_self]; rfl)).2
  have h2 := (hK.2 t0 _ ht).2
  cases ty with
  | object C =>
    obtain ⟨_, _, _, _, _, e1⟩ := h1
    obtain ⟨_, _, _, _, _, e2⟩ := h2
    exact Option.some.inj (e1.symm.trans e2)
  | _ => exact Option.some.inj (Eq.trans (Eq.symm h1) h2)
def yc_na (t0 : Nat) : zc_X := fun (th, ct, st, hp, c, z) => match st with
  | .inl n :: r => bif (decide (0 ≤ n) && Nat.ble n.toNatClampNeg 100000) then some (none, th, ct, zc_r hp.length :: r, hp ++ [.inr (t0, n.toNatClampNeg, .inl (fun _ => 0))], c + 1, z + n.toNatClampNeg) else none
  | _ => none
theorem yk_na {t0 : Nat} {at0 : ArrayType} {ty : FieldType} (hty : newarray.typeOf at0 = ty) (ht : ∀ cA : Nat → ClassId, (z_ty cA)[t0]? = some (cA t0, ty)) (hdv : defaultValue ty = .int 0) (hcb : componentBytes ty ≤ 4) (harr : Cond.arrayClass ty ∈ z_U) (hd : decode q.2.1 pc = .ok (.newarray at0, 2)) : zc_Sd l G cA D q pc (pc + 2) (yc_na t0) := by
  refine ⟨?_, ?_⟩
  · rintro ⟨th, ct, _ | ⟨n | x | x, r⟩, hp, c, z⟩ j σ' h <;> first | cases h; done | skip
    simp only [yc_na] at h
    cases hb : (decide (0 ≤ n) && Nat.ble n.toNatClampNeg 100000) with
    | false => rw [hb] at h; cases h
    | true =>
      rw [hb] at h
      cases h
      exact ⟨Nat.le_succ _, Nat.le_add_right _ _⟩
  · intro p e s m args below meth c Rm Q A n0 ad0 C0 σ j σ' h hc hz ad H locs la I kk
    obtain ⟨th, ct, _ | ⟨n | x | x, r⟩, hp, cc, z⟩ := σ <;> first | cases h; done | skip
    simp only [yc_na] at h
    cases hb : (decide (0 ≤ n) && Nat.ble n.toNatClampNeg 100000) with
    | false => rw [hb] at h; cases h
    | true =>
      rw [hb] at h
      cases h
      obtain ⟨hb1, hb2⟩ := Bool.and_eq_true_iff.mp hb
      have hn : ¬ n < 0 := Int32.not_lt.mpr (of_decide_eq_true hb1)
      have hN := Nat.le_of_ble_eq_true hb2
      have hts := C0.2.2.2.2.1
      have hI := yk_pop I
      refine va_newa (atype := at0) (N' := n.toNatClampNeg) (a0 := (n.toNatClampNeg, .inl (fun _ => 0))) C0.1 C0.2.1 (by rw [hty]; exact hts _ harr) hty C0.2.2.2.2.2.1 I.2.2.1 I.2.2.2.1 I.2.2.2.2.1 C0.2.2.2.2.2.2.2.1 (fun cB => by rw [hdv]; rfl) hn rfl ?_ hc hz hd (fun q0 cB H1 hK1 hP1 hD1 hS1 => ?_)
      · have := Nat.mul_le_mul hN hcb
        omega
      · have ec := zc_cA C0.2.2.2.2.2.1 hK1 (ht cA)
        subst ec
        have hk := kk _ H1 locs la (yk_new1 (e := .inr (t0, n.toNatClampNeg, .inl (fun _ => 0))) hI trivial hP1 hD1 hS1)
        rw [st_new hI] at hk
        exact hk
def yc_nq (t0 : Nat) : zc_X := fun (th, ct, st, hp, c, z) => match st with
  | .inl n :: r => bif (decide (0 ≤ n) && Nat.ble n.toNatClampNeg 100000) then some (none, th, ct, zc_r hp.length :: r, hp ++ [.inr (t0, n.toNatClampNeg, .inr (fun _ => none))], c + 1, z + n.toNatClampNeg) else none
  | _ => none
theorem yk_nq {t0 idx : Nat} {C : String} (hO : C ∈ zc_O) (ht : ∀ cA : Nat → ClassId, (z_ty cA)[t0]? = some (cA t0, .object C)) (hcl : Cond.classLink q.1.cls idx C ∈ z_U) (hd : decode q.2.1 pc = .ok (.anewarray idx, 3)) : zc_Sd l G cA D q pc (pc + 3) (yc_nq t0) := by
  refine ⟨?_, ?_⟩
  · rintro ⟨th, ct, _ | ⟨n | x | x, r⟩, hp, c, z⟩ j σ' h <;> first | cases h; done | skip
    simp only [yc_nq] at h
    cases hb : (decide (0 ≤ n) && Nat.ble n.toNatClampNeg 100000) with
    | false => rw [hb] at h; cases h
    | true =>
      rw [hb] at h
      cases h
      exact ⟨Nat.le_succ _, Nat.le_add_right _ _⟩
  · intro p e s m args below meth c Rm Q A n0 ad0 C0 σ j σ' h hc hz ad H locs la I kk
    obtain ⟨th, ct, _ | ⟨n | x | x, r⟩, hp, cc, z⟩ := σ <;> first | cases h; done | skip
    simp only [yc_nq] at h
    cases hb : (decide (0 ≤ n) && Nat.ble n.toNatClampNeg 100000) with
    | false => rw [hb] at h; cases h
    | true =>
      rw [hb] at h
      cases h
      obtain ⟨hb1, hb2⟩ := Bool.and_eq_true_iff.mp hb
      have hn : ¬ n < 0 := Int32.not_lt.mpr (of_decide_eq_true hb1)
      have hN := Nat.le_of_ble_eq_true hb2
      have hts := C0.2.2.2.2.1
      have hI := yk_pop I
      refine va_newq (C := C) (N' := n.toNatClampNeg) C0.1 C0.2.1 C0.2.2.2.1 (hts _ hcl) (C0.2.2.2.2.2.2.1.2.1 C hO) C0.2.2.2.2.2.1 I.2.2.1 I.2.2.2.1 I.2.2.2.2.1 C0.2.2.2.2.2.2.2.1 hn rfl (by omega) hc hz hd (fun q0 cB H1 hK1 hP1 hD1 hS1 => ?_)
      have ec := zc_cA C0.2.2.2.2.2.1 hK1 (ht cA)
      subst ec
      have hk := kk _ H1 locs la (yk_new1 (e := .inr (t0, n.toNatClampNeg, .inr (fun _ => none))) hI (fun j r h => by cases h) hP1 hD1 hS1)
      rw [st_new hI] at hk
      exact hk
end ZQ
