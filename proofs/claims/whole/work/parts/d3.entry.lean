/-! ===== the law's entry: two objects are made ===== -/
theorem zc_runs : ∃ (hp1 : zc_H) (c1 z1 : Nat) (hp2 : zc_H) (c2 z2 : Nat), zc_exec zc_TT 6 9 0 zc_hp0 = some (hp1, c1, z1) ∧ zc_exec zc_TT 6 10 hp1.length (hp1 ++ [.inl (10, zc_fs tyX10 30)]) = some (hp2, c2, z2) ∧ hp1.length = 185 ∧ zc_chk hp2 = true ∧ c1 + c2 ≤ 100000 ∧ z1 + z2 ≤ 1000000 := by
  have h := zc_all_ok
  unfold zc_all at h
  revert h
  cases h1 : zc_exec zc_TT 6 9 0 zc_hp0 with
  | none => intro h; cases h
  | some y =>
    obtain ⟨hp1, c1, z1⟩ := y
    dsimp only
    cases h2 : zc_exec zc_TT 6 10 hp1.length (hp1 ++ [.inl (10, zc_fs tyX10 30)]) with
    | none => intro h; cases h
    | some y2 =>
      obtain ⟨hp2, c2, z2⟩ := y2
      intro h
      have h : (Nat.beq hp1.length 185 && zc_chk hp2 && Nat.ble (c1 + c2) 100000 && Nat.ble (z1 + z2) 1000000) = true := h
      simp only [Bool.and_eq_true] at h
      exact ⟨hp1, c1, z1, hp2, c2, z2, rfl, h2, Nat.eq_of_beq_eq_true h.1.1.1, h.1.1.2, Nat.le_of_ble_eq_true h.1.2, Nat.le_of_ble_eq_true h.2⟩
theorem fs_re {n ci nf : Nat} {ty : Nat → FieldType} : zc_re n (Sum.inl (ci, zc_fs ty nf)) := by
  intro v hv
  obtain ⟨j, -, rfl⟩ := List.mem_map.mp hv
  exact df_rk
section ZW
variable {p : Program} {l : Launch} {e : Env} {s : State} {m : MethodId} {b : Nat} {below : List Frame} {meth : Method} {c : Code} {H : Heap} {locs : List Loc} {cells slots : Nat} {Q : State → Prop} {G : va_G} {cA : Nat → ClassId} {ad : Nat → Nat} {hp : zc_H} {la : Array Slot} {pc : Nat}
def zw_C (p : Program) (s : State) (m : MethodId) (c : Code) (b : Nat) (G : va_G) (cA : Nat → ClassId) : Prop := p.tables.exec = Jvm.exec ∧ c.code = code ∧ c.maxLocals = 4 ∧ s.vm.findClass "PaceStoreLaw" = some m.cls ∧ (∀ w ∈ z_U, w.before #[Value.ref b] s = true) ∧ va_K G vwCl (z_ty cA) s ∧ zc_F s
def zw_I (s : State) (G : va_G) (cA : Nat → ClassId) (ad : Nat → Nat) (hp : zc_H) (H : Heap) (locs : List Loc) : Prop := zc_wf hp ∧ va_P G vwCl (zc_w cA ad hp) H ∧ va_D (fun q : Nat => s.heap.size ≤ q) (zc_w cA ad hp) ∧ va_S (fun q : Nat => s.heap.size ≤ q) s.heap H locs
theorem zw_new {k ci nf idx : Nat} {C : String} {T : u_T} {ty : Nat → FieldType} {rest : List Value} (C0 : zw_C p s m c b G cA) (hC : z_Cl k ci nf C T) (hty : ∀ k, k < nf → parseFieldDescriptor (T k).2.2.1 = some (ty k)) (hdk : ∀ j, j < nf → zc_dk (ty j) = true) (hcl : Cond.classLink "PaceStoreLaw" idx C ∈ z_U) (hin : Cond.instantiable C nf ∈ z_U) (hini : Cond.initialized C ∈ z_U) (hd : decode code pc = .ok (.new idx, 3)) (I : zw_I s G cA ad hp H locs) (hc : cells + 1 ≤ room_1.cells) (hz : slots + nf ≤ room_1.slots)
    (kk : ∀ (q0 : Nat) (H1 : Heap), zw_I s G cA (zc_up ad hp.length q0) (hp ++ [.inl (ci, zc_fs ty nf)]) H1 locs → W p l e room_1 s m #[Value.ref b] below meth c H1 locs (cells + 1) (slots + nf) Q (F0 m (pc + 3) la (.ref q0 :: rest))) : W p l e room_1 s m #[Value.ref b] below meth c H locs cells slots Q (F0 m pc la rest) := by
  have hts := C0.2.2.2.2.1
  refine va_new (ci := ci) (fs := (zc_fs ty nf).map (zc_co ad)) (C := C) (T := T) (N := nf) C0.1 C0.2.1 hts hC.2.2.2 ty hty C0.2.2.2.1 (hts _ hcl) (hts _ hin) (hts _ hini) C0.2.2.2.2.2.1 I.2.1 I.2.2.1 I.2.2.2 (fun _ h => h) hC.2.2.1 (fun j hj => ?_) hc hz hd (fun q0 H1 hP1 hD1 hS1 => ?_)
  · unfold zc_fs vp_V
    rw [List.map_map, List.getD_eq_getElem?_getD, z_rg _ _ _ hj]
    exact df_ok (hdk j hj)
  · have e0 := w_push (cA := cA) (ad := ad) (q := q0) (e := Sum.inl (ci, zc_fs ty nf)) I.1 fs_re
    refine kk q0 H1 ⟨wf_push I.1 fs_re, ?_, ?_, hS1⟩
    · rw [e0]; exact hP1
    · rw [e0]; exact hD1
theorem zw_call {k idx i c1 z1 : Nat} {hp1 : zc_H} {r : List zc_V} (C0 : zw_C p s m c b G cA) (hk : zc_Ck mL_law (zc_mm k) idx) (hd : decode code pc = .ok (.invokespecial idx, 3)) (he : zc_exec zc_TT 6 k i hp = some (hp1, c1, z1)) (hi : i < hp.length) (I : zw_I s G cA ad hp H locs) (hla : la.size = 4) (hc : cells + c1 ≤ room_1.cells) (hz : slots + z1 ≤ room_1.slots) (hr : r.length ≤ 4)
    (kk : ∀ (ad1 : Nat → Nat) (H1 : Heap) (locs1 : List Loc), (∀ j, j < hp.length → ad1 j = ad j) → zw_I s G cA ad1 hp1 H1 locs1 → W p l e room_1 s m #[Value.ref b] below meth c H1 locs1 (cells + c1) (slots + z1) Q (F0 m (pc + 3) la (r.map (zc_co ad)))) : W p l e room_1 s m #[Value.ref b] below meth c H locs cells slots Q (F0 m pc la (.ref (ad i) :: r.map (zc_co ad))) := by
  obtain ⟨w1, w2, w3, w4, w5, w6, w7, w8⟩ := hk
  have hts := C0.2.2.2.2.1
  have hcon := zc_sound (l := l) (G := G) (cA := cA) zc_TT_ok zc_mm_ok 6 k i hp hp1 c1 z1 he
  have hM := hcon ad H.size I.1 hi
  have hK := C0.2.2.2.2.2.1
  have hAA : ∀ a, zc_A ad hp.length H.size a → s.heap.size ≤ a := by
    rintro a (⟨i', hi', rfl⟩ | w)
    · exact I.2.2.1.2 i' _ (w_lk (List.getElem?_eq_getElem hi'))
    · exact Nat.le_trans I.2.2.2.1 w
  have room : (zc_rm 6 c1 z1).frames + 1 ≤ room_1.frames ∧ 8 + ((zc_mm k).2.2.1 + 11) + (zc_rm 6 c1 z1).locals ≤ room_1.locals := by
    have := Nat.le_of_ble_eq_true w7
    show 6 + 1 + 1 ≤ 2048 ∧ 8 + ((zc_mm k).2.2.1 + 11) + 64 * (6 + 1) ≤ 84000
    omega
  have hpre : PreS s H (zc_Pre G cA ad H.size i hp) [.ref (ad i)] := ⟨fun a U g mk q => by
      obtain ⟨h1, h2, h3, h4, h5, h6⟩ := q
      exact ⟨h1, h2, h3, va_K.moved (u := U) (U := U.calling g mk a) (Vm.Alike.refl U.vm) h4, h5, zc_F.same (u := U) (U := U.calling g mk a) rfl h6⟩, fun U hU hW => ⟨rfl, by rw [hU], by rw [hU]; exact I.2.1, va_K.moved hW.alike hK, I.2.2.1.weaken (fun _ _ _ _ => trivial), C0.2.2.2.2.2.2.warm hW⟩⟩
  have hrun : va_Run p l e room_1 s m #[Value.ref b] below meth c H locs cells slots c1 z1 (F0 m pc la (.ref (ad i) :: r.map (zc_co ad))) (r.map (zc_co ad)) (zc_Post G cA ad H.size hp.length hp1 [.ref (ad i)].toArray) (zc_A ad hp.length H.size) := by
    rcases w1 with w1 | w1
    · have cb : CallB room_1 s #[Value.ref b] mL_law.1.cls idx (zc_mm k).1 (zc_mm k).2.1 (zc_mm k).2.2.1 none (z_ws (zc_mm k)) (zc_rm 6 c1 z1) c1 z1 0 := by
        have := callB_of (R := room_1) 0 hts (z_ws_in w3) rfl rfl rfl (hts _ w2) (hts _ w1) w6 room
        rw [w8] at this
        exact this
      exact va_runI (As := []) (rest := r.map (zc_co ad)) ⟨C0.1, C0.2.1, C0.2.2.1, C0.2.2.2.1, hts⟩ hM ⟨cb, w5, hts _ w4⟩ hpre rfl rfl hla rfl (lv_room (cs_room hr)) hd ⟨hc, hz⟩
    · have cb : va_CN room_1 s #[Value.ref b] mL_law.1.cls idx (zc_mm k).1 "PaceStore" (zc_mm k).2.1 (zc_mm k).2.2.1 none (z_ws (zc_mm k)) (zc_rm 6 c1 z1) c1 z1 0 := by
        have := va_cnB (R := room_1) 0 hts (z_ws_in w3) rfl rfl rfl (C0.2.2.2.2.2.2.1 _ w1) (hts _ w2) w6 room
        rw [w8] at this
        exact this
      exact va_runIN (As := []) (rest := r.map (zc_co ad)) ⟨C0.1, C0.2.1, C0.2.2.1, C0.2.2.2.1, hts⟩ hM ⟨cb, w5, hts _ w4⟩ hpre rfl rfl hla rfl (lv_room (cs_room hr)) hd ⟨hc, hz⟩
  refine va_callv hrun I.2.2.2 (fun a _ w => hAA a w) hAA (fun ad1 t H1 locs1 ht hvm hext hB hz1 hk1 hS1 => ?_)
  obtain ⟨hP1, hD1, hwf1, hlen1⟩ := hB
  rw [ht] at hP1
  exact kk ad1 H1 locs1 hext ⟨hwf1, hP1, hD1.weaken (fun _ x _ w => hAA x.1 w), hS1⟩
end ZW
theorem zw_k9 : zc_Ck mL_law (zc_mm 9) 9 := ⟨Or.inl u_109, u_88, u_111, u_110, rfl, by decide +kernel, rfl, rfl⟩
theorem zw_k10 : zc_Ck mL_law (zc_mm 10) 12 := ⟨Or.inl u_1105, u_99, u_1107, u_1106, rfl, by decide +kernel, rfl, rfl⟩
