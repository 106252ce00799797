/-! ===== the machine of numbers is right ===== -/
def zc_A (ad : Nat → Nat) (n sz : Nat) : Nat → Prop := fun a => (∃ i, i < n ∧ a = ad i) ∨ sz ≤ a
def zc_rm (d c z : Nat) : Room := { frames := d + 1, cells := c, slots := z, locals := 64 * (d + 1) }
def zc_Pre (G : va_G) (cA : Nat → ClassId) (ad : Nat → Nat) (sz i : Nat) (hp : zc_H) : Array Value → State → Prop := va_Pc [.ref (ad i)] (fun U => U.heap.size = sz ∧ va_P G vwCl (zc_w cA ad hp) U.heap ∧ va_K G vwCl (z_ty cA) U ∧ va_D (fun _ => True) (zc_w cA ad hp) ∧ zc_F U)
def zc_Post (G : va_G) (cA : Nat → ClassId) (ad : Nat → Nat) (sz n : Nat) (hp' : zc_H) : Array Value → State → Outcome → State → Prop := va_Qv (fun ad' : Nat → Nat => ∀ j, j < n → ad' j = ad j) (fun ad' t => va_P G vwCl (zc_w cA ad' hp') t.heap ∧ va_D (zc_A ad n sz) (zc_w cA ad' hp') ∧ zc_wf hp' ∧ n ≤ hp'.length) (zc_A ad n sz)
def zc_Con (l : Launch) (G : va_G) (cA : Nat → ClassId) (q : z_MI) (d i : Nat) (hp hp' : zc_H) (c z : Nat) : Prop := ∀ (ad : Nat → Nat) (sz : Nat), zc_wf hp → i < hp.length → Met l q.1 (z_ws q) (zc_rm d c z) (zc_Pre G cA ad sz i hp) (zc_Post G cA ad sz hp.length hp') c z (zc_A ad hp.length sz)
/-- what a call of a constructor asks of the words -/
def zc_Ck (q q' : z_MI) (idx : Nat) : Prop := (Cond.methodLink q.1.cls idx q'.1 ∈ z_U ∨ (q.1.cls, idx, q'.1, "PaceStore") ∈ zc_N) ∧ Cond.initialized q'.1.cls ∈ z_U ∧ Cond.code q'.1 q'.2.1 q'.2.2.1 q'.2.2.2 ∈ z_U ∧ Cond.instanceMethod q'.1 ∈ z_U ∧ q'.1.name = "<init>" ∧ (q'.1.cls ≠ "java/lang/invoke/MethodHandle" ∧ q'.1.cls ≠ "java/lang/invoke/VarHandle" ∧ (parseMethodDescriptor q'.1.desc).map (fun d => d.parameters.length) = some 0) ∧ Nat.ble q'.2.2.1 45 = true ∧ q'.2.2.2 = none
def zc_Rs (l : Launch) (G : va_G) (cA : Nat → ClassId) (D : Nat) (mm : Nat → z_MI) (q : z_MI) : zc_R → Prop
  | (pc, npc, .inl f) => zc_Sd l G cA D q pc npc f
  | (pc, npc, .inr (some k)) => npc = pc + 3 ∧ ∃ idx, zc_Ck q (mm k) idx ∧ decode q.2.1 pc = .ok (.invokespecial idx, 3)
  | (pc, _, .inr none) => decode q.2.1 pc = .ok (.return_, 1)
section ZL
variable {l : Launch} {G : va_G} {cA : Nat → ClassId} {D : Nat} {q : z_MI} {mm : Nat → z_MI} {T : List zc_R} {ex : Nat → Nat → zc_H → Option (zc_H × Nat × Nat)}
theorem zc_lm (hT : ∀ r ∈ T, zc_Rs l G cA D mm q r) : ∀ (u pc : Nat) (σ : zc_S) (hp' : zc_H) (c' z' : Nat), zc_loop ex T u pc σ = some (hp', c', z') → σ.2.2.2.2.1 ≤ c' ∧ σ.2.2.2.2.2 ≤ z' := by
  intro u
  induction u with
  | zero => intro pc σ hp' c' z' h; cases h
  | succ u ih =>
    intro pc σ hp' c' z' h
    unfold zc_loop at h
    cases ha : zc_at pc T with
    | none => rw [ha] at h; cases h
    | some x =>
      rw [ha] at h
      have hm := hT _ (at_mem ha)
      obtain ⟨npc, f | _ | k⟩ := x
      · simp only at h
        cases hf : f σ with
        | none => rw [hf] at h; cases h
        | some y =>
          rw [hf] at h
          obtain ⟨j, σ'⟩ := y
          have h1 := hm.1 σ j σ' hf
          have h2 := ih _ σ' hp' c' z' h
          exact ⟨Nat.le_trans h1.1 h2.1, Nat.le_trans h1.2 h2.2⟩
      · obtain ⟨th, ct, _ | ⟨v, r⟩, hp, c, z⟩ := σ
        · cases h
          exact ⟨Nat.le_refl _, Nat.le_refl _⟩
        · cases h
      · obtain ⟨th, ct, _ | ⟨x | x | _ | i, r⟩, hp, c, z⟩ := σ <;> first | cases h; done | skip
        simp only at h
        cases hb : (Nat.ble r.length 4 && Nat.blt i hp.length) with
        | false => rw [hb] at h; cases h
        | true =>
          rw [hb] at h
          cases he : ex k i hp with
          | none => rw [he] at h; cases h
          | some y =>
            rw [he] at h
            obtain ⟨hp1, c1, z1⟩ := y
            have h2 := ih npc (th, ct, r, hp1, c + c1, z + z1) hp' c' z' h
            exact ⟨Nat.le_trans (Nat.le_add_right _ _) h2.1, Nat.le_trans (Nat.le_add_right _ _) h2.2⟩
theorem zc_ls (hT : ∀ r ∈ T, zc_Rs l G cA D mm q r) (hex : ∀ k i hp hp' c z, ex k i hp = some (hp', c, z) → ∃ d, d < D ∧ zc_Con l G cA (mm k) d i hp hp' c z) {p : Program} {e : Env} {s : State} {m : MethodId} {args : Array Value} {below : List Frame} {meth : Method} {c : Code} {Rm : Room} {Q : State → Prop} {A : Nat → Prop} {n0 : Nat} {ad0 : Nat → Nat} (C0 : zc_MC G cA D q A p s m args meth c Rm) {hp' : zc_H} {c' z' : Nat} (hc : c' ≤ Rm.cells) (hz : z' ≤ Rm.slots)
    (hret : ∀ (pc : Nat) (ad' : Nat → Nat) (th : Nat) (ct : Option Int32) (H' : Heap) (locs' : List Loc) (la' : Array Slot), decode q.2.1 pc = .ok (.return_, 1) → zc_I G cA A q.2.2.1 s n0 ad0 ad' th ct [] hp' H' locs' la' → W p l e Rm s m args below meth c H' locs' c' z' Q (F0 m pc la' [])) :
    ∀ (u pc : Nat) (σ : zc_S), zc_loop ex T u pc σ = some (hp', c', z') → ∀ (ad : Nat → Nat) (H : Heap) (locs : List Loc) (la : Array Slot), zc_I G cA A q.2.2.1 s n0 ad0 ad σ.1 σ.2.1 σ.2.2.1 σ.2.2.2.1 H locs la → W p l e Rm s m args below meth c H locs σ.2.2.2.2.1 σ.2.2.2.2.2 Q (F0 m pc la (σ.2.2.1.map (zc_co ad))) := by
  intro u
  induction u with
  | zero => intro pc σ h; cases h
  | succ u ih =>
    intro pc σ h ad H locs la I
    have hmono := zc_lm (ex := ex) hT
    unfold zc_loop at h
    cases ha : zc_at pc T with
    | none => rw [ha] at h; cases h
    | some x =>
      rw [ha] at h
      have hm := hT _ (at_mem ha)
      obtain ⟨npc, f | _ | k⟩ := x
      · simp only at h
        cases hf : f σ with
        | none => rw [hf] at h; cases h
        | some y =>
          rw [hf] at h
          obtain ⟨j, σ'⟩ := y
          have hm2 := hmono u _ σ' hp' c' z' h
          exact hm.2 p e s m args below meth c Rm Q A n0 ad0 C0 σ j σ' hf (Nat.le_trans hm2.1 hc) (Nat.le_trans hm2.2 hz) ad H locs la I (fun ad' H' locs' la' I' => ih _ σ' h ad' H' locs' la' I')
      · obtain ⟨th, ct, _ | ⟨v, r⟩, hp, cc, z⟩ := σ
        · cases h
          exact hret pc ad th ct H locs la hm I
        · cases h
      · obtain ⟨th, ct, _ | ⟨x | x | _ | i, r⟩, hp, cc, z⟩ := σ <;> first | cases h; done | skip
        simp only at h
        cases hb : (Nat.ble r.length 4 && Nat.blt i hp.length) with
        | false => rw [hb] at h; cases h
        | true =>
          rw [hb] at h
          obtain ⟨hb1, hb2⟩ := Bool.and_eq_true_iff.mp hb
          have hr := Nat.le_of_ble_eq_true hb1
          have hi : i < hp.length := Nat.le_of_ble_eq_true hb2
          cases he : ex k i hp with
          | none => rw [he] at h; cases h
          | some y =>
            rw [he] at h
            obtain ⟨hp1, c1, z1⟩ := y
            have h : zc_loop ex T u npc (th, ct, r, hp1, cc + c1, z + z1) = some (hp', c', z') := h
            have hm2 := hmono u npc (th, ct, r, hp1, cc + c1, z + z1) hp' c' z' h
            obtain ⟨d, hdD, hcon⟩ := hex k i hp hp1 c1 z1 he
            obtain ⟨rfl, idx, ⟨w1, w2, w3, w4, w5, w6, w7, w8⟩, hd⟩ := hm
            have hI : zc_I G cA A q.2.2.1 s n0 ad0 ad th ct r hp H locs la := yk_pop I
            have hts := C0.2.2.2.2.1
            have hM := hcon ad H.size hI.1.1 hi
            have hK := C0.2.2.2.2.2.1
            have hAA : ∀ a, zc_A ad hp.length H.size a → A a := by
              rintro a (⟨i', hi', rfl⟩ | w)
              · exact hI.2.2.2.1.2 i' _ (w_lk (List.getElem?_eq_getElem hi'))
              · exact C0.2.2.2.2.2.2.2.1 a (Nat.le_trans hI.2.2.2.2.1.1 w)
            have room : (zc_rm d c1 z1).frames + 1 ≤ Rm.frames ∧ 8 + ((mm k).2.2.1 + 11) + (zc_rm d c1 z1).locals ≤ Rm.locals := by
              obtain ⟨r1, r2⟩ := C0.2.2.2.2.2.2.2.2.2
              have := Nat.le_of_ble_eq_true w7
              show d + 1 + 1 ≤ _ ∧ 8 + ((mm k).2.2.1 + 11) + 64 * (d + 1) ≤ _
              omega
            have hpre : PreS s H (zc_Pre G cA ad H.size i hp) [.ref (ad i)] := ⟨fun a U g mk q => by
                obtain ⟨h1, h2, h3, h4, h5, h6⟩ := q
                exact ⟨h1, h2, h3, va_K.moved (u := U) (U := U.calling g mk a) (Vm.Alike.refl U.vm) h4, h5, zc_F.same (u := U) (U := U.calling g mk a) rfl h6⟩, fun U hU hW => ⟨rfl, by rw [hU], by rw [hU]; exact hI.2.2.1, va_K.moved hW.alike hK, hI.2.2.2.1.weaken (fun _ _ _ _ => trivial), C0.2.2.2.2.2.2.1.warm hW⟩⟩
            have hrun : va_Run p l e Rm s m args below meth c H locs cc z c1 z1 (F0 m pc la (.ref (ad i) :: r.map (zc_co ad))) (r.map (zc_co ad)) (zc_Post G cA ad H.size hp.length hp1 [.ref (ad i)].toArray) (zc_A ad hp.length H.size) := by
              rcases w1 with w1 | w1
              · have cb : CallB Rm s args q.1.cls idx (mm k).1 (mm k).2.1 (mm k).2.2.1 none (z_ws (mm k)) (zc_rm d c1 z1) c1 z1 0 := by
                  have := callB_of (R := Rm) 0 hts (z_ws_in w3) rfl rfl rfl (hts _ w2) (hts _ w1) w6 room
                  rw [w8] at this
                  exact this
                exact va_runI (As := []) (rest := r.map (zc_co ad)) ⟨C0.1, C0.2.1, C0.2.2.1, C0.2.2.2.1, hts⟩ hM ⟨cb, w5, hts _ w4⟩ hpre rfl rfl hI.2.2.2.2.2.1 rfl (lv_room (cs_room hr)) hd ⟨Nat.le_trans hm2.1 hc, Nat.le_trans hm2.2 hz⟩
              · have cb : va_CN Rm s args q.1.cls idx (mm k).1 "PaceStore" (mm k).2.1 (mm k).2.2.1 none (z_ws (mm k)) (zc_rm d c1 z1) c1 z1 0 := by
                  have := va_cnB (R := Rm) 0 hts (z_ws_in w3) rfl rfl rfl (C0.2.2.2.2.2.2.1.1 _ w1) (hts _ w2) w6 room
                  rw [w8] at this
                  exact this
                exact va_runIN (As := []) (rest := r.map (zc_co ad)) ⟨C0.1, C0.2.1, C0.2.2.1, C0.2.2.2.1, hts⟩ hM ⟨cb, w5, hts _ w4⟩ hpre rfl rfl hI.2.2.2.2.2.1 rfl (lv_room (cs_room hr)) hd ⟨Nat.le_trans hm2.1 hc, Nat.le_trans hm2.2 hz⟩
            refine va_callv hrun hI.2.2.2.2.1 (fun a _ w => hAA a w) hAA (fun ad1 t H1 locs1 ht hvm hext hB hz1 hk1 hS1 => ?_)
            obtain ⟨hP1, hD1, hwf1, hlen1⟩ := hB
            rw [ht] at hP1
            have I1 : zc_I G cA A q.2.2.1 s n0 ad0 ad1 th ct r hp1 H1 locs1 la := ⟨⟨hwf1, fun v hv => rk_le hlen1 (hI.1.2.1 v hv), Nat.lt_of_lt_of_le hI.1.2.2 hlen1⟩, ⟨fun i' hi' => (hext i' (Nat.lt_of_lt_of_le hi' hI.2.1.2)).trans (hI.2.1.1 i' hi'), Nat.le_trans hI.2.1.2 hlen1⟩, hP1, hD1.weaken (fun _ x _ w => hAA x.1 w), hS1, by rw [ll_ext (hext th hI.1.2.2)]; exact hI.2.2.2.2.2⟩
            have hk := ih (pc + 3) (th, ct, r, hp1, cc + c1, z + z1) h ad1 H1 locs1 la I1
            dsimp only at hk
            rw [st_ext hext hI.1.2.1] at hk
            exact hk
end ZL
/-- a constructor's contract out of its run -/
theorem zc_sound {l : Launch} {G : va_G} {cA : Nat → ClassId} {mm : Nat → z_MI} {TT : Nat → List zc_R} (hTT : ∀ D, 0 < D → ∀ k, ∀ r ∈ TT k, zc_Rs l G cA D mm (mm k) r) (hmm : ∀ k, plainName (mm k).1.cls = true ∧ (mm k).1.name = "<init>" ∧ (mm k).2.2.2 = none ∧ Nat.ble 1 (mm k).2.2.1 = true) : ∀ (d k i : Nat) (hp hp' : zc_H) (c z : Nat), zc_exec TT d k i hp = some (hp', c, z) → zc_Con l G cA (mm k) d i hp hp' c z := by
  intro d
  induction d with
  | zero => intro k i hp hp' c z h; cases h
  | succ d ih =>
    intro k i hp hp' c z h ad sz hwf hi
    have h : zc_loop (zc_exec TT d) (TT k) 2000 0 (i, none, [], hp, 0, 0) = some (hp', c, z) := h
    obtain ⟨m1, m2, m3, m4⟩ := hmm k
    refine Met.ofW (cc := (mm k).2.1) (maxL := (mm k).2.2.1) (ret := none) m1 (by unfold z_ws; rw [m3]) ?_
    intro p e s m args below meth cc s₁ B hml hv
    obtain ⟨rfl, hsz, hP, hK, hD0, hF⟩ := hv
    have hts0 := atoms_spec (ws := z_ws (mm k)) B.pre
    have hlocks := B.notSynchronized
    have hr := B.returns
    have hb := B.bytes
    have hx := B.exec
    have hin : meth.name = "<init>" := ((name_of_methodNamed B.named B.method).1).trans m2
    subst hsz
    have hl := lv_entry ([.ref (ad i)]) (n := (mm k).2.2.1) (Nat.le_of_ble_eq_true m4)
    rw [lg_entry_eq]
    generalize (lg_sl ([.ref (ad i)]) ++ List.replicate ((mm k).2.2.1 - (lg_sl ([.ref (ad i)])).length) Slot.unset).toArray = ls at hl ⊢
    have C0 : zc_MC G cA (d + 1) (mm k) (zc_A ad hp.length s.heap.size) p s m _ meth cc (zc_rm (d + 1) c z) := ⟨hx, hb, hml, findClass_of_methodNamed B.named, fun w hw => hts0 w (List.mem_cons_of_mem _ hw), hK, hF, fun a ha => Or.inr ha, hin, ⟨Nat.le_refl _, Nat.le_refl _⟩⟩
    have I0 : zc_I G cA (zc_A ad hp.length s.heap.size) (mm k).2.2.1 s hp.length ad ad i none [] hp s.heap [] ls := ⟨⟨hwf, (fun v hv => absurd hv List.not_mem_nil), hi⟩, ⟨fun _ _ => rfl, Nat.le_refl _⟩, hP, ⟨hD0.1, fun j x hx => by
      obtain ⟨e1, he1, rfl⟩ := w_inv hx
      exact Or.inl ⟨j, (List.getElem?_eq_some_iff.mp he1).1, rfl⟩⟩, va_S.rf, hl⟩
    refine zc_ls (hTT (d + 1) (Nat.succ_pos d) k) (fun k' i' hp1 hp2 c1 z1 h1 => ⟨d, Nat.lt_succ_self d, ih k' i' hp1 hp2 c1 z1 h1⟩) C0 (Nat.le_refl _) (Nat.le_refl _) ?_ 2000 0 (i, none, [], hp, 0, 0) h ad s.heap [] ls I0
    intro pc ad' th ct H' locs' la' hd I'
    exact W.vret hx hb hr (fun t ht hW => ⟨⟨ad', rfl, I'.2.1.1, by rw [ht]; exact I'.2.2.1, I'.2.2.2.1, I'.1.1, I'.2.1.2⟩, I'.2.2.2.2.1.F ht⟩) I'.2.2.2.2.1.2.2 hd
