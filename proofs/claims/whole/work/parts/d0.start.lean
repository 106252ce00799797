/-! ===== what the constructors made is the memory at the start ===== -/
def zc_kb (v : z_V) : Bool := match v with
  | .inr (.inr (a, _)) => Nat.blt a 64
  | _ => true
def zc_k64 : Bool := z_pl.all (fun q => match z_kd q.1 with
  | (0, _, nf, _, _, _) => (List.range nf).all (fun f => zc_kb (z_fv q.1 f q.2 z_M0))
  | (2, _, _, a, _, _) => Nat.blt a 64
  | _ => true)
theorem zc_k64_ok : zc_k64 = true := by decide +kernel
theorem zc_p64 : z_pl.all (fun q => Nat.blt q.1 64) = true := by decide +kernel
theorem ckv_co {ad : Nat → Nat} {ad2 : Nat → Nat → Nat} (hX : ∀ k i, k < 64 → ad2 k i = ad (zc_ix k i)) {v : z_V} {o : Option zc_V} (h : zc_ckv v o = true) (hb : zc_kb v = true) : ∃ w, o = some w ∧ zc_co ad w = z_co ad2 v := by
  rcases v with x | x | ⟨a, b⟩
  · rcases o with _ | y | y | _ | y <;> first | cases h; done | skip
    refine ⟨_, rfl, ?_⟩
    exact congrArg Value.int (of_decide_eq_true h).symm
  · rcases o with _ | y | y | _ | y <;> first | cases h; done | skip
    refine ⟨_, rfl, ?_⟩
    exact congrArg Value.long (of_decide_eq_true h).symm
  · rcases o with _ | y | y | _ | y <;> first | cases h; done | skip
    refine ⟨_, rfl, ?_⟩
    have e : y = zc_ix a b := Nat.eq_of_beq_eq_true h
    have h6 : a < 64 := by
      have := Nat.le_of_ble_eq_true (show Nat.ble (a + 1) 64 = true from hb)
      omega
    show Value.ref (ad y) = Value.ref (ad2 a b)
    rw [hX a b h6, e]
theorem zc_P0 {X : z_Cx} {hp : zc_H} {ad : Nat → Nat} {G : va_G} {H : Heap} (hX : ∀ k i, k < 64 → X.2.2.1 k i = ad (zc_ix k i)) (hc : zc_chk hp = true) (h : va_P G vwCl (zc_w X.2.2.2.1 ad hp) H) : va_P G vwCl (z_w X z_M0) H := by
  intro k0 q hk
  unfold z_w at hk
  rw [List.getElem?_map] at hk
  cases hr : z_pl[k0]? with
  | none => rw [hr] at hk; cases hk
  | some r =>
    rw [hr] at hk
    obtain rfl := Option.some.inj hk
    have hm := List.mem_of_getElem? hr
    have h1 := List.all_eq_true.mp hc r hm
    have h2 := List.all_eq_true.mp zc_k64_ok r hm
    obtain ⟨k, i⟩ := r
    have h64 : k < 64 := by
      have := Nat.le_of_ble_eq_true (show Nat.ble (k + 1) 64 = true from List.all_eq_true.mp zc_p64 (k, i) hm)
      omega
    cases he : hp[zc_ix k i]? with
    | none => simp only [he] at h1; cases h1
    | some e =>
      simp only [he] at h1
      have h3 := h _ _ (w_lk (cA := X.2.2.2.1) (ad := ad) he)
      unfold z_en
      unfold zc_ck1 at h1
      simp only at h2 ⊢
      rw [hX k i h64]
      rcases e with ⟨cj, fs⟩ | ⟨t1, n1, f | g⟩ <;> rcases hz : z_kd k with ⟨_ | _ | _ | t, a, b, c, d, e⟩ <;> simp only [hz] at h1 h2 ⊢ <;> first | cases h1; done | skip
      · obtain ⟨h4, h5⟩ := Bool.and_eq_true_iff.mp h1
        obtain ⟨h6, h7⟩ := Bool.and_eq_true_iff.mp h4
        obtain rfl := Nat.eq_of_beq_eq_true h6
        have hl : fs.length = b := Nat.eq_of_beq_eq_true h7
        have e0 : fs.map (zc_co ad) = (List.range b).map (fun f => z_co X.2.2.1 (z_fv k f i z_M0)) := by
          apply List.ext_getElem?
          intro j
          rw [List.getElem?_map, List.getElem?_map]
          by_cases hj : j < b
          · rw [List.getElem?_range hj]
            obtain ⟨w, o1, o2⟩ := ckv_co hX (List.all_eq_true.mp h5 j (List.mem_range.mpr hj)) (List.all_eq_true.mp h2 j (List.mem_range.mpr hj))
            rw [o1]
            exact congrArg some o2
          · rw [List.getElem?_eq_none (by omega), List.getElem?_eq_none (by simp; omega)]
            rfl
        rw [← e0]
        exact h3
      · obtain ⟨h4, h5⟩ := Bool.and_eq_true_iff.mp h1
        obtain ⟨h6, h7⟩ := Bool.and_eq_true_iff.mp h4
        obtain rfl := Nat.eq_of_beq_eq_true h6
        obtain rfl := Nat.eq_of_beq_eq_true h7
        refine Eq.trans h3 (congrArg some ?_)
        show vp_cell _ (_, .inl f) = vp_cell _ (_, .inl _)
        rw [vp_cell_i, vp_cell_i]
        exact arrV_c (fun j hj => congrArg Value.int (of_decide_eq_true (List.all_eq_true.mp h5 j (List.mem_range.mpr hj))))
      · obtain ⟨h4, h5⟩ := Bool.and_eq_true_iff.mp h1
        obtain ⟨h6, h7⟩ := Bool.and_eq_true_iff.mp h4
        obtain rfl := Nat.eq_of_beq_eq_true h6
        obtain rfl := Nat.eq_of_beq_eq_true h7
        refine Eq.trans h3 (congrArg some ?_)
        show vp_cell _ (_, .inr (.inr (.inr (.inr _)))) = vp_cell _ (_, .inr (.inr (.inr (.inr _))))
        rw [vp_cell_q, vp_cell_q]
        refine arrV_c (fun j hj => congrArg va_rf ?_)
        have h8 : g j = some (zc_ix c (d * i + e + j)) := of_decide_eq_true (List.all_eq_true.mp h5 j (List.mem_range.mpr hj))
        have h9 : c < 64 := by
          have := Nat.le_of_ble_eq_true (show Nat.ble (c + 1) 64 = true from h2)
          omega
        rw [h8, hX c _ h9]
        rfl
theorem zc_at0 {hp : zc_H} (hc : zc_chk hp = true) {q : Nat × Nat} (hq : q ∈ z_pl) : ∃ e, hp[zc_ix q.1 q.2]? = some e := by
  have h1 := List.all_eq_true.mp hc q hq
  cases he : hp[zc_ix q.1 q.2]? with
  | none => simp only [he] at h1; cases h1
  | some e => exact ⟨e, rfl⟩
theorem zc_l64 {q : Nat × Nat} (hq : q ∈ z_pl) : q.1 < 64 := by
  have := Nat.le_of_ble_eq_true (show Nat.ble (q.1 + 1) 64 = true from List.all_eq_true.mp zc_p64 q hq)
  omega
theorem zc_inj0 {X : z_Cx} {hp : zc_H} {ad : Nat → Nat} {A : Nat → Prop} (hX : ∀ k i, k < 64 → X.2.2.1 k i = ad (zc_ix k i)) (hc : zc_chk hp = true) (hD : va_D A (zc_w X.2.2.2.1 ad hp)) : z_inj X := by
  intro q hq r hr h
  obtain ⟨e1, h1⟩ := zc_at0 hc hq
  obtain ⟨e2, h2⟩ := zc_at0 hc hr
  rw [hX _ _ (zc_l64 hq), hX _ _ (zc_l64 hr)] at h
  have h3 := hD.1 _ _ _ _ (w_lk (cA := X.2.2.2.1) (ad := ad) h1) (w_lk (cA := X.2.2.2.1) (ad := ad) h2) h
  have h4 := zc_ix_inj q hq
  rw [h3, zc_ix_inj r hr] at h4
  exact h4.symm
theorem zc_A0 {X : z_Cx} {hp : zc_H} {ad : Nat → Nat} {A : Nat → Prop} (hX : ∀ k i, k < 64 → X.2.2.1 k i = ad (zc_ix k i)) (hc : zc_chk hp = true) (hD : va_D A (zc_w X.2.2.2.1 ad hp)) {a : Nat} (h : z_A X a) : A a := by
  obtain ⟨q, hq, rfl⟩ := h
  obtain ⟨e1, h1⟩ := zc_at0 hc hq
  rw [hX _ _ (zc_l64 hq)]
  exact hD.2 _ _ (w_lk (cA := X.2.2.2.1) (ad := ad) h1)
