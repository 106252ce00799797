/-! ===== constructors: rows of rows; secondsBy ===== -/
theorem arrV_c {c : ClassId} {N : Nat} {f g : Nat → Value} (h : ∀ j, j < N → f j = g j) : arrV c N f = arrV c N g := by
  unfold arrV
  congr 1
  apply Array.ext
  · simp
  · intro i h1 h2
    simp only [Array.getElem_ofFn]
    exact h i (by simpa using h1)
section ZS
variable {l : Launch} {G : va_G} {cA : Nat → ClassId} {D : Nat} {q : z_MI} {pc : Nat}
def zc_out (len N : Nat) : zc_E := .inr (7, N, .inr (fun j => bif Nat.blt j N then some (len + 1 + j) else none))
def zc_inn (K : Nat) : zc_E := .inr (0, K, .inl (fun _ => 0))
def yc_nm : zc_X := fun (th, ct, st, hp, c, z) => match st with
  | .inl k :: .inl n :: r => bif (decide (0 ≤ n) && decide (0 ≤ k) && (Nat.ble n.toNatClampNeg 1000 && Nat.ble k.toNatClampNeg 1000)) then some (none, th, ct, zc_r hp.length :: r, hp ++ (zc_out hp.length n.toNatClampNeg :: List.replicate n.toNatClampNeg (zc_inn k.toNatClampNeg)), c + (1 + n.toNatClampNeg), z + (n.toNatClampNeg + n.toNatClampNeg * k.toNatClampNeg)) else none
  | _ => none
theorem nm_inv {σ : zc_S} {j : Option Nat} {σ' : zc_S} (h : yc_nm σ = some (j, σ')) : ∃ th ct k n r hp c z, σ = (th, ct, .inl k :: .inl n :: r, hp, c, z) ∧ 0 ≤ n ∧ 0 ≤ k ∧ n.toNatClampNeg ≤ 1000 ∧ k.toNatClampNeg ≤ 1000 ∧ j = none ∧ σ' = (th, ct, zc_r hp.length :: r, hp ++ (zc_out hp.length n.toNatClampNeg :: List.replicate n.toNatClampNeg (zc_inn k.toNatClampNeg)), c + (1 + n.toNatClampNeg), z + (n.toNatClampNeg + n.toNatClampNeg * k.toNatClampNeg)) := by
  obtain ⟨th, ct, st, hp, c, z⟩ := σ
  rcases st with _ | ⟨k | k | k, _ | ⟨n | n | n, r⟩⟩ <;> first | cases h; done | skip
  simp only [yc_nm] at h
  cases hb : (decide (0 ≤ n) && decide (0 ≤ k) && (Nat.ble n.toNatClampNeg 1000 && Nat.ble k.toNatClampNeg 1000)) with
  | false => rw [hb] at h; cases h
  | true =>
    rw [hb] at h
    cases h
    obtain ⟨hb1, hb2⟩ := Bool.and_eq_true_iff.mp hb
    obtain ⟨hb3, hb4⟩ := Bool.and_eq_true_iff.mp hb1
    obtain ⟨hb5, hb6⟩ := Bool.and_eq_true_iff.mp hb2
    exact ⟨th, ct, k, n, r, hp, c, z, rfl, of_decide_eq_true hb3, of_decide_eq_true hb4, Nat.le_of_ble_eq_true hb5, Nat.le_of_ble_eq_true hb6, rfl, rfl⟩
def zc_ua (ad : Nat → Nat) (len h : Nat) : Nat → Nat := fun i => if i < len then ad i else h + (i - len)
theorem w_inv {ad : Nat → Nat} {hp : zc_H} {k : Nat} {x : Nat × va_E} (h : (zc_w cA ad hp)[k]? = some x) : ∃ e, hp[k]? = some e ∧ x = (ad k, zc_en cA ad e) := by
  unfold zc_w at h
  rw [List.getElem?_mapIdx] at h
  cases he : hp[k]? with
  | none => rw [he] at h; cases h
  | some e =>
    rw [he] at h
    exact ⟨e, rfl, (Option.some.inj h).symm⟩
theorem yk_nm {idx : Nat} (hcl : Cond.classLink q.1.cls idx "[[I" ∈ z_U) (harr : Cond.arrayClass .int ∈ z_U) (hd : decode q.2.1 pc = .ok (.multianewarray idx 2, 4)) : zc_Sd l G cA D q pc (pc + 4) yc_nm := by
  refine ⟨fun σ j σ' h => ?_, ?_⟩
  · obtain ⟨th, ct, k, n, r, hp, c, z, rfl, -, -, -, -, -, rfl⟩ := nm_inv h
    exact ⟨Nat.le_add_right _ _, Nat.le_add_right _ _⟩
  · intro p e s m args below meth c Rm Q A n0 ad0 C0 σ j σ' h hc hz ad H locs la I kk
    obtain ⟨th, ct, k, n, r, hp, cc, z, rfl, hn, hk, hN, hK, rfl, rfl⟩ := nm_inv h
    have hts := C0.2.2.2.2.1
    have hI : zc_I G cA A q.2.2.1 s n0 ad0 ad th ct r hp H locs la := yk_pop (yk_pop I)
    have hKt := C0.2.2.2.2.2.1
    refine zm_W (g := F0 m pc la _) C0.1 C0.2.1 C0.2.2.2.1 (hts _ hcl) (C0.2.2.2.2.2.2.1.2.2 args) (hts _ harr) rfl hd rfl (Int32.not_lt.mpr hn) (Int32.not_lt.mpr hk) rfl rfl (by omega) (by omega) hc hz (fun cX cB H1 locs1 f1 f2 z1 o1 i1 old1 hl1 => ?_)
    have eX : cX = cA 7 := Option.some.inj (f1.symm.trans (hKt.2 7 _ rfl).2)
    have eB : cB = cA 0 := Option.some.inj (f2.symm.trans (hKt.2 0 _ rfl).2)
    subst eX
    subst eB
    generalize n.toNatClampNeg = N at *
    generalize k.toNatClampNeg = K at *
    have hlen : (hp ++ (zc_out hp.length N :: List.replicate N (zc_inn K))).length = hp.length + (1 + N) := by
      simp
      omega
    have lk : ∀ k e, (hp ++ (zc_out hp.length N :: List.replicate N (zc_inn K)))[k]? = some e → (k < hp.length ∧ hp[k]? = some e) ∨ (k = hp.length ∧ e = zc_out hp.length N) ∨ (hp.length < k ∧ k < hp.length + 1 + N ∧ e = zc_inn K) := by
      intro k e he
      by_cases w : k < hp.length
      · rw [List.getElem?_append_left w] at he
        exact Or.inl ⟨w, he⟩
      · rw [List.getElem?_append_right (by omega)] at he
        by_cases w2 : k = hp.length
        · rw [w2, Nat.sub_self] at he
          exact Or.inr (Or.inl ⟨w2, (Option.some.inj he).symm⟩)
        · obtain ⟨d, hd'⟩ : ∃ d, k - hp.length = d + 1 := ⟨k - hp.length - 1, by omega⟩
          rw [hd', List.getElem?_cons_succ, List.getElem?_replicate] at he
          by_cases w3 : d < N
          · rw [if_pos w3] at he
            exact Or.inr (Or.inr ⟨by omega, by omega, (Option.some.inj he).symm⟩)
          · rw [if_neg w3] at he
            cases he
    have uo : ∀ i, i < hp.length → zc_ua ad hp.length H.size i = ad i := fun i hi => if_pos hi
    have un : ∀ i, ¬ i < hp.length → zc_ua ad hp.length H.size i = H.size + (i - hp.length) := fun i hi => if_neg hi
    have oldlt : ∀ i, i < hp.length → ad i < H.size := by
      intro i hi
      have := (hI.2.2.1 i _ (w_lk (List.getElem?_eq_getElem hi))).lt
      exact this
    have hwf : zc_wf (hp ++ (zc_out hp.length N :: List.replicate N (zc_inn K))) := by
      intro e he
      rw [hlen]
      rcases List.mem_append.mp he with g | g
      · exact re_le (by omega) (hI.1.1 e g)
      · rcases List.mem_cons.mp g with g | g
        · rw [g]
          intro j r' hj
          have hj : (bif Nat.blt j N then some (hp.length + 1 + j) else none) = some r' := hj
          cases hb : Nat.blt j N with
          | false => rw [hb] at hj; cases hj
          | true =>
            rw [hb] at hj
            cases hj
            have : j < N := Nat.le_of_ble_eq_true hb
            omega
        · rw [(List.mem_replicate.mp g).2]
          trivial
    have hP1 : va_P G vwCl (zc_w cA (zc_ua ad hp.length H.size) (hp ++ (zc_out hp.length N :: List.replicate N (zc_inn K)))) H1 := by
      intro k x hx
      obtain ⟨e, he, rfl⟩ := w_inv hx
      rcases lk k e he with ⟨w, g⟩ | ⟨w, g⟩ | ⟨w, w2, g⟩
      · rw [uo k w, en_ext uo (hI.1.1 e (List.mem_of_getElem? g))]
        have q1 := hI.2.2.1 k _ (w_lk g)
        exact q1.kept (old1 _ q1.lt)
      · subst g
        rw [w, un hp.length (by omega), Nat.sub_self, Nat.add_zero]
        show H1[H.size]? = some (vp_cell (cA 7) (N, _))
        rw [vp_cell_q, o1]
        refine congrArg some (arrV_c (fun j hj => ?_))
        have hb : Nat.blt j N = true := Nat.ble_eq_true_of_le hj
        show Value.ref (H.size + 1 + j) = va_rf ((bif Nat.blt j N then some (hp.length + 1 + j) else none).map (zc_ua ad hp.length H.size))
        rw [hb]
        show Value.ref (H.size + 1 + j) = Value.ref (zc_ua ad hp.length H.size (hp.length + 1 + j))
        rw [un _ (by omega), show H.size + (hp.length + 1 + j - hp.length) = H.size + 1 + j by omega]
      · subst g
        rw [un k (by omega), show H.size + (k - hp.length) = H.size + 1 + (k - hp.length - 1) by omega]
        exact i1 (k - hp.length - 1) (by omega)
    have hD1 : va_D A (zc_w cA (zc_ua ad hp.length H.size) (hp ++ (zc_out hp.length N :: List.replicate N (zc_inn K)))) := by
      refine ⟨fun i j x y hx hy hxy => ?_, fun k x hx => ?_⟩
      · obtain ⟨e1, he1, rfl⟩ := w_inv hx
        obtain ⟨e2, he2, rfl⟩ := w_inv hy
        have hxy : zc_ua ad hp.length H.size i = zc_ua ad hp.length H.size j := hxy
        by_cases w1 : i < hp.length <;> by_cases w2 : j < hp.length
        · rw [uo i w1, uo j w2] at hxy
          exact hI.2.2.2.1.1 i j _ _ (w_lk (List.getElem?_eq_getElem w1)) (w_lk (List.getElem?_eq_getElem w2)) hxy
        · rw [uo i w1, un j w2] at hxy
          have := oldlt i w1
          omega
        · rw [un i w1, uo j w2] at hxy
          have := oldlt j w2
          omega
        · rw [un i w1, un j w2] at hxy
          omega
      · obtain ⟨e1, he1, rfl⟩ := w_inv hx
        show A (zc_ua ad hp.length H.size k)
        by_cases w : k < hp.length
        · rw [uo k w]
          exact hI.2.2.2.1.2 k _ (w_lk (List.getElem?_eq_getElem w))
        · rw [un k w]
          exact C0.2.2.2.2.2.2.2.1 _ (Nat.le_trans hI.2.2.2.2.1.1 (Nat.le_add_right _ _))
    have hS1 : va_S A s.heap H1 locs1 := by
      refine ⟨by rw [z1]; have := hI.2.2.2.2.1.1; omega, fun x h1 h2 => ?_, fun x hx => ?_⟩
      · rw [old1 x (Nat.lt_of_lt_of_le h1 hI.2.2.2.2.1.1)]
        exact hI.2.2.2.2.1.2.1 x h1 h2
      · rcases hl1 x hx with g | g
        · exact hI.2.2.2.2.1.2.2 x g
        · exact C0.2.2.2.2.2.2.2.1 _ (Nat.le_trans hI.2.2.2.2.1.1 g)
    have hk := kk (zc_ua ad hp.length H.size) H1 locs1 la ⟨⟨hwf, fun v hv => ?_, by rw [hlen]; have := hI.1.2.2; omega⟩, ⟨fun i hi => ?_, by rw [hlen]; have := hI.2.1.2; omega⟩, hP1, hD1, hS1, by rw [ll_ext (uo th hI.1.2.2)]; exact hI.2.2.2.2.2⟩
    · have es : (zc_r hp.length :: r).map (zc_co (zc_ua ad hp.length H.size)) = .ref H.size :: r.map (zc_co ad) := by
        show Value.ref (zc_ua ad hp.length H.size hp.length) :: r.map (zc_co (zc_ua ad hp.length H.size)) = _
        rw [un hp.length (by omega), Nat.sub_self, Nat.add_zero, st_ext uo hI.1.2.1]
      dsimp only at hk
      rw [es] at hk
      exact hk
    · rw [hlen]
      rcases List.mem_cons.mp hv with g | g
      · rw [g]
        show hp.length < _
        omega
      · exact rk_le (by omega) (hI.1.2.1 v g)
    · rw [uo i (Nat.lt_of_lt_of_le hi hI.2.1.2)]
      exact hI.2.1.1 i hi
end ZS
