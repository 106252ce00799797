/-! ===== calls that leave the relation's memory as it is ===== -/
theorem ru_in {n r : Nat} {ru : Int32} (h : r < n) (hn : n ≤ 12) (e : ru = nI r) : pu_ru n ru := by
  rw [e]
  exact ru_nI h hn
theorem vk_no {L : List Nat} (hL : ∀ k ∈ L, ¬ z_vk k) {k : Nat} (w : z_vk k) : k ∉ L := fun h => hL k h w
theorem Rel_2 {M M1 M2 : z_M} {len nm nr nb : Nat} {l : List Int32} {L J K : List Nat} (hC : z_Ci M.1 len nm nr nb l) (hM : z_Mo M.1 len nm nr nb l M) (h1 : z_Fr L M M1) (hL : ∀ k ∈ L, ¬ z_vk k) (hL2 : ∀ k ∈ L, k < 46 ∧ k ≠ 0) (h2 : z_Fm J K M1 M2) (hJ : ∀ j ∈ J, ¬ (j = 5 ∨ j = 6 ∨ j = 7 ∨ j = 29)) (hK : ∀ k ∈ K, 55 < k ∧ k < 63) : z_Rel M2 := by
  have a1 : ∀ k, (k < 46 ∨ (46 < k ∧ k ≤ 55) ∨ k = 63) → M2.1 k = M1.1 k := fun k hk => h2.2.1 k (by omega) (fun w => by
    have := hK k w
    omega)
  have a2 : ∀ k, (46 ≤ k ∨ k = 0) → M1.1 k = M.1 k := fun k hk => h1.2 k (fun w => by
    have := hL2 k w
    omega)
  have a3 : ∀ j, (j = 5 ∨ j = 6 ∨ j = 7 ∨ j = 29) → M2.1 46 0 j = M.1 46 0 j := fun j hj => by
    rw [h2.2.2 j (fun w => hJ j w hj), a2 46 (by omega)]
  refine Rel_gen hC hM (fun k w => ?_) ?_ (fun j hj => a3 j (by omega)) (fun k hk => ?_) ?_
  · have : k < 46 := by
      unfold z_vk at w
      omega
    rw [a1 k (Or.inl this)]
    exact h1.2 k (vk_no hL w)
  · rw [a3 7 (by omega), a1 0 (by omega), a2 0 (by omega)]
    exact hM.st
  · rw [a1 k (by omega), a2 k (by omega)]
  · rw [h2.1, h1.1]
theorem Rel_0 {M M2 : z_M} {len nm nr nb : Nat} {l : List Int32} (hC : z_Ci M.1 len nm nr nb l) (hM : z_Mo M.1 len nm nr nb l M) (e : M2 = M) : z_Rel M2 := by
  subst e
  exact ⟨len, nm, nr, nb, l, hC, hM⟩
theorem Mo_Fr {M M1 : z_M} {C : z_Cm} {len nm nr nb : Nat} {l : List Int32} {L : List Nat} (hM : z_Mo C len nm nr nb l M) (h1 : z_Fr L M M1) (hL : ∀ k ∈ L, k < 46) : z_Mo C len nm nr nb l M1 :=
  Mo_cl hM (fun k hk => h1.2 k (fun w => by
    have := hL k w
    omega)) (by rw [h1.1])
theorem op_fault {X : z_Cx} {M : z_M} (hR : z_Rel M) : z_Op X mX9_fault mX10_fault [] M := by
  obtain ⟨len, nm, nr, nb, l, hC, hM⟩ := hR
  have hW := Rel_Wc hC hM
  have h12 := hM.cr.1.1
  have h4 := hM.cr.1.2.1
  have h5 := hM.cr.1.2.2.1
  refine z_use (hX9_fault M) (by decide) (fun v M1 q => ?_)
  obtain ⟨e, q⟩ := q
  subst e
  refine z_use (hX10_fault M1) (by decide) (fun v' M2 q' => ?_)
  obtain ⟨e', q'⟩ := q'
  refine ⟨?_, Rel_0 hC hM e'⟩
  rw [q, q', hM.ft]
theorem op_status {X : z_Cx} {M : z_M} (hR : z_Rel M) : z_Op X mX9_status mX10_status [] M := by
  obtain ⟨len, nm, nr, nb, l, hC, hM⟩ := hR
  have hW := Rel_Wc hC hM
  have h12 := hM.cr.1.1
  have h4 := hM.cr.1.2.1
  have h5 := hM.cr.1.2.2.1
  refine z_use (hX9_status M) (by decide) (fun v M1 q => ?_)
  obtain ⟨e, q⟩ := q
  subst e
  refine z_use (hX10_status M1) (by decide) (fun v' M2 q' => ?_)
  obtain ⟨e', q'⟩ := q'
  refine ⟨?_, Rel_0 hC hM e'⟩
  rw [q, q', hM.st]
theorem op_need {X : z_Cx} {M : z_M} (hR : z_Rel M) (m p b : Int32) : z_Op X mX9_need mX10_need [zi m, zi p, zi b] M := by
  obtain ⟨len, nm, nr, nb, l, hC, hM⟩ := hR
  have hW := Rel_Wc hC hM
  have h12 := hM.cr.1.1
  have h4 := hM.cr.1.2.1
  have h5 := hM.cr.1.2.2.1
  refine z_use (hX9_need M nm hC.2.2.1.1 h12 m p b) (by decide) (fun v M1 q => ?_)
  obtain ⟨e, q⟩ := q
  subst e
  refine z_use (hX10_need M1 hM.cr hM.h0 m p b) (by decide) (fun v' M2 q' => ?_)
  obtain ⟨e', q'⟩ := q'
  refine ⟨?_, Rel_0 hC hM e'⟩
  rcases q with ⟨a, b⟩ | ⟨a1, a2, a3, a4, a5⟩ <;> rcases q' with ⟨a', b'⟩ | ⟨a1', a2', a3', a4', a5'⟩
  · rw [b, b']
  · exact absurd ⟨a1', a2', a3', a4'⟩ a
  · exact absurd ⟨a1, a2, a3, a4⟩ a'
  · exact a5.trans a5'.symm
theorem op_ran {X : z_Cx} {M : z_M} (hR : z_Rel M) (ru mi wh : Int32) : z_Op X mX9_ran mX10_ran [zi ru, zi mi, zi wh] M := by
  obtain ⟨len, nm, nr, nb, l, hC, hM⟩ := hR
  have hW := Rel_Wc hC hM
  have h12 := hM.cr.1.1
  have h4 := hM.cr.1.2.1
  have h5 := hM.cr.1.2.2.1
  refine z_use (hX9_ran M nm nr nb hW ru mi wh) (by decide) (fun v M1 q => ?_)
  obtain ⟨e, q⟩ := q
  subst e
  refine z_use (hX10_ran M1 hM.cr hM.rf ru mi wh) (by decide) (fun v' M2 q' => ?_)
  obtain ⟨e', q'⟩ := q'
  refine ⟨?_, Rel_0 hC hM e'⟩
  rcases q with ⟨a, b⟩ | ⟨a1, a2, a3, a4, a5⟩ | ⟨a0, r, m, w, a1, a2, a3, a4, a5, a6, a7⟩ <;> rcases q' with ⟨a', b'⟩ | ⟨a1', a2', a3', a4', a5'⟩ | ⟨a0', r', m', w', a1', a2', a3', a4', a5', a6', a7'⟩
  · rw [b, b']
  · exact absurd ⟨a1', a2', a3'⟩ a
  · exact absurd ⟨ru_in a1' (by omega) a2', ru_in a3' (by omega) a4', by rw [a6']; exact nI_pos' (by omega), by rw [a6']; exact nI_le (b := 5) a5' (by omega)⟩ a
  · exact absurd ⟨a1, a2, a3⟩ a'
  · rw [a5, a5']
  · exact absurd a4 a0'
  · exact absurd ⟨ru_in a1 (by omega) a2, ru_in a3 (by omega) a4, by rw [a6]; exact nI_pos' (by omega), by rw [a6]; exact nI_le (b := 5) a5 (by omega)⟩ a'
  · exact absurd a4' a0
  · obtain rfl : r = r' := nI_inj (by omega) (by omega) (a2.symm.trans a2')
    obtain rfl : m = m' := nI_inj (by omega) (by omega) (a4.symm.trans a4')
    obtain rfl : w = w' := nI_inj (by omega) (by omega) (a6.symm.trans a6')
    rw [a7, a7']
theorem op_place {X : z_Cx} {M : z_M} (hR : z_Rel M) (ru : Int32) : z_Op X mX9_place mX10_place [zi ru] M := by
  obtain ⟨len, nm, nr, nb, l, hC, hM⟩ := hR
  have hW := Rel_Wc hC hM
  have h12 := hM.cr.1.1
  have h4 := hM.cr.1.2.1
  have h5 := hM.cr.1.2.2.1
  refine z_use (hX9_place M nm nr nb hW ru) (by decide) (fun v M1 q => ?_)
  obtain ⟨e, q⟩ := q
  subst e
  refine z_use (hX10_place M1 hM.cr hM.rf ru) (by decide) (fun v' M2 q' => ?_)
  obtain ⟨e', q'⟩ := q'
  refine ⟨?_, Rel_0 hC hM e'⟩
  rcases q with ⟨a, b⟩ | ⟨a1, a2, a3⟩ | ⟨a0, r, a1, a2, a7⟩ <;> rcases q' with ⟨a', b'⟩ | ⟨a1', a2', a3'⟩ | ⟨a0', r', a1', a2', a7'⟩
  · rw [b, b']
  · exact absurd a1' a
  · exact absurd (ru_in a1' (by omega) a2') a
  · exact absurd a1 a'
  · rw [a3, a3']
  · exact absurd a2 a0'
  · exact absurd (ru_in a1 (by omega) a2) a'
  · exact absurd a2' a0
  · obtain rfl : r = r' := nI_inj (by omega) (by omega) (a2.symm.trans a2')
    rw [a7, a7']
theorem op_kind {X : z_Cx} {M : z_M} (hR : z_Rel M) (ru mi : Int32) : z_Op X mX9_kind mX10_kind [zi ru, zi mi] M := by
  obtain ⟨len, nm, nr, nb, l, hC, hM⟩ := hR
  have hW := Rel_Wc hC hM
  have h12 := hM.cr.1.1
  have h4 := hM.cr.1.2.1
  have h5 := hM.cr.1.2.2.1
  refine z_use (hX9_kind M nm nr nb hW ru mi) (by decide) (fun v M1 q => ?_)
  obtain ⟨e, q⟩ := q
  subst e
  refine z_use (hX10_kind M1 hM.cr hM.h0 hM.rf ru mi) (by decide) (fun v' M2 q' => ?_)
  obtain ⟨e', q'⟩ := q'
  refine ⟨?_, Rel_0 hC hM e'⟩
  rcases q with ⟨a, b⟩ | ⟨a1, a2, a3, a4⟩ | ⟨a0, r, m, a1, a2, a3, a4, a7⟩ <;> rcases q' with ⟨a', b'⟩ | ⟨a1', a2', a3', a4'⟩ | ⟨a0', r', m', a1', a2', a3', a4', a7'⟩
  · rw [b, b']
  · exact absurd ⟨a1', a2'⟩ a
  · exact absurd ⟨ru_in a1' (by omega) a2', ru_in a3' (by omega) a4'⟩ a
  · exact absurd ⟨a1, a2⟩ a'
  · rw [a4, a4']
  · exact absurd a3 a0'
  · exact absurd ⟨ru_in a1 (by omega) a2, ru_in a3 (by omega) a4⟩ a'
  · exact absurd a3' a0
  · obtain rfl : r = r' := nI_inj (by omega) (by omega) (a2.symm.trans a2')
    obtain rfl : m = m' := nI_inj (by omega) (by omega) (a4.symm.trans a4')
    rw [a7, a7']
theorem op_trace {X : z_Cx} {M : z_M} (hR : z_Rel M) (i : Int32) : z_Op X mX9_trace mX10_trace [zi i] M := by
  obtain ⟨len, nm, nr, nb, l, hC, hM⟩ := hR
  have hW := Rel_Wc hC hM
  have h12 := hM.cr.1.1
  have h4 := hM.cr.1.2.1
  have h5 := hM.cr.1.2.2.1
  refine z_use (hX9_trace M l.length hC.2.2.2.2.2.1.1 hC.2.2.2.2.2.1.2.1 i) (by decide) (fun v M1 q => ?_)
  obtain ⟨e, q⟩ := q
  subst e
  refine z_use (hX10_trace M1 hM.tx i) (by decide) (fun v' M2 q' => ?_)
  obtain ⟨e', q'⟩ := q'
  refine ⟨?_, Rel_0 hC hM e'⟩
  have hl := hC.2.2.2.2.2.1.1
  have rn : ∀ (x : Nat), x < l.length → i = nI x → pu_ru l.length i := fun x hx e => ⟨by rw [e]; exact nI_pos' (by omega), by rw [e, show nI l.length - 1 = nI (l.length - 1) from pk_sub (b := 1) (by omega)]; exact nI_le (by omega) (by omega)⟩
  rcases q with ⟨a, b⟩ | ⟨x, a1, a2, a3⟩ <;> rcases q' with ⟨a', b'⟩ | ⟨x', a1', a2', a3'⟩
  · rw [b, b']
  · exact absurd (rn x' a1' a2') a
  · exact absurd (rn x a1 a2) a'
  · obtain rfl : x = x' := nI_inj (by omega) (by omega) (a2.symm.trans a2')
    rw [a3, a3']
    exact hC.2.2.2.2.2.1.2.2 x a1
theorem op_count {X : z_Cx} {M : z_M} (hR : z_Rel M) (x : Int32) : z_Op X mX9_count mX10_count [zi x] M := by
  obtain ⟨len, nm, nr, nb, l, hC, hM⟩ := hR
  have hW := Rel_Wc hC hM
  have h12 := hM.cr.1.1
  have h4 := hM.cr.1.2.1
  have h5 := hM.cr.1.2.2.1
  refine z_use (hX9_count M nr h4 hC.2.2.1.2.1 x) (by decide) (fun v M1 q => ?_)
  obtain ⟨e, q⟩ := q
  subst e
  refine z_use (hX10_count M1 hM.sm hM.cr hM.tm.2.1 hM.rf.1 x) (by decide) (fun v' M2 q' => ?_)
  obtain ⟨e', q'⟩ := q'
  refine ⟨?_, Rel_0 hC hM e'⟩
  rw [q, q']
  unfold pu_count pu_cnt
  rw [hC.2.2.1.1, hC.2.2.1.2.1, hC.2.2.1.2.2.1, hC.2.1]
  have e6 : (if M1.1 21 0 3 = 0 then (0 : Int32) else 1) = M1.1 21 0 3 := by
    rcases hC.2.2.2.2.1 with e | e <;> rw [e] <;> rfl
  rw [e6]
  rfl
theorem op_best {X : z_Cx} {M : z_M} (hR : z_Rel M) (ru set k : Int32) : z_Op X mX9_best mX10_best [zi ru, zi set, zi k] M := by
  obtain ⟨len, nm, nr, nb, l, hC, hM⟩ := hR
  have hW := Rel_Wc hC hM
  have h12 := hM.cr.1.1
  have h4 := hM.cr.1.2.1
  have h5 := hM.cr.1.2.2.1
  refine z_use (hX9_best M nm nr nb hW ru set k) (by decide) (fun v M1 q => ?_)
  obtain ⟨hF, q⟩ := q
  have hM1 := Mo_Fr hM hF (by decide)
  refine z_use (hX10_best M1 hM1.cr hM1.h0 ru set k) (by decide) (fun v' M2 q' => ?_)
  obtain ⟨hF', q'⟩ := q'
  refine ⟨?_, Rel_2 hC hM hF (by decide) (by decide) (J := []) (K := [61]) (hF'.m (by decide)) (by decide) (by decide)⟩
  rcases q with ⟨a, b⟩ | ⟨r, a1, a2, c0, c1, z⟩ <;> rcases q' with ⟨a', b'⟩ | ⟨r', a1', a2', c0', c1', z'⟩
  · rw [b, b']
  · exact absurd ⟨ru_in a1' (by omega) a2', c0', c1'⟩ a
  · exact absurd ⟨ru_in a1 (by omega) a2, c0, c1⟩ a'
  · obtain rfl : r = r' := nI_inj (by omega) (by omega) (a2.symm.trans a2')
    exact z.trans z'.symm
theorem op_even {X : z_Cx} {M : z_M} (hR : z_Rel M) (ru set what : Int32) : z_Op X mX9_even mX10_even [zi ru, zi set, zi what] M := by
  obtain ⟨len, nm, nr, nb, l, hC, hM⟩ := hR
  have hW := Rel_Wc hC hM
  have h12 := hM.cr.1.1
  have h4 := hM.cr.1.2.1
  have h5 := hM.cr.1.2.2.1
  refine z_use (hX9_even M nm nr nb hW ru set what) (by decide) (fun v M1 q => ?_)
  obtain ⟨hF, q⟩ := q
  have hM1 := Mo_Fr hM hF (by decide)
  refine z_use (hX10_even M1 hM1.cr hM1.h0 ru set what) (by decide) (fun v' M2 q' => ?_)
  obtain ⟨hF', q'⟩ := q'
  refine ⟨?_, Rel_2 hC hM hF (by decide) (by decide) (J := []) (K := []) (by rw [hF']; exact z_Fm.refl) (by decide) (by decide)⟩
  rcases q with ⟨a, b⟩ | ⟨r, a1, a2, c0, c1, c2, z⟩ <;> rcases q' with ⟨a', b'⟩ | ⟨r', a1', a2', c0', c1', c2', z'⟩
  · rw [b, b']
  · exact absurd ⟨ru_in a1' (by omega) a2', c0', c1', c2'⟩ a
  · exact absurd ⟨ru_in a1 (by omega) a2, c0, c1, c2⟩ a'
  · obtain rfl : r = r' := nI_inj (by omega) (by omega) (a2.symm.trans a2')
    exact z.trans z'.symm
theorem op_early {X : z_Cx} {M : z_M} (hR : z_Rel M) (ru d : Int32) : z_Op X mX9_early mX10_early [zi ru, zi d] M := by
  obtain ⟨len, nm, nr, nb, l, hC, hM⟩ := hR
  have hW := Rel_Wc hC hM
  have h12 := hM.cr.1.1
  have h4 := hM.cr.1.2.1
  have h5 := hM.cr.1.2.2.1
  refine z_use (hX9_early M nm nr nb hW ru d) (by decide) (fun v M1 q => ?_)
  obtain ⟨hF, q⟩ := q
  have hM1 := Mo_Fr hM hF (by decide)
  refine z_use (hX10_early M1 hM1.cr hM1.h0 ru d) (by decide) (fun v' M2 q' => ?_)
  obtain ⟨hF', q'⟩ := q'
  refine ⟨?_, Rel_2 hC hM hF (by decide) (by decide) (J := []) (K := [61]) (hF'.m (by decide)) (by decide) (by decide)⟩
  rcases q with ⟨a, b⟩ | ⟨r, a1, a2, c0, c1, z⟩ <;> rcases q' with ⟨a', b'⟩ | ⟨r', a1', a2', c0', c1', z'⟩
  · rw [b, b']
  · exact absurd ⟨ru_in a1' (by omega) a2', c0', c1'⟩ a
  · exact absurd ⟨ru_in a1 (by omega) a2, c0, c1⟩ a'
  · obtain rfl : r = r' := nI_inj (by omega) (by omega) (a2.symm.trans a2')
    exact z.trans z'.symm
theorem op_hired {X : z_Cx} {M : z_M} (hR : z_Rel M) (ru coin what : Int32) : z_Op X mX9_hired mX10_hired [zi ru, zi coin, zi what] M := by
  obtain ⟨len, nm, nr, nb, l, hC, hM⟩ := hR
  have hW := Rel_Wc hC hM
  have h12 := hM.cr.1.1
  have h4 := hM.cr.1.2.1
  have h5 := hM.cr.1.2.2.1
  refine z_use (hX9_hired M nm nr nb hW ru coin what) (by decide) (fun v M1 q => ?_)
  obtain ⟨hF, q⟩ := q
  have hM1 := Mo_Fr hM hF (by decide)
  refine z_use (hX10_hired M1 hM1.cr hM1.h0 ru coin what) (by decide) (fun v' M2 q' => ?_)
  obtain ⟨hF', q'⟩ := q'
  refine ⟨?_, Rel_2 hC hM hF (by decide) (by decide) (J := []) (K := [61]) (hF'.m (by decide)) (by decide) (by decide)⟩
  rcases q with ⟨a, b⟩ | ⟨r, a1, a2, c0, c1, c2, z⟩ <;> rcases q' with ⟨a', b'⟩ | ⟨r', a1', a2', c0', c1', c2', z'⟩
  · rw [b, b']
  · exact absurd ⟨ru_in a1' (by omega) a2', c0', c1', c2'⟩ a
  · exact absurd ⟨ru_in a1 (by omega) a2, c0, c1, c2⟩ a'
  · obtain rfl : r = r' := nI_inj (by omega) (by omega) (a2.symm.trans a2')
    exact z.trans z'.symm
theorem op_stays {X : z_Cx} {M : z_M} (hR : z_Rel M) (ru rb : Int32) : z_Op X mX9_stays mX10_stays [zi ru, zi rb] M := by
  obtain ⟨len, nm, nr, nb, l, hC, hM⟩ := hR
  have hW := Rel_Wc hC hM
  have h12 := hM.cr.1.1
  have h4 := hM.cr.1.2.1
  have h5 := hM.cr.1.2.2.1
  refine z_use (hX9_stays M nm nr nb hW ru rb) (by decide) (fun v M1 q => ?_)
  obtain ⟨hF, q⟩ := q
  have hM1 := Mo_Fr hM hF (by decide)
  refine z_use (hX10_stays M1 hM1.cr hM1.h0 ru rb) (by decide) (fun v' M2 q' => ?_)
  obtain ⟨hF', q'⟩ := q'
  refine ⟨?_, Rel_2 hC hM hF (by decide) (by decide) (J := []) (K := [61]) (hF'.m (by decide)) (by decide) (by decide)⟩
  rcases q with ⟨a, b⟩ | ⟨r, b, a1, a2, a3, a4, z⟩ <;> rcases q' with ⟨a', b'⟩ | ⟨r', b', a1', a2', a3', a4', z'⟩
  · rw [b, b']
  · exact absurd ⟨ru_in a1' (by omega) a2', ru_in a3' (by omega) a4'⟩ a
  · exact absurd ⟨ru_in a1 (by omega) a2, ru_in a3 (by omega) a4⟩ a'
  · obtain rfl : r = r' := nI_inj (by omega) (by omega) (a2.symm.trans a2')
    obtain rfl : b = b' := nI_inj (by omega) (by omega) (a4.symm.trans a4')
    exact z.trans z'.symm
theorem op_rests {X : z_Cx} {M : z_M} (hR : z_Rel M) (ra rb i : Int32) : z_Op X mX9_rests mX10_rests [zi ra, zi rb, zi i] M := by
  obtain ⟨len, nm, nr, nb, l, hC, hM⟩ := hR
  have hW := Rel_Wc hC hM
  have h12 := hM.cr.1.1
  have h4 := hM.cr.1.2.1
  have h5 := hM.cr.1.2.2.1
  refine z_use (hX9_rests M (V := z_cq M.1 0) rfl h4 h12 hC.2.2.1.2.1 hC.2.2.1.1 (Rel_st hM) ra rb i) (by decide) (fun v M1 q => ?_)
  obtain ⟨hF, q⟩ := q
  have hM1 := Mo_Fr hM hF (by decide)
  refine z_use (hX10_rests M1 hM1.cr hM1.h0 ra rb i) (by decide) (fun v' M2 q' => ?_)
  obtain ⟨hF', q'⟩ := q'
  refine ⟨?_, Rel_2 hC hM hF (by decide) (by decide) (J := [24, 25]) (K := [56, 57, 58, 59, 60, 62]) (hF') (by decide) (by decide)⟩
  rcases q with ⟨a, b⟩ | ⟨x, y, a1, a2, a3, a4, a5, c0, z⟩ <;> rcases q' with ⟨a', b'⟩ | ⟨x', y', a1', a2', a3', a4', a5', c0', z'⟩
  · rw [b, b']
  · exact absurd ⟨ru_in a1' (by omega) a2', ru_in a3' (by omega) a4', fun w => a5' (nI_inj (by omega) (by omega) (a2'.symm.trans (w.trans a4'))), c0'⟩ a
  · exact absurd ⟨ru_in a1 (by omega) a2, ru_in a3 (by omega) a4, fun w => a5 (nI_inj (by omega) (by omega) (a2.symm.trans (w.trans a4))), c0⟩ a'
  · obtain rfl : x = x' := nI_inj (by omega) (by omega) (a2.symm.trans a2')
    obtain rfl : y = y' := nI_inj (by omega) (by omega) (a4.symm.trans a4')
    exact z.trans z'.symm
theorem op_wins {X : z_Cx} {M : z_M} (hR : z_Rel M) (ra rb pa pb : Int32) : z_Op X mX9_wins mX10_wins [zi ra, zi rb, zi pa, zi pb] M := by
  obtain ⟨len, nm, nr, nb, l, hC, hM⟩ := hR
  have hW := Rel_Wc hC hM
  have h12 := hM.cr.1.1
  have h4 := hM.cr.1.2.1
  have h5 := hM.cr.1.2.2.1
  refine z_use (hX9_wins M (V := z_cq M.1 0) rfl h4 h12 hC.2.2.1.2.1 hC.2.2.1.1 (Rel_st hM) ra rb pa pb) (by decide) (fun v M1 q => ?_)
  obtain ⟨hF, q⟩ := q
  have hM1 := Mo_Fr hM hF (by decide)
  refine z_use (hX10_wins M1 hM1.cr hM1.h0 ra rb pa pb) (by decide) (fun v' M2 q' => ?_)
  obtain ⟨hF', q'⟩ := q'
  refine ⟨?_, Rel_2 hC hM hF (by decide) (by decide) (J := [24, 25]) (K := [56, 57, 58, 59, 60]) (hF') (by decide) (by decide)⟩
  rcases q with ⟨a, b⟩ | ⟨x, y, a1, a2, a3, a4, a5, c0, c1, z⟩ <;> rcases q' with ⟨a', b'⟩ | ⟨x', y', a1', a2', a3', a4', a5', c0', c1', z'⟩
  · rw [b, b']
  · exact absurd ⟨ru_in a1' (by omega) a2', ru_in a3' (by omega) a4', fun w => a5' (nI_inj (by omega) (by omega) (a2'.symm.trans (w.trans a4'))), c0', c1'⟩ a
  · exact absurd ⟨ru_in a1 (by omega) a2, ru_in a3 (by omega) a4, fun w => a5 (nI_inj (by omega) (by omega) (a2.symm.trans (w.trans a4))), c0, c1⟩ a'
  · obtain rfl : x = x' := nI_inj (by omega) (by omega) (a2.symm.trans a2')
    obtain rfl : y = y' := nI_inj (by omega) (by omega) (a4.symm.trans a4')
    exact z.trans z'.symm
theorem op_feeling {X : z_Cx} {M : z_M} (hR : z_Rel M) (ru p0 wh : Int32) : z_Op X mX9_feeling mX10_feeling [zi ru, zi p0, zi wh] M := by
  obtain ⟨len, nm, nr, nb, l, hC, hM⟩ := hR
  have hW := Rel_Wc hC hM
  have h12 := hM.cr.1.1
  have h4 := hM.cr.1.2.1
  have h5 := hM.cr.1.2.2.1
  refine z_use (hX9_feeling M (V := z_cq M.1 0) rfl h4 h12 hC.2.2.1.2.1 hC.2.2.1.1 (Rel_st hM) ru p0 wh) (by decide) (fun v M1 q => ?_)
  obtain ⟨hF, q⟩ := q
  have hM1 := Mo_Fr hM hF (by decide)
  refine z_use (hX10_feeling M1 hM1.cr hM1.h0 ru p0 wh) (by decide) (fun v' M2 q' => ?_)
  obtain ⟨hF', q'⟩ := q'
  refine ⟨?_, Rel_2 hC hM hF (by decide) (by decide) (J := [24, 25]) (K := [56, 57, 58, 59]) (hF') (by decide) (by decide)⟩
  rcases q with ⟨a, b⟩ | ⟨r, a1, a2, c0, c1, c2, z⟩ <;> rcases q' with ⟨a', b'⟩ | ⟨r', a1', a2', c0', c1', c2', z'⟩
  · rw [b, b']
  · exact absurd ⟨ru_in a1' (by omega) a2', c0', c1', c2'⟩ a
  · exact absurd ⟨ru_in a1 (by omega) a2, c0, c1, c2⟩ a'
  · obtain rfl : r = r' := nI_inj (by omega) (by omega) (a2.symm.trans a2')
    exact z.trans z'.symm
