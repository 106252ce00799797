/-! ===== a row of rows of ints, made at once ===== -/
/-- the outer row, when i of its N rows are there; it lies at h -/
def zm_c (cA : ClassId) (N h i : Nat) : Cell := arrV cA N (fun j => if j < i then .ref (h + 1 + j) else .null)
def zm_i (cB : ClassId) (K : Nat) : Cell := arrV cB K (fun _ => .int 0)
/-- the state, then -/
def zm_s (T : State) (cA cB : ClassId) (N K : Nat) : Nat → State
  | 0 => T.pushCell (zm_c cA N T.heap.size 0)
  | i + 1 => ((zm_s T cA cB N K i).pushCell (zm_i cB K)).setCell T.heap.size (zm_c cA N T.heap.size (i + 1))
theorem zm_cs (cA : ClassId) (N h i : Nat) : (zm_c cA N h i).setSlot i (.ref (h + 1 + i)) = zm_c cA N h (i + 1) := by
  unfold zm_c
  rw [arrV_store]
  congr 1
  funext j
  unfold updV
  by_cases e : j = i
  · rw [if_pos e, if_pos (by omega), e]
  · rw [if_neg e]
    dsimp only
    by_cases w : j < i
    · rw [if_pos w, if_pos (by omega)]
    · rw [if_neg w, if_neg (by omega)]
theorem zm_c0 (cA : ClassId) (N h : Nat) : zm_c cA N h 0 = ({ cls := cA, slots := Array.replicate N .null, vm := .none } : Cell) := by
  rw [arrV_new]
  unfold zm_c
  congr 1
theorem zm_f (T : State) (cA cB : ClassId) (N K : Nat) : ∀ i, (zm_s T cA cB N K i).heap.size = T.heap.size + 1 + i ∧ (zm_s T cA cB N K i).heap[T.heap.size]? = some (zm_c cA N T.heap.size i) ∧ (∀ a, a < T.heap.size → (zm_s T cA cB N K i).heap[a]? = T.heap[a]?) ∧ (∀ j, j < i → (zm_s T cA cB N K i).heap[T.heap.size + 1 + j]? = some (zm_i cB K)) ∧ (zm_s T cA cB N K i).vm = T.vm ∧ (zm_s T cA cB N K i).slotsUsed = T.slotsUsed + N + i * K := by
  intro i
  induction i with
  | zero =>
    refine ⟨by simp [zm_s], State.heap_pushCell_size _ _, fun a ha => State.heap_pushCell_of_lt _ _ ha, fun j hj => absurd hj (by omega), rfl, ?_⟩
    show T.slotsUsed + (zm_c cA N T.heap.size 0).slots.size = _
    unfold zm_c
    rw [arrV_size]
    omega
  | succ i ih =>
    obtain ⟨a, b, d, f, g, u⟩ := ih
    have old : ∀ x, x < T.heap.size + 1 + i → ((zm_s T cA cB N K i).pushCell (zm_i cB K)).heap[x]? = (zm_s T cA cB N K i).heap[x]? := fun x hx => State.heap_pushCell_of_lt _ _ (by rw [a]; exact hx)
    have hb' := (old T.heap.size (by omega)).trans b
    refine ⟨?_, State.heap_setCell_self hb', fun x hx => ?_, fun j hj => ?_, g, ?_⟩
    · show (((zm_s T cA cB N K i).pushCell (zm_i cB K)).setCell T.heap.size _).heap.size = _
      simp [State.setCell, a]
      omega
    · show (((zm_s T cA cB N K i).pushCell (zm_i cB K)).setCell T.heap.size _).heap[x]? = _
      rw [State.heap_setCell_other (show T.heap.size ≠ x by omega), old x (by omega)]
      exact d x hx
    · show (((zm_s T cA cB N K i).pushCell (zm_i cB K)).setCell T.heap.size _).heap[T.heap.size + 1 + j]? = _
      rw [State.heap_setCell_other (show T.heap.size ≠ T.heap.size + 1 + j by omega)]
      by_cases w : j = i
      · rw [w, ← a]
        exact State.heap_pushCell_size _ _
      · rw [old _ (by omega)]
        exact f j (by omega)
    · show (zm_s T cA cB N K i).slotsUsed + (zm_i cB K).slots.size = _
      unfold zm_i
      rw [arrV_size, u, Nat.succ_mul]
      omega
theorem zm_top (T : State) (f : JFrame) (cA cB : ClassId) (N K : Nat) : ∀ i, zm_s (T.setTop f) cA cB N K i = (zm_s T cA cB N K i).setTop f := by
  intro i
  induction i with
  | zero => rfl
  | succ i ih =>
    show ((zm_s (T.setTop f) cA cB N K i).pushCell (zm_i cB K)).setCell (T.setTop f).heap.size _ = _
    rw [ih]
    rfl
section ZM
variable {E : CtlPost} {e : Env} {d : Bool} {acts : List Action} {s : State}
theorem zm_row {cB cc : ClassId} {kB : Class} {m : Int32} {K : Nat} (hK : m.toNatClampNeg = K) (hkB : s.vm.classes[cB]? = some kB) (hkind : kB.kind = .array cc .int) (hm : ¬ m < 0) (hl : ¬ K > e.platform.arrayLengthLimit) (hh : ¬ K * componentBytes .int > e.platform.maxHeapBytes) (h1 : s.heap.size < e.platform.maxCells) (h2 : s.slotsUsed + K ≤ e.platform.maxSlots) {Q : Addr → Pre} (hq : ∀ acts', Q s.heap.size d acts' (s.pushCell (zm_i cB K))) : wp (multianewarray.make cB [m]) Q E e d acts s := by
  subst hK
  rw [multianewarray.make]
  simp only [wp_bind', W.ite, hm, if_false, wp_pure', W.theClass, hkB, hkind, Option.some.injEq, exists_eq_left']
  refine W.newArray_of hkB hkind hl hh h1 h2 rfl (fun acts' => ?_)
  have h := hq acts'
  unfold zm_i at h
  rw [← arrV_new] at h
  exact h
theorem zm_make {cA cB cc : ClassId} {kA kB : Class} {n m : Int32} {N K : Nat} (hN : n.toNatClampNeg = N) (hK : m.toNatClampNeg = K) (hkA : s.vm.classes[cA]? = some kA) (hkindA : kA.kind = .array cB (.array .int)) (hkB : s.vm.classes[cB]? = some kB) (hkindB : kB.kind = .array cc .int) (hn : ¬ n < 0) (hm : ¬ m < 0)
    (hl1 : ¬ N > e.platform.arrayLengthLimit) (hh1 : ¬ N * componentBytes (.array .int) > e.platform.maxHeapBytes) (hl2 : ¬ K > e.platform.arrayLengthLimit) (hh2 : ¬ K * componentBytes .int > e.platform.maxHeapBytes)
    (hc : s.heap.size + 1 + N ≤ e.platform.maxCells) (hs : s.slotsUsed + N + N * K ≤ e.platform.maxSlots) {Q : Addr → Pre} (hq : ∀ d' acts', Q s.heap.size d' acts' (zm_s s cA cB N K N)) : wp (multianewarray.make cA [n, m]) Q E e d acts s := by
  have hfind : ([m].find? (· < 0)) = none := by simp [hm]
  subst hN
  rw [multianewarray.make]
  simp only [wp_bind', W.ite, hn, if_false, wp_pure', W.theClass, hkA, hkindA, Option.some.injEq, exists_eq_left']
  refine W.newArray_of hkA hkindA hl1 hh1 (by omega) (by have := Nat.zero_le (n.toNatClampNeg * K); omega) rfl (fun acts1 => ?_)
  simp only [hfind]
  rw [ite_self, wp_bind', Std.Legacy.Range.forIn_eq_forIn_range']
  have hsz : ([:n.toNatClampNeg] : Std.Legacy.Range).size = n.toNatClampNeg := by simp [Std.Legacy.Range.size]
  rw [hsz]
  have h0 : s.pushCell { cls := cA, slots := Array.replicate n.toNatClampNeg .null } = zm_s s cA cB n.toNatClampNeg K 0 := by
    show _ = s.pushCell (zm_c cA n.toNatClampNeg s.heap.size 0)
    rw [zm_c0]
  rw [h0]
  refine wp_forIn_inv (fun rest s' => ∃ i, i ≤ n.toNatClampNeg ∧ rest = List.range' i (n.toNatClampNeg - i) ∧ s' = zm_s s cA cB n.toNatClampNeg K i) _ _ ⟨0, Nat.zero_le _, rfl, rfl⟩ ?_ ?_
  · rintro x rest s' d' acts' Q' ⟨i, hi, hl, rfl⟩ hnext
    have hlt : i < n.toNatClampNeg := by
      rcases Nat.lt_or_ge i n.toNatClampNeg with h | h
      · exact h
      · rw [show n.toNatClampNeg - i = 0 by omega] at hl
        cases hl
    rw [show n.toNatClampNeg - i = (n.toNatClampNeg - (i + 1)) + 1 by omega, List.range'_succ] at hl
    obtain ⟨rfl, hrest⟩ := List.cons.inj hl
    obtain ⟨f1, f2, f3, f4, f5, f6⟩ := zm_f s cA cB n.toNatClampNeg K x
    have hmul : x * K + K ≤ n.toNatClampNeg * K := by
      have := Nat.mul_le_mul_right K (show x + 1 ≤ n.toNatClampNeg from hlt)
      rw [Nat.succ_mul] at this
      exact this
    simp only [wp_bind']
    refine zm_row hK (by rw [f5]; exact hkB) hkindB hm hl2 hh2 (by rw [f1]; omega) (by rw [f6]; omega) (fun acts2 => ?_)
    have hlt0 : s.heap.size < (zm_s s cA cB n.toNatClampNeg K x).heap.size := by rw [f1]; omega
    simp only [wp_bind', W.writeLoc, wp_pure']
    refine ⟨zm_c cA n.toNatClampNeg s.heap.size x, by rw [State.heap_pushCell_of_lt (h := hlt0)]; exact f2, (fun w => by cases w), (by unfold zm_c; rw [arrV_size]; exact hlt), ?_, hnext _ _ _ ⟨x + 1, hlt, hrest, ?_⟩⟩
    · simp [zm_c, arrV, State.fitsSlot, State.slotType?, f5, hkA, hkindA, fits]
    · rw [f1, zm_cs]
      rfl
  · rintro s' d' acts' ⟨i, hi, hl, rfl⟩
    have hiN : i = n.toNatClampNeg := by
      rcases Nat.lt_or_ge i n.toNatClampNeg with h | h
      · rw [show n.toNatClampNeg - i = (n.toNatClampNeg - (i + 1)) + 1 by omega, List.range'_succ] at hl
        cases hl
      · omega
    subst hiN
    simp only [wp_pure']
    exact hq _ _
end ZM
