/-! THE CLAIM OUT OF ONE WALK OF THE LAW'S BODY. Your part is whole_start (and what it stands on); all else here is the same for every law, but numbers. -/
def R_law : String := "PaceStoreLaw"
def lw_P (b : Addr) (xs : List Int32) (args : Array Value) (s : State) : Prop := args = #[.ref b] ∧ s.IntsAt b xs ∧ xs.length ≤ 384 ∧ (Jvm.Cond.and given_1 narrow_1).before args s = true
def lw_Q (_ : Array Value) (s : State) (o : Outcome) (t : State) : Prop := o = .returned (some (.int 1)) ∧ Framed s o t [] 600000 7302250
def lw_Z (below : List Frame) (a : Array Value) (s : State) : State → Prop := fun t => ∃ o, t.status = .running ∧ Ended t below o ∧ lw_Q a s o t
/-- the law's own end, with 1 on the stack, nothing written that was there before, its room as the claim has it -/
theorem lw_ret {p : Program} {l : Launch} {e : Env} {s : State} {m : MethodId} {below : List Frame} {meth : Method} {c : Code} {b : Nat} (hx : p.tables.exec = Jvm.exec) (hb : c.code = code) (hr : meth.sig.returnType = ret) (hlocks : meth.locks = false) {pc : Nat} {H : Heap} {ls : Array Slot} (hdg : decode code pc = .ok (.ireturn, 1)) : W p l e room_1 s m #[Value.ref b] below meth c H [] 600000 7302250 (lw_Z below #[Value.ref b] s) (F0 m pc ls [.int 1]) := by
  intro T hT X
  obtain ⟨fs, hret, hrun, hended, hW, hframe⟩ := X.leave (v := some (.int 1)) (hlocks := hlocks) (fun h => by rw [hr] at h; cases h)
  have hmeth' : T.vm.method? m = some meth := X.method'
  refine ⟨T.setFrames fs, ?_, .returned (some (.int 1)), hrun, hended, rfl, ⟨_, rfl⟩, hW, hframe⟩
  jvm_step X.here [X.here.top, hx, hb, hdg, hmeth', hr, ret, narrow_b1]
  (try refine ⟨rfl, ?_⟩); (try refine ⟨rfl, ?_⟩)
  first | (intro acts; rw [hret _ acts rfl rfl rfl]) | rw [hret _ _ rfl rfl rfl]
  exact Steps.refl _
/-- what holds at the law's entry: the machine, the code, the tables' words (any of lw_tbl by 'hts w (by decide +kernel)'), the script of L ints xs at the cell b, what the Statement gives of the start (any of its parts by flat_of_before) -/
def lw_At (p : Program) (s : State) (m : MethodId) (meth : Method) (c : Code) (b L : Nat) (xs : Nat → Int32) : Prop :=
  p.tables.exec = Jvm.exec ∧ c.code = code ∧ meth.sig.returnType = ret ∧ c.maxLocals = 4 ∧ s.vm.findClass R_law = some m.cls ∧ (∀ w ∈ lw_tbl, w.before #[Value.ref b] s = true) ∧ va_X b L xs s s.heap ∧ b < s.heap.size ∧ meth.locks = false ∧ (Jvm.Cond.and given_1 narrow_1).before #[Value.ref b] s = true
-- ===== YOUR PART BEGINS =====
/-- the places' addresses: the cells made, then the statics -/
def zw_ad (ad a65 a66 a67 : Nat → Nat) : Nat → Nat → Nat := fun k i => bif Nat.blt k 64 then ad (zc_ix k i) else bif Nat.beq k 65 then a65 i else bif Nat.beq k 66 then a66 i else a67 i
theorem zw_ad64 {ad a65 a66 a67 : Nat → Nat} : ∀ k i, k < 64 → zw_ad ad a65 a66 a67 k i = ad (zc_ix k i) := by
  intro k i h
  unfold zw_ad
  rw [show Nat.blt k 64 = true from Nat.ble_eq_true_of_le h]
  rfl
set_option maxHeartbeats 4000000 in
theorem whole_start {p : Program} {e : Env} {s : State} {m : MethodId} {below : List Frame} {meth : Method} {c : Code} (l : Launch) (hflags : l.flags = flags0) {b L : Nat} {xs : Nat → Int32} (hL : L ≤ 384) (C0 : lw_At p s m meth c b L xs) : W p l e room_1 s m #[Value.ref b] below meth c s.heap [] 0 0 (lw_Z below #[Value.ref b] s) (entryFrame m ([Value.ref b] : List Value).toArray 4) := by
  obtain ⟨hx, hb, hr, hml, hown, hts, hX, hbl, hlocks, hgv⟩ := id C0
  obtain ⟨G, cA, hK⟩ := zs_K hts
  have hU : ∀ w ∈ z_U, w.before #[Value.ref b] s = true := fun w hw => hts w (List.mem_filter.mp hw).1
  have C1 : zw_C p s m c b G cA := ⟨hx, hb, hml, hown, hU, hK, zs_cF hts⟩
  obtain ⟨a65, a66, a67, hb65, hSt, hSc, hCo, hSi, hSS, hSR⟩ := zs_st (A := fun q : Nat => s.heap.size ≤ q) hts hgv hX (fun a h => Nat.not_le.mpr h)
  obtain ⟨hp1, c1, z1, hp2, c2, z2, r1, r2, hlen, hchk, hcc, hzz⟩ := zc_runs
  have rc : room_1.cells = 600000 := rfl
  have rs : room_1.slots = 7302250 := rfl
  have hl := lv_entry ([.ref b]) (n := 4) (Nat.le_of_ble_eq_true rfl)
  rw [lg_entry_eq]
  generalize (lg_sl ([.ref b]) ++ List.replicate (4 - (lg_sl ([.ref b])).length) Slot.unset).toArray = ls at hl ⊢
  have hl : lv_has ls 4 [(0, .ref b)] := hl
  have I0 : zw_I s G cA (fun _ => 0) [] s.heap [] := ⟨fun e he => (by cases he), fun k q h => (by simp [zc_w] at h), ⟨fun i j p q h => (by simp [zc_w] at h), fun k q h => (by simp [zc_w] at h)⟩, va_S.rf⟩
  refine zw_new (idx := 7) (nf := 11) (ty := tyX9) C1 z_c9 tyX9_ok (by decide) u_107 u_108 u_88 (by decide +kernel) I0 (by omega) (by omega) (fun q0 H0 I1 => ?_)
  refine lv_dup hx hb (by decide +kernel) rfl ?_
  refine zw_call (k := 9) (idx := 9) (i := 0) (r := [zc_r 0]) (hp := zc_hp0) (ad := zc_up (fun _ => 0) 0 q0) C1 zw_k9 (by decide +kernel) r1 (Nat.zero_lt_one) I1 hl.1 (by omega) (by omega) (by decide) (fun ad1 H1 locs1 hext I2 => ?_)
  refine lv_astore_n (k := 1) (i := 1) (x := q0) (lv' := [(1, .ref q0), (0, .ref b)]) hx hb (by decide +kernel) rfl hl (by decide) rfl (fun ls hl => ?_)
  refine zw_new (idx := 10) (nf := 30) (ty := tyX10) C1 z_c10 tyX10_ok (by decide) u_1103 u_1104 u_99 (by decide +kernel) I2 (by omega) (by omega) (fun q1 H2 I3 => ?_)
  refine lv_dup hx hb (by decide +kernel) rfl ?_
  have e1 : zc_up ad1 hp1.length q1 hp1.length = q1 := up_at
  have hw := zw_call (p := p) (l := l) (e := e) (s := s) (m := m) (b := b) (below := below) (meth := meth) (c := c) (Q := lw_Z below #[Value.ref b] s) (k := 10) (idx := 12) (i := hp1.length) (r := [zc_r hp1.length]) (hp := hp1 ++ [.inl (10, zc_fs tyX10 30)]) (ad := zc_up ad1 hp1.length q1) (la := ls) (pc := 12) (cells := 0 + 1 + c1 + 1) (slots := 0 + 11 + z1 + 30) C1 zw_k10 (by decide +kernel) r2 (by rw [List.length_append]; exact Nat.lt_succ_self _) I3 hl.1 (by omega) (by omega) (Nat.le_of_ble_eq_true rfl)
  have e2 : [zc_r hp1.length].map (zc_co (zc_up ad1 hp1.length q1)) = [.ref q1] := congrArg (fun a => [Value.ref a]) e1
  rw [e1, e2] at hw
  refine hw (fun ad2 H3 locs3 hext2 I4 => ?_)
  refine lv_astore_n (k := 2) (i := 2) (x := q1) (lv' := [(2, .ref q1), (1, .ref q0), (0, .ref b)]) hx hb (by decide +kernel) rfl hl (by decide) rfl (fun ls hl => ?_)
  refine lv_iconst (n := 0) (v := 0) hx hb (by decide +kernel) (by decide) ?_
  refine lv_istore_n (k := 3) (i := 3) (x := 0) (lv' := [(3, .int 0), (2, .ref q1), (1, .ref q0), (0, .ref b)]) hx hb (by decide +kernel) rfl hl (by decide) rfl (fun ls hl => ?_)
  have q0e : ad2 0 = q0 := by
    rw [hext2 0 (by rw [List.length_append]; exact Nat.succ_pos _), up_lt (by rw [hlen]; decide), hext 0 Nat.zero_lt_one]
    exact up_at
  have q1e : ad2 185 = q1 := by
    rw [hext2 185 (by rw [List.length_append, hlen]; decide), ← hlen]
    exact up_at
  have hX2 : ∀ k i, k < 64 → zw_ad ad2 a65 a66 a67 k i = ad2 (zc_ix k i) := zw_ad64
  have hinj : z_inj (l, G, zw_ad ad2 a65 a66 a67, cA, L, xs) := zc_inj0 hX2 hchk I4.2.2.1
  have hzA : ∀ a, z_A (l, G, zw_ad ad2 a65 a66 a67, cA, L, xs) a → s.heap.size ≤ a := fun a h => zc_A0 (X := (l, G, zw_ad ad2 a65 a66 a67, cA, L, xs)) hX2 hchk I4.2.2.1 h
  have hP : va_P G vwCl (z_w (l, G, zw_ad ad2 a65 a66 a67, cA, L, xs) z_M0) H3 := zc_P0 (X := (l, G, zw_ad ad2 a65 a66 a67, cA, L, xs)) hX2 hchk I4.2.1
  have hSF : z_SF (l, G, zw_ad ad2 a65 a66 a67, cA, L, xs) s s.heap := by
    refine ⟨fun j hj => (hSt j hj).1.narrow hzA, fun j hj => ?_, hCo.narrow hzA, hSi.narrow hzA, hSS.narrow hzA, hSR, fun x hx => va_Nw.of rfl (hts _ (zs_N x hx))⟩
    by_cases h4 : j < 4
    · have e4 : Nat.beq j 4 = false := by
        cases h : Nat.beq j 4 with
        | false => rfl
        | true => have := Nat.eq_of_beq_eq_true h; omega
      have := (hSt j h4).2.narrow hzA
      unfold z_sN z_sv
      rw [e4]
      exact this
    · obtain rfl : j = 4 := by omega
      have := hSc.narrow hzA
      rw [← hb65] at this
      exact this
  have hloc : ∀ q ∈ locs3, s.heap.size ≤ q.base := I4.2.2.2.2.2
  refine va_forget hloc ?_
  refine W.widen (k := 600000) (n := 7302250) (by omega) (by omega) ?_
  have hrun := law_loop (X := (l, G, zw_ad ad2 a65 a66 a67, cA, L, xs)) hL 65 0 z_M0 rfl z_Rel0
  refine hrun p e s m #[Value.ref b] below meth c room_1 600000 7302250 (lw_Z below #[Value.ref b] s) ⟨hx, hb, hml, hown, hU, hK, hSF, hinj, ⟨Nat.le_of_ble_eq_true rfl, Nat.le_of_ble_eq_true rfl, Nat.le_refl _, Nat.le_refl _⟩, ?_, ?_⟩ H3 [] ls ⟨?_, trivial, hP, ⟨I4.2.2.2.1, fun q h1 _ => I4.2.2.2.2.1 q h1 (Nat.not_le.mpr h1), fun _ h => by cases h⟩, ?_⟩
  · intro v M H locs la pc ty _ _ hv _ hS hdg
    subst hv
    refine va_forget (fun q hq => hzA _ (hS.2.2 q hq)) ?_
    exact lw_ret hx hb hr hlocks hdg
  · intro M H locs la pc h
    exact absurd h (by intro w; cases w)
  · refine ⟨?_, ?_, ?_, trivial, trivial⟩
    · show 4 < z_cnt 65
      decide
    · show 0 < z_cnt 0
      decide
    · show 0 < z_cnt 46
      decide
  · refine ⟨hl.1, hl.2.1, fun q hq => ?_⟩
    rcases List.mem_cons.mp hq with rfl | hq
    · exact hl.2.2 (0, .ref (a65 4)) (by rw [hb65]; simp)
    rcases List.mem_cons.mp hq with rfl | hq
    · exact hl.2.2 (1, .ref (ad2 0)) (by rw [q0e]; simp)
    rcases List.mem_cons.mp hq with rfl | hq
    · exact hl.2.2 (2, .ref (ad2 185)) (by rw [q1e]; simp)
    rcases List.mem_cons.mp hq with rfl | hq
    · exact hl.2.2 (3, .int 0) (by simp)
    cases hq
-- ===== YOUR PART ENDS =====
set_option maxHeartbeats 4000000 in
theorem lw_walk (l : Launch) (hflags : l.flags = flags0) (b : Addr) (xs : List Int32) : MetFree l x (headSpec (Jvm.Cond.code x code maxLocals ret :: tables_1) room_1) (lw_P b xs) (fun _ _ _ _ _ => True) lw_Q := by
  refine MetFree.of_bodyS (code := code) (maxLocals := maxLocals) (ret := ret) (by decide) ?_ ?_
  · intro args s m h hn
    obtain ⟨meth, c, h1, h2, h3, h4, h5, h6, -, -⟩ := Cond.code_spec hn (atoms_spec (ws := Jvm.Cond.code x code maxLocals ret :: tables_1) h _ List.mem_cons_self)
    exact ⟨meth, c, h1, h2, h3, h4, h5, h6⟩
  · intro p e s m args below meth c s₁ B hml0 hP _
    obtain ⟨rfl, hx, hbd, hgv⟩ := hP
    obtain ⟨scr, harrAt, hlist, hof, hsmall⟩ := hx
    obtain ⟨hcb, hkn, -, -⟩ := State.arrayAt?_spec harrAt
    have hown : s.vm.findClass R_law = some m.cls := findClass_of_methodNamed B.named
    have hts0 : ∀ c ∈ (Jvm.Cond.code x code maxLocals ret :: tables_1), c.before #[Value.ref b] s = true := atoms_spec (ws := Jvm.Cond.code x code maxLocals ret :: tables_1) B.pre
    have hts : ∀ w ∈ lw_tbl, w.before #[Value.ref b] s = true := k2_hts_sels lw_privs (fun w hw => hts0 w (List.mem_cons_of_mem _ hw)) lw_privs_ok
    have hml : c.maxLocals = 4 := B.maxLocals_eq (hts0 _ List.mem_cons_self)
    have X₀ : Stand p l e room_1 s m #[Value.ref b] below meth c s₁ [] 0 0 := Stand.of_body B
    have hh0 : s₁.heap = s.heap := by rw [B.state]; rfl
    have hsz : scr.slots.size = xs.length := by rw [← Array.length_toList, hlist, List.length_map]
    have hval : ∀ j : Nat, j < xs.length → scr.slots[j]? = some (.int (xs.getD j 0)) := fun j hj => by
      rw [← Array.getElem?_toList, hlist]
      simp [hj]
    have hbl : b < s.heap.size := (Array.getElem?_eq_some_iff.mp hcb).1
    have hX : va_X b xs.length (fun j => xs.getD j 0) s s.heap := ⟨scr, hcb, hof, hkn, hsz, hval⟩
    have K : W p l e room_1 s m #[Value.ref b] below meth c s₁.heap [] 0 0 (lw_Z below #[Value.ref b] s) (entryFrame m ([Value.ref b] : List Value).toArray 4) := by
      rw [hh0]
      exact whole_start l hflags hbd ⟨B.exec, B.bytes, B.returns, hml, hown, hts, hX, hbl, B.notSynchronized, hgv⟩
    obtain ⟨t, a1, o, b1, b2, b3⟩ := K s₁ rfl X₀
    exact ⟨t, o, a1, b1, b2, b3⟩
theorem lw_pre_spec {args : Array Value} {s : State} (h : (Jvm.Cond.and given_1 narrow_1).before args s = true) (hr : rest_1_c.before args s = true) : ∃ (b : Addr) (xs : List Int32), lw_P b xs args s := by
  have hs := flat_of_before _ h
  have hq := flat_of_before _ hr
  have hc : (Cond.count 1).before args s = true := hs _ (by decide +kernel)
  have harr : (Cond.arrayOf (.arg 0) .int).before args s = true := hs _ (by decide +kernel)
  have hle : (Cond.le (.length (.arg 0)) (.int 384)).before args s = true := hs _ (by decide +kernel)
  have hlen : (Cond.isInt (.length (.arg 0))).before args s = true := hq _ (by decide +kernel)
  have hall : (Cond.all (.arg 0) (.isInt (.elem (.arg 0) (.index 0)))).before args s = true := hq _ (by decide +kernel)
  obtain ⟨b, xs, hb, hx⟩ := State.ints_of_pre rfl harr hlen hall
  have hsm : xs.length < 2 ^ 31 := hx.choose_spec.2.2.2
  have hev : (Term.length (.arg 0)).eval args s none [] s = some (.int xs.length.toInt32) := hx.length_eval hb
  have hv := Cond.le_ints hev (show (Term.int 384).eval args s none [] s = some (.int 384) from rfl)
  have hd : xs.length.toInt32 ≤ 384 := by
    simpa [Cond.before, Cond.holds, hv] using hle
  have hN : xs.length ≤ 384 := (Int32.ofNat_le_ofNat hsm (by decide)).mp (show Int32.ofNat xs.length ≤ Int32.ofNat 384 from hd)
  exact ⟨b, xs, Cond.one_arg hc (show args[0]? = some (.ref b) from hb), hx, hN, h⟩
theorem lw_comes (l : Launch) (hflags : l.flags = flags0) : Comes l x (Jvm.Cond.code x code maxLocals ret :: tables_1) room_1 (fun tb e args s => Calls_1 tb e args s ∧ rest_1 tb e args s ∧ Pre_1 tb e args s)
    (fun _ _ args s o t => lw_Q args s o t) := by
  intro p e ha hc hk s m args below hf hfit hheap happ hpre
  obtain ⟨b, xs, hP⟩ := lw_pre_spec hpre.2.2 hpre.2.1
  obtain ⟨k, o, h1, h2, h3, hQ⟩ := lw_walk l hflags b xs p e ha hc hk s m args below hf ((Spec.applies_iff_loose hf).mp happ).1 hP trivial
  exact ⟨k, o, h1, h2, h3, hQ⟩
theorem lw_frame {s t : State} {o : Outcome} {args : Array Value} (h : Framed s o t [] 600000 7302250) :
    Framed s o t (fieldLocs frame_1_writes args s ++ arrayLocs frame_1_arrays args s ++ staticLocs frame_1_statics s) 600000 7302250 := h
theorem lw_limb (L : Cond) (hL : ∀ (args : Array Value) (s t : State), L.after args s (.returned (some (.int 1))) t = true) :
    ArmFor flags0 classFile x code maxLocals ret World_1 tables_1 room_1 Calls_1 rest_1 Pre_1
      (fun tb e a s o t => postC L tb e a s o t ∧ Framed s o t (fieldLocs frame_1_writes a s ++ arrayLocs frame_1_arrays a s ++ staticLocs frame_1_statics s) 600000 7302250) := by
  intro l hflags _ _ p e ha hc hk s m args below hf hfit hheap happ hpre
  obtain ⟨k, o, h1, h2, h3, rfl, hF⟩ := lw_comes l hflags p e ha hc hk s m args below hf hfit hheap happ hpre
  exact ⟨k, _, h1, h2, h3, hL args s _, lw_frame hF⟩
theorem i_vc : Claimed_1_1 ∧ Claimed_1_2 := ⟨lw_limb limb_1_1 (fun args s t => by simp [limb_1_1, Cond.after, Cond.holds, Cond.value]), lw_limb limb_1_2 (fun args s t => Cond.after_iff.mpr (by
  first | (rw [show limb_1_2 = Cond.eq .result (.int 1) from rfl, Cond.eq_ints (x := 1) (y := 1) rfl rfl]; simp; done) | (simp [limb_1_2, Cond.value, Term.eval]; done)))⟩
