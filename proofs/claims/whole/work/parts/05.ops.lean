def x_iadd : z_X := fun ks kj R C ls st M => match st with
  | .inl y :: .inl x :: r => ks ls (zi (x + y) :: r) M
  | _ => False
theorem s_iadd {X : z_Cx} {D : Nat} {q : z_MI} {pc : Nat}  (hd : decode q.2.1 pc = .ok (.iadd, 1)) : z_Sd X D q pc (pc + 1) (x_iadd) := by
  intro ks kj R ls st M h hs hj p e s m args below meth c Rm cells slots Q C0 H locs la I
  rcases st with _ | ⟨y | y | y, _ | ⟨x | x | x, r⟩⟩ <;> first | exact False.elim h | skip
  exact lv_iadd C0.1 C0.2.1 hd (hs _ _ _ h p e s m args below meth c Rm cells slots Q C0 H locs la ⟨I.1, ⟨trivial, I.2.1.2.2⟩, I.2.2⟩)
def x_isub : z_X := fun ks kj R C ls st M => match st with
  | .inl y :: .inl x :: r => ks ls (zi (x - y) :: r) M
  | _ => False
theorem s_isub {X : z_Cx} {D : Nat} {q : z_MI} {pc : Nat}  (hd : decode q.2.1 pc = .ok (.isub, 1)) : z_Sd X D q pc (pc + 1) (x_isub) := by
  intro ks kj R ls st M h hs hj p e s m args below meth c Rm cells slots Q C0 H locs la I
  rcases st with _ | ⟨y | y | y, _ | ⟨x | x | x, r⟩⟩ <;> first | exact False.elim h | skip
  exact lv_isub C0.1 C0.2.1 hd (hs _ _ _ h p e s m args below meth c Rm cells slots Q C0 H locs la ⟨I.1, ⟨trivial, I.2.1.2.2⟩, I.2.2⟩)
def x_imul : z_X := fun ks kj R C ls st M => match st with
  | .inl y :: .inl x :: r => ks ls (zi (x * y) :: r) M
  | _ => False
theorem s_imul {X : z_Cx} {D : Nat} {q : z_MI} {pc : Nat}  (hd : decode q.2.1 pc = .ok (.imul, 1)) : z_Sd X D q pc (pc + 1) (x_imul) := by
  intro ks kj R ls st M h hs hj p e s m args below meth c Rm cells slots Q C0 H locs la I
  rcases st with _ | ⟨y | y | y, _ | ⟨x | x | x, r⟩⟩ <;> first | exact False.elim h | skip
  exact lv_imul C0.1 C0.2.1 hd (hs _ _ _ h p e s m args below meth c Rm cells slots Q C0 H locs la ⟨I.1, ⟨trivial, I.2.1.2.2⟩, I.2.2⟩)
def x_iand : z_X := fun ks kj R C ls st M => match st with
  | .inl y :: .inl x :: r => ks ls (zi (x &&& y) :: r) M
  | _ => False
theorem s_iand {X : z_Cx} {D : Nat} {q : z_MI} {pc : Nat}  (hd : decode q.2.1 pc = .ok (.iand, 1)) : z_Sd X D q pc (pc + 1) (x_iand) := by
  intro ks kj R ls st M h hs hj p e s m args below meth c Rm cells slots Q C0 H locs la I
  rcases st with _ | ⟨y | y | y, _ | ⟨x | x | x, r⟩⟩ <;> first | exact False.elim h | skip
  exact lv_iand C0.1 C0.2.1 hd (hs _ _ _ h p e s m args below meth c Rm cells slots Q C0 H locs la ⟨I.1, ⟨trivial, I.2.1.2.2⟩, I.2.2⟩)
def x_ior : z_X := fun ks kj R C ls st M => match st with
  | .inl y :: .inl x :: r => ks ls (zi (x ||| y) :: r) M
  | _ => False
theorem s_ior {X : z_Cx} {D : Nat} {q : z_MI} {pc : Nat}  (hd : decode q.2.1 pc = .ok (.ior, 1)) : z_Sd X D q pc (pc + 1) (x_ior) := by
  intro ks kj R ls st M h hs hj p e s m args below meth c Rm cells slots Q C0 H locs la I
  rcases st with _ | ⟨y | y | y, _ | ⟨x | x | x, r⟩⟩ <;> first | exact False.elim h | skip
  exact lv_ior C0.1 C0.2.1 hd (hs _ _ _ h p e s m args below meth c Rm cells slots Q C0 H locs la ⟨I.1, ⟨trivial, I.2.1.2.2⟩, I.2.2⟩)
def x_ishl : z_X := fun ks kj R C ls st M => match st with
  | .inl y :: .inl x :: r => ks ls (zi (x <<< (y &&& 31)) :: r) M
  | _ => False
theorem s_ishl {X : z_Cx} {D : Nat} {q : z_MI} {pc : Nat}  (hd : decode q.2.1 pc = .ok (.ishl, 1)) : z_Sd X D q pc (pc + 1) (x_ishl) := by
  intro ks kj R ls st M h hs hj p e s m args below meth c Rm cells slots Q C0 H locs la I
  rcases st with _ | ⟨y | y | y, _ | ⟨x | x | x, r⟩⟩ <;> first | exact False.elim h | skip
  exact lv_ishl C0.1 C0.2.1 hd (hs _ _ _ h p e s m args below meth c Rm cells slots Q C0 H locs la ⟨I.1, ⟨trivial, I.2.1.2.2⟩, I.2.2⟩)
def x_ishr : z_X := fun ks kj R C ls st M => match st with
  | .inl y :: .inl x :: r => ks ls (zi (x >>> (y &&& 31)) :: r) M
  | _ => False
theorem s_ishr {X : z_Cx} {D : Nat} {q : z_MI} {pc : Nat}  (hd : decode q.2.1 pc = .ok (.ishr, 1)) : z_Sd X D q pc (pc + 1) (x_ishr) := by
  intro ks kj R ls st M h hs hj p e s m args below meth c Rm cells slots Q C0 H locs la I
  rcases st with _ | ⟨y | y | y, _ | ⟨x | x | x, r⟩⟩ <;> first | exact False.elim h | skip
  exact lv_ishr C0.1 C0.2.1 hd (hs _ _ _ h p e s m args below meth c Rm cells slots Q C0 H locs la ⟨I.1, ⟨trivial, I.2.1.2.2⟩, I.2.2⟩)
def x_iushr : z_X := fun ks kj R C ls st M => match st with
  | .inl y :: .inl x :: r => ks ls (zi ((x.toUInt32 >>> (y.toUInt32 &&& Int32.toUInt32 31)).toInt32) :: r) M
  | _ => False
theorem s_iushr {X : z_Cx} {D : Nat} {q : z_MI} {pc : Nat}  (hd : decode q.2.1 pc = .ok (.iushr, 1)) : z_Sd X D q pc (pc + 1) (x_iushr) := by
  intro ks kj R ls st M h hs hj p e s m args below meth c Rm cells slots Q C0 H locs la I
  rcases st with _ | ⟨y | y | y, _ | ⟨x | x | x, r⟩⟩ <;> first | exact False.elim h | skip
  exact lv_iushr C0.1 C0.2.1 hd rfl (hs _ _ _ h p e s m args below meth c Rm cells slots Q C0 H locs la ⟨I.1, ⟨trivial, I.2.1.2.2⟩, I.2.2⟩)
def x_idiv : z_X := fun ks kj R C ls st M => match st with
  | .inl y :: .inl x :: r => ¬ y = 0 ∧ ks ls (zi (x / y) :: r) M
  | _ => False
theorem s_idiv {X : z_Cx} {D : Nat} {q : z_MI} {pc : Nat}  (hd : decode q.2.1 pc = .ok (.idiv, 1)) : z_Sd X D q pc (pc + 1) (x_idiv) := by
  intro ks kj R ls st M h hs hj p e s m args below meth c Rm cells slots Q C0 H locs la I
  rcases st with _ | ⟨y | y | y, _ | ⟨x | x | x, r⟩⟩ <;> first | exact False.elim h | skip
  exact lv_idiv C0.1 C0.2.1 hd h.1 (hs _ _ _ h.2 p e s m args below meth c Rm cells slots Q C0 H locs la ⟨I.1, ⟨trivial, I.2.1.2.2⟩, I.2.2⟩)
def x_irem : z_X := fun ks kj R C ls st M => match st with
  | .inl y :: .inl x :: r => ¬ y = 0 ∧ ks ls (zi (x - x / y * y) :: r) M
  | _ => False
theorem s_irem {X : z_Cx} {D : Nat} {q : z_MI} {pc : Nat}  (hd : decode q.2.1 pc = .ok (.irem, 1)) : z_Sd X D q pc (pc + 1) (x_irem) := by
  intro ks kj R ls st M h hs hj p e s m args below meth c Rm cells slots Q C0 H locs la I
  rcases st with _ | ⟨y | y | y, _ | ⟨x | x | x, r⟩⟩ <;> first | exact False.elim h | skip
  exact lv_irem C0.1 C0.2.1 hd h.1 (hs _ _ _ h.2 p e s m args below meth c Rm cells slots Q C0 H locs la ⟨I.1, ⟨trivial, I.2.1.2.2⟩, I.2.2⟩)
def x_ladd : z_X := fun ks kj R C ls st M => match st with
  | .inr (.inl y) :: .inr (.inl x) :: r => ks ls (zl (x + y) :: r) M
  | _ => False
theorem s_ladd {X : z_Cx} {D : Nat} {q : z_MI} {pc : Nat}  (hd : decode q.2.1 pc = .ok (.ladd, 1)) : z_Sd X D q pc (pc + 1) (x_ladd) := by
  intro ks kj R ls st M h hs hj p e s m args below meth c Rm cells slots Q C0 H locs la I
  rcases st with _ | ⟨y | y | y, _ | ⟨x | x | x, r⟩⟩ <;> first | exact False.elim h | skip
  exact lv_ladd C0.1 C0.2.1 hd (hs _ _ _ h p e s m args below meth c Rm cells slots Q C0 H locs la ⟨I.1, ⟨trivial, I.2.1.2.2⟩, I.2.2⟩)
def x_lmul : z_X := fun ks kj R C ls st M => match st with
  | .inr (.inl y) :: .inr (.inl x) :: r => ks ls (zl (x * y) :: r) M
  | _ => False
theorem s_lmul {X : z_Cx} {D : Nat} {q : z_MI} {pc : Nat}  (hd : decode q.2.1 pc = .ok (.lmul, 1)) : z_Sd X D q pc (pc + 1) (x_lmul) := by
  intro ks kj R ls st M h hs hj p e s m args below meth c Rm cells slots Q C0 H locs la I
  rcases st with _ | ⟨y | y | y, _ | ⟨x | x | x, r⟩⟩ <;> first | exact False.elim h | skip
  exact lv_lmul C0.1 C0.2.1 hd (hs _ _ _ h p e s m args below meth c Rm cells slots Q C0 H locs la ⟨I.1, ⟨trivial, I.2.1.2.2⟩, I.2.2⟩)
def x_land : z_X := fun ks kj R C ls st M => match st with
  | .inr (.inl y) :: .inr (.inl x) :: r => ks ls (zl (x &&& y) :: r) M
  | _ => False
theorem s_land {X : z_Cx} {D : Nat} {q : z_MI} {pc : Nat}  (hd : decode q.2.1 pc = .ok (.land, 1)) : z_Sd X D q pc (pc + 1) (x_land) := by
  intro ks kj R ls st M h hs hj p e s m args below meth c Rm cells slots Q C0 H locs la I
  rcases st with _ | ⟨y | y | y, _ | ⟨x | x | x, r⟩⟩ <;> first | exact False.elim h | skip
  exact lv_land C0.1 C0.2.1 hd (hs _ _ _ h p e s m args below meth c Rm cells slots Q C0 H locs la ⟨I.1, ⟨trivial, I.2.1.2.2⟩, I.2.2⟩)
def x_lor : z_X := fun ks kj R C ls st M => match st with
  | .inr (.inl y) :: .inr (.inl x) :: r => ks ls (zl (x ||| y) :: r) M
  | _ => False
theorem s_lor {X : z_Cx} {D : Nat} {q : z_MI} {pc : Nat}  (hd : decode q.2.1 pc = .ok (.lor, 1)) : z_Sd X D q pc (pc + 1) (x_lor) := by
  intro ks kj R ls st M h hs hj p e s m args below meth c Rm cells slots Q C0 H locs la I
  rcases st with _ | ⟨y | y | y, _ | ⟨x | x | x, r⟩⟩ <;> first | exact False.elim h | skip
  exact lv_lor C0.1 C0.2.1 hd (hs _ _ _ h p e s m args below meth c Rm cells slots Q C0 H locs la ⟨I.1, ⟨trivial, I.2.1.2.2⟩, I.2.2⟩)
def x_lrem : z_X := fun ks kj R C ls st M => match st with
  | .inr (.inl y) :: .inr (.inl x) :: r => ¬ y = 0 ∧ ks ls (zl (x - x / y * y) :: r) M
  | _ => False
theorem s_lrem {X : z_Cx} {D : Nat} {q : z_MI} {pc : Nat}  (hd : decode q.2.1 pc = .ok (.lrem, 1)) : z_Sd X D q pc (pc + 1) (x_lrem) := by
  intro ks kj R ls st M h hs hj p e s m args below meth c Rm cells slots Q C0 H locs la I
  rcases st with _ | ⟨y | y | y, _ | ⟨x | x | x, r⟩⟩ <;> first | exact False.elim h | skip
  exact lv_lrem C0.1 C0.2.1 hd h.1 (hs _ _ _ h.2 p e s m args below meth c Rm cells slots Q C0 H locs la ⟨I.1, ⟨trivial, I.2.1.2.2⟩, I.2.2⟩)
def x_lcmp : z_X := fun ks kj R C ls st M => match st with
  | .inr (.inl y) :: .inr (.inl x) :: r => ks ls (zi (lg_cmp x y) :: r) M
  | _ => False
theorem s_lcmp {X : z_Cx} {D : Nat} {q : z_MI} {pc : Nat}  (hd : decode q.2.1 pc = .ok (.lcmp, 1)) : z_Sd X D q pc (pc + 1) (x_lcmp) := by
  intro ks kj R ls st M h hs hj p e s m args below meth c Rm cells slots Q C0 H locs la I
  rcases st with _ | ⟨y | y | y, _ | ⟨x | x | x, r⟩⟩ <;> first | exact False.elim h | skip
  exact W.lcmp C0.1 C0.2.1 hd (hs _ _ _ h p e s m args below meth c Rm cells slots Q C0 H locs la ⟨I.1, ⟨trivial, I.2.1.2.2⟩, I.2.2⟩)
def x_lshl : z_X := fun ks kj R C ls st M => match st with
  | .inl y :: .inr (.inl x) :: r => ks ls (zl (x <<< (y.toInt64 &&& 63)) :: r) M
  | _ => False
theorem s_lshl {X : z_Cx} {D : Nat} {q : z_MI} {pc : Nat}  (hd : decode q.2.1 pc = .ok (.lshl, 1)) : z_Sd X D q pc (pc + 1) (x_lshl) := by
  intro ks kj R ls st M h hs hj p e s m args below meth c Rm cells slots Q C0 H locs la I
  rcases st with _ | ⟨y | y | y, _ | ⟨x | x | x, r⟩⟩ <;> first | exact False.elim h | skip
  exact lv_lshl C0.1 C0.2.1 hd rfl (hs _ _ _ h p e s m args below meth c Rm cells slots Q C0 H locs la ⟨I.1, ⟨trivial, I.2.1.2.2⟩, I.2.2⟩)
def x_lshr : z_X := fun ks kj R C ls st M => match st with
  | .inl y :: .inr (.inl x) :: r => ks ls (zl (x >>> (y.toInt64 &&& 63)) :: r) M
  | _ => False
theorem s_lshr {X : z_Cx} {D : Nat} {q : z_MI} {pc : Nat}  (hd : decode q.2.1 pc = .ok (.lshr, 1)) : z_Sd X D q pc (pc + 1) (x_lshr) := by
  intro ks kj R ls st M h hs hj p e s m args below meth c Rm cells slots Q C0 H locs la I
  rcases st with _ | ⟨y | y | y, _ | ⟨x | x | x, r⟩⟩ <;> first | exact False.elim h | skip
  exact lv_lshr C0.1 C0.2.1 hd rfl (hs _ _ _ h p e s m args below meth c Rm cells slots Q C0 H locs la ⟨I.1, ⟨trivial, I.2.1.2.2⟩, I.2.2⟩)
def x_lushr : z_X := fun ks kj R C ls st M => match st with
  | .inl y :: .inr (.inl x) :: r => ks ls (zl ((x.toUInt64 >>> (y.toInt64.toUInt64 &&& Int64.toUInt64 63)).toInt64) :: r) M
  | _ => False
theorem s_lushr {X : z_Cx} {D : Nat} {q : z_MI} {pc : Nat}  (hd : decode q.2.1 pc = .ok (.lushr, 1)) : z_Sd X D q pc (pc + 1) (x_lushr) := by
  intro ks kj R ls st M h hs hj p e s m args below meth c Rm cells slots Q C0 H locs la I
  rcases st with _ | ⟨y | y | y, _ | ⟨x | x | x, r⟩⟩ <;> first | exact False.elim h | skip
  exact lv_lushr C0.1 C0.2.1 hd rfl (hs _ _ _ h p e s m args below meth c Rm cells slots Q C0 H locs la ⟨I.1, ⟨trivial, I.2.1.2.2⟩, I.2.2⟩)
def x_ineg : z_X := fun ks kj R C ls st M => match st with
  | .inl x :: r => ks ls (zi (-x) :: r) M
  | _ => False
theorem s_ineg {X : z_Cx} {D : Nat} {q : z_MI} {pc : Nat}  (hd : decode q.2.1 pc = .ok (.ineg, 1)) : z_Sd X D q pc (pc + 1) (x_ineg) := by
  intro ks kj R ls st M h hs hj p e s m args below meth c Rm cells slots Q C0 H locs la I
  rcases st with _ | ⟨x | x | x, r⟩ <;> first | exact False.elim h | skip
  exact lv_ineg C0.1 C0.2.1 hd (hs _ _ _ h p e s m args below meth c Rm cells slots Q C0 H locs la ⟨I.1, ⟨trivial, I.2.1.2⟩, I.2.2⟩)
def x_i2l : z_X := fun ks kj R C ls st M => match st with
  | .inl x :: r => ks ls (zl x.toInt64 :: r) M
  | _ => False
theorem s_i2l {X : z_Cx} {D : Nat} {q : z_MI} {pc : Nat}  (hd : decode q.2.1 pc = .ok (.i2l, 1)) : z_Sd X D q pc (pc + 1) (x_i2l) := by
  intro ks kj R ls st M h hs hj p e s m args below meth c Rm cells slots Q C0 H locs la I
  rcases st with _ | ⟨x | x | x, r⟩ <;> first | exact False.elim h | skip
  exact lv_i2l C0.1 C0.2.1 hd rfl (hs _ _ _ h p e s m args below meth c Rm cells slots Q C0 H locs la ⟨I.1, ⟨trivial, I.2.1.2⟩, I.2.2⟩)
def x_i2b : z_X := fun ks kj R C ls st M => match st with
  | .inl x :: r => ks ls (zi x.toInt8.toInt32 :: r) M
  | _ => False
theorem s_i2b {X : z_Cx} {D : Nat} {q : z_MI} {pc : Nat}  (hd : decode q.2.1 pc = .ok (.i2b, 1)) : z_Sd X D q pc (pc + 1) (x_i2b) := by
  intro ks kj R ls st M h hs hj p e s m args below meth c Rm cells slots Q C0 H locs la I
  rcases st with _ | ⟨x | x | x, r⟩ <;> first | exact False.elim h | skip
  exact lv_i2b C0.1 C0.2.1 hd rfl (hs _ _ _ h p e s m args below meth c Rm cells slots Q C0 H locs la ⟨I.1, ⟨trivial, I.2.1.2⟩, I.2.2⟩)
def x_i2s : z_X := fun ks kj R C ls st M => match st with
  | .inl x :: r => ks ls (zi x.toInt16.toInt32 :: r) M
  | _ => False
theorem s_i2s {X : z_Cx} {D : Nat} {q : z_MI} {pc : Nat}  (hd : decode q.2.1 pc = .ok (.i2s, 1)) : z_Sd X D q pc (pc + 1) (x_i2s) := by
  intro ks kj R ls st M h hs hj p e s m args below meth c Rm cells slots Q C0 H locs la I
  rcases st with _ | ⟨x | x | x, r⟩ <;> first | exact False.elim h | skip
  exact lv_i2s C0.1 C0.2.1 hd rfl (hs _ _ _ h p e s m args below meth c Rm cells slots Q C0 H locs la ⟨I.1, ⟨trivial, I.2.1.2⟩, I.2.2⟩)
def x_i2c : z_X := fun ks kj R C ls st M => match st with
  | .inl x :: r => ks ls (zi ((x.toUInt32 % 65536).toInt32) :: r) M
  | _ => False
theorem s_i2c {X : z_Cx} {D : Nat} {q : z_MI} {pc : Nat}  (hd : decode q.2.1 pc = .ok (.i2c, 1)) : z_Sd X D q pc (pc + 1) (x_i2c) := by
  intro ks kj R ls st M h hs hj p e s m args below meth c Rm cells slots Q C0 H locs la I
  rcases st with _ | ⟨x | x | x, r⟩ <;> first | exact False.elim h | skip
  exact lv_i2c C0.1 C0.2.1 hd rfl (hs _ _ _ h p e s m args below meth c Rm cells slots Q C0 H locs la ⟨I.1, ⟨trivial, I.2.1.2⟩, I.2.2⟩)
def x_l2i : z_X := fun ks kj R C ls st M => match st with
  | .inr (.inl x) :: r => ks ls (zi x.toInt32 :: r) M
  | _ => False
theorem s_l2i {X : z_Cx} {D : Nat} {q : z_MI} {pc : Nat}  (hd : decode q.2.1 pc = .ok (.l2i, 1)) : z_Sd X D q pc (pc + 1) (x_l2i) := by
  intro ks kj R ls st M h hs hj p e s m args below meth c Rm cells slots Q C0 H locs la I
  rcases st with _ | ⟨x | x | x, r⟩ <;> first | exact False.elim h | skip
  exact lv_l2i C0.1 C0.2.1 hd rfl (hs _ _ _ h p e s m args below meth c Rm cells slots Q C0 H locs la ⟨I.1, ⟨trivial, I.2.1.2⟩, I.2.2⟩)
def x_ic (v : Int32) : z_X := fun ks _ _ _ ls st M => ks ls (zi v :: st) M
def x_lc (v : Int64) : z_X := fun ks _ _ _ ls st M => ks ls (zl v :: st) M
theorem s_iconst {X : z_Cx} {D : Nat} {q : z_MI} {pc : Nat} {n : Int} {v : Int32} (hd : decode q.2.1 pc = .ok (.iconst n, 1)) (hv : Int32.ofInt n = v) : z_Sd X D q pc (pc + 1) (x_ic v) := by
  intro ks kj R ls st M h hs hj p e s m args below meth c Rm cells slots Q C0 H locs la I
  exact lv_iconst C0.1 C0.2.1 hd hv (hs _ _ _ h p e s m args below meth c Rm cells slots Q C0 H locs la ⟨I.1, ⟨trivial, I.2.1⟩, I.2.2⟩)
theorem s_bipush {X : z_Cx} {D : Nat} {q : z_MI} {pc : Nat} {n : Int} {v : Int32} (hd : decode q.2.1 pc = .ok (.bipush n, 2)) (hv : (Int8.ofInt n).toInt32 = v) : z_Sd X D q pc (pc + 2) (x_ic v) := by
  intro ks kj R ls st M h hs hj p e s m args below meth c Rm cells slots Q C0 H locs la I
  exact lv_bipush C0.1 C0.2.1 hd hv (hs _ _ _ h p e s m args below meth c Rm cells slots Q C0 H locs la ⟨I.1, ⟨trivial, I.2.1⟩, I.2.2⟩)
theorem s_sipush {X : z_Cx} {D : Nat} {q : z_MI} {pc : Nat} {n : Int} {v : Int32} (hd : decode q.2.1 pc = .ok (.sipush n, 3)) (hv : (Int16.ofInt n).toInt32 = v) : z_Sd X D q pc (pc + 3) (x_ic v) := by
  intro ks kj R ls st M h hs hj p e s m args below meth c Rm cells slots Q C0 H locs la I
  exact lv_sipush C0.1 C0.2.1 hd hv (hs _ _ _ h p e s m args below meth c Rm cells slots Q C0 H locs la ⟨I.1, ⟨trivial, I.2.1⟩, I.2.2⟩)
theorem s_ldc {X : z_Cx} {D : Nat} {q : z_MI} {pc : Nat} {i : Nat} {v : Int32} (hd : decode q.2.1 pc = .ok (.ldc i, 2)) (hv : Cond.constant q.1.cls i v ∈ z_U) : z_Sd X D q pc (pc + 2) (x_ic v) := by
  intro ks kj R ls st M h hs hj p e s m args below meth c Rm cells slots Q C0 H locs la I
  exact lv_ldc C0.1 C0.2.1 C0.2.2.2.1 (C0.2.2.2.2.1 _ hv) hd (hs _ _ _ h p e s m args below meth c Rm cells slots Q C0 H locs la ⟨I.1, ⟨trivial, I.2.1⟩, I.2.2⟩)
theorem s_ldcw {X : z_Cx} {D : Nat} {q : z_MI} {pc : Nat} {i : Nat} {v : Int32} (hd : decode q.2.1 pc = .ok (.ldc_w i, 3)) (hv : Cond.constant q.1.cls i v ∈ z_U) : z_Sd X D q pc (pc + 3) (x_ic v) := by
  intro ks kj R ls st M h hs hj p e s m args below meth c Rm cells slots Q C0 H locs la I
  exact lv_ldcw C0.1 C0.2.1 C0.2.2.2.1 (C0.2.2.2.2.1 _ hv) hd (hs _ _ _ h p e s m args below meth c Rm cells slots Q C0 H locs la ⟨I.1, ⟨trivial, I.2.1⟩, I.2.2⟩)
theorem s_ldc2 {X : z_Cx} {D : Nat} {q : z_MI} {pc : Nat} {i : Nat} {v : Int64} (hd : decode q.2.1 pc = .ok (.ldc2_w i, 3)) (hv : Cond.constantLong q.1.cls i v ∈ z_U) : z_Sd X D q pc (pc + 3) (x_lc v) := by
  intro ks kj R ls st M h hs hj p e s m args below meth c Rm cells slots Q C0 H locs la I
  exact lv_ldc2 C0.1 C0.2.1 C0.2.2.2.1 (C0.2.2.2.2.1 _ hv) hd (hs _ _ _ h p e s m args below meth c Rm cells slots Q C0 H locs la ⟨I.1, ⟨trivial, I.2.1⟩, I.2.2⟩)
theorem s_lconst {X : z_Cx} {D : Nat} {q : z_MI} {pc : Nat} {n : Fin 2} {v : Int64} (hd : decode q.2.1 pc = .ok (.lconst n, 1)) (hv : Int64.ofNat (n : Nat) = v) : z_Sd X D q pc (pc + 1) (x_lc v) := by
  intro ks kj R ls st M h hs hj p e s m args below meth c Rm cells slots Q C0 H locs la I
  exact lv_lconst C0.1 C0.2.1 hd hv (hs _ _ _ h p e s m args below meth c Rm cells slots Q C0 H locs la ⟨I.1, ⟨trivial, I.2.1⟩, I.2.2⟩)
def x_ild (i : Nat) : z_X := fun ks _ _ _ ls st M => match z_lk i ls with
  | some (.inl x) => ks ls (zi x :: st) M
  | _ => False
def x_ald (i : Nat) : z_X := fun ks _ _ _ ls st M => match z_lk i ls with
  | some (.inr (.inr x)) => ks ls (.inr (.inr x) :: st) M
  | _ => False
def x_lld (i : Nat) : z_X := fun ks _ _ _ ls st M => match z_lk i ls with
  | some (.inr (.inl x)) => ks ls (zl x :: st) M
  | _ => False
theorem s_iload_n {X : z_Cx} {D : Nat} {q : z_MI} {pc i : Nat} {k : Fin 4} (hd : decode q.2.1 pc = .ok (.iload_n k, 1)) (hi : (k : Nat) = i) : z_Sd X D q pc (pc + 1) (x_ild i) := by
  intro ks kj R ls st M h hs hj p e s m args below meth c Rm cells slots Q C0 H locs la I
  cases hk : z_lk i ls with
  | none => unfold x_ild at h; rw [hk] at h; exact False.elim h
  | some v =>
    unfold x_ild at h
    rw [hk] at h
    rcases v with x | x | x <;> first | exact False.elim h | skip
    exact lv_iload_n C0.1 C0.2.1 hd hi (z_lk_has hk I.2.2.2.2) (hs _ _ _ h p e s m args below meth c Rm cells slots Q C0 H locs la ⟨I.1, ⟨trivial, I.2.1⟩, I.2.2⟩)
theorem s_iload {X : z_Cx} {D : Nat} {q : z_MI} {pc i : Nat}  (hd : decode q.2.1 pc = .ok (.iload i, 2)) : z_Sd X D q pc (pc + 2) (x_ild i) := by
  intro ks kj R ls st M h hs hj p e s m args below meth c Rm cells slots Q C0 H locs la I
  cases hk : z_lk i ls with
  | none => unfold x_ild at h; rw [hk] at h; exact False.elim h
  | some v =>
    unfold x_ild at h
    rw [hk] at h
    rcases v with x | x | x <;> first | exact False.elim h | skip
    exact lv_iload C0.1 C0.2.1 hd (z_lk_has hk I.2.2.2.2) (hs _ _ _ h p e s m args below meth c Rm cells slots Q C0 H locs la ⟨I.1, ⟨trivial, I.2.1⟩, I.2.2⟩)
theorem s_aload_n {X : z_Cx} {D : Nat} {q : z_MI} {pc i : Nat} {k : Fin 4} (hd : decode q.2.1 pc = .ok (.aload_n k, 1)) (hi : (k : Nat) = i) : z_Sd X D q pc (pc + 1) (x_ald i) := by
  intro ks kj R ls st M h hs hj p e s m args below meth c Rm cells slots Q C0 H locs la I
  cases hk : z_lk i ls with
  | none => unfold x_ald at h; rw [hk] at h; exact False.elim h
  | some v =>
    unfold x_ald at h
    rw [hk] at h
    rcases v with x | x | x <;> first | exact False.elim h | skip
    exact lv_aload_n C0.1 C0.2.1 hd hi (z_lk_has hk I.2.2.2.2) (hs _ _ _ h p e s m args below meth c Rm cells slots Q C0 H locs la ⟨I.1, ⟨z_lk_ok hk I.1, I.2.1⟩, I.2.2⟩)
theorem s_aload {X : z_Cx} {D : Nat} {q : z_MI} {pc i : Nat}  (hd : decode q.2.1 pc = .ok (.aload i, 2)) : z_Sd X D q pc (pc + 2) (x_ald i) := by
  intro ks kj R ls st M h hs hj p e s m args below meth c Rm cells slots Q C0 H locs la I
  cases hk : z_lk i ls with
  | none => unfold x_ald at h; rw [hk] at h; exact False.elim h
  | some v =>
    unfold x_ald at h
    rw [hk] at h
    rcases v with x | x | x <;> first | exact False.elim h | skip
    exact lv_aload C0.1 C0.2.1 hd (z_lk_has hk I.2.2.2.2) (hs _ _ _ h p e s m args below meth c Rm cells slots Q C0 H locs la ⟨I.1, ⟨z_lk_ok hk I.1, I.2.1⟩, I.2.2⟩)
theorem s_lload_n {X : z_Cx} {D : Nat} {q : z_MI} {pc i : Nat} {k : Fin 4} (hd : decode q.2.1 pc = .ok (.lload_n k, 1)) (hi : (k : Nat) = i) : z_Sd X D q pc (pc + 1) (x_lld i) := by
  intro ks kj R ls st M h hs hj p e s m args below meth c Rm cells slots Q C0 H locs la I
  cases hk : z_lk i ls with
  | none => unfold x_lld at h; rw [hk] at h; exact False.elim h
  | some v =>
    unfold x_lld at h
    rw [hk] at h
    rcases v with x | x | x <;> first | exact False.elim h | skip
    exact lv_lload_n C0.1 C0.2.1 hd hi (z_lk_has hk I.2.2.2.2) (hs _ _ _ h p e s m args below meth c Rm cells slots Q C0 H locs la ⟨I.1, ⟨trivial, I.2.1⟩, I.2.2⟩)
theorem s_lload {X : z_Cx} {D : Nat} {q : z_MI} {pc i : Nat}  (hd : decode q.2.1 pc = .ok (.lload i, 2)) : z_Sd X D q pc (pc + 2) (x_lld i) := by
  intro ks kj R ls st M h hs hj p e s m args below meth c Rm cells slots Q C0 H locs la I
  cases hk : z_lk i ls with
  | none => unfold x_lld at h; rw [hk] at h; exact False.elim h
  | some v =>
    unfold x_lld at h
    rw [hk] at h
    rcases v with x | x | x <;> first | exact False.elim h | skip
    exact lv_lload C0.1 C0.2.1 hd (z_lk_has hk I.2.2.2.2) (hs _ _ _ h p e s m args below meth c Rm cells slots Q C0 H locs la ⟨I.1, ⟨trivial, I.2.1⟩, I.2.2⟩)
theorem z_st1 {X : z_Cx} {nL i : Nat} {la : Array Slot} {ls : z_L} {v : z_V} (h : lv_has la nL ((i, z_co X.2.2.1 v) :: (z_cl X ls).filter (fun q => !(q.1 == i) && !(q.1 + 1 == i && q.2.category == 2)))) : lv_has la nL (z_cl X ((i, v) :: z_rm1 i ls)) := by
  refine ⟨h.1, h.2.1, fun q hq => h.2.2 q ?_⟩
  rcases List.mem_cons.mp hq with e | hq
  · rw [e]; exact List.mem_cons_self
  · obtain ⟨a, ha, rfl⟩ := List.mem_map.mp hq
    obtain ⟨h1, h2, h3⟩ := z_rm1_sub ha
    refine List.mem_cons_of_mem _ (List.mem_filter.mpr ⟨List.mem_map.mpr ⟨a, h1, rfl⟩, ?_⟩)
    have e1 : (a.1 == i) = false := beq_eq_false_iff_ne.mpr h2
    show (!(a.1 == i) && !(a.1 + 1 == i && (z_co X.2.2.1 a.2).category == 2)) = true
    rw [e1, z_co_cat]
    by_cases e2 : a.1 + 1 = i
    · have : z_isl a.2 = false := by
        cases hz : z_isl a.2 with
        | true => exact absurd ⟨e2, hz⟩ h3
        | false => rfl
      rw [this]; simp
    · have e3 : (a.1 + 1 == i) = false := beq_eq_false_iff_ne.mpr e2
      rw [e3]; rfl
theorem z_st2 {X : z_Cx} {nL i : Nat} {la : Array Slot} {ls : z_L} {v : z_V} (h : lv_has la nL ((i, z_co X.2.2.1 v) :: (z_cl X ls).filter (fun q => !(q.1 == i) && (!(q.1 == i + 1) && !(q.1 + 1 == i && q.2.category == 2))))) : lv_has la nL (z_cl X ((i, v) :: z_rm1 i (z_rm1 (i + 1) ls))) := by
  refine ⟨h.1, h.2.1, fun q hq => h.2.2 q ?_⟩
  rcases List.mem_cons.mp hq with e | hq
  · rw [e]; exact List.mem_cons_self
  · obtain ⟨a, ha, rfl⟩ := List.mem_map.mp hq
    obtain ⟨h0, h2, h3⟩ := z_rm1_sub ha
    obtain ⟨h1, h4, -⟩ := z_rm1_sub h0
    refine List.mem_cons_of_mem _ (List.mem_filter.mpr ⟨List.mem_map.mpr ⟨a, h1, rfl⟩, ?_⟩)
    have e1 : (a.1 == i) = false := beq_eq_false_iff_ne.mpr h2
    have e4 : (a.1 == i + 1) = false := beq_eq_false_iff_ne.mpr h4
    show (!(a.1 == i) && (!(a.1 == i + 1) && !(a.1 + 1 == i && (z_co X.2.2.1 a.2).category == 2))) = true
    rw [e1, e4, z_co_cat]
    by_cases e2 : a.1 + 1 = i
    · have : z_isl a.2 = false := by
        cases hz : z_isl a.2 with
        | true => exact absurd ⟨e2, hz⟩ h3
        | false => rfl
      rw [this]; simp
    · have e3 : (a.1 + 1 == i) = false := beq_eq_false_iff_ne.mpr e2
      rw [e3]; rfl
def x_ist (i : Nat) : z_X := fun ks kj R C ls st M => match st with
  | .inl x :: r => z_rmk i ls (fun l => ks ((i, zi x) :: l) r M)
  | _ => False
def x_ast (i : Nat) : z_X := fun ks kj R C ls st M => match st with
  | .inr (.inr x) :: r => z_rmk i ls (fun l => ks ((i, .inr (.inr x)) :: l) r M)
  | _ => False
def x_lst (i : Nat) : z_X := fun ks kj R C ls st M => match st with
  | .inr (.inl x) :: r => z_rmk (i + 1) ls (fun l => z_rmk i l (fun l => ks ((i, zl x) :: l) r M))
  | _ => False
theorem s_istore {X : z_Cx} {D : Nat} {q : z_MI} {pc : Nat} {i : Nat}  (hd : decode q.2.1 pc = .ok (.istore i, 2)) (hn : Nat.ble (i + 1) q.2.2.1 = true) : z_Sd X D q pc (pc + 2) (x_ist i) := by
  intro ks kj R ls st M h hs hj p e s m args below meth c Rm cells slots Q C0 H locs la I
  rcases st with _ | ⟨x | x | x, r⟩ <;> first | exact False.elim h | skip
  simp only [x_ist, z_rmk_eq] at h
  exact lv_istore C0.1 C0.2.1 hd I.2.2.2.2 (Nat.le_of_ble_eq_true hn) rfl (fun la' hl' => hs _ _ _ h p e s m args below meth c Rm cells slots Q C0 H locs la' ⟨⟨trivial, z_rm1_okl I.1⟩, I.2.1.2, I.2.2.1, I.2.2.2.1, z_st1 (v := zi x) hl'⟩)
theorem s_istore_n {X : z_Cx} {D : Nat} {q : z_MI} {pc : Nat} {i : Nat} {k : Fin 4} (hd : decode q.2.1 pc = .ok (.istore_n k, 1)) (hi : (k : Nat) = i) (hn : Nat.ble (i + 1) q.2.2.1 = true) : z_Sd X D q pc (pc + 1) (x_ist i) := by
  intro ks kj R ls st M h hs hj p e s m args below meth c Rm cells slots Q C0 H locs la I
  rcases st with _ | ⟨x | x | x, r⟩ <;> first | exact False.elim h | skip
  simp only [x_ist, z_rmk_eq] at h
  exact lv_istore_n C0.1 C0.2.1 hd hi I.2.2.2.2 (Nat.le_of_ble_eq_true hn) rfl (fun la' hl' => hs _ _ _ h p e s m args below meth c Rm cells slots Q C0 H locs la' ⟨⟨trivial, z_rm1_okl I.1⟩, I.2.1.2, I.2.2.1, I.2.2.2.1, z_st1 (v := zi x) hl'⟩)
theorem s_astore {X : z_Cx} {D : Nat} {q : z_MI} {pc : Nat} {i : Nat}  (hd : decode q.2.1 pc = .ok (.astore i, 2)) (hn : Nat.ble (i + 1) q.2.2.1 = true) : z_Sd X D q pc (pc + 2) (x_ast i) := by
  intro ks kj R ls st M h hs hj p e s m args below meth c Rm cells slots Q C0 H locs la I
  rcases st with _ | ⟨x | x | x, r⟩ <;> first | exact False.elim h | skip
  simp only [x_ast, z_rmk_eq] at h
  exact lv_astore C0.1 C0.2.1 hd I.2.2.2.2 (Nat.le_of_ble_eq_true hn) rfl (fun la' hl' => hs _ _ _ h p e s m args below meth c Rm cells slots Q C0 H locs la' ⟨⟨I.2.1.1, z_rm1_okl I.1⟩, I.2.1.2, I.2.2.1, I.2.2.2.1, z_st1 (v := .inr (.inr x)) hl'⟩)
theorem s_astore_n {X : z_Cx} {D : Nat} {q : z_MI} {pc : Nat} {i : Nat} {k : Fin 4} (hd : decode q.2.1 pc = .ok (.astore_n k, 1)) (hi : (k : Nat) = i) (hn : Nat.ble (i + 1) q.2.2.1 = true) : z_Sd X D q pc (pc + 1) (x_ast i) := by
  intro ks kj R ls st M h hs hj p e s m args below meth c Rm cells slots Q C0 H locs la I
  rcases st with _ | ⟨x | x | x, r⟩ <;> first | exact False.elim h | skip
  simp only [x_ast, z_rmk_eq] at h
  exact lv_astore_n C0.1 C0.2.1 hd hi I.2.2.2.2 (Nat.le_of_ble_eq_true hn) rfl (fun la' hl' => hs _ _ _ h p e s m args below meth c Rm cells slots Q C0 H locs la' ⟨⟨I.2.1.1, z_rm1_okl I.1⟩, I.2.1.2, I.2.2.1, I.2.2.2.1, z_st1 (v := .inr (.inr x)) hl'⟩)
theorem s_lstore {X : z_Cx} {D : Nat} {q : z_MI} {pc : Nat} {i : Nat}  (hd : decode q.2.1 pc = .ok (.lstore i, 2)) (hn : Nat.ble (i + 1 + 1) q.2.2.1 = true) : z_Sd X D q pc (pc + 2) (x_lst i) := by
  intro ks kj R ls st M h hs hj p e s m args below meth c Rm cells slots Q C0 H locs la I
  rcases st with _ | ⟨x | x | x, r⟩ <;> first | exact False.elim h | skip
  simp only [x_lst, z_rmk_eq] at h
  exact lv_lstore C0.1 C0.2.1 hd I.2.2.2.2 (Nat.le_of_ble_eq_true hn) rfl (fun la' hl' => hs _ _ _ h p e s m args below meth c Rm cells slots Q C0 H locs la' ⟨⟨trivial, z_rm1_okl (z_rm1_okl I.1)⟩, I.2.1.2, I.2.2.1, I.2.2.2.1, z_st2 (v := zl x) hl'⟩)
theorem s_lstore_n {X : z_Cx} {D : Nat} {q : z_MI} {pc : Nat} {i : Nat} {k : Fin 4} (hd : decode q.2.1 pc = .ok (.lstore_n k, 1)) (hi : (k : Nat) = i) (hn : Nat.ble (i + 1 + 1) q.2.2.1 = true) : z_Sd X D q pc (pc + 1) (x_lst i) := by
  intro ks kj R ls st M h hs hj p e s m args below meth c Rm cells slots Q C0 H locs la I
  rcases st with _ | ⟨x | x | x, r⟩ <;> first | exact False.elim h | skip
  simp only [x_lst, z_rmk_eq] at h
  exact lv_lstore_n C0.1 C0.2.1 hd hi I.2.2.2.2 (Nat.le_of_ble_eq_true hn) rfl (fun la' hl' => hs _ _ _ h p e s m args below meth c Rm cells slots Q C0 H locs la' ⟨⟨trivial, z_rm1_okl (z_rm1_okl I.1)⟩, I.2.1.2, I.2.2.1, I.2.2.2.1, z_st2 (v := zl x) hl'⟩)
def x_iinc (i : Nat) (d : Int32) : z_X := fun ks _ _ _ ls st M => match z_lk i ls with
  | some (.inl x) => z_rmk i ls (fun l => ks ((i, zi (x + d)) :: l) st M)
  | _ => False
theorem s_iinc {X : z_Cx} {D : Nat} {q : z_MI} {pc i : Nat} {n : Int} {d : Int32} (hd : decode q.2.1 pc = .ok (.iinc i n, 3)) (hv : Int32.ofInt n = d) (hn : Nat.ble (i + 1) q.2.2.1 = true) : z_Sd X D q pc (pc + 3) (x_iinc i d) := by
  intro ks kj R ls st M h hs hj p e s m args below meth c Rm cells slots Q C0 H locs la I
  cases hk : z_lk i ls with
  | none => unfold x_iinc at h; rw [hk] at h; exact False.elim h
  | some v =>
    unfold x_iinc at h
    rw [hk] at h
    rcases v with x | x | x <;> first | exact False.elim h | skip
    simp only [z_rmk_eq] at h
    obtain ⟨k, hkk⟩ := List.getElem?_of_mem (List.mem_map.mpr ⟨(i, .inl x), z_lk_mem hk, rfl⟩ : (i, z_co X.2.2.1 (.inl x)) ∈ z_cl X ls)
    exact lv_iinc (v := x + d) C0.1 C0.2.1 hd I.2.2.2.2 hkk (by rw [hv]) (Nat.le_of_ble_eq_true hn) rfl (fun la' hl' => hs _ _ _ h p e s m args below meth c Rm cells slots Q C0 H locs la' ⟨⟨trivial, z_rm1_okl I.1⟩, I.2.1, I.2.2.1, I.2.2.2.1, z_st1 (v := zi (x + d)) hl'⟩)
def x_dup : z_X := fun ks kj R C ls st M => match st with
  | .inl x :: r => ks ls (zi x :: zi x :: r) M
  | _ => False
theorem s_dup {X : z_Cx} {D : Nat} {q : z_MI} {pc : Nat}  (hd : decode q.2.1 pc = .ok (.dup, 1)) : z_Sd X D q pc (pc + 1) (x_dup) := by
  intro ks kj R ls st M h hs hj p e s m args below meth c Rm cells slots Q C0 H locs la I
  rcases st with _ | ⟨x | x | x, r⟩ <;> first | exact False.elim h | skip
  exact lv_dup C0.1 C0.2.1 hd rfl (hs _ _ _ h p e s m args below meth c Rm cells slots Q C0 H locs la ⟨I.1, ⟨trivial, I.2.1⟩, I.2.2⟩)
def x_dupr : z_X := fun ks kj R C ls st M => match st with
  | .inr (.inr x) :: r => ks ls (.inr (.inr x) :: .inr (.inr x) :: r) M
  | _ => False
theorem s_dupr {X : z_Cx} {D : Nat} {q : z_MI} {pc : Nat}  (hd : decode q.2.1 pc = .ok (.dup, 1)) : z_Sd X D q pc (pc + 1) (x_dupr) := by
  intro ks kj R ls st M h hs hj p e s m args below meth c Rm cells slots Q C0 H locs la I
  rcases st with _ | ⟨x | x | x, r⟩ <;> first | exact False.elim h | skip
  exact lv_dup C0.1 C0.2.1 hd rfl (hs _ _ _ h p e s m args below meth c Rm cells slots Q C0 H locs la ⟨I.1, ⟨I.2.1.1, I.2.1⟩, I.2.2⟩)
def x_dup2 : z_X := fun ks kj R C ls st M => match st with
  | .inl y :: .inr (.inr x) :: r => ks ls (zi y :: .inr (.inr x) :: zi y :: .inr (.inr x) :: r) M
  | _ => False
theorem s_dup2 {X : z_Cx} {D : Nat} {q : z_MI} {pc : Nat}  (hd : decode q.2.1 pc = .ok (.dup2, 1)) : z_Sd X D q pc (pc + 1) (x_dup2) := by
  intro ks kj R ls st M h hs hj p e s m args below meth c Rm cells slots Q C0 H locs la I
  rcases st with _ | ⟨y | y | y, _ | ⟨x | x | x, r⟩⟩ <;> first | exact False.elim h | skip
  exact lv_dup2_11 C0.1 C0.2.1 hd rfl rfl (hs _ _ _ h p e s m args below meth c Rm cells slots Q C0 H locs la ⟨I.1, ⟨trivial, I.2.1.2.1, I.2.1⟩, I.2.2⟩)
def x_pop : z_X := fun ks kj R C ls st M => match st with
  | .inl x :: r => ks ls r M
  | _ => False
theorem s_pop {X : z_Cx} {D : Nat} {q : z_MI} {pc : Nat}  (hd : decode q.2.1 pc = .ok (.pop, 1)) : z_Sd X D q pc (pc + 1) (x_pop) := by
  intro ks kj R ls st M h hs hj p e s m args below meth c Rm cells slots Q C0 H locs la I
  rcases st with _ | ⟨x | x | x, r⟩ <;> first | exact False.elim h | skip
  exact lv_pop C0.1 C0.2.1 hd rfl (hs _ _ _ h p e s m args below meth c Rm cells slots Q C0 H locs la ⟨I.1, I.2.1.2, I.2.2⟩)
def x_if_eq (t : Nat) : z_X := fun ks kj R C ls st M => match st with
  | .inl x :: r => (x = 0 → kj t ls r M) ∧ (¬ x = 0 → ks ls r M)
  | _ => False
theorem s_if_eq {X : z_Cx} {D : Nat} {q : z_MI} {pc : Nat} {off : Int} {t : Nat} (hd : decode q.2.1 pc = .ok (.ifCond .eq off, 3)) (ht : (pc : Int) + off = (t : Int)) : z_Sd X D q pc (pc + 3) (x_if_eq t) := by
  intro ks kj R ls st M h hs hj p e s m args below meth c Rm cells slots Q C0 H locs la I
  rcases st with _ | ⟨x | x | x, r⟩ <;> first | exact False.elim h | skip
  exact lv_if_eq C0.1 C0.2.1 hd ht (fun g => hj _ _ _ _ (h.1 g) p e s m args below meth c Rm cells slots Q C0 H locs la ⟨I.1, I.2.1.2, I.2.2⟩) (fun g => hs _ _ _ (h.2 g) p e s m args below meth c Rm cells slots Q C0 H locs la ⟨I.1, I.2.1.2, I.2.2⟩)
def x_ic_eq (t : Nat) : z_X := fun ks kj R C ls st M => match st with
  | .inl y :: .inl x :: r => (x = y → kj t ls r M) ∧ (¬ x = y → ks ls r M)
  | _ => False
theorem s_ic_eq {X : z_Cx} {D : Nat} {q : z_MI} {pc : Nat} {off : Int} {t : Nat} (hd : decode q.2.1 pc = .ok (.if_icmp .eq off, 3)) (ht : (pc : Int) + off = (t : Int)) : z_Sd X D q pc (pc + 3) (x_ic_eq t) := by
  intro ks kj R ls st M h hs hj p e s m args below meth c Rm cells slots Q C0 H locs la I
  rcases st with _ | ⟨y | y | y, _ | ⟨x | x | x, r⟩⟩ <;> first | exact False.elim h | skip
  exact lv_icmp_eq C0.1 C0.2.1 hd ht (fun g => hj _ _ _ _ (h.1 g) p e s m args below meth c Rm cells slots Q C0 H locs la ⟨I.1, I.2.1.2.2, I.2.2⟩) (fun g => hs _ _ _ (h.2 g) p e s m args below meth c Rm cells slots Q C0 H locs la ⟨I.1, I.2.1.2.2, I.2.2⟩)
def x_if_ne (t : Nat) : z_X := fun ks kj R C ls st M => match st with
  | .inl x :: r => (¬ x = 0 → kj t ls r M) ∧ (x = 0 → ks ls r M)
  | _ => False
theorem s_if_ne {X : z_Cx} {D : Nat} {q : z_MI} {pc : Nat} {off : Int} {t : Nat} (hd : decode q.2.1 pc = .ok (.ifCond .ne off, 3)) (ht : (pc : Int) + off = (t : Int)) : z_Sd X D q pc (pc + 3) (x_if_ne t) := by
  intro ks kj R ls st M h hs hj p e s m args below meth c Rm cells slots Q C0 H locs la I
  rcases st with _ | ⟨x | x | x, r⟩ <;> first | exact False.elim h | skip
  exact lv_if_ne C0.1 C0.2.1 hd ht (fun g => hj _ _ _ _ (h.1 g) p e s m args below meth c Rm cells slots Q C0 H locs la ⟨I.1, I.2.1.2, I.2.2⟩) (fun g => hs _ _ _ (h.2 g) p e s m args below meth c Rm cells slots Q C0 H locs la ⟨I.1, I.2.1.2, I.2.2⟩)
def x_ic_ne (t : Nat) : z_X := fun ks kj R C ls st M => match st with
  | .inl y :: .inl x :: r => (¬ x = y → kj t ls r M) ∧ (x = y → ks ls r M)
  | _ => False
theorem s_ic_ne {X : z_Cx} {D : Nat} {q : z_MI} {pc : Nat} {off : Int} {t : Nat} (hd : decode q.2.1 pc = .ok (.if_icmp .ne off, 3)) (ht : (pc : Int) + off = (t : Int)) : z_Sd X D q pc (pc + 3) (x_ic_ne t) := by
  intro ks kj R ls st M h hs hj p e s m args below meth c Rm cells slots Q C0 H locs la I
  rcases st with _ | ⟨y | y | y, _ | ⟨x | x | x, r⟩⟩ <;> first | exact False.elim h | skip
  exact lv_icmp_ne C0.1 C0.2.1 hd ht (fun g => hj _ _ _ _ (h.1 g) p e s m args below meth c Rm cells slots Q C0 H locs la ⟨I.1, I.2.1.2.2, I.2.2⟩) (fun g => hs _ _ _ (h.2 g) p e s m args below meth c Rm cells slots Q C0 H locs la ⟨I.1, I.2.1.2.2, I.2.2⟩)
def x_if_lt (t : Nat) : z_X := fun ks kj R C ls st M => match st with
  | .inl x :: r => (x < 0 → kj t ls r M) ∧ (¬ x < 0 → ks ls r M)
  | _ => False
theorem s_if_lt {X : z_Cx} {D : Nat} {q : z_MI} {pc : Nat} {off : Int} {t : Nat} (hd : decode q.2.1 pc = .ok (.ifCond .lt off, 3)) (ht : (pc : Int) + off = (t : Int)) : z_Sd X D q pc (pc + 3) (x_if_lt t) := by
  intro ks kj R ls st M h hs hj p e s m args below meth c Rm cells slots Q C0 H locs la I
  rcases st with _ | ⟨x | x | x, r⟩ <;> first | exact False.elim h | skip
  exact lv_if_lt C0.1 C0.2.1 hd ht (fun g => hj _ _ _ _ (h.1 g) p e s m args below meth c Rm cells slots Q C0 H locs la ⟨I.1, I.2.1.2, I.2.2⟩) (fun g => hs _ _ _ (h.2 g) p e s m args below meth c Rm cells slots Q C0 H locs la ⟨I.1, I.2.1.2, I.2.2⟩)
def x_ic_lt (t : Nat) : z_X := fun ks kj R C ls st M => match st with
  | .inl y :: .inl x :: r => (x < y → kj t ls r M) ∧ (¬ x < y → ks ls r M)
  | _ => False
theorem s_ic_lt {X : z_Cx} {D : Nat} {q : z_MI} {pc : Nat} {off : Int} {t : Nat} (hd : decode q.2.1 pc = .ok (.if_icmp .lt off, 3)) (ht : (pc : Int) + off = (t : Int)) : z_Sd X D q pc (pc + 3) (x_ic_lt t) := by
  intro ks kj R ls st M h hs hj p e s m args below meth c Rm cells slots Q C0 H locs la I
  rcases st with _ | ⟨y | y | y, _ | ⟨x | x | x, r⟩⟩ <;> first | exact False.elim h | skip
  exact lv_icmp_lt C0.1 C0.2.1 hd ht (fun g => hj _ _ _ _ (h.1 g) p e s m args below meth c Rm cells slots Q C0 H locs la ⟨I.1, I.2.1.2.2, I.2.2⟩) (fun g => hs _ _ _ (h.2 g) p e s m args below meth c Rm cells slots Q C0 H locs la ⟨I.1, I.2.1.2.2, I.2.2⟩)
def x_if_ge (t : Nat) : z_X := fun ks kj R C ls st M => match st with
  | .inl x :: r => (0 ≤ x → kj t ls r M) ∧ (¬ 0 ≤ x → ks ls r M)
  | _ => False
theorem s_if_ge {X : z_Cx} {D : Nat} {q : z_MI} {pc : Nat} {off : Int} {t : Nat} (hd : decode q.2.1 pc = .ok (.ifCond .ge off, 3)) (ht : (pc : Int) + off = (t : Int)) : z_Sd X D q pc (pc + 3) (x_if_ge t) := by
  intro ks kj R ls st M h hs hj p e s m args below meth c Rm cells slots Q C0 H locs la I
  rcases st with _ | ⟨x | x | x, r⟩ <;> first | exact False.elim h | skip
  exact lv_if_ge C0.1 C0.2.1 hd ht (fun g => hj _ _ _ _ (h.1 g) p e s m args below meth c Rm cells slots Q C0 H locs la ⟨I.1, I.2.1.2, I.2.2⟩) (fun g => hs _ _ _ (h.2 g) p e s m args below meth c Rm cells slots Q C0 H locs la ⟨I.1, I.2.1.2, I.2.2⟩)
def x_ic_ge (t : Nat) : z_X := fun ks kj R C ls st M => match st with
  | .inl y :: .inl x :: r => (y ≤ x → kj t ls r M) ∧ (¬ y ≤ x → ks ls r M)
  | _ => False
theorem s_ic_ge {X : z_Cx} {D : Nat} {q : z_MI} {pc : Nat} {off : Int} {t : Nat} (hd : decode q.2.1 pc = .ok (.if_icmp .ge off, 3)) (ht : (pc : Int) + off = (t : Int)) : z_Sd X D q pc (pc + 3) (x_ic_ge t) := by
  intro ks kj R ls st M h hs hj p e s m args below meth c Rm cells slots Q C0 H locs la I
  rcases st with _ | ⟨y | y | y, _ | ⟨x | x | x, r⟩⟩ <;> first | exact False.elim h | skip
  exact lv_icmp_ge C0.1 C0.2.1 hd ht (fun g => hj _ _ _ _ (h.1 g) p e s m args below meth c Rm cells slots Q C0 H locs la ⟨I.1, I.2.1.2.2, I.2.2⟩) (fun g => hs _ _ _ (h.2 g) p e s m args below meth c Rm cells slots Q C0 H locs la ⟨I.1, I.2.1.2.2, I.2.2⟩)
def x_if_gt (t : Nat) : z_X := fun ks kj R C ls st M => match st with
  | .inl x :: r => (0 < x → kj t ls r M) ∧ (¬ 0 < x → ks ls r M)
  | _ => False
theorem s_if_gt {X : z_Cx} {D : Nat} {q : z_MI} {pc : Nat} {off : Int} {t : Nat} (hd : decode q.2.1 pc = .ok (.ifCond .gt off, 3)) (ht : (pc : Int) + off = (t : Int)) : z_Sd X D q pc (pc + 3) (x_if_gt t) := by
  intro ks kj R ls st M h hs hj p e s m args below meth c Rm cells slots Q C0 H locs la I
  rcases st with _ | ⟨x | x | x, r⟩ <;> first | exact False.elim h | skip
  exact lv_if_gt C0.1 C0.2.1 hd ht (fun g => hj _ _ _ _ (h.1 g) p e s m args below meth c Rm cells slots Q C0 H locs la ⟨I.1, I.2.1.2, I.2.2⟩) (fun g => hs _ _ _ (h.2 g) p e s m args below meth c Rm cells slots Q C0 H locs la ⟨I.1, I.2.1.2, I.2.2⟩)
def x_ic_gt (t : Nat) : z_X := fun ks kj R C ls st M => match st with
  | .inl y :: .inl x :: r => (y < x → kj t ls r M) ∧ (¬ y < x → ks ls r M)
  | _ => False
theorem s_ic_gt {X : z_Cx} {D : Nat} {q : z_MI} {pc : Nat} {off : Int} {t : Nat} (hd : decode q.2.1 pc = .ok (.if_icmp .gt off, 3)) (ht : (pc : Int) + off = (t : Int)) : z_Sd X D q pc (pc + 3) (x_ic_gt t) := by
  intro ks kj R ls st M h hs hj p e s m args below meth c Rm cells slots Q C0 H locs la I
  rcases st with _ | ⟨y | y | y, _ | ⟨x | x | x, r⟩⟩ <;> first | exact False.elim h | skip
  exact lv_icmp_gt C0.1 C0.2.1 hd ht (fun g => hj _ _ _ _ (h.1 g) p e s m args below meth c Rm cells slots Q C0 H locs la ⟨I.1, I.2.1.2.2, I.2.2⟩) (fun g => hs _ _ _ (h.2 g) p e s m args below meth c Rm cells slots Q C0 H locs la ⟨I.1, I.2.1.2.2, I.2.2⟩)
def x_if_le (t : Nat) : z_X := fun ks kj R C ls st M => match st with
  | .inl x :: r => (x ≤ 0 → kj t ls r M) ∧ (¬ x ≤ 0 → ks ls r M)
  | _ => False
theorem s_if_le {X : z_Cx} {D : Nat} {q : z_MI} {pc : Nat} {off : Int} {t : Nat} (hd : decode q.2.1 pc = .ok (.ifCond .le off, 3)) (ht : (pc : Int) + off = (t : Int)) : z_Sd X D q pc (pc + 3) (x_if_le t) := by
  intro ks kj R ls st M h hs hj p e s m args below meth c Rm cells slots Q C0 H locs la I
  rcases st with _ | ⟨x | x | x, r⟩ <;> first | exact False.elim h | skip
  exact lv_if_le C0.1 C0.2.1 hd ht (fun g => hj _ _ _ _ (h.1 g) p e s m args below meth c Rm cells slots Q C0 H locs la ⟨I.1, I.2.1.2, I.2.2⟩) (fun g => hs _ _ _ (h.2 g) p e s m args below meth c Rm cells slots Q C0 H locs la ⟨I.1, I.2.1.2, I.2.2⟩)
def x_ic_le (t : Nat) : z_X := fun ks kj R C ls st M => match st with
  | .inl y :: .inl x :: r => (x ≤ y → kj t ls r M) ∧ (¬ x ≤ y → ks ls r M)
  | _ => False
theorem s_ic_le {X : z_Cx} {D : Nat} {q : z_MI} {pc : Nat} {off : Int} {t : Nat} (hd : decode q.2.1 pc = .ok (.if_icmp .le off, 3)) (ht : (pc : Int) + off = (t : Int)) : z_Sd X D q pc (pc + 3) (x_ic_le t) := by
  intro ks kj R ls st M h hs hj p e s m args below meth c Rm cells slots Q C0 H locs la I
  rcases st with _ | ⟨y | y | y, _ | ⟨x | x | x, r⟩⟩ <;> first | exact False.elim h | skip
  exact lv_icmp_le C0.1 C0.2.1 hd ht (fun g => hj _ _ _ _ (h.1 g) p e s m args below meth c Rm cells slots Q C0 H locs la ⟨I.1, I.2.1.2.2, I.2.2⟩) (fun g => hs _ _ _ (h.2 g) p e s m args below meth c Rm cells slots Q C0 H locs la ⟨I.1, I.2.1.2.2, I.2.2⟩)
def x_goto (t : Nat) : z_X := fun _ kj _ _ ls st M => kj t ls st M
theorem s_goto {X : z_Cx} {D : Nat} {q : z_MI} {pc : Nat} {off : Int} {t : Nat} (hd : decode q.2.1 pc = .ok (.goto off, 3)) (ht : (pc : Int) + off = (t : Int)) : z_Sd X D q pc (pc + 3) (x_goto t) := by
  intro ks kj R ls st M h hs hj p e s m args below meth c Rm cells slots Q C0 H locs la I
  exact lv_goto C0.1 C0.2.1 hd ht (hj _ _ _ _ h p e s m args below meth c Rm cells slots Q C0 H locs la I)
def x_ret (ty : FieldType) : z_X := fun ks kj R C ls st M => match st with
  | [.inl x] => narrow ty (.int x) = .int x ∧ R x M
  | _ => False
theorem s_ret {X : z_Cx} {D : Nat} {q : z_MI} {pc : Nat} {ty : FieldType} (hd : decode q.2.1 pc = .ok (.ireturn, 1)) (hr : q.2.2.2 = some ty) : z_Sd X D q pc (pc + 1) (x_ret ty) := by
  intro ks kj R ls st M h hs hj p e s m args below meth c Rm cells slots Q C0 H locs la I
  rcases st with _ | ⟨x | x | x, _ | ⟨y, r⟩⟩ <;> first | exact False.elim h | skip
  exact C0.2.2.2.2.2.2.2.2.2.1 x M H locs la pc ty hr h.1 h.2 I.2.2.1 I.2.2.2.1 hd
def x_iret : z_X := fun ks kj R C ls st M => match st with
  | [.inl x] => R x M
  | _ => False
theorem s_iret {X : z_Cx} {D : Nat} {q : z_MI} {pc : Nat}  (hd : decode q.2.1 pc = .ok (.ireturn, 1)) (hr : q.2.2.2 = some .int) : z_Sd X D q pc (pc + 1) (x_iret) := by
  intro ks kj R ls st M h hs hj p e s m args below meth c Rm cells slots Q C0 H locs la I
  rcases st with _ | ⟨x | x | x, _ | ⟨y, r⟩⟩ <;> first | exact False.elim h | skip
  exact C0.2.2.2.2.2.2.2.2.2.1 x M H locs la pc .int hr rfl h I.2.2.1 I.2.2.2.1 hd
def x_zret : z_X := fun ks kj R C ls st M => match st with
  | [.inl x] => (x = 0 ∨ x = 1) ∧ R x M
  | _ => False
theorem s_zret {X : z_Cx} {D : Nat} {q : z_MI} {pc : Nat}  (hd : decode q.2.1 pc = .ok (.ireturn, 1)) (hr : q.2.2.2 = some .boolean) : z_Sd X D q pc (pc + 1) (x_zret) := by
  intro ks kj R ls st M h hs hj p e s m args below meth c Rm cells slots Q C0 H locs la I
  rcases st with _ | ⟨x | x | x, _ | ⟨y, r⟩⟩ <;> first | exact False.elim h | skip
  exact C0.2.2.2.2.2.2.2.2.2.1 x M H locs la pc .boolean hr (by rcases h.1 with e | e <;> rw [e] <;> rfl) h.2 I.2.2.1 I.2.2.2.1 hd
def x_vret : z_X := fun ks kj R C ls st M => match st with
  | [] => R 0 M
  | _ => False
theorem s_vret {X : z_Cx} {D : Nat} {q : z_MI} {pc : Nat}  (hd : decode q.2.1 pc = .ok (.return_, 1)) (hr : q.2.2.2 = none) : z_Sd X D q pc (pc + 1) (x_vret) := by
  intro ks kj R ls st M h hs hj p e s m args below meth c Rm cells slots Q C0 H locs la I
  rcases st with _ | ⟨x, r⟩ <;> first | exact False.elim h | skip
  exact C0.2.2.2.2.2.2.2.2.2.2 M H locs la pc hr h I.2.2.1 I.2.2.2.1 hd
