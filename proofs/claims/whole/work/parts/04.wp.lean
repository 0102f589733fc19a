theorem wp_dv {x y z : Int32} (h : dv x y = some z) : ¬ y = 0 ∧ x / y = z := by
  unfold dv at h
  split at h
  · cases h
  · exact ⟨by assumption, Option.some.inj h⟩
theorem wp_rm {x y z : Int32} (h : rm x y = some z) : ¬ y = 0 ∧ x - x / y * y = z := by
  unfold rm at h
  split at h
  · cases h
  · exact ⟨by assumption, Option.some.inj h⟩
theorem lgc_eq {x y : Int64} (h : x = y) : lg_cmp x y = 0 := by
  subst h
  simp [lg_cmp, Int64.lt_irrefl]
theorem lgc_ne {x y : Int64} (h : ¬ x = y) : ¬ lg_cmp x y = 0 := by
  unfold lg_cmp
  rw [if_neg h]
  split <;> decide
/-! A METHOD: name, bytes, locals, what it returns, frames, locals' room, cells, slots -/
abbrev MX : Type := MethodName × ByteArray × Nat × Option FieldType × Nat × Nat × Nat × Nat
def mY (X : MX) : MethodName := X.1
def mC (X : MX) : ByteArray := X.2.1
def mL (X : MX) : Nat := X.2.2.1
def mR (X : MX) : Option FieldType := X.2.2.2.1
def mF (X : MX) : Nat := X.2.2.2.2.1
def mO (X : MX) : Nat := X.2.2.2.2.2.1
def mM (X : MX) : Nat := X.2.2.2.2.2.2.1
def mS (X : MX) : Nat := X.2.2.2.2.2.2.2
def mRoom (X : MX) : Room := { frames := mF X, cells := mM X, slots := mS X, locals := mO X }
def mW (X : MX) : List Cond := Cond.code (mY X) (mC X) (mL X) (mR X) :: gTbl
def QG (V : EV) (v : Option Value) (h' : HA) : Array Value → State → Outcome → State → Prop := fun _ _ o t => o = .returned v ∧ HRel V h' t.heap
/-- a method's contract: from these arguments and this heap it returns v, and the heap is h' -/
def MG (V : EV) (X : MX) (as : List Value) (h : HA) (v : Option Value) (h' : HA) : Prop :=
  ∀ l : Launch, Met l (mY X) (mW X) (mRoom X) (va_Pc as (fun U => HRel V h U.heap ∧ SK V U)) (QG V v h') (mM X) (mS X) (wI V)
def Cx (X : MX) (p : Program) (s : State) (m : MethodId) (args : Array Value) (meth : Method) (c : Code) : Prop :=
  p.tables.exec = Jvm.exec ∧ c.code = mC X ∧ meth.sig.returnType = mR X ∧ c.maxLocals = mL X ∧ s.vm.findClass (mY X).cls = some m.cls ∧ (∀ w ∈ gTbl, w.before args s = true) ∧ meth.locks = false ∧ ((mY X).name = "<init>" → meth.name = "<init>")
/-- the judgement: from this place, with these locals, this stack, this heap, having made cl cells of sl slots, it returns v, and the heap is h' -/
def WP (V : EV) (X : MX) (pc : Nat) (lv : List (Nat × Value)) (st : List Value) (h : HA) (cl sl : Nat) (v : Option Value) (h' : HA) : Prop :=
  ∀ (p : Program) (l : Launch) (e : Env) (s : State) (m : MethodId) (args : Array Value) (below : List Frame) (meth : Method) (c : Code) (H : Heap) (locs : List Loc) (ls : Array Slot),
    Cx X p s m args meth c → SK V s → HRel V h H → (∀ q ∈ locs, wI V q.base) → lv_has ls (mL X) lv →
    W p l e (mRoom X) s m args below meth c H locs cl sl (MQ below (QG V v h') args s (mM X) (mS X) (wI V)) (F0 m pc ls st)
/-- an instruction at pc, of a length, the next one at q -/
def DC (X : MX) (pc n q : Nat) (i : Instr) : Prop := decode (mC X) pc = .ok (i, n) ∧ pc + n = q
/-- a branch at pc, the next one at q, its target t -/
def DB (X : MX) (pc q t : Nat) (i : Int → Instr) : Prop := ∃ off, decode (mC X) pc = .ok (i off, 3) ∧ pc + 3 = q ∧ (pc : Int) + off = (t : Int)
def shlI (x y : Int32) : Int32 := x <<< (y &&& 31)
def shrI (x y : Int32) : Int32 := x >>> (y &&& 31)
def ushI (x y : Int32) : Int32 := (x.toUInt32 >>> (y.toUInt32 &&& Int32.toUInt32 31)).toInt32
def shlJ (x : Int64) (y : Int32) : Int64 := x <<< (y.toInt64 &&& 63)
def ushJ (x : Int64) (y : Int32) : Int64 := (x.toUInt64 >>> (y.toInt64.toUInt64 &&& Int64.toUInt64 63)).toInt64
def toB (x : Int32) : Int32 := x.toInt8.toInt32
section WPS
variable {V : EV} {X : MX} {pc q : Nat} {lv : List (Nat × Value)} {st : List Value} {h : HA} {cl sl : Nat} {v : Option Value} {h' : HA}
theorem WP.sub {lv' : List (Nat × Value)} (ks : List Nat) (hs : lv_pick lv ks = lv') (k : WP V X pc lv' st h cl sl v h') : WP V X pc lv st h cl sl v h' :=
  fun p l e s m args below meth c H locs ls C K R L hl => k p l e s m args below meth c H locs ls C K R L (lv_sub hl ks hs)
theorem WP.widen {cl' sl' : Nat} (h1 : cl ≤ cl') (h2 : sl ≤ sl') (k : WP V X pc lv st h cl' sl' v h') : WP V X pc lv st h cl sl v h' :=
  fun p l e s m args below meth c H locs ls C K R L hl => W.widen h1 h2 (k p l e s m args below meth c H locs ls C K R L hl)
theorem WP.iadd {x y : Int32} (hd : DC X pc 1 q .iadd) (k : WP V X q lv (.int (x + y) :: st) h cl sl v h') : WP V X pc lv (.int y :: .int x :: st) h cl sl v h' := by
  obtain ⟨hd, rfl⟩ := hd
  exact fun p l e s m args below meth c H locs ls C K R L hl => lv_iadd C.1 C.2.1 hd (k p l e s m args below meth c H locs ls C K R L hl)
theorem WP.isub {x y : Int32} (hd : DC X pc 1 q .isub) (k : WP V X q lv (.int (x - y) :: st) h cl sl v h') : WP V X pc lv (.int y :: .int x :: st) h cl sl v h' := by
  obtain ⟨hd, rfl⟩ := hd
  exact fun p l e s m args below meth c H locs ls C K R L hl => lv_isub C.1 C.2.1 hd (k p l e s m args below meth c H locs ls C K R L hl)
theorem WP.imul {x y : Int32} (hd : DC X pc 1 q .imul) (k : WP V X q lv (.int (x * y) :: st) h cl sl v h') : WP V X pc lv (.int y :: .int x :: st) h cl sl v h' := by
  obtain ⟨hd, rfl⟩ := hd
  exact fun p l e s m args below meth c H locs ls C K R L hl => lv_imul C.1 C.2.1 hd (k p l e s m args below meth c H locs ls C K R L hl)
theorem WP.iand {x y : Int32} (hd : DC X pc 1 q .iand) (k : WP V X q lv (.int (x &&& y) :: st) h cl sl v h') : WP V X pc lv (.int y :: .int x :: st) h cl sl v h' := by
  obtain ⟨hd, rfl⟩ := hd
  exact fun p l e s m args below meth c H locs ls C K R L hl => lv_iand C.1 C.2.1 hd (k p l e s m args below meth c H locs ls C K R L hl)
theorem WP.ior {x y : Int32} (hd : DC X pc 1 q .ior) (k : WP V X q lv (.int (x ||| y) :: st) h cl sl v h') : WP V X pc lv (.int y :: .int x :: st) h cl sl v h' := by
  obtain ⟨hd, rfl⟩ := hd
  exact fun p l e s m args below meth c H locs ls C K R L hl => lv_ior C.1 C.2.1 hd (k p l e s m args below meth c H locs ls C K R L hl)
theorem WP.ixor {x y : Int32} (hd : DC X pc 1 q .ixor) (k : WP V X q lv (.int (x ^^^ y) :: st) h cl sl v h') : WP V X pc lv (.int y :: .int x :: st) h cl sl v h' := by
  obtain ⟨hd, rfl⟩ := hd
  exact fun p l e s m args below meth c H locs ls C K R L hl => lv_ixor C.1 C.2.1 hd (k p l e s m args below meth c H locs ls C K R L hl)
theorem WP.ladd {x y : Int64} (hd : DC X pc 1 q .ladd) (k : WP V X q lv (.long (x + y) :: st) h cl sl v h') : WP V X pc lv (.long y :: .long x :: st) h cl sl v h' := by
  obtain ⟨hd, rfl⟩ := hd
  exact fun p l e s m args below meth c H locs ls C K R L hl => lv_ladd C.1 C.2.1 hd (k p l e s m args below meth c H locs ls C K R L hl)
theorem WP.lsub {x y : Int64} (hd : DC X pc 1 q .lsub) (k : WP V X q lv (.long (x - y) :: st) h cl sl v h') : WP V X pc lv (.long y :: .long x :: st) h cl sl v h' := by
  obtain ⟨hd, rfl⟩ := hd
  exact fun p l e s m args below meth c H locs ls C K R L hl => lv_lsub C.1 C.2.1 hd (k p l e s m args below meth c H locs ls C K R L hl)
theorem WP.lmul {x y : Int64} (hd : DC X pc 1 q .lmul) (k : WP V X q lv (.long (x * y) :: st) h cl sl v h') : WP V X pc lv (.long y :: .long x :: st) h cl sl v h' := by
  obtain ⟨hd, rfl⟩ := hd
  exact fun p l e s m args below meth c H locs ls C K R L hl => lv_lmul C.1 C.2.1 hd (k p l e s m args below meth c H locs ls C K R L hl)
theorem WP.land {x y : Int64} (hd : DC X pc 1 q .land) (k : WP V X q lv (.long (x &&& y) :: st) h cl sl v h') : WP V X pc lv (.long y :: .long x :: st) h cl sl v h' := by
  obtain ⟨hd, rfl⟩ := hd
  exact fun p l e s m args below meth c H locs ls C K R L hl => lv_land C.1 C.2.1 hd (k p l e s m args below meth c H locs ls C K R L hl)
theorem WP.lor {x y : Int64} (hd : DC X pc 1 q .lor) (k : WP V X q lv (.long (x ||| y) :: st) h cl sl v h') : WP V X pc lv (.long y :: .long x :: st) h cl sl v h' := by
  obtain ⟨hd, rfl⟩ := hd
  exact fun p l e s m args below meth c H locs ls C K R L hl => lv_lor C.1 C.2.1 hd (k p l e s m args below meth c H locs ls C K R L hl)
theorem WP.lxor {x y : Int64} (hd : DC X pc 1 q .lxor) (k : WP V X q lv (.long (x ^^^ y) :: st) h cl sl v h') : WP V X pc lv (.long y :: .long x :: st) h cl sl v h' := by
  obtain ⟨hd, rfl⟩ := hd
  exact fun p l e s m args below meth c H locs ls C K R L hl => lv_lxor C.1 C.2.1 hd (k p l e s m args below meth c H locs ls C K R L hl)
theorem WP.ishl {x y : Int32} (hd : DC X pc 1 q .ishl) (k : WP V X q lv (.int (shlI x y) :: st) h cl sl v h') : WP V X pc lv (.int y :: .int x :: st) h cl sl v h' := by
  obtain ⟨hd, rfl⟩ := hd
  exact fun p l e s m args below meth c H locs ls C K R L hl => lv_ishl C.1 C.2.1 hd (k p l e s m args below meth c H locs ls C K R L hl)
theorem WP.ishr {x y : Int32} (hd : DC X pc 1 q .ishr) (k : WP V X q lv (.int (shrI x y) :: st) h cl sl v h') : WP V X pc lv (.int y :: .int x :: st) h cl sl v h' := by
  obtain ⟨hd, rfl⟩ := hd
  exact fun p l e s m args below meth c H locs ls C K R L hl => lv_ishr C.1 C.2.1 hd (k p l e s m args below meth c H locs ls C K R L hl)
theorem WP.iushr {x y : Int32} (hd : DC X pc 1 q .iushr) (k : WP V X q lv (.int (ushI x y) :: st) h cl sl v h') : WP V X pc lv (.int y :: .int x :: st) h cl sl v h' := by
  obtain ⟨hd, rfl⟩ := hd
  exact fun p l e s m args below meth c H locs ls C K R L hl => lv_iushr C.1 C.2.1 hd rfl (k p l e s m args below meth c H locs ls C K R L hl)
theorem WP.lshl {x : Int64} {y : Int32} (hd : DC X pc 1 q .lshl) (k : WP V X q lv (.long (shlJ x y) :: st) h cl sl v h') : WP V X pc lv (.int y :: .long x :: st) h cl sl v h' := by
  obtain ⟨hd, rfl⟩ := hd
  exact fun p l e s m args below meth c H locs ls C K R L hl => lv_lshl C.1 C.2.1 hd rfl (k p l e s m args below meth c H locs ls C K R L hl)
theorem WP.lushr {x : Int64} {y : Int32} (hd : DC X pc 1 q .lushr) (k : WP V X q lv (.long (ushJ x y) :: st) h cl sl v h') : WP V X pc lv (.int y :: .long x :: st) h cl sl v h' := by
  obtain ⟨hd, rfl⟩ := hd
  exact fun p l e s m args below meth c H locs ls C K R L hl => lv_lushr C.1 C.2.1 hd rfl (k p l e s m args below meth c H locs ls C K R L hl)
theorem WP.ineg {x : Int32} (hd : DC X pc 1 q .ineg) (k : WP V X q lv (.int (-x) :: st) h cl sl v h') : WP V X pc lv (.int x :: st) h cl sl v h' := by
  obtain ⟨hd, rfl⟩ := hd
  exact fun p l e s m args below meth c H locs ls C K R L hl => lv_ineg C.1 C.2.1 hd (k p l e s m args below meth c H locs ls C K R L hl)
theorem WP.lneg {x : Int64} (hd : DC X pc 1 q .lneg) (k : WP V X q lv (.long (-x) :: st) h cl sl v h') : WP V X pc lv (.long x :: st) h cl sl v h' := by
  obtain ⟨hd, rfl⟩ := hd
  exact fun p l e s m args below meth c H locs ls C K R L hl => lv_lneg C.1 C.2.1 hd (k p l e s m args below meth c H locs ls C K R L hl)
theorem WP.i2l {x : Int32} (hd : DC X pc 1 q .i2l) (k : WP V X q lv (.long x.toInt64 :: st) h cl sl v h') : WP V X pc lv (.int x :: st) h cl sl v h' := by
  obtain ⟨hd, rfl⟩ := hd
  exact fun p l e s m args below meth c H locs ls C K R L hl => lv_i2l C.1 C.2.1 hd rfl (k p l e s m args below meth c H locs ls C K R L hl)
theorem WP.l2i {x : Int64} (hd : DC X pc 1 q .l2i) (k : WP V X q lv (.int x.toInt32 :: st) h cl sl v h') : WP V X pc lv (.long x :: st) h cl sl v h' := by
  obtain ⟨hd, rfl⟩ := hd
  exact fun p l e s m args below meth c H locs ls C K R L hl => lv_l2i C.1 C.2.1 hd rfl (k p l e s m args below meth c H locs ls C K R L hl)
theorem WP.i2b {x : Int32} (hd : DC X pc 1 q .i2b) (k : WP V X q lv (.int (toB x) :: st) h cl sl v h') : WP V X pc lv (.int x :: st) h cl sl v h' := by
  obtain ⟨hd, rfl⟩ := hd
  exact fun p l e s m args below meth c H locs ls C K R L hl => lv_i2b C.1 C.2.1 hd rfl (k p l e s m args below meth c H locs ls C K R L hl)
theorem WP.lcmp {x y : Int64} (hd : DC X pc 1 q .lcmp) (k : WP V X q lv (.int (lg_cmp x y) :: st) h cl sl v h') : WP V X pc lv (.long y :: .long x :: st) h cl sl v h' := by
  obtain ⟨hd, rfl⟩ := hd
  exact fun p l e s m args below meth c H locs ls C K R L hl => W.lcmp C.1 C.2.1 hd (k p l e s m args below meth c H locs ls C K R L hl)
theorem WP.pop {va : Value} (hd : DC X pc 1 q .pop) (hva : va.category = 1) (k : WP V X q lv (st) h cl sl v h') : WP V X pc lv (va :: st) h cl sl v h' := by
  obtain ⟨hd, rfl⟩ := hd
  exact fun p l e s m args below meth c H locs ls C K R L hl => lv_pop C.1 C.2.1 hd hva (k p l e s m args below meth c H locs ls C K R L hl)
theorem WP.dup {va : Value} (hd : DC X pc 1 q .dup) (hva : va.category = 1) (k : WP V X q lv (va :: va :: st) h cl sl v h') : WP V X pc lv (va :: st) h cl sl v h' := by
  obtain ⟨hd, rfl⟩ := hd
  exact fun p l e s m args below meth c H locs ls C K R L hl => lv_dup C.1 C.2.1 hd hva (k p l e s m args below meth c H locs ls C K R L hl)
theorem WP.dup2 {va vb : Value} (hd : DC X pc 1 q .dup2) (hva : va.category = 1) (hvb : vb.category = 1) (k : WP V X q lv (va :: vb :: va :: vb :: st) h cl sl v h') : WP V X pc lv (va :: vb :: st) h cl sl v h' := by
  obtain ⟨hd, rfl⟩ := hd
  exact fun p l e s m args below meth c H locs ls C K R L hl => lv_dup2_11 C.1 C.2.1 hd hva hvb (k p l e s m args below meth c H locs ls C K R L hl)
theorem WP.idiv {x y z : Int32} (hd : DC X pc 1 q .idiv) (hz9 : dv x y = some z) (k : WP V X q lv (.int z :: st) h cl sl v h') : WP V X pc lv (.int y :: .int x :: st) h cl sl v h' := by
  obtain ⟨hd, rfl⟩ := hd
  obtain ⟨hne, rfl⟩ := wp_dv hz9
  exact fun p l e s m args below meth c H locs ls C K R L hl => lv_idiv C.1 C.2.1 hd hne (k p l e s m args below meth c H locs ls C K R L hl)
theorem WP.irem {x y z : Int32} (hd : DC X pc 1 q .irem) (hz9 : rm x y = some z) (k : WP V X q lv (.int z :: st) h cl sl v h') : WP V X pc lv (.int y :: .int x :: st) h cl sl v h' := by
  obtain ⟨hd, rfl⟩ := hd
  obtain ⟨hne, rfl⟩ := wp_rm hz9
  exact fun p l e s m args below meth c H locs ls C K R L hl => lv_irem C.1 C.2.1 hd hne (k p l e s m args below meth c H locs ls C K R L hl)
theorem WP.iconst {n : Int} {x : Int32} (hd : DC X pc 1 q (.iconst n)) (hx : Int32.ofInt n = x) (k : WP V X q lv (.int x :: st) h cl sl v h') : WP V X pc lv (st) h cl sl v h' := by
  obtain ⟨hd, rfl⟩ := hd
  exact fun p l e s m args below meth c H locs ls C K R L hl => lv_iconst C.1 C.2.1 hd hx (k p l e s m args below meth c H locs ls C K R L hl)
theorem WP.bipush {n : Int} {x : Int32} (hd : DC X pc 2 q (.bipush n)) (hx : (Int8.ofInt n).toInt32 = x) (k : WP V X q lv (.int x :: st) h cl sl v h') : WP V X pc lv (st) h cl sl v h' := by
  obtain ⟨hd, rfl⟩ := hd
  exact fun p l e s m args below meth c H locs ls C K R L hl => lv_bipush C.1 C.2.1 hd hx (k p l e s m args below meth c H locs ls C K R L hl)
theorem WP.sipush {n : Int} {x : Int32} (hd : DC X pc 3 q (.sipush n)) (hx : (Int16.ofInt n).toInt32 = x) (k : WP V X q lv (.int x :: st) h cl sl v h') : WP V X pc lv (st) h cl sl v h' := by
  obtain ⟨hd, rfl⟩ := hd
  exact fun p l e s m args below meth c H locs ls C K R L hl => lv_sipush C.1 C.2.1 hd hx (k p l e s m args below meth c H locs ls C K R L hl)
theorem WP.lconst {n : Fin 2} {x : Int64} (hd : DC X pc 1 q (.lconst n)) (hx : Int64.ofNat (n : Nat) = x) (k : WP V X q lv (.long x :: st) h cl sl v h') : WP V X pc lv (st) h cl sl v h' := by
  obtain ⟨hd, rfl⟩ := hd
  exact fun p l e s m args below meth c H locs ls C K R L hl => lv_lconst C.1 C.2.1 hd hx (k p l e s m args below meth c H locs ls C K R L hl)
theorem WP.aconst_null  (hd : DC X pc 1 q .aconst_null) (k : WP V X q lv (.null :: st) h cl sl v h') : WP V X pc lv (st) h cl sl v h' := by
  obtain ⟨hd, rfl⟩ := hd
  exact fun p l e s m args below meth c H locs ls C K R L hl => lv_null C.1 C.2.1 hd (k p l e s m args below meth c H locs ls C K R L hl)
theorem WP.ldc {i : Nat} {x : Int32} (hd : DC X pc 2 q (.ldc i)) (hw : Cond.constant (mY X).cls i x ∈ gTbl) (k : WP V X q lv (.int x :: st) h cl sl v h') : WP V X pc lv (st) h cl sl v h' := by
  obtain ⟨hd, rfl⟩ := hd
  exact fun p l e s m args below meth c H locs ls C K R L hl => W.ldc C.1 C.2.1 C.2.2.2.2.1 (C.2.2.2.2.2.1 _ hw) rfl hd (k p l e s m args below meth c H locs ls C K R L hl)
theorem WP.ldc2 {i : Nat} {x : Int64} (hd : DC X pc 3 q (.ldc2_w i)) (hw : Cond.constantLong (mY X).cls i x ∈ gTbl) (k : WP V X q lv (.long x :: st) h cl sl v h') : WP V X pc lv (st) h cl sl v h' := by
  obtain ⟨hd, rfl⟩ := hd
  exact fun p l e s m args below meth c H locs ls C K R L hl => W.ldc2 C.1 C.2.1 C.2.2.2.2.1 (C.2.2.2.2.2.1 _ hw) rfl hd (k p l e s m args below meth c H locs ls C K R L hl)
theorem WP.iload {i : Nat} {x : Int32} (hd : DC X pc 2 q (.iload i)) (j : Nat) (hj : lv[j]? = some (i, .int x)) (k : WP V X q lv (.int x :: st) h cl sl v h') : WP V X pc lv (st) h cl sl v h' := by
  obtain ⟨hd, rfl⟩ := hd
  exact fun p l e s m args below meth c H locs ls C K R L hl => lv_iload C.1 C.2.1 hd (lv_at hl j hj) (k p l e s m args below meth c H locs ls C K R L hl)
theorem WP.iload_n {i : Fin 4} {x : Int32} (hd : DC X pc 1 q (.iload_n i)) (j : Nat) (hj : lv[j]? = some ((i : Nat), .int x)) (k : WP V X q lv (.int x :: st) h cl sl v h') : WP V X pc lv (st) h cl sl v h' := by
  obtain ⟨hd, rfl⟩ := hd
  exact fun p l e s m args below meth c H locs ls C K R L hl => lv_iload_n C.1 C.2.1 hd rfl (lv_at hl j hj) (k p l e s m args below meth c H locs ls C K R L hl)
theorem WP.istore {i : Nat} {x : Int32} {lv9 : List (Nat × Value)} (hd : DC X pc 2 q (.istore i)) (hn : i < mL X) (hv : (i, Value.int x) :: lv.filter (fun q => !(q.1 == i) && !(q.1 + 1 == i && q.2.category == 2)) = lv9) (k : WP V X q lv9 (st) h cl sl v h') : WP V X pc lv (.int x :: st) h cl sl v h' := by
  obtain ⟨hd, rfl⟩ := hd
  exact fun p l e s m args below meth c H locs ls C K R L hl => lv_istore C.1 C.2.1 hd hl hn hv (fun ls9 hl9 => k p l e s m args below meth c H locs ls9 C K R L hl9)
theorem WP.istore_n {i : Fin 4} {x : Int32} {lv9 : List (Nat × Value)} (hd : DC X pc 1 q (.istore_n i)) (hn : (i : Nat) < mL X) (hv : ((i : Nat), Value.int x) :: lv.filter (fun q => !(q.1 == (i : Nat)) && !(q.1 + 1 == (i : Nat) && q.2.category == 2)) = lv9) (k : WP V X q lv9 (st) h cl sl v h') : WP V X pc lv (.int x :: st) h cl sl v h' := by
  obtain ⟨hd, rfl⟩ := hd
  exact fun p l e s m args below meth c H locs ls C K R L hl => lv_istore_n C.1 C.2.1 hd rfl hl hn hv (fun ls9 hl9 => k p l e s m args below meth c H locs ls9 C K R L hl9)
theorem WP.lload {i : Nat} {x : Int64} (hd : DC X pc 2 q (.lload i)) (j : Nat) (hj : lv[j]? = some (i, .long x)) (k : WP V X q lv (.long x :: st) h cl sl v h') : WP V X pc lv (st) h cl sl v h' := by
  obtain ⟨hd, rfl⟩ := hd
  exact fun p l e s m args below meth c H locs ls C K R L hl => lv_lload C.1 C.2.1 hd (lv_at hl j hj) (k p l e s m args below meth c H locs ls C K R L hl)
theorem WP.lload_n {i : Fin 4} {x : Int64} (hd : DC X pc 1 q (.lload_n i)) (j : Nat) (hj : lv[j]? = some ((i : Nat), .long x)) (k : WP V X q lv (.long x :: st) h cl sl v h') : WP V X pc lv (st) h cl sl v h' := by
  obtain ⟨hd, rfl⟩ := hd
  exact fun p l e s m args below meth c H locs ls C K R L hl => lv_lload_n C.1 C.2.1 hd rfl (lv_at hl j hj) (k p l e s m args below meth c H locs ls C K R L hl)
theorem WP.lstore {i : Nat} {x : Int64} {lv9 : List (Nat × Value)} (hd : DC X pc 2 q (.lstore i)) (hn : i + 1 < mL X) (hv : (i, Value.long x) :: lv.filter (fun q => !(q.1 == i) && (!(q.1 == i + 1) && !(q.1 + 1 == i && q.2.category == 2))) = lv9) (k : WP V X q lv9 (st) h cl sl v h') : WP V X pc lv (.long x :: st) h cl sl v h' := by
  obtain ⟨hd, rfl⟩ := hd
  exact fun p l e s m args below meth c H locs ls C K R L hl => lv_lstore C.1 C.2.1 hd hl hn hv (fun ls9 hl9 => k p l e s m args below meth c H locs ls9 C K R L hl9)
theorem WP.lstore_n {i : Fin 4} {x : Int64} {lv9 : List (Nat × Value)} (hd : DC X pc 1 q (.lstore_n i)) (hn : (i : Nat) + 1 < mL X) (hv : ((i : Nat), Value.long x) :: lv.filter (fun q => !(q.1 == (i : Nat)) && (!(q.1 == (i : Nat) + 1) && !(q.1 + 1 == (i : Nat) && q.2.category == 2))) = lv9) (k : WP V X q lv9 (st) h cl sl v h') : WP V X pc lv (.long x :: st) h cl sl v h' := by
  obtain ⟨hd, rfl⟩ := hd
  exact fun p l e s m args below meth c H locs ls C K R L hl => lv_lstore_n C.1 C.2.1 hd rfl hl hn hv (fun ls9 hl9 => k p l e s m args below meth c H locs ls9 C K R L hl9)
theorem WP.aload {i : Nat} {x : Nat} (hd : DC X pc 2 q (.aload i)) (j : Nat) (hj : lv[j]? = some (i, .ref x)) (k : WP V X q lv (.ref x :: st) h cl sl v h') : WP V X pc lv (st) h cl sl v h' := by
  obtain ⟨hd, rfl⟩ := hd
  exact fun p l e s m args below meth c H locs ls C K R L hl => lv_aload C.1 C.2.1 hd (lv_at hl j hj) (k p l e s m args below meth c H locs ls C K R L hl)
theorem WP.aload_n {i : Fin 4} {x : Nat} (hd : DC X pc 1 q (.aload_n i)) (j : Nat) (hj : lv[j]? = some ((i : Nat), .ref x)) (k : WP V X q lv (.ref x :: st) h cl sl v h') : WP V X pc lv (st) h cl sl v h' := by
  obtain ⟨hd, rfl⟩ := hd
  exact fun p l e s m args below meth c H locs ls C K R L hl => lv_aload_n C.1 C.2.1 hd rfl (lv_at hl j hj) (k p l e s m args below meth c H locs ls C K R L hl)
theorem WP.astore {i : Nat} {x : Nat} {lv9 : List (Nat × Value)} (hd : DC X pc 2 q (.astore i)) (hn : i < mL X) (hv : (i, Value.ref x) :: lv.filter (fun q => !(q.1 == i) && !(q.1 + 1 == i && q.2.category == 2)) = lv9) (k : WP V X q lv9 (st) h cl sl v h') : WP V X pc lv (.ref x :: st) h cl sl v h' := by
  obtain ⟨hd, rfl⟩ := hd
  exact fun p l e s m args below meth c H locs ls C K R L hl => lv_astore C.1 C.2.1 hd hl hn hv (fun ls9 hl9 => k p l e s m args below meth c H locs ls9 C K R L hl9)
theorem WP.astore_n {i : Fin 4} {x : Nat} {lv9 : List (Nat × Value)} (hd : DC X pc 1 q (.astore_n i)) (hn : (i : Nat) < mL X) (hv : ((i : Nat), Value.ref x) :: lv.filter (fun q => !(q.1 == (i : Nat)) && !(q.1 + 1 == (i : Nat) && q.2.category == 2)) = lv9) (k : WP V X q lv9 (st) h cl sl v h') : WP V X pc lv (.ref x :: st) h cl sl v h' := by
  obtain ⟨hd, rfl⟩ := hd
  exact fun p l e s m args below meth c H locs ls C K R L hl => lv_astore_n C.1 C.2.1 hd rfl hl hn hv (fun ls9 hl9 => k p l e s m args below meth c H locs ls9 C K R L hl9)
theorem WP.iinc {i : Nat} {n : Int} {x y : Int32} {lv9 : List (Nat × Value)} (hd : DC X pc 3 q (.iinc i n)) (j : Nat) (hj : lv[j]? = some (i, .int x)) (hy : Int32.ofInt n = y) (hn : i < mL X) (hv : (i, Value.int (x + y)) :: lv.filter (fun q => !(q.1 == i) && !(q.1 + 1 == i && q.2.category == 2)) = lv9) (k : WP V X q lv9 (st) h cl sl v h') : WP V X pc lv (st) h cl sl v h' := by
  obtain ⟨hd, rfl⟩ := hd
  exact fun p l e s m args below meth c H locs ls C K R L hl => lv_iinc C.1 C.2.1 hd hl hj (by rw [hy]) hn hv (fun ls9 hl9 => k p l e s m args below meth c H locs ls9 C K R L hl9)
theorem WP.goto {t : Nat}  (hd : DB X pc q t .goto) (k : WP V X t lv st h cl sl v h') : WP V X pc lv (st) h cl sl v h' := by
  obtain ⟨off, hd, rfl, ht⟩ := hd
  exact fun p l e s m args below meth c H locs ls C K R L hl => lv_goto C.1 C.2.1 hd ht (k p l e s m args below meth c H locs ls C K R L hl)
theorem WP.if_eq_t {t : Nat} {x : Int32} (hd : DB X pc q t (.ifCond .eq)) (hc : x = 0) (k : WP V X t lv st h cl sl v h') : WP V X pc lv (.int x :: st) h cl sl v h' := by
  obtain ⟨off, hd, rfl, ht⟩ := hd
  exact fun p l e s m args below meth c H locs ls C K R L hl => lv_if_eq C.1 C.2.1 hd ht (fun _ => (k p l e s m args below meth c H locs ls C K R L hl)) (fun z => absurd hc z)
theorem WP.if_eq_f {t : Nat} {x : Int32} (hd : DB X pc q t (.ifCond .eq)) (hc : ¬ x = 0) (k : WP V X q lv st h cl sl v h') : WP V X pc lv (.int x :: st) h cl sl v h' := by
  obtain ⟨off, hd, rfl, ht⟩ := hd
  exact fun p l e s m args below meth c H locs ls C K R L hl => lv_if_eq C.1 C.2.1 hd ht (fun z => absurd z hc) (fun _ => (k p l e s m args below meth c H locs ls C K R L hl))
theorem WP.if_ne_t {t : Nat} {x : Int32} (hd : DB X pc q t (.ifCond .ne)) (hc : x = 0) (k : WP V X q lv st h cl sl v h') : WP V X pc lv (.int x :: st) h cl sl v h' := by
  obtain ⟨off, hd, rfl, ht⟩ := hd
  exact fun p l e s m args below meth c H locs ls C K R L hl => lv_if_ne C.1 C.2.1 hd ht (fun z => absurd z (fun z => z hc)) (fun _ => (k p l e s m args below meth c H locs ls C K R L hl))
theorem WP.if_ne_f {t : Nat} {x : Int32} (hd : DB X pc q t (.ifCond .ne)) (hc : ¬ x = 0) (k : WP V X t lv st h cl sl v h') : WP V X pc lv (.int x :: st) h cl sl v h' := by
  obtain ⟨off, hd, rfl, ht⟩ := hd
  exact fun p l e s m args below meth c H locs ls C K R L hl => lv_if_ne C.1 C.2.1 hd ht (fun _ => (k p l e s m args below meth c H locs ls C K R L hl)) (fun z => absurd z hc)
theorem WP.if_lt_t {t : Nat} {x : Int32} (hd : DB X pc q t (.ifCond .lt)) (hc : x < 0) (k : WP V X t lv st h cl sl v h') : WP V X pc lv (.int x :: st) h cl sl v h' := by
  obtain ⟨off, hd, rfl, ht⟩ := hd
  exact fun p l e s m args below meth c H locs ls C K R L hl => lv_if_lt C.1 C.2.1 hd ht (fun _ => (k p l e s m args below meth c H locs ls C K R L hl)) (fun z => absurd hc z)
theorem WP.if_lt_f {t : Nat} {x : Int32} (hd : DB X pc q t (.ifCond .lt)) (hc : ¬ x < 0) (k : WP V X q lv st h cl sl v h') : WP V X pc lv (.int x :: st) h cl sl v h' := by
  obtain ⟨off, hd, rfl, ht⟩ := hd
  exact fun p l e s m args below meth c H locs ls C K R L hl => lv_if_lt C.1 C.2.1 hd ht (fun z => absurd z hc) (fun _ => (k p l e s m args below meth c H locs ls C K R L hl))
theorem WP.if_ge_t {t : Nat} {x : Int32} (hd : DB X pc q t (.ifCond .ge)) (hc : x < 0) (k : WP V X q lv st h cl sl v h') : WP V X pc lv (.int x :: st) h cl sl v h' := by
  obtain ⟨off, hd, rfl, ht⟩ := hd
  exact fun p l e s m args below meth c H locs ls C K R L hl => lv_if_ge C.1 C.2.1 hd ht (fun z => absurd z (Int32.not_le.mpr hc)) (fun _ => (k p l e s m args below meth c H locs ls C K R L hl))
theorem WP.if_ge_f {t : Nat} {x : Int32} (hd : DB X pc q t (.ifCond .ge)) (hc : ¬ x < 0) (k : WP V X t lv st h cl sl v h') : WP V X pc lv (.int x :: st) h cl sl v h' := by
  obtain ⟨off, hd, rfl, ht⟩ := hd
  exact fun p l e s m args below meth c H locs ls C K R L hl => lv_if_ge C.1 C.2.1 hd ht (fun _ => (k p l e s m args below meth c H locs ls C K R L hl)) (fun z => absurd (Int32.not_lt.mp hc) z)
theorem WP.if_gt_t {t : Nat} {x : Int32} (hd : DB X pc q t (.ifCond .gt)) (hc : 0 < x) (k : WP V X t lv st h cl sl v h') : WP V X pc lv (.int x :: st) h cl sl v h' := by
  obtain ⟨off, hd, rfl, ht⟩ := hd
  exact fun p l e s m args below meth c H locs ls C K R L hl => lv_if_gt C.1 C.2.1 hd ht (fun _ => (k p l e s m args below meth c H locs ls C K R L hl)) (fun z => absurd hc z)
theorem WP.if_gt_f {t : Nat} {x : Int32} (hd : DB X pc q t (.ifCond .gt)) (hc : ¬ 0 < x) (k : WP V X q lv st h cl sl v h') : WP V X pc lv (.int x :: st) h cl sl v h' := by
  obtain ⟨off, hd, rfl, ht⟩ := hd
  exact fun p l e s m args below meth c H locs ls C K R L hl => lv_if_gt C.1 C.2.1 hd ht (fun z => absurd z hc) (fun _ => (k p l e s m args below meth c H locs ls C K R L hl))
theorem WP.if_le_t {t : Nat} {x : Int32} (hd : DB X pc q t (.ifCond .le)) (hc : 0 < x) (k : WP V X q lv st h cl sl v h') : WP V X pc lv (.int x :: st) h cl sl v h' := by
  obtain ⟨off, hd, rfl, ht⟩ := hd
  exact fun p l e s m args below meth c H locs ls C K R L hl => lv_if_le C.1 C.2.1 hd ht (fun z => absurd z (Int32.not_le.mpr hc)) (fun _ => (k p l e s m args below meth c H locs ls C K R L hl))
theorem WP.if_le_f {t : Nat} {x : Int32} (hd : DB X pc q t (.ifCond .le)) (hc : ¬ 0 < x) (k : WP V X t lv st h cl sl v h') : WP V X pc lv (.int x :: st) h cl sl v h' := by
  obtain ⟨off, hd, rfl, ht⟩ := hd
  exact fun p l e s m args below meth c H locs ls C K R L hl => lv_if_le C.1 C.2.1 hd ht (fun _ => (k p l e s m args below meth c H locs ls C K R L hl)) (fun z => absurd (Int32.not_lt.mp hc) z)
theorem WP.icmp_eq_t {t : Nat} {x y : Int32} (hd : DB X pc q t (.if_icmp .eq)) (hc : x = y) (k : WP V X t lv st h cl sl v h') : WP V X pc lv (.int y :: .int x :: st) h cl sl v h' := by
  obtain ⟨off, hd, rfl, ht⟩ := hd
  exact fun p l e s m args below meth c H locs ls C K R L hl => lv_icmp_eq C.1 C.2.1 hd ht (fun _ => (k p l e s m args below meth c H locs ls C K R L hl)) (fun z => absurd hc z)
theorem WP.icmp_eq_f {t : Nat} {x y : Int32} (hd : DB X pc q t (.if_icmp .eq)) (hc : ¬ x = y) (k : WP V X q lv st h cl sl v h') : WP V X pc lv (.int y :: .int x :: st) h cl sl v h' := by
  obtain ⟨off, hd, rfl, ht⟩ := hd
  exact fun p l e s m args below meth c H locs ls C K R L hl => lv_icmp_eq C.1 C.2.1 hd ht (fun z => absurd z hc) (fun _ => (k p l e s m args below meth c H locs ls C K R L hl))
theorem WP.icmp_ne_t {t : Nat} {x y : Int32} (hd : DB X pc q t (.if_icmp .ne)) (hc : x = y) (k : WP V X q lv st h cl sl v h') : WP V X pc lv (.int y :: .int x :: st) h cl sl v h' := by
  obtain ⟨off, hd, rfl, ht⟩ := hd
  exact fun p l e s m args below meth c H locs ls C K R L hl => lv_icmp_ne C.1 C.2.1 hd ht (fun z => absurd z (fun z => z hc)) (fun _ => (k p l e s m args below meth c H locs ls C K R L hl))
theorem WP.icmp_ne_f {t : Nat} {x y : Int32} (hd : DB X pc q t (.if_icmp .ne)) (hc : ¬ x = y) (k : WP V X t lv st h cl sl v h') : WP V X pc lv (.int y :: .int x :: st) h cl sl v h' := by
  obtain ⟨off, hd, rfl, ht⟩ := hd
  exact fun p l e s m args below meth c H locs ls C K R L hl => lv_icmp_ne C.1 C.2.1 hd ht (fun _ => (k p l e s m args below meth c H locs ls C K R L hl)) (fun z => absurd z hc)
theorem WP.icmp_lt_t {t : Nat} {x y : Int32} (hd : DB X pc q t (.if_icmp .lt)) (hc : x < y) (k : WP V X t lv st h cl sl v h') : WP V X pc lv (.int y :: .int x :: st) h cl sl v h' := by
  obtain ⟨off, hd, rfl, ht⟩ := hd
  exact fun p l e s m args below meth c H locs ls C K R L hl => lv_icmp_lt C.1 C.2.1 hd ht (fun _ => (k p l e s m args below meth c H locs ls C K R L hl)) (fun z => absurd hc z)
theorem WP.icmp_lt_f {t : Nat} {x y : Int32} (hd : DB X pc q t (.if_icmp .lt)) (hc : ¬ x < y) (k : WP V X q lv st h cl sl v h') : WP V X pc lv (.int y :: .int x :: st) h cl sl v h' := by
  obtain ⟨off, hd, rfl, ht⟩ := hd
  exact fun p l e s m args below meth c H locs ls C K R L hl => lv_icmp_lt C.1 C.2.1 hd ht (fun z => absurd z hc) (fun _ => (k p l e s m args below meth c H locs ls C K R L hl))
theorem WP.icmp_ge_t {t : Nat} {x y : Int32} (hd : DB X pc q t (.if_icmp .ge)) (hc : x < y) (k : WP V X q lv st h cl sl v h') : WP V X pc lv (.int y :: .int x :: st) h cl sl v h' := by
  obtain ⟨off, hd, rfl, ht⟩ := hd
  exact fun p l e s m args below meth c H locs ls C K R L hl => lv_icmp_ge C.1 C.2.1 hd ht (fun z => absurd z (Int32.not_le.mpr hc)) (fun _ => (k p l e s m args below meth c H locs ls C K R L hl))
theorem WP.icmp_ge_f {t : Nat} {x y : Int32} (hd : DB X pc q t (.if_icmp .ge)) (hc : ¬ x < y) (k : WP V X t lv st h cl sl v h') : WP V X pc lv (.int y :: .int x :: st) h cl sl v h' := by
  obtain ⟨off, hd, rfl, ht⟩ := hd
  exact fun p l e s m args below meth c H locs ls C K R L hl => lv_icmp_ge C.1 C.2.1 hd ht (fun _ => (k p l e s m args below meth c H locs ls C K R L hl)) (fun z => absurd (Int32.not_lt.mp hc) z)
theorem WP.icmp_gt_t {t : Nat} {x y : Int32} (hd : DB X pc q t (.if_icmp .gt)) (hc : y < x) (k : WP V X t lv st h cl sl v h') : WP V X pc lv (.int y :: .int x :: st) h cl sl v h' := by
  obtain ⟨off, hd, rfl, ht⟩ := hd
  exact fun p l e s m args below meth c H locs ls C K R L hl => lv_icmp_gt C.1 C.2.1 hd ht (fun _ => (k p l e s m args below meth c H locs ls C K R L hl)) (fun z => absurd hc z)
theorem WP.icmp_gt_f {t : Nat} {x y : Int32} (hd : DB X pc q t (.if_icmp .gt)) (hc : ¬ y < x) (k : WP V X q lv st h cl sl v h') : WP V X pc lv (.int y :: .int x :: st) h cl sl v h' := by
  obtain ⟨off, hd, rfl, ht⟩ := hd
  exact fun p l e s m args below meth c H locs ls C K R L hl => lv_icmp_gt C.1 C.2.1 hd ht (fun z => absurd z hc) (fun _ => (k p l e s m args below meth c H locs ls C K R L hl))
theorem WP.icmp_le_t {t : Nat} {x y : Int32} (hd : DB X pc q t (.if_icmp .le)) (hc : y < x) (k : WP V X q lv st h cl sl v h') : WP V X pc lv (.int y :: .int x :: st) h cl sl v h' := by
  obtain ⟨off, hd, rfl, ht⟩ := hd
  exact fun p l e s m args below meth c H locs ls C K R L hl => lv_icmp_le C.1 C.2.1 hd ht (fun z => absurd z (Int32.not_le.mpr hc)) (fun _ => (k p l e s m args below meth c H locs ls C K R L hl))
theorem WP.icmp_le_f {t : Nat} {x y : Int32} (hd : DB X pc q t (.if_icmp .le)) (hc : ¬ y < x) (k : WP V X t lv st h cl sl v h') : WP V X pc lv (.int y :: .int x :: st) h cl sl v h' := by
  obtain ⟨off, hd, rfl, ht⟩ := hd
  exact fun p l e s m args below meth c H locs ls C K R L hl => lv_icmp_le C.1 C.2.1 hd ht (fun _ => (k p l e s m args below meth c H locs ls C K R L hl)) (fun z => absurd (Int32.not_lt.mp hc) z)
theorem WP.nnR {t : Nat} {x : Nat} (hd : DB X pc q t .ifnonnull) (k : WP V X t lv st h cl sl v h') : WP V X pc lv (.ref x :: st) h cl sl v h' := by
  obtain ⟨off, hd, rfl, ht⟩ := hd
  exact fun p l e s m args below meth c H locs ls C K R L hl => lv_ifnonnull C.1 C.2.1 hd ht (k p l e s m args below meth c H locs ls C K R L hl)
theorem WP.nR {t : Nat} {x : Nat} (hd : DB X pc q t .ifnull) (k : WP V X q lv st h cl sl v h') : WP V X pc lv (.ref x :: st) h cl sl v h' := by
  obtain ⟨off, hd, rfl, ht⟩ := hd
  exact fun p l e s m args below meth c H locs ls C K R L hl => lv_ifnull C.1 C.2.1 hd (k p l e s m args below meth c H locs ls C K R L hl)
theorem WP.nnN {t : Nat}  (hd : DB X pc q t .ifnonnull) (k : WP V X q lv st h cl sl v h') : WP V X pc lv (.null :: st) h cl sl v h' := by
  obtain ⟨off, hd, rfl, ht⟩ := hd
  exact fun p l e s m args below meth c H locs ls C K R L hl => lv_ifnonnullN C.1 C.2.1 hd (k p l e s m args below meth c H locs ls C K R L hl)
theorem WP.nN {t : Nat}  (hd : DB X pc q t .ifnull) (k : WP V X t lv st h cl sl v h') : WP V X pc lv (.null :: st) h cl sl v h' := by
  obtain ⟨off, hd, rfl, ht⟩ := hd
  exact fun p l e s m args below meth c H locs ls C K R L hl => lv_ifnullN C.1 C.2.1 hd ht (k p l e s m args below meth c H locs ls C K R L hl)
theorem WP.lcmp_eq_t {t q0 : Nat} {x y : Int64} (hd : DC X pc 1 q0 .lcmp) (hb : DB X q0 q t (.ifCond .eq)) (hc : x = y) (k : WP V X t lv st h cl sl v h') : WP V X pc lv (.long y :: .long x :: st) h cl sl v h' :=
  WP.lcmp hd (WP.if_eq_t hb (lgc_eq hc) k)
theorem WP.lcmp_eq_f {t q0 : Nat} {x y : Int64} (hd : DC X pc 1 q0 .lcmp) (hb : DB X q0 q t (.ifCond .eq)) (hc : ¬ x = y) (k : WP V X q lv st h cl sl v h') : WP V X pc lv (.long y :: .long x :: st) h cl sl v h' :=
  WP.lcmp hd (WP.if_eq_f hb (lgc_ne hc) k)
theorem WP.lcmp_ne_t {t q0 : Nat} {x y : Int64} (hd : DC X pc 1 q0 .lcmp) (hb : DB X q0 q t (.ifCond .ne)) (hc : x = y) (k : WP V X q lv st h cl sl v h') : WP V X pc lv (.long y :: .long x :: st) h cl sl v h' :=
  WP.lcmp hd (WP.if_ne_t hb (lgc_eq hc) k)
theorem WP.lcmp_ne_f {t q0 : Nat} {x y : Int64} (hd : DC X pc 1 q0 .lcmp) (hb : DB X q0 q t (.ifCond .ne)) (hc : ¬ x = y) (k : WP V X t lv st h cl sl v h') : WP V X pc lv (.long y :: .long x :: st) h cl sl v h' :=
  WP.lcmp hd (WP.if_ne_f hb (lgc_ne hc) k)
/-- a switch over a range: at one of its places, and beside them -/
theorem WP.tsw {n t : Nat} {x : Int32} {df lo hi off : Int} {offs : Array Int} (i : Nat) (hd : DC X pc n q (.tableswitch df lo hi offs)) (hx : x.toInt = lo + i) (hi2 : lo + i ≤ hi) (ho : offs[i]? = some off) (ht : (pc : Int) + off = (t : Int)) (k : WP V X t lv st h cl sl v h') : WP V X pc lv (.int x :: st) h cl sl v h' :=
  fun p l e s m args below meth c H locs ls C K R L hl => lv_tableIn C.1 C.2.1 hd.1 (by omega) (by omega) (by rw [show (x.toInt - lo).toNat = i by omega]; exact ho) ht (k p l e s m args below meth c H locs ls C K R L hl)
theorem WP.tswd {n t : Nat} {x : Int32} {df lo hi : Int} {offs : Array Int} (hd : DC X pc n q (.tableswitch df lo hi offs)) (hx : x.toInt < lo ∨ hi < x.toInt) (ht : (pc : Int) + df = (t : Int)) (k : WP V X t lv st h cl sl v h') : WP V X pc lv (.int x :: st) h cl sl v h' :=
  fun p l e s m args below meth c H locs ls C K R L hl => lv_tableOut C.1 C.2.1 hd.1 hx ht (k p l e s m args below meth c H locs ls C K R L hl)
end WPS
