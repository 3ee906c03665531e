/-- the machine's facts within a method -/
def xCx (p : Program) (R : Room) (s : State) (m : MethodId) (args : Array Value) (meth : Method) (c : Code) (E : xE) (z : xZ) (w : xWt) (b : xBd) : Prop :=
  p.tables.exec = Jvm.exec ∧ c.code = w.2.1 ∧ c.maxLocals = w.2.2.1 ∧ s.vm.findClass w.1 = some m.cls ∧ (∀ t ∈ xTB, t.before args s = true) ∧ xGl E z s s.heap ∧ E.2.2.1 ≤ s.heap.size ∧ (w.2.2.2.1 = true → meth.name = "<init>") ∧
  b.1 ≤ R.frames ∧ 100 * b.1 ≤ R.locals ∧ b.2.1 ≤ R.cells ∧ b.2.2 ≤ R.slots
/-- the heap of the machine shows the small heap; nothing old has changed; so many cells are new since the method began -/
def xRel (E : xE) (H0 : Heap) (H : xHp) (k : Nat) (Hh : Heap) (locs : List Loc) : Prop := xPic E H Hh ∧ va_S (xA E) H0 Hh locs ∧ H0.size + k = E.2.2.1 + H.1
/-- the instruction at pc returns this -/
def xrt (w : xWt) (pc : Nat) (v : Option Value) : Prop := match w.2.2.2.2, v with
  | 0, none => decode w.2.1 pc = .ok (.return_, 1)
  | 1, some (.int _) => decode w.2.1 pc = .ok (.ireturn, 1)
  | 2, some (.long _) => decode w.2.1 pc = .ok (.lreturn, 1)
  | 3, some (.int x) => decode w.2.1 pc = .ok (.ireturn, 1) ∧ (x = 0 ∨ x = 1)
  | _, _ => False
/-- the goal at a method's return -/
def xEnd (p : Program) (l : Launch) (e : Env) (R : Room) (s : State) (m : MethodId) (args : Array Value) (below : List Frame) (meth : Method) (c : Code) (E : xE) (w : xWt) (b : xBd) (o : xOut) (Q : State → Prop) : Prop :=
  ∀ (q : Nat) (pc : Nat) (ls : Array Slot) (Hh : Heap) (locs : List Loc), q ≤ b.2.2 → xRel E s.heap o.2 b.2.1 Hh locs → xrt w pc o.1 → W p l e R s m args below meth c Hh locs b.2.1 q Q (F0 m pc ls ((o.1.map (xtr E)).toList))
/-- THE JUDGEMENT: from here (k cells, q slots new so far; at pc with locals L, stack S, heap H) the method returns with o -/
def xR (w : xWt) (b : xBd) (z : xZ) (k q pc : Nat) (L : List (Option Value)) (S : List Value) (H : xHp) (o : xOut) : Prop :=
  ∀ (p : Program) (l : Launch) (e : Env) (R : Room) (s : State) (m : MethodId) (args : Array Value) (below : List Frame) (meth : Method) (c : Code) (E : xE) (Q : State → Prop) (Hh : Heap) (locs : List Loc) (ls : Array Slot),
    xCx p R s m args meth c E z w b → xEnd p l e R s m args below meth c E w b o Q → xRel E s.heap H k Hh locs → xlv E w.2.2.1 L ls →
    W p l e R s m args below meth c Hh locs k q Q (F0 m pc ls (S.map (xtr E)))
section XR
variable {w : xWt} {b : xBd} {z : xZ} {k q pc pc' : Nat} {L L' : List (Option Value)} {S : List Value} {H H' : xHp} {o : xOut}
theorem x_iadd {x y : Int32} (hd : decode w.2.1 pc = .ok (.iadd, 1))  (hp : pc + 1 = pc') (kk : xR w b z k q pc' L (.int (x + y) :: S) H o) : xR w b z k q pc L (.int y :: .int x :: S) H o := by
  intro p l e R s m args below meth c E Q Hh locs ls hC hE hR hL
  subst hp
  exact lv_iadd hC.1 hC.2.1 hd  (kk p l e R s m args below meth c E Q Hh locs ls hC hE hR hL)
theorem x_isub {x y : Int32} (hd : decode w.2.1 pc = .ok (.isub, 1))  (hp : pc + 1 = pc') (kk : xR w b z k q pc' L (.int (x - y) :: S) H o) : xR w b z k q pc L (.int y :: .int x :: S) H o := by
  intro p l e R s m args below meth c E Q Hh locs ls hC hE hR hL
  subst hp
  exact lv_isub hC.1 hC.2.1 hd  (kk p l e R s m args below meth c E Q Hh locs ls hC hE hR hL)
theorem x_imul {x y : Int32} (hd : decode w.2.1 pc = .ok (.imul, 1))  (hp : pc + 1 = pc') (kk : xR w b z k q pc' L (.int (x * y) :: S) H o) : xR w b z k q pc L (.int y :: .int x :: S) H o := by
  intro p l e R s m args below meth c E Q Hh locs ls hC hE hR hL
  subst hp
  exact lv_imul hC.1 hC.2.1 hd  (kk p l e R s m args below meth c E Q Hh locs ls hC hE hR hL)
theorem x_iand {x y : Int32} (hd : decode w.2.1 pc = .ok (.iand, 1))  (hp : pc + 1 = pc') (kk : xR w b z k q pc' L (.int (x &&& y) :: S) H o) : xR w b z k q pc L (.int y :: .int x :: S) H o := by
  intro p l e R s m args below meth c E Q Hh locs ls hC hE hR hL
  subst hp
  exact lv_iand hC.1 hC.2.1 hd  (kk p l e R s m args below meth c E Q Hh locs ls hC hE hR hL)
theorem x_ior {x y : Int32} (hd : decode w.2.1 pc = .ok (.ior, 1))  (hp : pc + 1 = pc') (kk : xR w b z k q pc' L (.int (x ||| y) :: S) H o) : xR w b z k q pc L (.int y :: .int x :: S) H o := by
  intro p l e R s m args below meth c E Q Hh locs ls hC hE hR hL
  subst hp
  exact lv_ior hC.1 hC.2.1 hd  (kk p l e R s m args below meth c E Q Hh locs ls hC hE hR hL)
theorem x_ixor {x y : Int32} (hd : decode w.2.1 pc = .ok (.ixor, 1))  (hp : pc + 1 = pc') (kk : xR w b z k q pc' L (.int (x ^^^ y) :: S) H o) : xR w b z k q pc L (.int y :: .int x :: S) H o := by
  intro p l e R s m args below meth c E Q Hh locs ls hC hE hR hL
  subst hp
  exact lv_ixor hC.1 hC.2.1 hd  (kk p l e R s m args below meth c E Q Hh locs ls hC hE hR hL)
theorem x_ishl {x y : Int32} (hd : decode w.2.1 pc = .ok (.ishl, 1))  (hp : pc + 1 = pc') (kk : xR w b z k q pc' L (.int (x <<< (y &&& 31)) :: S) H o) : xR w b z k q pc L (.int y :: .int x :: S) H o := by
  intro p l e R s m args below meth c E Q Hh locs ls hC hE hR hL
  subst hp
  exact lv_ishl hC.1 hC.2.1 hd  (kk p l e R s m args below meth c E Q Hh locs ls hC hE hR hL)
theorem x_ishr {x y : Int32} (hd : decode w.2.1 pc = .ok (.ishr, 1))  (hp : pc + 1 = pc') (kk : xR w b z k q pc' L (.int (x >>> (y &&& 31)) :: S) H o) : xR w b z k q pc L (.int y :: .int x :: S) H o := by
  intro p l e R s m args below meth c E Q Hh locs ls hC hE hR hL
  subst hp
  exact lv_ishr hC.1 hC.2.1 hd  (kk p l e R s m args below meth c E Q Hh locs ls hC hE hR hL)
theorem x_irem {x y : Int32} (hd : decode w.2.1 pc = .ok (.irem, 1)) (hne : ¬ y = 0) (hp : pc + 1 = pc') (kk : xR w b z k q pc' L (.int (x - x / y * y) :: S) H o) : xR w b z k q pc L (.int y :: .int x :: S) H o := by
  intro p l e R s m args below meth c E Q Hh locs ls hC hE hR hL
  subst hp
  exact lv_irem hC.1 hC.2.1 hd hne (kk p l e R s m args below meth c E Q Hh locs ls hC hE hR hL)
theorem x_iushr {x y : Int32} (hd : decode w.2.1 pc = .ok (.iushr, 1))  (hp : pc + 1 = pc') (kk : xR w b z k q pc' L (.int ((x.toUInt32 >>> (y.toUInt32 &&& Int32.toUInt32 31)).toInt32) :: S) H o) : xR w b z k q pc L (.int y :: .int x :: S) H o := by
  intro p l e R s m args below meth c E Q Hh locs ls hC hE hR hL
  subst hp
  exact lv_iushr hC.1 hC.2.1 hd rfl (kk p l e R s m args below meth c E Q Hh locs ls hC hE hR hL)
theorem x_ladd {x y : Int64} (hd : decode w.2.1 pc = .ok (.ladd, 1))  (hp : pc + 1 = pc') (kk : xR w b z k q pc' L (.long (x + y) :: S) H o) : xR w b z k q pc L (.long y :: .long x :: S) H o := by
  intro p l e R s m args below meth c E Q Hh locs ls hC hE hR hL
  subst hp
  exact lv_ladd hC.1 hC.2.1 hd  (kk p l e R s m args below meth c E Q Hh locs ls hC hE hR hL)
theorem x_lsub {x y : Int64} (hd : decode w.2.1 pc = .ok (.lsub, 1))  (hp : pc + 1 = pc') (kk : xR w b z k q pc' L (.long (x - y) :: S) H o) : xR w b z k q pc L (.long y :: .long x :: S) H o := by
  intro p l e R s m args below meth c E Q Hh locs ls hC hE hR hL
  subst hp
  exact lv_lsub hC.1 hC.2.1 hd  (kk p l e R s m args below meth c E Q Hh locs ls hC hE hR hL)
theorem x_lmul {x y : Int64} (hd : decode w.2.1 pc = .ok (.lmul, 1))  (hp : pc + 1 = pc') (kk : xR w b z k q pc' L (.long (x * y) :: S) H o) : xR w b z k q pc L (.long y :: .long x :: S) H o := by
  intro p l e R s m args below meth c E Q Hh locs ls hC hE hR hL
  subst hp
  exact lv_lmul hC.1 hC.2.1 hd  (kk p l e R s m args below meth c E Q Hh locs ls hC hE hR hL)
theorem x_land {x y : Int64} (hd : decode w.2.1 pc = .ok (.land, 1))  (hp : pc + 1 = pc') (kk : xR w b z k q pc' L (.long (x &&& y) :: S) H o) : xR w b z k q pc L (.long y :: .long x :: S) H o := by
  intro p l e R s m args below meth c E Q Hh locs ls hC hE hR hL
  subst hp
  exact lv_land hC.1 hC.2.1 hd  (kk p l e R s m args below meth c E Q Hh locs ls hC hE hR hL)
theorem x_lor {x y : Int64} (hd : decode w.2.1 pc = .ok (.lor, 1))  (hp : pc + 1 = pc') (kk : xR w b z k q pc' L (.long (x ||| y) :: S) H o) : xR w b z k q pc L (.long y :: .long x :: S) H o := by
  intro p l e R s m args below meth c E Q Hh locs ls hC hE hR hL
  subst hp
  exact lv_lor hC.1 hC.2.1 hd  (kk p l e R s m args below meth c E Q Hh locs ls hC hE hR hL)
theorem x_ldiv {x y : Int64} (hd : decode w.2.1 pc = .ok (.ldiv, 1)) (hne : ¬ y = 0) (hp : pc + 1 = pc') (kk : xR w b z k q pc' L (.long (x / y) :: S) H o) : xR w b z k q pc L (.long y :: .long x :: S) H o := by
  intro p l e R s m args below meth c E Q Hh locs ls hC hE hR hL
  subst hp
  exact lv_ldiv hC.1 hC.2.1 hd hne (kk p l e R s m args below meth c E Q Hh locs ls hC hE hR hL)
theorem x_lrem {x y : Int64} (hd : decode w.2.1 pc = .ok (.lrem, 1)) (hne : ¬ y = 0) (hp : pc + 1 = pc') (kk : xR w b z k q pc' L (.long (x - x / y * y) :: S) H o) : xR w b z k q pc L (.long y :: .long x :: S) H o := by
  intro p l e R s m args below meth c E Q Hh locs ls hC hE hR hL
  subst hp
  exact lv_lrem hC.1 hC.2.1 hd hne (kk p l e R s m args below meth c E Q Hh locs ls hC hE hR hL)
theorem x_lneg {x : Int64} (hd : decode w.2.1 pc = .ok (.lneg, 1))  (hp : pc + 1 = pc') (kk : xR w b z k q pc' L (.long (-x) :: S) H o) : xR w b z k q pc L (.long x :: S) H o := by
  intro p l e R s m args below meth c E Q Hh locs ls hC hE hR hL
  subst hp
  exact lv_lneg hC.1 hC.2.1 hd  (kk p l e R s m args below meth c E Q Hh locs ls hC hE hR hL)
theorem x_lshl {x : Int64} {y : Int32} (hd : decode w.2.1 pc = .ok (.lshl, 1))  (hp : pc + 1 = pc') (kk : xR w b z k q pc' L (.long (x <<< (y.toInt64 &&& 63)) :: S) H o) : xR w b z k q pc L (.int y :: .long x :: S) H o := by
  intro p l e R s m args below meth c E Q Hh locs ls hC hE hR hL
  subst hp
  exact lv_lshl hC.1 hC.2.1 hd rfl (kk p l e R s m args below meth c E Q Hh locs ls hC hE hR hL)
theorem x_lshr {x : Int64} {y : Int32} (hd : decode w.2.1 pc = .ok (.lshr, 1))  (hp : pc + 1 = pc') (kk : xR w b z k q pc' L (.long (x >>> (y.toInt64 &&& 63)) :: S) H o) : xR w b z k q pc L (.int y :: .long x :: S) H o := by
  intro p l e R s m args below meth c E Q Hh locs ls hC hE hR hL
  subst hp
  exact lv_lshr hC.1 hC.2.1 hd rfl (kk p l e R s m args below meth c E Q Hh locs ls hC hE hR hL)
theorem x_i2l {x : Int32} (hd : decode w.2.1 pc = .ok (.i2l, 1))  (hp : pc + 1 = pc') (kk : xR w b z k q pc' L (.long x.toInt64 :: S) H o) : xR w b z k q pc L (.int x :: S) H o := by
  intro p l e R s m args below meth c E Q Hh locs ls hC hE hR hL
  subst hp
  exact lv_i2l hC.1 hC.2.1 hd rfl (kk p l e R s m args below meth c E Q Hh locs ls hC hE hR hL)
theorem x_l2i {x : Int64} (hd : decode w.2.1 pc = .ok (.l2i, 1))  (hp : pc + 1 = pc') (kk : xR w b z k q pc' L (.int x.toInt32 :: S) H o) : xR w b z k q pc L (.long x :: S) H o := by
  intro p l e R s m args below meth c E Q Hh locs ls hC hE hR hL
  subst hp
  exact lv_l2i hC.1 hC.2.1 hd rfl (kk p l e R s m args below meth c E Q Hh locs ls hC hE hR hL)
theorem x_i2b {x : Int32} (hd : decode w.2.1 pc = .ok (.i2b, 1))  (hp : pc + 1 = pc') (kk : xR w b z k q pc' L (.int x.toInt8.toInt32 :: S) H o) : xR w b z k q pc L (.int x :: S) H o := by
  intro p l e R s m args below meth c E Q Hh locs ls hC hE hR hL
  subst hp
  exact lv_i2b hC.1 hC.2.1 hd rfl (kk p l e R s m args below meth c E Q Hh locs ls hC hE hR hL)
theorem x_lcmp {x y : Int64} (hd : decode w.2.1 pc = .ok (.lcmp, 1))  (hp : pc + 1 = pc') (kk : xR w b z k q pc' L (.int (lg_cmp x y) :: S) H o) : xR w b z k q pc L (.long y :: .long x :: S) H o := by
  intro p l e R s m args below meth c E Q Hh locs ls hC hE hR hL
  subst hp
  exact W.lcmp hC.1 hC.2.1 hd  (kk p l e R s m args below meth c E Q Hh locs ls hC hE hR hL)
theorem x_iconst {n : Int} {x : Int32} (hd : decode w.2.1 pc = .ok (.iconst n, 1)) (hv : Int32.ofInt n = x) (hp : pc + 1 = pc') (kk : xR w b z k q pc' L (.int x :: S) H o) : xR w b z k q pc L (S) H o := by
  intro p l e R s m args below meth c E Q Hh locs ls hC hE hR hL
  subst hp
  exact lv_iconst hC.1 hC.2.1 hd hv (kk p l e R s m args below meth c E Q Hh locs ls hC hE hR hL)
theorem x_bipush {n : Int} {x : Int32} (hd : decode w.2.1 pc = .ok (.bipush n, 2)) (hv : (Int8.ofInt n).toInt32 = x) (hp : pc + 2 = pc') (kk : xR w b z k q pc' L (.int x :: S) H o) : xR w b z k q pc L (S) H o := by
  intro p l e R s m args below meth c E Q Hh locs ls hC hE hR hL
  subst hp
  exact lv_bipush hC.1 hC.2.1 hd hv (kk p l e R s m args below meth c E Q Hh locs ls hC hE hR hL)
theorem x_sipush {n : Int} {x : Int32} (hd : decode w.2.1 pc = .ok (.sipush n, 3)) (hv : (Int16.ofInt n).toInt32 = x) (hp : pc + 3 = pc') (kk : xR w b z k q pc' L (.int x :: S) H o) : xR w b z k q pc L (S) H o := by
  intro p l e R s m args below meth c E Q Hh locs ls hC hE hR hL
  subst hp
  exact lv_sipush hC.1 hC.2.1 hd hv (kk p l e R s m args below meth c E Q Hh locs ls hC hE hR hL)
theorem x_lconst {n : Fin 2} {x : Int64} (hd : decode w.2.1 pc = .ok (.lconst n, 1)) (hv : Int64.ofNat (n : Nat) = x) (hp : pc + 1 = pc') (kk : xR w b z k q pc' L (.long x :: S) H o) : xR w b z k q pc L (S) H o := by
  intro p l e R s m args below meth c E Q Hh locs ls hC hE hR hL
  subst hp
  exact lv_lconst hC.1 hC.2.1 hd hv (kk p l e R s m args below meth c E Q Hh locs ls hC hE hR hL)
theorem x_dup {v : Value} (hd : decode w.2.1 pc = .ok (.dup, 1)) (hv : v.category = 1) (hp : pc + 1 = pc') (kk : xR w b z k q pc' L (v :: v :: S) H o) : xR w b z k q pc L (v :: S) H o := by
  intro p l e R s m args below meth c E Q Hh locs ls hC hE hR hL
  subst hp
  exact lv_dup hC.1 hC.2.1 hd (by rw [xtr_cat]; exact hv) (kk p l e R s m args below meth c E Q Hh locs ls hC hE hR hL)
theorem x_dup2 {v u : Value} (hd : decode w.2.1 pc = .ok (.dup2, 1)) (hv : v.category = 1) (hu : u.category = 1) (hp : pc + 1 = pc') (kk : xR w b z k q pc' L (v :: u :: v :: u :: S) H o) : xR w b z k q pc L (v :: u :: S) H o := by
  intro p l e R s m args below meth c E Q Hh locs ls hC hE hR hL
  subst hp
  exact lv_dup2_11 hC.1 hC.2.1 hd (by rw [xtr_cat]; exact hv) (by rw [xtr_cat]; exact hu) (kk p l e R s m args below meth c E Q Hh locs ls hC hE hR hL)
theorem x_pop {v : Value} (hd : decode w.2.1 pc = .ok (.pop, 1)) (hv : v.category = 1) (hp : pc + 1 = pc') (kk : xR w b z k q pc' L (S) H o) : xR w b z k q pc L (v :: S) H o := by
  intro p l e R s m args below meth c E Q Hh locs ls hC hE hR hL
  subst hp
  exact lv_pop hC.1 hC.2.1 hd (by rw [xtr_cat]; exact hv) (kk p l e R s m args below meth c E Q Hh locs ls hC hE hR hL)
theorem x_iload {i : Nat} {x : Int32} (hd : decode w.2.1 pc = .ok (.iload i, 2)) (hl : L[i]? = some (some (.int x))) (hp : pc + 2 = pc') (kk : xR w b z k q pc' L (.int x :: S) H o) : xR w b z k q pc L (S) H o := by
  intro p l e R s m args below meth c E Q Hh locs ls hC hE hR hL
  subst hp
  exact lv_iload hC.1 hC.2.1 hd (xlv_at hL hl) (kk p l e R s m args below meth c E Q Hh locs ls hC hE hR hL)
theorem x_iload_n {i : Fin 4} {x : Int32} (hd : decode w.2.1 pc = .ok (.iload_n i, 1)) (hl : L[(i : Nat)]? = some (some (.int x))) (hp : pc + 1 = pc') (kk : xR w b z k q pc' L (.int x :: S) H o) : xR w b z k q pc L (S) H o := by
  intro p l e R s m args below meth c E Q Hh locs ls hC hE hR hL
  subst hp
  exact lv_iload_n hC.1 hC.2.1 hd rfl (xlv_at hL hl) (kk p l e R s m args below meth c E Q Hh locs ls hC hE hR hL)
theorem x_lload {i : Nat} {x : Int64} (hd : decode w.2.1 pc = .ok (.lload i, 2)) (hl : L[i]? = some (some (.long x))) (hp : pc + 2 = pc') (kk : xR w b z k q pc' L (.long x :: S) H o) : xR w b z k q pc L (S) H o := by
  intro p l e R s m args below meth c E Q Hh locs ls hC hE hR hL
  subst hp
  exact lv_lload hC.1 hC.2.1 hd (xlv_at hL hl) (kk p l e R s m args below meth c E Q Hh locs ls hC hE hR hL)
theorem x_lload_n {i : Fin 4} {x : Int64} (hd : decode w.2.1 pc = .ok (.lload_n i, 1)) (hl : L[(i : Nat)]? = some (some (.long x))) (hp : pc + 1 = pc') (kk : xR w b z k q pc' L (.long x :: S) H o) : xR w b z k q pc L (S) H o := by
  intro p l e R s m args below meth c E Q Hh locs ls hC hE hR hL
  subst hp
  exact lv_lload_n hC.1 hC.2.1 hd rfl (xlv_at hL hl) (kk p l e R s m args below meth c E Q Hh locs ls hC hE hR hL)
theorem x_aload {i : Nat} {x : Nat} (hd : decode w.2.1 pc = .ok (.aload i, 2)) (hl : L[i]? = some (some (.ref x))) (hp : pc + 2 = pc') (kk : xR w b z k q pc' L (.ref x :: S) H o) : xR w b z k q pc L (S) H o := by
  intro p l e R s m args below meth c E Q Hh locs ls hC hE hR hL
  subst hp
  exact lv_aload hC.1 hC.2.1 hd (xlv_at hL hl) (kk p l e R s m args below meth c E Q Hh locs ls hC hE hR hL)
theorem x_aload_n {i : Fin 4} {x : Nat} (hd : decode w.2.1 pc = .ok (.aload_n i, 1)) (hl : L[(i : Nat)]? = some (some (.ref x))) (hp : pc + 1 = pc') (kk : xR w b z k q pc' L (.ref x :: S) H o) : xR w b z k q pc L (S) H o := by
  intro p l e R s m args below meth c E Q Hh locs ls hC hE hR hL
  subst hp
  exact lv_aload_n hC.1 hC.2.1 hd rfl (xlv_at hL hl) (kk p l e R s m args below meth c E Q Hh locs ls hC hE hR hL)
theorem x_istore {i : Nat} {x : Int32} (hd : decode w.2.1 pc = .ok (.istore i, 2)) (hn : (i : Nat) < w.2.2.1) (hs : xset1 L (i : Nat) (.int x) = L') (hp : pc + 2 = pc') (kk : xR w b z k q pc' L' S H o) : xR w b z k q pc L (.int x :: S) H o := by
  intro p l e R s m args below meth c E Q Hh locs ls hC hE hR hL
  subst hp
  subst hs
  exact lv_istore hC.1 hC.2.1 hd hL.2 hn rfl (fun ls2 h2 => (kk p l e R s m args below meth c E Q Hh locs ls2 hC hE hR (xlv_set1 hL.1 h2)))
theorem x_istore_n {i : Fin 4} {x : Int32} (hd : decode w.2.1 pc = .ok (.istore_n i, 1)) (hn : (i : Nat) < w.2.2.1) (hs : xset1 L (i : Nat) (.int x) = L') (hp : pc + 1 = pc') (kk : xR w b z k q pc' L' S H o) : xR w b z k q pc L (.int x :: S) H o := by
  intro p l e R s m args below meth c E Q Hh locs ls hC hE hR hL
  subst hp
  subst hs
  exact lv_istore_n hC.1 hC.2.1 hd rfl hL.2 hn rfl (fun ls2 h2 => (kk p l e R s m args below meth c E Q Hh locs ls2 hC hE hR (xlv_set1 hL.1 h2)))
theorem x_lstore {i : Nat} {x : Int64} (hd : decode w.2.1 pc = .ok (.lstore i, 2)) (hn : (i : Nat) + 1 < w.2.2.1) (hs : xset2 L (i : Nat) (.long x) = L') (hp : pc + 2 = pc') (kk : xR w b z k q pc' L' S H o) : xR w b z k q pc L (.long x :: S) H o := by
  intro p l e R s m args below meth c E Q Hh locs ls hC hE hR hL
  subst hp
  subst hs
  exact lv_lstore hC.1 hC.2.1 hd hL.2 hn rfl (fun ls2 h2 => (kk p l e R s m args below meth c E Q Hh locs ls2 hC hE hR (xlv_set2 hL.1 hn h2)))
theorem x_lstore_n {i : Fin 4} {x : Int64} (hd : decode w.2.1 pc = .ok (.lstore_n i, 1)) (hn : (i : Nat) + 1 < w.2.2.1) (hs : xset2 L (i : Nat) (.long x) = L') (hp : pc + 1 = pc') (kk : xR w b z k q pc' L' S H o) : xR w b z k q pc L (.long x :: S) H o := by
  intro p l e R s m args below meth c E Q Hh locs ls hC hE hR hL
  subst hp
  subst hs
  exact lv_lstore_n hC.1 hC.2.1 hd rfl hL.2 hn rfl (fun ls2 h2 => (kk p l e R s m args below meth c E Q Hh locs ls2 hC hE hR (xlv_set2 hL.1 hn h2)))
theorem x_astore {i : Nat} {x : Nat} (hd : decode w.2.1 pc = .ok (.astore i, 2)) (hn : (i : Nat) < w.2.2.1) (hs : xset1 L (i : Nat) (.ref x) = L') (hp : pc + 2 = pc') (kk : xR w b z k q pc' L' S H o) : xR w b z k q pc L (.ref x :: S) H o := by
  intro p l e R s m args below meth c E Q Hh locs ls hC hE hR hL
  subst hp
  subst hs
  exact lv_astore hC.1 hC.2.1 hd hL.2 hn rfl (fun ls2 h2 => (kk p l e R s m args below meth c E Q Hh locs ls2 hC hE hR (xlv_set1 hL.1 h2)))
theorem x_astore_n {i : Fin 4} {x : Nat} (hd : decode w.2.1 pc = .ok (.astore_n i, 1)) (hn : (i : Nat) < w.2.2.1) (hs : xset1 L (i : Nat) (.ref x) = L') (hp : pc + 1 = pc') (kk : xR w b z k q pc' L' S H o) : xR w b z k q pc L (.ref x :: S) H o := by
  intro p l e R s m args below meth c E Q Hh locs ls hC hE hR hL
  subst hp
  subst hs
  exact lv_astore_n hC.1 hC.2.1 hd rfl hL.2 hn rfl (fun ls2 h2 => (kk p l e R s m args below meth c E Q Hh locs ls2 hC hE hR (xlv_set1 hL.1 h2)))
theorem x_iinc {i : Nat} {n : Int} {x v : Int32} (hd : decode w.2.1 pc = .ok (.iinc i n, 3)) (hl : L[i]? = some (some (.int x))) (hv : x + Int32.ofInt n = v) (hn : i < w.2.2.1) (hs : xset1 L i (.int v) = L') (hp : pc + 3 = pc') (kk : xR w b z k q pc' L' S H o) : xR w b z k q pc L S H o := by
  intro p l e R s m args below meth c E Q Hh locs ls hC hE hR hL
  subst hp
  subst hs
  obtain ⟨j, hj⟩ := List.getElem?_of_mem (xpr_mem.mpr ⟨_, hl, rfl⟩ : (i, xtr E (.int x)) ∈ xpr E L)
  exact lv_iinc hC.1 hC.2.1 hd hL.2 hj hv hn rfl (fun ls2 h2 => (kk p l e R s m args below meth c E Q Hh locs ls2 hC hE hR (xlv_set1 hL.1 h2)))
end XR
