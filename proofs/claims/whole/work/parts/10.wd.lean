theorem wd_fm {ws w : va_W} {is : List Nat} (h : is.map (fun i => ws[i]?) = w.map some) : is.filterMap (fun i => ws[i]?) = w := by
  have e : is.filterMap (fun i => ws[i]?) = (is.map (fun i => ws[i]?)).filterMap id := by
    induction is with
    | nil => rfl
    | cons a l ih => simp [List.filterMap_cons, List.filterMap_map]
  rw [e, h, List.filterMap_map]
  simp
section WDL
variable {p : Program} {l : Launch} {e : Env} {R : Room} {s : State} {m : MethodId} {args : Array Value} {below : List Frame} {meth : Method} {c : Code} {cc : ByteArray} {nL : Nat} {Ts : List Cond} {own : String} {D : va_G} {tys : List (ClassId × FieldType)} {A : Nat → Prop} {k n : Nat} {Q : State → Prop} {pc j : Nat} {lv lv' : List (Nat × Value)} {rest : List Value} {ws ws' : va_W}
/-- what a walk of a method knows all the way -/
def wd_C (p : Program) (m : MethodId) (c : Code) (cc : ByteArray) (nL : Nat) (s : State) (args : Array Value) (Ts : List Cond) (own : String) (D : va_G) (tys : List (ClassId × FieldType)) (A : Nat → Prop) : Prop := CallFix p m c cc nL s args Ts own ∧ va_K D vwCl tys s ∧ ∀ q : Nat, s.heap.size ≤ q → A q
/-- from the frame at pc with these locals, this stack and this world the machine comes to Q -/
def Wd (p : Program) (l : Launch) (e : Env) (R : Room) (s : State) (m : MethodId) (args : Array Value) (below : List Frame) (meth : Method) (c : Code) (nL : Nat) (D : va_G) (A : Nat → Prop) (k n : Nat) (Q : State → Prop) (pc : Nat) (lv : List (Nat × Value)) (st : List Value) (ws : va_W) : Prop :=
  ∀ (H : Heap) (locs : List Loc) (ls : Array Slot), va_P D vwCl ws H → va_D A ws → va_S A s.heap H locs → lv_has ls nL lv → W p l e R s m args below meth c H locs k n Q (F0 m pc ls st)

theorem wd_iadd (C : wd_C p m c cc nL s args Ts own D tys A) {x y : Int32} (hd : decode cc pc = .ok (.iadd, 1))  (hj : pc + 1 = j) (kk : Wd p l e R s m args below meth c nL D A k n Q j lv (.int (x + y) :: rest) ws) : Wd p l e R s m args below meth c nL D A k n Q pc lv (.int y :: .int x :: rest) ws := by
  subst hj
  intro H locs ls hP hD hS hl
  exact lv_iadd C.1.1 C.1.2.1 hd (kk H locs ls hP hD hS hl)
theorem wd_isub (C : wd_C p m c cc nL s args Ts own D tys A) {x y : Int32} (hd : decode cc pc = .ok (.isub, 1))  (hj : pc + 1 = j) (kk : Wd p l e R s m args below meth c nL D A k n Q j lv (.int (x - y) :: rest) ws) : Wd p l e R s m args below meth c nL D A k n Q pc lv (.int y :: .int x :: rest) ws := by
  subst hj
  intro H locs ls hP hD hS hl
  exact lv_isub C.1.1 C.1.2.1 hd (kk H locs ls hP hD hS hl)
theorem wd_imul (C : wd_C p m c cc nL s args Ts own D tys A) {x y : Int32} (hd : decode cc pc = .ok (.imul, 1))  (hj : pc + 1 = j) (kk : Wd p l e R s m args below meth c nL D A k n Q j lv (.int (x * y) :: rest) ws) : Wd p l e R s m args below meth c nL D A k n Q pc lv (.int y :: .int x :: rest) ws := by
  subst hj
  intro H locs ls hP hD hS hl
  exact lv_imul C.1.1 C.1.2.1 hd (kk H locs ls hP hD hS hl)
theorem wd_iand (C : wd_C p m c cc nL s args Ts own D tys A) {x y : Int32} (hd : decode cc pc = .ok (.iand, 1))  (hj : pc + 1 = j) (kk : Wd p l e R s m args below meth c nL D A k n Q j lv (.int (x &&& y) :: rest) ws) : Wd p l e R s m args below meth c nL D A k n Q pc lv (.int y :: .int x :: rest) ws := by
  subst hj
  intro H locs ls hP hD hS hl
  exact lv_iand C.1.1 C.1.2.1 hd (kk H locs ls hP hD hS hl)
theorem wd_ior (C : wd_C p m c cc nL s args Ts own D tys A) {x y : Int32} (hd : decode cc pc = .ok (.ior, 1))  (hj : pc + 1 = j) (kk : Wd p l e R s m args below meth c nL D A k n Q j lv (.int (x ||| y) :: rest) ws) : Wd p l e R s m args below meth c nL D A k n Q pc lv (.int y :: .int x :: rest) ws := by
  subst hj
  intro H locs ls hP hD hS hl
  exact lv_ior C.1.1 C.1.2.1 hd (kk H locs ls hP hD hS hl)
theorem wd_ishl (C : wd_C p m c cc nL s args Ts own D tys A) {x y : Int32} (hd : decode cc pc = .ok (.ishl, 1))  (hj : pc + 1 = j) (kk : Wd p l e R s m args below meth c nL D A k n Q j lv (.int (x <<< (y &&& 31)) :: rest) ws) : Wd p l e R s m args below meth c nL D A k n Q pc lv (.int y :: .int x :: rest) ws := by
  subst hj
  intro H locs ls hP hD hS hl
  exact lv_ishl C.1.1 C.1.2.1 hd (kk H locs ls hP hD hS hl)
theorem wd_ladd (C : wd_C p m c cc nL s args Ts own D tys A) {x y : Int64} (hd : decode cc pc = .ok (.ladd, 1))  (hj : pc + 1 = j) (kk : Wd p l e R s m args below meth c nL D A k n Q j lv (.long (x + y) :: rest) ws) : Wd p l e R s m args below meth c nL D A k n Q pc lv (.long y :: .long x :: rest) ws := by
  subst hj
  intro H locs ls hP hD hS hl
  exact lv_ladd C.1.1 C.1.2.1 hd (kk H locs ls hP hD hS hl)
theorem wd_lmul (C : wd_C p m c cc nL s args Ts own D tys A) {x y : Int64} (hd : decode cc pc = .ok (.lmul, 1))  (hj : pc + 1 = j) (kk : Wd p l e R s m args below meth c nL D A k n Q j lv (.long (x * y) :: rest) ws) : Wd p l e R s m args below meth c nL D A k n Q pc lv (.long y :: .long x :: rest) ws := by
  subst hj
  intro H locs ls hP hD hS hl
  exact lv_lmul C.1.1 C.1.2.1 hd (kk H locs ls hP hD hS hl)
theorem wd_lsub (C : wd_C p m c cc nL s args Ts own D tys A) {x y : Int64} (hd : decode cc pc = .ok (.lsub, 1))  (hj : pc + 1 = j) (kk : Wd p l e R s m args below meth c nL D A k n Q j lv (.long (x - y) :: rest) ws) : Wd p l e R s m args below meth c nL D A k n Q pc lv (.long y :: .long x :: rest) ws := by
  subst hj
  intro H locs ls hP hD hS hl
  exact lv_lsub C.1.1 C.1.2.1 hd (kk H locs ls hP hD hS hl)
theorem wd_lcmp (C : wd_C p m c cc nL s args Ts own D tys A) {x y : Int64} (hd : decode cc pc = .ok (.lcmp, 1))  (hj : pc + 1 = j) (kk : Wd p l e R s m args below meth c nL D A k n Q j lv (.int (lg_cmp x y) :: rest) ws) : Wd p l e R s m args below meth c nL D A k n Q pc lv (.long y :: .long x :: rest) ws := by
  subst hj
  intro H locs ls hP hD hS hl
  exact W.lcmp C.1.1 C.1.2.1 hd (kk H locs ls hP hD hS hl)
theorem wd_idiv (C : wd_C p m c cc nL s args Ts own D tys A) {x y : Int32} (hd : decode cc pc = .ok (.idiv, 1)) (hne : ¬ y = 0) (hj : pc + 1 = j) (kk : Wd p l e R s m args below meth c nL D A k n Q j lv (.int (x / y) :: rest) ws) : Wd p l e R s m args below meth c nL D A k n Q pc lv (.int y :: .int x :: rest) ws := by
  subst hj
  intro H locs ls hP hD hS hl
  exact lv_idiv C.1.1 C.1.2.1 hd hne (kk H locs ls hP hD hS hl)
theorem wd_irem (C : wd_C p m c cc nL s args Ts own D tys A) {x y : Int32} (hd : decode cc pc = .ok (.irem, 1)) (hne : ¬ y = 0) (hj : pc + 1 = j) (kk : Wd p l e R s m args below meth c nL D A k n Q j lv (.int (x - x / y * y) :: rest) ws) : Wd p l e R s m args below meth c nL D A k n Q pc lv (.int y :: .int x :: rest) ws := by
  subst hj
  intro H locs ls hP hD hS hl
  exact lv_irem C.1.1 C.1.2.1 hd hne (kk H locs ls hP hD hS hl)
theorem wd_dadd (C : wd_C p m c cc nL s args Ts own D tys A) {x y : UInt64} (hd : decode cc pc = .ok (.dadd, 1)) (hne : vf_n64 (FP.dadd x y)) (hj : pc + 1 = j) (kk : Wd p l e R s m args below meth c nL D A k n Q j lv (.double (FP.dadd x y) :: rest) ws) : Wd p l e R s m args below meth c nL D A k n Q pc lv (.double y :: .double x :: rest) ws := by
  subst hj
  intro H locs ls hP hD hS hl
  exact lv_dadd C.1.1 C.1.2.1 hd hne (kk H locs ls hP hD hS hl)
theorem wd_dsub (C : wd_C p m c cc nL s args Ts own D tys A) {x y : UInt64} (hd : decode cc pc = .ok (.dsub, 1)) (hne : vf_n64 (FP.dsub x y)) (hj : pc + 1 = j) (kk : Wd p l e R s m args below meth c nL D A k n Q j lv (.double (FP.dsub x y) :: rest) ws) : Wd p l e R s m args below meth c nL D A k n Q pc lv (.double y :: .double x :: rest) ws := by
  subst hj
  intro H locs ls hP hD hS hl
  exact lv_dsub C.1.1 C.1.2.1 hd hne (kk H locs ls hP hD hS hl)
theorem wd_dmul (C : wd_C p m c cc nL s args Ts own D tys A) {x y : UInt64} (hd : decode cc pc = .ok (.dmul, 1)) (hne : vf_n64 (FP.dmul x y)) (hj : pc + 1 = j) (kk : Wd p l e R s m args below meth c nL D A k n Q j lv (.double (FP.dmul x y) :: rest) ws) : Wd p l e R s m args below meth c nL D A k n Q pc lv (.double y :: .double x :: rest) ws := by
  subst hj
  intro H locs ls hP hD hS hl
  exact lv_dmul C.1.1 C.1.2.1 hd hne (kk H locs ls hP hD hS hl)
theorem wd_ddiv (C : wd_C p m c cc nL s args Ts own D tys A) {x y : UInt64} (hd : decode cc pc = .ok (.ddiv, 1)) (hne : vf_n64 (FP.ddiv x y)) (hj : pc + 1 = j) (kk : Wd p l e R s m args below meth c nL D A k n Q j lv (.double (FP.ddiv x y) :: rest) ws) : Wd p l e R s m args below meth c nL D A k n Q pc lv (.double y :: .double x :: rest) ws := by
  subst hj
  intro H locs ls hP hD hS hl
  exact lv_ddiv C.1.1 C.1.2.1 hd hne (kk H locs ls hP hD hS hl)
theorem wd_dcmp (C : wd_C p m c cc nL s args Ts own D tys A) {x y : UInt64} {op : CmpOp} (hd : decode cc pc = .ok (.dcmp op, 1))  (hj : pc + 1 = j) (kk : Wd p l e R s m args below meth c nL D A k n Q j lv (.int (Op.cmpValue (FP.dcmp x y) op) :: rest) ws) : Wd p l e R s m args below meth c nL D A k n Q pc lv (.double y :: .double x :: rest) ws := by
  subst hj
  intro H locs ls hP hD hS hl
  exact lv_dcmp C.1.1 C.1.2.1 hd (kk H locs ls hP hD hS hl)
theorem wd_i2l (C : wd_C p m c cc nL s args Ts own D tys A) {x : Int32} (hd : decode cc pc = .ok (.i2l, 1))  (hj : pc + 1 = j) (kk : Wd p l e R s m args below meth c nL D A k n Q j lv (.long x.toInt64 :: rest) ws) : Wd p l e R s m args below meth c nL D A k n Q pc lv (.int x :: rest) ws := by
  subst hj
  intro H locs ls hP hD hS hl
  exact lv_i2l C.1.1 C.1.2.1 hd rfl (kk H locs ls hP hD hS hl)
theorem wd_i2d (C : wd_C p m c cc nL s args Ts own D tys A) {x : Int32} (hd : decode cc pc = .ok (.i2d, 1))  (hj : pc + 1 = j) (kk : Wd p l e R s m args below meth c nL D A k n Q j lv (.double (FP.i2d x) :: rest) ws) : Wd p l e R s m args below meth c nL D A k n Q pc lv (.int x :: rest) ws := by
  subst hj
  intro H locs ls hP hD hS hl
  exact lv_i2d C.1.1 C.1.2.1 hd (kk H locs ls hP hD hS hl)
theorem wd_d2l (C : wd_C p m c cc nL s args Ts own D tys A) {x : UInt64} (hd : decode cc pc = .ok (.d2l, 1))  (hj : pc + 1 = j) (kk : Wd p l e R s m args below meth c nL D A k n Q j lv (.long (FP.d2l x) :: rest) ws) : Wd p l e R s m args below meth c nL D A k n Q pc lv (.double x :: rest) ws := by
  subst hj
  intro H locs ls hP hD hS hl
  exact lv_d2l C.1.1 C.1.2.1 hd (kk H locs ls hP hD hS hl)
theorem wd_dup (C : wd_C p m c cc nL s args Ts own D tys A) {va : Value} (hd : decode cc pc = .ok (.dup, 1)) (hva : va.category = 1) (hj : pc + 1 = j) (kk : Wd p l e R s m args below meth c nL D A k n Q j lv (va :: va :: rest) ws) : Wd p l e R s m args below meth c nL D A k n Q pc lv (va :: rest) ws := by
  subst hj
  intro H locs ls hP hD hS hl
  exact lv_dup C.1.1 C.1.2.1 hd hva (kk H locs ls hP hD hS hl)
theorem wd_dup2 (C : wd_C p m c cc nL s args Ts own D tys A) {va vb : Value} (hd : decode cc pc = .ok (.dup2, 1)) (hva : va.category = 1) (hvb : vb.category = 1) (hj : pc + 1 = j) (kk : Wd p l e R s m args below meth c nL D A k n Q j lv (va :: vb :: va :: vb :: rest) ws) : Wd p l e R s m args below meth c nL D A k n Q pc lv (va :: vb :: rest) ws := by
  subst hj
  intro H locs ls hP hD hS hl
  exact lv_dup2_11 C.1.1 C.1.2.1 hd hva hvb (kk H locs ls hP hD hS hl)
theorem wd_pop (C : wd_C p m c cc nL s args Ts own D tys A) {va : Value} (hd : decode cc pc = .ok (.pop, 1)) (hva : va.category = 1) (hj : pc + 1 = j) (kk : Wd p l e R s m args below meth c nL D A k n Q j lv (rest) ws) : Wd p l e R s m args below meth c nL D A k n Q pc lv (va :: rest) ws := by
  subst hj
  intro H locs ls hP hD hS hl
  exact lv_pop C.1.1 C.1.2.1 hd hva (kk H locs ls hP hD hS hl)
theorem wd_iconst (C : wd_C p m c cc nL s args Ts own D tys A) {i : Int} {v : Int32} (hd : decode cc pc = .ok (.iconst i, 1)) (hv : Int32.ofInt i = v) (hj : pc + 1 = j) (kk : Wd p l e R s m args below meth c nL D A k n Q j lv (.int v :: rest) ws) : Wd p l e R s m args below meth c nL D A k n Q pc lv (rest) ws := by
  subst hj
  intro H locs ls hP hD hS hl
  exact lv_iconst C.1.1 C.1.2.1 hd hv (kk H locs ls hP hD hS hl)
theorem wd_bipush (C : wd_C p m c cc nL s args Ts own D tys A) {i : Int} {v : Int32} (hd : decode cc pc = .ok (.bipush i, 2)) (hv : (Int8.ofInt i).toInt32 = v) (hj : pc + 2 = j) (kk : Wd p l e R s m args below meth c nL D A k n Q j lv (.int v :: rest) ws) : Wd p l e R s m args below meth c nL D A k n Q pc lv (rest) ws := by
  subst hj
  intro H locs ls hP hD hS hl
  exact lv_bipush C.1.1 C.1.2.1 hd hv (kk H locs ls hP hD hS hl)
theorem wd_sipush (C : wd_C p m c cc nL s args Ts own D tys A) {i : Int} {v : Int32} (hd : decode cc pc = .ok (.sipush i, 3)) (hv : (Int16.ofInt i).toInt32 = v) (hj : pc + 3 = j) (kk : Wd p l e R s m args below meth c nL D A k n Q j lv (.int v :: rest) ws) : Wd p l e R s m args below meth c nL D A k n Q pc lv (rest) ws := by
  subst hj
  intro H locs ls hP hD hS hl
  exact lv_sipush C.1.1 C.1.2.1 hd hv (kk H locs ls hP hD hS hl)
theorem wd_lconst (C : wd_C p m c cc nL s args Ts own D tys A) {i : Fin 2} {v : Int64} (hd : decode cc pc = .ok (.lconst i, 1)) (hv : Int64.ofNat (i : Nat) = v) (hj : pc + 1 = j) (kk : Wd p l e R s m args below meth c nL D A k n Q j lv (.long v :: rest) ws) : Wd p l e R s m args below meth c nL D A k n Q pc lv (rest) ws := by
  subst hj
  intro H locs ls hP hD hS hl
  exact lv_lconst C.1.1 C.1.2.1 hd hv (kk H locs ls hP hD hS hl)
theorem wd_dconst0 (C : wd_C p m c cc nL s args Ts own D tys A)  (hd : decode cc pc = .ok (.dconst 0, 1))  (hj : pc + 1 = j) (kk : Wd p l e R s m args below meth c nL D A k n Q j lv (.double FP.dconst0 :: rest) ws) : Wd p l e R s m args below meth c nL D A k n Q pc lv (rest) ws := by
  subst hj
  intro H locs ls hP hD hS hl
  exact lv_dconst0 C.1.1 C.1.2.1 hd (kk H locs ls hP hD hS hl)
theorem wd_dconst1 (C : wd_C p m c cc nL s args Ts own D tys A)  (hd : decode cc pc = .ok (.dconst 1, 1))  (hj : pc + 1 = j) (kk : Wd p l e R s m args below meth c nL D A k n Q j lv (.double FP.dconst1 :: rest) ws) : Wd p l e R s m args below meth c nL D A k n Q pc lv (rest) ws := by
  subst hj
  intro H locs ls hP hD hS hl
  exact lv_dconst1 C.1.1 C.1.2.1 hd (kk H locs ls hP hD hS hl)
theorem wd_ldc (C : wd_C p m c cc nL s args Ts own D tys A) {ix : Nat} {v : Int32} (hd : decode cc pc = .ok (.ldc ix, 2)) (hc : Cond.constant own ix v ∈ Ts) (hj : pc + 2 = j) (kk : Wd p l e R s m args below meth c nL D A k n Q j lv (.int v :: rest) ws) : Wd p l e R s m args below meth c nL D A k n Q pc lv (rest) ws := by
  subst hj
  intro H locs ls hP hD hS hl
  exact lv_ldc C.1.1 C.1.2.1 C.1.2.2.2.1 (C.1.2.2.2.2 _ hc) hd (kk H locs ls hP hD hS hl)
theorem wd_ldc2 (C : wd_C p m c cc nL s args Ts own D tys A) {ix : Nat} {v : Int64} (hd : decode cc pc = .ok (.ldc2_w ix, 3)) (hc : Cond.constantLong own ix v ∈ Ts) (hj : pc + 3 = j) (kk : Wd p l e R s m args below meth c nL D A k n Q j lv (.long v :: rest) ws) : Wd p l e R s m args below meth c nL D A k n Q pc lv (rest) ws := by
  subst hj
  intro H locs ls hP hD hS hl
  exact lv_ldc2 C.1.1 C.1.2.1 C.1.2.2.2.1 (C.1.2.2.2.2 _ hc) hd (kk H locs ls hP hD hS hl)
theorem wd_ldc2d (C : wd_C p m c cc nL s args Ts own D tys A) {ix : Nat} {v : UInt64} (hd : decode cc pc = .ok (.ldc2_w ix, 3)) (hc : Cond.constantDouble own ix v ∈ Ts) (hj : pc + 3 = j) (kk : Wd p l e R s m args below meth c nL D A k n Q j lv (.double v :: rest) ws) : Wd p l e R s m args below meth c nL D A k n Q pc lv (rest) ws := by
  subst hj
  intro H locs ls hP hD hS hl
  exact lv_ldc2d C.1.1 C.1.2.1 C.1.2.2.2.1 (C.1.2.2.2.2 _ hc) hd (kk H locs ls hP hD hS hl)
theorem wd_iload_n (C : wd_C p m c cc nL s args Ts own D tys A) {f4 : Fin 4} {i : Nat} {x : Int32} (kx : Nat) (hd : decode cc pc = .ok (.iload_n f4, 1)) (hi : (f4 : Nat) = i) (hx : lv[kx]? = some (i, .int x)) (hj : pc + 1 = j) (kk : Wd p l e R s m args below meth c nL D A k n Q j lv (.int x :: rest) ws) : Wd p l e R s m args below meth c nL D A k n Q pc lv (rest) ws := by
  subst hj
  intro H locs ls hP hD hS hl
  exact lv_iload_n C.1.1 C.1.2.1 hd hi (lv_at hl kx hx) (kk H locs ls hP hD hS hl)
theorem wd_iload (C : wd_C p m c cc nL s args Ts own D tys A) {i : Nat} {x : Int32} (kx : Nat) (hd : decode cc pc = .ok (.iload i, 2)) (hx : lv[kx]? = some (i, .int x)) (hj : pc + 2 = j) (kk : Wd p l e R s m args below meth c nL D A k n Q j lv (.int x :: rest) ws) : Wd p l e R s m args below meth c nL D A k n Q pc lv (rest) ws := by
  subst hj
  intro H locs ls hP hD hS hl
  exact lv_iload C.1.1 C.1.2.1 hd (lv_at hl kx hx) (kk H locs ls hP hD hS hl)
theorem wd_lload_n (C : wd_C p m c cc nL s args Ts own D tys A) {f4 : Fin 4} {i : Nat} {x : Int64} (kx : Nat) (hd : decode cc pc = .ok (.lload_n f4, 1)) (hi : (f4 : Nat) = i) (hx : lv[kx]? = some (i, .long x)) (hj : pc + 1 = j) (kk : Wd p l e R s m args below meth c nL D A k n Q j lv (.long x :: rest) ws) : Wd p l e R s m args below meth c nL D A k n Q pc lv (rest) ws := by
  subst hj
  intro H locs ls hP hD hS hl
  exact lv_lload_n C.1.1 C.1.2.1 hd hi (lv_at hl kx hx) (kk H locs ls hP hD hS hl)
theorem wd_lload (C : wd_C p m c cc nL s args Ts own D tys A) {i : Nat} {x : Int64} (kx : Nat) (hd : decode cc pc = .ok (.lload i, 2)) (hx : lv[kx]? = some (i, .long x)) (hj : pc + 2 = j) (kk : Wd p l e R s m args below meth c nL D A k n Q j lv (.long x :: rest) ws) : Wd p l e R s m args below meth c nL D A k n Q pc lv (rest) ws := by
  subst hj
  intro H locs ls hP hD hS hl
  exact lv_lload C.1.1 C.1.2.1 hd (lv_at hl kx hx) (kk H locs ls hP hD hS hl)
theorem wd_dload_n (C : wd_C p m c cc nL s args Ts own D tys A) {f4 : Fin 4} {i : Nat} {x : UInt64} (kx : Nat) (hd : decode cc pc = .ok (.dload_n f4, 1)) (hi : (f4 : Nat) = i) (hx : lv[kx]? = some (i, .double x)) (hj : pc + 1 = j) (kk : Wd p l e R s m args below meth c nL D A k n Q j lv (.double x :: rest) ws) : Wd p l e R s m args below meth c nL D A k n Q pc lv (rest) ws := by
  subst hj
  intro H locs ls hP hD hS hl
  exact lv_dload_n C.1.1 C.1.2.1 hd hi (lv_at hl kx hx) (kk H locs ls hP hD hS hl)
theorem wd_dload (C : wd_C p m c cc nL s args Ts own D tys A) {i : Nat} {x : UInt64} (kx : Nat) (hd : decode cc pc = .ok (.dload i, 2)) (hx : lv[kx]? = some (i, .double x)) (hj : pc + 2 = j) (kk : Wd p l e R s m args below meth c nL D A k n Q j lv (.double x :: rest) ws) : Wd p l e R s m args below meth c nL D A k n Q pc lv (rest) ws := by
  subst hj
  intro H locs ls hP hD hS hl
  exact lv_dload C.1.1 C.1.2.1 hd (lv_at hl kx hx) (kk H locs ls hP hD hS hl)
theorem wd_aload_n (C : wd_C p m c cc nL s args Ts own D tys A) {f4 : Fin 4} {i : Nat} {x : Nat} (kx : Nat) (hd : decode cc pc = .ok (.aload_n f4, 1)) (hi : (f4 : Nat) = i) (hx : lv[kx]? = some (i, .ref x)) (hj : pc + 1 = j) (kk : Wd p l e R s m args below meth c nL D A k n Q j lv (.ref x :: rest) ws) : Wd p l e R s m args below meth c nL D A k n Q pc lv (rest) ws := by
  subst hj
  intro H locs ls hP hD hS hl
  exact lv_aload_n C.1.1 C.1.2.1 hd hi (lv_at hl kx hx) (kk H locs ls hP hD hS hl)
theorem wd_aload (C : wd_C p m c cc nL s args Ts own D tys A) {i : Nat} {x : Nat} (kx : Nat) (hd : decode cc pc = .ok (.aload i, 2)) (hx : lv[kx]? = some (i, .ref x)) (hj : pc + 2 = j) (kk : Wd p l e R s m args below meth c nL D A k n Q j lv (.ref x :: rest) ws) : Wd p l e R s m args below meth c nL D A k n Q pc lv (rest) ws := by
  subst hj
  intro H locs ls hP hD hS hl
  exact lv_aload C.1.1 C.1.2.1 hd (lv_at hl kx hx) (kk H locs ls hP hD hS hl)
theorem wd_istore_n (C : wd_C p m c cc nL s args Ts own D tys A) {f4 : Fin 4} {i : Nat} {x : Int32} (hd : decode cc pc = .ok (.istore_n f4, 1)) (hi : (f4 : Nat) = i) (hn : i < nL) (hv : (i, Value.int x) :: lv.filter (fun q => !(q.1 == i) && !(q.1 + 1 == i && q.2.category == 2)) = lv') (hj : pc + 1 = j) (kk : Wd p l e R s m args below meth c nL D A k n Q j lv' (rest) ws) : Wd p l e R s m args below meth c nL D A k n Q pc lv (.int x :: rest) ws := by
  subst hj
  intro H locs ls hP hD hS hl
  exact lv_istore_n C.1.1 C.1.2.1 hd hi hl hn hv (fun ls hl => kk H locs ls hP hD hS hl)
theorem wd_istore (C : wd_C p m c cc nL s args Ts own D tys A) {i : Nat} {x : Int32} (hd : decode cc pc = .ok (.istore i, 2)) (hn : i < nL) (hv : (i, Value.int x) :: lv.filter (fun q => !(q.1 == i) && !(q.1 + 1 == i && q.2.category == 2)) = lv') (hj : pc + 2 = j) (kk : Wd p l e R s m args below meth c nL D A k n Q j lv' (rest) ws) : Wd p l e R s m args below meth c nL D A k n Q pc lv (.int x :: rest) ws := by
  subst hj
  intro H locs ls hP hD hS hl
  exact lv_istore C.1.1 C.1.2.1 hd hl hn hv (fun ls hl => kk H locs ls hP hD hS hl)
theorem wd_lstore_n (C : wd_C p m c cc nL s args Ts own D tys A) {f4 : Fin 4} {i : Nat} {x : Int64} (hd : decode cc pc = .ok (.lstore_n f4, 1)) (hi : (f4 : Nat) = i) (hn : i + 1 < nL) (hv : (i, Value.long x) :: lv.filter (fun q => !(q.1 == i) && (!(q.1 == i + 1) && !(q.1 + 1 == i && q.2.category == 2))) = lv') (hj : pc + 1 = j) (kk : Wd p l e R s m args below meth c nL D A k n Q j lv' (rest) ws) : Wd p l e R s m args below meth c nL D A k n Q pc lv (.long x :: rest) ws := by
  subst hj
  intro H locs ls hP hD hS hl
  exact lv_lstore_n C.1.1 C.1.2.1 hd hi hl hn hv (fun ls hl => kk H locs ls hP hD hS hl)
theorem wd_lstore (C : wd_C p m c cc nL s args Ts own D tys A) {i : Nat} {x : Int64} (hd : decode cc pc = .ok (.lstore i, 2)) (hn : i + 1 < nL) (hv : (i, Value.long x) :: lv.filter (fun q => !(q.1 == i) && (!(q.1 == i + 1) && !(q.1 + 1 == i && q.2.category == 2))) = lv') (hj : pc + 2 = j) (kk : Wd p l e R s m args below meth c nL D A k n Q j lv' (rest) ws) : Wd p l e R s m args below meth c nL D A k n Q pc lv (.long x :: rest) ws := by
  subst hj
  intro H locs ls hP hD hS hl
  exact lv_lstore C.1.1 C.1.2.1 hd hl hn hv (fun ls hl => kk H locs ls hP hD hS hl)
theorem wd_dstore_n (C : wd_C p m c cc nL s args Ts own D tys A) {f4 : Fin 4} {i : Nat} {x : UInt64} (hd : decode cc pc = .ok (.dstore_n f4, 1)) (hi : (f4 : Nat) = i) (hn : i + 1 < nL) (hv : (i, Value.double x) :: lv.filter (fun q => !(q.1 == i) && (!(q.1 == i + 1) && !(q.1 + 1 == i && q.2.category == 2))) = lv') (hj : pc + 1 = j) (kk : Wd p l e R s m args below meth c nL D A k n Q j lv' (rest) ws) : Wd p l e R s m args below meth c nL D A k n Q pc lv (.double x :: rest) ws := by
  subst hj
  intro H locs ls hP hD hS hl
  exact lv_dstore_n C.1.1 C.1.2.1 hd hi hl hn hv (fun ls hl => kk H locs ls hP hD hS hl)
theorem wd_dstore (C : wd_C p m c cc nL s args Ts own D tys A) {i : Nat} {x : UInt64} (hd : decode cc pc = .ok (.dstore i, 2)) (hn : i + 1 < nL) (hv : (i, Value.double x) :: lv.filter (fun q => !(q.1 == i) && (!(q.1 == i + 1) && !(q.1 + 1 == i && q.2.category == 2))) = lv') (hj : pc + 2 = j) (kk : Wd p l e R s m args below meth c nL D A k n Q j lv' (rest) ws) : Wd p l e R s m args below meth c nL D A k n Q pc lv (.double x :: rest) ws := by
  subst hj
  intro H locs ls hP hD hS hl
  exact lv_dstore C.1.1 C.1.2.1 hd hl hn hv (fun ls hl => kk H locs ls hP hD hS hl)
theorem wd_astore_n (C : wd_C p m c cc nL s args Ts own D tys A) {f4 : Fin 4} {i : Nat} {x : Nat} (hd : decode cc pc = .ok (.astore_n f4, 1)) (hi : (f4 : Nat) = i) (hn : i < nL) (hv : (i, Value.ref x) :: lv.filter (fun q => !(q.1 == i) && !(q.1 + 1 == i && q.2.category == 2)) = lv') (hj : pc + 1 = j) (kk : Wd p l e R s m args below meth c nL D A k n Q j lv' (rest) ws) : Wd p l e R s m args below meth c nL D A k n Q pc lv (.ref x :: rest) ws := by
  subst hj
  intro H locs ls hP hD hS hl
  exact lv_astore_n C.1.1 C.1.2.1 hd hi hl hn hv (fun ls hl => kk H locs ls hP hD hS hl)
theorem wd_astore (C : wd_C p m c cc nL s args Ts own D tys A) {i : Nat} {x : Nat} (hd : decode cc pc = .ok (.astore i, 2)) (hn : i < nL) (hv : (i, Value.ref x) :: lv.filter (fun q => !(q.1 == i) && !(q.1 + 1 == i && q.2.category == 2)) = lv') (hj : pc + 2 = j) (kk : Wd p l e R s m args below meth c nL D A k n Q j lv' (rest) ws) : Wd p l e R s m args below meth c nL D A k n Q pc lv (.ref x :: rest) ws := by
  subst hj
  intro H locs ls hP hD hS hl
  exact lv_astore C.1.1 C.1.2.1 hd hl hn hv (fun ls hl => kk H locs ls hP hD hS hl)
theorem wd_iinc (C : wd_C p m c cc nL s args Ts own D tys A) {i : Nat} {d : Int} {x v : Int32} (kx : Nat) (hd : decode cc pc = .ok (.iinc i d, 3)) (hx : lv[kx]? = some (i, .int x)) (hxv : x + Int32.ofInt d = v) (hn : i < nL) (hv : (i, Value.int v) :: lv.filter (fun q => !(q.1 == i) && !(q.1 + 1 == i && q.2.category == 2)) = lv') (hj : pc + 3 = j) (kk : Wd p l e R s m args below meth c nL D A k n Q j lv' (rest) ws) : Wd p l e R s m args below meth c nL D A k n Q pc lv (rest) ws := by
  subst hj
  intro H locs ls hP hD hS hl
  exact lv_iinc C.1.1 C.1.2.1 hd hl hx hxv hn hv (fun ls hl => kk H locs ls hP hD hS hl)
theorem wd_if_eq (C : wd_C p m c cc nL s args Ts own D tys A) {x : Int32} {off : Int} {t : Nat} (hd : decode cc pc = .ok (.ifCond .eq off, 3)) (ht : (pc : Int) + off = (t : Int)) (hj : pc + 3 = j) (kt : x = 0 → Wd p l e R s m args below meth c nL D A k n Q t lv (rest) ws) (kf : ¬ x = 0 → Wd p l e R s m args below meth c nL D A k n Q j lv (rest) ws) : Wd p l e R s m args below meth c nL D A k n Q pc lv (.int x :: rest) ws := by
  subst hj
  intro H locs ls hP hD hS hl
  exact lv_if_eq C.1.1 C.1.2.1 hd ht (fun h => kt h H locs ls hP hD hS hl) (fun h => kf h H locs ls hP hD hS hl)
theorem wd_if_ne (C : wd_C p m c cc nL s args Ts own D tys A) {x : Int32} {off : Int} {t : Nat} (hd : decode cc pc = .ok (.ifCond .ne off, 3)) (ht : (pc : Int) + off = (t : Int)) (hj : pc + 3 = j) (kt : ¬ x = 0 → Wd p l e R s m args below meth c nL D A k n Q t lv (rest) ws) (kf : x = 0 → Wd p l e R s m args below meth c nL D A k n Q j lv (rest) ws) : Wd p l e R s m args below meth c nL D A k n Q pc lv (.int x :: rest) ws := by
  subst hj
  intro H locs ls hP hD hS hl
  exact lv_if_ne C.1.1 C.1.2.1 hd ht (fun h => kt h H locs ls hP hD hS hl) (fun h => kf h H locs ls hP hD hS hl)
theorem wd_if_lt (C : wd_C p m c cc nL s args Ts own D tys A) {x : Int32} {off : Int} {t : Nat} (hd : decode cc pc = .ok (.ifCond .lt off, 3)) (ht : (pc : Int) + off = (t : Int)) (hj : pc + 3 = j) (kt : x < 0 → Wd p l e R s m args below meth c nL D A k n Q t lv (rest) ws) (kf : ¬ x < 0 → Wd p l e R s m args below meth c nL D A k n Q j lv (rest) ws) : Wd p l e R s m args below meth c nL D A k n Q pc lv (.int x :: rest) ws := by
  subst hj
  intro H locs ls hP hD hS hl
  exact lv_if_lt C.1.1 C.1.2.1 hd ht (fun h => kt h H locs ls hP hD hS hl) (fun h => kf h H locs ls hP hD hS hl)
theorem wd_if_ge (C : wd_C p m c cc nL s args Ts own D tys A) {x : Int32} {off : Int} {t : Nat} (hd : decode cc pc = .ok (.ifCond .ge off, 3)) (ht : (pc : Int) + off = (t : Int)) (hj : pc + 3 = j) (kt : 0 ≤ x → Wd p l e R s m args below meth c nL D A k n Q t lv (rest) ws) (kf : ¬ 0 ≤ x → Wd p l e R s m args below meth c nL D A k n Q j lv (rest) ws) : Wd p l e R s m args below meth c nL D A k n Q pc lv (.int x :: rest) ws := by
  subst hj
  intro H locs ls hP hD hS hl
  exact lv_if_ge C.1.1 C.1.2.1 hd ht (fun h => kt h H locs ls hP hD hS hl) (fun h => kf h H locs ls hP hD hS hl)
theorem wd_if_gt (C : wd_C p m c cc nL s args Ts own D tys A) {x : Int32} {off : Int} {t : Nat} (hd : decode cc pc = .ok (.ifCond .gt off, 3)) (ht : (pc : Int) + off = (t : Int)) (hj : pc + 3 = j) (kt : 0 < x → Wd p l e R s m args below meth c nL D A k n Q t lv (rest) ws) (kf : ¬ 0 < x → Wd p l e R s m args below meth c nL D A k n Q j lv (rest) ws) : Wd p l e R s m args below meth c nL D A k n Q pc lv (.int x :: rest) ws := by
  subst hj
  intro H locs ls hP hD hS hl
  exact lv_if_gt C.1.1 C.1.2.1 hd ht (fun h => kt h H locs ls hP hD hS hl) (fun h => kf h H locs ls hP hD hS hl)
theorem wd_if_le (C : wd_C p m c cc nL s args Ts own D tys A) {x : Int32} {off : Int} {t : Nat} (hd : decode cc pc = .ok (.ifCond .le off, 3)) (ht : (pc : Int) + off = (t : Int)) (hj : pc + 3 = j) (kt : x ≤ 0 → Wd p l e R s m args below meth c nL D A k n Q t lv (rest) ws) (kf : ¬ x ≤ 0 → Wd p l e R s m args below meth c nL D A k n Q j lv (rest) ws) : Wd p l e R s m args below meth c nL D A k n Q pc lv (.int x :: rest) ws := by
  subst hj
  intro H locs ls hP hD hS hl
  exact lv_if_le C.1.1 C.1.2.1 hd ht (fun h => kt h H locs ls hP hD hS hl) (fun h => kf h H locs ls hP hD hS hl)
theorem wd_icmp_eq (C : wd_C p m c cc nL s args Ts own D tys A) {x y : Int32} {off : Int} {t : Nat} (hd : decode cc pc = .ok (.if_icmp .eq off, 3)) (ht : (pc : Int) + off = (t : Int)) (hj : pc + 3 = j) (kt : x = y → Wd p l e R s m args below meth c nL D A k n Q t lv (rest) ws) (kf : ¬ x = y → Wd p l e R s m args below meth c nL D A k n Q j lv (rest) ws) : Wd p l e R s m args below meth c nL D A k n Q pc lv (.int y :: .int x :: rest) ws := by
  subst hj
  intro H locs ls hP hD hS hl
  exact lv_icmp_eq C.1.1 C.1.2.1 hd ht (fun h => kt h H locs ls hP hD hS hl) (fun h => kf h H locs ls hP hD hS hl)
theorem wd_icmp_ne (C : wd_C p m c cc nL s args Ts own D tys A) {x y : Int32} {off : Int} {t : Nat} (hd : decode cc pc = .ok (.if_icmp .ne off, 3)) (ht : (pc : Int) + off = (t : Int)) (hj : pc + 3 = j) (kt : ¬ x = y → Wd p l e R s m args below meth c nL D A k n Q t lv (rest) ws) (kf : x = y → Wd p l e R s m args below meth c nL D A k n Q j lv (rest) ws) : Wd p l e R s m args below meth c nL D A k n Q pc lv (.int y :: .int x :: rest) ws := by
  subst hj
  intro H locs ls hP hD hS hl
  exact lv_icmp_ne C.1.1 C.1.2.1 hd ht (fun h => kt h H locs ls hP hD hS hl) (fun h => kf h H locs ls hP hD hS hl)
theorem wd_icmp_lt (C : wd_C p m c cc nL s args Ts own D tys A) {x y : Int32} {off : Int} {t : Nat} (hd : decode cc pc = .ok (.if_icmp .lt off, 3)) (ht : (pc : Int) + off = (t : Int)) (hj : pc + 3 = j) (kt : x < y → Wd p l e R s m args below meth c nL D A k n Q t lv (rest) ws) (kf : ¬ x < y → Wd p l e R s m args below meth c nL D A k n Q j lv (rest) ws) : Wd p l e R s m args below meth c nL D A k n Q pc lv (.int y :: .int x :: rest) ws := by
  subst hj
  intro H locs ls hP hD hS hl
  exact lv_icmp_lt C.1.1 C.1.2.1 hd ht (fun h => kt h H locs ls hP hD hS hl) (fun h => kf h H locs ls hP hD hS hl)
theorem wd_icmp_ge (C : wd_C p m c cc nL s args Ts own D tys A) {x y : Int32} {off : Int} {t : Nat} (hd : decode cc pc = .ok (.if_icmp .ge off, 3)) (ht : (pc : Int) + off = (t : Int)) (hj : pc + 3 = j) (kt : y ≤ x → Wd p l e R s m args below meth c nL D A k n Q t lv (rest) ws) (kf : ¬ y ≤ x → Wd p l e R s m args below meth c nL D A k n Q j lv (rest) ws) : Wd p l e R s m args below meth c nL D A k n Q pc lv (.int y :: .int x :: rest) ws := by
  subst hj
  intro H locs ls hP hD hS hl
  exact lv_icmp_ge C.1.1 C.1.2.1 hd ht (fun h => kt h H locs ls hP hD hS hl) (fun h => kf h H locs ls hP hD hS hl)
theorem wd_icmp_gt (C : wd_C p m c cc nL s args Ts own D tys A) {x y : Int32} {off : Int} {t : Nat} (hd : decode cc pc = .ok (.if_icmp .gt off, 3)) (ht : (pc : Int) + off = (t : Int)) (hj : pc + 3 = j) (kt : y < x → Wd p l e R s m args below meth c nL D A k n Q t lv (rest) ws) (kf : ¬ y < x → Wd p l e R s m args below meth c nL D A k n Q j lv (rest) ws) : Wd p l e R s m args below meth c nL D A k n Q pc lv (.int y :: .int x :: rest) ws := by
  subst hj
  intro H locs ls hP hD hS hl
  exact lv_icmp_gt C.1.1 C.1.2.1 hd ht (fun h => kt h H locs ls hP hD hS hl) (fun h => kf h H locs ls hP hD hS hl)
theorem wd_icmp_le (C : wd_C p m c cc nL s args Ts own D tys A) {x y : Int32} {off : Int} {t : Nat} (hd : decode cc pc = .ok (.if_icmp .le off, 3)) (ht : (pc : Int) + off = (t : Int)) (hj : pc + 3 = j) (kt : x ≤ y → Wd p l e R s m args below meth c nL D A k n Q t lv (rest) ws) (kf : ¬ x ≤ y → Wd p l e R s m args below meth c nL D A k n Q j lv (rest) ws) : Wd p l e R s m args below meth c nL D A k n Q pc lv (.int y :: .int x :: rest) ws := by
  subst hj
  intro H locs ls hP hD hS hl
  exact lv_icmp_le C.1.1 C.1.2.1 hd ht (fun h => kt h H locs ls hP hD hS hl) (fun h => kf h H locs ls hP hD hS hl)
theorem wd_goto (C : wd_C p m c cc nL s args Ts own D tys A) {off : Int} {t : Nat} (hd : decode cc pc = .ok (.goto off, 3)) (ht : (pc : Int) + off = (t : Int)) (kk : Wd p l e R s m args below meth c nL D A k n Q t lv (rest) ws) : Wd p l e R s m args below meth c nL D A k n Q pc lv (rest) ws := by
  intro H locs ls hP hD hS hl
  exact lv_goto C.1.1 C.1.2.1 hd ht (kk H locs ls hP hD hS hl)
theorem wd_lookup (C : wd_C p m c cc nL s args Ts own D tys A) {dflt : Int} {ps : Array (Int × Int)} {len : Nat} {x : Int32} {off : Int} {t : Nat} (hd : decode cc pc = .ok (.lookupswitch dflt ps, len)) (hp : (ps.toList.zip (ps.toList.drop 1)).all (fun (a, next) => a.1 < next.1) = true) (ho : Op.lookupswitch.offset ps.toList dflt x.toInt = off) (ht : (pc : Int) + off = (t : Int)) (kk : Wd p l e R s m args below meth c nL D A k n Q t lv (rest) ws) : Wd p l e R s m args below meth c nL D A k n Q pc lv (.int x :: rest) ws := by
  intro H locs ls hP hD hS hl
  exact lv_lookup C.1.1 C.1.2.1 hd hp ho ht (kk H locs ls hP hD hS hl)
theorem wd_lv (ks : List Nat) (hk : lv_pick lv ks = lv') (kk : Wd p l e R s m args below meth c nL D A k n Q pc lv' (rest) ws) : Wd p l e R s m args below meth c nL D A k n Q pc lv (rest) ws := fun H locs ls hP hD hS hl => kk H locs ls hP hD hS (lv_sub hl ks hk)
theorem wd_eq {pc' : Nat} {st st' : List Value} (h1 : pc' = pc) (h2 : lv' = lv) (h3 : st' = st) (h4 : ws' = ws) (kk : Wd p l e R s m args below meth c nL D A k n Q pc' lv' (st') ws') : Wd p l e R s m args below meth c nL D A k n Q pc lv (st) ws := by
  subst h1; subst h2; subst h3; subst h4
  exact kk
theorem wd_get (C : wd_C p m c cc nL s args Ts own D tys A) {Cn : String} {T : u_T} {N ci ix q0 f a : Nat} {fs : List Value} {v : Value} (hin : ∀ w ∈ u_ws Cn T N, w ∈ Ts) (hlk : Cond.fieldLink own ix (T f).1 (T f).2.1 (T f).2.2.1 ∈ Ts) (hc : vwCl[ci]? = some (Cn, T, N)) (hf : f < N) (he : ws[q0]? = some (a, .inr (ci, fs))) (hv : fs[f]? = some v) (hd : decode cc pc = .ok (.getfield ix, 3)) (hj : pc + 3 = j) (kk : Wd p l e R s m args below meth c nL D A k n Q j lv (v :: rest) ws) : Wd p l e R s m args below meth c nL D A k n Q pc lv (.ref a :: rest) ws := by
  subst hj
  intro H locs ls hP hD hS hl
  exact va_get (D := D) (ci := ci) (v := v) (C := Cn) (T := T) (N := N) C.1.1 C.1.2.1 C.1.2.2.2.2 hin C.1.2.2.2.1 C.2.1 hP q0 he hc f hf (C.1.2.2.2.2 _ hlk) (fun _ h9 => h9) hv hd (kk H locs ls hP hD hS hl)
theorem wd_put (C : wd_C p m c cc nL s args Ts own D tys A) {Cn : String} {T : u_T} {N ci ix q0 f a : Nat} {fs : List Value} {v : Value} (hin : ∀ w ∈ u_ws Cn T N, w ∈ Ts) (ty0 : Nat → FieldType) (hty : ∀ k, k < N → parseFieldDescriptor (T k).2.2.1 = some (ty0 k)) (hnm : ∀ a, a < N → ∀ b, b < N → a ≠ b → (T a).2.1 ≠ (T b).2.1) (hlk : Cond.fieldLink own ix (T f).1 (T f).2.1 (T f).2.2.1 ∈ Ts) (hc : vwCl[ci]? = some (Cn, T, N)) (hf : f < N) (he : ws[q0]? = some (a, .inr (ci, fs))) (hfin : (T f).2.2.2 = false) (hn : narrow (ty0 f) v = v) (hfit : fits (ty0 f) v = true) (hl0 : f < fs.length) (hws : ws.set q0 (a, .inr (ci, fs.set f v)) = ws') (hd : decode cc pc = .ok (.putfield ix, 3)) (hj : pc + 3 = j) (kk : Wd p l e R s m args below meth c nL D A k n Q j lv (rest) ws') : Wd p l e R s m args below meth c nL D A k n Q pc lv (v :: .ref a :: rest) ws := by
  subst hj; subst hws
  intro H locs ls hP hD hS hl
  exact va_put (D := D) (ci := ci) (v := v) (C := Cn) (T := T) (N := N) C.1.1 C.1.2.1 C.1.2.2.2.2 hin ty0 hty hnm C.1.2.2.2.1 C.2.1 hP hD hS q0 he hc f hf (C.1.2.2.2.2 _ hlk) (fun _ h9 => h9) hfin (hty f hf) hn hfit hl0 hd (fun H1 locs1 hP hD hS => kk H1 locs1 ls hP hD hS hl)
theorem wd_iald (C : wd_C p m c cc nL s args Ts own D tys A) {q0 t0 a : Nat} {cA : ClassId} {z : Nat} {f : Nat → Int32} {i : Int32} (ha : ws[q0]? = some (a, .inl (cA, z, .inl f))) (ht : tys[t0]? = some (cA, .int)) (hi : vp_in i z) (hd : decode cc pc = .ok (.iaload, 1)) (hj : pc + 1 = j) (kk : Wd p l e R s m args below meth c nL D A k n Q j lv (.int (f i.toNatClampNeg) :: rest) ws) : Wd p l e R s m args below meth c nL D A k n Q pc lv (.int i :: .ref a :: rest) ws := by
  subst hj
  intro H locs ls hP hD hS hl
  exact va_iald C.1.1 C.1.2.1 C.2.1 hP q0 t0 ha ht hi hd (kk H locs ls hP hD hS hl)
theorem wd_iast (C : wd_C p m c cc nL s args Ts own D tys A) {q0 t0 a : Nat} {cA : ClassId} {z : Nat} {f : Nat → Int32} {i : Int32} {x : Int32} (ha : ws[q0]? = some (a, .inl (cA, z, .inl f))) (ht : tys[t0]? = some (cA, .int)) (hi : vp_in i z) (hws : ws.set q0 (a, .inl (cA, z, .inl (upd f i.toNatClampNeg x))) = ws') (hd : decode cc pc = .ok (.iastore, 1)) (hj : pc + 1 = j) (kk : Wd p l e R s m args below meth c nL D A k n Q j lv (rest) ws') : Wd p l e R s m args below meth c nL D A k n Q pc lv (.int x :: .int i :: .ref a :: rest) ws := by
  subst hj; subst hws
  intro H locs ls hP hD hS hl
  exact va_iast C.1.1 C.1.2.1 C.2.1 hP hD hS q0 t0 ha ht hi hd (fun H1 locs1 hP hD hS => kk H1 locs1 ls hP hD hS hl)
theorem wd_dald (C : wd_C p m c cc nL s args Ts own D tys A) {q0 t0 a : Nat} {cA : ClassId} {z : Nat} {f : Nat → UInt64} {i : Int32} (ha : ws[q0]? = some (a, .inl (cA, z, .inr (.inr (.inr (.inl f)))))) (ht : tys[t0]? = some (cA, .double)) (hi : vp_in i z) (hd : decode cc pc = .ok (.daload, 1)) (hj : pc + 1 = j) (kk : Wd p l e R s m args below meth c nL D A k n Q j lv (.double (f i.toNatClampNeg) :: rest) ws) : Wd p l e R s m args below meth c nL D A k n Q pc lv (.int i :: .ref a :: rest) ws := by
  subst hj
  intro H locs ls hP hD hS hl
  exact va_dald C.1.1 C.1.2.1 C.2.1 hP q0 t0 ha ht hi hd (kk H locs ls hP hD hS hl)
theorem wd_dast (C : wd_C p m c cc nL s args Ts own D tys A) {q0 t0 a : Nat} {cA : ClassId} {z : Nat} {f : Nat → UInt64} {i : Int32} {x : UInt64} (ha : ws[q0]? = some (a, .inl (cA, z, .inr (.inr (.inr (.inl f)))))) (ht : tys[t0]? = some (cA, .double)) (hi : vp_in i z) (hws : ws.set q0 (a, .inl (cA, z, .inr (.inr (.inr (.inl (vf_upd f i.toNatClampNeg x)))))) = ws') (hd : decode cc pc = .ok (.dastore, 1)) (hj : pc + 1 = j) (kk : Wd p l e R s m args below meth c nL D A k n Q j lv (rest) ws') : Wd p l e R s m args below meth c nL D A k n Q pc lv (.double x :: .int i :: .ref a :: rest) ws := by
  subst hj; subst hws
  intro H locs ls hP hD hS hl
  exact va_dast C.1.1 C.1.2.1 C.2.1 hP hD hS q0 t0 ha ht hi hd (fun H1 locs1 hP hD hS => kk H1 locs1 ls hP hD hS hl)
theorem wd_copy (C : wd_C p m c cc nL s args Ts own D tys A) {ix q0 q1 t0 a0 a : Nat} {cA : ClassId} {z0 z1 : Nat} {f g : Nat → Int32} {sp dp w : Int32} {sp0 dp0 w0 : Nat} (hl1 : Cond.methodLink own ix arraycopyName ∈ Ts) (hl2 : Cond.native arraycopyName ∈ Ts) (hl3 : Cond.static arraycopyName ∈ Ts) (hl4 : Cond.initialized "java/lang/System" ∈ Ts) (ha0 : ws[q0]? = some (a0, .inl (cA, z0, .inl f))) (ha1 : ws[q1]? = some (a, .inl (cA, z1, .inl g))) (ht : tys[t0]? = some (cA, .int)) (h1 : ¬ sp < 0) (h2 : ¬ dp < 0) (h3 : ¬ w < 0) (e1 : sp.toNatClampNeg = sp0) (e2 : dp.toNatClampNeg = dp0) (e3 : w.toNatClampNeg = w0) (h4 : sp0 + w0 ≤ z0) (h5 : dp0 + w0 ≤ z1) (hfr : 1 ≤ R.frames) (hlo : (rest.map fun v => v.category).sum + (nativeFrameWords "java/lang/System" "arraycopy" 5 + 11) ≤ R.locals) (hws : ws.set q1 (a, .inl (cA, z1, .inl (va_cpy f g sp0 dp0 w0))) = ws') (hd : decode cc pc = .ok (.invokestatic ix, 3)) (hj : pc + 3 = j) (kk : Wd p l e R s m args below meth c nL D A k n Q j lv (rest) ws') : Wd p l e R s m args below meth c nL D A k n Q pc lv (.int w :: .int dp :: .ref a :: .int sp :: .ref a0 :: rest) ws := by
  subst hj; subst hws; subst e1; subst e2; subst e3
  intro H locs ls hP hD hS hl
  exact va_copyi C.1.1 C.1.2.1 (C.1.2.2.1.trans hl.1.symm) C.1.2.2.2.1 (C.1.2.2.2.2 _ hl1) (C.1.2.2.2.2 _ hl2) (C.1.2.2.2.2 _ hl3) (C.1.2.2.2.2 _ hl4) C.2.1 hP hD hS q0 q1 t0 t0 ha0 ha1 ht ht rfl h1 h2 h3 h4 h5 (fun _ _ => rfl) hfr hlo hd (fun H1 locs1 hP hD hS => kk H1 locs1 ls hP hD hS hl)
theorem wd_raw (C : wd_C p m c cc nL s args Ts own D tys A) {ix : Nat} {b : UInt64} (hl1 : Cond.methodLink own ix ⟨"java/lang/Double", "doubleToRawLongBits", "(D)J"⟩ ∈ Ts) (hl2 : Cond.native ⟨"java/lang/Double", "doubleToRawLongBits", "(D)J"⟩ ∈ Ts) (hl3 : Cond.static ⟨"java/lang/Double", "doubleToRawLongBits", "(D)J"⟩ ∈ Ts) (hl4 : Cond.initialized "java/lang/Double" ∈ Ts) (hfr : 1 ≤ R.frames) (hlo : (rest.map fun v => v.category).sum + 15 ≤ R.locals) (hd : decode cc pc = .ok (.invokestatic ix, 3)) (hj : pc + 3 = j) (kk : Wd p l e R s m args below meth c nL D A k n Q j lv (.long b.toInt64 :: rest) ws) : Wd p l e R s m args below meth c nL D A k n Q pc lv (.double b :: rest) ws := by
  subst hj
  intro H locs ls hP hD hS hl
  exact vn_d2l C.1.1 C.1.2.1 (C.1.2.2.1.trans hl.1.symm) C.1.2.2.2.1 (C.1.2.2.2.2 _ hl1) (C.1.2.2.2.2 _ hl2) (C.1.2.2.2.2 _ hl3) (C.1.2.2.2.2 _ hl4) hfr hlo hd (kk H locs ls hP hD hS hl)
/-- a method's start: its arguments, and its world -/
def wd_P (D : va_G) (tys : List (ClassId × FieldType)) (av : List Value) (ws : va_W) (sz : Nat) : Array Value → State → Prop := va_Pc av (fun U => U.heap.size = sz ∧ va_P D vwCl ws U.heap ∧ va_K D vwCl tys U ∧ va_D (fun _ => True) ws)
/-- the world behind it -/
def wd_B (D : va_G) (tys : List (ClassId × FieldType)) (w1 : va_W) (A : Nat → Prop) : Unit → State → Prop := fun _ t => va_P D vwCl w1 t.heap ∧ va_K D vwCl tys t ∧ va_D A w1
def MetI (l : Launch) (y : MethodName) (wc : List Cond) (rm : Room) (D : va_G) (tys : List (ClassId × FieldType)) (av : List Value) (w0 : va_W) (r : Int32) (w1 : va_W) : Prop := ∀ sz : Nat, Met l y wc rm (wd_P D tys av w0 sz) (va_Qi (fun (r' : Int32) (_ : Unit) => r' = r) (wd_B D tys w1 (va_A w0 sz)) (va_A w0 sz)) 0 0 (va_A w0 sz)
def MetL (l : Launch) (y : MethodName) (wc : List Cond) (rm : Room) (D : va_G) (tys : List (ClassId × FieldType)) (av : List Value) (w0 : va_W) (r : Int64) (w1 : va_W) : Prop := ∀ sz : Nat, Met l y wc rm (wd_P D tys av w0 sz) (va_Ql (fun (r' : Int64) (_ : Unit) => r' = r) (wd_B D tys w1 (va_A w0 sz)) (va_A w0 sz)) 0 0 (va_A w0 sz)
def MetV (l : Launch) (y : MethodName) (wc : List Cond) (rm : Room) (D : va_G) (tys : List (ClassId × FieldType)) (av : List Value) (w0 : va_W) (w1 : va_W) : Prop := ∀ sz : Nat, Met l y wc rm (wd_P D tys av w0 sz) (va_Qv (fun (_ : Unit) => True) (wd_B D tys w1 (va_A w0 sz)) (va_A w0 sz)) 0 0 (va_A w0 sz)
theorem wd_blind {D : va_G} {tys : List (ClassId × FieldType)} {av : List Value} {w : va_W} {sz : Nat} : FrameBlind (wd_P D tys av w sz) := by
  intro a U g mk q
  obtain ⟨q0, q1, qP, qK, qD⟩ := q
  exact ⟨q0, q1, qP, va_K.moved (u := U) (U := U.calling g mk a) (Vm.Alike.refl U.vm) qK, qD⟩
theorem MetI.of {y : MethodName} {wc ws' : List Cond} {rm : Room} {own : String} {cc : ByteArray} {nL : Nat} {ret : Option FieldType} {D : va_G} {tys : List (ClassId × FieldType)} {av : List Value} {lv : List (Nat × Value)} {w0 w1 : va_W} {r : Int32} (hy : plainName y.cls = true) (hyo : y.cls = own) (hw : wc = Cond.code y cc nL ret :: ws') (hle : (lg_sl av).length ≤ nL) (hlv : lv_args 0 av = lv)
    (body : ∀ (p : Program) (e : Env) (s : State) (m : MethodId) (args : Array Value) (below : List Frame) (meth : Method) (c : Code) (A : Nat → Prop), A = va_A w0 s.heap.size → wd_C p m c cc nL s args wc own D tys A → meth.sig.returnType = ret → meth.locks = false → Wd p l e rm s m args below meth c nL D A 0 0 (MQ below (va_Qi (fun (r' : Int32) (_ : Unit) => r' = r) (wd_B D tys w1 (va_A w0 s.heap.size)) (va_A w0 s.heap.size)) args s 0 0 (va_A w0 s.heap.size)) 0 lv [] w0) : MetI l y wc rm D tys av w0 r w1 := by
  intro sz
  refine Met.ofW (cc := cc) (maxL := nL) (ret := ret) hy hw ?_
  intro p e s m args below meth c s₁ B hml hv
  obtain ⟨rfl, hsz, hP, hK, hD0⟩ := hv
  subst hsz
  have hD := hD0.self (sz := s.heap.size)
  have hl := lv_entry av (n := nL) hle
  rw [lg_entry_eq]
  have hown : s.vm.findClass own = some m.cls := by rw [← hyo]; exact findClass_of_methodNamed B.named
  exact body p e s m av.toArray below meth c _ rfl ⟨⟨B.exec, B.bytes, hml, hown, atoms_spec (ws := wc) B.pre⟩, hK, fun q h => Or.inr h⟩ B.returns B.notSynchronized s.heap [] _ hP hD va_S.rf (hlv ▸ hl)
theorem wd_iret (C : wd_C p m c cc nL s args Ts own D tys A) {w0 w1 : va_W} {r v : Int32} {ty : FieldType} (hA : A = va_A w0 s.heap.size) (hr : meth.sig.returnType = some ty) (hlk : meth.locks = false) (hn : narrow ty (.int v) = .int v) (hv : v = r) (hw : ws = w1) (hd : decode cc pc = .ok (.ireturn, 1)) : Wd p l e R s m args below meth c nL D A 0 0 (MQ below (va_Qi (fun (r' : Int32) (_ : Unit) => r' = r) (wd_B D tys w1 (va_A w0 s.heap.size)) (va_A w0 s.heap.size)) args s 0 0 (va_A w0 s.heap.size)) pc lv [.int v] ws := by
  subst hv; subst hw; subst hA
  intro H locs ls hP hD hS hl
  exact W.zret C.1.1 C.1.2.1 hr hn (fun t ht hW => ⟨⟨v, (), rfl, rfl, by rw [ht]; exact hP, va_K.moved hW.alike C.2.1, hD⟩, hS.F ht⟩) hS.2.2 hd hlk
theorem wd_callVi (C : wd_C p m c cc nL s args Ts own D tys A) {y : MethodName} {bytes : ByteArray} {maxL ix na q0 ci b : Nat} {ret : Option FieldType} {wc : List Cond} {rm : Room} {Cn : String} {T : u_T} {N : Nat} {fs : List Value} {As : List Value} {w0 w1 : va_W} {r : Int32} (hM : MetI l y wc rm D tys (.ref b :: As) w0 r w1) (cw : CallW R s args own Cn ix y bytes maxL ret wc rm 0 0 na) (hc : vwCl[ci]? = some (Cn, T, N)) (he : w0[q0]? = some (b, .inr (ci, fs))) (isC isR : List Nat) (hC : isC.map (fun i => ws[i]?) = w0.map some) (hnC : va_nd isC = true) (hR : isR.map (fun i => ws[i]?) = (isR.filterMap (fun i => ws[i]?)).map some) (hnR0 : va_nd isR = true) (hdis : ∀ i ∈ isR, i ∉ isC) (bk : List Nat) (hbn : va_nd bk = true) (hbk : bk.map (fun i => (isR.filterMap (fun i => ws[i]?) ++ w1)[i]?) = ws'.map some) (hna : As.length = na) (hrm : (rest.map fun v => v.category).sum ≤ 8) (hkR : k + 0 ≤ R.cells) (hnR : n + 0 ≤ R.slots) (hd : decode cc pc = .ok (.invokevirtual ix, 3)) (hj : pc + 3 = j) (kk : Wd p l e R s m args below meth c nL D A k n Q j lv (.int r :: rest) ws') : Wd p l e R s m args below meth c nL D A k n Q pc lv (As.reverse ++ .ref b :: rest) ws := by
  subst hj
  intro H locs ls hP hD hS hl
  have hPc := hP.sub (ws' := w0) isC (wd_fm hC)
  have hDc := hD.sub (ws' := w0) isC hnC hC
  have hFc := va_free (wc := w0) hD hS C.2.2 isC hC
  refine va_calli (va_runV (As := As) (rest := rest) C.1 (hM H.size) cw ⟨wd_blind, va_recv C.2.1 hPc hc he, fun U hU hW => ⟨rfl, by rw [hU], by rw [hU]; exact hPc, va_K.moved hW.alike C.2.1, hDc.weaken (fun _ _ _ _ => trivial)⟩⟩ rfl hna hl.1 rfl (lv_room hrm) hd ⟨hkR, hnR⟩) hS (fun q _ h => hFc q h) hFc (fun r' u t H1 locs1 ht hvm hw hB hz1 hk1 hS => ?_)
  subst hw
  obtain ⟨hP1, hK1, hD1⟩ := hB
  rw [ht] at hP1
  obtain ⟨hP2, hD2⟩ := va_join (wr := isR.filterMap (fun i => ws[i]?)) (w1 := w1) hP hD isC isR hC hR hnR0 hdis hk1 hFc hP1 hD1
  exact kk H1 locs1 ls (hP2.sub bk (wd_fm hbk)) (hD2.sub bk hbn hbk) hS hl
theorem wd_callSi (C : wd_C p m c cc nL s args Ts own D tys A) {y : MethodName} {bytes : ByteArray} {maxL ix na : Nat} {ret : Option FieldType} {wc : List Cond} {rm : Room} {As : List Value} {w0 w1 : va_W} {r : Int32} (hM : MetI l y wc rm D tys As w0 r w1) (cw : CallB R s args own ix y bytes maxL ret wc rm 0 0 na ∧ (Cond.static y).before args s = true) (isC isR : List Nat) (hC : isC.map (fun i => ws[i]?) = w0.map some) (hnC : va_nd isC = true) (hR : isR.map (fun i => ws[i]?) = (isR.filterMap (fun i => ws[i]?)).map some) (hnR0 : va_nd isR = true) (hdis : ∀ i ∈ isR, i ∉ isC) (bk : List Nat) (hbn : va_nd bk = true) (hbk : bk.map (fun i => (isR.filterMap (fun i => ws[i]?) ++ w1)[i]?) = ws'.map some) (hna : As.length = na) (hrm : (rest.map fun v => v.category).sum ≤ 8) (hkR : k + 0 ≤ R.cells) (hnR : n + 0 ≤ R.slots) (hd : decode cc pc = .ok (.invokestatic ix, 3)) (hj : pc + 3 = j) (kk : Wd p l e R s m args below meth c nL D A k n Q j lv (.int r :: rest) ws') : Wd p l e R s m args below meth c nL D A k n Q pc lv (As.reverse ++ rest) ws := by
  subst hj
  intro H locs ls hP hD hS hl
  have hPc := hP.sub (ws' := w0) isC (wd_fm hC)
  have hDc := hD.sub (ws' := w0) isC hnC hC
  have hFc := va_free (wc := w0) hD hS C.2.2 isC hC
  refine va_calli (va_runS (As := As) (rest := rest) C.1 (hM H.size) cw ⟨wd_blind, fun U hU hW => ⟨rfl, by rw [hU], by rw [hU]; exact hPc, va_K.moved hW.alike C.2.1, hDc.weaken (fun _ _ _ _ => trivial)⟩⟩ rfl hna hl.1 rfl (lv_room hrm) hd ⟨hkR, hnR⟩) hS (fun q _ h => hFc q h) hFc (fun r' u t H1 locs1 ht hvm hw hB hz1 hk1 hS => ?_)
  subst hw
  obtain ⟨hP1, hK1, hD1⟩ := hB
  rw [ht] at hP1
  obtain ⟨hP2, hD2⟩ := va_join (wr := isR.filterMap (fun i => ws[i]?)) (w1 := w1) hP hD isC isR hC hR hnR0 hdis hk1 hFc hP1 hD1
  exact kk H1 locs1 ls (hP2.sub bk (wd_fm hbk)) (hD2.sub bk hbn hbk) hS hl
theorem MetL.of {y : MethodName} {wc ws' : List Cond} {rm : Room} {own : String} {cc : ByteArray} {nL : Nat} {ret : Option FieldType} {D : va_G} {tys : List (ClassId × FieldType)} {av : List Value} {lv : List (Nat × Value)} {w0 w1 : va_W} {r : Int64} (hy : plainName y.cls = true) (hyo : y.cls = own) (hw : wc = Cond.code y cc nL ret :: ws') (hle : (lg_sl av).length ≤ nL) (hlv : lv_args 0 av = lv)
    (body : ∀ (p : Program) (e : Env) (s : State) (m : MethodId) (args : Array Value) (below : List Frame) (meth : Method) (c : Code) (A : Nat → Prop), A = va_A w0 s.heap.size → wd_C p m c cc nL s args wc own D tys A → meth.sig.returnType = ret → meth.locks = false → Wd p l e rm s m args below meth c nL D A 0 0 (MQ below (va_Ql (fun (r' : Int64) (_ : Unit) => r' = r) (wd_B D tys w1 (va_A w0 s.heap.size)) (va_A w0 s.heap.size)) args s 0 0 (va_A w0 s.heap.size)) 0 lv [] w0) : MetL l y wc rm D tys av w0 r w1 := by
  intro sz
  refine Met.ofW (cc := cc) (maxL := nL) (ret := ret) hy hw ?_
  intro p e s m args below meth c s₁ B hml hv
  obtain ⟨rfl, hsz, hP, hK, hD0⟩ := hv
  subst hsz
  have hD := hD0.self (sz := s.heap.size)
  have hl := lv_entry av (n := nL) hle
  rw [lg_entry_eq]
  have hown : s.vm.findClass own = some m.cls := by rw [← hyo]; exact findClass_of_methodNamed B.named
  exact body p e s m av.toArray below meth c _ rfl ⟨⟨B.exec, B.bytes, hml, hown, atoms_spec (ws := wc) B.pre⟩, hK, fun q h => Or.inr h⟩ B.returns B.notSynchronized s.heap [] _ hP hD va_S.rf (hlv ▸ hl)
theorem wd_lret (C : wd_C p m c cc nL s args Ts own D tys A) {w0 w1 : va_W} {r v : Int64} (hA : A = va_A w0 s.heap.size) (hr : meth.sig.returnType = some .long) (hlk : meth.locks = false) (hv : v = r) (hw : ws = w1) (hd : decode cc pc = .ok (.lreturn, 1)) : Wd p l e R s m args below meth c nL D A 0 0 (MQ below (va_Ql (fun (r' : Int64) (_ : Unit) => r' = r) (wd_B D tys w1 (va_A w0 s.heap.size)) (va_A w0 s.heap.size)) args s 0 0 (va_A w0 s.heap.size)) pc lv [.long v] ws := by
  subst hv; subst hw; subst hA
  intro H locs ls hP hD hS hl
  exact W.lret C.1.1 C.1.2.1 hr (fun t ht hW => ⟨⟨v, (), rfl, rfl, by rw [ht]; exact hP, va_K.moved hW.alike C.2.1, hD⟩, hS.F ht⟩) hS.2.2 hd hlk
theorem wd_callVl (C : wd_C p m c cc nL s args Ts own D tys A) {y : MethodName} {bytes : ByteArray} {maxL ix na q0 ci b : Nat} {ret : Option FieldType} {wc : List Cond} {rm : Room} {Cn : String} {T : u_T} {N : Nat} {fs : List Value} {As : List Value} {w0 w1 : va_W} {r : Int64} (hM : MetL l y wc rm D tys (.ref b :: As) w0 r w1) (cw : CallW R s args own Cn ix y bytes maxL ret wc rm 0 0 na) (hc : vwCl[ci]? = some (Cn, T, N)) (he : w0[q0]? = some (b, .inr (ci, fs))) (isC isR : List Nat) (hC : isC.map (fun i => ws[i]?) = w0.map some) (hnC : va_nd isC = true) (hR : isR.map (fun i => ws[i]?) = (isR.filterMap (fun i => ws[i]?)).map some) (hnR0 : va_nd isR = true) (hdis : ∀ i ∈ isR, i ∉ isC) (bk : List Nat) (hbn : va_nd bk = true) (hbk : bk.map (fun i => (isR.filterMap (fun i => ws[i]?) ++ w1)[i]?) = ws'.map some) (hna : As.length = na) (hrm : (rest.map fun v => v.category).sum ≤ 8) (hkR : k + 0 ≤ R.cells) (hnR : n + 0 ≤ R.slots) (hd : decode cc pc = .ok (.invokevirtual ix, 3)) (hj : pc + 3 = j) (kk : Wd p l e R s m args below meth c nL D A k n Q j lv (.long r :: rest) ws') : Wd p l e R s m args below meth c nL D A k n Q pc lv (As.reverse ++ .ref b :: rest) ws := by
  subst hj
  intro H locs ls hP hD hS hl
  have hPc := hP.sub (ws' := w0) isC (wd_fm hC)
  have hDc := hD.sub (ws' := w0) isC hnC hC
  have hFc := va_free (wc := w0) hD hS C.2.2 isC hC
  refine va_calll (va_runV (As := As) (rest := rest) C.1 (hM H.size) cw ⟨wd_blind, va_recv C.2.1 hPc hc he, fun U hU hW => ⟨rfl, by rw [hU], by rw [hU]; exact hPc, va_K.moved hW.alike C.2.1, hDc.weaken (fun _ _ _ _ => trivial)⟩⟩ rfl hna hl.1 rfl (lv_room hrm) hd ⟨hkR, hnR⟩) hS (fun q _ h => hFc q h) hFc (fun r' u t H1 locs1 ht hvm hw hB hz1 hk1 hS => ?_)
  subst hw
  obtain ⟨hP1, hK1, hD1⟩ := hB
  rw [ht] at hP1
  obtain ⟨hP2, hD2⟩ := va_join (wr := isR.filterMap (fun i => ws[i]?)) (w1 := w1) hP hD isC isR hC hR hnR0 hdis hk1 hFc hP1 hD1
  exact kk H1 locs1 ls (hP2.sub bk (wd_fm hbk)) (hD2.sub bk hbn hbk) hS hl
theorem wd_callSl (C : wd_C p m c cc nL s args Ts own D tys A) {y : MethodName} {bytes : ByteArray} {maxL ix na : Nat} {ret : Option FieldType} {wc : List Cond} {rm : Room} {As : List Value} {w0 w1 : va_W} {r : Int64} (hM : MetL l y wc rm D tys As w0 r w1) (cw : CallB R s args own ix y bytes maxL ret wc rm 0 0 na ∧ (Cond.static y).before args s = true) (isC isR : List Nat) (hC : isC.map (fun i => ws[i]?) = w0.map some) (hnC : va_nd isC = true) (hR : isR.map (fun i => ws[i]?) = (isR.filterMap (fun i => ws[i]?)).map some) (hnR0 : va_nd isR = true) (hdis : ∀ i ∈ isR, i ∉ isC) (bk : List Nat) (hbn : va_nd bk = true) (hbk : bk.map (fun i => (isR.filterMap (fun i => ws[i]?) ++ w1)[i]?) = ws'.map some) (hna : As.length = na) (hrm : (rest.map fun v => v.category).sum ≤ 8) (hkR : k + 0 ≤ R.cells) (hnR : n + 0 ≤ R.slots) (hd : decode cc pc = .ok (.invokestatic ix, 3)) (hj : pc + 3 = j) (kk : Wd p l e R s m args below meth c nL D A k n Q j lv (.long r :: rest) ws') : Wd p l e R s m args below meth c nL D A k n Q pc lv (As.reverse ++ rest) ws := by
  subst hj
  intro H locs ls hP hD hS hl
  have hPc := hP.sub (ws' := w0) isC (wd_fm hC)
  have hDc := hD.sub (ws' := w0) isC hnC hC
  have hFc := va_free (wc := w0) hD hS C.2.2 isC hC
  refine va_calll (va_runS (As := As) (rest := rest) C.1 (hM H.size) cw ⟨wd_blind, fun U hU hW => ⟨rfl, by rw [hU], by rw [hU]; exact hPc, va_K.moved hW.alike C.2.1, hDc.weaken (fun _ _ _ _ => trivial)⟩⟩ rfl hna hl.1 rfl (lv_room hrm) hd ⟨hkR, hnR⟩) hS (fun q _ h => hFc q h) hFc (fun r' u t H1 locs1 ht hvm hw hB hz1 hk1 hS => ?_)
  subst hw
  obtain ⟨hP1, hK1, hD1⟩ := hB
  rw [ht] at hP1
  obtain ⟨hP2, hD2⟩ := va_join (wr := isR.filterMap (fun i => ws[i]?)) (w1 := w1) hP hD isC isR hC hR hnR0 hdis hk1 hFc hP1 hD1
  exact kk H1 locs1 ls (hP2.sub bk (wd_fm hbk)) (hD2.sub bk hbn hbk) hS hl
theorem MetV.of {y : MethodName} {wc ws' : List Cond} {rm : Room} {own : String} {cc : ByteArray} {nL : Nat} {ret : Option FieldType} {D : va_G} {tys : List (ClassId × FieldType)} {av : List Value} {lv : List (Nat × Value)} {w0 w1 : va_W} (hy : plainName y.cls = true) (hyo : y.cls = own) (hw : wc = Cond.code y cc nL ret :: ws') (hle : (lg_sl av).length ≤ nL) (hlv : lv_args 0 av = lv)
    (body : ∀ (p : Program) (e : Env) (s : State) (m : MethodId) (args : Array Value) (below : List Frame) (meth : Method) (c : Code) (A : Nat → Prop), A = va_A w0 s.heap.size → wd_C p m c cc nL s args wc own D tys A → meth.sig.returnType = ret → meth.locks = false → Wd p l e rm s m args below meth c nL D A 0 0 (MQ below (va_Qv (fun (_ : Unit) => True) (wd_B D tys w1 (va_A w0 s.heap.size)) (va_A w0 s.heap.size)) args s 0 0 (va_A w0 s.heap.size)) 0 lv [] w0) : MetV l y wc rm D tys av w0 w1 := by
  intro sz
  refine Met.ofW (cc := cc) (maxL := nL) (ret := ret) hy hw ?_
  intro p e s m args below meth c s₁ B hml hv
  obtain ⟨rfl, hsz, hP, hK, hD0⟩ := hv
  subst hsz
  have hD := hD0.self (sz := s.heap.size)
  have hl := lv_entry av (n := nL) hle
  rw [lg_entry_eq]
  have hown : s.vm.findClass own = some m.cls := by rw [← hyo]; exact findClass_of_methodNamed B.named
  exact body p e s m av.toArray below meth c _ rfl ⟨⟨B.exec, B.bytes, hml, hown, atoms_spec (ws := wc) B.pre⟩, hK, fun q h => Or.inr h⟩ B.returns B.notSynchronized s.heap [] _ hP hD va_S.rf (hlv ▸ hl)
theorem wd_vret (C : wd_C p m c cc nL s args Ts own D tys A) {w0 w1 : va_W} (hA : A = va_A w0 s.heap.size) (hr : meth.sig.returnType = none) (hlk : meth.locks = false) (hw : ws = w1) (hd : decode cc pc = .ok (.return_, 1)) : Wd p l e R s m args below meth c nL D A 0 0 (MQ below (va_Qv (fun (_ : Unit) => True) (wd_B D tys w1 (va_A w0 s.heap.size)) (va_A w0 s.heap.size)) args s 0 0 (va_A w0 s.heap.size)) pc lv [] ws := by
  subst hw; subst hA
  intro H locs ls hP hD hS hl
  exact W.vret C.1.1 C.1.2.1 hr (fun t ht hW => ⟨⟨(), rfl, trivial, by rw [ht]; exact hP, va_K.moved hW.alike C.2.1, hD⟩, hS.F ht⟩) hS.2.2 hd hlk
theorem wd_callVv (C : wd_C p m c cc nL s args Ts own D tys A) {y : MethodName} {bytes : ByteArray} {maxL ix na q0 ci b : Nat} {ret : Option FieldType} {wc : List Cond} {rm : Room} {Cn : String} {T : u_T} {N : Nat} {fs : List Value} {As : List Value} {w0 w1 : va_W} (hM : MetV l y wc rm D tys (.ref b :: As) w0 w1) (cw : CallW R s args own Cn ix y bytes maxL ret wc rm 0 0 na) (hc : vwCl[ci]? = some (Cn, T, N)) (he : w0[q0]? = some (b, .inr (ci, fs))) (isC isR : List Nat) (hC : isC.map (fun i => ws[i]?) = w0.map some) (hnC : va_nd isC = true) (hR : isR.map (fun i => ws[i]?) = (isR.filterMap (fun i => ws[i]?)).map some) (hnR0 : va_nd isR = true) (hdis : ∀ i ∈ isR, i ∉ isC) (bk : List Nat) (hbn : va_nd bk = true) (hbk : bk.map (fun i => (isR.filterMap (fun i => ws[i]?) ++ w1)[i]?) = ws'.map some) (hna : As.length = na) (hrm : (rest.map fun v => v.category).sum ≤ 8) (hkR : k + 0 ≤ R.cells) (hnR : n + 0 ≤ R.slots) (hd : decode cc pc = .ok (.invokevirtual ix, 3)) (hj : pc + 3 = j) (kk : Wd p l e R s m args below meth c nL D A k n Q j lv (rest) ws') : Wd p l e R s m args below meth c nL D A k n Q pc lv (As.reverse ++ .ref b :: rest) ws := by
  subst hj
  intro H locs ls hP hD hS hl
  have hPc := hP.sub (ws' := w0) isC (wd_fm hC)
  have hDc := hD.sub (ws' := w0) isC hnC hC
  have hFc := va_free (wc := w0) hD hS C.2.2 isC hC
  refine va_callv (va_runV (As := As) (rest := rest) C.1 (hM H.size) cw ⟨wd_blind, va_recv C.2.1 hPc hc he, fun U hU hW => ⟨rfl, by rw [hU], by rw [hU]; exact hPc, va_K.moved hW.alike C.2.1, hDc.weaken (fun _ _ _ _ => trivial)⟩⟩ rfl hna hl.1 rfl (lv_room hrm) hd ⟨hkR, hnR⟩) hS (fun q _ h => hFc q h) hFc (fun u t H1 locs1 ht hvm hw hB hz1 hk1 hS => ?_)
  obtain ⟨hP1, hK1, hD1⟩ := hB
  rw [ht] at hP1
  obtain ⟨hP2, hD2⟩ := va_join (wr := isR.filterMap (fun i => ws[i]?)) (w1 := w1) hP hD isC isR hC hR hnR0 hdis hk1 hFc hP1 hD1
  exact kk H1 locs1 ls (hP2.sub bk (wd_fm hbk)) (hD2.sub bk hbn hbk) hS hl
theorem wd_callSv (C : wd_C p m c cc nL s args Ts own D tys A) {y : MethodName} {bytes : ByteArray} {maxL ix na : Nat} {ret : Option FieldType} {wc : List Cond} {rm : Room} {As : List Value} {w0 w1 : va_W} (hM : MetV l y wc rm D tys As w0 w1) (cw : CallB R s args own ix y bytes maxL ret wc rm 0 0 na ∧ (Cond.static y).before args s = true) (isC isR : List Nat) (hC : isC.map (fun i => ws[i]?) = w0.map some) (hnC : va_nd isC = true) (hR : isR.map (fun i => ws[i]?) = (isR.filterMap (fun i => ws[i]?)).map some) (hnR0 : va_nd isR = true) (hdis : ∀ i ∈ isR, i ∉ isC) (bk : List Nat) (hbn : va_nd bk = true) (hbk : bk.map (fun i => (isR.filterMap (fun i => ws[i]?) ++ w1)[i]?) = ws'.map some) (hna : As.length = na) (hrm : (rest.map fun v => v.category).sum ≤ 8) (hkR : k + 0 ≤ R.cells) (hnR : n + 0 ≤ R.slots) (hd : decode cc pc = .ok (.invokestatic ix, 3)) (hj : pc + 3 = j) (kk : Wd p l e R s m args below meth c nL D A k n Q j lv (rest) ws') : Wd p l e R s m args below meth c nL D A k n Q pc lv (As.reverse ++ rest) ws := by
  subst hj
  intro H locs ls hP hD hS hl
  have hPc := hP.sub (ws' := w0) isC (wd_fm hC)
  have hDc := hD.sub (ws' := w0) isC hnC hC
  have hFc := va_free (wc := w0) hD hS C.2.2 isC hC
  refine va_callv (va_runS (As := As) (rest := rest) C.1 (hM H.size) cw ⟨wd_blind, fun U hU hW => ⟨rfl, by rw [hU], by rw [hU]; exact hPc, va_K.moved hW.alike C.2.1, hDc.weaken (fun _ _ _ _ => trivial)⟩⟩ rfl hna hl.1 rfl (lv_room hrm) hd ⟨hkR, hnR⟩) hS (fun q _ h => hFc q h) hFc (fun u t H1 locs1 ht hvm hw hB hz1 hk1 hS => ?_)
  obtain ⟨hP1, hK1, hD1⟩ := hB
  rw [ht] at hP1
  obtain ⟨hP2, hD2⟩ := va_join (wr := isR.filterMap (fun i => ws[i]?)) (w1 := w1) hP hD isC isR hC hR hnR0 hdis hk1 hFc hP1 hD1
  exact kk H1 locs1 ls (hP2.sub bk (wd_fm hbk)) (hD2.sub bk hbn hbk) hS hl
end WDL
def grd {α : Type} (c : Prop) [Decidable c] (x : Option α) : Option α := if c then x else none
theorem grd_some {α : Type} {c : Prop} [Decidable c] {x : Option α} {r : α} (h : grd c x = some r) : c ∧ x = some r := by
  unfold grd at h
  by_cases hc : c
  · rw [if_pos hc] at h; exact ⟨hc, h⟩
  · rw [if_neg hc] at h; cases h
theorem bnd_some {α β : Type} {x : Option α} {f : α → Option β} {r : β} (h : x.bind f = some r) : ∃ u, x = some u ∧ f u = some r := by
  cases x with
  | none => cases h
  | some u => exact ⟨u, rfl, h⟩
def inB (i : Int32) (z : Nat) : Bool := decide (¬ (i < 0 ∨ z ≤ i.toNatClampNeg))
theorem inB_in {i : Int32} {z : Nat} (h : inB i z = true) : vp_in i z := by
  have h2 : ¬ (i < 0 ∨ z ≤ i.toNatClampNeg) := of_decide_eq_true h
  exact h2
def nnB (x : UInt64) : Bool := decide (x &&& 0x7fffffffffffffff ≤ 0x7ff0000000000000)
theorem nnB_in {x : UInt64} (h : nnB x = true) : vf_n64 x := by
  have h2 : x &&& 0x7fffffffffffffff ≤ 0x7ff0000000000000 := of_decide_eq_true h
  exact h2
def z01 (x : Int32) : Bool := decide (x = 0) || decide (x = 1)
theorem z01_in {x : Int32} (h : z01 x = true) : narrow .boolean (.int x) = .int x := by
  unfold z01 at h
  rw [Bool.or_eq_true] at h
  rcases h with h | h
  · rw [of_decide_eq_true h]; rfl
  · rw [of_decide_eq_true h]; rfl
