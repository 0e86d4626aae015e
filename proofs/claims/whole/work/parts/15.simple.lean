/-! ===== each instruction of ours is the machine's ===== -/
def AW : List Cond := lw_tbl.filter goodWord
abbrev MData : Type := (Nat → ByteArray) × (Nat → MethodName) × (Nat → List (Nat × Nat × Nat × Nat))
def mC (M : MData) : Nat → ByteArray := M.1
def mY (M : MData) : Nat → MethodName := M.2.1
def mH (M : MData) : Nat → List (Nat × Nat × Nat × Nat) := M.2.2
/-- the frame stands in method mt -/
def FRM (T : Tab) (M : MData) (p : Program) (l : Launch) (s : State) (m : MethodId) (args : Array Value) (meth : Method) (c : Code) (mt : Nat) : Prop :=
  p.tables.exec = Jvm.exec ∧ c.code = mC M mt ∧ c.maxLocals = tML T mt ∧ s.vm.findClass (mY M mt).cls = some m.cls ∧ (∀ w ∈ AW, w.before args s = true) ∧ meth.locks = false ∧ meth.sig.returnType = tRT T mt ∧ c.exceptionTable.toList = tableOf (mH M mt) ∧ meth.name = (mY M mt).name ∧ l.stackTraces = false
def SB (n : Nat) (st : List Value) : Prop := ∀ v ∈ st, vb n v ∧ okv v
theorem SB.tail {n : Nat} {v : Value} {st : List Value} (h : SB n (v :: st)) : SB n st := fun w m => h w (List.mem_cons_of_mem _ m)
theorem SB.head {n : Nat} {v : Value} {st : List Value} (h : SB n (v :: st)) : vb n v ∧ okv v := h v List.mem_cons_self
theorem SB.cons {n : Nat} {v : Value} {st : List Value} (hv : vb n v ∧ okv v) (h : SB n st) : SB n (v :: st) := fun w m => by
  rcases List.mem_cons.mp m with q | q
  · rw [q]; exact hv
  · exact h w q
theorem SB.int {n : Nat} {x : Int32} {st : List Value} (h : SB n st) : SB n (.int x :: st) := h.cons ⟨trivial, trivial⟩
theorem SB.long {n : Nat} {x : Int64} {st : List Value} (h : SB n st) : SB n (.long x :: st) := h.cons ⟨trivial, trivial⟩
theorem SB.null {n : Nat} {st : List Value} (h : SB n st) : SB n (.null :: st) := h.cons ⟨trivial, trivial⟩
theorem SB.ref {n k : Nat} {st : List Value} (hk : k < n) (h : SB n st) : SB n (.ref k :: st) := h.cons ⟨hk, trivial⟩
theorem SB.mono {n m : Nat} {st : List Value} (hn : n ≤ m) (h : SB n st) : SB m st := fun v k => ⟨(h v k).1.mono hn, (h v k).2⟩
/-- the room that is left -/
def RM (d : Nat) (B : Nat × Nat) (R : Room) (cells slots mc ms : Nat) : Prop := d ≤ R.frames ∧ d * 64 + 64 ≤ R.locals ∧ cells + B.1 ≤ R.cells ∧ slots + B.2 ≤ R.slots ∧ cells + B.1 ≤ mc ∧ slots + B.2 ≤ ms
/-- the machine does what our frame says -/
def X0 (T : Tab) (M : MData) (E : Env4) (G : GW) (xn : Nat → String) (k0 base : Nat) : WX := fun d B mt pc ls st σ Q =>
  ∀ (p : Program) (l : Launch) (e : Env) (R : Room) (s : State) (m : MethodId) (args : Array Value) (below : List Frame) (meth : Method) (c : Code) (H : Heap) (locs : List Loc) (cells slots : Nat) (lsM : Array Slot) (ad adB : Nat → Nat) (σB : Sto) (mc ms : Nat),
    FRM T M p l s m args meth c mt → Rel E G k0 base ad σ s H locs → Ext k0 adB σB ad σ → LV ad lsM (tML T mt) ls → (∀ v ∈ ls, vb (sN σ) v) → SB (sN σ) st → RM d B R cells slots mc ms →
    W p l e R s m args below meth c H locs cells slots (vx_MQ below (PQ G k0 base adB σB Q) (PX xn G k0 base adB σB Q) args s mc ms (ab base)) (F0 m pc lsM (st.map (tr ad)))
section SND
variable {T : Tab} {M : MData} {E : Env4} {G : GW} {xn : Nat → String} {k0 base : Nat} {d : Nat} {B : Nat × Nat} {mt pc : Nat} {ls st : List Value} {σ : Sto} {Q : Out → Sto → Prop}
theorem x_iconst {v : Int} (hd : decode (mC M mt) pc = .ok (.iconst v, 1)) (h : X0 T M E G xn k0 base d B mt (pc + 1) ls (.int (Int32.ofInt v) :: st) σ Q) : X0 T M E G xn k0 base d B mt pc ls (st) σ Q := by
  intro p l e R s m args below meth c H locs cells slots lsM ad adB σB mc ms F hR hX hL hbl hbs hrm
  refine lv_iconst F.1 F.2.1 hd rfl ?_
  exact h p l e R s m args below meth c H locs cells slots lsM ad adB σB mc ms F hR hX hL hbl (hbs.int) hrm
theorem x_bipush {v : Int} (hd : decode (mC M mt) pc = .ok (.bipush v, 2)) (hv : (Int8.ofInt v).toInt32 = Int32.ofInt v) (h : X0 T M E G xn k0 base d B mt (pc + 2) ls (.int (Int32.ofInt v) :: st) σ Q) : X0 T M E G xn k0 base d B mt pc ls (st) σ Q := by
  intro p l e R s m args below meth c H locs cells slots lsM ad adB σB mc ms F hR hX hL hbl hbs hrm
  refine lv_bipush F.1 F.2.1 hd hv ?_
  exact h p l e R s m args below meth c H locs cells slots lsM ad adB σB mc ms F hR hX hL hbl (hbs.int) hrm
theorem x_sipush {v : Int} (hd : decode (mC M mt) pc = .ok (.sipush v, 3)) (hv : (Int16.ofInt v).toInt32 = Int32.ofInt v) (h : X0 T M E G xn k0 base d B mt (pc + 3) ls (.int (Int32.ofInt v) :: st) σ Q) : X0 T M E G xn k0 base d B mt pc ls (st) σ Q := by
  intro p l e R s m args below meth c H locs cells slots lsM ad adB σB mc ms F hR hX hL hbl hbs hrm
  refine lv_sipush F.1 F.2.1 hd hv ?_
  exact h p l e R s m args below meth c H locs cells slots lsM ad adB σB mc ms F hR hX hL hbl (hbs.int) hrm
theorem x_lconst {v : Fin 2} (hd : decode (mC M mt) pc = .ok (.lconst v, 1)) (h : X0 T M E G xn k0 base d B mt (pc + 1) ls (.long (Int64.ofInt (v : Nat)) :: st) σ Q) : X0 T M E G xn k0 base d B mt pc ls (st) σ Q := by
  intro p l e R s m args below meth c H locs cells slots lsM ad adB σB mc ms F hR hX hL hbl hbs hrm
  refine lv_lconst F.1 F.2.1 hd rfl ?_
  exact h p l e R s m args below meth c H locs cells slots lsM ad adB σB mc ms F hR hX hL hbl (hbs.long) hrm
theorem x_iadd {x y : Int32} (hd : decode (mC M mt) pc = .ok (.iadd, 1)) (h : X0 T M E G xn k0 base d B mt (pc + 1) ls (.int (x + y) :: st) σ Q) : X0 T M E G xn k0 base d B mt pc ls (.int y :: .int x :: st) σ Q := by
  intro p l e R s m args below meth c H locs cells slots lsM ad adB σB mc ms F hR hX hL hbl hbs hrm
  refine lv_iadd F.1 F.2.1 hd  ?_
  exact h p l e R s m args below meth c H locs cells slots lsM ad adB σB mc ms F hR hX hL hbl (hbs.tail.tail.int) hrm
theorem x_isub {x y : Int32} (hd : decode (mC M mt) pc = .ok (.isub, 1)) (h : X0 T M E G xn k0 base d B mt (pc + 1) ls (.int (x - y) :: st) σ Q) : X0 T M E G xn k0 base d B mt pc ls (.int y :: .int x :: st) σ Q := by
  intro p l e R s m args below meth c H locs cells slots lsM ad adB σB mc ms F hR hX hL hbl hbs hrm
  refine lv_isub F.1 F.2.1 hd  ?_
  exact h p l e R s m args below meth c H locs cells slots lsM ad adB σB mc ms F hR hX hL hbl (hbs.tail.tail.int) hrm
theorem x_imul {x y : Int32} (hd : decode (mC M mt) pc = .ok (.imul, 1)) (h : X0 T M E G xn k0 base d B mt (pc + 1) ls (.int (x * y) :: st) σ Q) : X0 T M E G xn k0 base d B mt pc ls (.int y :: .int x :: st) σ Q := by
  intro p l e R s m args below meth c H locs cells slots lsM ad adB σB mc ms F hR hX hL hbl hbs hrm
  refine lv_imul F.1 F.2.1 hd  ?_
  exact h p l e R s m args below meth c H locs cells slots lsM ad adB σB mc ms F hR hX hL hbl (hbs.tail.tail.int) hrm
theorem x_iand {x y : Int32} (hd : decode (mC M mt) pc = .ok (.iand, 1)) (h : X0 T M E G xn k0 base d B mt (pc + 1) ls (.int (x &&& y) :: st) σ Q) : X0 T M E G xn k0 base d B mt pc ls (.int y :: .int x :: st) σ Q := by
  intro p l e R s m args below meth c H locs cells slots lsM ad adB σB mc ms F hR hX hL hbl hbs hrm
  refine lv_iand F.1 F.2.1 hd  ?_
  exact h p l e R s m args below meth c H locs cells slots lsM ad adB σB mc ms F hR hX hL hbl (hbs.tail.tail.int) hrm
theorem x_ior {x y : Int32} (hd : decode (mC M mt) pc = .ok (.ior, 1)) (h : X0 T M E G xn k0 base d B mt (pc + 1) ls (.int (x ||| y) :: st) σ Q) : X0 T M E G xn k0 base d B mt pc ls (.int y :: .int x :: st) σ Q := by
  intro p l e R s m args below meth c H locs cells slots lsM ad adB σB mc ms F hR hX hL hbl hbs hrm
  refine lv_ior F.1 F.2.1 hd  ?_
  exact h p l e R s m args below meth c H locs cells slots lsM ad adB σB mc ms F hR hX hL hbl (hbs.tail.tail.int) hrm
theorem x_ishl {x y : Int32} (hd : decode (mC M mt) pc = .ok (.ishl, 1)) (h : X0 T M E G xn k0 base d B mt (pc + 1) ls (.int (x <<< (y &&& 31)) :: st) σ Q) : X0 T M E G xn k0 base d B mt pc ls (.int y :: .int x :: st) σ Q := by
  intro p l e R s m args below meth c H locs cells slots lsM ad adB σB mc ms F hR hX hL hbl hbs hrm
  refine lv_ishl F.1 F.2.1 hd  ?_
  exact h p l e R s m args below meth c H locs cells slots lsM ad adB σB mc ms F hR hX hL hbl (hbs.tail.tail.int) hrm
theorem x_ishr {x y : Int32} (hd : decode (mC M mt) pc = .ok (.ishr, 1)) (h : X0 T M E G xn k0 base d B mt (pc + 1) ls (.int (x >>> (y &&& 31)) :: st) σ Q) : X0 T M E G xn k0 base d B mt pc ls (.int y :: .int x :: st) σ Q := by
  intro p l e R s m args below meth c H locs cells slots lsM ad adB σB mc ms F hR hX hL hbl hbs hrm
  refine lv_ishr F.1 F.2.1 hd  ?_
  exact h p l e R s m args below meth c H locs cells slots lsM ad adB σB mc ms F hR hX hL hbl (hbs.tail.tail.int) hrm
theorem x_iushr {x y : Int32} (hd : decode (mC M mt) pc = .ok (.iushr, 1)) (h : X0 T M E G xn k0 base d B mt (pc + 1) ls (.int ((x.toUInt32 >>> (y.toUInt32 &&& Int32.toUInt32 31)).toInt32) :: st) σ Q) : X0 T M E G xn k0 base d B mt pc ls (.int y :: .int x :: st) σ Q := by
  intro p l e R s m args below meth c H locs cells slots lsM ad adB σB mc ms F hR hX hL hbl hbs hrm
  refine lv_iushr F.1 F.2.1 hd rfl ?_
  exact h p l e R s m args below meth c H locs cells slots lsM ad adB σB mc ms F hR hX hL hbl (hbs.tail.tail.int) hrm
theorem x_idiv {x y : Int32} (hd : decode (mC M mt) pc = .ok (.idiv, 1)) (hy : ¬ y = 0) (h : X0 T M E G xn k0 base d B mt (pc + 1) ls (.int (x / y) :: st) σ Q) : X0 T M E G xn k0 base d B mt pc ls (.int y :: .int x :: st) σ Q := by
  intro p l e R s m args below meth c H locs cells slots lsM ad adB σB mc ms F hR hX hL hbl hbs hrm
  refine lv_idiv F.1 F.2.1 hd hy ?_
  exact h p l e R s m args below meth c H locs cells slots lsM ad adB σB mc ms F hR hX hL hbl (hbs.tail.tail.int) hrm
theorem x_irem {x y : Int32} (hd : decode (mC M mt) pc = .ok (.irem, 1)) (hy : ¬ y = 0) (h : X0 T M E G xn k0 base d B mt (pc + 1) ls (.int (x - x / y * y) :: st) σ Q) : X0 T M E G xn k0 base d B mt pc ls (.int y :: .int x :: st) σ Q := by
  intro p l e R s m args below meth c H locs cells slots lsM ad adB σB mc ms F hR hX hL hbl hbs hrm
  refine lv_irem F.1 F.2.1 hd hy ?_
  exact h p l e R s m args below meth c H locs cells slots lsM ad adB σB mc ms F hR hX hL hbl (hbs.tail.tail.int) hrm
theorem x_ineg {x : Int32} (hd : decode (mC M mt) pc = .ok (.ineg, 1)) (h : X0 T M E G xn k0 base d B mt (pc + 1) ls (.int (-x) :: st) σ Q) : X0 T M E G xn k0 base d B mt pc ls (.int x :: st) σ Q := by
  intro p l e R s m args below meth c H locs cells slots lsM ad adB σB mc ms F hR hX hL hbl hbs hrm
  refine lv_ineg F.1 F.2.1 hd  ?_
  exact h p l e R s m args below meth c H locs cells slots lsM ad adB σB mc ms F hR hX hL hbl (hbs.tail.int) hrm
theorem x_ladd {x y : Int64} (hd : decode (mC M mt) pc = .ok (.ladd, 1)) (h : X0 T M E G xn k0 base d B mt (pc + 1) ls (.long (x + y) :: st) σ Q) : X0 T M E G xn k0 base d B mt pc ls (.long y :: .long x :: st) σ Q := by
  intro p l e R s m args below meth c H locs cells slots lsM ad adB σB mc ms F hR hX hL hbl hbs hrm
  refine lv_ladd F.1 F.2.1 hd  ?_
  exact h p l e R s m args below meth c H locs cells slots lsM ad adB σB mc ms F hR hX hL hbl (hbs.tail.tail.long) hrm
theorem x_lmul {x y : Int64} (hd : decode (mC M mt) pc = .ok (.lmul, 1)) (h : X0 T M E G xn k0 base d B mt (pc + 1) ls (.long (x * y) :: st) σ Q) : X0 T M E G xn k0 base d B mt pc ls (.long y :: .long x :: st) σ Q := by
  intro p l e R s m args below meth c H locs cells slots lsM ad adB σB mc ms F hR hX hL hbl hbs hrm
  refine lv_lmul F.1 F.2.1 hd  ?_
  exact h p l e R s m args below meth c H locs cells slots lsM ad adB σB mc ms F hR hX hL hbl (hbs.tail.tail.long) hrm
theorem x_ldiv {x y : Int64} (hd : decode (mC M mt) pc = .ok (.ldiv, 1)) (hy : ¬ y = 0) (h : X0 T M E G xn k0 base d B mt (pc + 1) ls (.long (x / y) :: st) σ Q) : X0 T M E G xn k0 base d B mt pc ls (.long y :: .long x :: st) σ Q := by
  intro p l e R s m args below meth c H locs cells slots lsM ad adB σB mc ms F hR hX hL hbl hbs hrm
  refine lv_ldiv F.1 F.2.1 hd hy ?_
  exact h p l e R s m args below meth c H locs cells slots lsM ad adB σB mc ms F hR hX hL hbl (hbs.tail.tail.long) hrm
theorem x_lcmp {x y : Int64} (hd : decode (mC M mt) pc = .ok (.lcmp, 1)) (h : X0 T M E G xn k0 base d B mt (pc + 1) ls (.int (lg_cmp x y) :: st) σ Q) : X0 T M E G xn k0 base d B mt pc ls (.long y :: .long x :: st) σ Q := by
  intro p l e R s m args below meth c H locs cells slots lsM ad adB σB mc ms F hR hX hL hbl hbs hrm
  refine W.lcmp F.1 F.2.1 hd  ?_
  exact h p l e R s m args below meth c H locs cells slots lsM ad adB σB mc ms F hR hX hL hbl (hbs.tail.tail.int) hrm
theorem x_i2l {x : Int32} (hd : decode (mC M mt) pc = .ok (.i2l, 1)) (h : X0 T M E G xn k0 base d B mt (pc + 1) ls (.long x.toInt64 :: st) σ Q) : X0 T M E G xn k0 base d B mt pc ls (.int x :: st) σ Q := by
  intro p l e R s m args below meth c H locs cells slots lsM ad adB σB mc ms F hR hX hL hbl hbs hrm
  refine lv_i2l F.1 F.2.1 hd rfl ?_
  exact h p l e R s m args below meth c H locs cells slots lsM ad adB σB mc ms F hR hX hL hbl (hbs.tail.long) hrm
theorem x_l2i {x : Int64} (hd : decode (mC M mt) pc = .ok (.l2i, 1)) (h : X0 T M E G xn k0 base d B mt (pc + 1) ls (.int x.toInt32 :: st) σ Q) : X0 T M E G xn k0 base d B mt pc ls (.long x :: st) σ Q := by
  intro p l e R s m args below meth c H locs cells slots lsM ad adB σB mc ms F hR hX hL hbl hbs hrm
  refine lv_l2i F.1 F.2.1 hd rfl ?_
  exact h p l e R s m args below meth c H locs cells slots lsM ad adB σB mc ms F hR hX hL hbl (hbs.tail.int) hrm
theorem x_i2c {x : Int32} (hd : decode (mC M mt) pc = .ok (.i2c, 1)) (h : X0 T M E G xn k0 base d B mt (pc + 1) ls (.int ((x.toUInt32 % 65536).toInt32) :: st) σ Q) : X0 T M E G xn k0 base d B mt pc ls (.int x :: st) σ Q := by
  intro p l e R s m args below meth c H locs cells slots lsM ad adB σB mc ms F hR hX hL hbl hbs hrm
  refine lv_i2c F.1 F.2.1 hd rfl ?_
  exact h p l e R s m args below meth c H locs cells slots lsM ad adB σB mc ms F hR hX hL hbl (hbs.tail.int) hrm
theorem x_dupi {x : Int32} (hd : decode (mC M mt) pc = .ok (.dup, 1)) (h : X0 T M E G xn k0 base d B mt (pc + 1) ls (.int x :: .int x :: st) σ Q) : X0 T M E G xn k0 base d B mt pc ls (.int x :: st) σ Q := by
  intro p l e R s m args below meth c H locs cells slots lsM ad adB σB mc ms F hR hX hL hbl hbs hrm
  refine lv_dup F.1 F.2.1 hd rfl ?_
  exact h p l e R s m args below meth c H locs cells slots lsM ad adB σB mc ms F hR hX hL hbl (hbs.int) hrm
theorem x_dupr {x : Nat} (hd : decode (mC M mt) pc = .ok (.dup, 1)) (h : X0 T M E G xn k0 base d B mt (pc + 1) ls (.ref x :: .ref x :: st) σ Q) : X0 T M E G xn k0 base d B mt pc ls (.ref x :: st) σ Q := by
  intro p l e R s m args below meth c H locs cells slots lsM ad adB σB mc ms F hR hX hL hbl hbs hrm
  refine lv_dup F.1 F.2.1 hd rfl ?_
  exact h p l e R s m args below meth c H locs cells slots lsM ad adB σB mc ms F hR hX hL hbl (hbs.cons hbs.head) hrm
theorem x_dup2 {x : Int32} {y : Nat} (hd : decode (mC M mt) pc = .ok (.dup2, 1)) (h : X0 T M E G xn k0 base d B mt (pc + 1) ls (.int x :: .ref y :: .int x :: .ref y :: st) σ Q) : X0 T M E G xn k0 base d B mt pc ls (.int x :: .ref y :: st) σ Q := by
  intro p l e R s m args below meth c H locs cells slots lsM ad adB σB mc ms F hR hX hL hbl hbs hrm
  refine lv_dup2_11 F.1 F.2.1 hd rfl rfl ?_
  exact h p l e R s m args below meth c H locs cells slots lsM ad adB σB mc ms F hR hX hL hbl ((hbs.cons hbs.tail.head).int) hrm
theorem x_popi {x : Int32} (hd : decode (mC M mt) pc = .ok (.pop, 1)) (h : X0 T M E G xn k0 base d B mt (pc + 1) ls (st) σ Q) : X0 T M E G xn k0 base d B mt pc ls (.int x :: st) σ Q := by
  intro p l e R s m args below meth c H locs cells slots lsM ad adB σB mc ms F hR hX hL hbl hbs hrm
  refine lv_pop F.1 F.2.1 hd rfl ?_
  exact h p l e R s m args below meth c H locs cells slots lsM ad adB σB mc ms F hR hX hL hbl (hbs.tail) hrm
theorem x_popr {x : Nat} (hd : decode (mC M mt) pc = .ok (.pop, 1)) (h : X0 T M E G xn k0 base d B mt (pc + 1) ls (st) σ Q) : X0 T M E G xn k0 base d B mt pc ls (.ref x :: st) σ Q := by
  intro p l e R s m args below meth c H locs cells slots lsM ad adB σB mc ms F hR hX hL hbl hbs hrm
  refine lv_pop F.1 F.2.1 hd rfl ?_
  exact h p l e R s m args below meth c H locs cells slots lsM ad adB σB mc ms F hR hX hL hbl (hbs.tail) hrm
theorem x_iload {i : Nat} {x : Int32} (hd : decode (mC M mt) pc = .ok (.iload i, 2)) (hv : lget ls i = .int x) (h : X0 T M E G xn k0 base d B mt (pc + 2) ls (.int x :: st) σ Q) : X0 T M E G xn k0 base d B mt pc ls (st) σ Q := by
  intro p l e R s m args below meth c H locs cells slots lsM ad adB σB mc ms F hR hX hL hbl hbs hrm
  refine lv_iload F.1 F.2.1 hd (hL.get hv (fun q => by cases q)) ?_
  exact h p l e R s m args below meth c H locs cells slots lsM ad adB σB mc ms F hR hX hL hbl (hbs.int) hrm
theorem x_iloadn {i : Fin 4} {x : Int32} (hd : decode (mC M mt) pc = .ok (.iload_n i, 1)) (hv : lget ls i = .int x) (h : X0 T M E G xn k0 base d B mt (pc + 1) ls (.int x :: st) σ Q) : X0 T M E G xn k0 base d B mt pc ls (st) σ Q := by
  intro p l e R s m args below meth c H locs cells slots lsM ad adB σB mc ms F hR hX hL hbl hbs hrm
  refine lv_iload_n F.1 F.2.1 hd rfl (hL.get hv (fun q => by cases q)) ?_
  exact h p l e R s m args below meth c H locs cells slots lsM ad adB σB mc ms F hR hX hL hbl (hbs.int) hrm
theorem x_lload {i : Nat} {x : Int64} (hd : decode (mC M mt) pc = .ok (.lload i, 2)) (hv : lget ls i = .long x) (h : X0 T M E G xn k0 base d B mt (pc + 2) ls (.long x :: st) σ Q) : X0 T M E G xn k0 base d B mt pc ls (st) σ Q := by
  intro p l e R s m args below meth c H locs cells slots lsM ad adB σB mc ms F hR hX hL hbl hbs hrm
  refine lv_lload F.1 F.2.1 hd (hL.get hv (fun q => by cases q)) ?_
  exact h p l e R s m args below meth c H locs cells slots lsM ad adB σB mc ms F hR hX hL hbl (hbs.long) hrm
theorem x_lloadn {i : Fin 4} {x : Int64} (hd : decode (mC M mt) pc = .ok (.lload_n i, 1)) (hv : lget ls i = .long x) (h : X0 T M E G xn k0 base d B mt (pc + 1) ls (.long x :: st) σ Q) : X0 T M E G xn k0 base d B mt pc ls (st) σ Q := by
  intro p l e R s m args below meth c H locs cells slots lsM ad adB σB mc ms F hR hX hL hbl hbs hrm
  refine lv_lload_n F.1 F.2.1 hd rfl (hL.get hv (fun q => by cases q)) ?_
  exact h p l e R s m args below meth c H locs cells slots lsM ad adB σB mc ms F hR hX hL hbl (hbs.long) hrm
theorem x_aload {i : Nat} {x : Nat} (hd : decode (mC M mt) pc = .ok (.aload i, 2)) (hv : lget ls i = .ref x) (h : X0 T M E G xn k0 base d B mt (pc + 2) ls (.ref x :: st) σ Q) : X0 T M E G xn k0 base d B mt pc ls (st) σ Q := by
  intro p l e R s m args below meth c H locs cells slots lsM ad adB σB mc ms F hR hX hL hbl hbs hrm
  refine lv_aload F.1 F.2.1 hd (hL.get hv (fun q => by cases q)) ?_
  exact h p l e R s m args below meth c H locs cells slots lsM ad adB σB mc ms F hR hX hL hbl (hbs.cons ⟨by have := lget_vb hbl i; rw [hv] at this; exact this, trivial⟩) hrm
theorem x_aloadN {i : Nat} (hd : decode (mC M mt) pc = .ok (.aload i, 2)) (hv : lget ls i = .null) (h : X0 T M E G xn k0 base d B mt (pc + 2) ls (.null :: st) σ Q) : X0 T M E G xn k0 base d B mt pc ls (st) σ Q := by
  intro p l e R s m args below meth c H locs cells slots lsM ad adB σB mc ms F hR hX hL hbl hbs hrm
  refine lv_aloadN F.1 F.2.1 hd (hL.get hv (fun q => by cases q)) ?_
  exact h p l e R s m args below meth c H locs cells slots lsM ad adB σB mc ms F hR hX hL hbl (hbs.null) hrm
theorem x_aloadn {i : Fin 4} {x : Nat} (hd : decode (mC M mt) pc = .ok (.aload_n i, 1)) (hv : lget ls i = .ref x) (h : X0 T M E G xn k0 base d B mt (pc + 1) ls (.ref x :: st) σ Q) : X0 T M E G xn k0 base d B mt pc ls (st) σ Q := by
  intro p l e R s m args below meth c H locs cells slots lsM ad adB σB mc ms F hR hX hL hbl hbs hrm
  refine lv_aload_n F.1 F.2.1 hd rfl (hL.get hv (fun q => by cases q)) ?_
  exact h p l e R s m args below meth c H locs cells slots lsM ad adB σB mc ms F hR hX hL hbl (hbs.cons ⟨by have := lget_vb hbl i; rw [hv] at this; exact this, trivial⟩) hrm
theorem x_aloadnN {i : Fin 4} (hd : decode (mC M mt) pc = .ok (.aload_n i, 1)) (hv : lget ls i = .null) (h : X0 T M E G xn k0 base d B mt (pc + 1) ls (.null :: st) σ Q) : X0 T M E G xn k0 base d B mt pc ls (st) σ Q := by
  intro p l e R s m args below meth c H locs cells slots lsM ad adB σB mc ms F hR hX hL hbl hbs hrm
  refine lv_aload_nN F.1 F.2.1 hd rfl (hL.get hv (fun q => by cases q)) ?_
  exact h p l e R s m args below meth c H locs cells slots lsM ad adB σB mc ms F hR hX hL hbl (hbs.null) hrm
theorem x_istore {i : Nat} {x : Int32} (hd : decode (mC M mt) pc = .ok (.istore i, 2)) (hi : (i : Nat) < ls.length) (h : X0 T M E G xn k0 base d B mt (pc + 2) (lset ls i (.int x)) st σ Q) : X0 T M E G xn k0 base d B mt pc ls (.int x :: st) σ Q := by
  intro p l e R s m args below meth c H locs cells slots lsM ad adB σB mc ms F hR hX hL hbl hbs hrm
  refine lv_istore F.1 F.2.1 hd hL.has (Nat.lt_of_lt_of_le hi hL.2.1) rfl (fun lsN hl => ?_)
  exact h p l e R s m args below meth c H locs cells slots lsN ad adB σB mc ms F hR hX (LV.set1 hL.2.1 hi rfl hl) (lset_vb hbl hbs.head.1) hbs.tail hrm
theorem x_istoren {i : Fin 4} {x : Int32} (hd : decode (mC M mt) pc = .ok (.istore_n i, 1)) (hi : (i : Nat) < ls.length) (h : X0 T M E G xn k0 base d B mt (pc + 1) (lset ls i (.int x)) st σ Q) : X0 T M E G xn k0 base d B mt pc ls (.int x :: st) σ Q := by
  intro p l e R s m args below meth c H locs cells slots lsM ad adB σB mc ms F hR hX hL hbl hbs hrm
  refine lv_istore_n F.1 F.2.1 hd rfl hL.has (Nat.lt_of_lt_of_le hi hL.2.1) rfl (fun lsN hl => ?_)
  exact h p l e R s m args below meth c H locs cells slots lsN ad adB σB mc ms F hR hX (LV.set1 hL.2.1 hi rfl hl) (lset_vb hbl hbs.head.1) hbs.tail hrm
theorem x_lstore {i : Nat} {x : Int64} (hd : decode (mC M mt) pc = .ok (.lstore i, 2)) (hi : (i : Nat) + 1 < ls.length) (h : X0 T M E G xn k0 base d B mt (pc + 2) (lset2 ls i (.long x)) st σ Q) : X0 T M E G xn k0 base d B mt pc ls (.long x :: st) σ Q := by
  intro p l e R s m args below meth c H locs cells slots lsM ad adB σB mc ms F hR hX hL hbl hbs hrm
  refine lv_lstore F.1 F.2.1 hd hL.has (Nat.lt_of_lt_of_le hi hL.2.1) rfl (fun lsN hl => ?_)
  exact h p l e R s m args below meth c H locs cells slots lsN ad adB σB mc ms F hR hX (LV.set2 hL.2.1 hi hl) (lset2_vb hbl hbs.head.1) hbs.tail hrm
theorem x_lstoren {i : Fin 4} {x : Int64} (hd : decode (mC M mt) pc = .ok (.lstore_n i, 1)) (hi : (i : Nat) + 1 < ls.length) (h : X0 T M E G xn k0 base d B mt (pc + 1) (lset2 ls i (.long x)) st σ Q) : X0 T M E G xn k0 base d B mt pc ls (.long x :: st) σ Q := by
  intro p l e R s m args below meth c H locs cells slots lsM ad adB σB mc ms F hR hX hL hbl hbs hrm
  refine lv_lstore_n F.1 F.2.1 hd rfl hL.has (Nat.lt_of_lt_of_le hi hL.2.1) rfl (fun lsN hl => ?_)
  exact h p l e R s m args below meth c H locs cells slots lsN ad adB σB mc ms F hR hX (LV.set2 hL.2.1 hi hl) (lset2_vb hbl hbs.head.1) hbs.tail hrm
theorem x_astore {i : Nat} {x : Nat} (hd : decode (mC M mt) pc = .ok (.astore i, 2)) (hi : (i : Nat) < ls.length) (h : X0 T M E G xn k0 base d B mt (pc + 2) (lset ls i (.ref x)) st σ Q) : X0 T M E G xn k0 base d B mt pc ls (.ref x :: st) σ Q := by
  intro p l e R s m args below meth c H locs cells slots lsM ad adB σB mc ms F hR hX hL hbl hbs hrm
  refine lv_astore F.1 F.2.1 hd hL.has (Nat.lt_of_lt_of_le hi hL.2.1) rfl (fun lsN hl => ?_)
  exact h p l e R s m args below meth c H locs cells slots lsN ad adB σB mc ms F hR hX (LV.set1 hL.2.1 hi rfl hl) (lset_vb hbl hbs.head.1) hbs.tail hrm
theorem x_astoren {i : Fin 4} {x : Nat} (hd : decode (mC M mt) pc = .ok (.astore_n i, 1)) (hi : (i : Nat) < ls.length) (h : X0 T M E G xn k0 base d B mt (pc + 1) (lset ls i (.ref x)) st σ Q) : X0 T M E G xn k0 base d B mt pc ls (.ref x :: st) σ Q := by
  intro p l e R s m args below meth c H locs cells slots lsM ad adB σB mc ms F hR hX hL hbl hbs hrm
  refine lv_astore_n F.1 F.2.1 hd rfl hL.has (Nat.lt_of_lt_of_le hi hL.2.1) rfl (fun lsN hl => ?_)
  exact h p l e R s m args below meth c H locs cells slots lsN ad adB σB mc ms F hR hX (LV.set1 hL.2.1 hi rfl hl) (lset_vb hbl hbs.head.1) hbs.tail hrm
theorem x_astoreN {i : Nat} (hd : decode (mC M mt) pc = .ok (.astore i, 2)) (hi : (i : Nat) < ls.length) (h : X0 T M E G xn k0 base d B mt (pc + 2) (lset ls i (.null)) st σ Q) : X0 T M E G xn k0 base d B mt pc ls (.null :: st) σ Q := by
  intro p l e R s m args below meth c H locs cells slots lsM ad adB σB mc ms F hR hX hL hbl hbs hrm
  refine lv_astoreN F.1 F.2.1 hd hL.has (Nat.lt_of_lt_of_le hi hL.2.1) rfl (fun lsN hl => ?_)
  exact h p l e R s m args below meth c H locs cells slots lsN ad adB σB mc ms F hR hX (LV.set1 hL.2.1 hi rfl hl) (lset_vb hbl hbs.head.1) hbs.tail hrm
theorem x_astorenN {i : Fin 4} (hd : decode (mC M mt) pc = .ok (.astore_n i, 1)) (hi : (i : Nat) < ls.length) (h : X0 T M E G xn k0 base d B mt (pc + 1) (lset ls i (.null)) st σ Q) : X0 T M E G xn k0 base d B mt pc ls (.null :: st) σ Q := by
  intro p l e R s m args below meth c H locs cells slots lsM ad adB σB mc ms F hR hX hL hbl hbs hrm
  refine lv_astore_nN F.1 F.2.1 hd rfl hL.has (Nat.lt_of_lt_of_le hi hL.2.1) rfl (fun lsN hl => ?_)
  exact h p l e R s m args below meth c H locs cells slots lsN ad adB σB mc ms F hR hX (LV.set1 hL.2.1 hi rfl hl) (lset_vb hbl hbs.head.1) hbs.tail hrm
theorem lget_some {ls : List Value} {i : Nat} {v : Value} (hv : lget ls i = v) (hn : v ≠ .retAddr 0) : ls[i]? = some v := by
  unfold lget at hv
  rw [List.getD_eq_getElem?_getD] at hv
  cases hl : ls[i]? with
  | none => rw [hl] at hv; exact absurd hv.symm hn
  | some w => rw [hl] at hv; exact congrArg some hv
theorem x_iinc {i : Nat} {v : Int} {x : Int32} (hd : decode (mC M mt) pc = .ok (.iinc i v, 3)) (hv : lget ls i = .int x) (hi : i < ls.length) (h : X0 T M E G xn k0 base d B mt (pc + 3) (lset ls i (.int (x + Int32.ofInt v))) st σ Q) : X0 T M E G xn k0 base d B mt pc ls st σ Q := by
  intro p l e R s m args below meth c H locs cells slots lsM ad adB σB mc ms F hR hX hL hbl hbs hrm
  obtain ⟨k, hk⟩ := List.mem_iff_getElem?.mp (lp_mem (ad := ad) (lget_some hv (fun q => by cases q)) (fun q => by cases q))
  refine lv_iinc F.1 F.2.1 hd hL.has hk rfl (Nat.lt_of_lt_of_le hi hL.2.1) rfl (fun lsN hl => ?_)
  exact h p l e R s m args below meth c H locs cells slots lsN ad adB σB mc ms F hR hX (LV.set1 hL.2.1 hi rfl hl) (lset_vb hbl trivial) hbs hrm
theorem x_goto {off : Int} (hd : decode (mC M mt) pc = .ok (.goto off, 3)) (hj : (pc : Int) + off = (jmp pc off : Int)) (h : X0 T M E G xn k0 base d B mt (jmp pc off) ls st σ Q) : X0 T M E G xn k0 base d B mt pc ls st σ Q := by
  intro p l e R s m args below meth c H locs cells slots lsM ad adB σB mc ms F hR hX hL hbl hbs hrm
  refine lv_goto F.1 F.2.1 hd hj ?_
  exact h p l e R s m args below meth c H locs cells slots lsM ad adB σB mc ms F hR hX hL hbl hbs hrm
theorem x_icmp {co : ClassFile.Cond} {off : Int} {x y : Int32} (hd : decode (mC M mt) pc = .ok (.if_icmp co off, 3)) (hj : (pc : Int) + off = (jmp pc off : Int)) (h : (icond co x y → X0 T M E G xn k0 base d B mt (jmp pc off) ls st σ Q) ∧ (¬ icond co x y → X0 T M E G xn k0 base d B mt (pc + 3) ls st σ Q)) : X0 T M E G xn k0 base d B mt pc ls (.int y :: .int x :: st) σ Q := by
  intro p l e R s m args below meth c H locs cells slots lsM ad adB σB mc ms F hR hX hL hbl hbs hrm
  cases co
  · refine lv_icmp_eq F.1 F.2.1 hd hj (fun q => ?_) (fun q => ?_)
    · exact h.1 q p l e R s m args below meth c H locs cells slots lsM ad adB σB mc ms F hR hX hL hbl hbs.tail.tail hrm
    · exact h.2 q p l e R s m args below meth c H locs cells slots lsM ad adB σB mc ms F hR hX hL hbl hbs.tail.tail hrm
  · refine lv_icmp_ne F.1 F.2.1 hd hj (fun q => ?_) (fun q => ?_)
    · exact h.1 q p l e R s m args below meth c H locs cells slots lsM ad adB σB mc ms F hR hX hL hbl hbs.tail.tail hrm
    · exact h.2 (fun z => z q) p l e R s m args below meth c H locs cells slots lsM ad adB σB mc ms F hR hX hL hbl hbs.tail.tail hrm
  · refine lv_icmp_lt F.1 F.2.1 hd hj (fun q => ?_) (fun q => ?_)
    · exact h.1 q p l e R s m args below meth c H locs cells slots lsM ad adB σB mc ms F hR hX hL hbl hbs.tail.tail hrm
    · exact h.2 q p l e R s m args below meth c H locs cells slots lsM ad adB σB mc ms F hR hX hL hbl hbs.tail.tail hrm
  · refine lv_icmp_ge F.1 F.2.1 hd hj (fun q => ?_) (fun q => ?_)
    · exact h.1 q p l e R s m args below meth c H locs cells slots lsM ad adB σB mc ms F hR hX hL hbl hbs.tail.tail hrm
    · exact h.2 q p l e R s m args below meth c H locs cells slots lsM ad adB σB mc ms F hR hX hL hbl hbs.tail.tail hrm
  · refine lv_icmp_gt F.1 F.2.1 hd hj (fun q => ?_) (fun q => ?_)
    · exact h.1 q p l e R s m args below meth c H locs cells slots lsM ad adB σB mc ms F hR hX hL hbl hbs.tail.tail hrm
    · exact h.2 q p l e R s m args below meth c H locs cells slots lsM ad adB σB mc ms F hR hX hL hbl hbs.tail.tail hrm
  · refine lv_icmp_le F.1 F.2.1 hd hj (fun q => ?_) (fun q => ?_)
    · exact h.1 q p l e R s m args below meth c H locs cells slots lsM ad adB σB mc ms F hR hX hL hbl hbs.tail.tail hrm
    · exact h.2 q p l e R s m args below meth c H locs cells slots lsM ad adB σB mc ms F hR hX hL hbl hbs.tail.tail hrm
theorem x_ifc {co : ClassFile.Cond} {off : Int} {x : Int32} (hd : decode (mC M mt) pc = .ok (.ifCond co off, 3)) (hj : (pc : Int) + off = (jmp pc off : Int)) (h : (icond co x 0 → X0 T M E G xn k0 base d B mt (jmp pc off) ls st σ Q) ∧ (¬ icond co x 0 → X0 T M E G xn k0 base d B mt (pc + 3) ls st σ Q)) : X0 T M E G xn k0 base d B mt pc ls (.int x :: st) σ Q := by
  intro p l e R s m args below meth c H locs cells slots lsM ad adB σB mc ms F hR hX hL hbl hbs hrm
  cases co
  · refine lv_if_eq F.1 F.2.1 hd hj (fun q => ?_) (fun q => ?_)
    · exact h.1 q p l e R s m args below meth c H locs cells slots lsM ad adB σB mc ms F hR hX hL hbl hbs.tail hrm
    · exact h.2 q p l e R s m args below meth c H locs cells slots lsM ad adB σB mc ms F hR hX hL hbl hbs.tail hrm
  · refine lv_if_ne F.1 F.2.1 hd hj (fun q => ?_) (fun q => ?_)
    · exact h.1 q p l e R s m args below meth c H locs cells slots lsM ad adB σB mc ms F hR hX hL hbl hbs.tail hrm
    · exact h.2 (fun z => z q) p l e R s m args below meth c H locs cells slots lsM ad adB σB mc ms F hR hX hL hbl hbs.tail hrm
  · refine lv_if_lt F.1 F.2.1 hd hj (fun q => ?_) (fun q => ?_)
    · exact h.1 q p l e R s m args below meth c H locs cells slots lsM ad adB σB mc ms F hR hX hL hbl hbs.tail hrm
    · exact h.2 q p l e R s m args below meth c H locs cells slots lsM ad adB σB mc ms F hR hX hL hbl hbs.tail hrm
  · refine lv_if_ge F.1 F.2.1 hd hj (fun q => ?_) (fun q => ?_)
    · exact h.1 q p l e R s m args below meth c H locs cells slots lsM ad adB σB mc ms F hR hX hL hbl hbs.tail hrm
    · exact h.2 q p l e R s m args below meth c H locs cells slots lsM ad adB σB mc ms F hR hX hL hbl hbs.tail hrm
  · refine lv_if_gt F.1 F.2.1 hd hj (fun q => ?_) (fun q => ?_)
    · exact h.1 q p l e R s m args below meth c H locs cells slots lsM ad adB σB mc ms F hR hX hL hbl hbs.tail hrm
    · exact h.2 q p l e R s m args below meth c H locs cells slots lsM ad adB σB mc ms F hR hX hL hbl hbs.tail hrm
  · refine lv_if_le F.1 F.2.1 hd hj (fun q => ?_) (fun q => ?_)
    · exact h.1 q p l e R s m args below meth c H locs cells slots lsM ad adB σB mc ms F hR hX hL hbl hbs.tail hrm
    · exact h.2 q p l e R s m args below meth c H locs cells slots lsM ad adB σB mc ms F hR hX hL hbl hbs.tail hrm
theorem x_tsw {df lo hi : Int} {offs : Array Int} {len : Nat} {x : Int32} (hd : decode (mC M mt) pc = .ok (.tableswitch df lo hi offs, len)) (hj0 : (pc : Int) + df = (jmp pc df : Int)) (hj : ∀ (i : Nat) (off : Int), offs[i]? = some off → (pc : Int) + off = (jmp pc off : Int))
    (h : (x.toInt < lo ∨ hi < x.toInt → X0 T M E G xn k0 base d B mt (jmp pc df) ls st σ Q) ∧ (¬ (x.toInt < lo ∨ hi < x.toInt) → (match offs[(x.toInt - lo).toNat]? with | some off => X0 T M E G xn k0 base d B mt (jmp pc off) ls st σ Q | none => False))) : X0 T M E G xn k0 base d B mt pc ls (.int x :: st) σ Q := by
  intro p l e R s m args below meth c H locs cells slots lsM ad adB σB mc ms F hR hX hL hbl hbs hrm
  by_cases q : x.toInt < lo ∨ hi < x.toInt
  · refine lv_tableOut F.1 F.2.1 hd q hj0 ?_
    exact h.1 q p l e R s m args below meth c H locs cells slots lsM ad adB σB mc ms F hR hX hL hbl hbs.tail hrm
  · have h2 := h.2 q
    cases ho : offs[(x.toInt - lo).toNat]? with
    | none => rw [ho] at h2; exact h2.elim
    | some off =>
      rw [ho] at h2
      refine lv_tableIn F.1 F.2.1 hd (fun z => q (Or.inl z)) (fun z => q (Or.inr z)) ho (hj _ _ ho) ?_
      exact h2 p l e R s m args below meth c H locs cells slots lsM ad adB σB mc ms F hR hX hL hbl hbs.tail hrm
end SND
