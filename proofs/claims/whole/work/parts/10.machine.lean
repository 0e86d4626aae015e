/-! ===== an abstract machine of our own: places instead of addresses, a store by places, one step as a transformer of predicates ===== -/
abbrev Out : Type := Option Value ⊕ Nat
abbrev Sto : Type := Nat × (Nat → Nat) × (Nat → Nat) × (Nat → Nat → Int32) × (Nat → Nat → Int64) × (Nat → Nat → Option Nat)
def sN (σ : Sto) : Nat := σ.1
def sK (σ : Sto) : Nat → Nat := σ.2.1
def sZ (σ : Sto) : Nat → Nat := σ.2.2.1
def sI (σ : Sto) : Nat → Nat → Int32 := σ.2.2.2.1
def sL (σ : Sto) : Nat → Nat → Int64 := σ.2.2.2.2.1
def sP (σ : Sto) : Nat → Nat → Option Nat := σ.2.2.2.2.2
def up {α : Type} (f : Nat → α) (k : Nat) (v : α) : Nat → α := fun a => if a = k then v else f a
theorem up_eq {α : Type} {f : Nat → α} {k : Nat} {v : α} : up f k v k = v := if_pos rfl
theorem up_ne {α : Type} {f : Nat → α} {k a : Nat} {v : α} (h : a ≠ k) : up f k v a = f a := if_neg h
def setI (σ : Sto) (k j : Nat) (v : Int32) : Sto := (sN σ, sK σ, sZ σ, up (sI σ) k (up (sI σ k) j v), sL σ, sP σ)
def setL (σ : Sto) (k j : Nat) (v : Int64) : Sto := (sN σ, sK σ, sZ σ, sI σ, up (sL σ) k (up (sL σ k) j v), sP σ)
def setP (σ : Sto) (k j : Nat) (v : Option Nat) : Sto := (sN σ, sK σ, sZ σ, sI σ, sL σ, up (sP σ) k (up (sP σ k) j v))
def rowI (σ : Sto) (k : Nat) (f : Nat → Int32) : Sto := (sN σ, sK σ, sZ σ, up (sI σ) k f, sL σ, sP σ)
/-- a new thing of kind kd and size z, all zero -/
def newO (σ : Sto) (kd z : Nat) : Sto := (sN σ + 1, up (sK σ) (sN σ) kd, up (sZ σ) (sN σ) z, up (sI σ) (sN σ) (fun _ => 0), up (sL σ) (sN σ) (fun _ => 0), up (sP σ) (sN σ) (fun _ => none))
/-- n rows of m ints, and the row of them ahead -/
def newG (σ : Sto) (n m : Nat) : Sto :=
  (sN σ + 1 + n, (fun a => if a = sN σ then 18 else if sN σ < a ∧ a ≤ sN σ + n then 14 else sK σ a), (fun a => if a = sN σ then n else if sN σ < a ∧ a ≤ sN σ + n then m else sZ σ a),
    (fun a => if sN σ ≤ a ∧ a ≤ sN σ + n then (fun _ => 0) else sI σ a), (fun a => if sN σ ≤ a ∧ a ≤ sN σ + n then (fun _ => 0) else sL σ a),
    (fun a => if a = sN σ then (fun j => if j < n then some (sN σ + 1 + j) else none) else if sN σ < a ∧ a ≤ sN σ + n then (fun _ => none) else sP σ a))
def fput (σ : Sto) (tag o j : Nat) (v : Value) (k : Sto → Prop) : Prop := match tag with
  | 0 => (match v with | .int x => k (setI σ o j x) | _ => False)
  | 1 => (match v with | .long x => k (setL σ o j x) | _ => False)
  | 2 => (match v with | .ref x => k (setP σ o j (some x)) | .null => k (setP σ o j none) | _ => False)
  | _ => (match v with | .int x => (x = 0 ∨ x = 1) ∧ k (setI σ o j x) | _ => False)
/-- locals: what isn't set holds 'retAddr 0' -/
def lget (ls : List Value) (i : Nat) : Value := ls.getD i (.retAddr 0)
def lclr (ls : List Value) (i : Nat) : List Value := match i with
  | 0 => ls
  | i + 1 => (match lget ls i with | .long _ => ls.set i (.retAddr 0) | .double _ => ls.set i (.retAddr 0) | _ => ls)
def lset (ls : List Value) (i : Nat) (v : Value) : List Value := (lclr ls i).set i v
def lset2 (ls : List Value) (i : Nat) (v : Value) : List Value := ((lclr ls i).set i v).set (i + 1) (.retAddr 0)
def lsl (vs : List Value) : List Value := match vs with
  | [] => []
  | .long x :: r => .long x :: .retAddr 0 :: lsl r
  | v :: r => v :: lsl r
def lent (vs : List Value) (n : Nat) : List Value := lsl vs ++ List.replicate (n - (lsl vs).length) (.retAddr 0)
def vcat (v : Value) : Nat := match v with
  | .long _ => 2
  | .double _ => 2
  | _ => 1
def okv (v : Value) : Prop := match v with
  | .int _ => True
  | .long _ => True
  | .ref _ => True
  | .null => True
  | _ => False
/-- the tables of a program: instructions; of a method: words of locals, arguments (this among them), the kind that 'this' must be, type of the answer, handlers (from, to, exception, answer); fields, methods (and how they are called), numbers, classes and texts by their indices -/
abbrev Tab : Type := (Nat → Nat → Option Instr) × (Nat → Nat × Nat × Option Nat × Option FieldType × List (Nat × Nat × Nat × Int)) × (Nat → Nat → Option (Nat × Nat × Nat)) × (Nat → Nat → Option (Nat × Nat)) × (Nat → Nat → Option Int) × (Nat → Nat → Option Nat)
def tOp (T : Tab) (mt pc : Nat) : Option Instr := T.1 mt pc
def tML (T : Tab) (mt : Nat) : Nat := (T.2.1 mt).1
def tNA (T : Tab) (mt : Nat) : Nat := (T.2.1 mt).2.1
def tRV (T : Tab) (mt : Nat) : Option Nat := (T.2.1 mt).2.2.1
def tRT (T : Tab) (mt : Nat) : Option FieldType := (T.2.1 mt).2.2.2.1
def tHD (T : Tab) (mt : Nat) : List (Nat × Nat × Nat × Int) := (T.2.1 mt).2.2.2.2
def tFL (T : Tab) (mt ix : Nat) : Option (Nat × Nat × Nat) := T.2.2.1 mt ix
def tMH (T : Tab) (mt ix : Nat) : Option (Nat × Nat) := T.2.2.2.1 mt ix
def tCO (T : Tab) (mt ix : Nat) : Option Int := T.2.2.2.2.1 mt ix
def tCL (T : Tab) (mt ix : Nat) : Option Nat := T.2.2.2.2.2 mt ix
/-- what a handler of the method answers to exception e at pc -/
def hfind (l : List (Nat × Nat × Nat × Int)) (pc e : Nat) : Option Int := match l with
  | [] => none
  | (a, b, x, v) :: r => if a ≤ pc ∧ pc < b ∧ x = e then some v else hfind r pc e
def icond (c : ClassFile.Cond) (x y : Int32) : Prop := match c with
  | .eq => x = y
  | .ne => ¬ x = y
  | .lt => x < y
  | .ge => y ≤ x
  | .gt => y < x
  | .le => x ≤ y
def ilen (i : Instr) : Nat := match i with
  | .bipush _ => 2 | .sipush _ => 3 | .ldc _ => 2 | .ldc_w _ => 3 | .ldc2_w _ => 3
  | .iload _ => 2 | .lload _ => 2 | .aload _ => 2 | .istore _ => 2 | .lstore _ => 2 | .astore _ => 2
  | .iinc _ _ => 3 | .goto _ => 3 | .if_icmp _ _ => 3 | .ifCond _ _ => 3 | .getfield _ => 3 | .putfield _ => 3 | .getstatic _ => 3
  | .newarray _ => 2 | .anewarray _ => 3 | .multianewarray _ _ => 4 | .new _ => 3 | .checkcast _ => 3
  | .invokestatic _ => 3 | .invokevirtual _ => 3 | .invokespecial _ => 3
  | _ => 1
/-- a call: kind 0 by the object's class, 1 static, 2 a constructor, 3..5 the same between nest mates (no exception may come) -/
def wcall (T : Tab) (k : Nat → List Value → List Value → Nat × Nat → Sto → Prop) (call : Nat → Nat × Nat → List Value → (Out → Sto → Prop) → Sto → Prop) (B : Nat × Nat) (mt pc : Nat) (ls st : List Value) (σ : Sto) (Q : Out → Sto → Prop) (m2 ck : Nat) : Prop :=
  (tNA T m2 ≤ st.length ∧ ((st.drop (tNA T m2)).map vcat).sum ≤ 8 ∧ (lsl (st.take (tNA T m2)).reverse).length ≤ tML T m2 ∧
    (match tRV T m2 with | none => True | some kd => (match (st.take (tNA T m2)).reverse with | .ref o :: _ => sK σ o = kd | _ => False))) ∧
  ∃ mc ms, mc ≤ B.1 ∧ ms ≤ B.2 ∧ call m2 (mc, ms) (lent (st.take (tNA T m2)).reverse (tML T m2)) (fun o σ' => match o with
    | .inl none => k (pc + 3) ls (st.drop (tNA T m2)) (B.1 - mc, B.2 - ms) σ'
    | .inl (some v) => k (pc + 3) ls (v :: st.drop (tNA T m2)) (B.1 - mc, B.2 - ms) σ'
    | .inr e => (ck ≤ 1 ∧ e < 3) ∧ (match hfind (tHD T mt) pc e with
      | some v => Q (.inl (some (.int (Int32.ofInt v)))) σ'
      | none => Q (.inr e) σ')) σ
/-- Math.max, min, abs (ints), min (longs) -/
def wmath (k : Nat → List Value → List Value → Nat × Nat → Sto → Prop) (d : Nat) (B : Nat × Nat) (pc : Nat) (ls st : List Value) (σ : Sto) (ck : Nat) : Prop := match ck with
  | 10 => (match st with | .int y :: .int x :: st => (2 ≤ d ∧ (st.map vcat).sum ≤ 8) ∧ k (pc + 3) ls (.int (if x < y then y else x) :: st) B σ | _ => False)
  | 11 => (match st with | .int y :: .int x :: st => (2 ≤ d ∧ (st.map vcat).sum ≤ 8) ∧ k (pc + 3) ls (.int (if y < x then y else x) :: st) B σ | _ => False)
  | 12 => (match st with | .int x :: st => (2 ≤ d ∧ (st.map vcat).sum ≤ 8) ∧ k (pc + 3) ls (.int (if 0 ≤ x then x else 0 - x) :: st) B σ | _ => False)
  | 13 => (match st with | .long y :: .long x :: st => (2 ≤ d ∧ (st.map vcat).sum ≤ 8) ∧ k (pc + 3) ls (.long (if y < x then y else x) :: st) B σ | _ => False)
  | _ => False
def jmp (pc : Nat) (off : Int) : Nat := ((pc : Int) + off).toNat
/-- an array of ints that is read: the law's own script too -/
def ldI (σ : Sto) (a : Nat) (i : Int32) : Prop := (sK σ a = 14 ∨ sK σ a = 21) ∧ vp_in i (sZ σ a)
/-- one step of a method's frame: k goes on in it, call runs another method -/
def stp (T : Tab) (k : Nat → List Value → List Value → Nat × Nat → Sto → Prop) (call : Nat → Nat × Nat → List Value → (Out → Sto → Prop) → Sto → Prop) (d : Nat) (B : Nat × Nat) (mt pc : Nat) (ls st : List Value) (σ : Sto) (Q : Out → Sto → Prop) : Prop :=
  match tOp T mt pc with
  | none => False
  | some i => match i with
    | .iconst v => k (pc + 1) ls (.int (Int32.ofInt v) :: st) B σ
    | .bipush v => k (pc + 2) ls (.int (Int32.ofInt v) :: st) B σ
    | .sipush v => k (pc + 3) ls (.int (Int32.ofInt v) :: st) B σ
    | .ldc ix => (match tCO T mt ix with
      | some v => k (pc + 2) ls (.int (Int32.ofInt v) :: st) B σ
      | none => (match tCL T mt ix with | some q => k (pc + 2) ls (.ref q :: st) B σ | none => False))
    | .ldc_w ix => (match tCO T mt ix with | some v => k (pc + 3) ls (.int (Int32.ofInt v) :: st) B σ | none => False)
    | .ldc2_w ix => (match tCO T mt ix with | some v => k (pc + 3) ls (.long (Int64.ofInt v) :: st) B σ | none => False)
    | .lconst v => k (pc + 1) ls (.long (Int64.ofInt (v : Nat)) :: st) B σ
    | .iload i => (match lget ls i with | .int x => k (pc + 2) ls (.int x :: st) B σ | _ => False)
    | .iload_n i => (match lget ls i with | .int x => k (pc + 1) ls (.int x :: st) B σ | _ => False)
    | .lload i => (match lget ls i with | .long x => k (pc + 2) ls (.long x :: st) B σ | _ => False)
    | .lload_n i => (match lget ls i with | .long x => k (pc + 1) ls (.long x :: st) B σ | _ => False)
    | .aload i => (match lget ls i with | .ref x => k (pc + 2) ls (.ref x :: st) B σ | .null => k (pc + 2) ls (.null :: st) B σ | _ => False)
    | .aload_n i => (match lget ls i with | .ref x => k (pc + 1) ls (.ref x :: st) B σ | .null => k (pc + 1) ls (.null :: st) B σ | _ => False)
    | .istore i => (match st with | .int x :: st => i < ls.length ∧ k (pc + 2) (lset ls i (.int x)) st B σ | _ => False)
    | .istore_n i => (match st with | .int x :: st => (i : Nat) < ls.length ∧ k (pc + 1) (lset ls i (.int x)) st B σ | _ => False)
    | .lstore i => (match st with | .long x :: st => i + 1 < ls.length ∧ k (pc + 2) (lset2 ls i (.long x)) st B σ | _ => False)
    | .lstore_n i => (match st with | .long x :: st => (i : Nat) + 1 < ls.length ∧ k (pc + 1) (lset2 ls i (.long x)) st B σ | _ => False)
    | .astore i => (match st with | .ref x :: st => i < ls.length ∧ k (pc + 2) (lset ls i (.ref x)) st B σ | .null :: st => i < ls.length ∧ k (pc + 2) (lset ls i .null) st B σ | _ => False)
    | .astore_n i => (match st with | .ref x :: st => (i : Nat) < ls.length ∧ k (pc + 1) (lset ls i (.ref x)) st B σ | .null :: st => (i : Nat) < ls.length ∧ k (pc + 1) (lset ls i .null) st B σ | _ => False)
    | .iinc i v => (match lget ls i with | .int x => i < ls.length ∧ k (pc + 3) (lset ls i (.int (x + Int32.ofInt v))) st B σ | _ => False)
    | .iadd => (match st with | .int y :: .int x :: st => k (pc + 1) ls (.int (x + y) :: st) B σ | _ => False)
    | .isub => (match st with | .int y :: .int x :: st => k (pc + 1) ls (.int (x - y) :: st) B σ | _ => False)
    | .imul => (match st with | .int y :: .int x :: st => k (pc + 1) ls (.int (x * y) :: st) B σ | _ => False)
    | .idiv => (match st with | .int y :: .int x :: st => ¬ y = 0 ∧ k (pc + 1) ls (.int (x / y) :: st) B σ | _ => False)
    | .irem => (match st with | .int y :: .int x :: st => ¬ y = 0 ∧ k (pc + 1) ls (.int (x - x / y * y) :: st) B σ | _ => False)
    | .ineg => (match st with | .int x :: st => k (pc + 1) ls (.int (-x) :: st) B σ | _ => False)
    | .iand => (match st with | .int y :: .int x :: st => k (pc + 1) ls (.int (x &&& y) :: st) B σ | _ => False)
    | .ior => (match st with | .int y :: .int x :: st => k (pc + 1) ls (.int (x ||| y) :: st) B σ | _ => False)
    | .ishl => (match st with | .int y :: .int x :: st => k (pc + 1) ls (.int (x <<< (y &&& 31)) :: st) B σ | _ => False)
    | .ishr => (match st with | .int y :: .int x :: st => k (pc + 1) ls (.int (x >>> (y &&& 31)) :: st) B σ | _ => False)
    | .iushr => (match st with | .int y :: .int x :: st => k (pc + 1) ls (.int ((x.toUInt32 >>> (y.toUInt32 &&& Int32.toUInt32 31)).toInt32) :: st) B σ | _ => False)
    | .ladd => (match st with | .long y :: .long x :: st => k (pc + 1) ls (.long (x + y) :: st) B σ | _ => False)
    | .lmul => (match st with | .long y :: .long x :: st => k (pc + 1) ls (.long (x * y) :: st) B σ | _ => False)
    | .ldiv => (match st with | .long y :: .long x :: st => ¬ y = 0 ∧ k (pc + 1) ls (.long (x / y) :: st) B σ | _ => False)
    | .lcmp => (match st with | .long y :: .long x :: st => k (pc + 1) ls (.int (lg_cmp x y) :: st) B σ | _ => False)
    | .i2l => (match st with | .int x :: st => k (pc + 1) ls (.long x.toInt64 :: st) B σ | _ => False)
    | .l2i => (match st with | .long x :: st => k (pc + 1) ls (.int x.toInt32 :: st) B σ | _ => False)
    | .i2c => (match st with | .int x :: st => k (pc + 1) ls (.int ((x.toUInt32 % 65536).toInt32) :: st) B σ | _ => False)
    | .dup => (match st with | .int x :: st => k (pc + 1) ls (.int x :: .int x :: st) B σ | .ref x :: st => k (pc + 1) ls (.ref x :: .ref x :: st) B σ | _ => False)
    | .dup2 => (match st with | .int x :: .ref y :: st => k (pc + 1) ls (.int x :: .ref y :: .int x :: .ref y :: st) B σ | _ => False)
    | .pop => (match st with | .int _ :: st => k (pc + 1) ls st B σ | .ref _ :: st => k (pc + 1) ls st B σ | _ => False)
    | .goto off => k (jmp pc off) ls st B σ
    | .if_icmp c off => (match st with | .int y :: .int x :: st => (icond c x y → k (jmp pc off) ls st B σ) ∧ (¬ icond c x y → k (pc + 3) ls st B σ) | _ => False)
    | .ifCond c off => (match st with | .int x :: st => (icond c x 0 → k (jmp pc off) ls st B σ) ∧ (¬ icond c x 0 → k (pc + 3) ls st B σ) | _ => False)
    | .tableswitch df lo hi offs => (match st with | .int x :: st => (x.toInt < lo ∨ hi < x.toInt → k (jmp pc df) ls st B σ) ∧ (¬ (x.toInt < lo ∨ hi < x.toInt) → (match offs[(x.toInt - lo).toNat]? with | some off => k (jmp pc off) ls st B σ | none => False)) | _ => False)
    | .getfield ix => (match tFL T mt ix with
      | some (ci, j, tag) => (match st with
        | .ref o :: st => sK σ o = ci + 1 ∧ (match tag % 8 with
          | 1 => k (pc + 3) ls (.long (sL σ o j) :: st) B σ
          | 2 => ∃ q, sP σ o j = some q ∧ k (pc + 3) ls (.ref q :: st) B σ
          | _ => k (pc + 3) ls (.int (sI σ o j) :: st) B σ)
        | _ => False)
      | none => False)
    | .putfield ix => (match tFL T mt ix with
      | some (ci, j, tag) => (match st with | v :: .ref o :: st => sK σ o = ci + 1 ∧ fput σ (tag % 8) o j v (fun σ' => k (pc + 3) ls st B σ') | _ => False)
      | none => False)
    | .getstatic ix => (match tCL T mt ix with | some 0 => k (pc + 3) ls (.int 1 :: st) B σ | some _ => ∃ r, sP σ 0 0 = r ∧ k (pc + 3) ls (va_rf r :: st) B σ | none => False)
    | .iaload => (match st with | .int i :: .ref a :: st => ldI σ a i ∧ k (pc + 1) ls (.int (sI σ a i.toNatClampNeg) :: st) B σ | _ => False)
    | .baload => (match st with | .int i :: .ref a :: st => ((sK σ a = 16 ∨ sK σ a = 20) ∧ vp_in i (sZ σ a)) ∧ k (pc + 1) ls (.int (sI σ a i.toNatClampNeg) :: st) B σ | _ => False)
    | .laload => (match st with | .int i :: .ref a :: st => (sK σ a = 15 ∧ vp_in i (sZ σ a)) ∧ k (pc + 1) ls (.long (sL σ a i.toNatClampNeg) :: st) B σ | _ => False)
    | .aaload => (match st with | .int i :: .ref a :: st => ((sK σ a = 17 ∨ sK σ a = 18) ∧ vp_in i (sZ σ a)) ∧ ∃ r, sP σ a i.toNatClampNeg = r ∧ k (pc + 1) ls (va_rf r :: st) B σ | _ => False)
    | .iastore => (match st with | .int x :: .int i :: .ref a :: st => (sK σ a = 14 ∧ vp_in i (sZ σ a)) ∧ k (pc + 1) ls st B (setI σ a i.toNatClampNeg x) | _ => False)
    | .bastore => (match st with | .int x :: .int i :: .ref a :: st => (sK σ a = 16 ∧ vp_in i (sZ σ a) ∧ (x = 0 ∨ x = 1)) ∧ k (pc + 1) ls st B (setI σ a i.toNatClampNeg x) | _ => False)
    | .lastore => (match st with | .long x :: .int i :: .ref a :: st => (sK σ a = 15 ∧ vp_in i (sZ σ a)) ∧ k (pc + 1) ls st B (setL σ a i.toNatClampNeg x) | _ => False)
    | .aastore => (match st with
      | .ref x :: .int i :: .ref a :: st => (sK σ a = 17 ∧ vp_in i (sZ σ a) ∧ sK σ x = 8) ∧ k (pc + 1) ls st B (setP σ a i.toNatClampNeg (some x))
      | .null :: .int i :: .ref a :: st => (sK σ a = 17 ∧ vp_in i (sZ σ a)) ∧ k (pc + 1) ls st B (setP σ a i.toNatClampNeg none)
      | _ => False)
    | .arraylength => (match st with | .ref a :: st => ((14 ≤ sK σ a ∧ sK σ a ≤ 18) ∨ sK σ a = 20 ∨ sK σ a = 21) ∧ k (pc + 1) ls (.int (Int32.ofNat (sZ σ a)) :: st) B σ | _ => False)
    | .newarray ty => (match st with
      | .int n :: st => (¬ n < 0 ∧ n.toNatClampNeg ≤ 100000 ∧ 1 ≤ B.1 ∧ n.toNatClampNeg ≤ B.2) ∧ (match ty with
        | .int => k (pc + 2) ls (.ref (sN σ) :: st) (B.1 - 1, B.2 - n.toNatClampNeg) (newO σ 14 n.toNatClampNeg)
        | .long => k (pc + 2) ls (.ref (sN σ) :: st) (B.1 - 1, B.2 - n.toNatClampNeg) (newO σ 15 n.toNatClampNeg)
        | .boolean => k (pc + 2) ls (.ref (sN σ) :: st) (B.1 - 1, B.2 - n.toNatClampNeg) (newO σ 16 n.toNatClampNeg)
        | _ => False)
      | _ => False)
    | .anewarray _ => (match st with
      | .int n :: st => (¬ n < 0 ∧ n.toNatClampNeg ≤ 100000 ∧ 1 ≤ B.1 ∧ n.toNatClampNeg ≤ B.2) ∧ k (pc + 3) ls (.ref (sN σ) :: st) (B.1 - 1, B.2 - n.toNatClampNeg) (newO σ 17 n.toNatClampNeg)
      | _ => False)
    | .multianewarray _ _ => (match st with
      | .int m :: .int n :: st => (¬ n < 0 ∧ ¬ m < 0 ∧ n.toNatClampNeg ≤ 100000 ∧ m.toNatClampNeg ≤ 100000 ∧ 1 + n.toNatClampNeg ≤ B.1 ∧ n.toNatClampNeg + n.toNatClampNeg * m.toNatClampNeg ≤ B.2) ∧
          k (pc + 4) ls (.ref (sN σ) :: st) (B.1 - (1 + n.toNatClampNeg), B.2 - (n.toNatClampNeg + n.toNatClampNeg * m.toNatClampNeg)) (newG σ n.toNatClampNeg m.toNatClampNeg)
      | _ => False)
    | .new ix => (match tCL T mt ix with
      | some q => if q < 100 then (1 ≤ B.1 ∧ 32 ≤ B.2) ∧ k (pc + 3) ls (.ref (sN σ) :: st) (B.1 - 1, B.2 - 32) (newO σ (q + 1) 0)
          else (1 ≤ B.1 ∧ 6 ≤ B.2 ∧ 16 ≤ d ∧ (st.map vcat).sum ≤ 8) ∧ Q (.inr (q - 100)) σ
      | none => False)
    | .invokestatic ix => (match tMH T mt ix with
      | some (m2, ck) => if ck = 6 then (match st with
          | .int n :: .int dp :: .ref a :: .int sp :: .ref b :: st => (sK σ a = 14 ∧ sK σ b = 14 ∧ ¬ sp < 0 ∧ ¬ dp < 0 ∧ ¬ n < 0 ∧ sp.toNatClampNeg + n.toNatClampNeg ≤ sZ σ b ∧ dp.toNatClampNeg + n.toNatClampNeg ≤ sZ σ a ∧ 2 ≤ d ∧ (st.map vcat).sum ≤ 8) ∧
              k (pc + 3) ls st B (rowI σ a (va_cpy (sI σ b) (sI σ a) sp.toNatClampNeg dp.toNatClampNeg n.toNatClampNeg))
          | _ => False)
        else if 10 ≤ ck then wmath k d B pc ls st σ ck else (ck = 1 ∨ ck = 4) ∧ wcall T k call B mt pc ls st σ Q m2 ck
      | none => False)
    | .invokevirtual ix => (match tMH T mt ix with
      | some (m2, ck) => if ck = 8 then (match st with
          | .ref a :: st => (sK σ a = 14 ∧ 1 ≤ B.1 ∧ sZ σ a ≤ B.2 ∧ 2 ≤ d ∧ (st.map vcat).sum ≤ 8) ∧ k (pc + 3) ls (.ref (sN σ) :: st) (B.1 - 1, B.2 - sZ σ a) (rowI (newO σ 14 (sZ σ a)) (sN σ) (sI σ a))
          | _ => False)
        else ck = 0 ∧ wcall T k call B mt pc ls st σ Q m2 ck
      | none => False)
    | .checkcast _ => (match st with | .ref a :: st => sK σ a = 14 ∧ k (pc + 3) ls (.ref a :: st) B σ | _ => False)
    | .invokespecial ix => (match tMH T mt ix with
      | some (m2, ck) => if ck = 7 then (match st with | .ref _ :: st => (2 ≤ d ∧ (st.map vcat).sum ≤ 8) ∧ k (pc + 3) ls st B σ | _ => False) else (ck = 2 ∨ ck = 5) ∧ wcall T k call B mt pc ls st σ Q m2 ck
      | none => False)
    | .ireturn => (match st with | [.int x] => (∃ ty, tRT T mt = some ty ∧ narrow ty (.int x) = .int x) ∧ Q (.inl (some (.int x))) σ | _ => False)
    | .lreturn => (match st with | [.long x] => Q (.inl (some (.long x))) σ | _ => False)
    | .areturn => (match st with | [.ref x] => Q (.inl (some (.ref x))) σ | _ => False)
    | .return_ => (match st with | [] => Q (.inl none) σ | _ => False)
    | _ => False
