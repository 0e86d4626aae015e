/-! ===== warden: the orders, one after another ===== -/
variable {v i j k t : Nat} {o s : Mem} {l : List Nat}
/-- the numbers below p that b tells, as they rise -/
def gth (b : Nat → Bool) : Nat → List Nat
  | 0 => []
  | p + 1 => if b p = true then gth b p ++ [p] else gth b p
def sw (o : Mem) (i j : Nat) : Mem := fun k => if k = j then o i else if k = i then o j else o k
def lowF (o : Mem) : Nat → Option Nat
  | 0 => none
  | k + 1 => if o k ≤ o (k + 1) then some k else lowF o k
def highF (o : Mem) (low : Nat) : Nat → Nat
  | 0 => 0
  | h + 1 => if h + 1 ≤ low + 1 ∨ o low ≤ o (h + 1) then h + 1 else highF o low h
def revF : Nat → Mem → Nat → Nat → Mem
  | 0, o, _, _ => o
  | t + 1, o, i, j => if j ≤ i then o else revF t (sw o i j) (i + 1) (j - 1)
/-- the next order of v, by numbers -/
def nxtF (v : Nat) (o : Mem) : Option Mem := match lowF o (v - 1) with
  | none => none
  | some low => some (revF v (sw o low (highF o low (v - 1))) (low + 1) (v - 1))
def lO (l : List Nat) : Mem := fun k => l.getD k 0
def nxtL (v : Nat) (l : List Nat) : Option (List Nat) := (nxtF v (lO l)).map (fun o => (List.range v).map o)
def okL (v : Nat) (l : List Nat) : Bool := (List.range v).all (fun k => decide (l.getD k 0 < v) && (List.range k).all (fun i => !decide (l.getD i 0 = l.getD k 0)))
/-- the orders from l on are no more than t + 1 -/
def chk (v : Nat) : Nat → List Nat → Bool
  | 0, l => okL v l && (nxtL v l).isNone
  | t + 1, l => okL v l && (match nxtL v l with | none => true | some l' => chk v t l')
theorem chk_all : ∀ v, v < 7 → chk v 719 (List.range v) = true := by decide +kernel
