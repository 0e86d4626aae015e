/-! ===== texts: how they are read ===== -/
/-- where a run of such bytes that begins at p ends -/
def runE (b : Nat → Bool) (n p : Nat) : Nat := match fstB (fun q => !b q) p (n - p) with
  | none => p + (n - p)
  | some q => q
def skp (tx : Mem) (n p : Nat) : Nat := runE (fun q => decide (tx q = 32)) n p
def isD (tx : Mem) (q : Nat) : Bool := decide (48 ≤ tx q) && decide (tx q ≤ 57)
def isL (tx : Mem) (q : Nat) : Bool := decide (97 ≤ tx q) && decide (tx q ≤ 122)
def dgE (tx : Mem) (n p : Nat) : Nat := runE (isD tx) n p
def ltE (tx : Mem) (n p : Nat) : Nat := runE (isL tx) n p
def numV (tx : Mem) (p : Nat) : Nat → Nat
  | 0 => 0
  | k + 1 => 10 * numV tx p k + (tx (p + k) - 48)
abbrev Rs (α : Type) : Type := Nat ⊕ (α × Nat)
def bnd {α β : Type} (r : Rs α) (k : α → Nat → Rs β) : Rs β := match r with
  | .inl f => .inl f
  | .inr (a, p) => k a p
/-- the word w stands at p -/
def isW (tx : Mem) (n p : Nat) (w : List Nat) : Bool := decide (ltE tx n p - p = w.length) && (fstB (fun i => !decide (tx (p + i) = w.getD i 0)) 0 w.length).isNone
def isS (tx : Mem) (n p c : Nat) : Bool := decide (p < n) && decide (tx p = c)
def aftW (tx : Mem) (n p : Nat) : Nat := skp tx n (ltE tx n p)
def aftS (tx : Mem) (n p : Nat) : Nat := skp tx n (p + 1)
/-- a number from lo to below hi1 -/
def tN (tx : Mem) (n lo hi1 p : Nat) : Rs Nat := if dgE tx n p = p ∨ p + 6 < dgE tx n p ∨ numV tx p (dgE tx n p - p) < lo ∨ hi1 ≤ numV tx p (dgE tx n p - p) then .inl p else .inr (numV tx p (dgE tx n p - p), skp tx n (dgE tx n p))
/-! a line of the gorge -/
def fillM (mv : Mem) (from_ a b v : Nat) : Mem := fun k => if from_ + a ≤ k ∧ k ≤ from_ + b then v else mv k
def gSpan (tx : Mem) (n : Nat) (mv : Mem) (from_ hi1 p : Nat) : Rs Mem := bnd (tN tx n 0 96 p) (fun a p => bnd (tN tx n a 96 p) (fun b p => bnd (tN tx n 0 hi1 p) (fun v p => .inr (fillM mv from_ a b v, p))))
/-- the flows of a gate behind the first k -/
def gNums (tx : Mem) (n : Nat) : Nat → Mem → Nat → Nat → Rs (Mem × Nat)
  | 0, mv, k, p => if p < n ∧ isD tx p = true then .inl p else .inr ((mv, k), p)
  | f + 1, mv, k, p => if p < n ∧ isD tx p = true then bnd (tN tx n 0 10000 p) (fun v p => gNums tx n f (up mv (309 + 7 * mv 1 + k) v) (k + 1) p) else .inr ((mv, k), p)
def gGate (tx : Mem) (n : Nat) (mv : Mem) (p : Nat) : Rs Mem := bnd (tN tx n 0 10000 p) (fun v p => bnd (gNums tx n 5 (up mv (309 + 7 * mv 1) v) 1 p) (fun a p => .inr (up (up a.1 (308 + 7 * a.1 1) a.2) 1 (a.1 1 + 1), p)))
def w_lake : List Nat := [108, 97, 107, 101]
def w_into : List Nat := [105, 110, 116, 111]
def w_rain : List Nat := [114, 97, 105, 110]
def w_price : List Nat := [112, 114, 105, 99, 101]
def w_gate : List Nat := [103, 97, 116, 101]
def w_reach : List Nat := [114, 101, 97, 99, 104]
def w_place : List Nat := [112, 108, 97, 99, 101]
def gLake (tx : Mem) (n : Nat) (mv : Mem) (p : Nat) : Rs Mem := bnd (tN tx n 1 10000 p) (fun a p => bnd (tN tx n 0 1000000 p) (fun b p => bnd (tN tx n 0 10000 p) (fun c p => bnd (tN tx n 0 96 p) (fun e p => .inr (up (up (up (up mv 9 a) 10 b) 11 c) 12 e, p)))))
def gReach (tx : Mem) (n : Nat) (mv : Mem) (p : Nat) : Rs Mem := bnd (tN tx n 1 1000 p) (fun a p => bnd (tN tx n 0 101 p) (fun b p => bnd (tN tx n 0 101 p) (fun c p => bnd (tN tx n 0 1000 p) (fun e p => bnd (tN tx n 0 100 p) (fun h p =>
  .inr (up (up (up (up (up (up mv (336 + 5 * mv 2) a) (336 + 5 * mv 2 + 1) b) (336 + 5 * mv 2 + 2) c) (336 + 5 * mv 2 + 3) e) (336 + 5 * mv 2 + 4) h) 2 (mv 2 + 1), p))))))
def gPlace (tx : Mem) (n : Nat) (mv : Mem) (p : Nat) : Rs Mem := bnd (tN tx n 0 (mv 2) p) (fun a p => bnd (tN tx n 0 1000 p) (fun b p => bnd (tN tx n 0 13 p) (fun c p => bnd (tN tx n 0 1000 p) (fun e p =>
  .inr (up (up (up (up (up mv (376 + 4 * mv 3) a) (376 + 4 * mv 3 + 1) b) (376 + 4 * mv 3 + 2) c) (376 + 4 * mv 3 + 3) e) 3 (mv 3 + 1), p)))))
def gLine (tx : Mem) (n : Nat) (mv : Mem) (p : Nat) : Rs Mem :=
  if isW tx n p w_lake = true then gLake tx n mv (aftW tx n p)
  else if isW tx n p w_into = true then gSpan tx n mv 20 10000 (aftW tx n p)
  else if isW tx n p w_rain = true then gSpan tx n mv 116 10 (aftW tx n p)
  else if isW tx n p w_price = true then gSpan tx n mv 212 100 (aftW tx n p)
  else if isW tx n p w_gate = true then (if mv 1 = 4 then .inl p else gGate tx n mv (aftW tx n p))
  else if isW tx n p w_reach = true then (if mv 2 = 8 then .inl p else gReach tx n mv (aftW tx n p))
  else if isW tx n p w_place = true then (if mv 3 = 12 then .inl p else gPlace tx n mv (aftW tx n p))
  else .inl p
/-- lines: at most f of them from p on -/
def gLs {α : Type} (tx : Mem) (n : Nat) (line : α → Nat → Rs α) : Nat → α → Nat → Rs α
  | 0, _, p => .inl p
  | f + 1, a, p => bnd (line a p) (fun a p => if p = n then .inr (a, p) else if isS tx n p 59 = true then gLs tx n line f a (aftS tx n p) else .inl p)
def gAll {α : Type} (tx : Mem) (n : Nat) (line : α → Nat → Rs α) (a : α) : Rs α := if skp tx n 0 = n then .inr (a, n) else gLs tx n line 12 a (skp tx n 0)
/-! a rule: parts stand behind what they join; a part is (kind, of) -/
abbrev Env : Type := Nat → Nat → Int32
abbrev CVl : Type := List (Nat × Nat) × (Env → Int32)
def w_level : List Nat := [108, 101, 118, 101, 108]
def w_goal : List Nat := [103, 111, 97, 108]
def w_quarter : List Nat := [113, 117, 97, 114, 116, 101, 114]
def w_depth : List Nat := [100, 101, 112, 116, 104]
def w_wet : List Nat := [119, 101, 116]
def w_not : List Nat := [110, 111, 116]
def w_and : List Nat := [97, 110, 100]
def w_or : List Nat := [111, 114]
def w_open : List Nat := [111, 112, 101, 110]
def w_shut : List Nat := [115, 104, 117, 116]
def w_if : List Nat := [105, 102]
def rPart (tx : Mem) (n p : Nat) : Rs (Nat × Nat) :=
  if isW tx n p w_level = true then .inr ((1, 0), aftW tx n p)
  else if isW tx n p w_goal = true then .inr ((2, 0), aftW tx n p)
  else if isW tx n p w_quarter = true then .inr ((3, 0), aftW tx n p)
  else if isW tx n p w_rain = true then .inr ((4, 0), aftW tx n p)
  else if isW tx n p w_depth = true then bnd (tN tx n 0 8 (aftW tx n p)) (fun a p => .inr ((5, a), p))
  else if isW tx n p w_gate = true then bnd (tN tx n 0 4 (aftW tx n p)) (fun a p => .inr ((6, a), p))
  else bnd (tN tx n 0 1000000 p) (fun a p => .inr ((0, a), p))
def rSumL (tx : Mem) (n : Nat) : Nat → CVl → Nat → Rs CVl
  | 0, _, p => .inl p
  | f + 1, a, p => if isS tx n p 43 = true then bnd (rPart tx n (aftS tx n p)) (fun b p => rSumL tx n f (a.1 ++ [b, (9, 0)], fun e => a.2 e + e b.1 b.2) p) else .inr (a, p)
def rSum (tx : Mem) (n p : Nat) : Rs CVl := bnd (rPart tx n p) (fun b p => rSumL tx n 401 ([b], fun e => e b.1 b.2) p)
def rCmp (tx : Mem) (n p : Nat) : Rs CVl := bnd (rSum tx n p) (fun a p =>
  if isS tx n p 60 = true then bnd (rSum tx n (aftS tx n p)) (fun b p => .inr ((a.1 ++ b.1 ++ [(10, 0)], fun e => if a.2 e < b.2 e then J 1 else J 0), p))
  else if isS tx n p 62 = true then bnd (rSum tx n (aftS tx n p)) (fun b p => .inr ((a.1 ++ b.1 ++ [(11, 0)], fun e => if b.2 e < a.2 e then J 1 else J 0), p))
  else .inl p)
def rPlain (tx : Mem) (n p : Nat) : Rs CVl := if isW tx n p w_wet = true then bnd (tN tx n 0 12 (aftW tx n p)) (fun a p => .inr (([(7, a)], fun e => e 7 a), p)) else rCmp tx n p
def rEvL (tx : Mem) (n : Nat) (atom : Nat → Rs CVl) : Nat → CVl → Nat → Rs CVl
  | 0, _, p => .inl p
  | f + 1, a, p => if isW tx n p w_and = true then bnd (atom (aftW tx n p)) (fun b p => rEvL tx n atom f (a.1 ++ b.1 ++ [(12, 0)], fun e => a.2 e &&& b.2 e) p) else .inr (a, p)
def rEv (tx : Mem) (n : Nat) (atom : Nat → Rs CVl) (p : Nat) : Rs CVl := bnd (atom p) (fun a p => rEvL tx n atom 401 a p)
def rSoL (tx : Mem) (n : Nat) (atom : Nat → Rs CVl) : Nat → CVl → Nat → Rs CVl
  | 0, _, p => .inl p
  | f + 1, a, p => if isW tx n p w_or = true then bnd (rEv tx n atom (aftW tx n p)) (fun b p => rSoL tx n atom f (a.1 ++ b.1 ++ [(13, 0)], fun e => a.2 e ||| b.2 e) p) else .inr (a, p)
def rAny (tx : Mem) (n : Nat) (atom : Nat → Rs CVl) (p : Nat) : Rs CVl := bnd (rEv tx n atom p) (fun a p => rSoL tx n atom 401 a p)
/-- k: how much deeper it may go -/
def rAtom (tx : Mem) (n : Nat) : Nat → Nat → Rs CVl
  | 0, p => if isW tx n p w_not = true ∨ isS tx n p 40 = true then .inl p else rPlain tx n p
  | k + 1, p => if isW tx n p w_not = true then bnd (rAtom tx n k (aftW tx n p)) (fun a p => .inr ((a.1 ++ [(8, 0)], fun e => J 1 - a.2 e), p))
    else if isS tx n p 40 = true then bnd (rAny tx n (rAtom tx n k) (aftS tx n p)) (fun a p => if isS tx n p 41 = true then .inr (a, aftS tx n p) else .inl p)
    else rPlain tx n p
/-- a line: gate, step, condition -/
abbrev RLn : Type := Nat × Nat × CVl
def rLine (tx : Mem) (n : Nat) (l : List RLn) (p : Nat) : Rs (List RLn) :=
  if isW tx n p w_open = true ∨ isW tx n p w_shut = true then
    bnd (tN tx n 0 4 (aftW tx n p)) (fun g p1 => bnd (if isW tx n p w_open = true then tN tx n 1 7 p1 else .inr (0, p1)) (fun s p2 =>
      if isW tx n p2 w_if = true then bnd (rAny tx n (rAtom tx n 6) (aftW tx n p2)) (fun a p3 => .inr (l ++ [(g, s, a)], p3)) else .inr (l ++ [(g, s, [], fun _ => J 1)], p2)))
  else .inl p
def rAll (tx : Mem) (n : Nat) : Rs (List RLn) := gAll tx n (rLine tx n) []
def gTell (tx : Mem) (n : Nat) (mv : Mem) : Rs Mem := gAll tx n (gLine tx n) mv
/-- the step that the first line of gate g says whose condition holds -/
def saysR (e : Env) (g : Nat) : List RLn → Option Nat
  | [] => none
  | l :: r => if l.1 = g ∧ ¬ l.2.2.2 e = J 0 then some l.2.1 else saysR e g r
