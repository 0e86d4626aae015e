/-! ===== the day's numbers: a memory mv as the reference lays it, and what is reckoned out of it ===== -/
abbrev Mem : Type := Nat → Nat
def RMm (σ : Sto) (x0 : Nat) (mv : Mem) : Prop := ∀ k, k < 4488 → sI σ (x0 + 1) k = J (mv k)
/-- how many of the first n calls are of place p -/
def cntC (cp : Mem) (p : Nat) : Nat → Nat
  | 0 => 0
  | n + 1 => cntC cp p n + (if cp n = p then 1 else 0)
abbrev cntP (mv : Mem) (p : Nat) : Nat → Nat := cntC (fun i => mv (2788 + 2 * i)) p
def VG (mv : Mem) : Prop :=
  (mv 0 ≤ 12 ∧ mv 1 ≤ 4 ∧ mv 2 ≤ 8 ∧ mv 3 ≤ 12 ∧ 1 ≤ mv 9 ∧ mv 9 ≤ 9999 ∧ mv 10 ≤ 999999 ∧ mv 11 ≤ 9999 ∧ mv 12 ≤ 95) ∧
  (∀ q, q < 96 → mv (20 + q) ≤ 9999 ∧ mv (116 + q) ≤ 9 ∧ mv (212 + q) ≤ 99) ∧
  (∀ g, g < mv 1 → 1 ≤ mv (308 + 7 * g) ∧ mv (308 + 7 * g) ≤ 6 ∧ ∀ s, 1 ≤ s → s ≤ mv (308 + 7 * g) → mv (308 + 7 * g + s) ≤ 9999) ∧
  (∀ r, r < mv 2 → 1 ≤ mv (336 + 5 * r) ∧ mv (336 + 5 * r) ≤ 999 ∧ mv (336 + 5 * r + 1) ≤ 100 ∧ mv (336 + 5 * r + 2) ≤ 100 ∧ mv (336 + 5 * r + 3) ≤ 999 ∧ mv (336 + 5 * r + 4) ≤ 99) ∧
  (∀ p, p < mv 3 → mv (376 + 4 * p) < mv 2 ∧ mv (376 + 4 * p + 1) ≤ 999 ∧ mv (376 + 4 * p + 2) ≤ 12 ∧ mv (376 + 4 * p + 3) ≤ 999)
def VOo (mv : Mem) : Prop :=
  (mv 4 ≤ 6 ∧ mv 5 ≤ 10 ∧ mv 6 ≤ 24 ∧ mv 7 ≤ 4 ∧ mv 8 ≤ 16 ∧ mv 13 ≤ 9999 ∧ mv 14 ≤ 1000 ∧ mv 15 ≤ 999 ∧ mv 16 ≤ 99999) ∧
  (∀ o, o < mv 4 → ∀ k, k < 384 → mv (424 + 384 * o + k) ≤ 6) ∧
  (∀ k, k < mv 5 → mv (2728 + 6 * k) < mv 3 ∧ mv (2728 + 6 * k + 1) ≤ mv (2728 + 6 * k + 2) ∧ mv (2728 + 6 * k + 2) ≤ 95 ∧ mv (2728 + 6 * k + 3) ≤ 100 ∧ mv (2728 + 6 * k + 4) ≤ 95 ∧ 1 ≤ mv (2728 + 6 * k + 5) ∧ mv (2728 + 6 * k + 5) ≤ 99) ∧
  (∀ c, c < mv 6 → mv (2788 + 2 * c) < mv 3 ∧ mv (2788 + 2 * c + 1) ≤ 95) ∧ (∀ p, cntP mv p (mv 6) ≤ 4) ∧
  (∀ l, l < mv 8 → mv (2836 + 3 * l) < mv 3 ∧ mv (2836 + 3 * l + 1) ≤ 95 ∧ mv (2836 + 3 * l + 2) ≤ 1)
theorem VG.s {mv : Mem} (h : VG mv) : mv 0 ≤ 12 ∧ mv 1 ≤ 4 ∧ mv 2 ≤ 8 ∧ mv 3 ≤ 12 ∧ 1 ≤ mv 9 ∧ mv 9 ≤ 9999 ∧ mv 10 ≤ 999999 ∧ mv 11 ≤ 9999 ∧ mv 12 ≤ 95 := h.1
theorem VG.q {mv : Mem} (h : VG mv) {q : Nat} (hq : q < 96) : mv (20 + q) ≤ 9999 ∧ mv (116 + q) ≤ 9 ∧ mv (212 + q) ≤ 99 := h.2.1 q hq
theorem VG.g {mv : Mem} (h : VG mv) {g : Nat} (hg : g < mv 1) : 1 ≤ mv (308 + 7 * g) ∧ mv (308 + 7 * g) ≤ 6 ∧ ∀ s, 1 ≤ s → s ≤ mv (308 + 7 * g) → mv (308 + 7 * g + s) ≤ 9999 := h.2.2.1 g hg
theorem VG.r {mv : Mem} (h : VG mv) {r : Nat} (hr : r < mv 2) : 1 ≤ mv (336 + 5 * r) ∧ mv (336 + 5 * r) ≤ 999 ∧ mv (336 + 5 * r + 1) ≤ 100 ∧ mv (336 + 5 * r + 2) ≤ 100 ∧ mv (336 + 5 * r + 3) ≤ 999 ∧ mv (336 + 5 * r + 4) ≤ 99 := h.2.2.2.1 r hr
theorem VG.p {mv : Mem} (h : VG mv) {p : Nat} (hp : p < mv 3) : mv (376 + 4 * p) < mv 2 ∧ mv (376 + 4 * p + 1) ≤ 999 ∧ mv (376 + 4 * p + 2) ≤ 12 ∧ mv (376 + 4 * p + 3) ≤ 999 := h.2.2.2.2 p hp
/-- a gate's flow at a step -/
def flwG (mv : Mem) (g s : Nat) : Nat := if s = 0 then 0 else mv (308 + 7 * g + (if s ≤ mv (308 + 7 * g) then s else mv (308 + 7 * g)))
theorem flw_le {mv : Mem} (hv : VG mv) {g s : Nat} (hg : g < mv 1) : flwG mv g s ≤ 9999 := by
  have h := hv.g hg
  unfold flwG
  split
  · omega
  · split
    · exact h.2.2 s (by omega) (by assumption)
    · exact h.2.2 _ h.1 (Nat.le_refl _)
/-- the level ahead of the day -/
def lv0 (mv : Mem) : Nat := mv 10 / mv 9
theorem lv0_le (mv : Mem) : lv0 mv ≤ mv 10 := Nat.div_le_self _ _
/-- what a gate wants of the lake -/
def wnt (mv : Mem) (st : Mem) (q : Nat) (lake : Int32) (g : Nat) : Int64 := if lv0 mv = 0 then Int64.ofInt 0 else (J (flwG mv g (st (96 * g + q)))).toInt64 * (lake / J (mv 9)).toInt64 / (J (lv0 mv)).toInt64
/-- what is left of it behind g gates -/
def lft (mv : Mem) (st : Mem) (q : Nat) (lake : Int32) : Nat → Int32
  | 0 => lake
  | g + 1 => lft mv st q lake g - (if lg_cmp (wnt mv st q lake g) (lft mv st q lake g).toInt64 ≤ J 0 then (wnt mv st q lake g).toInt32 else lft mv st q lake g)
def lkF (mv : Mem) (st : Mem) : Nat → Int32
  | 0 => J (mv 10)
  | q + 1 => lft mv st q (lkF mv st q) (mv 1) + J (mv (20 + q))
def ltF (mv : Mem) (st : Mem) (q : Nat) : Int32 := lkF mv st q - lft mv st q (lkF mv st q) (mv 1)
/-- what flows out of a reach, by the water w ahead -/
def outF (mv : Mem) (w : Nat → Int32) (r : Nat) : Int32 := w r * J (mv (336 + 5 * r + (if w r / J (mv (336 + 5 * r)) < J (mv (336 + 5 * r + 3)) then 1 else 2))) / J 100
def comF (mv : Mem) (w : Nat → Int32) (l : Int32) : Nat → Int32
  | 0 => l
  | r + 1 => outF mv w r
def rcF (mv : Mem) (st : Mem) (more : Nat) : Nat → Nat → Int32
  | 0 => fun _ => J 0
  | q + 1 => fun r => rcF mv st more q r - outF mv (rcF mv st more q) r + comF mv (rcF mv st more q) (ltF mv st q) r + J (mv (336 + 5 * r + 4)) * J (mv (116 + q) + more)
def gnF (mv : Mem) (st : Mem) (more : Nat) : Nat → Int32
  | 0 => J 0
  | q + 1 => gnF mv st more q + comF mv (rcF mv st more q) (ltF mv st q) (mv 2)
def dpF (mv : Mem) (st : Mem) (more : Nat) (q r : Nat) : Int32 := rcF mv st more q r / J (mv (336 + 5 * r))
/-! the past of a flood asks for the steps of the past alone -/
theorem lft_congr {mv st st' : Mem} {q : Nat} {lake : Int32} : ∀ n, (∀ g, g < n → st (96 * g + q) = st' (96 * g + q)) → lft mv st q lake n = lft mv st' q lake n := by
  intro n
  induction n with
  | zero => intro _; rfl
  | succ n ih =>
    intro h
    have h1 := ih (fun g hg => h g (by omega))
    have h2 : wnt mv st q lake n = wnt mv st' q lake n := by unfold wnt; rw [h n (by omega)]
    unfold lft
    rw [h1, h2]
theorem lkF_congr {mv st st' : Mem} : ∀ n, (∀ g q, g < mv 1 → q < n → st (96 * g + q) = st' (96 * g + q)) → lkF mv st n = lkF mv st' n := by
  intro n
  induction n with
  | zero => intro _; rfl
  | succ n ih =>
    intro h
    have h1 := ih (fun g q hg hq => h g q hg (by omega))
    unfold lkF
    rw [h1, lft_congr (mv 1) (fun g hg => h g n hg (by omega))]
theorem ltF_congr {mv st st' : Mem} {n : Nat} (h : ∀ g q, g < mv 1 → q < n + 1 → st (96 * g + q) = st' (96 * g + q)) : ltF mv st n = ltF mv st' n := by
  unfold ltF
  rw [lkF_congr n (fun g q hg hq => h g q hg (by omega)), lft_congr (mv 1) (fun g hg => h g n hg (by omega))]
theorem rcF_congr {mv st st' : Mem} {more : Nat} : ∀ n, (∀ g q, g < mv 1 → q < n → st (96 * g + q) = st' (96 * g + q)) → rcF mv st more n = rcF mv st' more n := by
  intro n
  induction n with
  | zero => intro _; rfl
  | succ n ih =>
    intro h
    have h1 := ih (fun g q hg hq => h g q hg (by omega))
    have h2 := ltF_congr (mv := mv) (n := n) h
    funext r
    unfold rcF
    rw [h1, h2]
theorem gnF_congr {mv st st' : Mem} {more : Nat} : ∀ n, (∀ g q, g < mv 1 → q < n → st (96 * g + q) = st' (96 * g + q)) → gnF mv st more n = gnF mv st' more n := by
  intro n
  induction n with
  | zero => intro _; rfl
  | succ n ih =>
    intro h
    have h1 := ih (fun g q hg hq => h g q hg (by omega))
    unfold gnF
    rw [h1, rcF_congr n (fun g q hg hq => h g q hg (by omega)), ltF_congr h]
