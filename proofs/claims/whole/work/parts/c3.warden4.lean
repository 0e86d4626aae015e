/-! ===== warden: orders and walks ===== -/
variable {d : Nat} {B : Nat × Nat} {Q : Out → Sto → Prop} {P : Nat → Nat → Prop} {σ τ : Sto} {v i j k t p q : Nat} {o s mv π : Mem} {l : List Nat}
/-! the same step on numbers that rise alike -/
def Ris (v : Nat) (s : Mem) : Prop := ∀ i j, i < v → j < v → (s i ≤ s j ↔ i ≤ j)
def Bel (v : Nat) (π : Mem) : Prop := ∀ k, k < v → π k < v
theorem lowF_e (hs : Ris v s) (hb : Bel v π) : ∀ k, k < v → lowF (fun k => s (π k)) k = lowF π k := by
  intro k
  induction k with
  | zero => intro _; rfl
  | succ k ih =>
    intro hk
    show (if s (π k) ≤ s (π (k + 1)) then some k else lowF (fun k => s (π k)) k) = if π k ≤ π (k + 1) then some k else lowF π k
    rw [ih (by omega)]
    have := hs (π k) (π (k + 1)) (hb k (by omega)) (hb (k + 1) hk)
    by_cases c : π k ≤ π (k + 1)
    · rw [if_pos c, if_pos (this.mpr c)]
    · rw [if_neg c, if_neg (fun e => c (this.mp e))]
theorem lowF_lt : ∀ k low, lowF o k = some low → low < k ∧ o low ≤ o (low + 1) := by
  intro k
  induction k with
  | zero => intro low h; cases h
  | succ k ih =>
    intro low h
    have h : (if o k ≤ o (k + 1) then some k else lowF o k) = some low := h
    split at h
    · rename_i c; cases h; exact ⟨by omega, c⟩
    · have := ih low h; exact ⟨by omega, this.2⟩
theorem highF_e (hs : Ris v s) (hb : Bel v π) {low : Nat} (hl : low < v) : ∀ h, h < v → highF (fun k => s (π k)) low h = highF π low h := by
  intro h
  induction h with
  | zero => intro _; rfl
  | succ h ih =>
    intro hk
    show (if h + 1 ≤ low + 1 ∨ s (π low) ≤ s (π (h + 1)) then h + 1 else highF (fun k => s (π k)) low h) = if h + 1 ≤ low + 1 ∨ π low ≤ π (h + 1) then h + 1 else highF π low h
    rw [ih (by omega)]
    have := hs (π low) (π (h + 1)) (hb low hl) (hb (h + 1) hk)
    by_cases c : h + 1 ≤ low + 1 ∨ π low ≤ π (h + 1)
    · rw [if_pos c, if_pos (by rw [this]; exact c)]
    · rw [if_neg c, if_neg (by rw [this]; exact c)]
theorem highF_b {low : Nat} : ∀ h, highF o low h ≤ h := by
  intro h
  induction h with
  | zero => exact Nat.le_refl _
  | succ h ih =>
    show (if h + 1 ≤ low + 1 ∨ o low ≤ o (h + 1) then h + 1 else highF o low h) ≤ _
    split
    · exact Nat.le_refl _
    · omega
theorem sw_e : sw (fun k => s (π k)) i j = fun k => s (sw π i j k) := by
  funext k
  unfold sw
  by_cases c : k = j
  · rw [if_pos c, if_pos c]
  · rw [if_neg c, if_neg c]
    by_cases c2 : k = i
    · rw [if_pos c2, if_pos c2]
    · rw [if_neg c2, if_neg c2]
theorem sw_b (hb : Bel v π) (hi : i < v) (hj : j < v) : Bel v (sw π i j) := by
  intro k hk
  unfold sw
  by_cases c : k = j
  · rw [if_pos c]; exact hb i hi
  · rw [if_neg c]
    by_cases c2 : k = i
    · rw [if_pos c2]; exact hb j hj
    · rw [if_neg c2]; exact hb k hk
theorem revF_e : ∀ t π i j, revF t (fun k => s (π k)) i j = fun k => s (revF t π i j k) := by
  intro t
  induction t with
  | zero => intro π i j; rfl
  | succ t ih =>
    intro π i j
    show (if j ≤ i then (fun k => s (π k)) else revF t (sw (fun k => s (π k)) i j) (i + 1) (j - 1)) = fun k => s ((if j ≤ i then π else revF t (sw π i j) (i + 1) (j - 1)) k)
    by_cases c : j ≤ i
    · rw [if_pos c]; funext k; rw [if_pos c]
    · rw [if_neg c, sw_e, ih]; funext k; rw [if_neg c]
theorem nxtF_e (hs : Ris v s) (hb : Bel v π) (hv : 0 < v) : nxtF v (fun k => s (π k)) = (nxtF v π).map (fun o k => s (o k)) := by
  unfold nxtF
  rw [lowF_e hs hb (v - 1) (by omega)]
  cases e : lowF π (v - 1) with
  | none => rfl
  | some low =>
    have := lowF_lt _ _ e
    show some (revF v (sw (fun k => s (π k)) low (highF (fun k => s (π k)) low (v - 1))) (low + 1) (v - 1)) = some _
    rw [highF_e hs hb (by omega) (v - 1) (by omega), sw_e, revF_e]
/-- the machines' arrays: v cells -/
def ARR (σ : Sto) (a v : Nat) (o : Mem) : Prop := ∀ k, k < v → sI σ a k = J (o k)
/-- only the first v numbers matter -/
def Ag (v : Nat) (o o' : Mem) : Prop := ∀ k, k < v → o k = o' k
theorem ok_b (h : okL v l = true) : Bel v (lO l) ∧ ∀ i j, i < v → j < v → lO l i = lO l j → i = j := by
  unfold okL at h
  rw [List.all_eq_true] at h
  have hh : ∀ k, k < v → lO l k < v ∧ ∀ i, i < k → lO l i ≠ lO l k := fun k hk => by
    have := h k (List.mem_range.mpr hk)
    rw [Bool.and_eq_true, List.all_eq_true] at this
    refine ⟨of_decide_eq_true this.1, fun i hi e => ?_⟩
    have := this.2 i (List.mem_range.mpr hi)
    rw [decide_eq_true (show l.getD i 0 = l.getD k 0 from e)] at this
    exact absurd this (by decide)
  refine ⟨fun k hk => (hh k hk).1, fun i j hi hj e => ?_⟩
  apply Classical.byContradiction
  intro c
  rcases Nat.lt_or_gt_of_ne c with c | c
  · exact (hh j hj).2 i c e
  · exact (hh i hi).2 j c e.symm
theorem nxtL_e {l' : List Nat} (h : nxtL v l = some l') : ∃ o, nxtF v (lO l) = some o ∧ Ag v (lO l') o := by
  unfold nxtL at h
  cases e : nxtF v (lO l) with
  | none => rw [e] at h; cases h
  | some o =>
    rw [e] at h
    have h : some ((List.range v).map o) = some l' := h
    cases h
    refine ⟨o, rfl, fun k hk => ?_⟩
    unfold lO
    rw [List.getD_eq_getElem?_getD, List.getElem?_map, List.getElem?_range hk]; rfl
theorem nxtL_n (h : nxtL v l = none) : nxtF v (lO l) = none := by
  unfold nxtL at h
  cases e : nxtF v (lO l) with
  | none => rfl
  | some o => rw [e] at h; cases h
/-! the walk -/
def gapN (a b : Nat) : Nat := if a ≤ b then b - a else a - b
def wkA (mv o : Mem) (r0 : Nat) : Nat → Nat
  | 0 => r0
  | i + 1 => mv (376 + 4 * o i)
def wkQ (mv o : Mem) (r0 q0 pc : Nat) : Nat → Nat
  | 0 => q0
  | i + 1 => wkQ mv o r0 q0 pc i + pc * gapN (wkA mv o r0 i) (mv (376 + 4 * o i))
/-- at the i-th visit it calls -/
abbrev wkH (mv o : Mem) (r0 q0 pc i : Nat) : Prop := wkQ mv o r0 q0 pc (i + 1) < 96 ∧ cntP mv (o i) (mv 6) < 4
def wkC (mv o : Mem) (r0 q0 pc : Nat) : Nat → Nat → Option Nat
  | 0 => fun _ => none
  | i + 1 => if wkH mv o r0 q0 pc i then (fun p => if p = o i then some (wkQ mv o r0 q0 pc (i + 1)) else wkC mv o r0 q0 pc i p) else wkC mv o r0 q0 pc i
/-- the longer list of calls: how many, in which places, when -/
def wkN (mv o : Mem) (r0 q0 pc : Nat) : Nat → Nat
  | 0 => mv 6
  | i + 1 => if wkH mv o r0 q0 pc i then wkN mv o r0 q0 pc i + 1 else wkN mv o r0 q0 pc i
def wkP (mv o : Mem) (r0 q0 pc : Nat) : Nat → Mem
  | 0 => cpM mv
  | i + 1 => if wkH mv o r0 q0 pc i then up (wkP mv o r0 q0 pc i) (wkN mv o r0 q0 pc i) (o i) else wkP mv o r0 q0 pc i
def wkT (mv o : Mem) (r0 q0 pc : Nat) : Nat → Mem
  | 0 => caM mv
  | i + 1 => if wkH mv o r0 q0 pc i then up (wkT mv o r0 q0 pc i) (wkN mv o r0 q0 pc i) (wkQ mv o r0 q0 pc (i + 1)) else wkT mv o r0 q0 pc i
variable {r0 q0 pc : Nat}
theorem wkQ_b (hv : VG mv) (ho : ∀ k, k < v → o k < mv 3) (hr : r0 < mv 2) (hp : pc ≤ 9) : ∀ i, i ≤ v → wkQ mv o r0 q0 pc i ≤ q0 + 63 * i ∧ wkA mv o r0 i < 8 := by
  have hs := hv.s
  intro i
  induction i with
  | zero => intro _; exact ⟨Nat.le_refl _, by show r0 < 8; omega⟩
  | succ i ih =>
    intro hi
    have ih := ih (by omega)
    have hp2 := hv.p (ho i (by omega))
    have h1 : gapN (wkA mv o r0 i) (mv (376 + 4 * o i)) ≤ 7 := by unfold gapN; split <;> omega
    have h2 : pc * gapN (wkA mv o r0 i) (mv (376 + 4 * o i)) ≤ 9 * 7 := Nat.mul_le_mul hp h1
    refine ⟨?_, by show mv (376 + 4 * o i) < 8; omega⟩
    show wkQ mv o r0 q0 pc i + pc * gapN (wkA mv o r0 i) (mv (376 + 4 * o i)) ≤ _
    omega
theorem wkN_b : ∀ i, wkN mv o r0 q0 pc i ≤ mv 6 + i ∧ mv 6 ≤ wkN mv o r0 q0 pc i := by
  intro i
  induction i with
  | zero => exact ⟨Nat.le_refl _, Nat.le_refl _⟩
  | succ i ih =>
    show (if wkH mv o r0 q0 pc i then wkN mv o r0 q0 pc i + 1 else wkN mv o r0 q0 pc i) ≤ _ ∧ _ ≤ (if wkH mv o r0 q0 pc i then wkN mv o r0 q0 pc i + 1 else wkN mv o r0 q0 pc i)
    split <;> omega
theorem wkC_b : ∀ i p q, wkC mv o r0 q0 pc i p = some q → q ≤ 95 ∧ cntP mv p (mv 6) < 4 := by
  intro i
  induction i with
  | zero => intro p q h; cases h
  | succ i ih =>
    intro p q h
    have h : (if wkH mv o r0 q0 pc i then (fun p => if p = o i then some (wkQ mv o r0 q0 pc (i + 1)) else wkC mv o r0 q0 pc i p) else wkC mv o r0 q0 pc i) p = some q := h
    by_cases c : wkH mv o r0 q0 pc i
    · rw [if_pos c] at h
      by_cases c2 : p = o i
      · have h : (if p = o i then some (wkQ mv o r0 q0 pc (i + 1)) else wkC mv o r0 q0 pc i p) = some q := h
        rw [if_pos c2] at h
        cases h
        unfold wkH at c
        rw [c2]; exact ⟨by omega, c.2⟩
      · have h : (if p = o i then some (wkQ mv o r0 q0 pc (i + 1)) else wkC mv o r0 q0 pc i p) = some q := h
        rw [if_neg c2] at h; exact ih p q h
    · rw [if_neg c] at h; exact ih p q h
theorem wkC_no : ∀ i p, (∀ j, j < i → o j ≠ p) → wkC mv o r0 q0 pc i p = none := by
  intro i
  induction i with
  | zero => intro p _; rfl
  | succ i ih =>
    intro p h
    have := ih p (fun j hj => h j (by omega))
    show (if wkH mv o r0 q0 pc i then (fun p => if p = o i then some (wkQ mv o r0 q0 pc (i + 1)) else wkC mv o r0 q0 pc i p) else wkC mv o r0 q0 pc i) p = none
    by_cases c : wkH mv o r0 q0 pc i
    · rw [if_pos c]
      show (if p = o i then some (wkQ mv o r0 q0 pc (i + 1)) else wkC mv o r0 q0 pc i p) = none
      rw [if_neg (fun e => h i (by omega) e.symm)]; exact this
    · rw [if_neg c]; exact this
theorem wk_cnt : ∀ i p, (∀ j, j < i → o j ≠ p) → cntC (wkP mv o r0 q0 pc i) p (wkN mv o r0 q0 pc i) = cntP mv p (mv 6) := by
  intro i
  induction i with
  | zero => intro p _; rfl
  | succ i ih =>
    intro p h
    have k := ih p (fun j hj => h j (by omega))
    show cntC (if wkH mv o r0 q0 pc i then up (wkP mv o r0 q0 pc i) (wkN mv o r0 q0 pc i) (o i) else wkP mv o r0 q0 pc i) p (if wkH mv o r0 q0 pc i then wkN mv o r0 q0 pc i + 1 else wkN mv o r0 q0 pc i) = _
    by_cases c : wkH mv o r0 q0 pc i
    · rw [if_pos c, if_pos c]
      show cntC (up (wkP mv o r0 q0 pc i) (wkN mv o r0 q0 pc i) (o i)) p (wkN mv o r0 q0 pc i) + (if up (wkP mv o r0 q0 pc i) (wkN mv o r0 q0 pc i) (o i) (wkN mv o r0 q0 pc i) = p then 1 else 0) = _
      rw [up_eq, if_neg (h i (by omega)), cntC_cong (cp' := wkP mv o r0 q0 pc i) _ (fun a ha => up_lt ha)]; exact k
    · rw [if_neg c, if_neg c]; exact k
theorem mWw_up {ci : Nat → Option Nat} {a q k c : Nat} : mWw mv (fun p => if p = a then some q else ci p) k c = if mv (2728 + 6 * k) = a then (if inT mv k q c = true then 1 else 0) else mWw mv ci k c := by
  unfold mWw
  by_cases e : mv (2728 + 6 * k) = a
  · rw [if_pos e]
    simp only [if_pos e]
  · rw [if_neg e]
    simp only [if_neg e]
theorem wk_cin (hd : ∀ i j, i < v → j < v → o i = o j → i = j) {c : Nat} : ∀ i, i ≤ v → cin mv (wkP mv o r0 q0 pc i) (wkT mv o r0 q0 pc i) k c (wkN mv o r0 q0 pc i) = cin mv (cpM mv) (caM mv) k c (mv 6) + mWw mv (wkC mv o r0 q0 pc i) k c := by
  intro i
  induction i with
  | zero => intro _; rfl
  | succ i ih =>
    intro hi
    have ih := ih (by omega)
    show cin mv (if wkH mv o r0 q0 pc i then up (wkP mv o r0 q0 pc i) (wkN mv o r0 q0 pc i) (o i) else wkP mv o r0 q0 pc i) (if wkH mv o r0 q0 pc i then up (wkT mv o r0 q0 pc i) (wkN mv o r0 q0 pc i) (wkQ mv o r0 q0 pc (i + 1)) else wkT mv o r0 q0 pc i) k c (if wkH mv o r0 q0 pc i then wkN mv o r0 q0 pc i + 1 else wkN mv o r0 q0 pc i) = _ + mWw mv (if wkH mv o r0 q0 pc i then (fun p => if p = o i then some (wkQ mv o r0 q0 pc (i + 1)) else wkC mv o r0 q0 pc i p) else wkC mv o r0 q0 pc i) k c
    by_cases h : wkH mv o r0 q0 pc i
    · rw [if_pos h, if_pos h, if_pos h, if_pos h, cin_ext, ih]
      have hn := wkC_no (mv := mv) (o := o) (r0 := r0) (q0 := q0) (pc := pc) i (o i) (fun j hj e => by have := hd j i (by omega) (by omega) e; omega)
      rw [mWw_up]
      by_cases e : mv (2728 + 6 * k) = o i
      · have e0 : mWw mv (wkC mv o r0 q0 pc i) k c = 0 := by unfold mWw; rw [e, hn]
        rw [if_pos e, e0]
        by_cases e2 : inT mv k (wkQ mv o r0 q0 pc (i + 1)) c = true
        · rw [if_pos e2, if_pos ⟨e.symm, e2⟩]
        · rw [if_neg e2, if_neg (fun x => e2 x.2)]
      · rw [if_neg e, if_neg (fun x => e x.1.symm)]; omega
    · rw [if_neg h, if_neg h, if_neg h, if_neg h]; exact ih
/-- the fear of an order -/
def feO (mv : Mem) (dp : Nat → Nat → Int32) (r0 q0 pc v : Nat) (o : Mem) : Nat := feaW mv dp (wkC mv o r0 q0 pc v) (mv 5)
theorem feO_le {dp : Nat → Nat → Int32} (ho : VOo mv) : feO mv dp r0 q0 pc v o ≤ 1000000000 := feaW_le ho (fun p q h => (wkC_b v p q h).2)
/-- the best order from l on -/
def pkB (fe : List Nat → Nat) (l : List Nat) : Option (Nat × List Nat) → Nat × List Nat
  | none => (fe l, l)
  | some b => if fe l < b.1 then (fe l, l) else b
def boL (v : Nat) (fe : List Nat → Nat) : Nat → List Nat → Option (Nat × List Nat) → Nat × List Nat
  | 0, l, b => pkB fe l b
  | t + 1, l, b => match nxtL v l with
    | none => pkB fe l b
    | some l' => boL v fe t l' (some (pkB fe l b))
