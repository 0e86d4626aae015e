/-! ===== what holds between two calls ===== -/
def codes (R : List RLn) : List (Nat × Nat) := R.flatMap (fun l => l.2.2.1)
def enc (c : Nat × Nat) : Nat := c.2 * 16 + c.1
def dfl : RLn := (0, 0, [], fun _ => J 0)
/-- a rule as the class keeps it -/
def RuleAt (σ : Sto) (r : Nat) (R : List RLn) : Prop :=
  (278 ≤ r ∧ r + 6 ≤ sN σ ∧ r % 6 = 2 ∧ R.length ≤ 12 ∧ (codes R).length ≤ 400) ∧ sK σ r = 8 ∧ (sP σ r 1 = some (r + 1) ∧ sP σ r 2 = some (r + 2) ∧ sP σ r 3 = some (r + 3) ∧ sP σ r 4 = some (r + 4) ∧ sP σ r 5 = some (r + 5)) ∧
  (sK σ (r + 1) = 14 ∧ sK σ (r + 2) = 14 ∧ sK σ (r + 3) = 14 ∧ sK σ (r + 4) = 14 ∧ sK σ (r + 5) = 14) ∧ (sZ σ (r + 1) = R.length ∧ sZ σ (r + 2) = R.length ∧ sZ σ (r + 3) = R.length ∧ sZ σ (r + 4) = (codes R).length ∧ sZ σ (r + 5) = 24) ∧
  sI σ r 0 = J R.length ∧ (∀ i, i < R.length → sI σ (r + 1) i = J (R.getD i dfl).1 ∧ sI σ (r + 2) i = J (R.getD i dfl).2.1 ∧ sI σ (r + 3) i = J (codes (R.take (i + 1))).length) ∧ (∀ j, j < (codes R).length → sI σ (r + 4) j = J (enc ((codes R).getD j (0, 0))))
/-- what is so in every run from σ on -/
def Grow (σ τ : Sto) : Prop := sN σ ≤ sN τ ∧ ∀ p, p < sN σ → sK τ p = sK σ p ∧ sZ τ p = sZ σ p
theorem RuleAt.mv_ {σ τ : Sto} {r : Nat} {R : List RLn} (h : RuleAt σ r R) (hg : Grow σ τ) (hP : ∀ j, sP τ r j = sP σ r j) (hI : ∀ i j, i < 5 → sI τ (r + i) j = sI σ (r + i) j) : RuleAt τ r R := by
  obtain ⟨h1, h2, h3, h4, h5, h6, h7, h8⟩ := h
  have hk : ∀ i, i < 6 → sK τ (r + i) = sK σ (r + i) ∧ sZ τ (r + i) = sZ σ (r + i) := fun i hi => hg.2 _ (by omega)
  refine ⟨⟨h1.1, Nat.le_trans h1.2.1 hg.1, h1.2.2⟩, ?_, ?_, ?_, ?_, ?_, fun i hi => ?_, fun j hj => ?_⟩
  · exact (hk 0 (by omega)).1.trans h2
  · rw [hP, hP, hP, hP, hP]; exact h3
  · rw [(hk 1 (by omega)).1, (hk 2 (by omega)).1, (hk 3 (by omega)).1, (hk 4 (by omega)).1, (hk 5 (by omega)).1]; exact h4
  · rw [(hk 1 (by omega)).2, (hk 2 (by omega)).2, (hk 3 (by omega)).2, (hk 4 (by omega)).2, (hk 5 (by omega)).2]; exact h5
  · rw [show sI τ r 0 = sI σ r 0 from hI 0 0 (by omega)]; exact h6
  · rw [hI 1 i (by omega), hI 2 i (by omega), hI 3 i (by omega)]; exact h7 i hi
  · rw [hI 4 j (by omega)]; exact h8 j hj
/-- the text of rule i -/
def tn_ (mv : Mem) (i : Nat) : Nat := mv (2884 + 401 * i)
def tx_ (mv : Mem) (i : Nat) : Mem := fun k => if k < tn_ mv i then mv (2885 + 401 * i + k) else 0
def RRl (σ : Sto) (dd : Nat) (mv : Mem) : Prop := ∀ i, i < mv 7 → (tn_ mv i ≤ 400 ∧ ∀ k, k < tn_ mv i → tx_ mv i k ≤ 255) ∧ ∃ R p r, rAll (tx_ mv i) (tn_ mv i) = .inr (R, p) ∧ sP σ (dd + 33) i = some r ∧ RuleAt σ r R
/-- a day -/
def RYd (σ : Sto) (dd : Nat) (mv : Mem) : Prop := RGg σ (dd + 1) mv ∧ RPp σ (dd + 24) mv ∧
  (sI σ dd 0 = J (mv 0) ∧ sI σ dd 2 = J (mv 4) ∧ sI σ dd 5 = J (mv 14) ∧ sI σ dd 6 = J (mv 15) ∧ sI σ dd 7 = J (mv 16) ∧ sI σ dd 8 = J (mv 13) ∧ sI σ dd 9 = J (mv 7) ∧ sI σ dd 11 = J (mv 8)) ∧
  (∀ o, o < mv 4 → ∀ k, k < 384 → sI σ (dd + 18 + o) k = J (stO mv o k)) ∧
  (∀ l, l < mv 8 → sI σ (dd + 34) l = J (mv (2836 + 3 * l)) ∧ sI σ (dd + 35) l = J (mv (2836 + 3 * l + 1)) ∧ sI σ (dd + 36) l = J (mv (2836 + 3 * l + 2))) ∧ RRl σ dd mv
theorem Fr.grow {P : Nat → Nat → Prop} {σ τ : Sto} (f : Fr P σ τ) : Grow σ τ := ⟨by rw [f.N]; exact Nat.le_refl _, fun p _ => by rw [f.K, f.Z]; exact ⟨rfl, rfl⟩⟩
theorem RRl.fr {P : Nat → Nat → Prop} {σ τ : Sto} {dd : Nat} {mv : Mem} (h : RRl σ dd mv) (f : Fr P σ τ) (hP : ∀ p j, P p j → 278 ≤ p → p % 6 = 1) : RRl τ dd mv := by
  intro i hi
  obtain ⟨h1, R, p, r, h2, h3, h4⟩ := h i hi
  refine ⟨h1, R, p, r, h2, by rw [f.P]; exact h3, h4.mv_ f.grow (fun j => by rw [f.P]) (fun a j ha => f.i (fun k => ?_))⟩
  have := hP _ _ k
  have := h4.1
  omega
theorem RYd.fr {P : Nat → Nat → Prop} {σ τ : Sto} {dd : Nat} {mv : Mem} (h : RYd σ dd mv) (h6 : mv 4 ≤ 6) (f : Fr P σ τ) (hP : ∀ p j, P p j → (dd ≤ p → p ≤ dd + 36 → False) ∧ (278 ≤ p → p % 6 = 1)) : RYd τ dd mv := by
  have hn : ∀ i j, i ≤ 36 → sI τ (dd + i) j = sI σ (dd + i) j := fun i j hi => f.i (fun k => (hP _ _ k).1 (by omega) (by omega))
  have h0 : ∀ j, sI τ dd j = sI σ dd j := fun j => hn 0 j (by omega)
  obtain ⟨a1, a2, a3, a4, a5, a6⟩ := h
  refine ⟨a1.eqI (fun i j hi => ?_), a2.eqI (fun i j hi => ?_), ?_, fun o ho k hk => ?_, fun l hl => ?_, a6.fr f (fun p j k => (hP p j k).2)⟩
  · rw [show dd + 1 + i = dd + (1 + i) by omega]; exact hn _ _ (by omega)
  · rw [show dd + 24 + i = dd + (24 + i) by omega]; exact hn _ _ (by omega)
  · simp only [h0]; exact a3
  · rw [show dd + 18 + o = dd + (18 + o) by omega, hn _ _ (by omega), show dd + (18 + o) = dd + 18 + o by omega]; exact a4 o ho k hk
  · rw [hn _ _ (by omega), hn _ _ (by omega), hn _ _ (by omega)]; exact a5 l hl
/-- of a day, what a copy of it needs besides: truth values in every cell of the log, rules in the row of rules -/
def BLo (σ : Sto) (dd : Nat) : Prop := (∀ l, l < 16 → sI σ (dd + 36) l = J 0 ∨ sI σ (dd + 36) l = J 1) ∧ ∀ i r, sP σ (dd + 33) i = some r → r < sN σ ∧ sK σ r = 8
theorem BLo.fr {P : Nat → Nat → Prop} {σ τ : Sto} {dd : Nat} (h : BLo σ dd) (f : Fr P σ τ) (hb : ∀ j, P (dd + 36) j → sI τ (dd + 36) j = J 0 ∨ sI τ (dd + 36) j = J 1) : BLo τ dd := by
  refine ⟨fun l hl => ?_, fun i r e => ?_⟩
  · by_cases c : P (dd + 36) l
    · exact hb l c
    · rw [f.i c]; exact h.1 l hl
  · rw [f.P] at e; rw [f.N, f.K]; exact h.2 i r e
/-- the class, but for the flood that it shows -/
def C0 (σ : Sto) (x0 : Nat) (mv kv : Mem) (img : Bool) (tp : Mem) (n : Nat) (fl : Option Nat) : Prop :=
  (x0 = 96 ∧ 278 ≤ sN σ ∧ sN σ % 6 = 2) ∧ S_11 σ x0 ∧ (VG mv ∧ VOo mv ∧ RYd σ (x0 + 24) mv) ∧ (img = true → VG kv ∧ VOo kv ∧ RYd σ (x0 + 61) kv) ∧ sI σ x0 11 = (if img = true then J 1 else J 0) ∧
  (sI σ (x0 + 1) 1 = J n ∧ n ≤ 400 ∧ ∀ k, k < n → sI σ (x0 + 2) k = J (tp k) ∧ tp k ≤ 255) ∧ (sI σ x0 10 = oJ fl ∧ ∀ q, fl = some q → q ≤ 400) ∧ sI σ (x0 + 162) 0 = J 0 ∧ BLo σ (x0 + 24) ∧ BLo σ (x0 + 61)
def SHw (σ : Sto) (x0 : Nat) (mv : Mem) : Prop := sI σ x0 12 = -J 1 ∨ ∃ o, o < mv 4 ∧ sI σ x0 12 = J o ∧ CFf σ (x0 + 98) mv (stO mv o) 0 96
def CIv (σ : Sto) (x0 : Nat) (mv kv : Mem) (img : Bool) (tp : Mem) (n : Nat) (fl : Option Nat) : Prop := C0 σ x0 mv kv img tp n fl ∧ SHw σ x0 mv
/-- what a call may write without being seen -/
def SCr (x0 : Nat) : Nat → Nat → Prop := fun p j => (p = x0 + 1 ∧ j ≠ 1) ∨ (x0 + 3 ≤ p ∧ p ≤ x0 + 23) ∨ (x0 + 120 ≤ p ∧ p ≤ x0 + 163 ∧ ¬ (p = x0 + 162 ∧ j = 0)) ∨ (278 ≤ p ∧ p % 6 = 1)
def SCf (x0 : Nat) : Nat → Nat → Prop := fun p j => SCr x0 p j ∨ (x0 + 98 ≤ p ∧ p ≤ x0 + 119) ∨ (p = x0 ∧ j = 12)
variable {P : Nat → Nat → Prop} {σ τ : Sto} {x0 y0 : Nat} {mv kv : Mem} {img : Bool} {tp : Mem} {n : Nat} {fl : Option Nat}
theorem C0.fr (h : C0 σ x0 mv kv img tp n fl) (f : Fr P σ τ) (hP : ∀ p j, P p j → SCf x0 p j) : C0 τ x0 mv kv img tp n fl := by
  obtain ⟨a1, a2, a3, a4, a5, a6, a7, a8⟩ := h
  have hn : ∀ p j, ¬ SCf x0 p j → sI τ p j = sI σ p j := fun p j hh => f.i (fun k => hh (hP p j k))
  refine ⟨⟨a1.1, by rw [f.N]; exact a1.2⟩, f.sh a2, ⟨a3.1, a3.2.1, a3.2.2.fr a3.2.1.s.1 f (fun p j k => ?_)⟩, fun hi => ⟨(a4 hi).1, (a4 hi).2.1, (a4 hi).2.2.fr (a4 hi).2.1.s.1 f (fun p j k => ?_)⟩, ?_, ⟨?_, a6.2.1, fun k hk => ?_⟩, ⟨?_, a7.2⟩, ?_⟩
  · have := hP _ _ k; unfold SCf SCr at this; omega
  · have := hP _ _ k; unfold SCf SCr at this; omega
  · rw [hn _ _ (by unfold SCf SCr; omega)]; exact a5
  · rw [hn _ _ (by unfold SCf SCr; omega)]; exact a6.1
  · rw [hn _ _ (by unfold SCf SCr; omega)]; exact a6.2.2 k hk
  · rw [hn _ _ (by unfold SCf SCr; omega)]; exact a7.1
  · refine ⟨by rw [hn _ _ (by unfold SCf SCr; omega)]; exact a8.1, a8.2.1.fr f (fun j k => ?_), a8.2.2.fr f (fun j k => ?_)⟩
    · have := hP _ _ k; unfold SCf SCr at this; omega
    · have := hP _ _ k; unfold SCf SCr at this; omega
theorem CIv.fr (h : CIv σ x0 mv kv img tp n fl) (f : Fr P σ τ) (hP : ∀ p j, P p j → SCr x0 p j) : CIv τ x0 mv kv img tp n fl := by
  refine ⟨h.1.fr f (fun p j k => Or.inl (hP p j k)), ?_⟩
  have hx := h.1.1
  have h2 := h.1.2.2.1.1.s
  have hn : ∀ p j, ¬ SCr x0 p j → sI τ p j = sI σ p j := fun p j hh => f.i (fun k => hh (hP p j k))
  rcases h.2 with e | ⟨o, h3, h4, h5⟩
  · exact Or.inl (by rw [hn _ _ (by unfold SCr; omega)]; exact e)
  · refine Or.inr ⟨o, h3, by rw [hn _ _ (by unfold SCr; omega)]; exact h4, fun q hq => ⟨?_, fun r hr => ?_⟩⟩
    · rw [hn _ _ (by unfold SCr; omega), hn _ _ (by unfold SCr; omega), hn _ _ (by unfold SCr; omega)]; exact (h5 q hq).1
    · rw [hn _ _ (by unfold SCr; omega), hn _ _ (by unfold SCr; omega)]; exact (h5 q hq).2 r hr
/-- the reference -/
def RIv (σ : Sto) (y0 : Nat) (mv kv : Mem) (img : Bool) (tp : Mem) (n : Nat) (fl : Option Nat) : Prop :=
  S_12 σ y0 ∧ RMm σ y0 mv ∧ (img = true → ∀ k, k < 4488 → sI σ (y0 + 2) k = J (kv k)) ∧ sI σ y0 3 = (if img = true then J 1 else J 0) ∧ (sI σ y0 6 = J n ∧ ∀ k, k < n → sI σ (y0 + 4) k = J (tp k)) ∧ sI σ y0 10 = oJ fl
/-- what the reference may write without being seen -/
def SRr (y0 : Nat) : Nat → Nat → Prop := fun p j => (p = y0 ∧ j ≠ 3 ∧ j ≠ 6 ∧ j ≠ 10) ∨ p = y0 + 3 ∨ (y0 + 5 ≤ p ∧ p ≤ y0 + 16)
theorem RIv.fr (h : RIv σ y0 mv kv img tp n fl) (f : Fr P σ τ) (hP : ∀ p j, P p j → y0 ≤ p → p ≤ y0 + 16 → SRr y0 p j) : RIv τ y0 mv kv img tp n fl := by
  obtain ⟨a1, a2, a3, a4, a5, a6⟩ := h
  have hn : ∀ p j, y0 ≤ p → p ≤ y0 + 16 → ¬ SRr y0 p j → sI τ p j = sI σ p j := fun p j h1 h2 hh => f.i (fun k => hh (hP p j k h1 h2))
  refine ⟨f.sh a1, fun k hk => ?_, fun hi k hk => ?_, ?_, ⟨?_, fun k hk => ?_⟩, ?_⟩
  · rw [hn _ _ (by omega) (by omega) (by unfold SRr; omega)]; exact a2 k hk
  · rw [hn _ _ (by omega) (by omega) (by unfold SRr; omega)]; exact a3 hi k hk
  · rw [hn _ _ (by omega) (by omega) (by unfold SRr; omega)]; exact a4
  · rw [hn _ _ (by omega) (by omega) (by unfold SRr; omega)]; exact a5.1
  · rw [hn _ _ (by omega) (by omega) (by unfold SRr; omega)]; exact a5.2 k hk
  · rw [hn _ _ (by omega) (by omega) (by unfold SRr; omega)]; exact a6
