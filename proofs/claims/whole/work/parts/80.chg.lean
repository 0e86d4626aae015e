/-! ===== calls that change the day: what stays ===== -/
variable {d : Nat} {B : Nat × Nat} {Q : Out → Sto → Prop} {P : Nat → Nat → Prop} {σ τ : Sto} {x0 y0 : Nat} {mv mv' kv : Mem} {img : Bool} {tp : Mem} {n : Nat} {fl : Option Nat}
def AG (S : Nat → Prop) (mv mv' : Mem) : Prop := ∀ k, S k → mv' k = mv k
def gS (k : Nat) : Prop := k ≤ 3 ∨ (9 ≤ k ∧ k ≤ 12) ∨ (20 ≤ k ∧ k < 424)
def pS (k : Nat) : Prop := k = 5 ∨ k = 6 ∨ (2728 ≤ k ∧ k < 2836)
def oS (k : Nat) : Prop := k = 4 ∨ (424 ≤ k ∧ k < 2728)
def lS (k : Nat) : Prop := k = 8 ∨ (2836 ≤ k ∧ k < 2884)
def uS (k : Nat) : Prop := k = 7 ∨ 2884 ≤ k
def bS (k : Nat) : Prop := 13 ≤ k ∧ k ≤ 16
theorem AG.rf {S : Nat → Prop} : AG S mv mv := fun _ _ => rfl
theorem AG.up {S : Nat → Prop} {j v : Nat} (h : AG S mv mv') (hj : ¬ S j) : AG S mv (up mv' j v) := fun k hk => (up_ne (fun e : k = j => hj (by rw [← e]; exact hk))).trans (h k hk)
theorem VG.cg (hv : VG mv) (ga : AG gS mv mv') : VG mv' := by
  have hs := hv.s
  have e : ∀ k, (k ≤ 3 ∨ (9 ≤ k ∧ k ≤ 12) ∨ (20 ≤ k ∧ k < 424)) → mv' k = mv k := ga
  refine ⟨?_, fun q hq => ?_, fun g hg => ?_, fun r hr => ?_, fun p hp => ?_⟩
  · rw [e 0 (by omega), e 1 (by omega), e 2 (by omega), e 3 (by omega), e 9 (by omega), e 10 (by omega), e 11 (by omega), e 12 (by omega)]; exact hs
  · rw [e _ (by omega), e _ (by omega), e _ (by omega)]; exact hv.q hq
  · rw [e 1 (by omega)] at hg
    have h := hv.g hg
    rw [e (308 + 7 * g) (by omega)]
    exact ⟨h.1, h.2.1, fun s a b => by rw [e _ (by omega)]; exact h.2.2 s a b⟩
  · rw [e 2 (by omega)] at hr
    rw [e _ (by omega), e _ (by omega), e _ (by omega), e _ (by omega), e _ (by omega)]; exact hv.r hr
  · rw [e 3 (by omega)] at hp
    rw [e _ (by omega), e _ (by omega), e _ (by omega), e _ (by omega), e _ (by omega)]; exact hv.p hp
theorem RGg.cg {g : Nat} (h : RGg σ g mv) (hv : VG mv) (ga : AG gS mv mv') : RGg σ g mv' := by
  have hs := hv.s
  have e : ∀ k, (k ≤ 3 ∨ (9 ≤ k ∧ k ≤ 12) ∨ (20 ≤ k ∧ k < 424)) → mv' k = mv k := ga
  refine ⟨?_, fun q hq => ?_, fun i hi => h.z hi, fun i hi => ?_, fun r hr => ?_, fun p hp => ?_⟩
  · rw [e 1 (by omega), e 2 (by omega), e 3 (by omega), e 9 (by omega), e 10 (by omega), e 11 (by omega), e 12 (by omega)]; exact h.s
  · rw [e _ (by omega), e _ (by omega), e _ (by omega)]; exact h.q hq
  · rw [e 1 (by omega)] at hi
    have h2 := h.g hi
    have h3 := hv.g hi
    rw [e (308 + 7 * i) (by omega)]
    exact ⟨h2.1, fun s a b => by rw [e _ (by omega)]; exact h2.2 s a b⟩
  · rw [e 2 (by omega)] at hr
    rw [e _ (by omega), e _ (by omega), e _ (by omega), e _ (by omega), e _ (by omega)]; exact h.r hr
  · rw [e 3 (by omega)] at hp
    rw [e _ (by omega), e _ (by omega), e _ (by omega), e _ (by omega)]; exact h.p hp
theorem flw_cg (hv : VG mv) (ga : AG gS mv mv') {g s : Nat} (hg : g < mv 1) : flwG mv' g s = flwG mv g s := by
  have hs := hv.s
  have h := hv.g hg
  have e : ∀ k, (k ≤ 3 ∨ (9 ≤ k ∧ k ≤ 12) ∨ (20 ≤ k ∧ k < 424)) → mv' k = mv k := ga
  unfold flwG
  rw [e (308 + 7 * g) (by omega)]
  split
  · rfl
  · split
    · exact e _ (by omega)
    · exact e _ (by omega)
theorem lft_cg (hv : VG mv) (ga : AG gS mv mv') {st : Mem} {q : Nat} {lake : Int32} : ∀ g, g ≤ mv 1 → lft mv' st q lake g = lft mv st q lake g := by
  have e : ∀ k, (k ≤ 3 ∨ (9 ≤ k ∧ k ≤ 12) ∨ (20 ≤ k ∧ k < 424)) → mv' k = mv k := ga
  intro g
  induction g with
  | zero => intro _; rfl
  | succ g ih =>
    intro hg
    have h1 : wnt mv' st q lake g = wnt mv st q lake g := by unfold wnt lv0; rw [e 9 (by omega), e 10 (by omega), flw_cg hv ga (by omega)]
    rw [show lft mv' st q lake (g + 1) = lft mv' st q lake g - (if lg_cmp (wnt mv' st q lake g) (lft mv' st q lake g).toInt64 ≤ J 0 then (wnt mv' st q lake g).toInt32 else lft mv' st q lake g) from rfl, h1, ih (by omega)]
    rfl
theorem lkF_cg (hv : VG mv) (ga : AG gS mv mv') {st : Mem} : ∀ q, q ≤ 96 → lkF mv' st q = lkF mv st q := by
  have e : ∀ k, (k ≤ 3 ∨ (9 ≤ k ∧ k ≤ 12) ∨ (20 ≤ k ∧ k < 424)) → mv' k = mv k := ga
  intro q
  induction q with
  | zero => intro _; show J (mv' 10) = J (mv 10); rw [e 10 (by omega)]
  | succ q ih =>
    intro hq
    rw [show lkF mv' st (q + 1) = lft mv' st q (lkF mv' st q) (mv' 1) + J (mv' (20 + q)) from rfl, e 1 (by omega), e (20 + q) (by omega), ih (by omega), lft_cg hv ga _ (Nat.le_refl _)]
    rfl
theorem ltF_cg (hv : VG mv) (ga : AG gS mv mv') {st : Mem} {q : Nat} (hq : q ≤ 96) : ltF mv' st q = ltF mv st q := by
  unfold ltF; rw [lkF_cg hv ga q hq, ga 1 (by unfold gS; omega), lft_cg hv ga _ (Nat.le_refl _)]
theorem out_cg (hv : VG mv) (ga : AG gS mv mv') {w : Nat → Int32} {r : Nat} (hr : r < mv 2) : outF mv' w r = outF mv w r := by
  have hs := hv.s
  have e : ∀ k, (k ≤ 3 ∨ (9 ≤ k ∧ k ≤ 12) ∨ (20 ≤ k ∧ k < 424)) → mv' k = mv k := ga
  unfold outF
  rw [e (336 + 5 * r) (by omega), e (336 + 5 * r + 3) (by omega)]
  split
  · rw [e _ (by omega)]
  · rw [e _ (by omega)]
theorem rcF_cg (hv : VG mv) (ga : AG gS mv mv') {st : Mem} {more : Nat} : ∀ q, q ≤ 96 → (∀ r, r < mv 2 → rcF mv' st more q r = rcF mv st more q r) ∧ (∀ r, r ≤ mv 2 → ∀ l, comF mv' (rcF mv' st more q) l r = comF mv (rcF mv st more q) l r) := by
  have hs := hv.s
  have e : ∀ k, (k ≤ 3 ∨ (9 ≤ k ∧ k ≤ 12) ∨ (20 ≤ k ∧ k < 424)) → mv' k = mv k := ga
  have ow : ∀ (w w' : Nat → Int32) r, r < mv 2 → w' r = w r → outF mv' w' r = outF mv w r := fun w w' r hr hw => by
    rw [out_cg hv ga hr]; unfold outF; rw [hw]
  intro q
  induction q with
  | zero =>
    intro _
    refine ⟨fun r _ => rfl, fun r hr l => ?_⟩
    cases r with
    | zero => rfl
    | succ r => exact ow _ _ r (by omega) rfl
  | succ q ih =>
    intro hq
    obtain ⟨i1, i2⟩ := ih (by omega)
    have h1 : ∀ r, r < mv 2 → rcF mv' st more (q + 1) r = rcF mv st more (q + 1) r := fun r hr => by
      rw [show rcF mv' st more (q + 1) r = rcF mv' st more q r - outF mv' (rcF mv' st more q) r + comF mv' (rcF mv' st more q) (ltF mv' st q) r + J (mv' (336 + 5 * r + 4)) * J (mv' (116 + q) + more) from rfl, i1 r hr, ow _ _ r hr (i1 r hr), i2 r (by omega), ltF_cg hv ga (by omega), e (336 + 5 * r + 4) (by omega), e (116 + q) (by omega)]
      rfl
    refine ⟨h1, fun r hr l => ?_⟩
    cases r with
    | zero => rfl
    | succ r => exact ow _ _ r (by omega) (h1 r (by omega))
theorem gnF_cg (hv : VG mv) (ga : AG gS mv mv') {st : Mem} {more : Nat} : ∀ q, q ≤ 96 → gnF mv' st more q = gnF mv st more q := by
  intro q
  induction q with
  | zero => intro _; rfl
  | succ q ih =>
    intro hq
    rw [show gnF mv' st more (q + 1) = gnF mv' st more q + comF mv' (rcF mv' st more q) (ltF mv' st q) (mv' 2) from rfl, ih (by omega), ga 2 (by unfold gS; omega), (rcF_cg hv ga q (by omega)).2 _ (Nat.le_refl _), ltF_cg hv ga (by omega)]
    rfl
theorem CFf.cg {f : Nat} {st : Mem} {more m : Nat} (h : CFf σ f mv st more m) (hv : VG mv) (ga : AG gS mv mv') (hm : m ≤ 96) : CFf σ f mv' st more m := by
  have hs := hv.s
  intro q hq
  have h1 := h q hq
  refine ⟨?_, fun r hr => ?_⟩
  · rw [lkF_cg hv ga _ (by omega), ltF_cg hv ga (by omega), gnF_cg hv ga _ (by omega)]; exact h1.1
  · rw [ga 2 (by unfold gS; omega)] at hr
    unfold dpF
    rw [(rcF_cg hv ga _ (by omega)).1 r hr, ga (336 + 5 * r) (by unfold gS; omega)]
    exact h1.2 r hr
/-! the parts of a day -/
theorem RPp.cg {pl : Nat} (h : RPp σ pl mv) (ho : VOo mv) (pa : AG pS mv mv') : RPp σ pl mv' := by
  have ho1 := ho.s
  have e : ∀ k, (k = 5 ∨ k = 6 ∨ (2728 ≤ k ∧ k < 2836)) → mv' k = mv k := pa
  refine ⟨by rw [e 5 (by omega), e 6 (by omega)]; exact h.1, fun k hk => ?_, fun c hc => ?_⟩
  · rw [e 5 (by omega)] at hk
    rw [e _ (by omega), e _ (by omega), e _ (by omega), e _ (by omega), e _ (by omega), e _ (by omega)]; exact h.2.1 k hk
  · rw [e 6 (by omega)] at hc
    rw [e _ (by omega), e _ (by omega)]; exact h.2.2 c hc
theorem RRl.cg {dd : Nat} (h : RRl σ dd mv) (ua : AG uS mv mv') : RRl σ dd mv' := by
  have e : ∀ k, (k = 7 ∨ 2884 ≤ k) → mv' k = mv k := ua
  intro i hi
  rw [e 7 (by omega)] at hi
  have e1 : tn_ mv' i = tn_ mv i := e _ (by omega)
  have e2 : tx_ mv' i = tx_ mv i := funext (fun k => by unfold tx_; rw [e1, e _ (by omega)])
  rw [e1, e2]; exact h i hi
def RSc (σ : Sto) (dd : Nat) (mv : Mem) : Prop := sI σ dd 0 = J (mv 0) ∧ sI σ dd 2 = J (mv 4) ∧ sI σ dd 5 = J (mv 14) ∧ sI σ dd 6 = J (mv 15) ∧ sI σ dd 7 = J (mv 16) ∧ sI σ dd 8 = J (mv 13) ∧ sI σ dd 9 = J (mv 7) ∧ sI σ dd 11 = J (mv 8)
def ROp (σ : Sto) (dd : Nat) (mv : Mem) : Prop := ∀ o, o < mv 4 → ∀ k, k < 384 → sI σ (dd + 18 + o) k = J (stO mv o k)
def RLg (σ : Sto) (dd : Nat) (mv : Mem) : Prop := ∀ l, l < mv 8 → sI σ (dd + 34) l = J (mv (2836 + 3 * l)) ∧ sI σ (dd + 35) l = J (mv (2836 + 3 * l + 1)) ∧ sI σ (dd + 36) l = J (mv (2836 + 3 * l + 2))
theorem ROp.cg {dd : Nat} (h : ROp σ dd mv) (ho : VOo mv) (oa : AG oS mv mv') : ROp σ dd mv' := by
  have ho1 := ho.s
  have e : ∀ k, (k = 4 ∨ (424 ≤ k ∧ k < 2728)) → mv' k = mv k := oa
  intro o hk k hk2
  rw [e 4 (by omega)] at hk
  unfold stO; rw [e _ (by omega)]; exact h o hk k hk2
theorem RLg.cg {dd : Nat} (h : RLg σ dd mv) (ho : VOo mv) (la : AG lS mv mv') : RLg σ dd mv' := by
  have ho1 := ho.s
  have e : ∀ k, (k = 8 ∨ (2836 ≤ k ∧ k < 2884)) → mv' k = mv k := la
  intro l hl
  rw [e 8 (by omega)] at hl
  rw [e _ (by omega), e _ (by omega), e _ (by omega)]; exact h l hl
/-- how a call that writes into the day leaves the class -/
theorem C0.chg (h : C0 σ x0 mv kv img tp n fl) (f : Fr P σ τ) (hP : ∀ p j, P p j → SCf x0 p j ∨ (x0 + 24 ≤ p ∧ p ≤ x0 + 60)) (hv : VG mv') (ho : VOo mv') (hY : RYd τ (x0 + 24) mv') (hb : ∀ j, P (x0 + 24 + 36) j → sI τ (x0 + 24 + 36) j = J 0 ∨ sI τ (x0 + 24 + 36) j = J 1) : C0 τ x0 mv' kv img tp n fl := by
  obtain ⟨a1, a2, a3, a4, a5, a6, a7, a8⟩ := h
  have hn : ∀ p j, ¬ SCf x0 p j → ¬ (x0 + 24 ≤ p ∧ p ≤ x0 + 60) → sI τ p j = sI σ p j := fun p j hh h2 => f.i (fun k => (hP p j k).elim hh h2)
  refine ⟨⟨a1.1, by rw [f.N]; exact a1.2⟩, f.sh a2, ⟨hv, ho, hY⟩, fun hi => ⟨(a4 hi).1, (a4 hi).2.1, (a4 hi).2.2.fr (a4 hi).2.1.s.1 f (fun p j k => ?_)⟩, ?_, ⟨?_, a6.2.1, fun k hk => ?_⟩, ⟨?_, a7.2⟩, ?_⟩
  · have := hP _ _ k; unfold SCf SCr at this; omega
  · rw [hn _ _ (by unfold SCf SCr; omega) (by omega)]; exact a5
  · rw [hn _ _ (by unfold SCf SCr; omega) (by omega)]; exact a6.1
  · rw [hn _ _ (by unfold SCf SCr; omega) (by omega)]; exact a6.2.2 k hk
  · rw [hn _ _ (by unfold SCf SCr; omega) (by omega)]; exact a7.1
  · refine ⟨by rw [hn _ _ (by unfold SCf SCr; omega) (by omega)]; exact a8.1, a8.2.1.fr f hb, a8.2.2.fr f (fun j k => ?_)⟩
    have := hP _ _ k; unfold SCf SCr at this; omega
/-- the shown flood stands, where gorge and openings stand -/
theorem SHw.chg (h : SHw σ x0 mv) (hv : VG mv) (f : Fr P σ τ) (hP : ∀ p j, P p j → (x0 + 24 ≤ p ∧ p ≤ x0 + 60) ∨ SCr x0 p j) (hx : x0 = 96) (ga : AG gS mv mv') (h4 : mv 4 ≤ mv' 4) (hs : ∀ o, o < mv 4 → sI σ x0 12 = J o → ∀ k, k < 384 → stO mv' o k = stO mv o k) : SHw τ x0 mv' := by
  have hn : ∀ p j, ¬ SCr x0 p j → ¬ (x0 + 24 ≤ p ∧ p ≤ x0 + 60) → sI τ p j = sI σ p j := fun p j hh h2 => f.i (fun k => (hP p j k).elim h2 hh)
  have hs1 := hv.s
  rcases h with e | ⟨o, h1, h2, h3⟩
  · exact Or.inl (by rw [hn _ _ (by unfold SCr; omega) (by omega)]; exact e)
  · refine Or.inr ⟨o, by omega, by rw [hn _ _ (by unfold SCr; omega) (by omega)]; exact h2, ?_⟩
    have h4 : CFf τ (x0 + 98) mv (stO mv o) 0 96 := h3.fr hv f (fun i j a b k => by have := hP _ _ k; unfold SCr at this; omega)
    exact (h4.cong (fun g q hg hq => (hs o h1 h2 _ (by omega)).symm)).cg hv ga (Nat.le_refl _)
/-- the reference, behind a call that writes into its memory -/
theorem RIv.chg (h : RIv σ y0 mv kv img tp n fl) (f : Fr P σ τ) (hP : ∀ p j, P p j → p = y0 + 1 ∨ SRr y0 p j) (hm : RMm τ y0 mv') : RIv τ y0 mv' kv img tp n fl := by
  obtain ⟨a1, a2, a3, a4, a5, a6⟩ := h
  have hn : ∀ p j, ¬ p = y0 + 1 → ¬ SRr y0 p j → sI τ p j = sI σ p j := fun p j h1 hh => f.i (fun k => (hP p j k).elim h1 hh)
  refine ⟨f.sh a1, hm, fun hi k hk => ?_, ?_, ⟨?_, fun k hk => ?_⟩, ?_⟩
  · rw [hn _ _ (by omega) (by unfold SRr; omega)]; exact a3 hi k hk
  · rw [hn _ _ (by omega) (by unfold SRr; omega)]; exact a4
  · rw [hn _ _ (by omega) (by unfold SRr; omega)]; exact a5.1
  · rw [hn _ _ (by omega) (by unfold SRr; omega)]; exact a5.2 k hk
  · rw [hn _ _ (by omega) (by unfold SRr; omega)]; exact a6
theorem RMm.up {j v : Nat} (h : RMm σ y0 mv) : RMm (setI σ (y0 + 1) j (J v)) y0 (up mv j v) := fun k hk => by
  by_cases e : k = j
  · subst e; rw [sI_same, up_eq]
  · rw [sI_any (by omega), up_ne e]; exact h k hk
theorem RMm.th {v : Int32} {j : Nat} (h : RMm σ y0 mv) : RMm (setI σ y0 j v) y0 mv := fun k hk => by rw [sI_any (by omega)]; exact h k hk
