/-! ===== lines of a gorge: what they change ===== -/
variable {d : Nat} {B : Nat × Nat} {Q : Out → Sto → Prop} {P : Nat → Nat → Prop} {σ τ : Sto} {X y0 g : Nat} {mv mv' tx : Mem} {n p f0 : Nat} {w : List Nat} {bs : Option Nat}
theorem bnd_r {α β : Type} {r : Rs α} {k : α → Nat → Rs β} {a : α} {q : Nat} (h : r = .inr (a, q)) : bnd r k = k a q := by rw [h]; rfl
theorem bnd_l {α β : Type} {r : Rs α} {k : α → Nat → Rs β} {f : Nat} (h : r = .inl f) : bnd r k = .inl f := by rw [h]; rfl
abbrev TS : Type := Nat ⊕ Nat
def tNu (tx : Mem) (n lo hi1 : Nat) (s : TS) : Nat × TS := match s with
  | .inl f => (lo, .inl f)
  | .inr p => match tN tx n lo hi1 p with
    | .inl f => (lo, .inl f)
    | .inr (v, q) => (v, .inr q)
theorem tNu_inr {lo hi1 q : Nat} {s : TS} (h : (tNu tx n lo hi1 s).2 = .inr q) : ∃ p, s = .inr p ∧ tN tx n lo hi1 p = .inr ((tNu tx n lo hi1 s).1, q) := by
  cases s with
  | inl f => cases h
  | inr p =>
    refine ⟨p, rfl, ?_⟩
    unfold tNu at h ⊢
    dsimp only at h ⊢
    cases e : tN tx n lo hi1 p with
    | inl f => rw [e] at h; cases h
    | inr a => rw [e] at h; cases h; rfl
theorem tNu_inl {lo hi1 f : Nat} {s : TS} (h : (tNu tx n lo hi1 s).2 = .inl f) : s = .inl f ∨ ∃ p, s = .inr p ∧ tN tx n lo hi1 p = .inl f := by
  cases s with
  | inl f2 => cases h; exact Or.inl rfl
  | inr p =>
    refine Or.inr ⟨p, rfl, ?_⟩
    unfold tNu at h
    dsimp only at h
    cases e : tN tx n lo hi1 p with
    | inl f2 => rw [e] at h; cases h; rfl
    | inr a => rw [e] at h; cases h
def CTs (σ : Sto) (X : Nat) (tx : Mem) (n : Nat) (s : TS) : Prop := match s with
  | .inl f => CTb σ X tx n f
  | .inr p => CTg σ X tx n p
theorem CTs.fr {s : TS} (h : CTs σ X tx n s) (f : Fr P σ τ) (hP : ∀ q j, P q j → q ≠ X ∧ q ≠ X + 1) : CTs τ X tx n s := by
  cases s with
  | inl f2 => exact CTb.fr h f hP
  | inr p => exact CTg.fr h f hP
theorem CTs.sh {s : TS} (h : CTs σ X tx n s) : S_9 σ X := by
  cases s with
  | inl f2 => exact h.1
  | inr p => exact h.1
theorem c_tnu {s : TS} (h : CTs σ X tx n s) {lo hi1 : Nat} {x2 : Int32} (hlo : lo ≤ 1000000) (hhi : hi1 ≤ 1000000) (hx : x2 = J hi1 - J 1) (hQ : ∀ τ, Fr (PtX X) σ τ → CTs τ X tx n (tNu tx n lo hi1 s).2 → Q (.inl (some (.int (J (tNu tx n lo hi1 s).1)))) τ) : WP gT (d + 1) B 82 0 [.ref X, .int (J lo), .int x2, .retAddr 0] [] σ Q := by
  cases s with
  | inl f => exact c_tn_b h (hQ σ Fr.rf h)
  | inr p =>
    refine c_tn h hlo hhi hx (fun v q e τ f k => ?_) (fun e τ f k => ?_)
    · have := hQ τ f
      unfold tNu at this
      dsimp only at this
      rw [e] at this
      exact this k
    · have := hQ τ f
      unfold tNu at this
      dsimp only at this
      rw [e] at this
      exact this k
def RTs (σ : Sto) (y0 : Nat) (tx : Mem) (n : Nat) (bs : Option Nat) (s : TS) : Prop := match s with
  | .inl f => RTb σ y0 tx n bs f 0
  | .inr p => RTg σ y0 tx n bs p
theorem RTs.fr {s : TS} (h : RTs σ y0 tx n bs s) (f : Fr P σ τ) (hP : ∀ p j, P p j → (p = y0 → j ≠ 7 ∧ j ≠ 8 ∧ j ≠ 9 ∧ j ≠ 10) ∧ p ≠ y0 + 4 ∧ (p = y0 + 1 → j < 424)) : RTs τ y0 tx n bs s := by
  cases s with
  | inl f2 => exact RTb.fr h f hP
  | inr p => exact RTg.fr h f hP
theorem RTs.by_ {s : TS} (h : RTs σ y0 tx n bs s) : RBy σ y0 tx n bs := by
  cases s with
  | inl f2 => exact h.1
  | inr p => exact h.1
theorem r_figu {s : TS} (h : RTs σ y0 tx n bs s) {lo hi1 : Nat} {x2 : Int32} (hlo : lo ≤ 1000000) (hhi : hi1 ≤ 1000000) (hx : x2 = J hi1 - J 1) (hQ : ∀ τ v, Fr (PYt y0) σ τ → RTs τ y0 tx n bs (tNu tx n lo hi1 s).2 → (∀ q, (tNu tx n lo hi1 s).2 = .inr q → v = J (tNu tx n lo hi1 s).1) → Q (.inl (some (.int v))) τ) : WP gT (d + 2) B 180 0 [.ref y0, .int (J lo), .int x2, .retAddr 0, .retAddr 0] [] σ Q := by
  cases s with
  | inl f => exact r_fig_b h (hQ σ _ Fr.rf h (fun q e => by cases e))
  | inr p =>
    refine r_fig h hlo hhi hx (fun v q e τ f k => ?_) (fun e τ v f k => ?_)
    · have := hQ τ (J v) f
      unfold tNu at this
      dsimp only at this
      rw [e] at this
      exact this k (fun _ _ => rfl)
    · have := hQ τ v f
      unfold tNu at this
      dsimp only at this
      rw [e] at this
      exact this k (fun q e => by cases e)
/-! the gorge behind a line -/
theorem VG.lake (hv : VG mv) (e : ∀ k, ¬ (9 ≤ k ∧ k ≤ 12) → mv' k = mv k) (h9 : 1 ≤ mv' 9 ∧ mv' 9 ≤ 9999 ∧ mv' 10 ≤ 999999 ∧ mv' 11 ≤ 9999 ∧ mv' 12 ≤ 95) : VG mv' := by
  have hs := hv.s
  refine ⟨?_, fun q hq => ?_, fun g hg => ?_, fun r hr => ?_, fun p hp => ?_⟩
  · rw [e 0 (by omega), e 1 (by omega), e 2 (by omega), e 3 (by omega)]; omega
  · rw [e _ (by omega), e _ (by omega), e _ (by omega)]; exact hv.q hq
  · rw [e 1 (by omega)] at hg
    have h := hv.g hg
    rw [e (308 + 7 * g) (by omega)]
    exact ⟨h.1, h.2.1, fun s a b => by rw [e _ (by omega)]; exact h.2.2 s a b⟩
  · rw [e 2 (by omega)] at hr
    rw [e _ (by omega), e _ (by omega), e _ (by omega), e _ (by omega), e _ (by omega)]; exact hv.r hr
  · rw [e 3 (by omega)] at hp
    rw [e _ (by omega), e _ (by omega), e _ (by omega), e _ (by omega), e _ (by omega)]; exact hv.p hp
theorem RGg.lake (h : RGg σ g mv) (hv : VG mv) (e : ∀ k, ¬ (9 ≤ k ∧ k ≤ 12) → mv' k = mv k) (f : Fr P σ τ) (hP : ∀ p j, P p j → g ≤ p → p ≤ g + 15 → p = g ∧ j ≤ 3) (hn : sI τ g 0 = J (mv' 9) ∧ sI τ g 1 = J (mv' 10) ∧ sI τ g 2 = J (mv' 11) ∧ sI τ g 3 = J (mv' 12)) : RGg τ g mv' := by
  have hs := hv.s
  have n0 : ∀ i j, i ≤ 15 → ¬ (i = 0 ∧ j ≤ 3) → sI τ (g + i) j = sI σ (g + i) j := fun i j hi hne => f.i (fun k => by have := hP _ _ k; omega)
  refine ⟨?_, fun q hq => ?_, fun i hi => ?_, fun i hi => ?_, fun r hr => ?_, fun p hp => ?_⟩
  · refine ⟨hn.1, hn.2.1, hn.2.2.1, hn.2.2.2, ?_, ?_, ?_⟩
    · rw [e 1 (by omega), show g = g + 0 from rfl, n0 0 5 (by omega) (by omega)]; exact h.s.2.2.2.2.1
    · rw [e 2 (by omega), show g = g + 0 from rfl, n0 0 8 (by omega) (by omega)]; exact h.s.2.2.2.2.2.1
    · rw [e 3 (by omega), show g = g + 0 from rfl, n0 0 14 (by omega) (by omega)]; exact h.s.2.2.2.2.2.2
  · rw [n0 _ _ (by omega) (by omega), n0 _ _ (by omega) (by omega), n0 _ _ (by omega) (by omega), e _ (by omega), e _ (by omega), e _ (by omega)]; exact h.q hq
  · rw [n0 _ _ (by omega) (by omega)]; exact h.z hi
  · rw [e 1 (by omega)] at hi
    have h2 := h.g hi
    have h3 := hv.g hi
    rw [e (308 + 7 * i) (by omega), n0 _ _ (by omega) (by omega)]
    exact ⟨h2.1, fun s a b => by rw [e _ (by omega), n0 _ _ (by omega) (by omega)]; exact h2.2 s a b⟩
  · rw [e 2 (by omega)] at hr
    rw [e _ (by omega), e _ (by omega), e _ (by omega), e _ (by omega), e _ (by omega), n0 _ _ (by omega) (by omega), n0 _ _ (by omega) (by omega), n0 _ _ (by omega) (by omega), n0 _ _ (by omega) (by omega), n0 _ _ (by omega) (by omega)]; exact h.r hr
  · rw [e 3 (by omega)] at hp
    rw [e _ (by omega), e _ (by omega), e _ (by omega), e _ (by omega), n0 _ _ (by omega) (by omega), n0 _ _ (by omega) (by omega), n0 _ _ (by omega) (by omega), n0 _ _ (by omega) (by omega)]; exact h.p hp
theorem VG.span (hv : VG mv) {i : Nat} (hi : i < 3) (e : ∀ k, ¬ (20 + 96 * i ≤ k ∧ k < 116 + 96 * i) → mv' k = mv k) (hb : ∀ q, q < 96 → mv' (20 + 96 * i + q) ≤ (if i = 0 then 9999 else if i = 1 then 9 else 99)) : VG mv' := by
  have hs := hv.s
  refine ⟨?_, fun q hq => ?_, fun g hg => ?_, fun r hr => ?_, fun p hp => ?_⟩
  · rw [e 0 (by omega), e 1 (by omega), e 2 (by omega), e 3 (by omega), e 9 (by omega), e 10 (by omega), e 11 (by omega), e 12 (by omega)]; omega
  · have h := hv.q hq
    have hb := hb q hq
    match i, hi, e, hb with
    | 0, _, e, hb => rw [e (116 + q) (by omega), e (212 + q) (by omega)]; rw [if_pos rfl] at hb; exact ⟨hb, h.2⟩
    | 1, _, e, hb => rw [e (20 + q) (by omega), e (212 + q) (by omega)]; rw [if_neg (by omega), if_pos rfl] at hb; exact ⟨h.1, hb, h.2.2⟩
    | 2, _, e, hb => rw [e (20 + q) (by omega), e (116 + q) (by omega)]; rw [if_neg (by omega), if_neg (by omega)] at hb; exact ⟨h.1, h.2.1, hb⟩
  · rw [e 1 (by omega)] at hg
    have h := hv.g hg
    rw [e (308 + 7 * g) (by omega)]
    exact ⟨h.1, h.2.1, fun s a b => by rw [e _ (by omega)]; exact h.2.2 s a b⟩
  · rw [e 2 (by omega)] at hr
    rw [e _ (by omega), e _ (by omega), e _ (by omega), e _ (by omega), e _ (by omega)]; exact hv.r hr
  · rw [e 3 (by omega)] at hp
    rw [e 2 (by omega), e _ (by omega), e _ (by omega), e _ (by omega), e _ (by omega)]; exact hv.p hp
theorem RGg.span (h : RGg σ g mv) (hv : VG mv) {i : Nat} (hi : i < 3) (e : ∀ k, ¬ (20 + 96 * i ≤ k ∧ k < 116 + 96 * i) → mv' k = mv k) (f : Fr P σ τ) (hP : ∀ p j, P p j → g ≤ p → p ≤ g + 15 → p = g + 2 + i) (hn : ∀ q, q < 96 → sI τ (g + 2 + i) q = J (mv' (20 + 96 * i + q))) : RGg τ g mv' := by
  have hs := hv.s
  have n0 : ∀ k j, k ≤ 15 → k ≠ 2 + i → sI τ (g + k) j = sI σ (g + k) j := fun k j hi hne => f.i (fun k => by have := hP _ _ k; omega)
  refine ⟨?_, fun q hq => ?_, fun i hi => ?_, fun i hi => ?_, fun r hr => ?_, fun p hp => ?_⟩
  · have n1 : ∀ j, sI τ g j = sI σ g j := fun j => n0 0 j (by omega) (by omega)
    rw [e 1 (by omega), e 2 (by omega), e 3 (by omega), e 9 (by omega), e 10 (by omega), e 11 (by omega), e 12 (by omega), n1, n1, n1, n1, n1, n1, n1]; exact h.s
  · have h2 := h.q hq
    have hn := hn q hq
    match i, hi, e, hn, n0 with
    | 0, _, e, hn, n0 => rw [e (116 + q) (by omega), e (212 + q) (by omega), n0 3 _ (by omega) (by omega), n0 4 _ (by omega) (by omega)]; exact ⟨hn, h2.2⟩
    | 1, _, e, hn, n0 => rw [e (20 + q) (by omega), e (212 + q) (by omega), n0 2 _ (by omega) (by omega), n0 4 _ (by omega) (by omega)]; exact ⟨h2.1, hn, h2.2.2⟩
    | 2, _, e, hn, n0 => rw [e (20 + q) (by omega), e (116 + q) (by omega), n0 2 _ (by omega) (by omega), n0 3 _ (by omega) (by omega)]; exact ⟨h2.1, h2.2.1, hn⟩
  · rw [n0 _ _ (by omega) (by omega)]; exact h.z hi
  · rw [e 1 (by omega)] at hi
    have h2 := h.g hi
    have h3 := hv.g hi
    rw [e (308 + 7 * i) (by omega), n0 _ _ (by omega) (by omega)]
    exact ⟨h2.1, fun s a b => by rw [e _ (by omega), n0 _ _ (by omega) (by omega)]; exact h2.2 s a b⟩
  · rw [e 2 (by omega)] at hr
    rw [e _ (by omega), e _ (by omega), e _ (by omega), e _ (by omega), e _ (by omega), n0 _ _ (by omega) (by omega), n0 _ _ (by omega) (by omega), n0 _ _ (by omega) (by omega), n0 _ _ (by omega) (by omega), n0 _ _ (by omega) (by omega)]; exact h.r hr
  · rw [e 3 (by omega)] at hp
    rw [e _ (by omega), e _ (by omega), e _ (by omega), e _ (by omega), n0 _ _ (by omega) (by omega), n0 _ _ (by omega) (by omega), n0 _ _ (by omega) (by omega), n0 _ _ (by omega) (by omega)]; exact h.p hp
theorem VG.gate (hv : VG mv) (h4 : mv 1 < 4) (e : ∀ k, k ≠ 1 → ¬ (308 + 7 * mv 1 ≤ k ∧ k < 315 + 7 * mv 1) → mv' k = mv k) (h1 : mv' 1 = mv 1 + 1) (hc : 1 ≤ mv' (308 + 7 * mv 1) ∧ mv' (308 + 7 * mv 1) ≤ 6) (hb : ∀ s, 1 ≤ s → s ≤ mv' (308 + 7 * mv 1) → mv' (308 + 7 * mv 1 + s) ≤ 9999) : VG mv' := by
  have hs := hv.s
  refine ⟨?_, fun q hq => ?_, fun g hg => ?_, fun r hr => ?_, fun p hp => ?_⟩
  · rw [e 0 (by omega) (by omega), h1, e 2 (by omega) (by omega), e 3 (by omega) (by omega), e 9 (by omega) (by omega), e 10 (by omega) (by omega), e 11 (by omega) (by omega), e 12 (by omega) (by omega)]; omega
  · rw [e _ (by omega) (by omega), e _ (by omega) (by omega), e _ (by omega) (by omega)]; exact hv.q hq
  · rw [h1] at hg
    by_cases c : g = mv 1
    · rw [c]; exact ⟨hc.1, hc.2, hb⟩
    · have h := hv.g (g := g) (by omega)
      rw [e (308 + 7 * g) (by omega) (by omega)]
      exact ⟨h.1, h.2.1, fun s a b => by rw [e _ (by omega) (by omega)]; exact h.2.2 s a b⟩
  · rw [e 2 (by omega) (by omega)] at hr
    rw [e _ (by omega) (by omega), e _ (by omega) (by omega), e _ (by omega) (by omega), e _ (by omega) (by omega), e _ (by omega) (by omega)]; exact hv.r hr
  · rw [e 3 (by omega) (by omega)] at hp
    rw [e 2 (by omega) (by omega), e _ (by omega) (by omega), e _ (by omega) (by omega), e _ (by omega) (by omega), e _ (by omega) (by omega)]; exact hv.p hp
theorem RGg.gate (h : RGg σ g mv) (hv : VG mv) (h4 : mv 1 < 4) (e : ∀ k, k ≠ 1 → ¬ (308 + 7 * mv 1 ≤ k ∧ k < 315 + 7 * mv 1) → mv' k = mv k) (h1 : mv' 1 = mv 1 + 1) (hc : mv' (308 + 7 * mv 1) ≤ 6) (f : Fr P σ τ)
    (hP : ∀ p j, P p j → g ≤ p → p ≤ g + 15 → (p = g ∧ j = 5) ∨ (p = g + 5 ∧ j = mv 1) ∨ (p = g + 6 ∧ mv 1 * 7 + 1 ≤ j ∧ j ≤ mv 1 * 7 + 6)) (hn : sI τ g 5 = J (mv 1 + 1) ∧ sI τ (g + 5) (mv 1) = J (mv' (308 + 7 * mv 1)) ∧ ∀ s, 1 ≤ s → s ≤ mv' (308 + 7 * mv 1) → sI τ (g + 6) (mv 1 * 7 + s) = J (mv' (308 + 7 * mv 1 + s))) : RGg τ g mv' := by
  have hs := hv.s
  have n0 : ∀ i j, i ≤ 15 → ¬ (i = 0 ∧ j = 5) → ¬ (i = 5 ∧ j = mv 1) → ¬ (i = 6 ∧ mv 1 * 7 + 1 ≤ j ∧ j ≤ mv 1 * 7 + 6) → sI τ (g + i) j = sI σ (g + i) j := fun i j hi a b c => f.i (fun k => by have := hP _ _ k; omega)
  have n1 : ∀ j, j ≠ 5 → sI τ g j = sI σ g j := fun j hj => n0 0 j (by omega) (by omega) (by omega) (by omega)
  refine ⟨?_, fun q hq => ?_, fun i hi => ?_, fun i hi => ?_, fun r hr => ?_, fun p hp => ?_⟩
  · rw [h1, e 2 (by omega) (by omega), e 3 (by omega) (by omega), e 9 (by omega) (by omega), e 10 (by omega) (by omega), e 11 (by omega) (by omega), e 12 (by omega) (by omega), n1 0 (by omega), n1 1 (by omega), n1 2 (by omega), n1 3 (by omega), n1 8 (by omega), n1 14 (by omega)]
    have h2 := h.s
    exact ⟨h2.1, h2.2.1, h2.2.2.1, h2.2.2.2.1, hn.1, h2.2.2.2.2.2.1, h2.2.2.2.2.2.2⟩
  · rw [n0 _ _ (by omega) (by omega) (by omega) (by omega), n0 _ _ (by omega) (by omega) (by omega) (by omega), n0 _ _ (by omega) (by omega) (by omega) (by omega), e _ (by omega) (by omega), e _ (by omega) (by omega), e _ (by omega) (by omega)]; exact h.q hq
  · rw [n0 _ _ (by omega) (by omega) (by omega) (by omega)]; exact h.z hi
  · rw [h1] at hi
    by_cases c : i = mv 1
    · rw [c]; exact ⟨hn.2.1, hn.2.2⟩
    · have h2 := h.g (i := i) (by omega)
      have h3 := hv.g (g := i) (by omega)
      rw [e (308 + 7 * i) (by omega) (by omega), n0 _ _ (by omega) (by omega) (by omega) (by omega)]
      exact ⟨h2.1, fun s a b => by rw [e _ (by omega) (by omega), n0 _ _ (by omega) (by omega) (by omega) (by omega)]; exact h2.2 s a b⟩
  · rw [e 2 (by omega) (by omega)] at hr
    rw [e _ (by omega) (by omega), e _ (by omega) (by omega), e _ (by omega) (by omega), e _ (by omega) (by omega), e _ (by omega) (by omega), n0 _ _ (by omega) (by omega) (by omega) (by omega), n0 _ _ (by omega) (by omega) (by omega) (by omega), n0 _ _ (by omega) (by omega) (by omega) (by omega), n0 _ _ (by omega) (by omega) (by omega) (by omega), n0 _ _ (by omega) (by omega) (by omega) (by omega)]; exact h.r hr
  · rw [e 3 (by omega) (by omega)] at hp
    rw [e _ (by omega) (by omega), e _ (by omega) (by omega), e _ (by omega) (by omega), e _ (by omega) (by omega), n0 _ _ (by omega) (by omega) (by omega) (by omega), n0 _ _ (by omega) (by omega) (by omega) (by omega), n0 _ _ (by omega) (by omega) (by omega) (by omega), n0 _ _ (by omega) (by omega) (by omega) (by omega)]; exact h.p hp
theorem VG.reach (hv : VG mv) (h8 : mv 2 < 8) (e : ∀ k, k ≠ 2 → ¬ (336 + 5 * mv 2 ≤ k ∧ k < 341 + 5 * mv 2) → mv' k = mv k) (h2 : mv' 2 = mv 2 + 1) (hc : 1 ≤ mv' (336 + 5 * mv 2) ∧ mv' (336 + 5 * mv 2) ≤ 999 ∧ mv' (336 + 5 * mv 2 + 1) ≤ 100 ∧ mv' (336 + 5 * mv 2 + 2) ≤ 100 ∧ mv' (336 + 5 * mv 2 + 3) ≤ 999 ∧ mv' (336 + 5 * mv 2 + 4) ≤ 99) : VG mv' := by
  have hs := hv.s
  refine ⟨?_, fun q hq => ?_, fun g hg => ?_, fun r hr => ?_, fun p hp => ?_⟩
  · rw [e 0 (by omega) (by omega), h2, e 1 (by omega) (by omega), e 3 (by omega) (by omega), e 9 (by omega) (by omega), e 10 (by omega) (by omega), e 11 (by omega) (by omega), e 12 (by omega) (by omega)]; omega
  · rw [e _ (by omega) (by omega), e _ (by omega) (by omega), e _ (by omega) (by omega)]; exact hv.q hq
  · rw [e 1 (by omega) (by omega)] at hg
    have h := hv.g hg
    rw [e (308 + 7 * g) (by omega) (by omega)]
    exact ⟨h.1, h.2.1, fun s a b => by rw [e _ (by omega) (by omega)]; exact h.2.2 s a b⟩
  · rw [h2] at hr
    by_cases c : r = mv 2
    · rw [c]; exact hc
    · rw [e _ (by omega) (by omega), e _ (by omega) (by omega), e _ (by omega) (by omega), e _ (by omega) (by omega), e _ (by omega) (by omega)]; exact hv.r (by omega)
  · rw [e 3 (by omega) (by omega)] at hp
    have h := hv.p hp
    rw [h2, e _ (by omega) (by omega), e _ (by omega) (by omega), e _ (by omega) (by omega), e _ (by omega) (by omega)]; omega
theorem RGg.reach (h : RGg σ g mv) (hv : VG mv) (h8 : mv 2 < 8) (e : ∀ k, k ≠ 2 → ¬ (336 + 5 * mv 2 ≤ k ∧ k < 341 + 5 * mv 2) → mv' k = mv k) (h2 : mv' 2 = mv 2 + 1) (f : Fr P σ τ) (hP : ∀ p j, P p j → g ≤ p → p ≤ g + 15 → (p = g ∧ j = 8) ∨ (g + 7 ≤ p ∧ p ≤ g + 11 ∧ j = mv 2))
    (hn : sI τ g 8 = J (mv 2 + 1) ∧ sI τ (g + 7) (mv 2) = J (mv' (336 + 5 * mv 2)) ∧ sI τ (g + 8) (mv 2) = J (mv' (336 + 5 * mv 2 + 1)) ∧ sI τ (g + 9) (mv 2) = J (mv' (336 + 5 * mv 2 + 2)) ∧ sI τ (g + 10) (mv 2) = J (mv' (336 + 5 * mv 2 + 3)) ∧ sI τ (g + 11) (mv 2) = J (mv' (336 + 5 * mv 2 + 4))) : RGg τ g mv' := by
  have hs := hv.s
  have n0 : ∀ i j, i ≤ 15 → ¬ (i = 0 ∧ j = 8) → ¬ (7 ≤ i ∧ i ≤ 11 ∧ j = mv 2) → sI τ (g + i) j = sI σ (g + i) j := fun i j hi a b => f.i (fun k => by have := hP _ _ k; omega)
  have n1 : ∀ j, j ≠ 8 → sI τ g j = sI σ g j := fun j hj => n0 0 j (by omega) (by omega) (by omega)
  refine ⟨?_, fun q hq => ?_, fun i hi => ?_, fun i hi => ?_, fun r hr => ?_, fun p hp => ?_⟩
  · rw [e 1 (by omega) (by omega), h2, e 3 (by omega) (by omega), e 9 (by omega) (by omega), e 10 (by omega) (by omega), e 11 (by omega) (by omega), e 12 (by omega) (by omega), n1 0 (by omega), n1 1 (by omega), n1 2 (by omega), n1 3 (by omega), n1 5 (by omega), n1 14 (by omega)]
    have h2 := h.s
    exact ⟨h2.1, h2.2.1, h2.2.2.1, h2.2.2.2.1, h2.2.2.2.2.1, hn.1, h2.2.2.2.2.2.2⟩
  · rw [n0 _ _ (by omega) (by omega) (by omega), n0 _ _ (by omega) (by omega) (by omega), n0 _ _ (by omega) (by omega) (by omega), e _ (by omega) (by omega), e _ (by omega) (by omega), e _ (by omega) (by omega)]; exact h.q hq
  · rw [n0 _ _ (by omega) (by omega) (by omega)]; exact h.z hi
  · rw [e 1 (by omega) (by omega)] at hi
    have h2 := h.g hi
    have h3 := hv.g hi
    rw [e (308 + 7 * i) (by omega) (by omega), n0 _ _ (by omega) (by omega) (by omega)]
    exact ⟨h2.1, fun s a b => by rw [e _ (by omega) (by omega), n0 _ _ (by omega) (by omega) (by omega)]; exact h2.2 s a b⟩
  · rw [h2] at hr
    by_cases c : r = mv 2
    · rw [c]; exact hn.2
    · rw [e _ (by omega) (by omega), e _ (by omega) (by omega), e _ (by omega) (by omega), e _ (by omega) (by omega), e _ (by omega) (by omega), n0 _ _ (by omega) (by omega) (by omega), n0 _ _ (by omega) (by omega) (by omega), n0 _ _ (by omega) (by omega) (by omega), n0 _ _ (by omega) (by omega) (by omega), n0 _ _ (by omega) (by omega) (by omega)]; exact h.r (by omega)
  · rw [e 3 (by omega) (by omega)] at hp
    rw [e _ (by omega) (by omega), e _ (by omega) (by omega), e _ (by omega) (by omega), e _ (by omega) (by omega), n0 _ _ (by omega) (by omega) (by omega), n0 _ _ (by omega) (by omega) (by omega), n0 _ _ (by omega) (by omega) (by omega), n0 _ _ (by omega) (by omega) (by omega)]; exact h.p hp
theorem VG.place (hv : VG mv) (h12 : mv 3 < 12) (e : ∀ k, k ≠ 3 → ¬ (376 + 4 * mv 3 ≤ k ∧ k < 380 + 4 * mv 3) → mv' k = mv k) (h3 : mv' 3 = mv 3 + 1) (hc : mv' (376 + 4 * mv 3) < mv 2 ∧ mv' (376 + 4 * mv 3 + 1) ≤ 999 ∧ mv' (376 + 4 * mv 3 + 2) ≤ 12 ∧ mv' (376 + 4 * mv 3 + 3) ≤ 999) : VG mv' := by
  have hs := hv.s
  refine ⟨?_, fun q hq => ?_, fun g hg => ?_, fun r hr => ?_, fun p hp => ?_⟩
  · rw [e 0 (by omega) (by omega), h3, e 1 (by omega) (by omega), e 2 (by omega) (by omega), e 9 (by omega) (by omega), e 10 (by omega) (by omega), e 11 (by omega) (by omega), e 12 (by omega) (by omega)]; omega
  · rw [e _ (by omega) (by omega), e _ (by omega) (by omega), e _ (by omega) (by omega)]; exact hv.q hq
  · rw [e 1 (by omega) (by omega)] at hg
    have h := hv.g hg
    rw [e (308 + 7 * g) (by omega) (by omega)]
    exact ⟨h.1, h.2.1, fun s a b => by rw [e _ (by omega) (by omega)]; exact h.2.2 s a b⟩
  · rw [e 2 (by omega) (by omega)] at hr
    rw [e _ (by omega) (by omega), e _ (by omega) (by omega), e _ (by omega) (by omega), e _ (by omega) (by omega), e _ (by omega) (by omega)]; exact hv.r hr
  · rw [h3] at hp
    rw [e 2 (by omega) (by omega)]
    by_cases c : p = mv 3
    · rw [c]; exact hc
    · rw [e _ (by omega) (by omega), e _ (by omega) (by omega), e _ (by omega) (by omega), e _ (by omega) (by omega)]; exact hv.p (by omega)
theorem RGg.place (h : RGg σ g mv) (hv : VG mv) (h12 : mv 3 < 12) (e : ∀ k, k ≠ 3 → ¬ (376 + 4 * mv 3 ≤ k ∧ k < 380 + 4 * mv 3) → mv' k = mv k) (h3 : mv' 3 = mv 3 + 1) (f : Fr P σ τ) (hP : ∀ p j, P p j → g ≤ p → p ≤ g + 15 → (p = g ∧ j = 14) ∨ (g + 12 ≤ p ∧ p ≤ g + 15 ∧ j = mv 3))
    (hn : sI τ g 14 = J (mv 3 + 1) ∧ sI τ (g + 12) (mv 3) = J (mv' (376 + 4 * mv 3)) ∧ sI τ (g + 13) (mv 3) = J (mv' (376 + 4 * mv 3 + 1)) ∧ sI τ (g + 14) (mv 3) = J (mv' (376 + 4 * mv 3 + 2)) ∧ sI τ (g + 15) (mv 3) = J (mv' (376 + 4 * mv 3 + 3))) : RGg τ g mv' := by
  have hs := hv.s
  have n0 : ∀ i j, i ≤ 15 → ¬ (i = 0 ∧ j = 14) → ¬ (12 ≤ i ∧ j = mv 3) → sI τ (g + i) j = sI σ (g + i) j := fun i j hi a b => f.i (fun k => by have := hP _ _ k; omega)
  have n1 : ∀ j, j ≠ 14 → sI τ g j = sI σ g j := fun j hj => n0 0 j (by omega) (by omega) (by omega)
  refine ⟨?_, fun q hq => ?_, fun i hi => ?_, fun i hi => ?_, fun r hr => ?_, fun p hp => ?_⟩
  · rw [e 1 (by omega) (by omega), h3, e 2 (by omega) (by omega), e 9 (by omega) (by omega), e 10 (by omega) (by omega), e 11 (by omega) (by omega), e 12 (by omega) (by omega), n1 0 (by omega), n1 1 (by omega), n1 2 (by omega), n1 3 (by omega), n1 5 (by omega), n1 8 (by omega)]
    have h2 := h.s
    exact ⟨h2.1, h2.2.1, h2.2.2.1, h2.2.2.2.1, h2.2.2.2.2.1, h2.2.2.2.2.2.1, hn.1⟩
  · rw [n0 _ _ (by omega) (by omega) (by omega), n0 _ _ (by omega) (by omega) (by omega), n0 _ _ (by omega) (by omega) (by omega), e _ (by omega) (by omega), e _ (by omega) (by omega), e _ (by omega) (by omega)]; exact h.q hq
  · rw [n0 _ _ (by omega) (by omega) (by omega)]; exact h.z hi
  · rw [e 1 (by omega) (by omega)] at hi
    have h2 := h.g hi
    have h3 := hv.g hi
    rw [e (308 + 7 * i) (by omega) (by omega), n0 _ _ (by omega) (by omega) (by omega)]
    exact ⟨h2.1, fun s a b => by rw [e _ (by omega) (by omega), n0 _ _ (by omega) (by omega) (by omega)]; exact h2.2 s a b⟩
  · rw [e 2 (by omega) (by omega)] at hr
    rw [e _ (by omega) (by omega), e _ (by omega) (by omega), e _ (by omega) (by omega), e _ (by omega) (by omega), e _ (by omega) (by omega), n0 _ _ (by omega) (by omega) (by omega), n0 _ _ (by omega) (by omega) (by omega), n0 _ _ (by omega) (by omega) (by omega), n0 _ _ (by omega) (by omega) (by omega), n0 _ _ (by omega) (by omega) (by omega)]; exact h.r hr
  · rw [h3] at hp
    by_cases c : p = mv 3
    · rw [c]; exact hn.2
    · rw [e _ (by omega) (by omega), e _ (by omega) (by omega), e _ (by omega) (by omega), e _ (by omega) (by omega), n0 _ _ (by omega) (by omega) (by omega), n0 _ _ (by omega) (by omega) (by omega), n0 _ _ (by omega) (by omega) (by omega), n0 _ _ (by omega) (by omega) (by omega)]; exact h.p (by omega)
