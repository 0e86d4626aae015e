/-! ===== the law's round: what stands between two calls ===== -/
variable {d : Nat} {B : Nat × Nat} {Q : Out → Sto → Prop} {P : Nat → Nat → Prop} {σ τ : Sto} {x0 y0 L : Nat} {mv kv mv' kv' mv2 kv2 : Mem} {img img' img2 : Bool} {tp tp' tp2 : Mem} {n n' n2 : Nat} {fl fl' fl2 : Option Nat} {xs : Nat → Int32}
theorem CIv.rf (h : CIv σ x0 mv kv img tp n fl) (f : Fr P σ τ) (hP : ∀ p j, P p j → 260 ≤ p ∧ p ≤ 277) : CIv τ x0 mv kv img tp n fl := by
  obtain ⟨⟨a1, a2, a3, a4, a5, a6, a7, a8⟩, b⟩ := h
  have hx := a1.1
  have hs := a3.1.s
  have hn : ∀ p j, p < 260 → sI τ p j = sI σ p j := fun p j hh => f.i (fun k => by have := hP p j k; omega)
  refine ⟨⟨⟨a1.1, by rw [f.N]; exact a1.2⟩, f.sh a2, ⟨a3.1, a3.2.1, a3.2.2.fr a3.2.1.s.1 f (fun p j k => ?_)⟩, fun hi => ⟨(a4 hi).1, (a4 hi).2.1, (a4 hi).2.2.fr (a4 hi).2.1.s.1 f (fun p j k => ?_)⟩, ?_, ⟨?_, a6.2.1, fun k hk => ?_⟩, ⟨?_, a7.2⟩, ?_⟩, ?_⟩
  · have := hP _ _ k; omega
  · have := hP _ _ k; omega
  · rw [hn _ _ (by omega)]; exact a5
  · rw [hn _ _ (by omega)]; exact a6.1
  · rw [hn _ _ (by omega)]; exact a6.2.2 k hk
  · rw [hn _ _ (by omega)]; exact a7.1
  · refine ⟨by rw [hn _ _ (by omega)]; exact a8.1, a8.2.1.fr f (fun j k => ?_), a8.2.2.fr f (fun j k => ?_)⟩
    · have := hP _ _ k; omega
    · have := hP _ _ k; omega
  · rcases b with e | ⟨o, h3, h4, h5⟩
    · exact Or.inl (by rw [hn _ _ (by omega)]; exact e)
    · refine Or.inr ⟨o, h3, by rw [hn _ _ (by omega)]; exact h4, fun q hq => ⟨?_, fun r hr => ?_⟩⟩
      · rw [hn _ _ (by omega), hn _ _ (by omega), hn _ _ (by omega)]; exact (h5 q hq).1
      · rw [hn _ _ (by omega), hn _ _ (by omega)]; exact (h5 q hq).2 r hr
theorem RIv.f2 (h : RIv σ 260 mv kv img tp n fl) (f : FC2 σ τ) : RIv τ 260 mv kv img tp n fl := by
  obtain ⟨⟨s1, s2⟩, a2, a3, a4, a5, a6⟩ := h
  have e : ∀ p j, 260 ≤ p → p < 278 → sI τ p j = sI σ p j := fun p j h1 h2 => by rw [(f.2 p (by omega)).2.2.2.1]
  have p12 : ∀ k, k < 16 → (ps_12.getD k (0, 0, 0)).1 = 0 := by decide
  refine ⟨⟨fun k hk => ?_, fun k hk => ?_⟩, fun k hk => ?_, fun hi k hk => ?_, ?_, ⟨?_, fun k hk => ?_⟩, ?_⟩
  · rw [(f.2 (260 + k) (by omega)).1, (f.2 (260 + k) (by omega)).2.1]; exact s1 k hk
  · rw [(f.2 _ (by rw [p12 k hk]; omega)).2.2.1]; exact s2 k hk
  · rw [e _ _ (by omega) (by omega)]; exact a2 k hk
  · rw [e _ _ (by omega) (by omega)]; exact a3 hi k hk
  · rw [e _ _ (by omega) (by omega)]; exact a4
  · rw [e _ _ (by omega) (by omega)]; exact a5.1
  · rw [e _ _ (by omega) (by omega)]; exact a5.2 k hk
  · rw [e _ _ (by omega) (by omega)]; exact a6
theorem WRD.f2 (h : WRD σ) (f : FC2 σ τ) : WRD τ := fun i w k => by
  obtain ⟨h1, h2, h3, h4, h5, h6, h7⟩ := h i w k
  have g := f.2 i (by omega)
  have g1 := f.2 (i + 1) (by omega)
  exact ⟨h1, by rw [g.1]; exact h2, by rw [g.2.2.2.1]; exact h3, by rw [g.2.2.1]; exact h4, by rw [g1.1]; exact h5, by rw [g1.2.1]; exact h6, fun j hj => by rw [g1.2.2.2.1]; exact h7 j hj⟩
/-- the script, the answer's cell -/
def SCt (σ : Sto) (L : Nat) (xs : Nat → Int32) : Prop := (sK σ 0 = 21 ∧ sZ σ 0 = L ∧ ∀ j, sI σ 0 j = xs j) ∧ (sK σ 277 = 15 ∧ sZ σ 277 = 1)
theorem SCt.fr (h : SCt σ L xs) (f : Fr P σ τ) (hP : ∀ p j, P p j → 96 ≤ p) : SCt τ L xs := ⟨⟨by rw [f.K]; exact h.1.1, by rw [f.Z]; exact h.1.2.1, fun j => by rw [f.i (fun k => by have := hP _ _ k; omega)]; exact h.1.2.2 j⟩, by rw [f.K]; exact h.2.1, by rw [f.Z]; exact h.2.2⟩
theorem SCt.f2 (h : SCt σ L xs) (f : FC2 σ τ) : SCt τ L xs := by
  have g := f.2 0 (by omega)
  have g1 := f.2 277 (by omega)
  exact ⟨⟨by rw [g.1]; exact h.1.1, by rw [g.2.1]; exact h.1.2.1, fun j => by rw [g.2.2.2.1]; exact h.1.2.2 j⟩, by rw [g1.1]; exact h.2.1, by rw [g1.2.1]; exact h.2.2⟩
/-- the class in one state of the mathematics, the reference in one (of which the class's is the newer) -/
def LI2 (L : Nat) (xs : Nat → Int32) (σ : Sto) (mv kv : Mem) (img : Bool) (tp : Mem) (n : Nat) (fl : Option Nat) (mv' kv' : Mem) (img' : Bool) (tp' : Mem) (n' : Nat) (fl' : Option Nat) : Prop :=
  CIv σ 96 mv' kv' img' tp' n' fl' ∧ RIv σ 260 mv kv img tp n fl ∧ WRD σ ∧ SCt σ L xs
def LI (L : Nat) (xs : Nat → Int32) (σ : Sto) : Prop := ∃ mv kv img tp n fl, LI2 L xs σ mv kv img tp n fl mv kv img tp n fl
theorem LI2.c (h : LI2 L xs σ mv kv img tp n fl mv2 kv2 img2 tp2 n2 fl2) (hc : CIv τ 96 mv' kv' img' tp' n' fl') (f : FC2 σ τ) : LI2 L xs τ mv kv img tp n fl mv' kv' img' tp' n' fl' := ⟨hc, h.2.1.f2 f, h.2.2.1.f2 f, h.2.2.2.f2 f⟩
theorem LI2.o (h : LI2 L xs σ mv kv img tp n fl mv' kv' img' tp' n' fl') {v : Int64} : LI2 L xs (setL σ 277 0 v) mv kv img tp n fl mv' kv' img' tp' n' fl' := by
  have f : Fr (fun p _ => p = 277) σ (setL σ 277 0 v) := Fr.rf.setL rfl
  exact ⟨h.1.rf f (fun p j k => by omega), h.2.1.fr f (fun p j k _ _ => by omega), h.2.2.1.fr f (fun p j k => by omega), h.2.2.2.fr f (fun p j k => by omega)⟩
theorem LI2.r (h : LI2 L xs σ mv2 kv2 img2 tp2 n2 fl2 mv' kv' img' tp' n' fl') (hr : RIv τ 260 mv' kv' img' tp' n' fl') (f : FRf σ τ) : LI L xs τ := ⟨mv', kv', img', tp', n', fl', h.1.rf f (fun p j k => by omega), hr, h.2.2.1.fr f (fun p j k => by omega), h.2.2.2.fr f (fun p j k => by omega)⟩
theorem LI2.oc (h : LI2 L xs σ mv kv img tp n fl mv' kv' img' tp' n' fl') : sK σ 277 = 15 ∧ vp_in (J 0) (sZ σ 277) := ⟨h.2.2.2.2.1, by rw [h.2.2.2.2.2]; exact (by simp (disch := omega) only [J_add, J_mul, J_sub, J_cl, vp_J]; omega)⟩
/-- the round behind the two calls -/
def NX7 (d : Nat) (B : Nat × Nat) (L : Nat) (xs : Nat → Int32) (x4 : Int32) (Q : Out → Sto → Prop) : Prop := ∀ ρ x5 x6 x7 (B2 : Nat × Nat), (B.1 - 16 ≤ B2.1 ∧ B.2 - 1000 ≤ B2.2) → LI L xs ρ → WP gT (d + 20) B2 307 3268 [.ref 0, .ref 96, .ref 260, .ref 277, .int x4, x5, x6, x7] [] ρ Q
theorem IX_J {a : Int32} {k k' : Nat} (h : a = J k) (h' : a = J k') (hk : k < 2147483648) (hk' : k' < 2147483648) : k' = k := J_inj hk' hk (h'.symm.trans h)
