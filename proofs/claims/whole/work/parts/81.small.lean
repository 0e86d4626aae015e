/-! ===== small calls that change the day ===== -/
variable {d : Nat} {B : Nat × Nat} {Q : Out → Sto → Prop} {P : Nat → Nat → Prop} {σ τ : Sto} {x0 y0 : Nat} {mv mv' kv : Mem} {img : Bool} {tp : Mem} {n : Nat} {fl : Option Nat}
theorem in_iff {x : Int32} {a b : Nat} (ha : a < 2147483648) (hb : b < 2147483648) : IN x a b ↔ ¬ x < J a ∧ ¬ J b < x := by
  unfold IN
  rw [← isIn_J ha hb]
  simp only [Int32.lt_iff_toInt_lt, Int32.le_iff_toInt_le]
  omega
theorem CIv.chg (h : CIv σ x0 mv kv img tp n fl) (f : Fr P σ τ) (hP : ∀ p j, P p j → (p = x0 + 24 ∨ (x0 + 41 ≤ p ∧ p ≤ x0 + 60))) (ga : AG gS mv mv') (h4 : mv 4 ≤ mv' 4) (hs : ∀ o, o < mv 4 → sI σ x0 12 = J o → ∀ k, k < 384 → stO mv' o k = stO mv o k) (ho : VOo mv')
    (p1 : RPp τ (x0 + 48) mv') (p2 : RSc τ (x0 + 24) mv') (p3 : ROp τ (x0 + 24) mv') (p4 : RLg τ (x0 + 24) mv') (p5 : RRl τ (x0 + 24) mv') (hb : ∀ j, P (x0 + 24 + 36) j → sI τ (x0 + 24 + 36) j = J 0 ∨ sI τ (x0 + 24 + 36) j = J 1 := by intro j hj; exfalso; omega) : CIv τ x0 mv' kv img tp n fl := by
  have hx := h.x
  have hv := h.mv_.1
  have hG : RGg τ (x0 + 24 + 1) mv' := (h.G.fr f (fun i j hi k => by have := hP _ _ k; omega)).cg hv ga
  exact ⟨h.1.chg f (fun p j k => by have := hP _ _ k; omega) (hv.cg ga) ho ⟨hG, p1, p2, p3, p4, p5⟩ hb, h.2.chg hv f (fun p j k => by have := hP _ _ k; omega) hx ga h4 hs⟩
theorem CIv.p1 (h : CIv σ x0 mv kv img tp n fl) (f : Fr P σ τ) (hP : ∀ i j, i < 9 → ¬ P (x0 + 48 + i) j) (pa : AG pS mv mv') : RPp τ (x0 + 48) mv' := (h.Pp.fr f hP).cg h.mv_.2.1 pa
theorem CIv.p3 (h : CIv σ x0 mv kv img tp n fl) (f : Fr P σ τ) (hP : ∀ i j, i < 6 → ¬ P (x0 + 42 + i) j) (oa : AG oS mv mv') : ROp τ (x0 + 24) mv' := by
  have h0 : ROp σ (x0 + 24) mv := h.mv_.2.2.2.2.2.1
  have ho := h.mv_.2.1.s
  have h1 : ROp τ (x0 + 24) mv := fun o hk k hk2 => by
    rw [show x0 + 24 + 18 + o = x0 + 42 + o by omega, f.i (hP o k (by omega)), show x0 + 42 + o = x0 + 24 + 18 + o by omega]; exact h0 o hk k hk2
  exact h1.cg h.mv_.2.1 oa
theorem CIv.p4 (h : CIv σ x0 mv kv img tp n fl) (f : Fr P σ τ) (hP : ∀ i j, i < 3 → ¬ P (x0 + 58 + i) j) (la : AG lS mv mv') : RLg τ (x0 + 24) mv' := by
  have h0 : RLg σ (x0 + 24) mv := h.mv_.2.2.2.2.2.2.1
  have h1 : RLg τ (x0 + 24) mv := fun l hl => by
    rw [show x0 + 24 + 34 = x0 + 58 + 0 by omega, show x0 + 24 + 35 = x0 + 58 + 1 by omega, show x0 + 24 + 36 = x0 + 58 + 2 by omega, f.i (hP 0 l (by omega)), f.i (hP 1 l (by omega)), f.i (hP 2 l (by omega))]; exact h0 l hl
  exact h1.cg h.mv_.2.1 la
theorem CIv.p5 (h : CIv σ x0 mv kv img tp n fl) (f : Fr P σ τ) (hP : ∀ p j, P p j → 278 ≤ p → p % 6 = 1) (ua : AG uS mv mv') : RRl τ (x0 + 24) mv' := (RRl.fr h.mv_.2.2.2.2.2.2.2 f hP).cg ua
theorem CIv.sc (h : CIv σ x0 mv kv img tp n fl) : RSc σ (x0 + 24) mv := h.mv_.2.2.2.2.1
theorem VOo.chg (ho : VOo mv) (h3 : mv' 3 = mv 3) (hs : mv' 7 ≤ 4 ∧ mv' 13 ≤ 9999 ∧ mv' 14 ≤ 1000 ∧ mv' 15 ≤ 999 ∧ mv' 16 ≤ 99999) (oa : AG oS mv mv') (pa : AG pS mv mv') (la : AG lS mv mv') : VOo mv' := by
  have ho1 := ho.s
  have e1 : ∀ k, (k = 5 ∨ k = 6 ∨ (2728 ≤ k ∧ k < 2836)) → mv' k = mv k := pa
  have e2 : ∀ k, (k = 8 ∨ (2836 ≤ k ∧ k < 2884)) → mv' k = mv k := la
  have e3 : ∀ k, (k = 4 ∨ (424 ≤ k ∧ k < 2728)) → mv' k = mv k := oa
  have e4 := e3 4 (by omega)
  have e5 := e1 5 (by omega)
  have e6 := e1 6 (by omega)
  have e8 := e2 8 (by omega)
  refine ⟨by omega, fun o hk k hk2 => ?_, fun k hk => ?_, fun c hc => ?_, fun p => ?_, fun l hl => ?_⟩
  · rw [e4] at hk; rw [e3 _ (by omega)]; exact ho.2.1 o hk k hk2
  · rw [e5] at hk; rw [h3, e1 _ (by omega), e1 _ (by omega), e1 _ (by omega), e1 _ (by omega), e1 _ (by omega), e1 _ (by omega)]; exact ho.k hk
  · rw [e6] at hc; rw [h3, e1 _ (by omega), e1 _ (by omega)]; exact ho.c hc
  · rw [e6]
    show cntC (fun i => mv' (2788 + 2 * i)) p (mv 6) ≤ 4
    rw [cntC_cong (cp' := fun i => mv (2788 + 2 * i)) (mv 6) (fun i hi => e1 _ (by omega))]; exact ho.c4 p
  · rw [e8] at hl; rw [h3, e2 _ (by omega), e2 _ (by omega), e2 _ (by omega)]; exact ho.l hl
theorem cc_turbine (h : CIv σ x0 mv kv img tp n fl) (hB : 16 ≤ B.1 ∧ 1000 ≤ B.2) {a1 : Int32} (h0 : ∀ k, k ≤ 9999 → a1 = J k → ∀ τ, CIv τ x0 (up mv 13 k) kv img tp n fl → FCl σ τ → Q (.inl none) τ) (h1 : ¬ IN a1 0 9999 → Q (.inr 1) σ) : WP gT (d + 17) B 128 0 [.ref x0, .int a1] [] σ Q := by
  have hx := h.x
  have ho := h.mv_.2.1
  have ho1 := ho.s
  refine g_128_0 h.sh hB ⟨fun c => ?_, fun c => h1 (fun k => ?_)⟩
  · have hin : IN a1 0 9999 := (in_iff (by omega) (by omega)).mpr ⟨fun e => c (by rw [if_pos e]), fun e => c (by rw [if_pos e]; split <;> rfl)⟩
    obtain ⟨k, _, hk, rfl⟩ := hin
    have hF : Fr (fun p j => p = x0 + 24 ∧ j = 8) σ (setI σ (x0 + 24) 8 (J k)) := Fr.rf.setI ⟨rfl, rfl⟩
    refine h0 k hk rfl _ (h.chg hF (fun p j k => by omega) (AG.rf.up (by unfold gS; omega)) (by rw [up_ne (by omega)]; exact Nat.le_refl _) (fun o _ _ k hk => by unfold stO; rw [up_ne (by omega)]) ?_ (h.p1 hF (fun i j hi k => by omega) (AG.rf.up (by unfold pS; omega))) ?_ (h.p3 hF (fun i j hi k => by omega) (AG.rf.up (by unfold oS; omega))) (h.p4 hF (fun i j hi k => by omega) (AG.rf.up (by unfold lS; omega))) (h.p5 hF (fun p j k _ => by omega) (AG.rf.up (by unfold uS; omega)))) (FCl.of hx hF (fun p j k => by omega))
    · refine ho.chg (by rw [up_ne (by omega)]) ?_ (AG.rf.up (by unfold oS; omega)) (AG.rf.up (by unfold pS; omega)) (AG.rf.up (by unfold lS; omega))
      rw [up_ne (by omega), up_eq, up_ne (by omega), up_ne (by omega), up_ne (by omega)]; omega
    · have hsc := h.sc
      refine ⟨?_, ?_, ?_, ?_, ?_, ?_, ?_, ?_⟩
      all_goals first | (rw [sI_same, up_eq]) | (rw [sI_any (by omega), up_ne (by omega)]; first | exact hsc.1 | exact hsc.2.1 | exact hsc.2.2.1 | exact hsc.2.2.2.1 | exact hsc.2.2.2.2.1 | exact hsc.2.2.2.2.2.2.1 | exact hsc.2.2.2.2.2.2.2)
  · have := (in_iff (by omega) (by omega)).mp k
    exact c (by rw [if_neg this.1, if_neg this.2]; decide)
theorem rr_turbine (hy : y0 = 260) (h : RIv σ y0 mv kv img tp n fl) {a1 : Int32} (h0 : ∀ k, k ≤ 9999 → a1 = J k → ∀ τ, RIv τ y0 (up mv 13 k) kv img tp n fl → FRf σ τ → sI τ y0 0 = J 0 → Q (.inl none) τ) (h1 : ¬ IN a1 0 9999 → ∀ τ, RIv τ y0 mv kv img tp n fl → FRf σ τ → sI τ y0 0 = J 1 → Q (.inl none) τ) : WP gT (d + 1) B 250 0 [.ref y0, .int a1] [] σ Q := by
  refine g_250_0 h.1 ?_
  by_cases c : f_162 σ a1 (J 0) (J 9999) = J 0
  · simp only [if_pos c]
    exact ⟨fun e => absurd e ret1, fun _ => h1 ((r162 (by omega) (by omega)).mp c) _ h.thr (FRf.th hy) sI_same⟩
  · simp only [if_neg c]
    have hin : IN a1 0 9999 := Classical.not_not.mp (fun e => c ((r162 (by omega) (by omega)).mpr e))
    obtain ⟨k, _, hk, rfl⟩ := hin
    refine ⟨fun _ => ?_, fun e => absurd ret0 e⟩
    have hF : Fr (fun p j => p = y0 + 1 ∨ (p = y0 ∧ j = 0)) σ (setI (setI σ y0 0 (J 0)) (y0 + 1) 13 (J k)) := (Fr.rf.setI (Or.inr ⟨rfl, rfl⟩)).setI (Or.inl rfl)
    exact h0 k hk rfl _ (h.chg hF (fun p j k => by unfold SRr; omega) h.2.1.th.up) (FRf.of hy hF (fun p j k => by omega)) (by rw [sI_any (by omega), sI_same])
