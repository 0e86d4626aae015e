/-! ===== bounds, people, calls, logs ===== -/
variable {d : Nat} {B : Nat × Nat} {Q : Out → Sto → Prop} {P : Nat → Nat → Prop} {σ τ : Sto} {x0 y0 : Nat} {mv mv' kv : Mem} {img : Bool} {tp : Mem} {n : Nat} {fl : Option Nat}
def bndM (mv : Mem) (a b c : Nat) : Mem := up (up (up mv 14 a) 15 b) 16 c
theorem cc_bounds (h : CIv σ x0 mv kv img tp n fl) (hB : 16 ≤ B.1 ∧ 1000 ≤ B.2) {a1 a2 a3 : Int32} (h0 : ∀ k1 k2 k3, k1 ≤ 1000 → k2 ≤ 999 → k3 ≤ 99999 → a1 = J k1 → a2 = J k2 → a3 = J k3 → ∀ τ, CIv τ x0 (bndM mv k1 k2 k3) kv img tp n fl → FCl σ τ → Q (.inl none) τ) (h1 : ¬ (IN a1 0 1000 ∧ IN a2 0 999 ∧ IN a3 0 99999) → Q (.inr 1) σ) : WP gT (d + 17) B 120 0 [.ref x0, .int a1, .int a2, .int a3] [] σ Q := by
  have hx := h.x
  have ho := h.mv_.2.1
  have ho1 := ho.s
  refine g_120_0 h.sh hB (fun u hu => ⟨fun c => ?_, fun c => h1 (fun k => c ?_)⟩)
  · have hin : IN a1 0 1000 ∧ IN a2 0 999 ∧ IN a3 0 99999 := by
      refine ⟨(in_iff (by omega) (by omega)).mpr ⟨fun e => c ?_, fun e => c ?_⟩, (in_iff (by omega) (by omega)).mpr ⟨fun e => c ?_, fun e => c ?_⟩, (in_iff (by omega) (by omega)).mpr ⟨fun e => c ?_, fun e => c ?_⟩⟩
      all_goals (rw [hu]; simp only [if_pos e, ite_self])
    obtain ⟨⟨k1, _, hk1, rfl⟩, ⟨k2, _, hk2, rfl⟩, ⟨k3, _, hk3, rfl⟩⟩ := hin
    have hF : Fr (fun p j => p = x0 + 24 ∧ 5 ≤ j ∧ j ≤ 7) σ (setI (setI (setI σ (x0 + 24) 5 (J k1)) (x0 + 24) 6 (J k2)) (x0 + 24) 7 (J k3)) := ((Fr.rf.setI (by omega)).setI (by omega)).setI (by omega)
    refine h0 k1 k2 k3 hk1 hk2 hk3 rfl rfl rfl _ (h.chg (mv' := bndM mv k1 k2 k3) hF (fun p j k => by omega) (((AG.rf.up (by unfold gS; omega)).up (by unfold gS; omega)).up (by unfold gS; omega)) ?_ (fun o _ _ k hk => ?_) ?_ (h.p1 hF (fun i j hi k => by omega) (((AG.rf.up (by unfold pS; omega)).up (by unfold pS; omega)).up (by unfold pS; omega))) ?_ (h.p3 hF (fun i j hi k => by omega) (((AG.rf.up (by unfold oS; omega)).up (by unfold oS; omega)).up (by unfold oS; omega))) (h.p4 hF (fun i j hi k => by omega) (((AG.rf.up (by unfold lS; omega)).up (by unfold lS; omega)).up (by unfold lS; omega))) (h.p5 hF (fun p j k _ => by omega) (((AG.rf.up (by unfold uS; omega)).up (by unfold uS; omega)).up (by unfold uS; omega)))) (FCl.of hx hF (fun p j k => by omega))
    · unfold bndM; rw [up_ne (by omega), up_ne (by omega), up_ne (by omega)]; exact Nat.le_refl _
    · unfold stO bndM; rw [up_ne (by omega), up_ne (by omega), up_ne (by omega)]
    · refine ho.chg (by unfold bndM; rw [up_ne (by omega), up_ne (by omega), up_ne (by omega)]) ?_ (((AG.rf.up (by unfold oS; omega)).up (by unfold oS; omega)).up (by unfold oS; omega)) (((AG.rf.up (by unfold pS; omega)).up (by unfold pS; omega)).up (by unfold pS; omega)) (((AG.rf.up (by unfold lS; omega)).up (by unfold lS; omega)).up (by unfold lS; omega))
      have e7 : bndM mv k1 k2 k3 7 = mv 7 := by unfold bndM; rw [up_ne (by omega), up_ne (by omega), up_ne (by omega)]
      have e13 : bndM mv k1 k2 k3 13 = mv 13 := by unfold bndM; rw [up_ne (by omega), up_ne (by omega), up_ne (by omega)]
      have e14 : bndM mv k1 k2 k3 14 = k1 := by unfold bndM; rw [up_ne (by omega), up_ne (by omega), up_eq]
      have e15 : bndM mv k1 k2 k3 15 = k2 := by unfold bndM; rw [up_ne (by omega), up_eq]
      have e16 : bndM mv k1 k2 k3 16 = k3 := by unfold bndM; rw [up_eq]
      omega
    · have hsc := h.sc
      unfold bndM
      refine ⟨?_, ?_, ?_, ?_, ?_, ?_, ?_, ?_⟩
      · rw [sI_any (by omega), sI_any (by omega), sI_any (by omega), up_ne (by omega), up_ne (by omega), up_ne (by omega)]; exact hsc.1
      · rw [sI_any (by omega), sI_any (by omega), sI_any (by omega), up_ne (by omega), up_ne (by omega), up_ne (by omega)]; exact hsc.2.1
      · rw [sI_any (by omega), sI_any (by omega), sI_same, up_ne (by omega), up_ne (by omega), up_eq]
      · rw [sI_any (by omega), sI_same, up_ne (by omega), up_eq]
      · rw [sI_same, up_eq]
      · rw [sI_any (by omega), sI_any (by omega), sI_any (by omega), up_ne (by omega), up_ne (by omega), up_ne (by omega)]; exact hsc.2.2.2.2.2.1
      · rw [sI_any (by omega), sI_any (by omega), sI_any (by omega), up_ne (by omega), up_ne (by omega), up_ne (by omega)]; exact hsc.2.2.2.2.2.2.1
      · rw [sI_any (by omega), sI_any (by omega), sI_any (by omega), up_ne (by omega), up_ne (by omega), up_ne (by omega)]; exact hsc.2.2.2.2.2.2.2
  · have q1 := (in_iff (by omega) (by omega)).mp k.1
    have q2 := (in_iff (by omega) (by omega)).mp k.2.1
    have q3 := (in_iff (by omega) (by omega)).mp k.2.2
    rw [hu, if_neg q1.1, if_neg q1.2, if_neg q2.1, if_neg q2.2, if_neg q3.1, if_neg q3.2]; decide
theorem rr_bounds (hy : y0 = 260) (h : RIv σ y0 mv kv img tp n fl) {a1 a2 a3 : Int32} (h0 : ∀ k1 k2 k3, k1 ≤ 1000 → k2 ≤ 999 → k3 ≤ 99999 → a1 = J k1 → a2 = J k2 → a3 = J k3 → ∀ τ, RIv τ y0 (bndM mv k1 k2 k3) kv img tp n fl → FRf σ τ → sI τ y0 0 = J 0 → Q (.inl none) τ) (h1 : ¬ (IN a1 0 1000 ∧ IN a2 0 999 ∧ IN a3 0 99999) → ∀ τ, RIv τ y0 mv kv img tp n fl → FRf σ τ → sI τ y0 0 = J 1 → Q (.inl none) τ) : WP gT (d + 1) B 238 0 [.ref y0, .int a1, .int a2, .int a3] [] σ Q := by
  refine g_238_0 h.1 (fun u hu => ?_)
  by_cases c : IN a1 0 1000 ∧ IN a2 0 999 ∧ IN a3 0 99999
  · rw [if_neg (fun e => (r162 (by omega) (by omega)).mp e c.1), if_neg (fun e => (r162 (by omega) (by omega)).mp e c.2.1), if_neg (fun e => (r162 (by omega) (by omega)).mp e c.2.2)] at hu
    subst hu
    obtain ⟨⟨k1, _, hk1, rfl⟩, ⟨k2, _, hk2, rfl⟩, ⟨k3, _, hk3, rfl⟩⟩ := c
    refine ⟨fun _ => ?_, fun e => absurd ret0 e⟩
    have hF : Fr (fun p j => p = y0 + 1 ∨ (p = y0 ∧ j = 0)) σ (setI (setI (setI (setI σ y0 0 (J 0)) (y0 + 1) 14 (J k1)) (y0 + 1) 15 (J k2)) (y0 + 1) 16 (J k3)) := (((Fr.rf.setI (Or.inr ⟨rfl, rfl⟩)).setI (Or.inl rfl)).setI (Or.inl rfl)).setI (Or.inl rfl)
    exact h0 k1 k2 k3 hk1 hk2 hk3 rfl rfl rfl _ (h.chg hF (fun p j k => by unfold SRr; omega) h.2.1.th.up.up.up) (FRf.of hy hF (fun p j k => by omega)) (by rw [sI_any (by omega), sI_any (by omega), sI_any (by omega), sI_same])
  · have hu1 : u = J 1 := by
      rw [hu]
      by_cases q1 : f_162 σ a1 (J 0) (J 1000) = J 0
      · rw [if_pos q1]
      rw [if_neg q1]
      by_cases q2 : f_162 σ a2 (J 0) (J 999) = J 0
      · rw [if_pos q2]
      rw [if_neg q2]
      by_cases q3 : f_162 σ a3 (J 0) (J 99999) = J 0
      · rw [if_pos q3]
      exact absurd ⟨Classical.not_not.mp (fun e => q1 ((r162 (by omega) (by omega)).mpr e)), Classical.not_not.mp (fun e => q2 ((r162 (by omega) (by omega)).mpr e)), Classical.not_not.mp (fun e => q3 ((r162 (by omega) (by omega)).mpr e))⟩ c
    subst hu1
    exact ⟨fun e => absurd e ret1, fun _ => h1 c _ h.thr (FRf.th hy) sI_same⟩
/-! calls are dropped -/
theorem cc_calls (h : CIv σ x0 mv kv img tp n fl) (h0 : ∀ τ, CIv τ x0 (up mv 6 0) kv img tp n fl → FCl σ τ → Q (.inl (some (.int (J (mv 6))))) τ) : WP gT d B 116 0 [.ref x0, .retAddr 0] [] σ Q := by
  have hx := h.x
  have ho := h.mv_.2.1
  have ho1 := ho.s
  refine g_116_0 h.sh ?_
  rw [h.Pp.1.2]
  have hF : Fr (fun p j => p = x0 + 48 ∧ j = 7) σ (setI σ (x0 + 48) 7 (J 0)) := Fr.rf.setI ⟨rfl, rfl⟩
  refine h0 _ (h.chg hF (fun p j k => by omega) (AG.rf.up (by unfold gS; omega)) (by rw [up_ne (by omega)]; exact Nat.le_refl _) (fun o _ _ k hk => by unfold stO; rw [up_ne (by omega)]) ?_ ?_ ?_ (h.p3 hF (fun i j hi k => by omega) (AG.rf.up (by unfold oS; omega))) (h.p4 hF (fun i j hi k => by omega) (AG.rf.up (by unfold lS; omega))) (h.p5 hF (fun p j k _ => by omega) (AG.rf.up (by unfold uS; omega)))) (FCl.of hx hF (fun p j k => by omega))
  · refine ⟨?_, fun o hk k hk2 => ?_, fun k hk => ?_, fun c hc => ?_, fun p => ?_, fun l hl => ?_⟩
    · rw [up_ne (by omega), up_ne (by omega), up_eq, up_ne (by omega), up_ne (by omega), up_ne (by omega), up_ne (by omega), up_ne (by omega), up_ne (by omega)]; omega
    · rw [up_ne (by omega)] at hk; rw [up_ne (by omega)]; exact ho.2.1 o hk k hk2
    · rw [up_ne (by omega)] at hk; rw [up_ne (by omega), up_ne (by omega), up_ne (by omega), up_ne (by omega), up_ne (by omega), up_ne (by omega), up_ne (by omega)]; exact ho.k hk
    · rw [up_eq] at hc; omega
    · rw [up_eq]; exact Nat.zero_le _
    · rw [up_ne (by omega)] at hl; rw [up_ne (by omega), up_ne (by omega), up_ne (by omega), up_ne (by omega)]; exact ho.l hl
  · refine ⟨⟨?_, by rw [sI_same, up_eq]⟩, fun k hk => ?_, fun c hc => ?_⟩
    · rw [sI_any (by omega), up_ne (by omega)]; exact h.Pp.1.1
    · rw [up_ne (by omega)] at hk
      rw [sI_any (by omega), sI_any (by omega), sI_any (by omega), sI_any (by omega), sI_any (by omega), sI_any (by omega), up_ne (by omega), up_ne (by omega), up_ne (by omega), up_ne (by omega), up_ne (by omega), up_ne (by omega)]; exact h.Pp.2.1 k hk
    · rw [up_eq] at hc; omega
  · have hsc := h.sc
    refine ⟨?_, ?_, ?_, ?_, ?_, ?_, ?_, ?_⟩
    all_goals (rw [sI_any (by omega), up_ne (by omega)]; first | exact hsc.1 | exact hsc.2.1 | exact hsc.2.2.1 | exact hsc.2.2.2.1 | exact hsc.2.2.2.2.1 | exact hsc.2.2.2.2.2.1 | exact hsc.2.2.2.2.2.2.1 | exact hsc.2.2.2.2.2.2.2)
theorem rr_calls (hy : y0 = 260) (h : RIv σ y0 mv kv img tp n fl) (h0 : ∀ τ, RIv τ y0 (up mv 6 0) kv img tp n fl → FRf σ τ → Q (.inl (some (.int (J (mv 6))))) τ) : WP gT d B 227 0 [.ref y0, .retAddr 0] [] σ Q := by
  refine g_227_0 h.1 ?_
  rw [h.2.1.at (by omega)]
  have hF : Fr (fun p j => p = y0 + 1 ∨ (p = y0 ∧ j = 0)) σ (setI (setI σ y0 0 (J 0)) (y0 + 1) 6 (J 0)) := (Fr.rf.setI (Or.inr ⟨rfl, rfl⟩)).setI (Or.inl rfl)
  exact h0 _ (h.chg hF (fun p j k => by unfold SRr; omega) h.2.1.th.up) (FRf.of hy hF (fun p j k => by omega))
