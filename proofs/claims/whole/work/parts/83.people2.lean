/-! ===== a person, a call, a log row ===== -/
variable {d : Nat} {B : Nat × Nat} {Q : Out → Sto → Prop} {P : Nat → Nat → Prop} {σ τ : Sto} {x0 y0 : Nat} {mv mv' kv : Mem} {img : Bool} {tp : Mem} {n : Nat} {fl : Option Nat}
def perM (mv : Mem) (a b c e f g : Nat) : Mem := up (up (up (up (up (up (up mv (2728 + 6 * mv 5) a) (2728 + 6 * mv 5 + 1) b) (2728 + 6 * mv 5 + 2) c) (2728 + 6 * mv 5 + 3) e) (2728 + 6 * mv 5 + 4) f) (2728 + 6 * mv 5 + 5) g) 5 (mv 5 + 1)
theorem perM_o {a b c e f g k : Nat} (h1 : k ≠ 5) (h2 : k < 2728 + 6 * mv 5 ∨ 2728 + 6 * mv 5 + 5 < k) : perM mv a b c e f g k = mv k := by
  unfold perM
  rw [up_ne h1, up_ne (by omega), up_ne (by omega), up_ne (by omega), up_ne (by omega), up_ne (by omega), up_ne (by omega)]
theorem perM_5 {a b c e f g : Nat} : perM mv a b c e f g 5 = mv 5 + 1 := up_eq
theorem perM_k {a b c e f g : Nat} : perM mv a b c e f g (2728 + 6 * mv 5) = a ∧ perM mv a b c e f g (2728 + 6 * mv 5 + 1) = b ∧ perM mv a b c e f g (2728 + 6 * mv 5 + 2) = c ∧ perM mv a b c e f g (2728 + 6 * mv 5 + 3) = e ∧ perM mv a b c e f g (2728 + 6 * mv 5 + 4) = f ∧ perM mv a b c e f g (2728 + 6 * mv 5 + 5) = g := by
  unfold perM
  refine ⟨?_, ?_, ?_, ?_, ?_, ?_⟩
  · rw [up_ne (by omega), up_ne (by omega), up_ne (by omega), up_ne (by omega), up_ne (by omega), up_ne (by omega), up_eq]
  · rw [up_ne (by omega), up_ne (by omega), up_ne (by omega), up_ne (by omega), up_ne (by omega), up_eq]
  · rw [up_ne (by omega), up_ne (by omega), up_ne (by omega), up_ne (by omega), up_eq]
  · rw [up_ne (by omega), up_ne (by omega), up_ne (by omega), up_eq]
  · rw [up_ne (by omega), up_ne (by omega), up_eq]
  · rw [up_ne (by omega), up_eq]
def perC1 (mv : Mem) (a1 a2 a3 a5 : Int32) : Prop := IX a1 (mv 3) ∧ IX a2 96 ∧ IX a3 96 ∧ IX a5 96
def perC2 (a2 a3 a4 a6 : Int32) : Prop := ¬ a3 < a2 ∧ IN a4 0 100 ∧ IN a6 1 99
theorem perM_V (ho : VOo mv) {a b c e f g : Nat} (h5 : mv 5 < 10) (ha : a < mv 3) (hbc : b ≤ c) (hc : c ≤ 95) (he : e ≤ 100) (hf : f ≤ 95) (hg : 1 ≤ g) (hg2 : g ≤ 99) : VOo (perM mv a b c e f g) := by
  have ho1 := ho.s
  have e3 : perM mv a b c e f g 3 = mv 3 := perM_o (by omega) (by omega)
  have e4 : perM mv a b c e f g 4 = mv 4 := perM_o (by omega) (by omega)
  have e5 : perM mv a b c e f g 5 = mv 5 + 1 := perM_5
  have e6 : perM mv a b c e f g 6 = mv 6 := perM_o (by omega) (by omega)
  have e7 : perM mv a b c e f g 7 = mv 7 := perM_o (by omega) (by omega)
  have e8 : perM mv a b c e f g 8 = mv 8 := perM_o (by omega) (by omega)
  have e13 : perM mv a b c e f g 13 = mv 13 := perM_o (by omega) (by omega)
  have e14 : perM mv a b c e f g 14 = mv 14 := perM_o (by omega) (by omega)
  have e15 : perM mv a b c e f g 15 = mv 15 := perM_o (by omega) (by omega)
  have e16 : perM mv a b c e f g 16 = mv 16 := perM_o (by omega) (by omega)
  obtain ⟨k0, k1, k2, k3, k4, k5⟩ := perM_k (mv := mv) (a := a) (b := b) (c := c) (e := e) (f := f) (g := g)
  refine ⟨by omega, fun o hk k hk2 => ?_, fun k hk => ?_, fun q hq => ?_, fun p => ?_, fun l hl => ?_⟩
  · rw [e4] at hk; rw [perM_o (by omega) (by omega)]; exact ho.2.1 o hk k hk2
  · rw [e5] at hk
    by_cases ek : k = mv 5
    · subst ek; rw [k0, k1, k2, k3, k4, k5, e3]; exact ⟨ha, hbc, hc, he, hf, hg, hg2⟩
    · rw [e3, perM_o (by omega) (by omega), perM_o (by omega) (by omega), perM_o (by omega) (by omega), perM_o (by omega) (by omega), perM_o (by omega) (by omega), perM_o (by omega) (by omega)]; exact ho.k (by omega)
  · rw [e6] at hq; rw [e3, perM_o (by omega) (by omega), perM_o (by omega) (by omega)]; exact ho.c hq
  · rw [e6]
    show cntC (fun i => perM mv a b c e f g (2788 + 2 * i)) p (mv 6) ≤ 4
    rw [cntC_cong (cp' := fun i => mv (2788 + 2 * i)) (mv 6) (fun i hi => perM_o (by omega) (by omega))]; exact ho.c4 p
  · rw [e8] at hl; rw [e3, perM_o (by omega) (by omega), perM_o (by omega) (by omega), perM_o (by omega) (by omega)]; exact ho.l hl
theorem ag_of {S : Nat → Prop} (h : ∀ k, S k → mv' k = mv k) : AG S mv mv' := h
theorem cc_person (h : CIv σ x0 mv kv img tp n fl) (hB : 16 ≤ B.1 ∧ 1000 ≤ B.2) {a1 a2 a3 a4 a5 a6 : Int32}
    (h0 : ∀ k1 k2 k3 k4 k5 k6, k1 < mv 3 → k2 ≤ k3 → k3 < 96 → k4 ≤ 100 → k5 < 96 → 1 ≤ k6 → k6 ≤ 99 → mv 5 < 10 → a1 = J k1 → a2 = J k2 → a3 = J k3 → a4 = J k4 → a5 = J k5 → a6 = J k6 → ∀ τ, CIv τ x0 (perM mv k1 k2 k3 k4 k5 k6) kv img tp n fl → FCl σ τ → Q (.inl (some (.int (J (mv 5))))) τ)
    (h1 : ¬ perC1 mv a1 a2 a3 a5 → Q (.inr 0) σ) (h2 : perC1 mv a1 a2 a3 a5 → ¬ perC2 a2 a3 a4 a6 → Q (.inr 1) σ) (h3 : perC1 mv a1 a2 a3 a5 → perC2 a2 a3 a4 a6 → ¬ mv 5 < 10 → Q (.inr 2) σ) : WP gT (d + 18) B 114 0 [.ref x0, .int a1, .int a2, .int a3, .int a4, .int a5, .int a6] [] σ Q := by
  have hx := h.x
  have ho := h.mv_.2.1
  have ho1 := ho.s
  have hs := h.mv_.1.s
  refine g_114_0 h.sh hB ⟨fun c1 => ⟨fun c2 => ⟨fun c3 => ⟨fun c5 => fun u hu => ?_, fun c => h1 (fun k => c (gQ.mpr k.2.2.2))⟩, fun c => h1 (fun k => c (gQ.mpr k.2.2.1))⟩, fun c => h1 (fun k => c (gQ.mpr k.2.1))⟩, fun c => h1 (fun k => c (h.gP.mpr k.1))⟩
  have C1 : perC1 mv a1 a2 a3 a5 := ⟨h.gP.mp c1, gQ.mp c2, gQ.mp c3, gQ.mp c5⟩
  have hu2 : ¬ u = J 0 ↔ perC2 a2 a3 a4 a6 := by
    rw [hu]; unfold perC2
    rw [in_iff (by omega) (by omega), in_iff (by omega) (by omega)]
    constructor
    · intro c
      refine ⟨fun e => c ?_, ⟨fun e => c ?_, fun e => c ?_⟩, fun e => c ?_, fun e => c ?_⟩
      all_goals simp only [if_pos e, ite_self]
    · intro c
      rw [if_neg c.1, if_neg c.2.1.1, if_neg c.2.1.2, if_neg c.2.2.1, if_neg c.2.2.2]; decide
  refine ⟨fun c => ?_, fun c => h2 C1 (fun k => c (hu2.mpr k))⟩
  have C2 := hu2.mp c
  rw [h.Pp.1.1, J_lt (by omega) (by omega)]
  refine ⟨fun c6 => ?_, fun c6 => h3 C1 C2 c6⟩
  obtain ⟨⟨k1, hk1, rfl⟩, ⟨k2, hk2, rfl⟩, ⟨k3, hk3, rfl⟩, ⟨k5, hk5, rfl⟩⟩ := C1
  obtain ⟨q1, ⟨k4, _, hk4, rfl⟩, ⟨k6, hk6, hk6', rfl⟩⟩ := C2
  rw [J_lt (by omega) (by omega)] at q1
  refine g_53_0 (sub_11_48_6 h.sh) ?_
  rw [h.Pp.1.1]
  simp (disch := omega) only [J_add, J_mul, J_sub, J_cl, J_lt, J_le, J_eq, vp_J, n1_ne, n1_lt, n1_le, n1_nlt, n1_nle]
  refine ⟨(by omega), (by omega), (by omega), (by omega), (by omega), (by omega), ?_⟩
  have hF : Fr (fun p j => (x0 + 49 ≤ p ∧ p ≤ x0 + 54 ∧ j = mv 5) ∨ (p = x0 + 48 ∧ j = 0)) σ (setI (setI (setI (setI (setI (setI (setI σ (x0 + 48 + 1) (mv 5) (J k1)) (x0 + 48 + 2) (mv 5) (J k2)) (x0 + 48 + 3) (mv 5) (J k3)) (x0 + 48 + 4) (mv 5) (J k4)) (x0 + 48 + 5) (mv 5) (J k5)) (x0 + 48 + 6) (mv 5) (J k6)) (x0 + 48) 0 (J (mv 5 + 1))) :=
    ((((((Fr.rf.setI (by omega)).setI (by omega)).setI (by omega)).setI (by omega)).setI (by omega)).setI (by omega)).setI (by omega)
  have hc : CIv (setI (setI (setI (setI (setI (setI (setI σ (x0 + 48 + 1) (mv 5) (J k1)) (x0 + 48 + 2) (mv 5) (J k2)) (x0 + 48 + 3) (mv 5) (J k3)) (x0 + 48 + 4) (mv 5) (J k4)) (x0 + 48 + 5) (mv 5) (J k5)) (x0 + 48 + 6) (mv 5) (J k6)) (x0 + 48) 0 (J (mv 5 + 1))) x0 (perM mv k1 k2 k3 k4 k5 k6) kv img tp n fl := by
    refine h.chg hF (fun p j k => by omega) (ag_of (fun k hk => by unfold gS at hk; exact perM_o (by omega) (by omega))) (by rw [perM_o (by omega) (by omega)]; exact Nat.le_refl _) (fun o _ _ k hk => by unfold stO; exact perM_o (by omega) (by omega)) (perM_V ho c6 hk1 (by omega) (by omega) hk4 (by omega) hk6 hk6') ?_ ?_ (h.p3 hF (fun i j hi k => by omega) (ag_of (fun k hk => by unfold oS at hk; exact perM_o (by omega) (by omega)))) (h.p4 hF (fun i j hi k => by omega) (ag_of (fun k hk => by unfold lS at hk; exact perM_o (by omega) (by omega)))) (h.p5 hF (fun p j k _ => by omega) (ag_of (fun k hk => by unfold uS at hk; exact perM_o (by omega) (by omega))))
    · obtain ⟨z0, z1, z2, z3, z4, z5⟩ := perM_k (mv := mv) (a := k1) (b := k2) (c := k3) (e := k4) (f := k5) (g := k6)
      refine ⟨⟨by rw [sI_same, perM_5], ?_⟩, fun k hk => ?_, fun c hc => ?_⟩
      · rw [hF.i (by omega), perM_o (by omega) (by omega)]; exact h.Pp.1.2
      · rw [perM_5] at hk
        by_cases ek : k = mv 5
        · subst ek
          rw [z0, z1, z2, z3, z4, z5]
          refine ⟨?_, ?_, ?_, ?_, ?_, ?_⟩
          · rw [sI_any (by omega), sI_any (by omega), sI_any (by omega), sI_any (by omega), sI_any (by omega), sI_any (by omega), sI_same]
          · rw [sI_any (by omega), sI_any (by omega), sI_any (by omega), sI_any (by omega), sI_any (by omega), sI_same]
          · rw [sI_any (by omega), sI_any (by omega), sI_any (by omega), sI_any (by omega), sI_same]
          · rw [sI_any (by omega), sI_any (by omega), sI_any (by omega), sI_same]
          · rw [sI_any (by omega), sI_any (by omega), sI_same]
          · rw [sI_any (by omega), sI_same]
        · rw [hF.i (by omega), hF.i (by omega), hF.i (by omega), hF.i (by omega), hF.i (by omega), hF.i (by omega), perM_o (by omega) (by omega), perM_o (by omega) (by omega), perM_o (by omega) (by omega), perM_o (by omega) (by omega), perM_o (by omega) (by omega), perM_o (by omega) (by omega)]
          exact h.Pp.2.1 k (by omega)
      · rw [perM_o (by omega) (by omega)] at hc
        rw [hF.i (by omega), hF.i (by omega), perM_o (by omega) (by omega), perM_o (by omega) (by omega)]
        exact h.Pp.2.2 c hc
    · have hsc := h.sc
      unfold RSc
      rw [hF.i (by omega), hF.i (by omega), hF.i (by omega), hF.i (by omega), hF.i (by omega), hF.i (by omega), hF.i (by omega), hF.i (by omega), perM_o (by omega) (by omega), perM_o (by omega) (by omega), perM_o (by omega) (by omega), perM_o (by omega) (by omega), perM_o (by omega) (by omega), perM_o (by omega) (by omega), perM_o (by omega) (by omega), perM_o (by omega) (by omega)]
      exact hsc
  refine ⟨hc.sh, ?_⟩
  rw [hc.Pp.1.1, perM_5, J_sub (by omega), Nat.add_sub_cancel]
  exact h0 k1 k2 k3 k4 k5 k6 hk1 (by omega) hk3 hk4 hk5 hk6 hk6' c6 rfl rfl rfl rfl rfl rfl _ hc (FCl.of hx hF (fun p j k => by omega))
theorem rr_person (hy : y0 = 260) (hv : VG mv) (ho : VOo mv) (h : RIv σ y0 mv kv img tp n fl) {a1 a2 a3 a4 a5 a6 : Int32}
    (h0 : ∀ k1 k2 k3 k4 k5 k6, k1 < mv 3 → k2 ≤ k3 → k3 < 96 → k4 ≤ 100 → k5 < 96 → 1 ≤ k6 → k6 ≤ 99 → mv 5 < 10 → a1 = J k1 → a2 = J k2 → a3 = J k3 → a4 = J k4 → a5 = J k5 → a6 = J k6 → ∀ τ, RIv τ y0 (perM mv k1 k2 k3 k4 k5 k6) kv img tp n fl → FRf σ τ → sI τ y0 0 = J 0 → Q (.inl (some (.int (J (mv 5))))) τ)
    (h1 : ¬ perC1 mv a1 a2 a3 a5 → ∀ τ v, RIv τ y0 mv kv img tp n fl → FRf σ τ → sI τ y0 0 = J 1 → Q (.inl (some (.int v))) τ) (h2 : perC1 mv a1 a2 a3 a5 → ¬ perC2 a2 a3 a4 a6 → ∀ τ v, RIv τ y0 mv kv img tp n fl → FRf σ τ → sI τ y0 0 = J 2 → Q (.inl (some (.int v))) τ) (h3 : perC1 mv a1 a2 a3 a5 → perC2 a2 a3 a4 a6 → ¬ mv 5 < 10 → ∀ τ v, RIv τ y0 mv kv img tp n fl → FRf σ τ → sI τ y0 0 = J 3 → Q (.inl (some (.int v))) τ) : WP gT (d + 2) B 224 0 [.ref y0, .int a1, .int a2, .int a3, .int a4, .int a5, .int a6, .retAddr 0] [] σ Q := by
  have ho1 := ho.s
  have hs := hv.s
  refine g_224_0 h.1 (fun u hu => ?_)
  rw [h.2.1.at (by omega)] at hu
  simp (disch := omega) only [J_eq] at hu
  have nn : ∀ {p : Prop}, ¬ ¬ p → p := fun h => Classical.not_not.mp h
  by_cases c1 : perC1 mv a1 a2 a3 a5
  · rw [if_neg (fun e => (r166 h.2.1 hv).mp e c1.1), if_neg (fun e => r163.mp e c1.2.1), if_neg (fun e => r163.mp e c1.2.2.1), if_neg (fun e => r163.mp e c1.2.2.2)] at hu
    by_cases c2 : perC2 a2 a3 a4 a6
    · rw [if_neg c2.1, if_neg (fun e => (r162 (by omega) (by omega)).mp e c2.2.1), if_neg (fun e => (r162 (by omega) (by omega)).mp e c2.2.2)] at hu
      by_cases c3 : mv 5 < 10
      · rw [if_neg (by omega)] at hu
        subst hu
        obtain ⟨⟨k1, hk1, rfl⟩, ⟨k2, hk2, rfl⟩, ⟨k3, hk3, rfl⟩, ⟨k5, hk5, rfl⟩⟩ := c1
        obtain ⟨q1, ⟨k4, _, hk4, rfl⟩, ⟨k6, hk6, hk6', rfl⟩⟩ := c2
        rw [J_lt (by omega) (by omega)] at q1
        refine ⟨fun _ => ?_, fun e => absurd ret0 e⟩
        simp (disch := omega) only [h.2.1.at]
        simp (disch := omega) only [J_add, J_mul, J_sub, J_cl, J_lt, J_le, J_eq, vp_J, n1_ne, n1_lt, n1_le, n1_nlt, n1_nle]
        refine ⟨(by omega), (by omega), (by omega), (by omega), (by omega), (by omega), fun u8 h8 => ?_⟩
        have e8 : u8 = J (mv 5 + 1) := by
          rw [h8, sI_any (by omega), sI_any (by omega), sI_any (by omega), sI_any (by omega), sI_any (by omega), sI_any (by omega), sI_any (by omega), h.2.1.at (by omega), J_add]
        subst e8
        rw [J_sub (by omega), Nat.add_sub_cancel]
        have hF : Fr (fun p j => p = y0 + 1 ∨ (p = y0 ∧ j = 0)) σ (setI (setI (setI (setI (setI (setI (setI (setI σ y0 0 (J 0)) (y0 + 1) (2728 + 6 * mv 5) (J k1)) (y0 + 1) (2728 + 6 * mv 5 + 1) (J k2)) (y0 + 1) (2728 + 6 * mv 5 + 2) (J k3)) (y0 + 1) (2728 + 6 * mv 5 + 3) (J k4)) (y0 + 1) (2728 + 6 * mv 5 + 4) (J k5)) (y0 + 1) (2728 + 6 * mv 5 + 5) (J k6)) (y0 + 1) 5 (J (mv 5 + 1))) := (((((((Fr.rf.setI (Or.inr ⟨rfl, rfl⟩)).setI (Or.inl rfl)).setI (Or.inl rfl)).setI (Or.inl rfl)).setI (Or.inl rfl)).setI (Or.inl rfl)).setI (Or.inl rfl)).setI (Or.inl rfl)
        refine h0 k1 k2 k3 k4 k5 k6 hk1 (by omega) hk3 hk4 hk5 hk6 hk6' c3 rfl rfl rfl rfl rfl rfl _ (h.chg hF (fun p j k => by unfold SRr; omega) h.2.1.th.up.up.up.up.up.up.up) (FRf.of hy hF (fun p j k => by omega)) ?_
        rw [sI_any (by omega), sI_any (by omega), sI_any (by omega), sI_any (by omega), sI_any (by omega), sI_any (by omega), sI_any (by omega), sI_same]
      · rw [if_pos (by omega)] at hu
        subst hu
        exact ⟨fun e => absurd e ret3, fun _ => h3 c1 c2 c3 _ _ h.thr (FRf.th hy) sI_same⟩
    · have hu2 : u = J 2 := by
        rw [hu]
        by_cases q1 : a3 < a2
        · rw [if_pos q1]
        rw [if_neg q1]
        by_cases q2 : f_162 σ a4 (J 0) (J 100) = J 0
        · rw [if_pos q2]
        rw [if_neg q2]
        by_cases q3 : f_162 σ a6 (J 1) (J 99) = J 0
        · rw [if_pos q3]
        exact absurd ⟨q1, nn (fun e => q2 ((r162 (by omega) (by omega)).mpr e)), nn (fun e => q3 ((r162 (by omega) (by omega)).mpr e))⟩ c2
      subst hu2
      exact ⟨fun e => absurd e ret2, fun _ => h2 c1 c2 _ _ h.thr (FRf.th hy) sI_same⟩
  · have hu1 : u = J 1 := by
      rw [hu]
      by_cases q1 : f_166 σ y0 a1 = J 0
      · rw [if_pos q1]
      rw [if_neg q1]
      by_cases q2 : f_163 σ a2 = J 0
      · rw [if_pos q2]
      rw [if_neg q2]
      by_cases q3 : f_163 σ a3 = J 0
      · rw [if_pos q3]
      rw [if_neg q3]
      by_cases q4 : f_163 σ a5 = J 0
      · rw [if_pos q4]
      exact absurd ⟨nn (fun e => q1 ((r166 h.2.1 hv).mpr e)), nn (fun e => q2 (r163.mpr e)), nn (fun e => q3 (r163.mpr e)), nn (fun e => q4 (r163.mpr e))⟩ c1
    subst hu1
    exact ⟨fun e => absurd e ret1, fun _ => h1 c1 _ _ h.thr (FRf.th hy) sI_same⟩
