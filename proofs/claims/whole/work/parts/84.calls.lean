/-! ===== a call, a log row ===== -/
variable {d : Nat} {B : Nat × Nat} {Q : Out → Sto → Prop} {P : Nat → Nat → Prop} {σ τ : Sto} {x0 y0 : Nat} {mv mv' kv : Mem} {img : Bool} {tp : Mem} {n : Nat} {fl : Option Nat}
def calM (mv : Mem) (a b : Nat) : Mem := up (up (up mv (2788 + 2 * mv 6) a) (2788 + 2 * mv 6 + 1) b) 6 (mv 6 + 1)
theorem calM_o {a b k : Nat} (h1 : k ≠ 6) (h2 : k < 2788 + 2 * mv 6 ∨ 2788 + 2 * mv 6 + 1 < k) : calM mv a b k = mv k := by
  unfold calM; rw [up_ne h1, up_ne (by omega), up_ne (by omega)]
theorem calM_6 {a b : Nat} : calM mv a b 6 = mv 6 + 1 := up_eq
theorem calM_k {a b : Nat} : calM mv a b (2788 + 2 * mv 6) = a ∧ calM mv a b (2788 + 2 * mv 6 + 1) = b := by
  unfold calM
  exact ⟨by rw [up_ne (by omega), up_ne (by omega), up_eq], by rw [up_ne (by omega), up_eq]⟩
theorem calM_V (ho : VOo mv) {a b : Nat} (h6 : mv 6 < 24) (ha : a < mv 3) (hb : b ≤ 95) (h4 : cntP mv a (mv 6) < 4) : VOo (calM mv a b) := by
  have ho1 := ho.s
  have e3 : calM mv a b 3 = mv 3 := calM_o (by omega) (by omega)
  have e4 : calM mv a b 4 = mv 4 := calM_o (by omega) (by omega)
  have e5 : calM mv a b 5 = mv 5 := calM_o (by omega) (by omega)
  have e6 : calM mv a b 6 = mv 6 + 1 := calM_6
  have e7 : calM mv a b 7 = mv 7 := calM_o (by omega) (by omega)
  have e8 : calM mv a b 8 = mv 8 := calM_o (by omega) (by omega)
  have e13 : calM mv a b 13 = mv 13 := calM_o (by omega) (by omega)
  have e14 : calM mv a b 14 = mv 14 := calM_o (by omega) (by omega)
  have e15 : calM mv a b 15 = mv 15 := calM_o (by omega) (by omega)
  have e16 : calM mv a b 16 = mv 16 := calM_o (by omega) (by omega)
  obtain ⟨k0, k1⟩ := calM_k (mv := mv) (a := a) (b := b)
  refine ⟨by omega, fun o hk k hk2 => ?_, fun k hk => ?_, fun q hq => ?_, fun p => ?_, fun l hl => ?_⟩
  · rw [e4] at hk; rw [calM_o (by omega) (by omega)]; exact ho.2.1 o hk k hk2
  · rw [e5] at hk
    rw [e3, calM_o (by omega) (by omega), calM_o (by omega) (by omega), calM_o (by omega) (by omega), calM_o (by omega) (by omega), calM_o (by omega) (by omega), calM_o (by omega) (by omega)]; exact ho.k hk
  · rw [e6] at hq
    by_cases e : q = mv 6
    · subst e; rw [k0, k1, e3]; exact ⟨ha, hb⟩
    · rw [e3, calM_o (by omega) (by omega), calM_o (by omega) (by omega)]; exact ho.c (by omega)
  · rw [e6]
    show cntC (fun i => calM mv a b (2788 + 2 * i)) p (mv 6) + (if calM mv a b (2788 + 2 * mv 6) = p then 1 else 0) ≤ 4
    rw [cntC_cong (cp' := fun i => mv (2788 + 2 * i)) (mv 6) (fun i hi => calM_o (by omega) (by omega)), k0]
    have h5 : cntC (fun i => mv (2788 + 2 * i)) p (mv 6) ≤ 4 := ho.c4 p
    have h6 : cntC (fun i => mv (2788 + 2 * i)) a (mv 6) < 4 := h4
    by_cases e : a = p
    · rw [if_pos e, ← e]; omega
    · rw [if_neg e]; omega
  · rw [e8] at hl; rw [e3, calM_o (by omega) (by omega), calM_o (by omega) (by omega), calM_o (by omega) (by omega)]; exact ho.l hl
def calC1 (mv : Mem) (a1 a2 : Int32) : Prop := IX a1 (mv 3) ∧ IX a2 96
def calC2 (mv : Mem) (a1 : Int32) : Prop := mv 6 < 24 ∧ ∀ k, a1 = J k → k < 12 → cntP mv k (mv 6) < 4
theorem cc_call (h : CIv σ x0 mv kv img tp n fl) (hB : 16 ≤ B.1 ∧ 1000 ≤ B.2) {a1 a2 : Int32}
    (h0 : ∀ k1 k2, k1 < mv 3 → k2 < 96 → calC2 mv a1 → a1 = J k1 → a2 = J k2 → ∀ τ, CIv τ x0 (calM mv k1 k2) kv img tp n fl → FCl σ τ → Q (.inl (some (.int (J (mv 6 + 1))))) τ)
    (h1 : ¬ calC1 mv a1 a2 → Q (.inr 0) σ) (h2 : calC1 mv a1 a2 → ¬ calC2 mv a1 → Q (.inr 2) σ) : WP gT (d + 18) B 115 0 [.ref x0, .int a1, .int a2] [] σ Q := by
  have hx := h.x
  have hv := h.mv_.1
  have ho := h.mv_.2.1
  have ho1 := ho.s
  have hs := hv.s
  refine g_115_0 h.sh hB ⟨fun c1 => ⟨fun c2 => ?_, fun c => h1 (fun k => c (gQ.mpr k.2))⟩, fun c => h1 (fun k => c (h.gP.mpr k.1))⟩
  have C1 : calC1 mv a1 a2 := ⟨h.gP.mp c1, gQ.mp c2⟩
  rw [h.Pp.1.2, J_le (by omega) (by omega)]
  obtain ⟨⟨k1, hk1, rfl⟩, ⟨k2, hk2, rfl⟩⟩ := C1
  have C1 : calC1 mv (J k1) (J k2) := ⟨⟨k1, hk1, rfl⟩, ⟨k2, hk2, rfl⟩⟩
  have h4 : cntP mv k1 (mv 6) ≤ 4 := ho.c4 k1
  refine ⟨fun c => h2 C1 (fun k => by have := k.1; omega), fun c => c_callsOf (sub_11_48_6 h.sh) h.Pp hv ho (by omega) ⟨h.sh, fun c3 => ?_, fun c3 => ?_⟩⟩
  · rw [J_lt (by omega) (by omega)] at c3
    have C2 : calC2 mv (J k1) := ⟨by omega, fun k hk hk' => by have := J_inj (by omega) (by omega) hk; subst this; exact c3⟩
    refine g_54_0 (sub_11_48_6 h.sh) ?_
    rw [h.Pp.1.2]
    simp (disch := omega) only [J_add, J_mul, J_sub, J_cl, J_lt, J_le, J_eq, vp_J, n1_ne, n1_lt, n1_le, n1_nlt, n1_nle]
    refine ⟨(by omega), (by omega), ?_⟩
    have hF : Fr (fun p j => ((p = x0 + 55 ∨ p = x0 + 56) ∧ j = mv 6) ∨ (p = x0 + 48 ∧ j = 7)) σ (setI (setI (setI σ (x0 + 48 + 7) (mv 6) (J k1)) (x0 + 48 + 8) (mv 6) (J k2)) (x0 + 48) 7 (J (mv 6 + 1))) := ((Fr.rf.setI (by omega)).setI (by omega)).setI (by omega)
    have hc : CIv (setI (setI (setI σ (x0 + 48 + 7) (mv 6) (J k1)) (x0 + 48 + 8) (mv 6) (J k2)) (x0 + 48) 7 (J (mv 6 + 1))) x0 (calM mv k1 k2) kv img tp n fl := by
      refine h.chg hF (fun p j k => by omega) (ag_of (fun k hk => by unfold gS at hk; exact calM_o (by omega) (by omega))) (by rw [calM_o (by omega) (by omega)]; exact Nat.le_refl _) (fun o _ _ k hk => by unfold stO; exact calM_o (by omega) (by omega)) (calM_V ho (by omega) hk1 (by omega) c3) ?_ ?_ (h.p3 hF (fun i j hi k => by omega) (ag_of (fun k hk => by unfold oS at hk; exact calM_o (by omega) (by omega)))) (h.p4 hF (fun i j hi k => by omega) (ag_of (fun k hk => by unfold lS at hk; exact calM_o (by omega) (by omega)))) (h.p5 hF (fun p j k _ => by omega) (ag_of (fun k hk => by unfold uS at hk; exact calM_o (by omega) (by omega))))
      · obtain ⟨z0, z1⟩ := calM_k (mv := mv) (a := k1) (b := k2)
        refine ⟨⟨?_, by rw [sI_same, calM_6]⟩, fun k hk => ?_, fun c hc => ?_⟩
        · rw [hF.i (by omega), calM_o (by omega) (by omega)]; exact h.Pp.1.1
        · rw [calM_o (by omega) (by omega)] at hk
          rw [hF.i (by omega), hF.i (by omega), hF.i (by omega), hF.i (by omega), hF.i (by omega), hF.i (by omega), calM_o (by omega) (by omega), calM_o (by omega) (by omega), calM_o (by omega) (by omega), calM_o (by omega) (by omega), calM_o (by omega) (by omega), calM_o (by omega) (by omega)]
          exact h.Pp.2.1 k hk
        · rw [calM_6] at hc
          by_cases e : c = mv 6
          · subst e; rw [z0, z1, sI_any (by omega), sI_any (by omega), sI_same, sI_any (by omega), sI_same]; exact ⟨rfl, rfl⟩
          · rw [hF.i (by omega), hF.i (by omega), calM_o (by omega) (by omega), calM_o (by omega) (by omega)]
            exact h.Pp.2.2 c (by omega)
      · have hsc := h.sc
        unfold RSc
        rw [hF.i (by omega), hF.i (by omega), hF.i (by omega), hF.i (by omega), hF.i (by omega), hF.i (by omega), hF.i (by omega), hF.i (by omega), calM_o (by omega) (by omega), calM_o (by omega) (by omega), calM_o (by omega) (by omega), calM_o (by omega) (by omega), calM_o (by omega) (by omega), calM_o (by omega) (by omega), calM_o (by omega) (by omega), calM_o (by omega) (by omega)]
        exact hsc
    refine ⟨hc.sh, ?_⟩
    rw [hc.Pp.1.2, calM_6]
    exact h0 k1 k2 hk1 hk2 C2 rfl rfl _ hc (FCl.of hx hF (fun p j k => by omega))
  · rw [J_lt (by omega) (by omega)] at c3
    exact h2 C1 (fun k => c3 (k.2 k1 rfl (by omega)))
theorem rr_call (hy : y0 = 260) (hv : VG mv) (ho : VOo mv) (h : RIv σ y0 mv kv img tp n fl) {a1 a2 : Int32}
    (h0 : ∀ k1 k2, k1 < mv 3 → k2 < 96 → calC2 mv a1 → a1 = J k1 → a2 = J k2 → ∀ τ, RIv τ y0 (calM mv k1 k2) kv img tp n fl → FRf σ τ → sI τ y0 0 = J 0 → Q (.inl (some (.int (J (mv 6 + 1))))) τ)
    (h1 : ¬ calC1 mv a1 a2 → ∀ τ v, RIv τ y0 mv kv img tp n fl → FRf σ τ → sI τ y0 0 = J 1 → Q (.inl (some (.int v))) τ) (h2 : calC1 mv a1 a2 → ¬ calC2 mv a1 → ∀ τ v, RIv τ y0 mv kv img tp n fl → FRf σ τ → sI τ y0 0 = J 2 → Q (.inl (some (.int v))) τ) : WP gT (d + 2) B 226 0 [.ref y0, .int a1, .int a2] [] σ Q := by
  have ho1 := ho.s
  have hs := hv.s
  refine g_226_0 h.1 ⟨fun c => h1 (fun k => (r166 h.2.1 hv).mp c k.1) _ _ h.thr (FRf.th hy) sI_same, fun c1 => ⟨fun c => h1 (fun k => r163.mp c k.2) _ _ h.thr (FRf.th hy) sI_same, fun c2 => ?_⟩⟩
  have C1 : calC1 mv a1 a2 := ⟨Classical.not_not.mp (fun e => c1 ((r166 h.2.1 hv).mpr e)), Classical.not_not.mp (fun e => c2 (r163.mpr e))⟩
  obtain ⟨⟨k1, hk1, rfl⟩, ⟨k2, hk2, rfl⟩⟩ := C1
  have C1 : calC1 mv (J k1) (J k2) := ⟨⟨k1, hk1, rfl⟩, ⟨k2, hk2, rfl⟩⟩
  have h4 : cntP mv k1 (mv 6) ≤ 4 := ho.c4 k1
  rw [h.2.1.at (by omega), J_eq (by omega) (by omega)]
  refine ⟨fun c => h2 C1 (fun k => by have := k.1; omega) _ _ h.thr (FRf.th hy) sI_same, fun c => r_callsOf h.1 h.2.1 ho hv (by omega) ⟨h.1, ?_⟩⟩
  simp (disch := omega) only [J_eq]
  by_cases c3 : cntP mv k1 (mv 6) = 4
  · simp only [if_pos c3]
    exact ⟨fun e => absurd e ret2, fun _ => h2 C1 (fun k => by have := k.2 k1 rfl (by omega); omega) _ _ h.thr (FRf.th hy) sI_same⟩
  · simp only [if_neg c3]
    refine ⟨fun _ => ?_, fun e => absurd ret0 e⟩
    have C2 : calC2 mv (J k1) := ⟨by omega, fun k hk hk' => by have := J_inj (by omega) (by omega) hk; subst this; omega⟩
    rw [h.2.1.at (by omega)]
    simp (disch := omega) only [J_add, J_mul, J_sub, J_cl, J_lt, J_le, J_eq, vp_J, n1_ne, n1_lt, n1_le, n1_nlt, n1_nle]
    rw [sI_any (by omega), sI_any (by omega), h.2.1.at (by omega)]
    simp (disch := omega) only [J_add, J_mul, J_sub, J_cl, J_lt, J_le, J_eq, vp_J, n1_ne, n1_lt, n1_le, n1_nlt, n1_nle]
    refine ⟨(by omega), (by omega), fun u6 h6 => ?_⟩
    have e6 : u6 = J (mv 6 + 1) := by rw [h6, sI_any (by omega), sI_any (by omega), sI_any (by omega), h.2.1.at (by omega), J_add]
    subst e6
    have hF : Fr (fun p j => p = y0 + 1 ∨ (p = y0 ∧ j = 0)) σ (setI (setI (setI (setI σ y0 0 (J 0)) (y0 + 1) (2788 + 2 * mv 6) (J k1)) (y0 + 1) (2788 + 2 * mv 6 + 1) (J k2)) (y0 + 1) 6 (J (mv 6 + 1))) := (((Fr.rf.setI (Or.inr ⟨rfl, rfl⟩)).setI (Or.inl rfl)).setI (Or.inl rfl)).setI (Or.inl rfl)
    exact h0 k1 k2 hk1 hk2 C2 rfl rfl _ (h.chg hF (fun p j k => by unfold SRr; omega) h.2.1.th.up.up.up) (FRf.of hy hF (fun p j k => by omega)) (by rw [sI_any (by omega), sI_any (by omega), sI_any (by omega), sI_same])
/-! logs -/
def logM (mv : Mem) (a b c : Nat) : Mem := up (up (up (up mv (2836 + 3 * mv 8) a) (2836 + 3 * mv 8 + 1) b) (2836 + 3 * mv 8 + 2) c) 8 (mv 8 + 1)
theorem logM_o {a b c k : Nat} (h1 : k ≠ 8) (h2 : k < 2836 + 3 * mv 8 ∨ 2836 + 3 * mv 8 + 2 < k) : logM mv a b c k = mv k := by
  unfold logM; rw [up_ne h1, up_ne (by omega), up_ne (by omega), up_ne (by omega)]
theorem logM_8 {a b c : Nat} : logM mv a b c 8 = mv 8 + 1 := up_eq
theorem logM_k {a b c : Nat} : logM mv a b c (2836 + 3 * mv 8) = a ∧ logM mv a b c (2836 + 3 * mv 8 + 1) = b ∧ logM mv a b c (2836 + 3 * mv 8 + 2) = c := by
  unfold logM
  exact ⟨by rw [up_ne (by omega), up_ne (by omega), up_ne (by omega), up_eq], by rw [up_ne (by omega), up_ne (by omega), up_eq], by rw [up_ne (by omega), up_eq]⟩
theorem logM_V (ho : VOo mv) {a b c : Nat} (h8 : mv 8 < 16) (ha : a < mv 3) (hb : b ≤ 95) (hc : c ≤ 1) : VOo (logM mv a b c) := by
  have ho1 := ho.s
  have e3 : logM mv a b c 3 = mv 3 := logM_o (by omega) (by omega)
  have e4 : logM mv a b c 4 = mv 4 := logM_o (by omega) (by omega)
  have e5 : logM mv a b c 5 = mv 5 := logM_o (by omega) (by omega)
  have e6 : logM mv a b c 6 = mv 6 := logM_o (by omega) (by omega)
  have e7 : logM mv a b c 7 = mv 7 := logM_o (by omega) (by omega)
  have e8 : logM mv a b c 8 = mv 8 + 1 := logM_8
  have e13 : logM mv a b c 13 = mv 13 := logM_o (by omega) (by omega)
  have e14 : logM mv a b c 14 = mv 14 := logM_o (by omega) (by omega)
  have e15 : logM mv a b c 15 = mv 15 := logM_o (by omega) (by omega)
  have e16 : logM mv a b c 16 = mv 16 := logM_o (by omega) (by omega)
  obtain ⟨k0, k1, k2⟩ := logM_k (mv := mv) (a := a) (b := b) (c := c)
  refine ⟨by omega, fun o hk k hk2 => ?_, fun k hk => ?_, fun q hq => ?_, fun p => ?_, fun l hl => ?_⟩
  · rw [e4] at hk; rw [logM_o (by omega) (by omega)]; exact ho.2.1 o hk k hk2
  · rw [e5] at hk
    rw [e3, logM_o (by omega) (by omega), logM_o (by omega) (by omega), logM_o (by omega) (by omega), logM_o (by omega) (by omega), logM_o (by omega) (by omega), logM_o (by omega) (by omega)]; exact ho.k hk
  · rw [e6] at hq; rw [e3, logM_o (by omega) (by omega), logM_o (by omega) (by omega)]; exact ho.c hq
  · rw [e6]
    show cntC (fun i => logM mv a b c (2788 + 2 * i)) p (mv 6) ≤ 4
    rw [cntC_cong (cp' := fun i => mv (2788 + 2 * i)) (mv 6) (fun i hi => logM_o (by omega) (by omega))]; exact ho.c4 p
  · rw [e8] at hl
    by_cases e : l = mv 8
    · subst e; rw [k0, k1, k2, e3]; exact ⟨ha, hb, hc⟩
    · rw [e3, logM_o (by omega) (by omega), logM_o (by omega) (by omega), logM_o (by omega) (by omega)]; exact ho.l (by omega)
theorem cc_log (h : CIv σ x0 mv kv img tp n fl) (hB : 16 ≤ B.1 ∧ 1000 ≤ B.2) {a1 a2 a3 : Int32} (h3 : a3 = J 0 ∨ a3 = J 1)
    (h0 : ∀ k1 k2, k1 < mv 3 → k2 < 96 → mv 8 < 16 → a1 = J k1 → a2 = J k2 → ∀ τ, CIv τ x0 (logM mv k1 k2 (if a3 = J 0 then 0 else 1)) kv img tp n fl → FCl σ τ → Q (.inl (some (.int (J (mv 8 + 1))))) τ)
    (h1 : ¬ calC1 mv a1 a2 → Q (.inr 0) σ) (h2 : calC1 mv a1 a2 → ¬ mv 8 < 16 → Q (.inr 2) σ) : WP gT (d + 18) B 133 0 [.ref x0, .int a1, .int a2, .int a3] [] σ Q := by
  have hx := h.x
  have hv := h.mv_.1
  have ho := h.mv_.2.1
  have ho1 := ho.s
  have hs := hv.s
  have hsc := h.sc
  refine g_133_0 h.sh hB ⟨fun c1 => ⟨fun c2 => ?_, fun c => h1 (fun k => c (gQ.mpr k.2))⟩, fun c => h1 (fun k => c (h.gP.mpr k.1))⟩
  rw [hsc.2.2.2.2.2.2.2, J_lt (by omega) (by omega)]
  refine ⟨fun c6 => ?_, fun c6 => h2 ⟨h.gP.mp c1, gQ.mp c2⟩ c6⟩
  obtain ⟨k1, hk1, rfl⟩ := h.gP.mp c1
  obtain ⟨k2, hk2, rfl⟩ := gQ.mp c2
  have e3 : a3 = J (if a3 = J 0 then 0 else 1) := by
    rcases h3 with e | e
    · rw [if_pos e]; exact e
    · rw [if_neg (by rw [e]; decide)]; exact e
  have b3 : (if a3 = J 0 then 0 else 1) ≤ 1 := by split <;> omega
  refine g_21_0 (sub_11_24_2 h.sh) ?_
  rw [hsc.2.2.2.2.2.2.2]
  simp (disch := omega) only [J_add, J_mul, J_sub, J_cl, J_lt, J_le, J_eq, vp_J, n1_ne, n1_lt, n1_le, n1_nlt, n1_nle]
  refine ⟨(by omega), (by omega), (by omega), h3, ?_⟩
  have hz := h0 k1 k2 hk1 hk2 c6 rfl rfl
  clear h0
  generalize (if a3 = J 0 then 0 else 1) = k3 at e3 b3 hz
  subst e3
  have hF : Fr (fun p j => ((x0 + 58 ≤ p ∧ p ≤ x0 + 60) ∧ j = mv 8) ∨ (p = x0 + 24 ∧ j = 11)) σ (setI (setI (setI (setI σ (x0 + 24 + 34) (mv 8) (J k1)) (x0 + 24 + 35) (mv 8) (J k2)) (x0 + 24 + 36) (mv 8) (J k3)) (x0 + 24) 11 (J (mv 8 + 1))) := (((Fr.rf.setI (by omega)).setI (by omega)).setI (by omega)).setI (by omega)
  have hc : CIv (setI (setI (setI (setI σ (x0 + 24 + 34) (mv 8) (J k1)) (x0 + 24 + 35) (mv 8) (J k2)) (x0 + 24 + 36) (mv 8) (J k3)) (x0 + 24) 11 (J (mv 8 + 1))) x0 (logM mv k1 k2 k3) kv img tp n fl := by
    refine h.chg hF (fun p j k => by omega) (ag_of (fun k hk => by unfold gS at hk; exact logM_o (by omega) (by omega))) (by rw [logM_o (by omega) (by omega)]; exact Nat.le_refl _) (fun o _ _ k hk => by unfold stO; exact logM_o (by omega) (by omega)) (logM_V ho c6 hk1 (by omega) b3) (h.p1 hF (fun i j hi k => by omega) (ag_of (fun k hk => by unfold pS at hk; exact logM_o (by omega) (by omega)))) ?_ (h.p3 hF (fun i j hi k => by omega) (ag_of (fun k hk => by unfold oS at hk; exact logM_o (by omega) (by omega)))) ?_ (h.p5 hF (fun p j k _ => by omega) (ag_of (fun k hk => by unfold uS at hk; exact logM_o (by omega) (by omega)))) (fun j hj => by rw [show j = mv 8 by omega, sI_any (by omega), sI_same]; exact (show k3 = 0 ∨ k3 = 1 by omega).elim (fun e => Or.inl (by rw [e])) (fun e => Or.inr (by rw [e])))
    · unfold RSc
      refine ⟨?_, ?_, ?_, ?_, ?_, ?_, ?_, by rw [sI_same, logM_8]⟩
      · rw [hF.i (by omega), logM_o (by omega) (by omega)]; exact hsc.1
      · rw [hF.i (by omega), logM_o (by omega) (by omega)]; exact hsc.2.1
      · rw [hF.i (by omega), logM_o (by omega) (by omega)]; exact hsc.2.2.1
      · rw [hF.i (by omega), logM_o (by omega) (by omega)]; exact hsc.2.2.2.1
      · rw [hF.i (by omega), logM_o (by omega) (by omega)]; exact hsc.2.2.2.2.1
      · rw [hF.i (by omega), logM_o (by omega) (by omega)]; exact hsc.2.2.2.2.2.1
      · rw [hF.i (by omega), logM_o (by omega) (by omega)]; exact hsc.2.2.2.2.2.2.1
    · obtain ⟨z0, z1, z2⟩ := logM_k (mv := mv) (a := k1) (b := k2) (c := k3)
      have hl0 : RLg σ (x0 + 24) mv := h.mv_.2.2.2.2.2.2.1
      intro l hl
      rw [logM_8] at hl
      by_cases e : l = mv 8
      · subst e
        rw [z0, z1, z2]
        refine ⟨?_, ?_, ?_⟩
        · rw [sI_any (by omega), sI_any (by omega), sI_any (by omega), sI_same]
        · rw [sI_any (by omega), sI_any (by omega), sI_same]
        · rw [sI_any (by omega), sI_same]
      · rw [hF.i (by omega), hF.i (by omega), hF.i (by omega), logM_o (by omega) (by omega), logM_o (by omega) (by omega), logM_o (by omega) (by omega)]
        exact hl0 l (by omega)
  refine ⟨hc.sh, ?_⟩
  rw [hc.sc.2.2.2.2.2.2.2, logM_8]
  exact hz _ hc (FCl.of hx hF (fun p j k => by omega))
theorem rr_log (hy : y0 = 260) (hv : VG mv) (ho : VOo mv) (h : RIv σ y0 mv kv img tp n fl) {a1 a2 a3 : Int32}
    (h0 : ∀ k1 k2, k1 < mv 3 → k2 < 96 → mv 8 < 16 → a1 = J k1 → a2 = J k2 → ∀ τ, RIv τ y0 (logM mv k1 k2 (if a3 = J 0 then 0 else 1)) kv img tp n fl → FRf σ τ → sI τ y0 0 = J 0 → Q (.inl (some (.int (J (mv 8 + 1))))) τ)
    (h1 : ¬ calC1 mv a1 a2 → ∀ τ v, RIv τ y0 mv kv img tp n fl → FRf σ τ → sI τ y0 0 = J 1 → Q (.inl (some (.int v))) τ) (h2 : calC1 mv a1 a2 → ¬ mv 8 < 16 → ∀ τ v, RIv τ y0 mv kv img tp n fl → FRf σ τ → sI τ y0 0 = J 2 → Q (.inl (some (.int v))) τ) : WP gT (d + 2) B 259 0 [.ref y0, .int a1, .int a2, .int a3, .retAddr 0] [] σ Q := by
  have ho1 := ho.s
  have hs := hv.s
  refine g_259_0 h.1 (fun u hu => ?_)
  rw [h.2.1.at (by omega)] at hu
  simp (disch := omega) only [J_eq] at hu
  by_cases c1 : calC1 mv a1 a2
  · rw [if_neg (fun e => (r166 h.2.1 hv).mp e c1.1), if_neg (fun e => r163.mp e c1.2)] at hu
    by_cases c3 : mv 8 < 16
    · rw [if_neg (by omega)] at hu
      subst hu
      obtain ⟨⟨k1, hk1, rfl⟩, ⟨k2, hk2, rfl⟩⟩ := c1
      refine ⟨fun _ => ?_, fun e => absurd ret0 e⟩
      simp (disch := omega) only [h.2.1.at]
      simp (disch := omega) only [J_add, J_mul, J_sub, J_cl, J_lt, J_le, J_eq, vp_J, n1_ne, n1_lt, n1_le, n1_nlt, n1_nle]
      have e3 : (if a3 = J 0 then J 0 else J 1) = J (if a3 = J 0 then 0 else 1) := by split <;> rfl
      refine ⟨(by omega), (by omega), (by omega), fun u6 h6 => ?_⟩
      have e6 : u6 = J (mv 8 + 1) := by rw [h6, sI_any (by omega), sI_any (by omega), sI_any (by omega), sI_any (by omega), h.2.1.at (by omega), J_add]
      subst e6
      rw [e3]
      have hF : Fr (fun p j => p = y0 + 1 ∨ (p = y0 ∧ j = 0)) σ (setI (setI (setI (setI (setI σ y0 0 (J 0)) (y0 + 1) (2836 + 3 * mv 8) (J k1)) (y0 + 1) (2836 + 3 * mv 8 + 1) (J k2)) (y0 + 1) (2836 + 3 * mv 8 + 2) (J (if a3 = J 0 then 0 else 1))) (y0 + 1) 8 (J (mv 8 + 1))) := ((((Fr.rf.setI (Or.inr ⟨rfl, rfl⟩)).setI (Or.inl rfl)).setI (Or.inl rfl)).setI (Or.inl rfl)).setI (Or.inl rfl)
      exact h0 k1 k2 hk1 hk2 c3 rfl rfl _ (h.chg hF (fun p j k => by unfold SRr; omega) h.2.1.th.up.up.up.up) (FRf.of hy hF (fun p j k => by omega)) (by rw [sI_any (by omega), sI_any (by omega), sI_any (by omega), sI_any (by omega), sI_same])
    · rw [if_pos (by omega)] at hu
      subst hu
      exact ⟨fun e => absurd e ret2, fun _ => h2 c1 c3 _ _ h.thr (FRf.th hy) sI_same⟩
  · have hu1 : u = J 1 := by
      rw [hu]
      by_cases q1 : f_166 σ y0 a1 = J 0
      · rw [if_pos q1]
      rw [if_neg q1]
      by_cases q2 : f_163 σ a2 = J 0
      · rw [if_pos q2]
      exact absurd ⟨Classical.not_not.mp (fun e => q1 ((r166 h.2.1 hv).mpr e)), Classical.not_not.mp (fun e => q2 (r163.mpr e))⟩ c1
    subst hu1
    exact ⟨fun e => absurd e ret1, fun _ => h1 c1 _ _ h.thr (FRf.th hy) sI_same⟩
