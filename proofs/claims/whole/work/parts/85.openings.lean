/-! ===== openings: opened, copied, moved ===== -/
variable {d : Nat} {B : Nat × Nat} {Q : Out → Sto → Prop} {P : Nat → Nat → Prop} {σ τ : Sto} {x0 y0 : Nat} {mv mv' kv : Mem} {img : Bool} {tp : Mem} {n : Nat} {fl : Option Nat}
def putO (mv : Mem) (o : Nat) (st : Mem) : Mem := fun k => if 424 + 384 * o ≤ k ∧ k < 424 + 384 * o + 384 then st (k - (424 + 384 * o)) else mv k
theorem putO_o {o k : Nat} {st : Mem} (h : k < 424 + 384 * o ∨ 424 + 384 * o + 384 ≤ k) : putO mv o st k = mv k := if_neg (by omega)
theorem putO_k {o k : Nat} {st : Mem} (h : k < 384) : putO mv o st (424 + 384 * o + k) = st k := by
  unfold putO; rw [if_pos (by omega), show 424 + 384 * o + k - (424 + 384 * o) = k by omega]
theorem putO_ag {S : Nat → Prop} {o : Nat} {st : Mem} (ho : o < 6) (hS : ∀ k, S k → k < 424 ∨ 2728 ≤ k) : AG S mv (putO mv o st) := fun k hk => putO_o (by have := hS k hk; omega)
theorem putO_V (ho : VOo mv) {o : Nat} {st : Mem} (h6 : o < 6) (hs : ∀ k, k < 384 → st k ≤ 6) : VOo (putO mv o st) := by
  have ho1 := ho.s
  have e : ∀ k, (k < 424 ∨ 2728 ≤ k) → putO mv o st k = mv k := fun k hk => putO_o (by omega)
  have e4 := e 4 (by omega)
  have e6 := e 6 (by omega)
  refine ⟨?_, fun o2 hk k hk2 => ?_, fun k hk => ?_, fun c hc => ?_, fun p => ?_, fun l hl => ?_⟩
  · rw [e 4 (by omega), e 5 (by omega), e 6 (by omega), e 7 (by omega), e 8 (by omega), e 13 (by omega), e 14 (by omega), e 15 (by omega), e 16 (by omega)]; exact ho1
  · rw [e4] at hk
    by_cases c : o2 = o
    · subst c; rw [putO_k hk2]; exact hs k hk2
    · rw [putO_o (by omega)]; exact ho.2.1 o2 hk k hk2
  · rw [e 5 (by omega)] at hk; rw [e _ (by omega), e _ (by omega), e _ (by omega), e _ (by omega), e _ (by omega), e _ (by omega), e _ (by omega)]; exact ho.k hk
  · rw [e6] at hc; rw [e _ (by omega), e _ (by omega), e _ (by omega)]; exact ho.c hc
  · rw [e6]
    show cntC (fun i => putO mv o st (2788 + 2 * i)) p (mv 6) ≤ 4
    rw [cntC_cong (cp' := fun i => mv (2788 + 2 * i)) (mv 6) (fun i hi => e _ (by omega))]; exact ho.c4 p
  · rw [e 8 (by omega)] at hl; rw [e _ (by omega), e _ (by omega), e _ (by omega), e _ (by omega)]; exact ho.l hl
/-- one opening more -/
def addO (mv : Mem) (st : Mem) : Mem := up (putO mv (mv 4) st) 4 (mv 4 + 1)
theorem addO_ag {S : Nat → Prop} {st : Mem} (ho : mv 4 < 6) (h4 : ¬ S 4) (hS : ∀ k, S k → k < 424 ∨ 2728 ≤ k) : AG S mv (addO mv st) := (putO_ag ho hS).up h4
theorem addO_st {o k : Nat} {st : Mem} (hk : k < 384) (ho : o < mv 4) : stO (addO mv st) o k = stO mv o k := by
  unfold stO addO; rw [up_ne (by omega), putO_o (by omega)]
theorem addO_new {k : Nat} {st : Mem} (hk : k < 384) : stO (addO mv st) (mv 4) k = st k := by
  unfold stO addO; rw [up_ne (by omega), putO_k hk]
theorem addO_4 {st : Mem} : addO mv st 4 = mv 4 + 1 := up_eq
theorem addO_V (ho : VOo mv) {st : Mem} (h6 : mv 4 < 6) (hs : ∀ k, k < 384 → st k ≤ 6) : VOo (addO mv st) := by
  have h := putO_V (o := mv 4) ho h6 hs
  have hh := h.s
  have e : ∀ k, k ≠ 4 → addO mv st k = putO mv (mv 4) st k := fun k hk => up_ne hk
  refine ⟨?_, fun o2 hk k hk2 => ?_, fun k hk => ?_, fun c hc => ?_, fun p => ?_, fun l hl => ?_⟩
  · rw [addO_4, e 5 (by omega), e 6 (by omega), e 7 (by omega), e 8 (by omega), e 13 (by omega), e 14 (by omega), e 15 (by omega), e 16 (by omega)]; omega
  · rw [addO_4] at hk
    by_cases c : o2 = mv 4
    · subst c; rw [e _ (by omega), putO_k hk2]; exact hs k hk2
    · rw [e _ (by omega), putO_o (by omega)]; exact ho.2.1 o2 (by omega) k hk2
  · rw [e 5 (by omega)] at hk; rw [e _ (by omega), e _ (by omega), e _ (by omega), e _ (by omega), e _ (by omega), e _ (by omega), e _ (by omega)]; exact h.k hk
  · rw [e 6 (by omega)] at hc; rw [e _ (by omega), e _ (by omega), e _ (by omega)]; exact h.c hc
  · rw [e 6 (by omega)]
    show cntC (fun i => addO mv st (2788 + 2 * i)) p (putO mv (mv 4) st 6) ≤ 4
    rw [cntC_cong (cp' := fun i => putO mv (mv 4) st (2788 + 2 * i)) _ (fun i hi => e _ (by omega))]; exact h.c4 p
  · rw [e 8 (by omega)] at hl; rw [e _ (by omega), e _ (by omega), e _ (by omega), e _ (by omega)]; exact h.l hl
/-- the class: an opening's row is laid, and counted -/
theorem c_addO {st : Mem} (h : CIv σ x0 mv kv img tp n fl) (h6 : mv 4 < 6) (hs : ∀ k, k < 384 → st k ≤ 6) (f : Fr P σ τ) (hP : ∀ p j, P p j → SCr x0 p j ∨ p = x0 + 42 + mv 4) (hst : ∀ k, k < 384 → sI τ (x0 + 42 + mv 4) k = J (st k)) (hQ : ∀ ρ, CIv ρ x0 (addO mv st) kv img tp n fl → FCl σ ρ → Q (.inl (some (.int (J (mv 4))))) ρ) : WP gT d B 142 0 [.ref x0] [] τ Q := by
  have hx := h.x
  have ho := h.mv_.2.1
  have ho1 := ho.s
  have hsc := h.sc
  refine g_142_0 (f.sh h.sh) ?_
  rw [f.i (fun k => by have := hP _ _ k; unfold SCr at this; omega), hsc.2.1, J_add, J_sub (by omega), Nat.add_sub_cancel]
  -- what was written aside is out of sight
  have hF1 : Fr (fun p j => SCr x0 p j ∨ p = x0 + 42 + mv 4 ∨ (p = x0 + 24 ∧ j = 2)) σ (setI τ (x0 + 24) 2 (J (mv 4 + 1))) := (f.mono (fun p j k => (hP p j k).elim Or.inl (fun e => Or.inr (Or.inl e)))).setI (Or.inr (by omega))
  refine hQ _ ⟨h.1.chg hF1 (fun p j k => k.elim (fun a => Or.inl (Or.inl a)) (fun a => Or.inr (by omega))) (h.mv_.1.cg (addO_ag h6 (by unfold gS; omega) (fun k hk => by unfold gS at hk; omega))) (addO_V ho h6 hs) ⟨?_, ?_, ?_, ?_, ?_, ?_⟩ (fun j k => by exfalso; unfold SCr at k; omega), h.2.chg h.mv_.1 hF1 (fun p j k => k.elim Or.inr (fun a => Or.inl (by omega))) hx (addO_ag h6 (by unfold gS; omega) (fun k hk => by unfold gS at hk; omega)) (by rw [addO_4]; omega) (fun o ho2 _ k hk => addO_st hk ho2)⟩ (FCl.of hx hF1 (fun p j k => by unfold SCr at k; omega))
  · exact (h.G.fr hF1 (fun i j hi k => by unfold SCr at k; omega)).cg h.mv_.1 (addO_ag h6 (by unfold gS; omega) (fun k hk => by unfold gS at hk; omega))
  · exact (h.Pp.fr hF1 (fun i j hi k => by unfold SCr at k; omega)).cg ho (addO_ag h6 (by unfold pS; omega) (fun k hk => by unfold pS at hk; omega))
  · have e : ∀ k, k ≠ 4 → (k < 424 ∨ 2728 ≤ k) → addO mv st k = mv k := fun k h1 h2 => (up_ne h1).trans (putO_o (by omega))
    refine ⟨?_, ?_, ?_, ?_, ?_, ?_, ?_, ?_⟩
    · rw [hF1.i (by unfold SCr; omega), e _ (by omega) (by omega)]; exact hsc.1
    · rw [sI_same, addO_4]
    · rw [hF1.i (by unfold SCr; omega), e _ (by omega) (by omega)]; exact hsc.2.2.1
    · rw [hF1.i (by unfold SCr; omega), e _ (by omega) (by omega)]; exact hsc.2.2.2.1
    · rw [hF1.i (by unfold SCr; omega), e _ (by omega) (by omega)]; exact hsc.2.2.2.2.1
    · rw [hF1.i (by unfold SCr; omega), e _ (by omega) (by omega)]; exact hsc.2.2.2.2.2.1
    · rw [hF1.i (by unfold SCr; omega), e _ (by omega) (by omega)]; exact hsc.2.2.2.2.2.2.1
    · rw [hF1.i (by unfold SCr; omega), e _ (by omega) (by omega)]; exact hsc.2.2.2.2.2.2.2
  · intro o hk k hk2
    rw [addO_4] at hk
    by_cases c : o = mv 4
    · subst c; rw [addO_new hk2, show x0 + 24 + 18 + mv 4 = x0 + 42 + mv 4 by omega, sI_any (by omega)]; exact hst k hk2
    · rw [addO_st hk2 (by omega), hF1.i (by unfold SCr; omega)]; exact h.mv_.2.2.2.2.2.1 o (by omega) k hk2
  · exact RLg.cg (mv := mv) (fun l hl => by rw [hF1.i (by unfold SCr; omega), hF1.i (by unfold SCr; omega), hF1.i (by unfold SCr; omega)]; exact h.mv_.2.2.2.2.2.2.1 l hl) ho (addO_ag h6 (by unfold lS; omega) (fun k hk => by unfold lS at hk; omega))
  · exact (RRl.fr h.mv_.2.2.2.2.2.2.2 hF1 (fun p j k h9 => by unfold SCr at k; omega)).cg (addO_ag h6 (by unfold uS; omega) (fun k hk => by unfold uS at hk; omega))
theorem cc_open (h : CIv σ x0 mv kv img tp n fl) (hB : 16 ≤ B.1 ∧ 1000 ≤ B.2) (h0 : mv 4 < 6 → ∀ τ, CIv τ x0 (addO mv (fun _ => 0)) kv img tp n fl → FCl σ τ → Q (.inl (some (.int (J (mv 4))))) τ) (h1 : ¬ mv 4 < 6 → Q (.inr 2) σ) : WP gT (d + 17) B 99 0 [.ref x0] [] σ Q := by
  have hx := h.x
  have ho1 := h.mv_.2.1.s
  refine g_99_0 h.sh hB ?_
  rw [h.sc.2.1, J_lt (by omega) (by omega)]
  refine ⟨fun c => ?_, h1⟩
  have hr := op_row (o := mv 4) h.sh (by omega)
  simp (disch := omega) only [J_add, J_mul, J_sub, J_cl, J_lt, J_le, J_eq, vp_J, n1_ne, n1_lt, n1_le, n1_nlt, n1_nle]
  refine ⟨(by omega), c_fill (z := 384) hr.2.1 hr.2.2 (by omega) (fun τ hF hz => ⟨hF.sh h.sh, ?_⟩)⟩
  exact c_addO (st := fun _ => 0) h c (fun k _ => Nat.zero_le _) hF (fun p j k => Or.inr k) hz (h0 c)
theorem r_addO {st : Mem} (hy : y0 = 260) (h : RIv σ y0 mv kv img tp n fl) (f : Fr (fun p j => p = y0 + 1 ∨ SRr y0 p j) σ τ) (ht : sI τ y0 0 = J 0) (hm : RMm τ y0 (putO mv (mv 4) st)) (h6 : mv 4 < 6) (hQ : ∀ ρ, RIv ρ y0 (addO mv st) kv img tp n fl → FRf σ ρ → sI ρ y0 0 = J 0 → Q (.inl (some (.int (J (mv 4))))) ρ) : Q (.inl (some (.int (((sI τ (y0 + 1) 4) + (J 1)) - (J 1))))) (setI τ (y0 + 1) 4 ((sI τ (y0 + 1) 4) + (J 1))) := by
  rw [hm.at (by omega), putO_o (by omega), J_add, J_sub (by omega), Nat.add_sub_cancel]
  have hF : Fr (fun p j => p = y0 + 1 ∨ SRr y0 p j) σ (setI τ (y0 + 1) 4 (J (mv 4 + 1))) := f.setI (Or.inl rfl)
  exact hQ _ (h.chg hF (fun p j k => k) hm.up) (FRf.of hy hF (fun p j k => by unfold SRr at k; omega)) (by rw [sI_any (by omega)]; exact ht)
theorem rr_open (hy : y0 = 260) (ho : VOo mv) (h : RIv σ y0 mv kv img tp n fl) (h0 : mv 4 < 6 → ∀ τ, RIv τ y0 (addO mv (fun _ => 0)) kv img tp n fl → FRf σ τ → sI τ y0 0 = J 0 → Q (.inl (some (.int (J (mv 4))))) τ) (h1 : ¬ mv 4 < 6 → ∀ τ v, RIv τ y0 mv kv img tp n fl → FRf σ τ → sI τ y0 0 = J 1 → Q (.inl (some (.int v))) τ) : WP gT d B 205 0 [.ref y0, .retAddr 0] [] σ Q := by
  have ho1 := ho.s
  refine g_205_0 h.1 ?_
  rw [h.2.1.at (by omega)]
  simp (disch := omega) only [J_eq]
  by_cases c : mv 4 = 6
  · simp only [if_pos c]
    exact ⟨fun e => absurd e ret1, fun _ => h1 (by omega) _ _ h.thr (FRf.th hy) sI_same⟩
  · simp only [if_neg c]
    refine ⟨fun _ => ?_, fun e => absurd ret0 e⟩
    refine upto (I := fun i τ => Fr (fun p j => p = y0 + 1 ∨ SRr y0 p j) σ τ ∧ sI τ y0 0 = J 0 ∧ ∀ k, k < 4488 → sI τ (y0 + 1) k = J (if 424 + 384 * mv 4 ≤ k ∧ k < 424 + 384 * mv 4 + i then 0 else mv k)) (W := fun i τ => WP gT d B 205 31 [.ref y0, .int (J i)] [] τ Q) 384 ?_ ?_ 0 _ (by omega) ⟨Fr.rf.setI (Or.inr (by unfold SRr; omega)), sI_same, fun k hk => by rw [if_neg (by omega), sI_any (by omega)]; exact h.2.1 k hk⟩
    · intro i τ hi hI ih
      obtain ⟨hF, h2, h3⟩ := hI
      have e4 : sI τ (y0 + 1) 4 = J (mv 4) := by rw [h3 4 (by omega), if_neg (by omega)]
      refine g_205_31 (hF.sh h.1) ⟨fun e => ?_, fun _ => ?_⟩
      · exfalso; simp (disch := omega) only [J_add, J_mul, J_sub, J_cl, J_lt, J_le, J_eq, vp_J, n1_ne, n1_lt, n1_le, n1_nlt, n1_nle] at e; omega
      · rw [e4]
        simp (disch := omega) only [J_add, J_mul, J_sub, J_cl, J_lt, J_le, J_eq, vp_J, n1_ne, n1_lt, n1_le, n1_nlt, n1_nle]
        refine ⟨(by omega), ih _ ⟨hF.setI (Or.inl rfl), by rw [sI_any (by omega)]; exact h2, fun k hk => ?_⟩⟩
        by_cases e : k = 424 + 384 * mv 4 + i
        · subst e; rw [sI_same, if_pos (by omega)]
        · rw [sI_any (by omega), h3 k hk]
          by_cases c2 : 424 + 384 * mv 4 ≤ k ∧ k < 424 + 384 * mv 4 + i
          · rw [if_pos c2, if_pos (by omega)]
          · rw [if_neg c2, if_neg (by omega)]
    · intro τ hI
      obtain ⟨hF, h2, h3⟩ := hI
      refine g_205_31 (hF.sh h.1) ⟨fun _ => r_addO (st := fun _ => 0) hy h hF h2 (fun k hk => ?_) (by omega) (h0 (by omega)), fun e => absurd (by decide) e⟩
      rw [h3 k hk]; unfold putO; split <;> rfl
theorem r_keeps0 {st : Mem} {h0σ : Sto} (hy : y0 = 260) (h : RIv h0σ y0 mv kv img tp n fl) (f : Fr (fun p j => p = y0 + 1 ∨ SRr y0 p j) h0σ σ) (ht : sI σ y0 0 = J 0) (hm : RMm σ y0 mv) (h6 : mv 4 < 6) (hst : ∀ k, k < 384 → sI σ (y0 + 5) k = J (st k)) (hQ : ∀ ρ, RIv ρ y0 (addO mv st) kv img tp n fl → FRf h0σ ρ → sI ρ y0 0 = J 0 → Q (.inl (some (.int (J (mv 4))))) ρ) : WP gT d B 207 0 [.ref y0, .retAddr 0] [] σ Q := by
  refine g_207_0 (upto (I := fun i τ => Fr (fun p j => p = y0 + 1 ∨ SRr y0 p j) h0σ τ ∧ sI τ y0 0 = J 0 ∧ (∀ k, k < 384 → sI τ (y0 + 5) k = J (st k)) ∧ ∀ k, k < 4488 → sI τ (y0 + 1) k = J (if 424 + 384 * mv 4 ≤ k ∧ k < 424 + 384 * mv 4 + i then st (k - (424 + 384 * mv 4)) else mv k)) (W := fun i τ => WP gT d B 207 2 [.ref y0, .int (J i)] [] τ Q) 384 ?_ ?_ 0 σ (by omega) ⟨f, ht, hst, fun k hk => by rw [if_neg (by omega)]; exact hm k hk⟩)
  · intro i τ hi hI ih
    obtain ⟨hF, h2, h4, h3⟩ := hI
    have e4 : sI τ (y0 + 1) 4 = J (mv 4) := by rw [h3 4 (by omega), if_neg (by omega)]
    refine g_207_2 (hF.sh h.1) ⟨fun e => ?_, fun _ => ?_⟩
    · exfalso; simp (disch := omega) only [J_add, J_mul, J_sub, J_cl, J_lt, J_le, J_eq, vp_J, n1_ne, n1_lt, n1_le, n1_nlt, n1_nle] at e; omega
    · rw [e4]
      simp (disch := omega) only [J_add, J_mul, J_sub, J_cl, J_lt, J_le, J_eq, vp_J, n1_ne, n1_lt, n1_le, n1_nlt, n1_nle, h4]
      refine ⟨(by omega), (by omega), ih _ ⟨hF.setI (Or.inl rfl), by rw [sI_any (by omega)]; exact h2, fun k hk => by rw [sI_any (by omega)]; exact h4 k hk, fun k hk => ?_⟩⟩
      by_cases e : k = 424 + 384 * mv 4 + i
      · subst e; rw [sI_same, if_pos (by omega), show 424 + 384 * mv 4 + i - (424 + 384 * mv 4) = i by omega]
      · rw [sI_any (by omega), h3 k hk]
        by_cases c2 : 424 + 384 * mv 4 ≤ k ∧ k < 424 + 384 * mv 4 + i
        · rw [if_pos c2, if_pos (by omega)]
        · rw [if_neg c2, if_neg (by omega)]
  · intro τ hI
    obtain ⟨hF, h2, h4, h3⟩ := hI
    exact g_207_2 (hF.sh h.1) ⟨fun _ => r_addO (st := st) hy h hF h2 (fun k hk => h3 k hk) (by omega) hQ, fun e => absurd (by decide) e⟩
theorem cc_copy (h : CIv σ x0 mv kv img tp n fl) (hB : 16 ≤ B.1 ∧ 1000 ≤ B.2) {a1 : Int32} (h0 : ∀ k1, k1 < mv 4 → mv 4 < 6 → a1 = J k1 → ∀ τ, CIv τ x0 (addO mv (stO mv k1)) kv img tp n fl → FCl σ τ → Q (.inl (some (.int (J (mv 4))))) τ) (h1 : ¬ IX a1 (mv 4) → Q (.inr 0) σ) (h2 : IX a1 (mv 4) → ¬ mv 4 < 6 → Q (.inr 2) σ) : WP gT (d + 18) B 100 0 [.ref x0, .int a1] [] σ Q := by
  have hx := h.x
  have ho := h.mv_.2.1
  have ho1 := ho.s
  refine g_100_0 h.sh hB ⟨fun c1 => ?_, fun c => h1 (fun k => c (h.gO.mpr k))⟩
  rw [h.sc.2.1, J_lt (by omega) (by omega)]
  refine ⟨fun c => ?_, h2 (h.gO.mp c1)⟩
  obtain ⟨k1, hk1, rfl⟩ := h.gO.mp c1
  have hr := op_row (o := mv 4) h.sh (by omega)
  have hr1 := op_row (o := k1) h.sh (by omega)
  simp (disch := omega) only [J_add, J_mul, J_sub, J_cl, J_lt, J_le, J_eq, vp_J, n1_ne, n1_lt, n1_le, n1_nlt, n1_nle]
  refine ⟨(by omega), (by omega), c_copyRow (z := 384) hr1.2.1 hr.2.1 hr1.2.2 hr.2.2 (by omega) (by omega) (fun τ hF hz => ⟨hF.sh h.sh, ?_⟩)⟩
  refine c_addO (st := stO mv k1) h c (fun k hk => ho.o hk1 hk) hF (fun p j k => Or.inr k) (fun k hk => ?_) (h0 k1 hk1 c rfl)
  rw [hz k hk, show x0 + 42 + k1 = x0 + 24 + 18 + k1 by omega]; exact h.mv_.2.2.2.2.2.1 k1 hk1 k hk
theorem rr_copy (hy : y0 = 260) (ho : VOo mv) (h : RIv σ y0 mv kv img tp n fl) {a1 : Int32} (h0 : ∀ k1, k1 < mv 4 → mv 4 < 6 → a1 = J k1 → ∀ τ, RIv τ y0 (addO mv (stO mv k1)) kv img tp n fl → FRf σ τ → sI τ y0 0 = J 0 → Q (.inl (some (.int (J (mv 4))))) τ) (h1 : ¬ IX a1 (mv 4) → ∀ τ v, RIv τ y0 mv kv img tp n fl → FRf σ τ → sI τ y0 0 = J 1 → Q (.inl (some (.int v))) τ) (h2 : IX a1 (mv 4) → ¬ mv 4 < 6 → ∀ τ v, RIv τ y0 mv kv img tp n fl → FRf σ τ → sI τ y0 0 = J 2 → Q (.inl (some (.int v))) τ) : WP gT (d + 2) B 206 0 [.ref y0, .int a1] [] σ Q := by
  have ho1 := ho.s
  refine g_206_0 h.1 (fun u hu => ?_)
  rw [h.2.1.at (by omega)] at hu
  simp (disch := omega) only [J_eq] at hu
  by_cases c1 : IX a1 (mv 4)
  · rw [if_neg (fun e => (r167 h.2.1 ho).mp e c1)] at hu
    by_cases c : mv 4 = 6
    · rw [if_pos c] at hu; subst hu
      exact ⟨fun e => absurd e ret2, fun _ => h2 c1 (by omega) _ _ h.thr (FRf.th hy) sI_same⟩
    · rw [if_neg c] at hu; subst hu
      obtain ⟨k1, hk1, rfl⟩ := c1
      refine ⟨fun _ => r_takes (mv := mv) h.thr.1 h.thr.2.1 (by omega) (fun τ hF hst hm => ?_), fun e => absurd ret0 e⟩
      have h3 := h.thr.fr hF (fun p j k _ _ => by unfold SRr; omega)
      refine ⟨h3.1, r_keeps0 (h0σ := σ) (st := stO mv k1) hy h ?_ ?_ h3.2.1 (by omega) hst (h0 k1 hk1 (by omega) rfl)⟩
      · exact (Fr.rf.setI (Or.inr (by unfold SRr; omega))).tr (hF.mono (fun p j k => Or.inr (by unfold SRr; omega)))
      · rw [hF.i (by omega), sI_same]
  · rw [if_pos ((r167 h.2.1 ho).mpr c1)] at hu
    subst hu
    exact ⟨fun e => absurd e ret1, fun _ => h1 c1 _ _ h.thr (FRf.th hy) sI_same⟩
