/-! ===== the reference: a whole flood ===== -/
/-- the flood of (mv, st, more) lies in the rows -/
def RFf (σ : Sto) (x0 : Nat) (mv st : Mem) (more : Nat) : Prop := (∀ q, q ≤ 96 → sI σ (x0 + 6) q = lkF mv st q) ∧ (∀ q r, q ≤ 96 → r < mv 2 → sI σ (x0 + 7) (97 * r + q) = rcF mv st more q r) ∧ (∀ q, q < 96 → sI σ (x0 + 8) q = ltF mv st q) ∧ (∀ q, q < 96 → sI σ (x0 + 9) q = gnF mv st more (q + 1))
/-- as far as quarter n -/
def RFn (σ : Sto) (x0 : Nat) (mv st : Mem) (more n : Nat) : Prop := (∀ q, q ≤ n → sI σ (x0 + 6) q = lkF mv st q) ∧ (∀ q r, q ≤ n → r < mv 2 → sI σ (x0 + 7) (97 * r + q) = rcF mv st more q r) ∧ (∀ q, q < n → sI σ (x0 + 8) q = ltF mv st q) ∧ (∀ q, q < n → sI σ (x0 + 9) q = gnF mv st more (q + 1))
def P200 (x0 : Nat) : Nat → Nat → Prop := fun p _ => p = x0 + 6 ∨ p = x0 + 7 ∨ p = x0 + 8 ∨ p = x0 + 9
theorem P199_200 {x0 q : Nat} : ∀ p j, P199 x0 q p j → P200 x0 p j := fun p j h => by unfold P199 at h; unfold P200; omega
theorem r_begins {d : Nat} {B : Nat × Nat} {σ : Sto} {Q : Out → Sto → Prop} {x0 : Nat} {mv st : Mem} {more : Nat} (nx0 : S_12 σ x0) (hv : VG mv) (hm : RMm σ x0 mv)
    (hQ : ∀ τ, Fr (P200 x0) σ τ → RFn τ x0 mv st more 0 → Q (.inl none) τ) : WP gT d B 198 0 [.ref x0, .retAddr 0] [] σ Q := by
  have hs := hv.s
  have L : ∀ r τ, r ≤ mv 2 → (Fr (P200 x0) σ τ ∧ sI τ (x0 + 6) 0 = J (mv 10) ∧ ∀ k, k < r → sI τ (x0 + 7) (97 * k) = J 0) → WP gT d B 198 15 [.ref x0, .int (J r)] [] τ Q := by
    refine upto (mv 2) ?_ ?_
    · intro r τ hr hI ih
      obtain ⟨hF, h1, h2⟩ := hI
      have hm2 : RMm τ x0 mv := hm.fr hF (fun j h => by unfold P200 at h; omega)
      refine g_198_15 (hF.sh nx0) ⟨fun c => ?_, fun _ => ?_⟩
      · exfalso; simp (disch := omega) only [J_add, J_mul, J_sub, J_cl, J_lt, J_le, J_eq, vp_J, n1_ne, n1_lt, n1_le, n1_nlt, n1_nle, hm2.at] at c; omega
      · simp (disch := omega) only [J_add, J_mul, J_sub, J_cl, J_lt, J_le, J_eq, vp_J, n1_ne, n1_lt, n1_le, n1_nlt, n1_nle]
        refine ⟨(by omega), ih _ ⟨hF.setI (by unfold P200; omega), ?_, fun k hk => ?_⟩⟩
        · rw [sI_any (by omega)]; exact h1
        · by_cases e : k = r
          · subst e; rw [sI_same]
          · rw [sI_any (by omega)]; exact h2 k (by omega)
    · intro τ hI
      obtain ⟨hF, h1, h2⟩ := hI
      have hm2 : RMm τ x0 mv := hm.fr hF (fun j h => by unfold P200 at h; omega)
      refine g_198_15 (hF.sh nx0) ⟨fun _ => ?_, fun c => ?_⟩
      · refine hQ τ hF ⟨fun q hq => ?_, fun q r hq hr => ?_, fun q hq => by omega, fun q hq => by omega⟩
        · obtain rfl : q = 0 := by omega
          exact h1
        · obtain rfl : q = 0 := by omega
          exact h2 r hr
      · exfalso; simp (disch := omega) only [J_add, J_mul, J_sub, J_cl, J_lt, J_le, J_eq, vp_J, n1_ne, n1_lt, n1_le, n1_nlt, n1_nle, hm2.at] at c; omega
  refine g_198_0 nx0 (L 0 _ (Nat.zero_le _) ⟨Fr.rf.setI (by unfold P200; omega), ?_, fun k hk => by omega⟩)
  rw [sI_same]; exact hm 10 (by omega)
theorem r_quarter' {d : Nat} {B : Nat × Nat} {σ : Sto} {Q : Out → Sto → Prop} {x0 : Nat} {mv st : Mem} {more q : Nat} (nx0 : S_12 σ x0) (hv : VG mv) (hm : RMm σ x0 mv) (hn : ∀ k, k < 384 → sI σ (x0 + 5) k = J (st k)) (hst : ∀ k, k < 384 → st k ≤ 6) (hmo : sI σ x0 20 = J more) (hq : q < 96)
    (hf : RFn σ x0 mv st more q) (hQ : ∀ τ, Fr (P200 x0) σ τ → RFn τ x0 mv st more (q + 1) → Q (.inl none) τ) :
    WP gT (d + 2) B 199 0 [.ref x0, .int (J q), .retAddr 0, .retAddr 0, .retAddr 0, .retAddr 0, .retAddr 0, .retAddr 0, .retAddr 0] [] σ Q := by
  obtain ⟨h1, h2, h3, h4⟩ := hf
  refine r_quarter nx0 hv hm hn hst hmo hq (h1 q (Nat.le_refl _)) (fun r hr => h2 q r (Nat.le_refl _) hr) (fun h0 => ?_) (fun τ hF k1 k2 k3 k4 => hQ τ (hF.mono P199_200) ⟨fun a ha => ?_, fun a r ha hr => ?_, fun a ha => ?_, fun a ha => ?_⟩)
  · have := h4 (q - 1) (by omega); rw [show q - 1 + 1 = q by omega] at this; exact this
  · by_cases e : a = q + 1
    · subst e; exact k1
    · rw [hF.i (by unfold P199; omega)]; exact h1 a (by omega)
  · by_cases e : a = q + 1
    · subst e; exact k2 r hr
    · rw [hF.i (by unfold P199; omega)]; exact h2 a r (by omega) hr
  · by_cases e : a = q
    · subst e; exact k3
    · rw [hF.i (by unfold P199; omega)]; exact h3 a (by omega)
  · by_cases e : a = q
    · subst e; exact k4
    · rw [hF.i (by unfold P199; omega)]; exact h4 a (by omega)
theorem r_runs {d : Nat} {B : Nat × Nat} {σ : Sto} {Q : Out → Sto → Prop} {x0 : Nat} {mv st : Mem} {more : Nat} (nx0 : S_12 σ x0) (hv : VG mv) (hm : RMm σ x0 mv) (hn : ∀ k, k < 384 → sI σ (x0 + 5) k = J (st k)) (hst : ∀ k, k < 384 → st k ≤ 6) (hmo : sI σ x0 20 = J more)
    (hQ : ∀ τ, Fr (P200 x0) σ τ → RFf τ x0 mv st more → Q (.inl none) τ) : WP gT (d + 3) B 200 0 [.ref x0, .retAddr 0] [] σ Q := by
  have L : ∀ q τ, q ≤ 96 → (Fr (P200 x0) σ τ ∧ RFn τ x0 mv st more q) → WP gT (d + 3) B 200 6 [.ref x0, .int (J q)] [] τ Q := by
    refine upto 96 ?_ ?_
    · intro q τ hq hI ih
      obtain ⟨hF, hf⟩ := hI
      refine g_200_6 (hF.sh nx0) ⟨fun c => ?_, fun _ => ?_⟩
      · exfalso; simp (disch := omega) only [J_add, J_mul, J_sub, J_cl, J_lt, J_le, J_eq, vp_J, n1_ne, n1_lt, n1_le, n1_nlt, n1_nle] at c; omega
      · simp only [J_add]
        exact r_quarter' (hF.sh nx0) hv (hm.fr hF (fun j h => by unfold P200 at h; omega)) (fun k hk => (hF.i (by unfold P200; omega)).trans (hn k hk)) hst ((hF.i (by unfold P200; omega)).trans hmo) hq hf (fun τ' hF' hf' => ih τ' ⟨hF.tr hF', hf'⟩)
    · intro τ hI
      obtain ⟨hF, h1, h2, h3, h4⟩ := hI
      refine g_200_6 (hF.sh nx0) ⟨fun _ => hQ τ hF ⟨h1, h2, h3, h4⟩, fun c => ?_⟩
      exfalso; simp (disch := omega) only [J_add, J_mul, J_sub, J_cl, J_lt, J_le, J_eq, vp_J, n1_ne, n1_lt, n1_le, n1_nlt, n1_nle] at c; omega
  exact g_200_0 nx0 (r_begins nx0 hv hm (fun τ hF hf => L 0 τ (by omega) ⟨hF, hf⟩))
theorem r_takes {d : Nat} {B : Nat × Nat} {σ : Sto} {Q : Out → Sto → Prop} {x0 : Nat} {mv : Mem} {o : Nat} (nx0 : S_12 σ x0) (hm : RMm σ x0 mv) (ho : o < 6)
    (hQ : ∀ τ, Fr (fun p j => p = x0 + 5 ∨ (p = x0 ∧ j = 20)) σ τ → (∀ k, k < 384 → sI τ (x0 + 5) k = J (mv (424 + 384 * o + k))) → sI τ x0 20 = J 0 → Q (.inl none) τ) : WP gT d B 201 0 [.ref x0, .int (J o), .retAddr 0] [] σ Q := by
  have L : ∀ k τ, k ≤ 384 → (Fr (fun p j => p = x0 + 5 ∨ (p = x0 ∧ j = 20)) σ τ ∧ ∀ i, i < k → sI τ (x0 + 5) i = J (mv (424 + 384 * o + i))) → WP gT d B 201 2 [.ref x0, .int (J o), .int (J k)] [] τ Q := by
    refine upto 384 ?_ ?_
    · intro k τ hk hI ih
      obtain ⟨hF, h1⟩ := hI
      have hm2 : RMm τ x0 mv := hm.fr hF (fun j h => by omega)
      refine g_201_2 (hF.sh nx0) ⟨fun c => ?_, fun _ => ?_⟩
      · exfalso; simp (disch := omega) only [J_add, J_mul, J_sub, J_cl, J_lt, J_le, J_eq, vp_J, n1_ne, n1_lt, n1_le, n1_nlt, n1_nle] at c; omega
      · simp (disch := omega) only [J_add, J_mul, J_sub, J_cl, J_lt, J_le, J_eq, vp_J, n1_ne, n1_lt, n1_le, n1_nlt, n1_nle, hm2.at]
        refine ⟨(by omega), (by omega), ih _ ⟨hF.setI (Or.inl rfl), fun i hi => ?_⟩⟩
        by_cases e : i = k
        · subst e; rw [sI_same]
        · rw [sI_any (by omega)]; exact h1 i (by omega)
    · intro τ hI
      obtain ⟨hF, h1⟩ := hI
      refine g_201_2 (hF.sh nx0) ⟨fun _ => hQ _ (hF.setI (Or.inr ⟨rfl, rfl⟩)) (fun k hk => ?_) sI_same, fun c => ?_⟩
      · rw [sI_any (by omega)]; exact h1 k hk
      · exfalso; simp (disch := omega) only [J_add, J_mul, J_sub, J_cl, J_lt, J_le, J_eq, vp_J, n1_ne, n1_lt, n1_le, n1_nlt, n1_nle] at c; omega
  exact g_201_0 (L 0 σ (by omega) ⟨Fr.rf, fun i hi => by omega⟩)
/-- an opening's steps -/
def stO (mv : Mem) (o : Nat) : Mem := fun k => mv (424 + 384 * o + k)
def PFf (x0 : Nat) : Nat → Nat → Prop := fun p j => (x0 + 5 ≤ p ∧ p ≤ x0 + 9) ∨ (p = x0 ∧ j = 20)
theorem r_runsOf {d : Nat} {B : Nat × Nat} {σ : Sto} {Q : Out → Sto → Prop} {x0 : Nat} {mv : Mem} {o : Nat} (nx0 : S_12 σ x0) (hv : VG mv) (ho : VOo mv) (hm : RMm σ x0 mv) (ho2 : o < mv 4)
    (hQ : ∀ τ, Fr (PFf x0) σ τ → RFf τ x0 mv (stO mv o) 0 → (∀ k, k < 384 → sI τ (x0 + 5) k = J (stO mv o k)) → sI τ x0 20 = J 0 → Q (.inl none) τ) : WP gT (d + 4) B 202 0 [.ref x0, .int (J o)] [] σ Q := by
  have h6 := ho.1.1
  refine g_202_0 nx0 (r_takes nx0 hm (by omega) (fun τ hF h1 h2 => ⟨hF.sh nx0, ?_⟩))
  refine r_runs (hF.sh nx0) hv (hm.fr hF (fun j h => by omega)) (st := stO mv o) h1 (fun k hk => ho.2.1 o ho2 k hk) h2 (fun ρ hG hf => hQ ρ ((hF.mono ?_).tr (hG.mono ?_)) hf ?_ ?_)
  · intro p j h; unfold PFf; omega
  · intro p j h; unfold P200 at h; unfold PFf; omega
  · intro k hk; rw [hG.i (by unfold P200; omega)]; exact h1 k hk
  · rw [hG.i (by unfold P200; omega)]; exact h2
