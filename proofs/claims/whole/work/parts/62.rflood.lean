/-! ===== the reference: its reads, and a flood ===== -/
theorem RMm.at {σ : Sto} {x0 : Nat} {mv : Mem} (h : RMm σ x0 mv) {k : Nat} (hk : k < 4488) : sI σ (x0 + 1) k = J (mv k) := h k hk
theorem RMm.fr {P : Nat → Nat → Prop} {σ τ : Sto} {x0 : Nat} {mv : Mem} (h : RMm σ x0 mv) (f : Fr P σ τ) (hP : ∀ j, ¬ P (x0 + 1) j) : RMm τ x0 mv := fun k hk => (f.i (hP k)).trans (h k hk)
theorem rv_169 {σ : Sto} {x0 : Nat} {mv : Mem} (h : RMm σ x0 mv) {r w : Nat} (hk : 336 + 5 * r + w < 4488) : f_169 σ x0 (J r) (J w) = J (mv (336 + 5 * r + w)) := by
  unfold f_169; simp (disch := omega) only [J_add, J_mul, J_sub, J_cl, J_lt, J_le, J_eq, vp_J, n1_ne, n1_lt, n1_le, n1_nlt, n1_nle, h.at]
theorem rv_170 {σ : Sto} {x0 : Nat} {mv : Mem} (h : RMm σ x0 mv) {r w : Nat} (hk : 376 + 4 * r + w < 4488) : f_170 σ x0 (J r) (J w) = J (mv (376 + 4 * r + w)) := by
  unfold f_170; simp (disch := omega) only [J_add, J_mul, J_sub, J_cl, J_lt, J_le, J_eq, vp_J, n1_ne, n1_lt, n1_le, n1_nlt, n1_nle, h.at]
theorem rv_171 {σ : Sto} {x0 : Nat} {mv : Mem} (h : RMm σ x0 mv) {r w : Nat} (hk : 2728 + 6 * r + w < 4488) : f_171 σ x0 (J r) (J w) = J (mv (2728 + 6 * r + w)) := by
  unfold f_171; simp (disch := omega) only [J_add, J_mul, J_sub, J_cl, J_lt, J_le, J_eq, vp_J, n1_ne, n1_lt, n1_le, n1_nlt, n1_nle, h.at]
theorem rv_195 {σ : Sto} {x0 : Nat} {mv : Mem} (h : RMm σ x0 mv) (hv : VG mv) : f_195 σ x0 = J (lv0 mv) := by
  have := hv.s
  unfold f_195 lv0; simp (disch := omega) only [h.at, J_div]
theorem rv_197 {σ : Sto} {x0 : Nat} {mv : Mem} (h : RMm σ x0 mv) (hv : VG mv) {g s : Nat} (hg : g < mv 1) (hs : s ≤ 6) : f_197 σ x0 (J g) (J s) = J (flwG mv g s) := by
  have h1 := hv.s
  have h2 := hv.g hg
  unfold f_197 flwG
  simp (disch := omega) only [J_add, J_mul, J_sub, J_cl, J_lt, J_le, J_eq, vp_J, n1_ne, n1_lt, n1_le, n1_nlt, n1_nle, h.at]
  split
  · rfl
  · split <;> rfl
def P199 (x0 q : Nat) : Nat → Nat → Prop := fun p j => (p = x0 + 6 ∧ j = q + 1) ∨ (p = x0 + 7 ∧ j % 97 = q + 1) ∨ (p = x0 + 8 ∧ j = q) ∨ (p = x0 + 9 ∧ j = q)
theorem r_quarter {d : Nat} {B : Nat × Nat} {σ : Sto} {Q : Out → Sto → Prop} {x0 : Nat} {mv st : Mem} {more q : Nat} (nx0 : S_12 σ x0) (hv : VG mv) (hm : RMm σ x0 mv) (hn : ∀ k, k < 384 → sI σ (x0 + 5) k = J (st k)) (hst : ∀ k, k < 384 → st k ≤ 6) (hmo : sI σ x0 20 = J more) (hq : q < 96)
    (hl : sI σ (x0 + 6) q = lkF mv st q) (hr : ∀ r, r < mv 2 → sI σ (x0 + 7) (97 * r + q) = rcF mv st more q r) (hg : 0 < q → sI σ (x0 + 9) (q - 1) = gnF mv st more q)
    (hQ : ∀ τ, Fr (P199 x0 q) σ τ → sI τ (x0 + 6) (q + 1) = lkF mv st (q + 1) → (∀ r, r < mv 2 → sI τ (x0 + 7) (97 * r + (q + 1)) = rcF mv st more (q + 1) r) → sI τ (x0 + 8) q = ltF mv st q → sI τ (x0 + 9) q = gnF mv st more (q + 1) → Q (.inl none) τ) :
    WP gT (d + 2) B 199 0 [.ref x0, .int (J q), .retAddr 0, .retAddr 0, .retAddr 0, .retAddr 0, .retAddr 0, .retAddr 0, .retAddr 0] [] σ Q := by
  have hs := hv.s
  have hqv := hv.q hq
  -- the reaches
  have L2 : ∀ (lv fi l : Int32) r τ, r ≤ mv 2 → (Fr (P199 x0 q) σ τ ∧ sI τ (x0 + 6) (q + 1) = lkF mv st (q + 1) ∧ sI τ (x0 + 8) q = ltF mv st q ∧ (∀ k, k < r → sI τ (x0 + 7) (97 * k + (q + 1)) = rcF mv st more (q + 1) k)) →
      ∀ x7 x8 : Value, WP gT (d + 2) B 199 151 [.ref x0, .int (J q), .int lv, .int fi, .int l, .int (comF mv (rcF mv st more q) (ltF mv st q) r), .int (J r), x7, x8] [] τ Q := by
    intro lv fi l
    refine upto (mv 2) ?_ ?_
    · intro r τ hr2 hI ih x7 x8
      obtain ⟨hF, hI1, hI2, hI3⟩ := hI
      have hrv := hv.r hr2
      have hm2 : RMm τ x0 mv := hm.fr hF (fun j h => by unfold P199 at h; omega)
      have h7 : sI τ (x0 + 7) (97 * r + q) = rcF mv st more q r := (hF.i (by unfold P199; omega)).trans (hr r hr2)
      have h20 : sI τ x0 20 = J more := (hF.i (by unfold P199; omega)).trans hmo
      have e9 : ∀ x y : Int32, (if x < y then J 1 else J 2) = J (if x < y then 1 else 2) := fun x y => by split <;> rfl
      have b9 : ∀ x y : Int32, (if x < y then 1 else 2) ≤ 2 := fun x y => by split <;> omega
      have b8 := b9 (rcF mv st more q r / J (mv (336 + 5 * r))) (J (mv (336 + 5 * r + 3)))
      refine g_199_151 (hF.sh nx0) ⟨fun c => ?_, fun _ => ?_⟩
      · exfalso; simp (disch := omega) only [J_add, J_mul, J_sub, J_cl, J_lt, J_le, J_eq, vp_J, n1_ne, n1_lt, n1_le, n1_nlt, n1_nle, hm2.at] at c; omega
      · simp (disch := omega) only [J_add, J_mul, J_sub, J_cl, J_lt, J_le, J_eq, vp_J, n1_ne, n1_lt, n1_le, n1_nlt, n1_nle, hm2.at, rv_169 hm2, f_196, h7, Nat.add_zero, e9]
        refine ⟨(by omega), (by omega), (by omega), (by omega), (by omega), (by omega), fun u12 hu12 => ⟨(by omega), (by omega), (by omega), fun u16 hu16 => ?_⟩⟩
        have ho : u12 = outF mv (rcF mv st more q) r := hu12
        have hw : u16 = rcF mv st more (q + 1) r := by
          rw [hu16, h20, ho]; simp only [J_add]; rfl
        subst ho
        refine ih _ ⟨hF.setI (by unfold P199; omega), ?_, ?_, fun k hk => ?_⟩ _ _
        · simp (disch := omega) only [sI_same, sI_any]; exact hI1
        · simp (disch := omega) only [sI_same, sI_any]; exact hI2
        · by_cases e : k = r
          · subst e; rw [show 97 * k + (q + 1) = 97 * k + q + 1 from rfl, sI_same]; exact hw
          · rw [sI_any (by omega)]; exact hI3 k (by omega)
    · intro τ hI x7 x8
      obtain ⟨hF, hI1, hI2, hI3⟩ := hI
      have hm2 : RMm τ x0 mv := hm.fr hF (fun j h => by unfold P199 at h; omega)
      have h9 : 0 < q → sI τ (x0 + 9) (q - 1) = gnF mv st more q := fun h => (hF.i (by unfold P199; omega)).trans (hg h)
      refine g_199_151 (hF.sh nx0) ⟨fun _ => ?_, fun c => ?_⟩
      · have hu : (if J q = J 0 then J 0 else sI τ (x0 + 9) ((J q - J 1).toNatClampNeg)) = gnF mv st more q := by
          by_cases e : q = 0
          · subst e; rfl
          · simp (disch := omega) only [J_add, J_mul, J_sub, J_cl, J_lt, J_le, J_eq, vp_J, n1_ne, n1_lt, n1_le, n1_nlt, n1_nle]; rw [if_neg e, h9 (by omega)]
        refine ⟨fun c => ⟨?_, trivial⟩, fun u2 hu2 => ⟨?_, ?_⟩⟩
        · simp (disch := omega) only [J_add, J_mul, J_sub, J_cl, J_lt, J_le, J_eq, vp_J, n1_ne, n1_lt, n1_le, n1_nlt, n1_nle] at c
          simp (disch := omega) only [J_add, J_mul, J_sub, J_cl, J_lt, J_le, J_eq, vp_J, n1_ne, n1_lt, n1_le, n1_nlt, n1_nle]; omega
        · simp (disch := omega) only [J_add, J_mul, J_sub, J_cl, J_lt, J_le, J_eq, vp_J, n1_ne, n1_lt, n1_le, n1_nlt, n1_nle]; omega
        · rw [hu] at hu2; subst hu2
          simp (disch := omega) only [J_cl]
          refine hQ _ (hF.setI (by unfold P199; omega)) ?_ (fun r hr => ?_) ?_ ?_
          · rw [sI_any (by omega)]; exact hI1
          · rw [sI_any (by omega)]; exact hI3 r hr
          · rw [sI_any (by omega)]; exact hI2
          · rw [sI_same]; rfl
      · exfalso; simp (disch := omega) only [J_add, J_mul, J_sub, J_cl, J_lt, J_le, J_eq, vp_J, n1_ne, n1_lt, n1_le, n1_nlt, n1_nle, hm2.at] at c; omega
  -- the gates
  have L1 : ∀ g τ, g ≤ mv 1 → τ = σ → ∀ x6 : Value, WP gT (d + 2) B 199 31 [.ref x0, .int (J q), .int (lkF mv st q / J (mv 9)), .int (J (lv0 mv)), .int (lft mv st q (lkF mv st q) g), .int (J g), x6, .retAddr 0, .retAddr 0] [] τ Q := by
    refine upto (mv 1) ?_ ?_
    · intro g τ hg2 hI ih x6
      subst hI
      have hgv := hv.g hg2
      have hsb := hst (96 * g + q) (by omega)
      have hdb := lv0_le mv
      refine g_199_31 nx0 ⟨fun c => ?_, fun _ => ⟨fun c => ?_, fun u hu => ?_⟩⟩
      · exfalso; simp (disch := omega) only [J_add, J_mul, J_sub, J_cl, J_lt, J_le, J_eq, vp_J, n1_ne, n1_lt, n1_le, n1_nlt, n1_nle, hm.at] at c; omega
      · simp (disch := omega) only [J_add, J_mul, J_sub, J_cl, J_lt, J_le, J_eq, vp_J, n1_ne, n1_lt, n1_le, n1_nlt, n1_nle, hm.at, hn] at c ⊢
        refine ⟨(by omega), (by omega), fun c2 => ⟨fun c3 => ⟨?_, trivial⟩, fun c3 => ⟨?_, trivial⟩⟩, ?_, trivial⟩
        · omega
        · omega
        · intro h0
          apply c
          have h1 : (J (lv0 mv)).toInt64.toInt = (0 : Int64).toInt := by rw [h0]
          rw [Int32.toInt_toInt64, J_int (by omega)] at h1
          have h2 : (0 : Int64).toInt = 0 := by decide
          omega
      · have hw : u = wnt mv st q (lkF mv st q) g := by
          rw [hu]
          simp (disch := omega) only [J_add, J_mul, J_sub, J_cl, J_lt, J_le, J_eq, vp_J, n1_ne, n1_lt, n1_le, n1_nlt, n1_nle, hn, rv_197 hm hv]
          rfl
        subst hw
        rw [J_add]
        exact ih τ rfl _
    · intro τ hI x6
      subst hI
      refine g_199_31 nx0 ⟨fun _ => ?_, fun c => ?_⟩
      · simp (disch := omega) only [J_add, J_mul, J_sub, J_cl, J_lt, J_le, J_eq, vp_J, n1_ne, n1_lt, n1_le, n1_nlt, n1_nle, hm.at, hl]
        refine ⟨(by omega), (by omega), (by omega), (by omega), (by omega), ?_⟩
        refine L2 _ _ _ 0 _ (Nat.zero_le _) ⟨(Fr.rf.setI (by unfold P199; omega)).setI (by unfold P199; omega), ?_, ?_, fun k hk => by omega⟩ _ _
        · rw [sI_same]; rfl
        · rw [sI_any (by omega), sI_same]; rfl
      · exfalso; simp (disch := omega) only [J_add, J_mul, J_sub, J_cl, J_lt, J_le, J_eq, vp_J, n1_ne, n1_lt, n1_le, n1_nlt, n1_nle, hm.at] at c; omega
  refine g_199_0 nx0 ?_
  simp (disch := omega) only [J_add, J_mul, J_sub, J_cl, J_lt, J_le, J_eq, vp_J, n1_ne, n1_lt, n1_le, n1_nlt, n1_nle, hm.at, rv_195 hm hv, hl]
  exact ⟨(by omega), (by omega), (by omega), (by omega), L1 0 σ (Nat.zero_le _) rfl _⟩
