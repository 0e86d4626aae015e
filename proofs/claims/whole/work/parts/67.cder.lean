/-! ===== the class: wet places, people, fear, judging ===== -/
variable {d : Nat} {B : Nat × Nat} {σ : Sto} {Q : Out → Sto → Prop} {f g pl D : Nat} {mv : Mem} {dp : Nat → Nat → Int32} {lk : Nat → Int32}
def CDd (σ : Sto) (f : Nat) (mv : Mem) (dp : Nat → Nat → Int32) (lk : Nat → Int32) : Prop := (∀ r, r < mv 2 → dp 0 r = J 0 ∧ 0 ≤ (dp 1 r).toInt) ∧ ∀ q, q < 96 → sI σ (f + 1) q = lk (q + 1) ∧ ∀ r, r < mv 2 → sI σ (f + 14 + r) q = dp (q + 1) r
theorem CDd.fr {P : Nat → Nat → Prop} {τ : Sto} (h : CDd σ f mv dp lk) (hv : VG mv) (k : Fr P σ τ) (hP : ∀ i j, i < 22 → ¬ P (f + i) j) : CDd τ f mv dp lk := by
  have hs := hv.s
  refine ⟨h.1, fun q hq => ⟨(k.i (hP 1 q (by omega))).trans (h.2 q hq).1, fun r hr => ?_⟩⟩
  rw [show f + 14 + r = f + (14 + r) by omega, k.i (hP (14 + r) q (by omega)), show f + (14 + r) = f + 14 + r by omega]
  exact (h.2 q hq).2 r hr
def RPp (σ : Sto) (pl : Nat) (mv : Mem) : Prop := (sI σ pl 0 = J (mv 5) ∧ sI σ pl 7 = J (mv 6)) ∧
  (∀ k, k < mv 5 → sI σ (pl + 1) k = J (mv (2728 + 6 * k)) ∧ sI σ (pl + 2) k = J (mv (2728 + 6 * k + 1)) ∧ sI σ (pl + 3) k = J (mv (2728 + 6 * k + 2)) ∧ sI σ (pl + 4) k = J (mv (2728 + 6 * k + 3)) ∧ sI σ (pl + 5) k = J (mv (2728 + 6 * k + 4)) ∧ sI σ (pl + 6) k = J (mv (2728 + 6 * k + 5))) ∧
  (∀ c, c < mv 6 → sI σ (pl + 7) c = J (mv (2788 + 2 * c)) ∧ sI σ (pl + 8) c = J (mv (2788 + 2 * c + 1)))
theorem RPp.eqI {τ : Sto} {pl' : Nat} (h : RPp σ pl mv) (he : ∀ i j, i < 9 → sI τ (pl' + i) j = sI σ (pl + i) j) : RPp τ pl' mv := by
  obtain ⟨h1, h2, h3⟩ := h
  have e0 : ∀ j, sI τ pl' j = sI σ pl j := fun j => he 0 j (by omega)
  refine ⟨by rw [e0, e0]; exact h1, fun k hk => ?_, fun c hc => ?_⟩
  · rw [he 1 _ (by omega), he 2 _ (by omega), he 3 _ (by omega), he 4 _ (by omega), he 5 _ (by omega), he 6 _ (by omega)]; exact h2 k hk
  · rw [he 7 _ (by omega), he 8 _ (by omega)]; exact h3 c hc
theorem RPp.fr {P : Nat → Nat → Prop} {τ : Sto} (h : RPp σ pl mv) (k : Fr P σ τ) (hP : ∀ i j, i < 9 → ¬ P (pl + i) j) : RPp τ pl mv := h.eqI (fun i j hi => k.i (hP i j hi))
theorem cv_28 (h : CDd σ f mv dp lk) (hG : RGg σ g mv) (hv : VG mv) {q : Nat} (hq : q < 96) : f_28 σ f g (J q) = lk (q + 1) / J (mv 9) := by
  have hs := hv.s
  unfold f_28
  rw [if_pos (by rw [J_le (by omega) (by omega)]; omega), hG.s.1, cv_157 (by omega) (by omega), J_cl (by omega), (h.2 q hq).1]
theorem cv_29 (h : CDd σ f mv dp lk) (hv : VG mv) {r q : Nat} (hr : r < mv 2) (hq : q < 96) : f_29 σ f (J r) (J q) = rs dp r q := by
  have hs := hv.s
  unfold f_29 rs
  simp (disch := omega) only [J_cl, J_eq]
  rw [(h.2 q hq).2 r hr]
  by_cases e : q = 0
  · subst e; rw [if_pos rfl, (h.1 r hr).1]
  · rw [if_neg e]
    simp (disch := omega) only [J_add, J_mul, J_sub, J_cl, J_lt, J_le, J_eq, vp_J, n1_ne, n1_lt, n1_le, n1_nlt, n1_nle]
    rw [(h.2 (q - 1) (by omega)).2 r hr, show q - 1 + 1 = q by omega]
theorem cv_32 (h : CDd σ f mv dp lk) (hG : RGg σ g mv) (hv : VG mv) {p q : Nat} (hp : p < mv 3) (hq : q < 96) : f_32 σ f g (J p) (J q) = if wetB mv dp p q = true then J 1 else J 0 := by
  have hs := hv.s
  have hpv := hv.p hp
  have hgp := hG.p hp
  unfold f_32 wetB
  simp (disch := omega) only [J_cl, hgp]
  rw [(h.2 q hq).2 _ hpv.1]
  by_cases c : dp (q + 1) (mv (376 + 4 * p)) ≤ J (mv (376 + 4 * p + 1))
  · rw [if_pos c, decide_eq_true c]; rfl
  · rw [if_neg c, decide_eq_false c]; rfl
theorem f_rowK {r : Nat} (nf : S_3 σ f) (hr : r < 8) : sK σ (f + 14 + r) = 14 ∧ sZ σ (f + 14 + r) = 96 := (q2_3_13 nf r hr).2
theorem c_firstWet (nf : S_3 σ f) (ng : S_4 σ g) (h : CDd σ f mv dp lk) (hG : RGg σ g mv) (hv : VG mv) {p a t : Nat} (hp : p < mv 3) (ha : a ≤ t + 1) (ht : t ≤ 95) (hQ : Q (.inl (some (.int (oJ (fstB (wetB mv dp p) a (t + 1 - a)))))) σ) :
    WP gT d B 33 0 [.ref f, .ref g, .int (J p), .int (J a), .int (J t), .retAddr 0, .retAddr 0] [] σ Q := by
  have hs := hv.s
  have hpv := hv.p hp
  have hgp := hG.p hp
  refine g_33_0 nf ng ?_
  simp (disch := omega) only [J_cl, hgp]
  simp (disch := omega) only [J_add, J_mul, J_sub, J_cl, J_lt, J_le, J_eq, vp_J, n1_ne, n1_lt, n1_le, n1_nlt, n1_nle]
  have hk := f_rowK (r := mv (376 + 4 * p)) nf (by omega)
  refine ⟨(by omega), (by omega), fst_loop (W := fun q => WP gT d B 33 16 [.ref f, .ref g, .int (J p), .int (J a), .int (J t), .ref (f + 14 + mv (376 + 4 * p)), .int (J q)] [] σ Q) (R := fun o => Q (.inl (some (.int (oJ o)))) σ) (b := wetB mv dp p) (t + 1 - a) a (fun q h1 h2 hf hn => ?_) (fun hR => ?_) hQ⟩
  · refine g_33_16 hk.1 ng ⟨fun c => ?_, fun _ => ?_⟩
    · exfalso; simp (disch := omega) only [J_add, J_mul, J_sub, J_cl, J_lt, J_le, J_eq, vp_J, n1_ne, n1_lt, n1_le, n1_nlt, n1_nle] at c; omega
    · simp (disch := omega) only [J_add, J_mul, J_sub, J_cl, J_lt, J_le, J_eq, vp_J, n1_ne, n1_lt, n1_le, n1_nlt, n1_nle, hk.2, hgp]
      rw [(h.2 q (by omega)).2 _ hpv.1]
      refine ⟨(by omega), (by omega), fun c => hn (by unfold wetB; rw [decide_eq_true c]; rfl), fun c => hf (by unfold wetB; rw [decide_eq_false c]; rfl)⟩
  · refine g_33_16 hk.1 ng ⟨fun _ => hR, fun c => ?_⟩
    exfalso; simp (disch := omega) only [J_add, J_mul, J_sub, J_cl, J_lt, J_le, J_eq, vp_J, n1_ne, n1_lt, n1_le, n1_nlt, n1_nle] at c; omega
theorem c_harm (nf : S_3 σ f) (ng : S_4 σ g) (h : CDd σ f mv dp lk) (hG : RGg σ g mv) (hv : VG mv) (hQ : Q (.inl (some (.int (J (hrm mv dp (mv 3)))))) σ) : WP gT (d + 1) B 34 0 [.ref f, .ref g, .retAddr 0, .retAddr 0] [] σ Q := by
  have hs := hv.s
  have hg := hG.s
  refine g_34_0 (upto0 (W := fun p => WP gT (d + 1) B 34 4 [.ref f, .ref g, .int (J (hrm mv dp p)), .int (J p)] [] σ Q) (mv 3) (fun p hp ih => ?_) ?_ 0 (Nat.zero_le _))
  · have hgp := hG.p hp
    refine g_34_4 ng nf ⟨fun c => ?_, fun _ => c_firstWet nf ng h hG hv hp (by omega) (by omega) ⟨ng, fun _ => ⟨(by simp (disch := omega) only [J_add, J_mul, J_sub, J_cl, vp_J]; omega), trivial⟩, ?_⟩⟩
    · exfalso; simp (disch := omega) only [J_add, J_mul, J_sub, J_cl, J_lt, J_le, J_eq, vp_J, n1_ne, n1_lt, n1_le, n1_nlt, n1_nle, hg] at c; omega
    · simp (disch := omega) only [J_cl, hgp]
      have e : (if oJ (fstB (wetB mv dp p) 0 (95 + 1 - 0)) = -J 1 then J (hrm mv dp p) else J (hrm mv dp p) + J (mv (376 + 4 * p + 3))) = J (hrm mv dp (p + 1)) := by
        simp only [oJ_none (o := fstB (wetB mv dp p) 0 (95 + 1 - 0)) (fun q hq => by have := fstB_some hq; omega)]
        show _ = J (hrm mv dp p + _)
        rw [← J_add]
        cases fstB (wetB mv dp p) 0 96
        · show J _ = J _ + J 0; rw [J_add, Nat.add_zero]
        · rfl
      rw [e, J_add]; exact ih
  · refine g_34_4 ng nf ⟨fun _ => hQ, fun c => ?_⟩
    exfalso; simp (disch := omega) only [J_add, J_mul, J_sub, J_cl, J_lt, J_le, J_eq, vp_J, n1_ne, n1_lt, n1_le, n1_nlt, n1_nle, hg] at c; omega
theorem neg_rs (r q : Nat) : -(rs dp r q) = dp q r - dp (q + 1) r := by
  unfold rs
  rw [Int32.sub_eq_add_neg, Int32.sub_eq_add_neg, Int32.neg_add, Int32.sub_neg, Int32.add_comm]
theorem fal0 (h : ∀ r, r < mv 2 → dp 0 r = J 0 ∧ 0 ≤ (dp 1 r).toInt) {r b : Nat} (hr : r < mv 2) (hb : b ≤ 999) : -(rs dp r 0) ≤ J b := by
  have h1 := h r hr
  have h2 := Int32.toInt_lt (dp 1 r)
  rw [neg_rs, h1.1, Nat.zero_add, Int32.le_iff_toInt_le, J_int (by omega), Int32.toInt_sub, show (J 0).toInt = 0 from by decide]
  rw [Int.bmod_eq_of_le (by omega) (by omega)]
  omega
theorem c_falls (nf : S_3 σ f) (ng : S_4 σ g) (h : CDd σ f mv dp lk) (hG : RGg σ g mv) (hv : VG mv) (hb : mv 15 ≤ 999) (hQ : Q (.inl (some (.int (if falB mv dp = true then J 1 else J 0)))) σ) : WP gT d B 31 0 [.ref f, .ref g, .int (J (mv 15)), .retAddr 0, .retAddr 0, .retAddr 0] [] σ Q := by
  have hs := hv.s
  have hg := hG.s
  have key := fst_loop (W := fun r => ∀ x4 x5 : Value, WP gT d B 31 2 [.ref f, .ref g, .int (J (mv 15)), .int (J r), x4, x5] [] σ Q) (R := fun o => Q (.inl (some (.int (if o.isSome = true then J 1 else J 0)))) σ) (b := falR mv dp) (mv 2) 0 (fun r h1 h2 hf hn x4 x5 => ?_) (fun hR x4 x5 => ?_) hQ
  · exact g_31_0 (key _ _)
  · refine g_31_2 ng nf ⟨fun e => ?_, fun _ => ⟨(by simp (disch := omega) only [J_add, J_mul, J_sub, J_cl, vp_J]; omega), ?_⟩⟩
    · exfalso; simp (disch := omega) only [J_add, J_mul, J_sub, J_cl, J_lt, J_le, J_eq, vp_J, n1_ne, n1_lt, n1_le, n1_nlt, n1_nle, hg] at e; omega
    · have hk := f_rowK (r := r) nf (by omega)
      rw [J_cl (by omega)]
      refine fst_loop (W := fun q => WP gT d B 31 21 [.ref f, .ref g, .int (J (mv 15)), .int (J r), .ref (f + 14 + r), .int (J q)] [] σ Q) (R := fun o => fstB (fun q => !decide (-(rs dp r q) ≤ J (mv 15))) 1 95 = o) (b := fun q => !decide (-(rs dp r q) ≤ J (mv 15))) 95 1 (fun q h3 h4 hf2 hn2 => ?_) (fun hR => ?_) rfl
      · refine g_31_21 hk.1 ⟨fun e => ?_, fun _ => ?_⟩
        · exfalso; simp (disch := omega) only [J_add, J_mul, J_sub, J_cl, J_lt, J_le, J_eq, vp_J, n1_ne, n1_lt, n1_le, n1_nlt, n1_nle] at e; omega
        · simp (disch := omega) only [J_add, J_mul, J_sub, J_cl, J_lt, J_le, J_eq, vp_J, n1_ne, n1_lt, n1_le, n1_nlt, n1_nle, hk.2]
          rw [(h.2 q (by omega)).2 r (by omega), (h.2 (q - 1) (by omega)).2 r (by omega), show q - 1 + 1 = q by omega, ← neg_rs]
          refine ⟨(by omega), (by omega), fun c => hn2 (by simp only [c, decide_true, Bool.not_true]), fun c => hf ?_⟩
          unfold falR
          exact fstB_is (Nat.zero_le q) (by omega) (by simp only [c, decide_false, Bool.not_false])
      · refine g_31_21 hk.1 ⟨fun _ => ?_, fun e => ?_⟩
        · rw [J_add]; refine hn ?_ _ _
          unfold falR
          cases hc : fstB (fun q => !decide (-(rs dp r q) ≤ J (mv 15))) 0 96 with
          | none => rfl
          | some q =>
            have h5 := fstB_some hc
            by_cases e : q = 0
            · subst e; have h6 := h5.2.2; simp only [fal0 h.1 (r := r) (by omega) hb, decide_true, Bool.not_true] at h6; cases h6
            · have h6 := fstB_none hR q (by omega) (by omega); rw [h6] at h5; cases h5.2.2
        · exfalso; simp (disch := omega) only [J_add, J_mul, J_sub, J_cl, J_lt, J_le, J_eq, vp_J, n1_ne, n1_lt, n1_le, n1_nlt, n1_nle] at e; omega
  · refine g_31_2 ng nf ⟨fun _ => hR, fun e => ?_⟩
    exfalso; simp (disch := omega) only [J_add, J_mul, J_sub, J_cl, J_lt, J_le, J_eq, vp_J, n1_ne, n1_lt, n1_le, n1_nlt, n1_nle, hg] at e; omega
theorem sub_int {c o : Nat} (hc : c ≤ 1000000) (ho : o ≤ 1000000) : (J c - J o).toInt = (c : Int) - o := by
  rw [Int32.toInt_sub, J_int (by omega), J_int (by omega), Int.bmod_eq_of_le (by omega) (by omega)]
theorem sub_lt {c o q : Nat} (hc : c ≤ 1000000) (ho : o ≤ 1000000) (hq : q ≤ 1000000) : (J c - J o < J q) = (c < q + o) := by
  rw [Int32.lt_iff_toInt_lt, sub_int hc ho, J_int (by omega)]; exact propext (by omega)
/-- when it is in time to go -/
def tF (mv : Mem) (k : Nat) : Nat := if mv (2728 + 6 * k + 1) < mv (2728 + 6 * k + 4) then mv (2728 + 6 * k + 4) else mv (2728 + 6 * k + 1)
theorem tF_le {k q : Nat} : (mv (2728 + 6 * k + 1) ≤ q ∧ mv (2728 + 6 * k + 4) ≤ q) ↔ tF mv k ≤ q := by unfold tF; split <;> omega
theorem inT_eq {k q c : Nat} : inT mv k q c = decide (tF mv k ≤ q ∧ q + mv (376 + 4 * mv (2728 + 6 * k) + 2) ≤ c) := by
  unfold inT
  rw [Bool.eq_iff_iff]
  simp only [Bool.and_eq_true, decide_eq_true_eq, ← tF_le]
theorem c_seesRise (nD : S_1 σ D) (nf : S_3 σ f) (h : CDd σ f mv dp lk) (hv : VG mv) (ho : VOo mv) {k c : Nat} (hk : k < mv 5) (hc : c ≤ 95) (h2 : sI σ (D + 2) k = J (tF mv k)) (h3 : sI σ (D + 3) k = J c - J (mv (376 + 4 * mv (2728 + 6 * k) + 2)))
    (hQ : Q (.inl (some (.int (if goB mv dp k c = true then J 1 else J 0)))) σ) : WP gT (d + 1) B 11 0 [.ref D, .int (J k), .int (J (mv (2728 + 6 * k + 5))), .int (J (mv (376 + 4 * mv (2728 + 6 * k)))), .ref f, .retAddr 0] [] σ Q := by
  have hs := hv.s
  have ho1 := ho.s
  have hkv := ho.k hk
  have hpv := hv.p hkv.1
  have htF : tF mv k ≤ 95 := by unfold tF; split <;> omega
  refine g_11_0 nD ⟨(by simp (disch := omega) only [J_add, J_mul, J_sub, J_cl, vp_J]; omega), ?_⟩
  rw [J_cl (by omega), h2]
  refine fst_loop (W := fun q => WP gT (d + 1) B 11 8 [.ref D, .int (J k), .int (J (mv (2728 + 6 * k + 5))), .int (J (mv (376 + 4 * mv (2728 + 6 * k)))), .ref f, .int (J q)] [] σ Q) (R := fun o => fstB (fun q => !decide (rs dp (mv (376 + 4 * mv (2728 + 6 * k))) q < J (mv (2728 + 6 * k + 5)))) (tF mv k) (c + 1 - mv (376 + 4 * mv (2728 + 6 * k) + 2) - tF mv k) = o) (b := fun q => !decide (rs dp (mv (376 + 4 * mv (2728 + 6 * k))) q < J (mv (2728 + 6 * k + 5)))) (c + 1 - mv (376 + 4 * mv (2728 + 6 * k) + 2) - tF mv k) (tF mv k) (fun q h4 h5 hf hn => ?_) (fun hR => ?_) rfl
  · refine g_11_8 nD nf ⟨(by simp (disch := omega) only [J_add, J_mul, J_sub, J_cl, vp_J]; omega), fun e => ?_, fun _ => ?_⟩
    · exfalso; rw [J_cl (by omega), h3, sub_lt (by omega) (by omega) (by omega)] at e; omega
    · rw [cv_29 h hv hpv.1 (by omega), J_add]
      refine ⟨(by simp (disch := omega) only [J_add, J_mul, J_sub, J_cl, vp_J]; omega), (by simp (disch := omega) only [J_add, J_mul, J_sub, J_cl, vp_J]; omega), fun e => ?_, fun e => hn (by simp only [e, decide_true, Bool.not_true]), fun e => ?_⟩
      · simp (disch := omega) only [J_add, J_mul, J_sub, J_cl, J_lt, J_le, J_eq, vp_J, n1_ne, n1_lt, n1_le, n1_nlt, n1_nle] at e
        simp (disch := omega) only [J_add, J_mul, J_sub, J_cl, J_lt, J_le, J_eq, vp_J, n1_ne, n1_lt, n1_le, n1_nlt, n1_nle, and_true]; omega
      · have hg : goB mv dp k c = true := by
          unfold goB
          refine fstB_is (q := q) (Nat.zero_le _) (by omega) ?_
          simp only [inT_eq, e, decide_false, Bool.not_false, Bool.and_true, decide_eq_true_eq]
          omega
        rw [if_pos hg] at hQ; exact hQ
  · refine g_11_8 nD nf ⟨(by simp (disch := omega) only [J_add, J_mul, J_sub, J_cl, vp_J]; omega), fun _ => ?_, fun e => ?_⟩
    · have hg : goB mv dp k c = false := by
        unfold goB
        cases hc2 : fstB (fun q => inT mv k q c && !decide (rs dp (mv (376 + 4 * mv (2728 + 6 * k))) q < J (mv (2728 + 6 * k + 5)))) 0 96 with
        | none => rfl
        | some q =>
          exfalso
          have h6 := fstB_some hc2
          have h7 := h6.2.2
          simp only [inT_eq, Bool.and_eq_true, decide_eq_true_eq] at h7
          have h8 := fstB_none hR q h7.1.1 (by omega)
          rw [h8] at h7; cases h7.2
      rw [if_neg (by rw [hg]; decide)] at hQ; exact hQ
    · exfalso; rw [J_cl (by omega), h3, sub_lt (by omega) (by omega) (by omega)] at e; omega
