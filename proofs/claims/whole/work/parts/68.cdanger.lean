/-! ===== the class: danger, fear, judging ===== -/
variable {d : Nat} {B : Nat × Nat} {σ : Sto} {Q : Out → Sto → Prop} {f g pl D : Nat} {mv : Mem} {dp : Nat → Nat → Int32} {lk : Nat → Int32}
abbrev cpM (mv : Mem) : Mem := fun i => mv (2788 + 2 * i)
abbrev caM (mv : Mem) : Mem := fun i => mv (2788 + 2 * i + 1)
theorem cv_14 {k c q : Nat} (h2 : sI σ (D + 2) k = J (tF mv k)) (h3 : sI σ (D + 3) k = J c - J (mv (376 + 4 * mv (2728 + 6 * k) + 2))) (hk : k < 10) (hc : c ≤ 95) (ht : tF mv k ≤ 95) (hq : q ≤ 1000) (hof : mv (376 + 4 * mv (2728 + 6 * k) + 2) ≤ 12) : f_14 σ D (J k) (J q) = if inT mv k q c = true then J 1 else J 0 := by
  unfold f_14
  rw [J_cl (by omega), h2, h3]
  simp (disch := omega) only [J_lt, sub_lt, inT_eq, decide_eq_true_eq]
  by_cases c1 : q < tF mv k
  · rw [if_pos c1, if_neg (by omega)]
  · rw [if_neg c1]
    by_cases c2 : c < q + mv (376 + 4 * mv (2728 + 6 * k) + 2)
    · rw [if_pos c2, if_neg (by omega)]
    · rw [if_neg c2, if_pos (by omega)]
theorem c_countCalls (nD : S_1 σ D) (np : S_6 σ pl) (hP : RPp σ pl mv) (hv : VG mv) (ho : VOo mv) {k c : Nat} (hk : k < mv 5) (hc : c ≤ 95) (h2 : sI σ (D + 2) k = J (tF mv k)) (h3 : sI σ (D + 3) k = J c - J (mv (376 + 4 * mv (2728 + 6 * k) + 2)))
    (hQ : Q (.inl (some (.int (J (cin mv (cpM mv) (caM mv) k c (mv 6)))))) σ) : WP gT (d + 2) B 12 0 [.ref D, .ref pl, .int (J k), .retAddr 0, .retAddr 0] [] σ Q := by
  have hs := hv.s
  have ho1 := ho.s
  have hkv := ho.k hk
  have hpv := hv.p hkv.1
  have htF : tF mv k ≤ 95 := by unfold tF; split <;> omega
  have hPk := hP.2.1 k hk
  refine g_12_0 (upto0 (W := fun i => WP gT (d + 2) B 12 5 [.ref D, .ref pl, .int (J k), .int (J (cin mv (cpM mv) (caM mv) k c i)), .int (J i)] [] σ Q) (mv 6) (fun i hi ih => ?_) ?_ 0 (Nat.zero_le _))
  · have hPc := hP.2.2 i hi
    have hcv := ho.c hi
    refine g_12_5 np nD ⟨fun e => ?_, fun _ => ?_⟩
    · exfalso; rw [hP.1.2] at e; simp (disch := omega) only [J_add, J_mul, J_sub, J_cl, J_lt, J_le, J_eq, vp_J, n1_ne, n1_lt, n1_le, n1_nlt, n1_nle] at e; omega
    · refine ⟨(by simp (disch := omega) only [J_add, J_mul, J_sub, J_cl, vp_J]; omega), (by simp (disch := omega) only [J_add, J_mul, J_sub, J_cl, vp_J]; omega), fun _ => ⟨(by simp (disch := omega) only [J_add, J_mul, J_sub, J_cl, vp_J]; omega), (by simp (disch := omega) only [J_add, J_mul, J_sub, J_cl, vp_J]; omega), fun _ => ⟨(by simp (disch := omega) only [J_add, J_mul, J_sub, J_cl, vp_J]; omega), trivial⟩, trivial⟩, ?_⟩
      have e : (if f_13 σ D pl (J k) (J i) = J 0 then J (cin mv (cpM mv) (caM mv) k c i) else J (cin mv (cpM mv) (caM mv) k c i) + J 1) = J (cin mv (cpM mv) (caM mv) k c (i + 1)) := by
        rw [show cin mv (cpM mv) (caM mv) k c (i + 1) = cin mv (cpM mv) (caM mv) k c i + (if mv (2788 + 2 * i) = mv (2728 + 6 * k) ∧ inT mv k (mv (2788 + 2 * i + 1)) c = true then 1 else 0) from rfl]
        have hf : f_13 σ D pl (J k) (J i) = if mv (2788 + 2 * i) = mv (2728 + 6 * k) ∧ inT mv k (mv (2788 + 2 * i + 1)) c = true then J 1 else J 0 := by
          unfold f_13
          simp (disch := omega) only [J_cl, hPc, hPk]
          rw [cv_14 h2 h3 (by omega) hc htF (by omega) (by omega)]
          simp (disch := omega) only [J_eq]
          have n10 : ¬ (J 1 = J 0) := by decide
          by_cases c1 : mv (2788 + 2 * i) = mv (2728 + 6 * k) <;> by_cases c2 : inT mv k (mv (2788 + 2 * i + 1)) c = true <;> simp [c1, c2, n10]
        rw [hf]
        by_cases cc : mv (2788 + 2 * i) = mv (2728 + 6 * k) ∧ inT mv k (mv (2788 + 2 * i + 1)) c = true
        · rw [if_pos cc, if_pos cc, if_neg (by decide), J_add]
        · rw [if_neg cc, if_neg cc, if_pos rfl, Nat.add_zero]
      rw [e, J_add]; exact ih
  · refine g_12_5 np nD ⟨fun _ => hQ, fun e => ?_⟩
    exfalso; rw [hP.1.2] at e; simp (disch := omega) only [J_add, J_mul, J_sub, J_cl, J_lt, J_le, J_eq, vp_J, n1_ne, n1_lt, n1_le, n1_nlt, n1_nle] at e; omega
/-- what danger holds behind a look: of person k -/
def DRk (σ : Sto) (D : Nat) (mv : Mem) (dp : Nat → Nat → Int32) (k : Nat) : Prop := sI σ (D + 1) k = oJ (cau mv dp k) ∧ sI σ (D + 2) k = J (tF mv k) ∧ (∀ c, cau mv dp k = some c → sI σ (D + 3) k = J c - J (mv (376 + 4 * mv (2728 + 6 * k) + 2))) ∧ sI σ (D + 4) k = (if (sty mv dp k).isSome = true then J 1 else J 0) ∧ (∀ c, sty mv dp k = some c → sI σ (D + 5) k = J (cin mv (cpM mv) (caM mv) k c (mv 6)))
def DRr (σ : Sto) (D : Nat) (mv : Mem) (dp : Nat → Nat → Int32) : Prop := ∀ k, k < mv 5 → DRk σ D mv dp k
def P10 (D : Nat) : Nat → Nat → Prop := fun p _ => D + 1 ≤ p ∧ p ≤ D + 5
theorem DRk.eq {τ : Sto} {k : Nat} (h : DRk σ D mv dp k) (he : ∀ i, 1 ≤ i → i ≤ 5 → sI τ (D + i) k = sI σ (D + i) k) : DRk τ D mv dp k := by
  unfold DRk at h ⊢
  rw [he 1 (by omega) (by omega), he 2 (by omega) (by omega), he 3 (by omega) (by omega), he 4 (by omega) (by omega), he 5 (by omega) (by omega)]
  exact h
theorem DRr.fr {P : Nat → Nat → Prop} {τ : Sto} (h : DRr σ D mv dp) (k : Fr P σ τ) (hP : ∀ i j, 1 ≤ i → i ≤ 5 → ¬ P (D + i) j) : DRr τ D mv dp := fun a ha => (h a ha).eq (fun i h1 h2 => k.i (hP i a h1 h2))
theorem tF_J {k : Nat} (h1 : mv (2728 + 6 * k + 1) ≤ 95) (h2 : mv (2728 + 6 * k + 4) ≤ 95) : (if J (mv (2728 + 6 * k + 1)) < J (mv (2728 + 6 * k + 4)) then J (mv (2728 + 6 * k + 4)) else J (mv (2728 + 6 * k + 1))) = J (tF mv k) := by
  simp (disch := omega) only [J_lt]
  unfold tF; split <;> rfl
theorem c_look (nD : S_1 σ D) (nf : S_3 σ f) (ng : S_4 σ g) (np : S_6 σ pl) (h1 : g + 16 ≤ D ∨ D + 6 ≤ g) (h2 : pl + 9 ≤ D ∨ D + 6 ≤ pl) (h3 : f + 22 ≤ D ∨ D + 6 ≤ f) (hv : VG mv) (ho : VOo mv) (hG : RGg σ g mv) (hP : RPp σ pl mv) (h : CDd σ f mv dp lk)
    (hQ : ∀ τ, Fr (P10 D) σ τ → DRr τ D mv dp → Q (.inl none) τ) : WP gT (d + 3) B 10 0 [.ref D, .ref g, .ref pl, .ref f, .retAddr 0, .retAddr 0, .retAddr 0, .retAddr 0] [] σ Q := by
  have hs := hv.s
  have ho1 := ho.s
  have L : ∀ k τ, k ≤ mv 5 → (Fr (P10 D) σ τ ∧ ∀ i, i < k → DRk τ D mv dp i) → ∀ x5 x6 x7 : Value, WP gT (d + 3) B 10 3 [.ref D, .ref g, .ref pl, .ref f, .int (J k), x5, x6, x7] [] τ Q := by
    refine upto (mv 5) ?_ ?_
    · intro k τ hk hI ih x5 x6 x7
      obtain ⟨hF, hI⟩ := hI
      have hG2 : RGg τ g mv := hG.fr hF (fun i j hi k => by unfold P10 at k; omega)
      have hP2 : RPp τ pl mv := hP.fr hF (fun i j hi k => by unfold P10 at k; omega)
      have hC2 : CDd τ f mv dp lk := h.fr hv hF (fun i j hi k => by unfold P10 at k; omega)
      have hkv := ho.k hk
      have hpv := hv.p hkv.1
      have hPk := hP2.2.1 k hk
      have hgp := hG2.p hkv.1
      have htF : tF mv k ≤ 95 := by unfold tF; split <;> omega
      -- how a pass ends: the five cells are as they must be
      have fin : ∀ ρ v1 v4 v5, Fr (P10 D) τ ρ → (∀ p j, ¬ (D + 1 ≤ p ∧ p ≤ D + 5 ∧ j = k) → sI ρ p j = sI τ p j) → sI ρ (D + 1) k = oJ (cau mv dp k) → sI ρ (D + 2) k = J (tF mv k) → (∀ c, cau mv dp k = some c → sI ρ (D + 3) k = J c - J (mv (376 + 4 * mv (2728 + 6 * k) + 2))) → sI ρ (D + 4) k = (if (sty mv dp k).isSome = true then J 1 else J 0) → (∀ c, sty mv dp k = some c → sI ρ (D + 5) k = J (cin mv (cpM mv) (caM mv) k c (mv 6))) → WP gT (d + 3) B 10 3 [.ref D, .ref g, .ref pl, .ref f, .int (J k + J 1), v1, v4, v5] [] ρ Q := by
        intro ρ v1 v4 v5 hF2 hfr e1 e2 e3 e4 e5
        rw [J_add]
        refine ih ρ ⟨hF.tr hF2, fun i hi => ?_⟩ _ _ _
        by_cases e : i = k
        · subst e; exact ⟨e1, e2, e3, e4, e5⟩
        · exact (hI i (by omega)).eq (fun a h1 h2 => hfr _ _ (by omega))
      refine g_10_3 (hF.sh np) (hF.sh nf) (hF.sh ng) (hF.sh nD) ⟨fun e => ?_, fun _ => ?_⟩
      · exfalso; rw [hP2.1.1] at e; simp (disch := omega) only [J_add, J_mul, J_sub, J_cl, J_lt, J_le, J_eq, vp_J, n1_ne, n1_lt, n1_le, n1_nlt, n1_nle] at e; omega
      · simp (disch := omega) only [J_cl, hPk]
        simp (disch := omega) only [J_cl, hgp, cv_32 hC2 hG2 hv]
        refine ⟨(by simp (disch := omega) only [J_add, J_mul, J_sub, J_cl, vp_J]; omega), (by simp (disch := omega) only [J_add, J_mul, J_sub, J_cl, vp_J]; omega), (by simp (disch := omega) only [J_add, J_mul, J_sub, J_cl, vp_J]; omega), (by simp (disch := omega) only [J_add, J_mul, J_sub, J_cl, vp_J]; omega), (by simp (disch := omega) only [J_add, J_mul, J_sub, J_cl, vp_J]; omega), fun u6 hu6 => ⟨fun e => ⟨(by simp (disch := omega) only [J_add, J_mul, J_sub, J_cl, vp_J]; omega), ?_⟩, fun e => ?_⟩⟩
        · rw [hu6, b01] at e
          rw [J_add]
          refine c_firstWet (hF.sh nf) (hF.sh ng) hC2 hG2 hv hkv.1 (by omega) (by omega) ?_
          have hcau : fstB (wetB mv dp (mv (2728 + 6 * k))) (mv (2728 + 6 * k + 1) + 1) (mv (2728 + 6 * k + 2) + 1 - (mv (2728 + 6 * k + 1) + 1)) = cau mv dp k := by
            unfold cau
            rw [if_neg (by rw [e]; decide), show mv (2728 + 6 * k + 2) - mv (2728 + 6 * k + 1) = mv (2728 + 6 * k + 2) + 1 - (mv (2728 + 6 * k + 1) + 1) by omega]
          rw [hcau]
          refine ⟨hF.sh nD, hF.sh np, hF.sh ng, (by simp (disch := omega) only [J_add, J_mul, J_sub, J_cl, vp_J]; omega), (by simp (disch := omega) only [J_add, J_mul, J_sub, J_cl, vp_J]; omega), (by simp (disch := omega) only [J_add, J_mul, J_sub, J_cl, vp_J]; omega), fun u13 hu13 => ⟨(by simp (disch := omega) only [J_add, J_mul, J_sub, J_cl, vp_J]; omega), (by simp (disch := omega) only [J_add, J_mul, J_sub, J_cl, vp_J]; omega), (by simp (disch := omega) only [J_add, J_mul, J_sub, J_cl, vp_J]; omega), fun u17 hu17 => ⟨(by simp (disch := omega) only [J_add, J_mul, J_sub, J_cl, vp_J]; omega), fun e2 => ⟨(by simp (disch := omega) only [J_add, J_mul, J_sub, J_cl, vp_J]; omega), (by simp (disch := omega) only [J_add, J_mul, J_sub, J_cl, vp_J]; omega), (by simp (disch := omega) only [J_add, J_mul, J_sub, J_cl, vp_J]; omega), ?_⟩, fun e2 => ⟨(by simp (disch := omega) only [J_add, J_mul, J_sub, J_cl, vp_J]; omega), (by simp (disch := omega) only [J_add, J_mul, J_sub, J_cl, vp_J]; omega), ?_⟩⟩⟩⟩
          · rw [oJ_none (fun q hq => by have := cau_lt hkv.2.1 hkv.2.2.1 hq; omega)] at e2
            have e3 : sty mv dp k = none := by unfold sty; rw [e2]
            refine fin _ _ _ _ (((((Fr.rf.setI (by unfold P10; omega)).setI (by unfold P10; omega)).setI (by unfold P10; omega)).setI (by unfold P10; omega)).setI (by unfold P10; omega)) (fun p j hn => ?_) ?_ ?_ (fun c hc => by rw [e2] at hc; cases hc) ?_ (fun c hc => by rw [e3] at hc; cases hc)
            · rw [sI_any (by omega), sI_any (by omega), sI_any (by omega), sI_any (by omega), sI_any (by omega)]
            · rw [sI_any (by omega), sI_any (by omega), sI_any (by omega), sI_any (by omega), sI_same]
            · rw [sI_any (by omega), sI_any (by omega), sI_any (by omega), sI_same, hu13, sI_any (by omega), hPk.2.2.2.2.1]; exact tF_J (by omega) (by omega)
            · rw [sI_any (by omega), sI_same, e3]; rfl
          · rw [oJ_none (fun q hq => by have := cau_lt hkv.2.1 hkv.2.2.1 hq; omega)] at e2
            cases hca : cau mv dp k with
            | none => exact (e2 hca).elim
            | some c =>
              rw [hca] at hu17
              have hcb := cau_lt hkv.2.1 hkv.2.2.1 hca
              have e13 : u13 = J (tF mv k) := by rw [hu13, sI_any (by omega), hPk.2.2.2.2.1]; exact tF_J (by omega) (by omega)
              have e17 : u17 = J c - J (mv (376 + 4 * mv (2728 + 6 * k) + 2)) := by rw [hu17, sI_any (by omega), sI_any (by omega), hgp.2.2.1]; rfl
              clear hu13 hu17
              subst e13; subst e17
              rw [sI_any (by omega), sI_any (by omega), sI_any (by omega), hPk.2.2.2.2.2, sI_any (by omega), sI_any (by omega), sI_any (by omega), hgp.1]
              have hF3 : Fr (P10 D) τ (setI (setI (setI τ (D + 1) k (oJ (some c))) (D + 2) k (J (tF mv k))) (D + 3) k (J c - J (mv (376 + 4 * mv (2728 + 6 * k) + 2)))) := ((Fr.rf.setI (by unfold P10; omega)).setI (by unfold P10; omega)).setI (by unfold P10; omega)
              refine c_seesRise ((hF.tr hF3).sh nD) ((hF.tr hF3).sh nf) (hC2.fr hv hF3 (fun i j hi k => by unfold P10 at k; omega)) hv ho hk hcb ?_ ?_ ⟨(hF.tr hF3).sh nD, (by simp (disch := omega) only [J_add, J_mul, J_sub, J_cl, vp_J]; omega), (by simp (disch := omega) only [J_add, J_mul, J_sub, J_cl, vp_J]; omega), fun e4 => ⟨(by simp (disch := omega) only [J_add, J_mul, J_sub, J_cl, vp_J]; omega), ?_⟩, fun e4 => ?_⟩
              · rw [sI_any (by omega), sI_same]
              · rw [sI_same]
              · have e5 : goB mv dp k c = true := by
                  by_cases e6 : goB mv dp k c = true
                  · exact e6
                  · rw [if_neg e6, if_pos rfl] at e4; exact absurd e4 (by decide)
                have e3 : sty mv dp k = none := by unfold sty; rw [hca]; exact if_pos e5
                rw [if_pos e5, if_neg (by decide)]
                refine fin _ _ _ _ ((hF3.setI (by unfold P10; omega)).setI (by unfold P10; omega)) (fun p j hn => ?_) ?_ ?_ (fun c2 hc => ?_) ?_ (fun c hc => by rw [e3] at hc; cases hc)
                · rw [sI_any (by omega), sI_any (by omega), sI_any (by omega), sI_any (by omega), sI_any (by omega)]
                · rw [sI_any (by omega), sI_any (by omega), sI_any (by omega), sI_any (by omega), sI_same, hca]
                · rw [sI_any (by omega), sI_any (by omega), sI_any (by omega), sI_same]
                · rw [hca] at hc; cases hc; rw [sI_any (by omega), sI_any (by omega), sI_same]
                · rw [sI_any (by omega), sI_same, e3]; rfl
              · have e5 : goB mv dp k c = false := by
                  by_cases e6 : goB mv dp k c = true
                  · rw [if_pos e6, if_neg (by decide)] at e4; exact absurd rfl e4
                  · simpa using e6
                have e3 : sty mv dp k = some c := by unfold sty; rw [hca]; exact if_neg (by rw [e5]; decide)
                rw [if_neg (by rw [e5]; decide : ¬ goB mv dp k c = true), if_pos rfl]
                have hF4 := hF3.setI (p := D + 4) (j := k) (v := J 1) (by unfold P10; omega)
                refine c_countCalls ((hF.tr hF4).sh nD) ((hF.tr hF4).sh np) (hP2.fr hF4 (fun i j hi k => by unfold P10 at k; omega)) hv ho hk hcb ?_ ?_ ⟨(hF.tr hF4).sh nD, (by simp (disch := omega) only [J_add, J_mul, J_sub, J_cl, vp_J]; omega), ?_⟩
                · rw [sI_any (by omega), sI_any (by omega), sI_same]
                · rw [sI_any (by omega), sI_same]
                · refine fin _ _ _ _ (hF4.setI (by unfold P10; omega)) (fun p j hn => ?_) ?_ ?_ (fun c2 hc => ?_) ?_ (fun c2 hc => ?_)
                  · rw [sI_any (by omega), sI_any (by omega), sI_any (by omega), sI_any (by omega), sI_any (by omega)]
                  · rw [sI_any (by omega), sI_any (by omega), sI_any (by omega), sI_any (by omega), sI_same, hca]
                  · rw [sI_any (by omega), sI_any (by omega), sI_any (by omega), sI_same]
                  · rw [hca] at hc; cases hc; rw [sI_any (by omega), sI_any (by omega), sI_same]
                  · rw [sI_any (by omega), sI_same, e3]; rfl
                  · rw [e3] at hc; cases hc; rw [sI_same]
        · rw [hu6, b01] at e
          have e2 : cau mv dp k = none := by unfold cau; rw [if_pos (by simpa using e)]
          have e3 : sty mv dp k = none := by unfold sty; rw [e2]
          refine ⟨(by simp (disch := omega) only [J_add, J_mul, J_sub, J_cl, vp_J]; omega), (by simp (disch := omega) only [J_add, J_mul, J_sub, J_cl, vp_J]; omega), (by simp (disch := omega) only [J_add, J_mul, J_sub, J_cl, vp_J]; omega), fun u38 hu38 => ⟨(by simp (disch := omega) only [J_add, J_mul, J_sub, J_cl, vp_J]; omega), (by simp (disch := omega) only [J_add, J_mul, J_sub, J_cl, vp_J]; omega), (by simp (disch := omega) only [J_add, J_mul, J_sub, J_cl, vp_J]; omega), fun u42 hu42 => ⟨(by simp (disch := omega) only [J_add, J_mul, J_sub, J_cl, vp_J]; omega), (by simp (disch := omega) only [J_add, J_mul, J_sub, J_cl, vp_J]; omega), (by simp (disch := omega) only [J_add, J_mul, J_sub, J_cl, vp_J]; omega), (by simp (disch := omega) only [J_add, J_mul, J_sub, J_cl, vp_J]; omega), ?_⟩⟩⟩
          refine fin _ _ _ _ (((((Fr.rf.setI (by unfold P10; omega)).setI (by unfold P10; omega)).setI (by unfold P10; omega)).setI (by unfold P10; omega)).setI (by unfold P10; omega)) (fun p j hn => ?_) ?_ ?_ (fun c hc => by rw [e2] at hc; cases hc) ?_ (fun c hc => by rw [e3] at hc; cases hc)
          · rw [sI_any (by omega), sI_any (by omega), sI_any (by omega), sI_any (by omega), sI_any (by omega)]
          · rw [sI_any (by omega), sI_any (by omega), sI_any (by omega), sI_any (by omega), sI_same, e2]; rfl
          · rw [sI_any (by omega), sI_any (by omega), sI_any (by omega), sI_same, hu38, sI_any (by omega), hPk.2.2.2.2.1]; exact tF_J (by omega) (by omega)
          · rw [sI_any (by omega), sI_same, e3]; rfl
    · intro τ hI x5 x6 x7
      obtain ⟨hF, hI⟩ := hI
      have hP2 : RPp τ pl mv := hP.fr hF (fun i j hi k => by unfold P10 at k; omega)
      refine g_10_3 (hF.sh np) (hF.sh nf) (hF.sh ng) (hF.sh nD) ⟨fun _ => hQ τ hF hI, fun e => ?_⟩
      exfalso; rw [hP2.1.1] at e; simp (disch := omega) only [J_add, J_mul, J_sub, J_cl, J_lt, J_le, J_eq, vp_J, n1_ne, n1_lt, n1_le, n1_nlt, n1_nle] at e; omega
  exact g_10_0 (L 0 σ (Nat.zero_le _) ⟨Fr.rf, fun i hi => by omega⟩ _ _ _)
