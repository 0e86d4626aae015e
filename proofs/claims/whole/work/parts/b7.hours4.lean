/-! ===== hours, the reference's answer ===== -/
variable {d : Nat} {B : Nat × Nat} {Q : Out → Sto → Prop} {P : Nat → Nat → Prop} {σ τ : Sto} {x0 y0 X a m k q L F : Nat} {mv kv w W : Mem} {img : Bool} {tp : Mem} {n : Nat} {fl : Option Nat}
theorem BG_0 (hL : 1 ≤ L) : ∀ t q, q + t = 96 → (PL W L q m = 0 ∨ m = 0) → BG W L m t q = 0 := by
  intro t
  induction t with
  | zero => intro q _ _; rfl
  | succ t ih =>
    intro q hq h
    have s := PL_s (W := W) (m := m) hL (show q < 96 by omega)
    have k0 : PK W L L q m = 0 := by
      rcases h with h | h
      · omega
      · rw [PK_e, if_pos (Or.inl (by omega))]
    show (if ¬ PK W L L q m = 0 ∧ PL W L (q + 1) m ≤ PK W L L q m then q + 1 else BG W L m t (q + 1)) = 0
    rw [if_neg (fun k => k.1 k0)]
    refine ih (q + 1) (by omega) ?_
    rcases h with h | h
    · left; omega
    · exact Or.inr h
theorem rr_hours (hy : y0 = 260) (hv : VG mv) (ho : VOo mv) (h : RIv σ y0 mv kv img tp n fl) {a1 a2 a3 a4 a5 a6 : Int32}
    (h0 : ∀ g s q m L, g < mv 1 → s ≤ 6 → q < 96 → m ≤ 96 → 1 ≤ L → L ≤ 96 → a1 = J g → a2 = J s → a3 = J q → a4 = J m → a5 = J L → ∀ τ, RIv τ y0 mv kv img tp n fl → FRf σ τ → sI τ y0 0 = J 0 → Q (.inl (some (.long (hoV mv g s q m L a6)))) τ)
    (h1 : ¬ (IX a1 (mv 1) ∧ IX a3 96) → ∀ τ v, RIv τ y0 mv kv img tp n fl → FRf σ τ → sI τ y0 0 = J 1 → Q (.inl (some (.long v))) τ)
    (h2 : IX a1 (mv 1) ∧ IX a3 96 → ¬ (IN a2 0 6 ∧ IN a4 0 96 ∧ IN a5 1 96) → ∀ τ v, RIv τ y0 mv kv img tp n fl → FRf σ τ → sI τ y0 0 = J 2 → Q (.inl (some (.long v))) τ) : WP gT (d + 3) B 255 0 [.ref y0, .int a1, .int a2, .int a3, .int a4, .int a5, .int a6, .retAddr 0, .retAddr 0, .retAddr 0, .retAddr 0] [] σ Q := by
  have hs := hv.s
  have ho1 := ho.s
  refine g_255_0 h.1 (fun u hu => ?_)
  by_cases ci : IX a1 (mv 1) ∧ IX a3 96
  · obtain ⟨⟨g, hg, rfl⟩, ⟨q, hq, rfl⟩⟩ := ci
    have t1 : ¬ f_164 σ y0 (J g) = J 0 := fun e => (r164 h.2.1 hv).mp e ⟨g, hg, rfl⟩
    have t3 : ¬ f_163 σ (J q) = J 0 := fun e => (r163).mp e ⟨q, hq, rfl⟩
    rw [if_neg t1, if_neg t3] at hu
    by_cases c : IN a2 0 6 ∧ IN a4 0 96 ∧ IN a5 1 96
    · obtain ⟨⟨s, s0, hs6, rfl⟩, ⟨m, m0, hm, rfl⟩, ⟨L, hL1, hL, rfl⟩⟩ := c
      rw [if_neg (fun e => (r162 (by omega) (by omega)).mp e ⟨s, s0, hs6, rfl⟩), if_neg (fun e => (r162 (by omega) (by omega)).mp e ⟨m, m0, hm, rfl⟩), if_neg (fun e => (r162 (by omega) (by omega)).mp e ⟨L, hL1, hL, rfl⟩)] at hu
      subst hu
      refine ⟨fun _ => ?_, fun e => absurd ret0 e⟩
      have hgg := hv.g hg
      have hM := (h.thr (v := J 0)).2.1
      have e1 : J 308 + J 7 * J g = J (308 + 7 * g) := by rw [J_mul, J_add]
      rw [e1, J_cl (by omega), hM.at (by omega), J_add, J_add, rv_197 hM hv hg hs6, h.2.1.at (by omega)]
      have emin : (if J (mv 13) ≤ J (flwG mv g s) then J (mv 13) else J (flwG mv g s)) = J (hoF mv g s) := by
        have := flw_le (s := s) hv hg
        unfold hoF
        by_cases c : mv 13 ≤ flwG mv g s
        · rw [if_pos c, if_pos (by rw [J_le (by omega) (by omega)]; exact c)]
        · rw [if_neg c, if_neg (by rw [J_le (by omega) (by omega)]; exact c)]
      rw [emin]
      refine ⟨(by simp (disch := omega) only [J_add, J_mul, J_sub, J_cl, vp_J]; omega), fun _ => ⟨fun _ => ⟨(by simp (disch := omega) only [J_add, J_mul, J_sub, J_cl, vp_J]; omega), trivial⟩, fun _ => ⟨(by simp (disch := omega) only [J_add, J_mul, J_sub, J_cl, vp_J]; omega), trivial⟩⟩, fun u4 h4 => ?_⟩
      subst h4
      have hwb := hoW_b hv ho g s
      have hF := hoF_le ho g s
      have hb : HBd (HW (wF mv (hoF mv g s))) L := ⟨⟨hL1, hL⟩, hwb.1, hwb.2⟩
      refine r_plans hv h.thr.1 hM hF hb hq hm (fun τ f hR => ?_)
      have h3 := h.thr.fr f (fun p j k _ _ => by unfold PHr at k; unfold SRr; omega)
      have hFF : FRf σ τ := (FRf.th hy).tr (FRf.of hy f (fun p j k => by unfold PHr at k; omega))
      have ht : sI τ y0 0 = J 0 := (f.i (by unfold PHr; omega)).trans sI_same
      have h0 := h0 g s q m L hg hs6 hq hm hL1 hL rfl rfl rfl rfl rfl τ h3 hFF ht
      have bp := (hb.p (q := q) (m := m) (by omega)).1
      unfold hoV hoW at h0
      dsimp only [oL]
      rw [ofInt0, ofIntm, VLg_ge (by omega) (by omega)]
      refine ⟨fun c6 => by rw [if_pos c6] at h0; exact h0, fun c6 => ?_⟩
      rw [if_neg c6] at h0
      refine ⟨fun cv => ⟨fun c4 => ?_, fun c4 => ?_⟩, fun cv => ?_⟩
      · have : m = 0 := J_inj (by omega) (by omega) c4
        rw [BG_0 hL1 _ q (by omega) (Or.inr this)] at h0; exact h0
      · have S : ∀ t j, j + t = 96 → q ≤ j → PL (HW (wF mv (hoF mv g s))) L j m = PL (HW (wF mv (hoF mv g s))) L q m → BG (HW (wF mv (hoF mv g s))) L m t j = BG (HW (wF mv (hoF mv g s))) L m (96 - q) q → WP gT (d + 3) B 255 143 [.ref y0, .int (J g), .int (J s), .int (J q), .int (J m), .int (J L), .int a6, .int (J (hoF mv g s)), .long (VLg (PL (HW (wF mv (hoF mv g s))) L q m)), .retAddr 0, .int (J j)] [] τ Q := by
          intro t
          induction t with
          | zero =>
            intro j hj hqj hP hB2
            refine g_255_143 h3.1 ⟨fun _ => ?_, fun c => ?_⟩
            · have e : BG (HW (wF mv (hoF mv g s))) L m 0 j = 0 := rfl
              rw [← hB2, e] at h0; exact h0
            · exfalso; apply c; rw [J_le (by omega) (by omega)]; omega
          | succ t ih =>
            intro j hj hqj hP hB2
            have s2 := PL_s (W := HW (wF mv (hoF mv g s))) (L := L) (m := m) hL1 (show j < 96 by omega)
            have bk := hb.kb (k := L) (q := j) (m := m)
            have eB : BG (HW (wF mv (hoF mv g s))) L m (t + 1) j = if ¬ PK (HW (wF mv (hoF mv g s))) L L j m = 0 ∧ PL (HW (wF mv (hoF mv g s))) L (j + 1) m ≤ PK (HW (wF mv (hoF mv g s))) L L j m then j + 1 else BG (HW (wF mv (hoF mv g s))) L m t (j + 1) := rfl
            refine g_255_143 h3.1 ⟨fun c => ?_, fun _ => ?_⟩
            · exfalso; rw [J_le (by omega) (by omega)] at c; omega
            · refine r_piece hv h3.1 h3.2.1 hF hb (by omega) hm (fun e1 e2 => ?_) ?_
              · rw [show 97 * (j + L) + m - L = 97 * (j + L) + (m - L) by omega]
                exact (hR (j + L) (m - L) (by omega) e1 (by omega)).2
              · dsimp only [oL]
                rw [VLg_eq (by omega) (by omega)]
                refine ⟨fun c => ?_, fun c => ?_⟩
                · rw [if_pos ⟨by omega, by omega⟩] at eB
                  rw [← hB2, eB, VLg_s] at h0
                  rw [N64_J (by omega)]; exact h0
                · rw [if_neg (by omega)] at eB
                  rw [J_add]
                  exact ih (j + 1) (by omega) (by omega) (by omega) (by rw [← eB]; exact hB2)
        exact S (96 - q) q (by omega) (Nat.le_refl _) rfl rfl
      · have : PL (HW (wF mv (hoF mv g s))) L q m = 0 := by omega
        rw [BG_0 hL1 _ q (by omega) (Or.inl this)] at h0
        rw [this]; exact h0
    · have hu2 : u = J 2 := by
        rw [hu]
        by_cases q1 : f_162 σ a2 (J 0) (J 6) = J 0
        · rw [if_pos q1]
        rw [if_neg q1]
        by_cases q2 : f_162 σ a4 (J 0) (J 96) = J 0
        · rw [if_pos q2]
        rw [if_neg q2]
        by_cases q3 : f_162 σ a5 (J 1) (J 96) = J 0
        · rw [if_pos q3]
        exact absurd ⟨Classical.not_not.mp (fun e => q1 ((r162 (by omega) (by omega)).mpr e)), Classical.not_not.mp (fun e => q2 ((r162 (by omega) (by omega)).mpr e)), Classical.not_not.mp (fun e => q3 ((r162 (by omega) (by omega)).mpr e))⟩ c
      subst hu2
      exact ⟨fun e => absurd e ret2, fun _ => h2 ⟨⟨g, hg, rfl⟩, ⟨q, hq, rfl⟩⟩ c _ _ h.thr (FRf.th hy) sI_same⟩
  · have hu1 : u = J 1 := by
      rw [hu]
      by_cases q1 : f_164 σ y0 a1 = J 0
      · rw [if_pos q1]
      rw [if_neg q1]
      by_cases q2 : f_163 σ a3 = J 0
      · rw [if_pos q2]
      exact absurd ⟨Classical.not_not.mp (fun e => q1 ((r164 h.2.1 hv).mpr e)), Classical.not_not.mp (fun e => q2 (r163.mpr e))⟩ ci
    subst hu1
    exact ⟨fun e => absurd e ret1, fun _ => h1 ci _ _ h.thr (FRf.th hy) sI_same⟩
