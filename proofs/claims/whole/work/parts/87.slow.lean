/-! ===== slow and pulse ===== -/
variable {d : Nat} {B : Nat × Nat} {Q : Out → Sto → Prop} {P : Nat → Nat → Prop} {σ τ : Sto} {x0 y0 : Nat} {mv mv' kv : Mem} {img : Bool} {tp : Mem} {n : Nat} {fl : Option Nat}
def slwC1 (mv : Mem) (a1 a2 a3 : Int32) : Prop := IX a1 (mv 4) ∧ IX a2 (mv 1) ∧ IX a3 96
def slwC2 (a4 a5 : Int32) : Prop := IN a4 0 6 ∧ IN a5 1 96
theorem cc_slow (h : CIv σ x0 mv kv img tp n fl) (hB : 16 ≤ B.1 ∧ 1000 ≤ B.2) {a1 a2 a3 a4 a5 : Int32} (h0 : ∀ k1 k2 k3 k4 k5, k1 < mv 4 → k2 < mv 1 → k3 < 96 → k4 ≤ 6 → 1 ≤ k5 → k5 ≤ 96 → a1 = J k1 → a2 = J k2 → a3 = J k3 → a4 = J k4 → a5 = J k5 → ∀ τ, CIv τ x0 (putO mv k1 (gstp (stO mv k1) k2 k3 k4 k5)) kv img tp n fl → FCl σ τ → Q (.inl none) τ) (h1 : ¬ slwC1 mv a1 a2 a3 → Q (.inr 0) σ) (h2 : slwC1 mv a1 a2 a3 → ¬ slwC2 a4 a5 → Q (.inr 1) σ) : WP gT (d + 18) B 102 0 [.ref x0, .int a1, .int a2, .int a3, .int a4, .int a5] [] σ Q := by
  have hx := h.x
  have ho := h.mv_.2.1
  have ho1 := ho.s
  have hs := h.mv_.1.s
  refine g_102_0 h.sh hB ⟨fun c1 => ⟨fun c2 => ⟨fun c3 => fun u hu => ?_, fun c => h1 (fun k => c (gQ.mpr k.2.2))⟩, fun c => h1 (fun k => c (h.gG.mpr k.2.1))⟩, fun c => h1 (fun k => c (h.gO.mpr k.1))⟩
  have C1 : slwC1 mv a1 a2 a3 := ⟨h.gO.mp c1, h.gG.mp c2, gQ.mp c3⟩
  have hu2 : ¬ u = J 0 ↔ slwC2 a4 a5 := by
    rw [hu]; unfold slwC2
    rw [in_iff (x := a5) (by omega) (by omega)]
    constructor
    · intro c
      refine ⟨Classical.not_not.mp (fun e => c (by rw [if_pos (IN_step.mpr e)])), fun e => c ?_, fun e => c ?_⟩
      all_goals simp only [if_pos e, ite_self]
    · intro c
      rw [if_neg (fun e => IN_step.mp e c.1), if_neg c.2.1, if_neg c.2.2]; decide
  refine ⟨fun c => ?_, fun c => h2 C1 (fun k => c (hu2.mpr k))⟩
  obtain ⟨⟨k4, _, hk4, rfl⟩, ⟨k5, hk5, hk5', rfl⟩⟩ := hu2.mp c
  obtain ⟨⟨k1, hk1, rfl⟩, ⟨k2, hk2, rfl⟩, ⟨k3, hk3, rfl⟩⟩ := C1
  have hr := op_row (o := k1) h.sh (by omega)
  refine ⟨(by simp (disch := omega) only [J_add, J_mul, J_sub, J_cl, vp_J]; omega), ?_⟩
  rw [J_cl (by omega)]
  refine c_goStep hr.2.1 hr.2.2 (rowOf h hk1) (fun k hk => ho.o hk1 hk) (by omega) hk3 hk4 hk5 hk5' (fun τ hF hst => ⟨hF.sh h.sh, ?_⟩)
  exact c_forget h hk1 (gstp_le hk4 (by omega) hk3 (fun k hk => ho.o hk1 hk)) hF hst (h0 k1 k2 k3 k4 k5 hk1 hk2 hk3 hk4 hk5 hk5' rfl rfl rfl rfl rfl)
theorem twd_r {m s : Nat} (hm : m < 1000) (hs : s < 1000) : (if J m ≤ J s then (if J s ≤ J m then J s else J s - J 1) else J s + J 1) = J (twd m s) := by
  unfold twd
  simp (disch := omega) only [J_le]
  by_cases c1 : m ≤ s
  · by_cases c2 : s ≤ m
    · rw [if_pos c1, if_pos c2, if_neg (show ¬ s < m by omega), if_neg (show ¬ m < s by omega)]
    · rw [if_pos c1, if_neg c2, if_neg (show ¬ s < m by omega), if_pos (show m < s by omega), J_sub (by omega)]
  · rw [if_neg c1, if_pos (show s < m by omega), J_add]
theorem rr_slow (hy : y0 = 260) (hv : VG mv) (ho : VOo mv) (h : RIv σ y0 mv kv img tp n fl) {a1 a2 a3 a4 a5 : Int32} (h0 : ∀ k1 k2 k3 k4 k5, k1 < mv 4 → k2 < mv 1 → k3 < 96 → k4 ≤ 6 → 1 ≤ k5 → k5 ≤ 96 → a1 = J k1 → a2 = J k2 → a3 = J k3 → a4 = J k4 → a5 = J k5 → ∀ τ, RIv τ y0 (putO mv k1 (gstp (stO mv k1) k2 k3 k4 k5)) kv img tp n fl → FRf σ τ → sI τ y0 0 = J 0 → Q (.inl none) τ) (h1 : ¬ slwC1 mv a1 a2 a3 → ∀ τ, RIv τ y0 mv kv img tp n fl → FRf σ τ → sI τ y0 0 = J 1 → Q (.inl none) τ) (h2 : slwC1 mv a1 a2 a3 → ¬ slwC2 a4 a5 → ∀ τ, RIv τ y0 mv kv img tp n fl → FRf σ τ → sI τ y0 0 = J 2 → Q (.inl none) τ) : WP gT (d + 2) B 210 0 [.ref y0, .int a1, .int a2, .int a3, .int a4, .int a5, .retAddr 0, .retAddr 0] [] σ Q := by
  have ho1 := ho.s
  have hs := hv.s
  have nn : ∀ {p : Prop}, ¬ ¬ p → p := fun h => Classical.not_not.mp h
  refine g_210_0 h.1 (fun u hu => ?_)
  by_cases c1 : slwC1 mv a1 a2 a3
  · rw [if_neg (fun e => (r167 h.2.1 ho).mp e c1.1), if_neg (fun e => (r164 h.2.1 hv).mp e c1.2.1), if_neg (fun e => r163.mp e c1.2.2)] at hu
    by_cases c2 : slwC2 a4 a5
    · rw [if_neg (fun e => (r162 (by omega) (by omega)).mp e c2.1), if_neg (fun e => (r162 (by omega) (by omega)).mp e c2.2)] at hu
      subst hu
      obtain ⟨⟨k4, _, hk4, rfl⟩, ⟨k5, hk5, hk5', rfl⟩⟩ := c2
      obtain ⟨⟨k1, hk1, rfl⟩, ⟨k2, hk2, rfl⟩, ⟨k3, hk3, rfl⟩⟩ := c1
      have hs0 : st0 (stO mv k1) k2 k3 ≤ 6 := by
        unfold st0; split
        · omega
        · exact ho.o hk1 (by omega)
      refine ⟨fun _ => ⟨fun c => ⟨?_, trivial⟩, fun u3 h3 => ?_⟩, fun e => absurd ret0 e⟩
      · unfold f_208
        simp (disch := omega) only [J_add, J_mul, J_sub, J_cl, J_lt, J_le, J_eq, vp_J, n1_ne, n1_lt, n1_le, n1_nlt, n1_nle] at c
        simp (disch := omega) only [J_add, J_mul, J_sub, J_cl, J_lt, J_le, J_eq, vp_J, n1_ne, n1_lt, n1_le, n1_nlt, n1_nle]; omega
      · have e3 : u3 = J (gsv k4 k5 (st0 (stO mv k1) k2 k3) 0) := by
          rw [h3]; show _ = J (st0 (stO mv k1) k2 k3)
          unfold st0 f_208
          by_cases c : k3 = 0
          · rw [if_pos c, if_pos (by rw [c])]
          · rw [if_neg c, if_neg (by rw [J_eq (by omega) (by omega)]; exact c)]
            simp (disch := omega) only [J_add, J_mul, J_sub, J_cl, J_lt, J_le, J_eq, vp_J, n1_ne, n1_lt, n1_le, n1_nlt, n1_nle, h.2.1.at]
            unfold stO; congr 2; omega
        subst e3
        have L : ∀ i τ, i ≤ 96 - k3 → (Fr (fun p j => p = y0 + 1 ∨ SRr y0 p j) σ τ ∧ sI τ y0 0 = J 0 ∧ RMm τ y0 (putO mv k1 (fun k => if 96 * k2 + k3 ≤ k ∧ k < 96 * k2 + k3 + i then gsv k4 k5 (st0 (stO mv k1) k2 k3) (k - (96 * k2 + k3) + 1) else stO mv k1 k))) → WP gT (d + 2) B 210 93 [.ref y0, .int (J k1), .int (J k2), .int (J k3), .int (J k4), .int (J k5), .int (J (gsv k4 k5 (st0 (stO mv k1) k2 k3) i)), .int (J (k3 + i))] [] τ Q := by
          refine upto (96 - k3) ?_ ?_
          · intro i τ hi hI ih
            obtain ⟨hF, ht, hm⟩ := hI
            have hgl := gsv_le (each := k5) (n := k4) (by omega) hs0 i
            refine g_210_93 (hF.sh h.1) ⟨fun e => ?_, fun _ => ⟨?_, fun u2 h2 => ⟨?_, ?_⟩⟩⟩
            · exfalso; simp (disch := omega) only [J_add, J_mul, J_sub, J_cl, J_lt, J_le, J_eq, vp_J, n1_ne, n1_lt, n1_le, n1_nlt, n1_nle] at e; omega
            · rw [J_eq (by omega) (by omega)]; omega
            · unfold f_208; exact (by simp (disch := omega) only [J_add, J_mul, J_sub, J_cl, vp_J]; omega)
            · have e2 : u2 = J (gsv k4 k5 (st0 (stO mv k1) k2 k3) (i + 1)) := by
                rw [h2, show gsv k4 k5 (st0 (stO mv k1) k2 k3) (i + 1) = if i % k5 = 0 then twd k4 (gsv k4 k5 (st0 (stO mv k1) k2 k3) i) else gsv k4 k5 (st0 (stO mv k1) k2 k3) i from rfl, J_sub (by omega), show k3 + i - k3 = i by omega, twd_r (by omega) (by omega)]
                simp only [modJ (show i < 1000 by omega) (show k5 < 1000 by omega) hk5]
                split <;> rfl
              rw [e2, J_add, show k3 + i + 1 = k3 + (i + 1) from rfl]
              unfold f_208
              simp (disch := omega) only [J_add, J_mul, J_sub, J_cl, J_lt, J_le, J_eq, vp_J, n1_ne, n1_lt, n1_le, n1_nlt, n1_nle]
              refine ih _ ⟨hF.setI (Or.inl rfl), by rw [sI_any (by omega)]; exact ht, ?_⟩
              rw [show 424 + 384 * k1 + 96 * k2 + (k3 + i) = 424 + 384 * k1 + (96 * k2 + (k3 + i)) by omega]
              refine putO_set hm (by omega) (by omega) (fun j hj => ?_)
              by_cases e : j = 96 * k2 + (k3 + i)
              · rw [if_pos e, if_pos (by omega), show j - (96 * k2 + k3) + 1 = i + 1 by omega]
              · rw [if_neg e]
                by_cases c : 96 * k2 + k3 ≤ j ∧ j < 96 * k2 + k3 + i
                · rw [if_pos c, if_pos (by omega)]
                · rw [if_neg c, if_neg (by omega)]
          · intro τ hI
            obtain ⟨hF, ht, hm⟩ := hI
            have hm2 : RMm τ y0 (putO mv k1 (gstp (stO mv k1) k2 k3 k4 k5)) := by
              rw [putO_eq (st' := fun k => if 96 * k2 + k3 ≤ k ∧ k < 96 * k2 + k3 + (96 - k3) then gsv k4 k5 (st0 (stO mv k1) k2 k3) (k - (96 * k2 + k3) + 1) else stO mv k1 k) (fun i hi => by unfold gstp; rw [show 96 * k2 + k3 + (96 - k3) = 96 * k2 + 96 by omega])]
              exact hm
            obtain ⟨r1, r2⟩ := r_putO hy h hF hm2
            refine g_210_93 (hF.sh h.1) ⟨fun _ => h0 k1 k2 k3 k4 k5 hk1 hk2 hk3 hk4 hk5 hk5' rfl rfl rfl rfl rfl τ r1 r2 ht, fun e => ?_⟩
            exfalso; simp (disch := omega) only [J_add, J_mul, J_sub, J_cl, J_lt, J_le, J_eq, vp_J, n1_ne, n1_lt, n1_le, n1_nlt, n1_nle] at e; omega
        refine L 0 _ (Nat.zero_le _) ⟨Fr.rf.setI (Or.inr (by unfold SRr; omega)), sI_same, ?_⟩
        rw [putO_eq (st' := stO mv k1) (fun i hi => if_neg (by omega))]
        exact putO_id h.2.1.th
    · have hu2 : u = J 2 := by
        rw [hu]
        by_cases q1 : f_162 σ a4 (J 0) (J 6) = J 0
        · rw [if_pos q1]
        rw [if_neg q1]
        by_cases q2 : f_162 σ a5 (J 1) (J 96) = J 0
        · rw [if_pos q2]
        exact absurd ⟨nn (fun e => q1 ((r162 (by omega) (by omega)).mpr e)), nn (fun e => q2 ((r162 (by omega) (by omega)).mpr e))⟩ c2
      subst hu2
      exact ⟨fun e => absurd e ret2, fun _ => h2 c1 c2 _ h.thr (FRf.th hy) sI_same⟩
  · have hu1 : u = J 1 := by
      rw [hu]
      by_cases q1 : f_167 σ y0 a1 = J 0
      · rw [if_pos q1]
      rw [if_neg q1]
      by_cases q2 : f_164 σ y0 a2 = J 0
      · rw [if_pos q2]
      rw [if_neg q2]
      by_cases q3 : f_163 σ a3 = J 0
      · rw [if_pos q3]
      exact absurd ⟨nn (fun e => q1 ((r167 h.2.1 ho).mpr e)), nn (fun e => q2 ((r164 h.2.1 hv).mpr e)), nn (fun e => q3 (r163.mpr e))⟩ c1
    subst hu1
    exact ⟨fun e => absurd e ret1, fun _ => h1 c1 _ h.thr (FRf.th hy) sI_same⟩
/-! pulse -/
def plsC2 (a4 a5 a6 : Int32) : Prop := IN a4 0 6 ∧ IN a5 1 96 ∧ IN a6 0 96
def plsS (st : Mem) (g a v l w : Nat) : Mem := fllS (fllS st g a (a + l) v) g (a + l) (a + l + w) 0
theorem cc_pulse (h : CIv σ x0 mv kv img tp n fl) (hB : 16 ≤ B.1 ∧ 1000 ≤ B.2) {a1 a2 a3 a4 a5 a6 : Int32} (h0 : ∀ k1 k2 k3 k4 k5 k6, k1 < mv 4 → k2 < mv 1 → k3 < 96 → k4 ≤ 6 → 1 ≤ k5 → k5 ≤ 96 → k6 ≤ 96 → a1 = J k1 → a2 = J k2 → a3 = J k3 → a4 = J k4 → a5 = J k5 → a6 = J k6 → ∀ τ, CIv τ x0 (putO mv k1 (plsS (stO mv k1) k2 k3 k4 k5 k6)) kv img tp n fl → FCl σ τ → Q (.inl none) τ) (h1 : ¬ slwC1 mv a1 a2 a3 → Q (.inr 0) σ) (h2 : slwC1 mv a1 a2 a3 → ¬ plsC2 a4 a5 a6 → Q (.inr 1) σ) : WP gT (d + 18) B 103 0 [.ref x0, .int a1, .int a2, .int a3, .int a4, .int a5, .int a6] [] σ Q := by
  have hx := h.x
  have ho := h.mv_.2.1
  have ho1 := ho.s
  have hs := h.mv_.1.s
  refine g_103_0 h.sh hB ⟨fun c1 => ⟨fun c2 => ⟨fun c3 => fun u hu => ?_, fun c => h1 (fun k => c (gQ.mpr k.2.2))⟩, fun c => h1 (fun k => c (h.gG.mpr k.2.1))⟩, fun c => h1 (fun k => c (h.gO.mpr k.1))⟩
  have C1 : slwC1 mv a1 a2 a3 := ⟨h.gO.mp c1, h.gG.mp c2, gQ.mp c3⟩
  have hu2 : ¬ u = J 0 ↔ plsC2 a4 a5 a6 := by
    rw [hu]; unfold plsC2
    rw [in_iff (x := a5) (by omega) (by omega), in_iff (x := a6) (by omega) (by omega)]
    constructor
    · intro c
      refine ⟨Classical.not_not.mp (fun e => c (by rw [if_pos (IN_step.mpr e)])), ⟨fun e => c ?_, fun e => c ?_⟩, fun e => c ?_, fun e => c ?_⟩
      all_goals simp only [if_pos e, ite_self]
    · intro c
      rw [if_neg (fun e => IN_step.mp e c.1), if_neg c.2.1.1, if_neg c.2.1.2, if_neg c.2.2.1, if_neg c.2.2.2]; decide
  refine ⟨fun c => ?_, fun c => h2 C1 (fun k => c (hu2.mpr k))⟩
  obtain ⟨⟨k4, _, hk4, rfl⟩, ⟨k5, hk5, hk5', rfl⟩, ⟨k6, _, hk6, rfl⟩⟩ := hu2.mp c
  obtain ⟨⟨k1, hk1, rfl⟩, ⟨k2, hk2, rfl⟩, ⟨k3, hk3, rfl⟩⟩ := C1
  have hr := op_row (o := k1) h.sh (by omega)
  simp (disch := omega) only [J_add, J_mul, J_sub, J_cl, J_lt, J_le, J_eq, vp_J, n1_ne, n1_lt, n1_le, n1_nlt, n1_nle]
  refine ⟨(by omega), c_setSteps hr.2.1 hr.2.2 (rowOf h hk1) (by omega) (by omega) (by omega) (fun τ hF hst => ⟨hF.sh h.sh, (by omega), ?_⟩)⟩
  refine c_setSteps (by rw [hF.K]; exact hr.2.1) (by rw [hF.Z]; exact hr.2.2) hst (by omega) (by omega) (by omega) (fun ρ hF2 hst2 => ⟨(hF.tr hF2).sh h.sh, ?_⟩)
  exact c_forget h hk1 (fllS_le (by omega) (fllS_le hk4 (fun k hk => ho.o hk1 hk))) (hF.tr hF2) hst2 (h0 k1 k2 k3 k4 k5 k6 hk1 hk2 hk3 hk4 hk5 hk5' hk6 rfl rfl rfl rfl rfl rfl)
theorem rr_pulse (hy : y0 = 260) (hv : VG mv) (ho : VOo mv) (h : RIv σ y0 mv kv img tp n fl) {a1 a2 a3 a4 a5 a6 : Int32} (h0 : ∀ k1 k2 k3 k4 k5 k6, k1 < mv 4 → k2 < mv 1 → k3 < 96 → k4 ≤ 6 → 1 ≤ k5 → k5 ≤ 96 → k6 ≤ 96 → a1 = J k1 → a2 = J k2 → a3 = J k3 → a4 = J k4 → a5 = J k5 → a6 = J k6 → ∀ τ, RIv τ y0 (putO mv k1 (plsS (stO mv k1) k2 k3 k4 k5 k6)) kv img tp n fl → FRf σ τ → sI τ y0 0 = J 0 → Q (.inl none) τ) (h1 : ¬ slwC1 mv a1 a2 a3 → ∀ τ, RIv τ y0 mv kv img tp n fl → FRf σ τ → sI τ y0 0 = J 1 → Q (.inl none) τ) (h2 : slwC1 mv a1 a2 a3 → ¬ plsC2 a4 a5 a6 → ∀ τ, RIv τ y0 mv kv img tp n fl → FRf σ τ → sI τ y0 0 = J 2 → Q (.inl none) τ) : WP gT (d + 2) B 211 0 [.ref y0, .int a1, .int a2, .int a3, .int a4, .int a5, .int a6, .retAddr 0] [] σ Q := by
  have ho1 := ho.s
  have hs := hv.s
  have nn : ∀ {p : Prop}, ¬ ¬ p → p := fun h => Classical.not_not.mp h
  refine g_211_0 h.1 (fun u hu => ?_)
  by_cases c1 : slwC1 mv a1 a2 a3
  · rw [if_neg (fun e => (r167 h.2.1 ho).mp e c1.1), if_neg (fun e => (r164 h.2.1 hv).mp e c1.2.1), if_neg (fun e => r163.mp e c1.2.2)] at hu
    by_cases c2 : plsC2 a4 a5 a6
    · rw [if_neg (fun e => (r162 (by omega) (by omega)).mp e c2.1), if_neg (fun e => (r162 (by omega) (by omega)).mp e c2.2.1), if_neg (fun e => (r162 (by omega) (by omega)).mp e c2.2.2)] at hu
      subst hu
      obtain ⟨⟨k4, _, hk4, rfl⟩, ⟨k5, hk5, hk5', rfl⟩, ⟨k6, _, hk6, rfl⟩⟩ := c2
      obtain ⟨⟨k1, hk1, rfl⟩, ⟨k2, hk2, rfl⟩, ⟨k3, hk3, rfl⟩⟩ := c1
      refine ⟨fun _ => ?_, fun e => absurd ret0 e⟩
      -- steps as far as quarter k3 + i
      have L : ∀ m i τ, i + m = 300 → (Fr (fun p j => p = y0 + 1 ∨ SRr y0 p j) σ τ ∧ sI τ y0 0 = J 0 ∧ RMm τ y0 (putO mv k1 (fun k => if 96 * k2 + k3 ≤ k ∧ k < 96 * k2 + k3 + i ∧ k < 96 * k2 + 96 then (if k < 96 * k2 + k3 + k5 then k4 else 0) else stO mv k1 k)) ∧ i ≤ k5 + k6 ∧ k3 + i ≤ 96) → WP gT (d + 2) B 211 80 [.ref y0, .int (J k1), .int (J k2), .int (J k3), .int (J k4), .int (J k5), .int (J k6), .int (J (k3 + i))] [] τ Q := by
        intro m
        induction m with
        | zero => intro i τ hi hI; omega
        | succ m ih =>
          intro i τ hi hI
          obtain ⟨hF, ht, hm, hl1, hl2⟩ := hI
          have fin : k3 + i = 96 ∨ i = k5 + k6 → Q (.inl none) τ := fun c => by
            have hm2 : RMm τ y0 (putO mv k1 (plsS (stO mv k1) k2 k3 k4 k5 k6)) := by
              rw [putO_eq (st' := fun k => if 96 * k2 + k3 ≤ k ∧ k < 96 * k2 + k3 + i ∧ k < 96 * k2 + 96 then (if k < 96 * k2 + k3 + k5 then k4 else 0) else stO mv k1 k) (fun j hj => ?_)]
              · exact hm
              · unfold plsS fllS
                by_cases d1 : 96 * k2 + (k3 + k5) ≤ j ∧ j < 96 * k2 + (k3 + k5 + k6) ∧ j < 96 * k2 + 96
                · rw [if_pos d1, if_pos (by omega), if_neg (by omega)]
                · rw [if_neg d1]
                  by_cases d2 : 96 * k2 + k3 ≤ j ∧ j < 96 * k2 + (k3 + k5) ∧ j < 96 * k2 + 96
                  · rw [if_pos d2, if_pos (by omega), if_pos (by omega)]
                  · rw [if_neg d2, if_neg (by omega)]
            obtain ⟨r1, r2⟩ := r_putO hy h hF hm2
            exact h0 k1 k2 k3 k4 k5 k6 hk1 hk2 hk3 hk4 hk5 hk5' hk6 rfl rfl rfl rfl rfl rfl τ r1 r2 ht
          refine g_211_80 (hF.sh h.1) ?_
          unfold f_208
          simp (disch := omega) only [J_add, J_mul, J_sub, J_cl, J_lt, J_le, J_eq, vp_J, n1_ne, n1_lt, n1_le, n1_nlt, n1_nle]
          refine ⟨fun e => fin (by omega), fun e => ⟨fun e2 => fin (by omega), fun e2 => ⟨(by omega), ?_⟩⟩⟩
          have ev : (if k3 + k5 ≤ k3 + i then J 0 else J k4) = J (if k3 + k5 ≤ k3 + i then 0 else k4) := by split <;> rfl
          rw [ev]
          refine ih (i + 1) _ (by omega) ⟨hF.setI (Or.inl rfl), by rw [sI_any (by omega)]; exact ht, ?_, by omega, by omega⟩
          rw [show 424 + 384 * k1 + 96 * k2 + (k3 + i) = 424 + 384 * k1 + (96 * k2 + (k3 + i)) by omega]
          refine putO_set hm (by omega) (by omega) (fun j hj => ?_)
          by_cases e3 : j = 96 * k2 + (k3 + i)
          · rw [if_pos e3, if_pos (by omega)]
            by_cases c : k3 + k5 ≤ k3 + i
            · rw [if_pos c, if_neg (by omega)]
            · rw [if_neg c, if_pos (by omega)]
          · rw [if_neg e3]
            by_cases c : 96 * k2 + k3 ≤ j ∧ j < 96 * k2 + k3 + i ∧ j < 96 * k2 + 96
            · rw [if_pos c, if_pos (by omega)]
            · rw [if_neg c, if_neg (by omega)]
      refine L 300 0 _ rfl ⟨Fr.rf.setI (Or.inr (by unfold SRr; omega)), sI_same, ?_, by omega, by omega⟩
      rw [putO_eq (st' := stO mv k1) (fun i hi => if_neg (by omega))]
      exact putO_id h.2.1.th
    · have hu2 : u = J 2 := by
        rw [hu]
        by_cases q1 : f_162 σ a4 (J 0) (J 6) = J 0
        · rw [if_pos q1]
        rw [if_neg q1]
        by_cases q2 : f_162 σ a5 (J 1) (J 96) = J 0
        · rw [if_pos q2]
        rw [if_neg q2]
        by_cases q3 : f_162 σ a6 (J 0) (J 96) = J 0
        · rw [if_pos q3]
        exact absurd ⟨nn (fun e => q1 ((r162 (by omega) (by omega)).mpr e)), nn (fun e => q2 ((r162 (by omega) (by omega)).mpr e)), nn (fun e => q3 ((r162 (by omega) (by omega)).mpr e))⟩ c2
      subst hu2
      exact ⟨fun e => absurd e ret2, fun _ => h2 c1 c2 _ h.thr (FRf.th hy) sI_same⟩
  · have hu1 : u = J 1 := by
      rw [hu]
      by_cases q1 : f_167 σ y0 a1 = J 0
      · rw [if_pos q1]
      rw [if_neg q1]
      by_cases q2 : f_164 σ y0 a2 = J 0
      · rw [if_pos q2]
      rw [if_neg q2]
      by_cases q3 : f_163 σ a3 = J 0
      · rw [if_pos q3]
      exact absurd ⟨nn (fun e => q1 ((r167 h.2.1 ho).mpr e)), nn (fun e => q2 ((r164 h.2.1 hv).mpr e)), nn (fun e => q3 (r163.mpr e))⟩ c1
    subst hu1
    exact ⟨fun e => absurd e ret1, fun _ => h1 c1 _ h.thr (FRf.th hy) sI_same⟩
