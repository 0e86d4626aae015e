/-! ===== calls that only look ===== -/
variable {d : Nat} {B : Nat × Nat} {Q : Out → Sto → Prop} {P : Nat → Nat → Prop} {σ τ : Sto} {x0 y0 : Nat} {mv kv : Mem} {img : Bool} {tp : Mem} {n : Nat} {fl : Option Nat}
theorem CIv.gO (h : CIv σ x0 mv kv img tp n fl) {x : Int32} : okIx x (sI σ (x0 + 24) 2) ↔ IX x (mv 4) := by
  have := h.mv_.2.1.s; rw [h.mv_.2.2.2.2.1.2.1]; exact okIx_J (by omega)
theorem CIv.gG (h : CIv σ x0 mv kv img tp n fl) {x : Int32} : okIx x (sI σ (x0 + 25) 5) ↔ IX x (mv 1) := by
  have := h.mv_.1.s; rw [h.G.s.2.2.2.2.1]; exact okIx_J (by omega)
theorem CIv.gR (h : CIv σ x0 mv kv img tp n fl) {x : Int32} : okIx x (sI σ (x0 + 25) 8) ↔ IX x (mv 2) := by
  have := h.mv_.1.s; rw [h.G.s.2.2.2.2.2.1]; exact okIx_J (by omega)
theorem CIv.gP (h : CIv σ x0 mv kv img tp n fl) {x : Int32} : okIx x (sI σ (x0 + 25) 14) ↔ IX x (mv 3) := by
  have := h.mv_.1.s; rw [h.G.s.2.2.2.2.2.2]; exact okIx_J (by omega)
theorem CIv.gK (h : CIv σ x0 mv kv img tp n fl) {x : Int32} : okIx x (sI σ (x0 + 48) 0) ↔ IX x (mv 5) := by
  have := h.mv_.2.1.s; rw [h.Pp.1.1]; exact okIx_J (by omega)
theorem gQ {x : Int32} : okIx x (J 96) ↔ IX x 96 := okIx_J (by omega)
theorem CIv.ar (h : CIv σ x0 mv kv img tp n fl) : ¬ sI σ (x0 + 25) 0 = J 0 := by
  have := h.mv_.1.s; rw [h.G.s.1, J_eq (by omega) (by omega)]; omega
theorem cc_level (h : CIv σ x0 mv kv img tp n fl) (hB : 16 ≤ B.1 ∧ 1000 ≤ B.2) {a1 a2 : Int32}
    (h0 : ∀ k1 k2, k1 < mv 4 → k2 < 96 → a1 = J k1 → a2 = J k2 → ∀ τ, CIv τ x0 mv kv img tp n fl → FCl σ τ → Q (.inl (some (.int ((lkF mv (stO mv k1)) (k2 + 1) / J (mv 9))))) τ) (h1 : ¬ (IX a1 (mv 4) ∧ IX a2 (96)) → Q (.inr 0) σ) : WP gT (d + 18) B 106 0 [.ref x0, .int a1, .int a2] [] σ Q := by
  have hx := h.x
  have hv := h.mv_.1
  have ho := h.mv_.2.1
  have hs := hv.s
  have ho1 := ho.s
  refine g_106_0 h.sh hB ⟨fun c1 => ⟨fun c2 => ?_, fun c2 => h1 (fun k => c2 (gQ.mpr k.2))⟩, fun c1 => h1 (fun k => c1 (h.gO.mpr k.1))⟩
  obtain ⟨k1, hk1, rfl⟩ := h.gO.mp c1
  obtain ⟨k2, hk2, rfl⟩ := gQ.mp c2
  have h0 := h0 k1 k2 hk1 hk2 rfl rfl
  refine c_floodOf h hk1 (fun τ h2 hF hS hC hf => ?_)
  dsimp only [oR]
  have h0 := h0 τ h2 hF
  refine ⟨hS, sub_11_98_3 hS, ⟨fun _ => ⟨(by simp (disch := omega) only [J_add, J_mul, J_sub, J_cl, vp_J]; omega), fun _ => ⟨h2.ar, trivial⟩, trivial⟩, fun _ => ⟨fun _ => ⟨h2.ar, trivial⟩, trivial⟩⟩, ?_⟩
  rw [cv_28 hC h2.G hv hk2]; exact h0
theorem rr_level (hy : y0 = 260) (hv : VG mv) (ho : VOo mv) (h : RIv σ y0 mv kv img tp n fl) {a1 a2 : Int32}
    (h0 : ∀ k1 k2, k1 < mv 4 → k2 < 96 → a1 = J k1 → a2 = J k2 → ∀ τ, RIv τ y0 mv kv img tp n fl → FRf σ τ → sI τ y0 0 = J 0 → Q (.inl (some (.int ((lkF mv (stO mv k1)) (k2 + 1) / J (mv 9))))) τ) (h1 : ¬ (IX a1 (mv 4) ∧ IX a2 (96)) → ∀ τ v, RIv τ y0 mv kv img tp n fl → FRf σ τ → sI τ y0 0 = J 1 → Q (.inl (some (.int v))) τ) : WP gT (d + 5) B 214 0 [.ref y0, .int a1, .int a2] [] σ Q := by
  have hs := hv.s
  have ho1 := ho.s
  by_cases c : IX a1 (mv 4) ∧ IX a2 (96)
  · obtain ⟨⟨k1, hk1, rfl⟩, ⟨k2, hk2, rfl⟩⟩ := c
    have t1 : ¬ f_167 σ y0 (J k1) = J 0 := fun e => (r167 h.2.1 ho).mp e ⟨k1, hk1, rfl⟩
    have t2 : ¬ f_163 σ (J k2) = J 0 := fun e => (r163).mp e ⟨k2, hk2, rfl⟩
    have h0 := h0 k1 k2 hk1 hk2 rfl rfl
    refine g_214_0 h.1 (fun u hu => ?_)
    rw [if_neg t1, if_neg t2] at hu
    subst hu
    refine ⟨fun _ => ?_, fun e => absurd ret0 e⟩
    refine r_run hy hv ho h.thr hk1 (fun τ h2 hF ht hD hf hn hm => ?_)
    dsimp only [oV]
    have h0 := h0 τ h2 ((FRf.th hy).tr hF) (ht.trans sI_same)
    simp (disch := omega) only [J_add, J_mul, J_sub, J_cl, J_lt, J_le, J_eq, vp_J, n1_ne, n1_lt, n1_le, n1_nlt, n1_nle, h2.2.1.at, hD.2.1]
    exact ⟨h2.1, (by omega), (by omega), h0⟩
  · refine g_214_0 h.1 (fun u hu => ?_)
    have hu1 : u = J 1 := by
      rw [hu]
      by_cases q1 : f_167 σ y0 a1 = J 0
      · rw [if_pos q1]
      rw [if_neg q1]
      by_cases q2 : f_163 σ a2 = J 0
      · rw [if_pos q2]
      rw [if_neg q2]
      exact absurd ⟨Classical.not_not.mp (fun e => q1 ((r167 h.2.1 ho).mpr e)), Classical.not_not.mp (fun e => q2 ((r163).mpr e))⟩ c
    subst hu1
    exact ⟨fun e => absurd e ret1, fun _ => h1 c _ _ h.thr (FRf.th hy) sI_same⟩
theorem cc_depth (h : CIv σ x0 mv kv img tp n fl) (hB : 16 ≤ B.1 ∧ 1000 ≤ B.2) {a1 a2 a3 : Int32}
    (h0 : ∀ k1 k2 k3, k1 < mv 4 → k2 < mv 2 → k3 < 96 → a1 = J k1 → a2 = J k2 → a3 = J k3 → ∀ τ, CIv τ x0 mv kv img tp n fl → FCl σ τ → Q (.inl (some (.int ((dpF mv (stO mv k1) 0) (k3 + 1) k2)))) τ) (h1 : ¬ (IX a1 (mv 4) ∧ IX a2 (mv 2) ∧ IX a3 (96)) → Q (.inr 0) σ) : WP gT (d + 18) B 107 0 [.ref x0, .int a1, .int a2, .int a3] [] σ Q := by
  have hx := h.x
  have hv := h.mv_.1
  have ho := h.mv_.2.1
  have hs := hv.s
  have ho1 := ho.s
  refine g_107_0 h.sh hB ⟨fun c1 => ⟨fun c2 => ⟨fun c3 => ?_, fun c3 => h1 (fun k => c3 (gQ.mpr k.2.2))⟩, fun c2 => h1 (fun k => c2 (h.gR.mpr k.2.1))⟩, fun c1 => h1 (fun k => c1 (h.gO.mpr k.1))⟩
  obtain ⟨k1, hk1, rfl⟩ := h.gO.mp c1
  obtain ⟨k2, hk2, rfl⟩ := h.gR.mp c2
  obtain ⟨k3, hk3, rfl⟩ := gQ.mp c3
  have h0 := h0 k1 k2 k3 hk1 hk2 hk3 rfl rfl rfl
  refine c_floodOf h hk1 (fun τ h2 hF hS hC hf => ?_)
  dsimp only [oR]
  have h0 := h0 τ h2 hF
  simp (disch := omega) only [J_add, J_mul, J_sub, J_cl, J_lt, J_le, J_eq, vp_J, n1_ne, n1_lt, n1_le, n1_nlt, n1_nle]
  refine ⟨sub_11_98_3 hS, (by omega), (by omega), ?_⟩
  rw [(hC.2 k3 hk3).2 k2 hk2]; exact h0
theorem rr_depth (hy : y0 = 260) (hv : VG mv) (ho : VOo mv) (h : RIv σ y0 mv kv img tp n fl) {a1 a2 a3 : Int32}
    (h0 : ∀ k1 k2 k3, k1 < mv 4 → k2 < mv 2 → k3 < 96 → a1 = J k1 → a2 = J k2 → a3 = J k3 → ∀ τ, RIv τ y0 mv kv img tp n fl → FRf σ τ → sI τ y0 0 = J 0 → Q (.inl (some (.int ((dpF mv (stO mv k1) 0) (k3 + 1) k2)))) τ) (h1 : ¬ (IX a1 (mv 4) ∧ IX a2 (mv 2) ∧ IX a3 (96)) → ∀ τ v, RIv τ y0 mv kv img tp n fl → FRf σ τ → sI τ y0 0 = J 1 → Q (.inl (some (.int v))) τ) : WP gT (d + 5) B 215 0 [.ref y0, .int a1, .int a2, .int a3] [] σ Q := by
  have hs := hv.s
  have ho1 := ho.s
  by_cases c : IX a1 (mv 4) ∧ IX a2 (mv 2) ∧ IX a3 (96)
  · obtain ⟨⟨k1, hk1, rfl⟩, ⟨k2, hk2, rfl⟩, ⟨k3, hk3, rfl⟩⟩ := c
    have t1 : ¬ f_167 σ y0 (J k1) = J 0 := fun e => (r167 h.2.1 ho).mp e ⟨k1, hk1, rfl⟩
    have t2 : ¬ f_165 σ y0 (J k2) = J 0 := fun e => (r165 h.2.1 hv).mp e ⟨k2, hk2, rfl⟩
    have t3 : ¬ f_163 σ (J k3) = J 0 := fun e => (r163).mp e ⟨k3, hk3, rfl⟩
    have h0 := h0 k1 k2 k3 hk1 hk2 hk3 rfl rfl rfl
    refine g_215_0 h.1 (fun u hu => ?_)
    rw [if_neg t1, if_neg t2, if_neg t3] at hu
    subst hu
    refine ⟨fun _ => ?_, fun e => absurd ret0 e⟩
    refine r_run hy hv ho h.thr hk1 (fun τ h2 hF ht hD hf hn hm => ?_)
    dsimp only [oV]
    have h0 := h0 τ h2 ((FRf.th hy).tr hF) (ht.trans sI_same)
    have := hv.r hk2
    rw [J_add, rv_196 hD hv hk2 (by omega), rv_169 h2.2.1 (r := k2) (w := 0) (by omega), show 336 + 5 * k2 + 0 = 336 + 5 * k2 from rfl]
    exact ⟨h2.1, (by simp (disch := omega) only [J_add, J_mul, J_sub, J_cl, vp_J]; omega), (by simp (disch := omega) only [J_add, J_mul, J_sub, J_cl, vp_J]; omega), (by rw [J_eq (by omega) (by omega)]; omega), h0⟩
  · refine g_215_0 h.1 (fun u hu => ?_)
    have hu1 : u = J 1 := by
      rw [hu]
      by_cases q1 : f_167 σ y0 a1 = J 0
      · rw [if_pos q1]
      rw [if_neg q1]
      by_cases q2 : f_165 σ y0 a2 = J 0
      · rw [if_pos q2]
      rw [if_neg q2]
      by_cases q3 : f_163 σ a3 = J 0
      · rw [if_pos q3]
      rw [if_neg q3]
      exact absurd ⟨Classical.not_not.mp (fun e => q1 ((r167 h.2.1 ho).mpr e)), Classical.not_not.mp (fun e => q2 ((r165 h.2.1 hv).mpr e)), Classical.not_not.mp (fun e => q3 ((r163).mpr e))⟩ c
    subst hu1
    exact ⟨fun e => absurd e ret1, fun _ => h1 c _ _ h.thr (FRf.th hy) sI_same⟩
theorem cc_flow (h : CIv σ x0 mv kv img tp n fl) (hB : 16 ≤ B.1 ∧ 1000 ≤ B.2) {a1 a2 a3 : Int32}
    (h0 : ∀ k1 k2, k1 < mv 4 → k2 < 96 → a1 = J k1 → a2 = J k2 → ∀ τ, CIv τ x0 mv kv img tp n fl → FCl σ τ → Q (.inl (some (.int (if a3 = J 0 then ltF mv (stO mv k1) k2 else gnF mv (stO mv k1) 0 (k2 + 1))))) τ) (h1 : ¬ (IX a1 (mv 4) ∧ IX a2 (96)) → Q (.inr 0) σ) : WP gT (d + 18) B 108 0 [.ref x0, .int a1, .int a2, .int a3, .retAddr 0] [] σ Q := by
  have hx := h.x
  have hv := h.mv_.1
  have ho := h.mv_.2.1
  have hs := hv.s
  have ho1 := ho.s
  refine g_108_0 h.sh hB ⟨fun c1 => ⟨fun c2 => ?_, fun c2 => h1 (fun k => c2 (gQ.mpr k.2))⟩, fun c1 => h1 (fun k => c1 (h.gO.mpr k.1))⟩
  obtain ⟨k1, hk1, rfl⟩ := h.gO.mp c1
  obtain ⟨k2, hk2, rfl⟩ := gQ.mp c2
  have h0 := h0 k1 k2 hk1 hk2 rfl rfl
  refine c_floodOf h hk1 (fun τ h2 hF hS hC hf => ?_)
  dsimp only [oR]
  have h0 := h0 τ h2 hF
  refine ⟨sub_11_98_3 hS, ⟨fun _ => ⟨(by simp (disch := omega) only [J_add, J_mul, J_sub, J_cl, vp_J]; omega), trivial⟩, fun _ => ⟨(by simp (disch := omega) only [J_add, J_mul, J_sub, J_cl, vp_J]; omega), trivial⟩⟩, fun u hu => ?_⟩
  rw [J_cl (by omega), (hf k2 hk2).1.2.1, (hf k2 hk2).1.2.2] at hu
  rw [hu]; exact h0
theorem rr_flow (hy : y0 = 260) (hv : VG mv) (ho : VOo mv) (h : RIv σ y0 mv kv img tp n fl) {a1 a2 a3 : Int32}
    (h0 : ∀ k1 k2, k1 < mv 4 → k2 < 96 → a1 = J k1 → a2 = J k2 → ∀ τ, RIv τ y0 mv kv img tp n fl → FRf σ τ → sI τ y0 0 = J 0 → Q (.inl (some (.int (if a3 = J 0 then ltF mv (stO mv k1) k2 else gnF mv (stO mv k1) 0 (k2 + 1))))) τ) (h1 : ¬ (IX a1 (mv 4) ∧ IX a2 (96)) → ∀ τ v, RIv τ y0 mv kv img tp n fl → FRf σ τ → sI τ y0 0 = J 1 → Q (.inl (some (.int v))) τ) : WP gT (d + 5) B 216 0 [.ref y0, .int a1, .int a2, .int a3] [] σ Q := by
  have hs := hv.s
  have ho1 := ho.s
  by_cases c : IX a1 (mv 4) ∧ IX a2 (96)
  · obtain ⟨⟨k1, hk1, rfl⟩, ⟨k2, hk2, rfl⟩⟩ := c
    have t1 : ¬ f_167 σ y0 (J k1) = J 0 := fun e => (r167 h.2.1 ho).mp e ⟨k1, hk1, rfl⟩
    have t2 : ¬ f_163 σ (J k2) = J 0 := fun e => (r163).mp e ⟨k2, hk2, rfl⟩
    have h0 := h0 k1 k2 hk1 hk2 rfl rfl
    refine g_216_0 h.1 (fun u hu => ?_)
    rw [if_neg t1, if_neg t2] at hu
    subst hu
    refine ⟨fun _ => ?_, fun e => absurd ret0 e⟩
    refine r_run hy hv ho h.thr hk1 (fun τ h2 hF ht hD hf hn hm => ?_)
    dsimp only [oV]
    have h0 := h0 τ h2 ((FRf.th hy).tr hF) (ht.trans sI_same)
    refine ⟨h2.1, ⟨fun _ => ⟨(by simp (disch := omega) only [J_add, J_mul, J_sub, J_cl, vp_J]; omega), trivial⟩, fun _ => ⟨(by simp (disch := omega) only [J_add, J_mul, J_sub, J_cl, vp_J]; omega), trivial⟩⟩, fun u hu => ?_⟩
    rw [J_cl (by omega), hf.2.2.1 k2 hk2, hf.2.2.2 k2 hk2] at hu
    rw [hu]; exact h0
  · refine g_216_0 h.1 (fun u hu => ?_)
    have hu1 : u = J 1 := by
      rw [hu]
      by_cases q1 : f_167 σ y0 a1 = J 0
      · rw [if_pos q1]
      rw [if_neg q1]
      by_cases q2 : f_163 σ a2 = J 0
      · rw [if_pos q2]
      rw [if_neg q2]
      exact absurd ⟨Classical.not_not.mp (fun e => q1 ((r167 h.2.1 ho).mpr e)), Classical.not_not.mp (fun e => q2 ((r163).mpr e))⟩ c
    subst hu1
    exact ⟨fun e => absurd e ret1, fun _ => h1 c _ _ h.thr (FRf.th hy) sI_same⟩
theorem cc_wet (h : CIv σ x0 mv kv img tp n fl) (hB : 16 ≤ B.1 ∧ 1000 ≤ B.2) {a1 a2 a3 : Int32}
    (h0 : ∀ k1 k2 k3, k1 < mv 4 → k2 < mv 3 → k3 < 96 → a1 = J k1 → a2 = J k2 → a3 = J k3 → ∀ τ, CIv τ x0 mv kv img tp n fl → FCl σ τ → Q (.inl (some (.int (if wetB mv (dpF mv (stO mv k1) 0) k2 k3 = true then J 1 else J 0)))) τ) (h1 : ¬ (IX a1 (mv 4) ∧ IX a2 (mv 3) ∧ IX a3 (96)) → Q (.inr 0) σ) : WP gT (d + 18) B 110 0 [.ref x0, .int a1, .int a2, .int a3] [] σ Q := by
  have hx := h.x
  have hv := h.mv_.1
  have ho := h.mv_.2.1
  have hs := hv.s
  have ho1 := ho.s
  refine g_110_0 h.sh hB ⟨fun c1 => ⟨fun c2 => ⟨fun c3 => ?_, fun c3 => h1 (fun k => c3 (gQ.mpr k.2.2))⟩, fun c2 => h1 (fun k => c2 (h.gP.mpr k.2.1))⟩, fun c1 => h1 (fun k => c1 (h.gO.mpr k.1))⟩
  obtain ⟨k1, hk1, rfl⟩ := h.gO.mp c1
  obtain ⟨k2, hk2, rfl⟩ := h.gP.mp c2
  obtain ⟨k3, hk3, rfl⟩ := gQ.mp c3
  have h0 := h0 k1 k2 k3 hk1 hk2 hk3 rfl rfl rfl
  refine c_floodOf h hk1 (fun τ h2 hF hS hC hf => ?_)
  dsimp only [oR]
  have h0 := h0 τ h2 hF
  have hp := hv.p hk2
  have hg := h2.G.p hk2
  refine ⟨hS, sub_11_98_3 hS, (by simp (disch := omega) only [J_add, J_mul, J_sub, J_cl, vp_J]; omega), ?_, (by simp (disch := omega) only [J_add, J_mul, J_sub, J_cl, vp_J]; omega), ?_⟩
  · rw [J_cl (by omega), hg.1]; exact (by simp (disch := omega) only [J_add, J_mul, J_sub, J_cl, vp_J]; omega)
  · rw [cv_32 hC h2.G hv hk2 hk3]; exact h0
theorem rr_wet (hy : y0 = 260) (hv : VG mv) (ho : VOo mv) (h : RIv σ y0 mv kv img tp n fl) {a1 a2 a3 : Int32}
    (h0 : ∀ k1 k2 k3, k1 < mv 4 → k2 < mv 3 → k3 < 96 → a1 = J k1 → a2 = J k2 → a3 = J k3 → ∀ τ, RIv τ y0 mv kv img tp n fl → FRf σ τ → sI τ y0 0 = J 0 → Q (.inl (some (.int (if wetB mv (dpF mv (stO mv k1) 0) k2 k3 = true then J 1 else J 0)))) τ) (h1 : ¬ (IX a1 (mv 4) ∧ IX a2 (mv 3) ∧ IX a3 (96)) → ∀ τ v, RIv τ y0 mv kv img tp n fl → FRf σ τ → sI τ y0 0 = J 1 → Q (.inl (some (.int v))) τ) : WP gT (d + 5) B 218 0 [.ref y0, .int a1, .int a2, .int a3] [] σ Q := by
  have hs := hv.s
  have ho1 := ho.s
  by_cases c : IX a1 (mv 4) ∧ IX a2 (mv 3) ∧ IX a3 (96)
  · obtain ⟨⟨k1, hk1, rfl⟩, ⟨k2, hk2, rfl⟩, ⟨k3, hk3, rfl⟩⟩ := c
    have t1 : ¬ f_167 σ y0 (J k1) = J 0 := fun e => (r167 h.2.1 ho).mp e ⟨k1, hk1, rfl⟩
    have t2 : ¬ f_166 σ y0 (J k2) = J 0 := fun e => (r166 h.2.1 hv).mp e ⟨k2, hk2, rfl⟩
    have t3 : ¬ f_163 σ (J k3) = J 0 := fun e => (r163).mp e ⟨k3, hk3, rfl⟩
    have h0 := h0 k1 k2 k3 hk1 hk2 hk3 rfl rfl rfl
    refine g_218_0 h.1 (fun u hu => ?_)
    rw [if_neg t1, if_neg t2, if_neg t3] at hu
    subst hu
    refine ⟨fun _ => ?_, fun e => absurd ret0 e⟩
    refine r_run hy hv ho h.thr hk1 (fun τ h2 hF ht hD hf hn hm => ?_)
    dsimp only [oV]
    have h0 := h0 τ h2 ((FRf.th hy).tr hF) (ht.trans sI_same)
    have hp := hv.p hk2
    have := hv.r hp.1
    rw [rv_203 hD hv hk2 hk3, rv_170 h2.2.1 (by omega), Nat.add_zero, rv_169 h2.2.1 (by omega), Nat.add_zero]
    exact ⟨h2.1, (by simp (disch := omega) only [J_add, J_mul, J_sub, J_cl, vp_J]; omega), (by simp (disch := omega) only [J_add, J_mul, J_sub, J_cl, vp_J]; omega), (by simp (disch := omega) only [J_add, J_mul, J_sub, J_cl, vp_J]; omega), (by rw [J_eq (by omega) (by omega)]; omega), (by simp (disch := omega) only [J_add, J_mul, J_sub, J_cl, vp_J]; omega), h0⟩
  · refine g_218_0 h.1 (fun u hu => ?_)
    have hu1 : u = J 1 := by
      rw [hu]
      by_cases q1 : f_167 σ y0 a1 = J 0
      · rw [if_pos q1]
      rw [if_neg q1]
      by_cases q2 : f_166 σ y0 a2 = J 0
      · rw [if_pos q2]
      rw [if_neg q2]
      by_cases q3 : f_163 σ a3 = J 0
      · rw [if_pos q3]
      rw [if_neg q3]
      exact absurd ⟨Classical.not_not.mp (fun e => q1 ((r167 h.2.1 ho).mpr e)), Classical.not_not.mp (fun e => q2 ((r166 h.2.1 hv).mpr e)), Classical.not_not.mp (fun e => q3 ((r163).mpr e))⟩ c
    subst hu1
    exact ⟨fun e => absurd e ret1, fun _ => h1 c _ _ h.thr (FRf.th hy) sI_same⟩
theorem cc_harm (h : CIv σ x0 mv kv img tp n fl) (hB : 16 ≤ B.1 ∧ 1000 ≤ B.2) {a1 : Int32}
    (h0 : ∀ k1, k1 < mv 4 → a1 = J k1 → ∀ τ, CIv τ x0 mv kv img tp n fl → FCl σ τ → Q (.inl (some (.int (J (hrm mv (dpF mv (stO mv k1) 0) (mv 3)))))) τ) (h1 : ¬ (IX a1 (mv 4)) → Q (.inr 0) σ) : WP gT (d + 18) B 111 0 [.ref x0, .int a1] [] σ Q := by
  have hx := h.x
  have hv := h.mv_.1
  have ho := h.mv_.2.1
  have hs := hv.s
  have ho1 := ho.s
  refine g_111_0 h.sh hB ⟨fun c1 => ?_, fun c1 => h1 (fun k => c1 (h.gO.mpr k))⟩
  obtain ⟨k1, hk1, rfl⟩ := h.gO.mp c1
  have h0 := h0 k1 hk1 rfl
  refine c_floodOf h hk1 (fun τ h2 hF hS hC hf => ?_)
  dsimp only [oR]
  have h0 := h0 τ h2 hF
  exact ⟨hS, sub_11_98_3 hS, c_harm (sub_11_98_3 hS) (sub_11_25_4 hS) hC h2.G hv h0⟩
theorem rr_harm (hy : y0 = 260) (hv : VG mv) (ho : VOo mv) (h : RIv σ y0 mv kv img tp n fl) {a1 : Int32}
    (h0 : ∀ k1, k1 < mv 4 → a1 = J k1 → ∀ τ, RIv τ y0 mv kv img tp n fl → FRf σ τ → sI τ y0 0 = J 0 → Q (.inl (some (.int (J (hrm mv (dpF mv (stO mv k1) 0) (mv 3)))))) τ) (h1 : ¬ (IX a1 (mv 4)) → ∀ τ v, RIv τ y0 mv kv img tp n fl → FRf σ τ → sI τ y0 0 = J 1 → Q (.inl (some (.int v))) τ) : WP gT (d + 5) B 221 0 [.ref y0, .int a1] [] σ Q := by
  have hs := hv.s
  have ho1 := ho.s
  by_cases c : IX a1 (mv 4)
  · obtain ⟨k1, hk1, rfl⟩ := c
    have t1 : ¬ f_167 σ y0 (J k1) = J 0 := fun e => (r167 h.2.1 ho).mp e ⟨k1, hk1, rfl⟩
    have h0 := h0 k1 hk1 rfl
    refine g_221_0 h.1 ?_
    simp only [if_neg t1]
    refine ⟨fun _ => ?_, fun e => absurd ret0 e⟩
    refine r_run hy hv ho h.thr hk1 (fun τ h2 hF ht hD hf hn hm => ?_)
    dsimp only [oV]
    have h0 := h0 τ h2 ((FRf.th hy).tr hF) (ht.trans sI_same)
    exact ⟨h2.1, r_harmNow h2.1 hD hv h0⟩
  · refine g_221_0 h.1 ?_
    have hu1 : (if (f_167 σ y0 a1) = (J 0) then (J 1) else (J 0)) = J 1 := by
      by_cases q1 : f_167 σ y0 a1 = J 0
      · rw [if_pos q1]
      rw [if_neg q1]
      exact absurd (Classical.not_not.mp (fun e => q1 ((r167 h.2.1 ho).mpr e))) c
    rw [hu1]
    exact ⟨fun e => absurd e ret1, fun _ => h1 c _ _ h.thr (FRf.th hy) sI_same⟩
theorem cc_down (h : CIv σ x0 mv kv img tp n fl) (hB : 16 ≤ B.1 ∧ 1000 ≤ B.2) {a1 : Int32}
    (h0 : ∀ k1, k1 < mv 4 → a1 = J k1 → ∀ τ, CIv τ x0 mv kv img tp n fl → FCl σ τ → Q (.inl (some (.int (oJ (fstB (fun q => !decide (J (mv 11) < (lkF mv (stO mv k1)) (q + 1) / J (mv 9))) 0 96))))) τ) (h1 : ¬ (IX a1 (mv 4)) → Q (.inr 0) σ) : WP gT (d + 18) B 112 0 [.ref x0, .int a1, .retAddr 0, .retAddr 0] [] σ Q := by
  have hx := h.x
  have hv := h.mv_.1
  have ho := h.mv_.2.1
  have hs := hv.s
  have ho1 := ho.s
  refine g_112_0 h.sh hB ⟨fun c1 => ?_, fun c1 => h1 (fun k => c1 (h.gO.mpr k))⟩
  obtain ⟨k1, hk1, rfl⟩ := h.gO.mp c1
  have h0 := h0 k1 hk1 rfl
  refine c_floodOf h hk1 (fun τ h2 hF hS hC hf => ?_)
  dsimp only [oR]
  have h0 := h0 τ h2 hF
  refine fst_loop (W := fun q => WP gT (d + 18) (B.1 - 1, B.2 - 6) 112 13 [.ref x0, .int (J k1), .ref (x0 + 98), .int (J q)] [] τ Q) (R := fun o => Q (.inl (some (.int (oJ o)))) τ) (b := fun q => !decide (J (mv 11) < (lkF mv (stO mv k1)) (q + 1) / J (mv 9))) 96 0 (fun q hq1 hq2 hf hn => ?_) (fun hR => ?_) h0
  · refine g_112_13 hS (sub_11_98_3 hS) ⟨fun e => ?_, fun _ => ⟨⟨fun _ => ⟨(by simp (disch := omega) only [J_add, J_mul, J_sub, J_cl, vp_J]; omega), fun _ => ⟨h2.ar, trivial⟩, trivial⟩, fun _ => ⟨fun _ => ⟨h2.ar, trivial⟩, trivial⟩⟩, ?_⟩⟩
    · exfalso; simp (disch := omega) only [J_add, J_mul, J_sub, J_cl, J_lt, J_le, J_eq, vp_J, n1_ne, n1_lt, n1_le, n1_nlt, n1_nle] at e; omega
    · rw [cv_28 hC h2.G hv (by omega), h2.G.s.2.2.1, J_add]
      exact ⟨fun e => hn (by simp only [e, decide_true, Bool.not_true]), fun e => hf (by simp only [e, decide_false, Bool.not_false])⟩
  · refine g_112_13 hS (sub_11_98_3 hS) ⟨fun _ => hR, fun e => ?_⟩
    exfalso; simp (disch := omega) only [J_add, J_mul, J_sub, J_cl, J_lt, J_le, J_eq, vp_J, n1_ne, n1_lt, n1_le, n1_nlt, n1_nle] at e; omega
theorem rr_down (hy : y0 = 260) (hv : VG mv) (ho : VOo mv) (h : RIv σ y0 mv kv img tp n fl) {a1 : Int32}
    (h0 : ∀ k1, k1 < mv 4 → a1 = J k1 → ∀ τ, RIv τ y0 mv kv img tp n fl → FRf σ τ → sI τ y0 0 = J 0 → Q (.inl (some (.int (oJ (fstB (fun q => !decide (J (mv 11) < (lkF mv (stO mv k1)) (q + 1) / J (mv 9))) 0 96))))) τ) (h1 : ¬ (IX a1 (mv 4)) → ∀ τ v, RIv τ y0 mv kv img tp n fl → FRf σ τ → sI τ y0 0 = J 1 → Q (.inl (some (.int v))) τ) : WP gT (d + 5) B 222 0 [.ref y0, .int a1, .retAddr 0] [] σ Q := by
  have hs := hv.s
  have ho1 := ho.s
  by_cases c : IX a1 (mv 4)
  · obtain ⟨k1, hk1, rfl⟩ := c
    have t1 : ¬ f_167 σ y0 (J k1) = J 0 := fun e => (r167 h.2.1 ho).mp e ⟨k1, hk1, rfl⟩
    have h0 := h0 k1 hk1 rfl
    refine g_222_0 h.1 ?_
    simp only [if_neg t1]
    refine ⟨fun _ => ?_, fun e => absurd ret0 e⟩
    refine r_run hy hv ho h.thr hk1 (fun τ h2 hF ht hD hf hn hm => ?_)
    dsimp only [oV]
    have h0 := h0 τ h2 ((FRf.th hy).tr hF) (ht.trans sI_same)
    refine fst_loop (W := fun q => WP gT (d + 5) B 222 33 [.ref y0, .int (J k1), .int (J q)] [] τ Q) (R := fun o => Q (.inl (some (.int (oJ o)))) τ) (b := fun q => !decide (J (mv 11) < (lkF mv (stO mv k1)) (q + 1) / J (mv 9))) 96 0 (fun q hq1 hq2 hf hn => ?_) (fun hR => ?_) h0
    · refine g_222_33 h2.1 ⟨fun e => ?_, fun _ => ?_⟩
      · exfalso; simp (disch := omega) only [J_add, J_mul, J_sub, J_cl, J_lt, J_le, J_eq, vp_J, n1_ne, n1_lt, n1_le, n1_nlt, n1_nle] at e; omega
      · simp (disch := omega) only [h2.2.1.at]
        simp (disch := omega) only [J_add, J_mul, J_sub, J_cl, J_lt, J_le, J_eq, vp_J, n1_ne, n1_lt, n1_le, n1_nlt, n1_nle, hD.2.1]
        exact ⟨(by omega), (by omega), fun e => hn (by simp only [e, decide_true, Bool.not_true]), fun e => hf (by simp only [e, decide_false, Bool.not_false])⟩
    · refine g_222_33 h2.1 ⟨fun _ => hR, fun e => ?_⟩
      exfalso; simp (disch := omega) only [J_add, J_mul, J_sub, J_cl, J_lt, J_le, J_eq, vp_J, n1_ne, n1_lt, n1_le, n1_nlt, n1_nle] at e; omega
  · refine g_222_0 h.1 ?_
    have hu1 : (if (f_167 σ y0 a1) = (J 0) then (J 1) else (J 0)) = J 1 := by
      by_cases q1 : f_167 σ y0 a1 = J 0
      · rw [if_pos q1]
      rw [if_neg q1]
      exact absurd (Classical.not_not.mp (fun e => q1 ((r167 h.2.1 ho).mpr e))) c
    rw [hu1]
    exact ⟨fun e => absurd e ret1, fun _ => h1 c _ _ h.thr (FRf.th hy) sI_same⟩
theorem cc_latest (h : CIv σ x0 mv kv img tp n fl) (hB : 16 ≤ B.1 ∧ 1000 ≤ B.2) {a1 a2 : Int32}
    (h0 : ∀ k1 k2, k1 < mv 4 → k2 < mv 3 → a1 = J k1 → a2 = J k2 → ∀ τ, CIv τ x0 mv kv img tp n fl → FCl σ τ → Q (.inl (some (.int (if fstB (wetB mv (dpF mv (stO mv k1) 0) k2) 0 96 = none then J 99 else oJ (fstB (wetB mv (dpF mv (stO mv k1) 0) k2) 0 96) - J (mv (376 + 4 * k2 + 2)))))) τ) (h1 : ¬ (IX a1 (mv 4) ∧ IX a2 (mv 3)) → Q (.inr 0) σ) : WP gT (d + 18) B 113 0 [.ref x0, .int a1, .int a2, .retAddr 0] [] σ Q := by
  have hx := h.x
  have hv := h.mv_.1
  have ho := h.mv_.2.1
  have hs := hv.s
  have ho1 := ho.s
  refine g_113_0 h.sh hB ⟨fun c1 => ⟨fun c2 => ?_, fun c2 => h1 (fun k => c2 (h.gP.mpr k.2))⟩, fun c1 => h1 (fun k => c1 (h.gO.mpr k.1))⟩
  obtain ⟨k1, hk1, rfl⟩ := h.gO.mp c1
  obtain ⟨k2, hk2, rfl⟩ := h.gP.mp c2
  have h0 := h0 k1 k2 hk1 hk2 rfl rfl
  refine c_floodOf h hk1 (fun τ h2 hF hS hC hf => ?_)
  dsimp only [oR]
  have h0 := h0 τ h2 hF
  refine ⟨hS, sub_11_98_3 hS, c_firstWet (sub_11_98_3 hS) (sub_11_25_4 hS) hC h2.G hv hk2 (by omega) (by omega) ⟨hS, fun _ => ⟨(by simp (disch := omega) only [J_add, J_mul, J_sub, J_cl, vp_J]; omega), trivial⟩, fun u hu => ?_⟩⟩
  have hg := h2.G.p hk2
  rw [J_cl (by omega), show x0 + 39 = x0 + 25 + 14 by omega, hg.2.2.1] at hu
  simp only [oJ_none (o := fstB (wetB mv (dpF mv (stO mv k1) 0) k2) 0 (95 + 1 - 0)) (fun q hq => by have := fstB_some hq; omega)] at hu
  rw [hu]; exact h0
theorem rr_latest (hy : y0 = 260) (hv : VG mv) (ho : VOo mv) (h : RIv σ y0 mv kv img tp n fl) {a1 a2 : Int32}
    (h0 : ∀ k1 k2, k1 < mv 4 → k2 < mv 3 → a1 = J k1 → a2 = J k2 → ∀ τ, RIv τ y0 mv kv img tp n fl → FRf σ τ → sI τ y0 0 = J 0 → Q (.inl (some (.int (if fstB (wetB mv (dpF mv (stO mv k1) 0) k2) 0 96 = none then J 99 else oJ (fstB (wetB mv (dpF mv (stO mv k1) 0) k2) 0 96) - J (mv (376 + 4 * k2 + 2)))))) τ) (h1 : ¬ (IX a1 (mv 4) ∧ IX a2 (mv 3)) → ∀ τ v, RIv τ y0 mv kv img tp n fl → FRf σ τ → sI τ y0 0 = J 1 → Q (.inl (some (.int v))) τ) : WP gT (d + 5) B 223 0 [.ref y0, .int a1, .int a2, .retAddr 0] [] σ Q := by
  have hs := hv.s
  have ho1 := ho.s
  by_cases c : IX a1 (mv 4) ∧ IX a2 (mv 3)
  · obtain ⟨⟨k1, hk1, rfl⟩, ⟨k2, hk2, rfl⟩⟩ := c
    have t1 : ¬ f_167 σ y0 (J k1) = J 0 := fun e => (r167 h.2.1 ho).mp e ⟨k1, hk1, rfl⟩
    have t2 : ¬ f_166 σ y0 (J k2) = J 0 := fun e => (r166 h.2.1 hv).mp e ⟨k2, hk2, rfl⟩
    have h0 := h0 k1 k2 hk1 hk2 rfl rfl
    refine g_223_0 h.1 (fun u hu => ?_)
    rw [if_neg t1, if_neg t2] at hu
    subst hu
    refine ⟨fun _ => ?_, fun e => absurd ret0 e⟩
    refine r_run hy hv ho h.thr hk1 (fun τ h2 hF ht hD hf hn hm => ?_)
    dsimp only [oV]
    have h0 := h0 τ h2 ((FRf.th hy).tr hF) (ht.trans sI_same)
    refine ⟨h2.1, r_firstWet h2.1 hD hv hk2 (by omega) (by omega) ⟨h2.1, fun _ => ⟨(by simp (disch := omega) only [J_add, J_mul, J_sub, J_cl, vp_J]; omega), trivial⟩, ?_⟩⟩
    simp only [oJ_none (o := fstB (wetB mv (dpF mv (stO mv k1) 0) k2) 0 (95 + 1 - 0)) (fun q hq => by have := fstB_some hq; omega)]
    rw [rv_170 h2.2.1 (by omega)]
    exact h0
  · refine g_223_0 h.1 (fun u hu => ?_)
    have hu1 : u = J 1 := by
      rw [hu]
      by_cases q1 : f_167 σ y0 a1 = J 0
      · rw [if_pos q1]
      rw [if_neg q1]
      by_cases q2 : f_166 σ y0 a2 = J 0
      · rw [if_pos q2]
      rw [if_neg q2]
      exact absurd ⟨Classical.not_not.mp (fun e => q1 ((r167 h.2.1 ho).mpr e)), Classical.not_not.mp (fun e => q2 ((r166 h.2.1 hv).mpr e))⟩ c
    subst hu1
    exact ⟨fun e => absurd e ret1, fun _ => h1 c _ _ h.thr (FRf.th hy) sI_same⟩
theorem cc_caught (h : CIv σ x0 mv kv img tp n fl) (hB : 16 ≤ B.1 ∧ 1000 ≤ B.2) {a1 a2 : Int32}
    (h0 : ∀ k1 k2, k1 < mv 4 → k2 < mv 5 → a1 = J k1 → a2 = J k2 → ∀ τ, CIv τ x0 mv kv img tp n fl → FCl σ τ → Q (.inl (some (.int (oJ (cau mv (dpF mv (stO mv k1) 0) k2))))) τ) (h1 : ¬ (IX a1 (mv 4) ∧ IX a2 (mv 5)) → Q (.inr 0) σ) : WP gT (d + 18) B 117 0 [.ref x0, .int a1, .int a2] [] σ Q := by
  have hx := h.x
  have hv := h.mv_.1
  have ho := h.mv_.2.1
  have hs := hv.s
  have ho1 := ho.s
  refine g_117_0 h.sh hB ⟨fun c1 => ⟨fun c2 => ?_, fun c2 => h1 (fun k => c2 (h.gK.mpr k.2))⟩, fun c1 => h1 (fun k => c1 (h.gO.mpr k.1))⟩
  obtain ⟨k1, hk1, rfl⟩ := h.gO.mp c1
  obtain ⟨k2, hk2, rfl⟩ := h.gK.mp c2
  have h0 := h0 k1 k2 hk1 hk2 rfl rfl
  refine c_dangerOf h hk1 (fun τ h2 hF hS hC hR => ?_)
  dsimp only [oR]
  have h0 := h0 τ h2 hF
  refine ⟨sub_11_120_1 hS, (by simp (disch := omega) only [J_add, J_mul, J_sub, J_cl, vp_J]; omega), ?_⟩
  rw [J_cl (by omega), (hR k2 hk2).1]; exact h0
theorem rr_caught (hy : y0 = 260) (hv : VG mv) (ho : VOo mv) (h : RIv σ y0 mv kv img tp n fl) {a1 a2 : Int32}
    (h0 : ∀ k1 k2, k1 < mv 4 → k2 < mv 5 → a1 = J k1 → a2 = J k2 → ∀ τ, RIv τ y0 mv kv img tp n fl → FRf σ τ → sI τ y0 0 = J 0 → Q (.inl (some (.int (oJ (cau mv (dpF mv (stO mv k1) 0) k2))))) τ) (h1 : ¬ (IX a1 (mv 4) ∧ IX a2 (mv 5)) → ∀ τ v, RIv τ y0 mv kv img tp n fl → FRf σ τ → sI τ y0 0 = J 1 → Q (.inl (some (.int v))) τ) : WP gT (d + 5) B 235 0 [.ref y0, .int a1, .int a2] [] σ Q := by
  have hs := hv.s
  have ho1 := ho.s
  by_cases c : IX a1 (mv 4) ∧ IX a2 (mv 5)
  · obtain ⟨⟨k1, hk1, rfl⟩, ⟨k2, hk2, rfl⟩⟩ := c
    have t1 : ¬ f_167 σ y0 (J k1) = J 0 := fun e => (r167 h.2.1 ho).mp e ⟨k1, hk1, rfl⟩
    have t2 : ¬ f_168 σ y0 (J k2) = J 0 := fun e => (r168 h.2.1 ho).mp e ⟨k2, hk2, rfl⟩
    have h0 := h0 k1 k2 hk1 hk2 rfl rfl
    refine g_235_0 h.1 (fun u hu => ?_)
    rw [if_neg t1, if_neg t2] at hu
    subst hu
    refine ⟨fun _ => ?_, fun e => absurd ret0 e⟩
    refine r_run hy hv ho h.thr hk1 (fun τ h2 hF ht hD hf hn hm => ?_)
    dsimp only [oV]
    have h0 := h0 τ h2 ((FRf.th hy).tr hF) (ht.trans sI_same)
    exact ⟨h2.1, r_caughtNow h2.1 hD hv ho hk2 h0⟩
  · refine g_235_0 h.1 (fun u hu => ?_)
    have hu1 : u = J 1 := by
      rw [hu]
      by_cases q1 : f_167 σ y0 a1 = J 0
      · rw [if_pos q1]
      rw [if_neg q1]
      by_cases q2 : f_168 σ y0 a2 = J 0
      · rw [if_pos q2]
      rw [if_neg q2]
      exact absurd ⟨Classical.not_not.mp (fun e => q1 ((r167 h.2.1 ho).mpr e)), Classical.not_not.mp (fun e => q2 ((r168 h.2.1 ho).mpr e))⟩ c
    subst hu1
    exact ⟨fun e => absurd e ret1, fun _ => h1 c _ _ h.thr (FRf.th hy) sI_same⟩
theorem cc_odds (h : CIv σ x0 mv kv img tp n fl) (hB : 16 ≤ B.1 ∧ 1000 ≤ B.2) {a1 a2 : Int32}
    (h0 : ∀ k1 k2, k1 < mv 4 → k2 < mv 5 → a1 = J k1 → a2 = J k2 → ∀ τ, CIv τ x0 mv kv img tp n fl → FCl σ τ → Q (.inl (some (.long (N64 (odd mv (dpF mv (stO mv k1) 0) (cpM mv) (caM mv) (mv 6) k2))))) τ) (h1 : ¬ (IX a1 (mv 4) ∧ IX a2 (mv 5)) → Q (.inr 0) σ) : WP gT (d + 18) B 118 0 [.ref x0, .int a1, .int a2] [] σ Q := by
  have hx := h.x
  have hv := h.mv_.1
  have ho := h.mv_.2.1
  have hs := hv.s
  have ho1 := ho.s
  refine g_118_0 h.sh hB ⟨fun c1 => ⟨fun c2 => ?_, fun c2 => h1 (fun k => c2 (h.gK.mpr k.2))⟩, fun c1 => h1 (fun k => c1 (h.gO.mpr k.1))⟩
  obtain ⟨k1, hk1, rfl⟩ := h.gO.mp c1
  obtain ⟨k2, hk2, rfl⟩ := h.gK.mp c2
  have h0 := h0 k1 k2 hk1 hk2 rfl rfl
  refine c_dangerOf h hk1 (fun τ h2 hF hS hC hR => ?_)
  dsimp only [oR]
  have h0 := h0 τ h2 hF
  exact ⟨hS, sub_11_120_1 hS, c_oddsWith (m := fun _ => 0) (sub_11_120_1 hS) (sub_11_48_6 hS) h2.Pp ho hk2 (hR k2 hk2) (fun c _ => ⟨rfl, Nat.le_trans (cin_le _) (ho.c4 _)⟩) h0⟩
theorem rr_odds (hy : y0 = 260) (hv : VG mv) (ho : VOo mv) (h : RIv σ y0 mv kv img tp n fl) {a1 a2 : Int32}
    (h0 : ∀ k1 k2, k1 < mv 4 → k2 < mv 5 → a1 = J k1 → a2 = J k2 → ∀ τ, RIv τ y0 mv kv img tp n fl → FRf σ τ → sI τ y0 0 = J 0 → Q (.inl (some (.long (N64 (odd mv (dpF mv (stO mv k1) 0) (cpM mv) (caM mv) (mv 6) k2))))) τ) (h1 : ¬ (IX a1 (mv 4) ∧ IX a2 (mv 5)) → ∀ τ v, RIv τ y0 mv kv img tp n fl → FRf σ τ → sI τ y0 0 = J 1 → Q (.inl (some (.long v))) τ) : WP gT (d + 6) B 236 0 [.ref y0, .int a1, .int a2] [] σ Q := by
  have hs := hv.s
  have ho1 := ho.s
  by_cases c : IX a1 (mv 4) ∧ IX a2 (mv 5)
  · obtain ⟨⟨k1, hk1, rfl⟩, ⟨k2, hk2, rfl⟩⟩ := c
    have t1 : ¬ f_167 σ y0 (J k1) = J 0 := fun e => (r167 h.2.1 ho).mp e ⟨k1, hk1, rfl⟩
    have t2 : ¬ f_168 σ y0 (J k2) = J 0 := fun e => (r168 h.2.1 ho).mp e ⟨k2, hk2, rfl⟩
    have h0 := h0 k1 k2 hk1 hk2 rfl rfl
    refine g_236_0 h.1 (fun u hu => ?_)
    rw [if_neg t1, if_neg t2] at hu
    subst hu
    refine ⟨fun _ => ?_, fun e => absurd ret0 e⟩
    refine r_run hy hv ho h.thr hk1 (fun τ h2 hF ht hD hf hn hm => ?_)
    dsimp only [oV]
    refine ⟨h2.1, r_laysCalls h2.1 h2.2.1 ho hv (fun ρ hG hc => ?_)⟩
    have h3 := h2.fr hG (fun p j k _ _ => by unfold P228 at k; unfold SRr; omega)
    have hD3 := hD.fr hG (fun i j hi k => by unfold P228 at k; omega)
    have h0 := h0 ρ h3 (((FRf.th hy).tr hF).tr (FRf.of hy hG (fun p j k => by unfold P228 at k; omega))) ((hG.i (by unfold P228; omega)).trans (ht.trans sI_same))
    exact ⟨h3.1, r_oddsNow h3.1 hD3 hv ho hc hk2 h0⟩
  · refine g_236_0 h.1 (fun u hu => ?_)
    have hu1 : u = J 1 := by
      rw [hu]
      by_cases q1 : f_167 σ y0 a1 = J 0
      · rw [if_pos q1]
      rw [if_neg q1]
      by_cases q2 : f_168 σ y0 a2 = J 0
      · rw [if_pos q2]
      rw [if_neg q2]
      exact absurd ⟨Classical.not_not.mp (fun e => q1 ((r167 h.2.1 ho).mpr e)), Classical.not_not.mp (fun e => q2 ((r168 h.2.1 ho).mpr e))⟩ c
    subst hu1
    exact ⟨fun e => absurd e ret1, fun _ => h1 c _ _ h.thr (FRf.th hy) sI_same⟩
theorem cc_fear (h : CIv σ x0 mv kv img tp n fl) (hB : 16 ≤ B.1 ∧ 1000 ≤ B.2) {a1 : Int32}
    (h0 : ∀ k1, k1 < mv 4 → a1 = J k1 → ∀ τ, CIv τ x0 mv kv img tp n fl → FCl σ τ → Q (.inl (some (.long (N64 (fea mv (dpF mv (stO mv k1) 0) (cpM mv) (caM mv) (mv 6) (mv 5)))))) τ) (h1 : ¬ (IX a1 (mv 4)) → Q (.inr 0) σ) : WP gT (d + 18) B 119 0 [.ref x0, .int a1] [] σ Q := by
  have hx := h.x
  have hv := h.mv_.1
  have ho := h.mv_.2.1
  have hs := hv.s
  have ho1 := ho.s
  refine g_119_0 h.sh hB ⟨fun c1 => ?_, fun c1 => h1 (fun k => c1 (h.gO.mpr k))⟩
  obtain ⟨k1, hk1, rfl⟩ := h.gO.mp c1
  have h0 := h0 k1 hk1 rfl
  refine c_dangerOf h hk1 (fun τ h2 hF hS hC hR => ?_)
  dsimp only [oR]
  have h0 := h0 τ h2 hF
  exact ⟨hS, sub_11_120_1 hS, c_fearNow (sub_11_120_1 hS) (sub_11_48_6 hS) h2.Pp ho hR h0⟩
theorem rr_fear (hy : y0 = 260) (hv : VG mv) (ho : VOo mv) (h : RIv σ y0 mv kv img tp n fl) {a1 : Int32}
    (h0 : ∀ k1, k1 < mv 4 → a1 = J k1 → ∀ τ, RIv τ y0 mv kv img tp n fl → FRf σ τ → sI τ y0 0 = J 0 → Q (.inl (some (.long (N64 (fea mv (dpF mv (stO mv k1) 0) (cpM mv) (caM mv) (mv 6) (mv 5)))))) τ) (h1 : ¬ (IX a1 (mv 4)) → ∀ τ v, RIv τ y0 mv kv img tp n fl → FRf σ τ → sI τ y0 0 = J 1 → Q (.inl (some (.long v))) τ) : WP gT (d + 7) B 237 0 [.ref y0, .int a1] [] σ Q := by
  have hs := hv.s
  have ho1 := ho.s
  by_cases c : IX a1 (mv 4)
  · obtain ⟨k1, hk1, rfl⟩ := c
    have t1 : ¬ f_167 σ y0 (J k1) = J 0 := fun e => (r167 h.2.1 ho).mp e ⟨k1, hk1, rfl⟩
    have h0 := h0 k1 hk1 rfl
    refine g_237_0 h.1 ?_
    simp only [if_neg t1]
    refine ⟨fun _ => ?_, fun e => absurd ret0 e⟩
    refine r_run hy hv ho h.thr hk1 (fun τ h2 hF ht hD hf hn hm => ?_)
    dsimp only [oV]
    refine ⟨h2.1, r_laysCalls h2.1 h2.2.1 ho hv (fun ρ hG hc => ?_)⟩
    have h3 := h2.fr hG (fun p j k _ _ => by unfold P228 at k; unfold SRr; omega)
    have hD3 := hD.fr hG (fun i j hi k => by unfold P228 at k; omega)
    have h0 := h0 ρ h3 (((FRf.th hy).tr hF).tr (FRf.of hy hG (fun p j k => by unfold P228 at k; omega))) ((hG.i (by unfold P228; omega)).trans (ht.trans sI_same))
    exact ⟨h3.1, r_fearNow h3.1 hD3 hv ho hc h0⟩
  · refine g_237_0 h.1 ?_
    have hu1 : (if (f_167 σ y0 a1) = (J 0) then (J 1) else (J 0)) = J 1 := by
      by_cases q1 : f_167 σ y0 a1 = J 0
      · rw [if_pos q1]
      rw [if_neg q1]
      exact absurd (Classical.not_not.mp (fun e => q1 ((r167 h.2.1 ho).mpr e))) c
    rw [hu1]
    exact ⟨fun e => absurd e ret1, fun _ => h1 c _ _ h.thr (FRf.th hy) sI_same⟩
theorem cc_judge (h : CIv σ x0 mv kv img tp n fl) (hB : 16 ≤ B.1 ∧ 1000 ≤ B.2) {a1 : Int32}
    (h0 : ∀ k1, k1 < mv 4 → a1 = J k1 → ∀ τ, CIv τ x0 mv kv img tp n fl → FCl σ τ → Q (.inl (some (.int (J (jud mv (dpF mv (stO mv k1) 0) (lkF mv (stO mv k1)) (fea mv (dpF mv (stO mv k1) 0) (cpM mv) (caM mv) (mv 6) (mv 5))))))) τ) (h1 : ¬ (IX a1 (mv 4)) → Q (.inr 0) σ) : WP gT (d + 18) B 121 0 [.ref x0, .int a1] [] σ Q := by
  have hx := h.x
  have hv := h.mv_.1
  have ho := h.mv_.2.1
  have hs := hv.s
  have ho1 := ho.s
  refine g_121_0 h.sh hB ⟨fun c1 => ?_, fun c1 => h1 (fun k => c1 (h.gO.mpr k))⟩
  obtain ⟨k1, hk1, rfl⟩ := h.gO.mp c1
  have h0 := h0 k1 hk1 rfl
  refine c_floodOf h hk1 (fun τ h2 hF hS hC hf => ?_)
  dsimp only [oR]
  refine ⟨hS, c_judged (x0 := x0 + 24) (sub_11_24_2 hS) (sub_11_98_3 hS) (sub_11_120_1 hS) (by omega) (by omega) hv ho h2.G h2.Pp ⟨h2.mv_.2.2.2.2.1.2.2.1, h2.mv_.2.2.2.2.1.2.2.2.1, h2.mv_.2.2.2.2.1.2.2.2.2.1⟩ hC (fun ρ hG => h0 ρ (h2.fr hG (fun p j k => ?_)) (hF.tr (FCl.of hx hG (fun p j k => ?_))))⟩
  · unfold P10 at k; unfold SCr; omega
  · unfold P10 at k; omega
theorem rr_judge (hy : y0 = 260) (hv : VG mv) (ho : VOo mv) (h : RIv σ y0 mv kv img tp n fl) {a1 : Int32}
    (h0 : ∀ k1, k1 < mv 4 → a1 = J k1 → ∀ τ, RIv τ y0 mv kv img tp n fl → FRf σ τ → sI τ y0 0 = J 0 → Q (.inl (some (.int (J (jud mv (dpF mv (stO mv k1) 0) (lkF mv (stO mv k1)) (fea mv (dpF mv (stO mv k1) 0) (cpM mv) (caM mv) (mv 6) (mv 5))))))) τ) (h1 : ¬ (IX a1 (mv 4)) → ∀ τ v, RIv τ y0 mv kv img tp n fl → FRf σ τ → sI τ y0 0 = J 1 → Q (.inl (some (.int v))) τ) : WP gT (d + 8) B 241 0 [.ref y0, .int a1] [] σ Q := by
  have hs := hv.s
  have ho1 := ho.s
  by_cases c : IX a1 (mv 4)
  · obtain ⟨k1, hk1, rfl⟩ := c
    have t1 : ¬ f_167 σ y0 (J k1) = J 0 := fun e => (r167 h.2.1 ho).mp e ⟨k1, hk1, rfl⟩
    have h0 := h0 k1 hk1 rfl
    refine g_241_0 h.1 ?_
    simp only [if_neg t1]
    refine ⟨fun _ => ?_, fun e => absurd ret0 e⟩
    refine r_run hy hv ho h.thr hk1 (fun τ h2 hF ht hD hf hn hm => ?_)
    dsimp only [oV]
    refine ⟨h2.1, r_laysCalls h2.1 h2.2.1 ho hv (fun ρ hG hc => ?_)⟩
    have h3 := h2.fr hG (fun p j k _ _ => by unfold P228 at k; unfold SRr; omega)
    have hD3 := hD.fr hG (fun i j hi k => by unfold P228 at k; omega)
    have h0 := h0 ρ h3 (((FRf.th hy).tr hF).tr (FRf.of hy hG (fun p j k => by unfold P228 at k; omega))) ((hG.i (by unfold P228; omega)).trans (ht.trans sI_same))
    exact ⟨h3.1, r_judged h3.1 hD3 hv ho hc h0⟩
  · refine g_241_0 h.1 ?_
    have hu1 : (if (f_167 σ y0 a1) = (J 0) then (J 1) else (J 0)) = J 1 := by
      by_cases q1 : f_167 σ y0 a1 = J 0
      · rw [if_pos q1]
      rw [if_neg q1]
      exact absurd (Classical.not_not.mp (fun e => q1 ((r167 h.2.1 ho).mpr e))) c
    rw [hu1]
    exact ⟨fun e => absurd e ret1, fun _ => h1 c _ _ h.thr (FRf.th hy) sI_same⟩
