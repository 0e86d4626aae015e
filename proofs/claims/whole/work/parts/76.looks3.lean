/-! ===== steps, water, draws, counts, rain ===== -/
variable {d : Nat} {B : Nat × Nat} {Q : Out → Sto → Prop} {P : Nat → Nat → Prop} {σ τ : Sto} {x0 y0 : Nat} {mv kv : Mem} {img : Bool} {tp : Mem} {n : Nat} {fl : Option Nat}
theorem cc_stepAt (h : CIv σ x0 mv kv img tp n fl) (hB : 16 ≤ B.1 ∧ 1000 ≤ B.2) {a1 a2 a3 : Int32}
    (h0 : ∀ k1 k2 k3, k1 < mv 4 → k2 < mv 1 → k3 < 96 → a1 = J k1 → a2 = J k2 → a3 = J k3 → ∀ τ, CIv τ x0 mv kv img tp n fl → FCl σ τ → Q (.inl (some (.int (J (stO mv k1 (96 * k2 + k3)))))) τ) (h1 : ¬ (IX a1 (mv 4) ∧ IX a2 (mv 1) ∧ IX a3 96) → Q (.inr 0) σ) : WP gT (d + 18) B 104 0 [.ref x0, .int a1, .int a2, .int a3] [] σ Q := by
  have hs := h.mv_.1.s
  have ho1 := h.mv_.2.1.s
  refine g_104_0 h.sh hB ⟨fun c1 => ⟨fun c2 => ⟨fun c3 => ?_, fun c3 => h1 (fun k => c3 (gQ.mpr k.2.2))⟩, fun c2 => h1 (fun k => c2 (h.gG.mpr k.2.1))⟩, fun c1 => h1 (fun k => c1 (h.gO.mpr k.1))⟩
  obtain ⟨k1, hk1, rfl⟩ := h.gO.mp c1
  obtain ⟨k2, hk2, rfl⟩ := h.gG.mp c2
  obtain ⟨k3, hk3, rfl⟩ := gQ.mp c3
  have h0 := h0 k1 k2 k3 hk1 hk2 hk3 rfl rfl rfl σ h FCl.rf
  have hb := h.mv_.2.2.2.2.2.1 k1 hk1 (96 * k2 + k3) (by omega)
  rw [show x0 + 24 + 18 + k1 = x0 + 42 + k1 by omega, show 96 * k2 + k3 = k2 * 96 + k3 by omega] at hb
  rw [show 96 * k2 + k3 = k2 * 96 + k3 by omega] at h0
  simp (disch := omega) only [J_add, J_mul, J_sub, J_cl, J_lt, J_le, J_eq, vp_J, n1_ne, n1_lt, n1_le, n1_nlt, n1_nle]
  rw [hb]
  exact ⟨(by omega), (by omega), h0⟩
theorem rr_stepAt (hy : y0 = 260) (hv : VG mv) (ho : VOo mv) (h : RIv σ y0 mv kv img tp n fl) {a1 a2 a3 : Int32}
    (h0 : ∀ k1 k2 k3, k1 < mv 4 → k2 < mv 1 → k3 < 96 → a1 = J k1 → a2 = J k2 → a3 = J k3 → ∀ τ, RIv τ y0 mv kv img tp n fl → FRf σ τ → sI τ y0 0 = J 0 → Q (.inl (some (.int (J (stO mv k1 (96 * k2 + k3)))))) τ) (h1 : ¬ (IX a1 (mv 4) ∧ IX a2 (mv 1) ∧ IX a3 96) → ∀ τ v, RIv τ y0 mv kv img tp n fl → FRf σ τ → sI τ y0 0 = J 1 → Q (.inl (some (.int v))) τ) : WP gT (d + 2) B 212 0 [.ref y0, .int a1, .int a2, .int a3] [] σ Q := by
  have hs := hv.s
  have ho1 := ho.s
  refine g_212_0 h.1 (fun u hu => ?_)
  by_cases c : IX a1 (mv 4) ∧ IX a2 (mv 1) ∧ IX a3 96
  · have q1 : ¬ f_167 σ y0 a1 = J 0 := fun e => (r167 h.2.1 ho).mp e c.1
    have q2 : ¬ f_164 σ y0 a2 = J 0 := fun e => (r164 h.2.1 hv).mp e c.2.1
    have q3 : ¬ f_163 σ a3 = J 0 := fun e => r163.mp e c.2.2
    rw [if_neg q1, if_neg q2, if_neg q3] at hu
    subst hu
    obtain ⟨⟨k1, hk1, rfl⟩, ⟨k2, hk2, rfl⟩, ⟨k3, hk3, rfl⟩⟩ := c
    have h0 := h0 k1 k2 k3 hk1 hk2 hk3 rfl rfl rfl _ h.thr (FRf.th hy) sI_same
    unfold f_208
    refine ⟨fun _ => ⟨(by simp (disch := omega) only [J_add, J_mul, J_sub, J_cl, vp_J]; omega), trivial⟩, ?_⟩
    rw [if_pos ret0]
    simp (disch := omega) only [J_add, J_mul, J_sub, J_cl, J_lt, J_le, J_eq, vp_J, n1_ne, n1_lt, n1_le, n1_nlt, n1_nle, h.2.1.at]
    rw [show 424 + 384 * k1 + 96 * k2 + k3 = 424 + 384 * k1 + (96 * k2 + k3) by omega]
    exact h0
  · have hu1 : u = J 1 := by
      rw [hu]
      by_cases q1 : f_167 σ y0 a1 = J 0
      · rw [if_pos q1]
      rw [if_neg q1]
      by_cases q2 : f_164 σ y0 a2 = J 0
      · rw [if_pos q2]
      rw [if_neg q2]
      by_cases q3 : f_163 σ a3 = J 0
      · rw [if_pos q3]
      rw [if_neg q3]
      exact absurd ⟨Classical.not_not.mp (fun e => q1 ((r167 h.2.1 ho).mpr e)), Classical.not_not.mp (fun e => q2 ((r164 h.2.1 hv).mpr e)), Classical.not_not.mp (fun e => q3 (r163.mpr e))⟩ c
    subst hu1
    exact ⟨fun e => absurd e ret1, h1 c _ _ h.thr (FRf.th hy) sI_same⟩
/-- water asks a reach, or the lake -/
def IXW (mv : Mem) (x : Int32) : Prop := x = -J 1 ∨ IX x (mv 2)
def watV (mv : Mem) (k1 : Nat) (a2 : Int32) (k3 : Nat) : Int32 := if a2 = -J 1 then lkF mv (stO mv k1) (k3 + 1) else rcF mv (stO mv k1) 0 (k3 + 1) a2.toNatClampNeg
theorem cc_water (h : CIv σ x0 mv kv img tp n fl) (hB : 16 ≤ B.1 ∧ 1000 ≤ B.2) {a1 a2 a3 : Int32}
    (h0 : ∀ k1 k3, k1 < mv 4 → IXW mv a2 → k3 < 96 → a1 = J k1 → a3 = J k3 → ∀ τ, CIv τ x0 mv kv img tp n fl → FCl σ τ → Q (.inl (some (.int (watV mv k1 a2 k3)))) τ) (h1 : ¬ (IX a1 (mv 4) ∧ IXW mv a2 ∧ IX a3 96) → Q (.inr 0) σ) : WP gT (d + 18) B 105 0 [.ref x0, .int a1, .int a2, .int a3, .retAddr 0] [] σ Q := by
  have hs := h.mv_.1.s
  have ho1 := h.mv_.2.1.s
  have key : ∀ k1 k3, k1 < mv 4 → IXW mv a2 → k3 < 96 → a1 = J k1 → a3 = J k3 → ∀ τ, CIv τ x0 mv kv img tp n fl → FCl σ τ → CFf τ (x0 + 98) mv (stO mv k1) 0 96 → S_3 τ (x0 + 98) ∧ ((a2 = -J 1 → vp_in a3 96 ∧ True) ∧ (¬ a2 = -J 1 → vp_in a2 8 ∧ vp_in a3 96 ∧ True)) ∧ (∀ u8 : Int32, u8 = (if a2 = -J 1 then sI τ (x0 + 98 + 1) a3.toNatClampNeg else sI τ (x0 + 98 + 5 + a2.toNatClampNeg) a3.toNatClampNeg) → Q (.inl (some (.int u8))) τ) := by
    intro k1 k3 hk1 hw hk3 e1 e3 τ h2 hF hf
    have hz := h0 k1 k3 hk1 hw hk3 e1 e3 τ h2 hF
    subst e3
    refine ⟨sub_11_98_3 h2.sh, ⟨fun _ => ⟨(by simp (disch := omega) only [J_add, J_mul, J_sub, J_cl, vp_J]; omega), trivial⟩, fun e => ⟨?_, (by simp (disch := omega) only [J_add, J_mul, J_sub, J_cl, vp_J]; omega), trivial⟩⟩, fun u hu => ?_⟩
    · rcases hw with e2 | ⟨r, hr, rfl⟩
      · exact absurd e2 e
      · exact (by simp (disch := omega) only [J_add, J_mul, J_sub, J_cl, vp_J]; omega)
    · rw [J_cl (by omega)] at hu
      unfold watV at hz
      by_cases e : a2 = -J 1
      · rw [if_pos e] at hu hz; rw [hu, (hf k3 hk3).1.1]; exact hz
      · rw [if_neg e] at hu hz
        rcases hw with e2 | ⟨r, hr, rfl⟩
        · exact absurd e2 e
        · rw [J_cl (by omega)] at hu hz; rw [hu, ((hf k3 hk3).2 r hr).1]; exact hz
  refine g_105_0 h.sh hB ⟨fun c1 => ⟨fun c2 => ⟨fun c3 => ?_, fun c3 => h1 (fun k => c3 (gQ.mpr k.2.2))⟩, fun c2 => ⟨fun c4 => ⟨fun c3 => ?_, fun c3 => h1 (fun k => c3 (gQ.mpr k.2.2))⟩, fun c4 => h1 (fun k => ?_)⟩⟩, fun c1 => h1 (fun k => c1 (h.gO.mpr k.1))⟩
  · obtain ⟨k1, hk1, rfl⟩ := h.gO.mp c1
    obtain ⟨k3, hk3, e3⟩ := gQ.mp c3
    exact c_floodOf h hk1 (fun τ h2 hF hS hC hf => key k1 k3 hk1 (Or.inl c2) hk3 rfl e3 τ h2 hF hf)
  · obtain ⟨k1, hk1, rfl⟩ := h.gO.mp c1
    obtain ⟨k3, hk3, e3⟩ := gQ.mp c3
    exact c_floodOf h hk1 (fun τ h2 hF hS hC hf => key k1 k3 hk1 (Or.inr (h.gR.mp c4)) hk3 rfl e3 τ h2 hF hf)
  · rcases k.2.1 with e | e
    · exact c2 e
    · exact c4 (h.gR.mpr e)
theorem rr_water (hy : y0 = 260) (hv : VG mv) (ho : VOo mv) (h : RIv σ y0 mv kv img tp n fl) {a1 a2 a3 : Int32}
    (h0 : ∀ k1 k3, k1 < mv 4 → IXW mv a2 → k3 < 96 → a1 = J k1 → a3 = J k3 → ∀ τ, RIv τ y0 mv kv img tp n fl → FRf σ τ → sI τ y0 0 = J 0 → Q (.inl (some (.int (watV mv k1 a2 k3)))) τ) (h1 : ¬ (IX a1 (mv 4) ∧ IXW mv a2 ∧ IX a3 96) → ∀ τ v, RIv τ y0 mv kv img tp n fl → FRf σ τ → sI τ y0 0 = J 1 → Q (.inl (some (.int v))) τ) : WP gT (d + 5) B 213 0 [.ref y0, .int a1, .int a2, .int a3] [] σ Q := by
  have hs := hv.s
  have ho1 := ho.s
  refine g_213_0 h.1 (fun u hu => ?_)
  by_cases c : IX a1 (mv 4) ∧ IXW mv a2 ∧ IX a3 96
  · have q1 : ¬ f_167 σ y0 a1 = J 0 := fun e => (r167 h.2.1 ho).mp e c.1
    have q3 : ¬ f_163 σ a3 = J 0 := fun e => r163.mp e c.2.2
    have hu0 : u = J 0 := by
      rw [hu, if_neg q1, if_neg q3]
      by_cases e : a2 = -J 1
      · rw [if_pos e]
      · rw [if_neg e, if_neg (fun e2 => (r165 h.2.1 hv).mp e2 (c.2.1.resolve_left e))]
    subst hu0
    obtain ⟨⟨k1, hk1, rfl⟩, hw, ⟨k3, hk3, rfl⟩⟩ := c
    refine ⟨fun _ => r_run hy hv ho h.thr hk1 (fun τ h2 hF ht hD hf hn hm => ?_), fun e => absurd ret0 e⟩
    have h0 := h0 k1 k3 hk1 hw hk3 rfl rfl τ h2 ((FRf.th hy).tr hF) (ht.trans sI_same)
    unfold watV at h0
    refine ⟨h2.1, ⟨fun _ => ⟨(by simp (disch := omega) only [J_add, J_mul, J_sub, J_cl, vp_J]; omega), trivial⟩, fun e => ⟨?_, trivial⟩⟩, fun u6 h6 => ?_⟩
    · rcases hw with e2 | ⟨r, hr, rfl⟩
      · exact absurd e2 e
      · exact (by simp (disch := omega) only [J_add, J_mul, J_sub, J_cl, vp_J]; omega)
    · by_cases e : a2 = -J 1
      · rw [if_pos e] at h6 h0
        simp (disch := omega) only [J_add, J_mul, J_sub, J_cl, J_lt, J_le, J_eq, vp_J, n1_ne, n1_lt, n1_le, n1_nlt, n1_nle] at h6
        rw [h6, hf.1 _ (by omega)]; exact h0
      · rw [if_neg e] at h6 h0
        rcases hw with e2 | ⟨r, hr, rfl⟩
        · exact absurd e2 e
        · simp (disch := omega) only [J_add, J_mul, J_sub, J_cl, J_lt, J_le, J_eq, vp_J, n1_ne, n1_lt, n1_le, n1_nlt, n1_nle] at h6 h0
          rw [h6, show 97 * r + k3 + 1 = 97 * r + (k3 + 1) from rfl, hf.2.1 _ _ (by omega) hr]; exact h0
  · have hu1 : u = J 1 := by
      rw [hu]
      by_cases q1 : f_167 σ y0 a1 = J 0
      · rw [if_pos q1]
      rw [if_neg q1]
      have k1 : IX a1 (mv 4) := Classical.not_not.mp (fun e => q1 ((r167 h.2.1 ho).mpr e))
      by_cases e : a2 = -J 1
      · rw [if_pos e]
        by_cases q3 : f_163 σ a3 = J 0
        · rw [if_pos q3]
        exact absurd ⟨k1, Or.inl e, Classical.not_not.mp (fun e => q3 (r163.mpr e))⟩ c
      · rw [if_neg e]
        by_cases q2 : f_165 σ y0 a2 = J 0
        · rw [if_pos q2]
        rw [if_neg q2]
        by_cases q3 : f_163 σ a3 = J 0
        · rw [if_pos q3]
        exact absurd ⟨k1, Or.inr (Classical.not_not.mp (fun e => q2 ((r165 h.2.1 hv).mpr e))), Classical.not_not.mp (fun e => q3 (r163.mpr e))⟩ c
    subst hu1
    exact ⟨fun e => absurd e ret1, fun _ => h1 c _ _ h.thr (FRf.th hy) sI_same⟩
/-! draws -/
def dst (s : Int32) : Int32 := J 1103515245 * s + J 12345
def drw (s : Int32) : Int32 := ((s.toUInt32 >>> ((J 16).toUInt32 &&& Int32.toUInt32 31)).toInt32) &&& J 32767
def drm (s : Int32) : Int32 := drw s - drw s / J 100 * J 100
theorem drw_c (s : Int32) : (s >>> (J 16 &&& 31)) &&& J 32767 = drw s := by
  unfold drw
  apply Int32.toBitVec_inj.mp
  rw [show (J 16 &&& (31 : Int32)) = 16 from by decide, show ((J 16).toUInt32 &&& Int32.toUInt32 31) = 16 from by decide]
  rw [Int32.toBitVec_and, Int32.toBitVec_and, Int32.toBitVec_shiftRight]
  show (s.toBitVec.sshiftRight' ((16 : Int32).toBitVec.smod 32)) &&& _ = (s.toUInt32 >>> (16 : UInt32)).toBitVec &&& _
  rw [UInt32.toBitVec_shiftRight]
  show (s.toBitVec.sshiftRight 16) &&& 32767#32 = (s.toBitVec >>> (16#32)) &&& 32767#32
  generalize s.toBitVec = x
  apply BitVec.eq_of_getLsbD_eq
  intro i hi
  rw [BitVec.getLsbD_and, BitVec.getLsbD_and, BitVec.getLsbD_sshiftRight, BitVec.ushiftRight_eq', BitVec.getLsbD_ushiftRight]
  by_cases c : i < 15
  · simp [show ¬ 32 ≤ i from by omega, show 16 + i < 32 from by omega]
  · have : (32767#32).getLsbD i = false := by
      have h : ∀ j, j < 32 → ¬ j < 15 → (32767#32).getLsbD j = false := by decide
      exact h i hi c
    rw [this, Bool.and_false, Bool.and_false]
/-- the draws of person k, caught at c, over the first i calls: the number drawn, and whether one was heard -/
def plc (mv : Mem) (k c : Nat) (s : Int32) : Nat → Int32 × Bool
  | 0 => (s, false)
  | i + 1 => if mv (2788 + 2 * i) = mv (2728 + 6 * k) ∧ inT mv k (mv (2788 + 2 * i + 1)) c = true then (dst (plc mv k c s i).1, (plc mv k c s i).2 || !decide (J (mv (2728 + 6 * k + 3)) ≤ drm (dst (plc mv k c s i).1))) else plc mv k c s i
def ply (mv : Mem) (dp : Nat → Nat → Int32) (s : Int32) : Nat → Int32 × Int32
  | 0 => (s, J 0)
  | k + 1 => match sty mv dp k with
    | none => ply mv dp s k
    | some c => ((plc mv k c (ply mv dp s k).1 (mv 6)).1, if (plc mv k c (ply mv dp s k).1 (mv 6)).2 = true then (ply mv dp s k).2 else (ply mv dp s k).2 ||| (J 1 <<< (J k &&& 31)))
theorem cv_13 {D pl k i c : Nat} (ho : VOo mv) (hv : VG mv) (hP : RPp σ pl mv) (hk : k < mv 5) (hi : i < mv 6) (hc : c ≤ 95) (h2 : sI σ (D + 2) k = J (tF mv k)) (h3 : sI σ (D + 3) k = J c - J (mv (376 + 4 * mv (2728 + 6 * k) + 2))) : f_13 σ D pl (J k) (J i) = if mv (2788 + 2 * i) = mv (2728 + 6 * k) ∧ inT mv k (mv (2788 + 2 * i + 1)) c = true then J 1 else J 0 := by
  have ho1 := ho.s
  have hs := hv.s
  have hkv := ho.k hk
  have hpv := hv.p hkv.1
  have hcv := ho.c hi
  have htF : tF mv k ≤ 95 := by unfold tF; split <;> omega
  have hPc := hP.2.2 i hi
  have hPk := hP.2.1 k hk
  unfold f_13
  simp (disch := omega) only [J_cl, hPc, hPk]
  rw [cv_14 h2 h3 (by omega) hc htF (by omega) (by omega)]
  simp (disch := omega) only [J_eq]
  have n10 : ¬ (J 1 = J 0) := by decide
  by_cases c1 : mv (2788 + 2 * i) = mv (2728 + 6 * k) <;> by_cases c2 : inT mv k (mv (2788 + 2 * i + 1)) c = true <;> simp [c1, c2, n10]
theorem c_drawn {D pl : Nat} {dp : Nat → Nat → Int32} {s : Int32} (nD : S_1 σ D) (np : S_6 σ pl) (hP : RPp σ pl mv) (hv : VG mv) (ho : VOo mv) (hR : DRr σ D mv dp) (hQ : Q (.inl (some (.int ((ply mv dp s (mv 5)).2)))) σ) : WP gT (d + 2) B 18 0 [.ref D, .ref pl, .int s, .retAddr 0, .retAddr 0, .retAddr 0, .retAddr 0, .retAddr 0] [] σ Q := by
  have ho1 := ho.s
  have hs := hv.s
  have key := upto0 (W := fun k => ∀ x6 x7 : Value, WP gT (d + 2) B 18 8 [.ref D, .ref pl, .int s, .int ((ply mv dp s k).1), .int ((ply mv dp s k).2), .int (J k), x6, x7] [] σ Q) (mv 5) (fun k hk ih x6 x7 => ?_) (fun x6 x7 => ?_) 0 (Nat.zero_le _)
  · exact g_18_0 (key _ _)
  · have hkv := ho.k hk
    have hRk := hR k hk
    have hPk := hP.2.1 k hk
    refine g_18_8 np nD ⟨fun e => ?_, fun _ => ⟨(by simp (disch := omega) only [J_add, J_mul, J_sub, J_cl, vp_J]; omega), ?_⟩⟩
    · exfalso; rw [hP.1.1] at e; simp (disch := omega) only [J_add, J_mul, J_sub, J_cl, J_lt, J_le, J_eq, vp_J, n1_ne, n1_lt, n1_le, n1_nlt, n1_nle] at e; omega
    · rw [J_cl (by omega), hRk.2.2.2.1]
      cases hst : sty mv dp k with
      | none =>
        rw [show ply mv dp s (k + 1) = ply mv dp s k from by show (match sty mv dp k with | none => _ | some c => _) = _; rw [hst]] at ih
        rw [if_neg (by decide)]
        have h4 : sI σ (D + 4) k = J 0 := by rw [hRk.2.2.2.1, hst]; rfl
        refine upto0 (W := fun i => WP gT (d + 2) B 18 29 [.ref D, .ref pl, .int s, .int ((ply mv dp s k).1), .int ((ply mv dp s k).2), .int (J k), .int (J 0), .int (J i)] [] σ Q) (mv 6) (fun i hi ih2 => ?_) ?_ 0 (Nat.zero_le _)
        · refine g_18_29 np nD ⟨fun e => ?_, fun _ => ⟨(by simp (disch := omega) only [J_add, J_mul, J_sub, J_cl, vp_J]; omega), fun e => ?_, fun u8 h8 u9 h9 => ?_⟩⟩
          · exfalso; rw [hP.1.2] at e; simp (disch := omega) only [J_add, J_mul, J_sub, J_cl, J_lt, J_le, J_eq, vp_J, n1_ne, n1_lt, n1_le, n1_nlt, n1_nle] at e; omega
          · exfalso; rw [J_cl (by omega)] at e; exact e h4
          · rw [J_cl (by omega), h4, if_pos rfl] at h8 h9
            rw [h8, h9, J_add]; exact ih2
        · refine g_18_29 np nD ⟨fun _ => ?_, fun e => ?_⟩
          · rw [if_pos rfl, J_add]; exact ih _ _
          · exfalso; rw [hP.1.2] at e; simp (disch := omega) only [J_add, J_mul, J_sub, J_cl, J_lt, J_le, J_eq, vp_J, n1_ne, n1_lt, n1_le, n1_nlt, n1_nle] at e; omega
      | some c =>
        rw [show ply mv dp s (k + 1) = ((plc mv k c (ply mv dp s k).1 (mv 6)).1, if (plc mv k c (ply mv dp s k).1 (mv 6)).2 = true then (ply mv dp s k).2 else (ply mv dp s k).2 ||| (J 1 <<< (J k &&& 31))) from by show (match sty mv dp k with | none => _ | some c => _) = _; rw [hst]] at ih
        have hca := (sty_cau hst).1
        have hcb := cau_lt hkv.2.1 hkv.2.2.1 hca
        rw [if_pos (by rfl)]
        have h4 : sI σ (D + 4) k = J 1 := by rw [hRk.2.2.2.1, hst]; rfl
        refine upto0 (W := fun i => WP gT (d + 2) B 18 29 [.ref D, .ref pl, .int s, .int ((plc mv k c (ply mv dp s k).1 i).1), .int ((ply mv dp s k).2), .int (J k), .int (if (plc mv k c (ply mv dp s k).1 i).2 = true then J 0 else J 1), .int (J i)] [] σ Q) (mv 6) (fun i hi ih2 => ?_) ?_ 0 (Nat.zero_le _)
        · refine g_18_29 np nD ⟨fun e => ?_, fun _ => ⟨(by simp (disch := omega) only [J_add, J_mul, J_sub, J_cl, vp_J]; omega), fun e => ⟨(by simp (disch := omega) only [J_add, J_mul, J_sub, J_cl, vp_J]; omega), (by simp (disch := omega) only [J_add, J_mul, J_sub, J_cl, vp_J]; omega), fun _ => ⟨(by simp (disch := omega) only [J_add, J_mul, J_sub, J_cl, vp_J]; omega), (by simp (disch := omega) only [J_add, J_mul, J_sub, J_cl, vp_J]; omega), fun _ => ⟨(by simp (disch := omega) only [J_add, J_mul, J_sub, J_cl, vp_J]; omega), trivial⟩, trivial⟩, fun _ => ⟨(by simp (disch := omega) only [J_add, J_mul, J_sub, J_cl, vp_J]; omega), trivial⟩⟩, fun u8 h8 u9 h9 => ?_⟩⟩
          · exfalso; rw [hP.1.2] at e; simp (disch := omega) only [J_add, J_mul, J_sub, J_cl, J_lt, J_le, J_eq, vp_J, n1_ne, n1_lt, n1_le, n1_nlt, n1_nle] at e; omega
          · rw [J_cl (by omega), h4, if_neg (by decide), cv_13 ho hv hP hk hi hcb hRk.2.1 (hRk.2.2.1 c hca)] at h8 h9
            rw [hPk.2.2.2.1, drw_c, Int32.mul_comm _ (J 1103515245)] at h9
            rw [Int32.mul_comm _ (J 1103515245)] at h8
            rw [show plc mv k c (ply mv dp s k).1 (i + 1) = if mv (2788 + 2 * i) = mv (2728 + 6 * k) ∧ inT mv k (mv (2788 + 2 * i + 1)) c = true then (dst (plc mv k c (ply mv dp s k).1 i).1, (plc mv k c (ply mv dp s k).1 i).2 || !decide (J (mv (2728 + 6 * k + 3)) ≤ drm (dst (plc mv k c (ply mv dp s k).1 i).1))) else plc mv k c (ply mv dp s k).1 i from rfl] at ih2
            rw [J_add]
            by_cases cc : mv (2788 + 2 * i) = mv (2728 + 6 * k) ∧ inT mv k (mv (2788 + 2 * i + 1)) c = true
            · rw [if_pos cc, if_neg (by decide)] at h8 h9
              rw [if_pos cc] at ih2
              have e9 : u9 = if ((plc mv k c (ply mv dp s k).1 i).2 || !decide (J (mv (2728 + 6 * k + 3)) ≤ drm (dst (plc mv k c (ply mv dp s k).1 i).1))) = true then J 0 else J 1 := by
                rw [h9]
                show (if J (mv (2728 + 6 * k + 3)) ≤ drm (dst (plc mv k c (ply mv dp s k).1 i).1) then _ else _) = _
                by_cases c3 : J (mv (2728 + 6 * k + 3)) ≤ drm (dst (plc mv k c (ply mv dp s k).1 i).1)
                · rw [if_pos c3, decide_eq_true c3]; cases (plc mv k c (ply mv dp s k).1 i).2 <;> rfl
                · rw [if_neg c3, decide_eq_false c3]; cases (plc mv k c (ply mv dp s k).1 i).2 <;> rfl
              rw [h8, e9]; exact ih2
            · rw [if_neg cc, if_pos rfl] at h8 h9
              rw [if_neg cc] at ih2
              rw [h8, h9]; exact ih2
        · refine g_18_29 np nD ⟨fun _ => ?_, fun e => ?_⟩
          · rw [J_add]
            have ih := ih (.int (if (plc mv k c (ply mv dp s k).1 (mv 6)).2 = true then J 0 else J 1)) (.int (J (mv 6)))
            cases hb : (plc mv k c (ply mv dp s k).1 (mv 6)).2 with
            | true => rw [hb, if_pos rfl, if_pos rfl] at ih; rw [if_pos rfl, if_pos rfl]; exact ih
            | false => rw [hb, if_neg (by decide), if_neg (by decide)] at ih; rw [if_neg (by decide), if_neg (by decide)]; exact ih
          · exfalso; rw [hP.1.2] at e; simp (disch := omega) only [J_add, J_mul, J_sub, J_cl, J_lt, J_le, J_eq, vp_J, n1_ne, n1_lt, n1_le, n1_nlt, n1_nle] at e; omega
  · refine g_18_8 np nD ⟨fun _ => hQ, fun e => ?_⟩
    exfalso; rw [hP.1.1] at e; simp (disch := omega) only [J_add, J_mul, J_sub, J_cl, J_lt, J_le, J_eq, vp_J, n1_ne, n1_lt, n1_le, n1_nlt, n1_nle] at e; omega
theorem cc_play (h : CIv σ x0 mv kv img tp n fl) (hB : 16 ≤ B.1 ∧ 1000 ≤ B.2) {a1 a2 : Int32}
    (h0 : ∀ k1, k1 < mv 4 → a1 = J k1 → ∀ τ, CIv τ x0 mv kv img tp n fl → FCl σ τ → Q (.inl (some (.int ((ply mv (dpF mv (stO mv k1) 0) a2 (mv 5)).2)))) τ) (h1 : ¬ (IX a1 (mv 4)) → Q (.inr 0) σ) : WP gT (d + 18) B 137 0 [.ref x0, .int a1, .int a2] [] σ Q := by
  have hx := h.x
  have hv := h.mv_.1
  have ho := h.mv_.2.1
  have hs := hv.s
  have ho1 := ho.s
  refine g_137_0 h.sh hB ⟨fun c1 => ?_, fun c1 => h1 (fun k => c1 (h.gO.mpr k))⟩
  obtain ⟨k1, hk1, rfl⟩ := h.gO.mp c1
  have h0 := h0 k1 hk1 rfl
  refine c_dangerOf h hk1 (fun τ h2 hF hS hC hR => ?_)
  dsimp only [oR]
  have h0 := h0 τ h2 hF
  exact ⟨hS, sub_11_120_1 hS, c_drawn (sub_11_120_1 hS) (sub_11_48_6 hS) h2.Pp hv ho hR h0⟩
theorem rr_play (hy : y0 = 260) (hv : VG mv) (ho : VOo mv) (h : RIv σ y0 mv kv img tp n fl) {a1 a2 : Int32}
    (h0 : ∀ k1, k1 < mv 4 → a1 = J k1 → ∀ τ, RIv τ y0 mv kv img tp n fl → FRf σ τ → sI τ y0 0 = J 0 → Q (.inl (some (.int ((ply mv (dpF mv (stO mv k1) 0) a2 (mv 5)).2)))) τ) (h1 : ¬ (IX a1 (mv 4)) → ∀ τ v, RIv τ y0 mv kv img tp n fl → FRf σ τ → sI τ y0 0 = J 1 → Q (.inl (some (.int v))) τ) : WP gT (d + 5) B 264 0 [.ref y0, .int a1, .int a2, .retAddr 0, .retAddr 0, .retAddr 0, .retAddr 0, .retAddr 0, .retAddr 0] [] σ Q := by
  have hs := hv.s
  have ho1 := ho.s
  by_cases c : IX a1 (mv 4)
  · obtain ⟨k1, hk1, rfl⟩ := c
    have t1 : ¬ f_167 σ y0 (J k1) = J 0 := fun e => (r167 h.2.1 ho).mp e ⟨k1, hk1, rfl⟩
    have h0 := h0 k1 hk1 rfl
    refine g_264_0 h.1 ?_
    simp only [if_neg t1]
    refine ⟨fun _ => ?_, fun e => absurd ret0 e⟩
    refine r_run hy hv ho h.thr hk1 (fun τ h2 hF ht hD hf hn hm => ?_)
    dsimp only [oV]
    refine ⟨h2.1, r_laysCalls h2.1 h2.2.1 ho hv (fun ρ hG hc => ?_)⟩
    have h3 := h2.fr hG (fun p j k _ _ => by unfold P228 at k; unfold SRr; omega)
    have hD3 := hD.fr hG (fun i j hi k => by unfold P228 at k; omega)
    have h0 := h0 ρ h3 (((FRf.th hy).tr hF).tr (FRf.of hy hG (fun p j k => by unfold P228 at k; omega))) ((hG.i (by unfold P228; omega)).trans (ht.trans sI_same))
    have key := upto0 (W := fun k => ∀ x6 x7 x8 : Value, WP gT (d + 5) B 264 43 [.ref y0, .int (J k1), .int a2, .int ((ply mv (dpF mv (stO mv k1) 0) a2 k).1), .int ((ply mv (dpF mv (stO mv k1) 0) a2 k).2), .int (J k), x6, x7, x8] [] ρ Q) (mv 5) (fun k hk ih x6 x7 x8 => ?_) (fun x6 x7 x8 => ?_) 0 (Nat.zero_le _)
    · exact key _ _ _
    · have hkv := ho.k hk
      have hpv := hv.p hkv.1
      refine g_264_43 h3.1 ⟨fun e => ?_, fun _ => r_caughtNow h3.1 hD3 hv ho hk ⟨h3.1, ?_⟩⟩
      · exfalso; simp (disch := omega) only [J_add, J_mul, J_sub, J_cl, J_lt, J_le, J_eq, vp_J, n1_ne, n1_lt, n1_le, n1_nlt, n1_nle, h3.2.1.at] at e; omega
      · rw [oJ_none (fun q hq => by have := cau_lt hkv.2.1 hkv.2.2.1 hq; omega)]
        cases hca : cau mv (dpF mv (stO mv k1) 0) k with
        | none =>
          have hst : sty mv (dpF mv (stO mv k1) 0) k = none := by unfold sty; rw [hca]
          rw [show ply mv (dpF mv (stO mv k1) 0) a2 (k + 1) = ply mv (dpF mv (stO mv k1) 0) a2 k from by show (match sty mv (dpF mv (stO mv k1) 0) k with | none => _ | some c => _) = _; rw [hst]] at ih
          exact ⟨fun _ => (by rw [J_add]; exact ih _ _ _), fun e => absurd rfl e⟩
        | some c =>
          have hcb := cau_lt hkv.2.1 hkv.2.2.1 hca
          refine ⟨fun e => (by cases e), fun _ => r_goes h3.1 hD3 hv ho hk hcb ?_⟩
          dsimp only [oI]
          rw [b01]
          refine ⟨fun e => ?_, fun e => ?_⟩
          · have hst : sty mv (dpF mv (stO mv k1) 0) k = some c := by unfold sty; rw [hca]; exact if_neg (by rw [e]; decide)
            rw [show ply mv (dpF mv (stO mv k1) 0) a2 (k + 1) = ((plc mv k c (ply mv (dpF mv (stO mv k1) 0) a2 k).1 (mv 6)).1, if (plc mv k c (ply mv (dpF mv (stO mv k1) 0) a2 k).1 (mv 6)).2 = true then (ply mv (dpF mv (stO mv k1) 0) a2 k).2 else (ply mv (dpF mv (stO mv k1) 0) a2 k).2 ||| (J 1 <<< (J k &&& 31))) from by show (match sty mv (dpF mv (stO mv k1) 0) k with | none => _ | some c => _) = _; rw [hst]] at ih
            refine upto0 (W := fun i => WP gT (d + 5) B 264 88 [.ref y0, .int (J k1), .int a2, .int ((plc mv k c (ply mv (dpF mv (stO mv k1) 0) a2 k).1 i).1), .int ((ply mv (dpF mv (stO mv k1) 0) a2 k).2), .int (J k), .int (J c), .int (if (plc mv k c (ply mv (dpF mv (stO mv k1) 0) a2 k).1 i).2 = true then J 1 else J 0), .int (J i)] [] ρ Q) (mv 6) (fun i hi ih2 => ?_) ?_ 0 (Nat.zero_le _)
            · have hci := hc.2.2.2 i hi
              dsimp only at hci
              refine g_264_88 h3.1 ⟨fun e => ?_, fun _ => ?_⟩
              · exfalso; rw [hc.1] at e; simp (disch := omega) only [J_add, J_mul, J_sub, J_cl, J_lt, J_le, J_eq, vp_J, n1_ne, n1_lt, n1_le, n1_nlt, n1_nle] at e; omega
              · simp (disch := omega) only [J_cl, hci, rv_171 h3.2.1, rv_231 h3.2.1 hv ho, Nat.add_zero, b01]
                simp (disch := omega) only [vp_J, J_add, J_mul, J_eq, J_lt, Nat.add_zero, and_true]
                refine ⟨(by omega), (by omega), fun _ => ⟨(by omega), (by omega), fun _ => ⟨(by omega), fun _ => ⟨(by omega), (by omega)⟩⟩, fun _ _ => (by omega)⟩, fun u9 h9 u10 h10 => ?_⟩
                rw [show plc mv k c (ply mv (dpF mv (stO mv k1) 0) a2 k).1 (i + 1) = if mv (2788 + 2 * i) = mv (2728 + 6 * k) ∧ inT mv k (mv (2788 + 2 * i + 1)) c = true then (dst (plc mv k c (ply mv (dpF mv (stO mv k1) 0) a2 k).1 i).1, (plc mv k c (ply mv (dpF mv (stO mv k1) 0) a2 k).1 i).2 || !decide (J (mv (2728 + 6 * k + 3)) ≤ drm (dst (plc mv k c (ply mv (dpF mv (stO mv k1) 0) a2 k).1 i).1))) else plc mv k c (ply mv (dpF mv (stO mv k1) 0) a2 k).1 i from rfl] at ih2
                by_cases c1 : mv (2788 + 2 * i) = mv (2728 + 6 * k)
                · by_cases c2 : inT mv k (mv (2788 + 2 * i + 1)) c = true
                  · rw [if_pos c1, if_neg (by rw [c2]; decide)] at h9 h10
                    rw [if_pos ⟨c1, c2⟩] at ih2
                    have e10 : u10 = if ((plc mv k c (ply mv (dpF mv (stO mv k1) 0) a2 k).1 i).2 || !decide (J (mv (2728 + 6 * k + 3)) ≤ drm (dst (plc mv k c (ply mv (dpF mv (stO mv k1) 0) a2 k).1 i).1))) = true then J 1 else J 0 := by
                      rw [h10]
                      show (if (plc mv k c (ply mv (dpF mv (stO mv k1) 0) a2 k).1 i).2 = false then (if J (mv (2728 + 6 * k + 3)) ≤ drm (dst (plc mv k c (ply mv (dpF mv (stO mv k1) 0) a2 k).1 i).1) then J 0 else J 1) else J 1) = _
                      cases (plc mv k c (ply mv (dpF mv (stO mv k1) 0) a2 k).1 i).2
                      · by_cases c3 : J (mv (2728 + 6 * k + 3)) ≤ drm (dst (plc mv k c (ply mv (dpF mv (stO mv k1) 0) a2 k).1 i).1)
                        · rw [if_pos rfl, if_pos c3, decide_eq_true c3]; rfl
                        · rw [if_pos rfl, if_neg c3, decide_eq_false c3]; rfl
                      · rfl
                    rw [h9, e10]; exact ih2
                  · rw [if_pos c1, if_pos (by simpa using c2)] at h9 h10
                    rw [if_neg (fun x => c2 x.2)] at ih2
                    rw [h9, h10]; exact ih2
                · rw [if_neg c1] at h9 h10
                  rw [if_neg (fun x => c1 x.1)] at ih2
                  rw [h9, h10]; exact ih2
            · refine g_264_88 h3.1 ⟨fun _ => ?_, fun e => ?_⟩
              · rw [J_add]
                have ih := ih (.int (J c)) (.int (if (plc mv k c (ply mv (dpF mv (stO mv k1) 0) a2 k).1 (mv 6)).2 = true then J 1 else J 0)) (.int (J (mv 6)))
                cases hb : (plc mv k c (ply mv (dpF mv (stO mv k1) 0) a2 k).1 (mv 6)).2 with
                | true => rw [hb, if_pos rfl, if_pos rfl] at ih; rw [if_pos rfl, if_neg (by decide)]; exact ih
                | false => rw [hb, if_neg (by decide), if_neg (by decide)] at ih; rw [if_pos (by decide), if_neg (by decide)]; exact ih
              · exfalso; rw [hc.1] at e; simp (disch := omega) only [J_add, J_mul, J_sub, J_cl, J_lt, J_le, J_eq, vp_J, n1_ne, n1_lt, n1_le, n1_nlt, n1_nle] at e; omega
          · have hst : sty mv (dpF mv (stO mv k1) 0) k = none := by unfold sty; rw [hca]; exact if_pos (by simpa using e)
            rw [show ply mv (dpF mv (stO mv k1) 0) a2 (k + 1) = ply mv (dpF mv (stO mv k1) 0) a2 k from by show (match sty mv (dpF mv (stO mv k1) 0) k with | none => _ | some c => _) = _; rw [hst]] at ih
            rw [J_add]; exact ih _ _ _
    · refine g_264_43 h3.1 ⟨fun _ => h0, fun e => ?_⟩
      exfalso; simp (disch := omega) only [J_add, J_mul, J_sub, J_cl, J_lt, J_le, J_eq, vp_J, n1_ne, n1_lt, n1_le, n1_nlt, n1_nle, h3.2.1.at] at e; omega
  · refine g_264_0 h.1 ?_
    have hu1 : (if (f_167 σ y0 a1) = (J 0) then (J 1) else (J 0)) = J 1 := by
      by_cases q1 : f_167 σ y0 a1 = J 0
      · rw [if_pos q1]
      rw [if_neg q1]
      exact absurd (Classical.not_not.mp (fun e => q1 ((r167 h.2.1 ho).mpr e))) c
    rw [hu1]
    exact ⟨fun e => absurd e ret1, fun _ => h1 c _ _ h.thr (FRf.th hy) sI_same⟩
