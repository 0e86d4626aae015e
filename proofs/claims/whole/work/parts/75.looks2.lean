/-! ===== calls that only look: likeness, nearness, power, rises, rain ===== -/
variable {d : Nat} {B : Nat × Nat} {Q : Out → Sto → Prop} {P : Nat → Nat → Prop} {σ τ : Sto} {x0 y0 : Nat} {mv kv : Mem} {img : Bool} {tp : Mem} {n : Nat} {fl : Option Nat}
/-- log rows that a flood meets -/
def lgm (mv : Mem) (dp : Nat → Nat → Int32) : Nat → Nat
  | 0 => 0
  | l + 1 => lgm mv dp l + (if wetB mv dp (mv (2836 + 3 * l)) (mv (2836 + 3 * l + 1)) = decide (mv (2836 + 3 * l + 2) = 1) then 1 else 0)
theorem lgm_le (mv : Mem) (dp : Nat → Nat → Int32) : ∀ l, lgm mv dp l ≤ l := by
  intro l
  induction l with
  | zero => exact Nat.le_refl _
  | succ l ih => rw [show lgm mv dp (l + 1) = lgm mv dp l + _ from rfl]; split <;> omega
theorem J01 {b : Bool} {m : Nat} (hm : m ≤ 1) : ((if b = true then J 1 else J 0) = J m) = (b = decide (m = 1)) := by
  have : m = 0 ∨ m = 1 := by omega
  rcases this with rfl | rfl <;> cases b <;> simp (disch := decide) [J_eq]
theorem c_logsMet {f : Nat} {dp : Nat → Nat → Int32} {lk : Nat → Int32} (h : CIv σ x0 mv kv img tp n fl) (hC : CDd σ f mv dp lk) (nf : S_3 σ f) (hQ : Q (.inl (some (.int (J (lgm mv dp (mv 8)))))) σ) : WP gT (d + 1) B 22 0 [.ref (x0 + 24), .ref f, .retAddr 0, .retAddr 0] [] σ Q := by
  have hv := h.mv_.1
  have ho := h.mv_.2.1
  have hs := hv.s
  have ho1 := ho.s
  have hD := h.mv_.2.2
  refine g_22_0 (upto0 (W := fun l => WP gT (d + 1) B 22 4 [.ref (x0 + 24), .ref f, .int (J (lgm mv dp l)), .int (J l)] [] σ Q) (mv 8) (fun l hl ih => ?_) ?_ 0 (Nat.zero_le _))
  · have hlv := ho.l hl
    have hpv := hv.p hlv.1
    have hll := hD.2.2.2.2.1 l hl
    have hgp := h.G.p hlv.1
    refine g_22_4 (sub_11_24_2 h.sh) nf ⟨fun e => ?_, fun _ => ?_⟩
    · exfalso; rw [hD.2.2.1.2.2.2.2.2.2.2] at e; simp (disch := omega) only [J_add, J_mul, J_sub, J_cl, J_lt, J_le, J_eq, vp_J, n1_ne, n1_lt, n1_le, n1_nlt, n1_nle] at e; omega
    · rw [show x0 + 24 + 1 = x0 + 25 from rfl]
      simp (disch := omega) only [J_cl, hll]
      simp (disch := omega) only [J_cl, hgp, cv_32 hC h.G hv]
      refine ⟨(by simp (disch := omega) only [J_add, J_mul, J_sub, J_cl, vp_J]; omega), (by simp (disch := omega) only [J_add, J_mul, J_sub, J_cl, vp_J]; omega), (by simp (disch := omega) only [J_add, J_mul, J_sub, J_cl, vp_J]; omega), (by simp (disch := omega) only [J_add, J_mul, J_sub, J_cl, vp_J]; omega), (by simp (disch := omega) only [J_add, J_mul, J_sub, J_cl, vp_J]; omega), (by simp (disch := omega) only [J_add, J_mul, J_sub, J_cl, vp_J]; omega), fun u hu => ?_⟩
      have e : u = J (lgm mv dp (l + 1)) := by
        rw [hu, show lgm mv dp (l + 1) = lgm mv dp l + (if wetB mv dp (mv (2836 + 3 * l)) (mv (2836 + 3 * l + 1)) = decide (mv (2836 + 3 * l + 2) = 1) then 1 else 0) from rfl, J_add]
        simp only [J01 hlv.2.2]
        split <;> rfl
      rw [e, J_add]; exact ih
  · refine g_22_4 (sub_11_24_2 h.sh) nf ⟨fun _ => hQ, fun e => ?_⟩
    exfalso; rw [hD.2.2.1.2.2.2.2.2.2.2] at e; simp (disch := omega) only [J_add, J_mul, J_sub, J_cl, J_lt, J_le, J_eq, vp_J, n1_ne, n1_lt, n1_le, n1_nlt, n1_nle] at e; omega
theorem r_likeOf (hy : y0 = 260) (hv : VG mv) (ho : VOo mv) (h : RIv σ y0 mv kv img tp n fl) {o : Nat} (hk : o < mv 4) (hQ : ∀ τ, RIv τ y0 mv kv img tp n fl → FRf σ τ → sI τ y0 0 = sI σ y0 0 → Q (.inl (some (.int (J (lgm mv (dpF mv (stO mv o) 0) (mv 8)))))) τ) : WP gT (d + 5) B 260 0 [.ref y0, .int (J o), .retAddr 0, .retAddr 0] [] σ Q := by
  have hs := hv.s
  have ho1 := ho.s
  refine g_260_0 h.1 (r_run hy hv ho h hk (fun τ h2 hF ht hD hf hn hm => ?_))
  have hQ := hQ τ h2 hF ht
  refine upto0 (W := fun l => WP gT (d + 5) B 260 9 [.ref y0, .int (J o), .int (J (lgm mv (dpF mv (stO mv o) 0) l)), .int (J l)] [] τ Q) (mv 8) (fun l hl ih => ?_) ?_ 0 (Nat.zero_le _)
  · have hlv := ho.l hl
    have hpv := hv.p hlv.1
    have hrv := hv.r hpv.1
    refine g_260_9 h2.1 ⟨fun e => ?_, fun _ => ?_⟩
    · exfalso; simp (disch := omega) only [J_add, J_mul, J_sub, J_cl, J_lt, J_le, J_eq, vp_J, n1_ne, n1_lt, n1_le, n1_nlt, n1_nle, h2.2.1.at] at e; omega
    · simp (disch := omega) only [J_add, J_mul, J_sub, J_cl, J_lt, J_le, J_eq, vp_J, n1_ne, n1_lt, n1_le, n1_nlt, n1_nle, h2.2.1.at]
      simp (disch := omega) only [rv_170 h2.2.1, rv_169 h2.2.1, rv_203 hD hv, Nat.add_zero]
      simp (disch := omega) only [J_add, J_mul, J_sub, J_cl, J_lt, J_le, J_eq, vp_J, n1_ne, n1_lt, n1_le, n1_nlt, n1_nle, Nat.add_zero]
      refine ⟨(by omega), (by omega), (by omega), (by omega), (by omega), (by omega), (by omega), (by omega), fun u9 h9 => fun u10 h10 => ?_⟩
      have e9 : u9 = J (mv (2836 + 3 * l + 2)) := by
        rw [h9]
        have : mv (2836 + 3 * l + 2) = 0 ∨ mv (2836 + 3 * l + 2) = 1 := by omega
        rcases this with e | e <;> rw [e] <;> rfl
      have e : J (lgm mv (dpF mv (stO mv o) 0) l) + u10 = J (lgm mv (dpF mv (stO mv o) 0) (l + 1)) := by
        rw [h10, e9, show lgm mv (dpF mv (stO mv o) 0) (l + 1) = lgm mv (dpF mv (stO mv o) 0) l + (if wetB mv (dpF mv (stO mv o) 0) (mv (2836 + 3 * l)) (mv (2836 + 3 * l + 1)) = decide (mv (2836 + 3 * l + 2) = 1) then 1 else 0) from rfl, ← J_add]
        simp only [J01 hlv.2.2]
        split <;> rfl
      rw [e]; exact ih
  · refine g_260_9 h2.1 ⟨fun _ => hQ, fun e => ?_⟩
    exfalso; simp (disch := omega) only [J_add, J_mul, J_sub, J_cl, J_lt, J_le, J_eq, vp_J, n1_ne, n1_lt, n1_le, n1_nlt, n1_nle, h2.2.1.at] at e; omega
theorem cc_like (h : CIv σ x0 mv kv img tp n fl) (hB : 16 ≤ B.1 ∧ 1000 ≤ B.2) {a1 : Int32}
    (h0 : ∀ k1, k1 < mv 4 → a1 = J k1 → ∀ τ, CIv τ x0 mv kv img tp n fl → FCl σ τ → Q (.inl (some (.int (J (lgm mv (dpF mv (stO mv k1) 0) (mv 8)))))) τ) (h1 : ¬ (IX a1 (mv 4)) → Q (.inr 0) σ) : WP gT (d + 18) B 134 0 [.ref x0, .int a1] [] σ Q := by
  have hx := h.x
  have hv := h.mv_.1
  have ho := h.mv_.2.1
  have hs := hv.s
  have ho1 := ho.s
  refine g_134_0 h.sh hB ⟨fun c1 => ?_, fun c1 => h1 (fun k => c1 (h.gO.mpr k))⟩
  obtain ⟨k1, hk1, rfl⟩ := h.gO.mp c1
  have h0 := h0 k1 hk1 rfl
  refine c_floodOf h hk1 (fun τ h2 hF hS hC hf => ?_)
  dsimp only [oR]
  have h0 := h0 τ h2 hF
  exact ⟨hS, c_logsMet h2 hC (sub_11_98_3 hS) h0⟩
theorem rr_like (hy : y0 = 260) (hv : VG mv) (ho : VOo mv) (h : RIv σ y0 mv kv img tp n fl) {a1 : Int32}
    (h0 : ∀ k1, k1 < mv 4 → a1 = J k1 → ∀ τ, RIv τ y0 mv kv img tp n fl → FRf σ τ → sI τ y0 0 = J 0 → Q (.inl (some (.int (J (lgm mv (dpF mv (stO mv k1) 0) (mv 8)))))) τ) (h1 : ¬ (IX a1 (mv 4)) → ∀ τ v, RIv τ y0 mv kv img tp n fl → FRf σ τ → sI τ y0 0 = J 1 → Q (.inl (some (.int v))) τ) : WP gT (d + 6) B 261 0 [.ref y0, .int a1] [] σ Q := by
  have hs := hv.s
  have ho1 := ho.s
  by_cases c : IX a1 (mv 4)
  · obtain ⟨k1, hk1, rfl⟩ := c
    have t1 : ¬ f_167 σ y0 (J k1) = J 0 := fun e => (r167 h.2.1 ho).mp e ⟨k1, hk1, rfl⟩
    have h0 := h0 k1 hk1 rfl
    refine g_261_0 h.1 ?_
    simp only [if_neg t1]
    refine ⟨fun _ => ?_, fun e => absurd ret0 e⟩
    refine r_likeOf hy hv ho h.thr hk1 (fun τ h2 hF ht => ?_)
    exact h0 τ h2 ((FRf.th hy).tr hF) (ht.trans sI_same)
  · refine g_261_0 h.1 ?_
    have hu1 : (if (f_167 σ y0 a1) = (J 0) then (J 1) else (J 0)) = J 1 := by
      by_cases q1 : f_167 σ y0 a1 = J 0
      · rw [if_pos q1]
      rw [if_neg q1]
      exact absurd (Classical.not_not.mp (fun e => q1 ((r167 h.2.1 ho).mpr e))) c
    rw [hu1]
    exact ⟨fun e => absurd e ret1, fun _ => h1 c _ _ h.thr (FRf.th hy) sI_same⟩
/-- the likest of the first openings: which, and how like -/
def lkb (mv : Mem) : Nat → Int32 × Int32
  | 0 => (-J 1, -J 1)
  | o + 1 => if J (lgm mv (dpF mv (stO mv o) 0) (mv 8)) ≤ (lkb mv o).2 then lkb mv o else (J o, J (lgm mv (dpF mv (stO mv o) 0) (mv 8)))
theorem ite_le {α : Type} {x y : Int32} {a b : α} : (if x < y then a else b) = if y ≤ x then b else a := by
  by_cases c : y ≤ x
  · rw [if_pos c, if_neg (by rw [Int32.lt_iff_toInt_lt]; rw [Int32.le_iff_toInt_le] at c; omega)]
  · rw [if_neg c, if_pos (by rw [Int32.lt_iff_toInt_lt]; rw [Int32.le_iff_toInt_le] at c; omega)]
theorem cc_likest (h : CIv σ x0 mv kv img tp n fl) (h0 : ∀ τ, CIv τ x0 mv kv img tp n fl → FCl σ τ → Q (.inl (some (.int ((lkb mv (mv 4)).1)))) τ) : WP gT (d + 7) B 135 0 [.ref x0, .retAddr 0, .retAddr 0, .retAddr 0, .retAddr 0] [] σ Q := by
  have hx := h.x
  have hv := h.mv_.1
  have ho1 := h.mv_.2.1.s
  refine g_135_0 (upto (I := fun _ τ => CIv τ x0 mv kv img tp n fl ∧ FCl σ τ) (W := fun o τ => ∀ x4 : Value, WP gT (d + 7) B 135 6 [.ref x0, .int ((lkb mv o).1), .int ((lkb mv o).2), .int (J o), x4] [] τ Q) (mv 4) ?_ ?_ 0 σ (Nat.zero_le _) ⟨h, FCl.rf⟩ _)
  · intro o τ hk hI ih x4
    refine g_135_6 hI.1.sh ⟨fun e => ?_, fun _ => c_floodOf hI.1 hk (fun ρ h2 hF hS hC hf => ⟨hS, c_logsMet h2 hC (sub_11_98_3 hS) ?_⟩)⟩
    · exfalso; rw [hI.1.mv_.2.2.2.2.1.2.1] at e; simp (disch := omega) only [J_add, J_mul, J_sub, J_cl, J_lt, J_le, J_eq, vp_J, n1_ne, n1_lt, n1_le, n1_nlt, n1_nle] at e; omega
    · dsimp only [oI]
      have ih := ih ρ ⟨h2, hI.2.tr hF⟩ (.int (J (lgm mv (dpF mv (stO mv o) 0) (mv 8))))
      rw [show lkb mv (o + 1) = if J (lgm mv (dpF mv (stO mv o) 0) (mv 8)) ≤ (lkb mv o).2 then lkb mv o else (J o, J (lgm mv (dpF mv (stO mv o) 0) (mv 8))) from rfl] at ih
      rw [J_add]
      by_cases c : J (lgm mv (dpF mv (stO mv o) 0) (mv 8)) ≤ (lkb mv o).2
      · rw [if_pos c] at ih; rw [if_pos c, if_pos c]; exact ih
      · rw [if_neg c] at ih; rw [if_neg c, if_neg c]; exact ih
  · intro τ hI x4
    refine g_135_6 hI.1.sh ⟨fun _ => h0 τ hI.1 hI.2, fun e => ?_⟩
    exfalso; rw [hI.1.mv_.2.2.2.2.1.2.1] at e; simp (disch := omega) only [J_add, J_mul, J_sub, J_cl, J_lt, J_le, J_eq, vp_J, n1_ne, n1_lt, n1_le, n1_nlt, n1_nle] at e; omega
theorem rr_likest (hy : y0 = 260) (hv : VG mv) (ho : VOo mv) (h : RIv σ y0 mv kv img tp n fl) (h0 : ∀ τ, RIv τ y0 mv kv img tp n fl → FRf σ τ → Q (.inl (some (.int ((lkb mv (mv 4)).1)))) τ) : WP gT (d + 6) B 262 0 [.ref y0, .retAddr 0, .retAddr 0, .retAddr 0, .retAddr 0] [] σ Q := by
  have ho1 := ho.s
  refine g_262_0 h.1 (upto (I := fun _ τ => RIv τ y0 mv kv img tp n fl ∧ FRf σ τ) (W := fun o τ => ∀ x4 : Value, WP gT (d + 6) B 262 11 [.ref y0, .int ((lkb mv o).1), .int ((lkb mv o).2), .int (J o), x4] [] τ Q) (mv 4) ?_ ?_ 0 _ (Nat.zero_le _) ⟨h.thr, FRf.th hy⟩ _)
  · intro o τ hk hI ih x4
    refine g_262_11 hI.1.1 ⟨fun e => ?_, fun _ => r_likeOf hy hv ho hI.1 hk (fun ρ h2 hF _ => ?_)⟩
    · exfalso; simp (disch := omega) only [J_add, J_mul, J_sub, J_cl, J_lt, J_le, J_eq, vp_J, n1_ne, n1_lt, n1_le, n1_nlt, n1_nle, hI.1.2.1.at] at e; omega
    · dsimp only [oI]
      have ih := ih ρ ⟨h2, hI.2.tr hF⟩ (.int (J (lgm mv (dpF mv (stO mv o) 0) (mv 8))))
      rw [show lkb mv (o + 1) = if J (lgm mv (dpF mv (stO mv o) 0) (mv 8)) ≤ (lkb mv o).2 then lkb mv o else (J o, J (lgm mv (dpF mv (stO mv o) 0) (mv 8))) from rfl] at ih
      rw [J_add, ite_le, ite_le]
      by_cases c : J (lgm mv (dpF mv (stO mv o) 0) (mv 8)) ≤ (lkb mv o).2
      · rw [if_pos c] at ih; rw [if_pos c, if_pos c]; exact ih
      · rw [if_neg c] at ih; rw [if_neg c, if_neg c]; exact ih
  · intro τ hI x4
    refine g_262_11 hI.1.1 ⟨fun _ => h0 τ hI.1 hI.2, fun e => ?_⟩
    exfalso; simp (disch := omega) only [J_add, J_mul, J_sub, J_cl, J_lt, J_le, J_eq, vp_J, n1_ne, n1_lt, n1_le, n1_nlt, n1_nle, hI.1.2.1.at] at e; omega
/-- how far a quarter is from a person's time -/
def far (mv : Mem) (k q : Nat) : Nat := if mv (2728 + 6 * k + 1) ≤ q then (if q ≤ mv (2728 + 6 * k + 2) then 0 else q - mv (2728 + 6 * k + 2)) else mv (2728 + 6 * k + 1) - q
def nea (mv : Mem) (dp : Nat → Nat → Int32) (k : Nat) : Nat → Nat
  | 0 => 99
  | q + 1 => if wetB mv dp (mv (2728 + 6 * k)) q = true then (if nea mv dp k q ≤ far mv k q then nea mv dp k q else far mv k q) else nea mv dp k q
theorem nea_le (mv : Mem) (dp : Nat → Nat → Int32) (k : Nat) : ∀ q, nea mv dp k q ≤ 99 := by
  intro q
  induction q with
  | zero => exact Nat.le_refl _
  | succ q ih => rw [show nea mv dp k (q + 1) = if wetB mv dp (mv (2728 + 6 * k)) q = true then (if nea mv dp k q ≤ far mv k q then nea mv dp k q else far mv k q) else nea mv dp k q from rfl]; repeat' split
                 all_goals omega
theorem far_c {k q : Nat} (h1 : mv (2728 + 6 * k + 1) ≤ mv (2728 + 6 * k + 2)) (h2 : mv (2728 + 6 * k + 2) ≤ 95) (hq : q < 96) {u : Int32} (hu : u = if J (mv (2728 + 6 * k + 1)) - J q < J q - J (mv (2728 + 6 * k + 2)) then J q - J (mv (2728 + 6 * k + 2)) else J (mv (2728 + 6 * k + 1)) - J q) : (if u < J 0 then J 0 else u) = J (far mv k q) := by
  have e0 : (J 0).toInt = 0 := by decide
  apply Int32.toInt_inj.mp
  have hf : far mv k q ≤ 1000 := by unfold far; repeat' split
                                    all_goals omega
  rw [J_int (show far mv k q < 2147483648 by omega)]
  have hu1 : u.toInt = if (mv (2728 + 6 * k + 1) : Int) - q < q - mv (2728 + 6 * k + 2) then (q : Int) - mv (2728 + 6 * k + 2) else (mv (2728 + 6 * k + 1) : Int) - q := by
    rw [hu]
    simp only [Int32.lt_iff_toInt_lt, sub_int (show mv (2728 + 6 * k + 1) ≤ 1000000 by omega) (show q ≤ 1000000 by omega), sub_int (show q ≤ 1000000 by omega) (show mv (2728 + 6 * k + 2) ≤ 1000000 by omega)]
    split
    · rw [sub_int (by omega) (by omega)]
    · rw [sub_int (by omega) (by omega)]
  simp only [Int32.lt_iff_toInt_lt, e0]
  unfold far
  split at hu1 <;> split <;> repeat' split
  all_goals first | (rw [e0]; omega) | omega
theorem cc_near (h : CIv σ x0 mv kv img tp n fl) (hB : 16 ≤ B.1 ∧ 1000 ≤ B.2) {a1 a2 : Int32}
    (h0 : ∀ k1 k2, k1 < mv 4 → k2 < mv 5 → a1 = J k1 → a2 = J k2 → ∀ τ, CIv τ x0 mv kv img tp n fl → FCl σ τ → Q (.inl (some (.int (J (nea mv (dpF mv (stO mv k1) 0) k2 96))))) τ) (h1 : ¬ (IX a1 (mv 4) ∧ IX a2 (mv 5)) → Q (.inr 0) σ) : WP gT (d + 18) B 136 0 [.ref x0, .int a1, .int a2, .retAddr 0, .retAddr 0, .retAddr 0, .retAddr 0, .retAddr 0] [] σ Q := by
  have hx := h.x
  have hv := h.mv_.1
  have ho := h.mv_.2.1
  have hs := hv.s
  have ho1 := ho.s
  refine g_136_0 h.sh hB ⟨fun c1 => ⟨fun c2 => ?_, fun c2 => h1 (fun k => c2 (h.gK.mpr k.2))⟩, fun c1 => h1 (fun k => c1 (h.gO.mpr k.1))⟩
  obtain ⟨k1, hk1, rfl⟩ := h.gO.mp c1
  obtain ⟨k2, hk2, rfl⟩ := h.gK.mp c2
  have h0 := h0 k1 k2 hk1 hk2 rfl rfl
  refine c_floodOf h hk1 (fun τ h2 hF hS hC hf => ?_)
  dsimp only [oR]
  have h0 := h0 τ h2 hF
  have hkv := ho.k hk2
  have hpv := hv.p hkv.1
  have hPk := h2.Pp.2.1 k2 hk2
  have hgp := h2.G.p hkv.1
  refine ⟨hS, ?_⟩
  have key := upto0 (W := fun q => ∀ x7 : Value, WP gT (d + 18) (B.1 - 2, B.2 - 12) 136 32 [.ref x0, .int (J k1), .int (J k2), .ref (x0 + 98), .ref (x0 + 48), .int (J (nea mv (dpF mv (stO mv k1) 0) k2 q)), .int (J q), x7] [] τ Q) 96 (fun q hq ih x7 => ?_) (fun x7 => ?_) 0 (by omega)
  · exact key _
  · have hnl := nea_le mv (dpF mv (stO mv k1) 0) k2 q
    refine g_136_32 hS (sub_11_48_6 hS) (sub_11_98_3 hS) ⟨fun e => ?_, fun _ => ?_⟩
    · exfalso; simp (disch := omega) only [J_add, J_mul, J_sub, J_cl, J_lt, J_le, J_eq, vp_J, n1_ne, n1_lt, n1_le, n1_nlt, n1_nle] at e; omega
    · simp (disch := omega) only [J_cl, hPk]
      simp (disch := omega) only [J_cl, hgp, cv_32 hC h2.G hv, b01]
      rw [show nea mv (dpF mv (stO mv k1) 0) k2 (q + 1) = if wetB mv (dpF mv (stO mv k1) 0) (mv (2728 + 6 * k2)) q = true then (if nea mv (dpF mv (stO mv k1) 0) k2 q ≤ far mv k2 q then nea mv (dpF mv (stO mv k1) 0) k2 q else far mv k2 q) else nea mv (dpF mv (stO mv k1) 0) k2 q from rfl] at ih
      refine ⟨(by simp (disch := omega) only [J_add, J_mul, J_sub, J_cl, vp_J]; omega), (by simp (disch := omega) only [J_add, J_mul, J_sub, J_cl, vp_J]; omega), (by simp (disch := omega) only [J_add, J_mul, J_sub, J_cl, vp_J]; omega), (by simp (disch := omega) only [J_add, J_mul, J_sub, J_cl, vp_J]; omega), fun c => ?_, fun c => ⟨(by simp (disch := omega) only [J_add, J_mul, J_sub, J_cl, vp_J]; omega), (by simp (disch := omega) only [J_add, J_mul, J_sub, J_cl, vp_J]; omega), fun u7 h7 => fun u8 h8 => ?_⟩⟩
      · rw [if_neg (by rw [c]; decide)] at ih; rw [J_add]; exact ih _
      · rw [if_pos (by simpa using c)] at ih
        rw [far_c hkv.2.1 hkv.2.2.1 hq h7] at h8
        have hfl : far mv k2 q ≤ 1000 := by unfold far; repeat' split
                                            all_goals omega
        have e8 : u8 = J (if nea mv (dpF mv (stO mv k1) 0) k2 q ≤ far mv k2 q then nea mv (dpF mv (stO mv k1) 0) k2 q else far mv k2 q) := by
          rw [h8]; simp (disch := omega) only [J_lt]
          by_cases c2 : far mv k2 q < nea mv (dpF mv (stO mv k1) 0) k2 q
          · rw [if_pos c2, if_neg (by omega)]
          · rw [if_neg c2, if_pos (by omega)]
        rw [e8, J_add]; exact ih _
  · refine g_136_32 hS (sub_11_48_6 hS) (sub_11_98_3 hS) ⟨fun _ => h0, fun e => ?_⟩
    exfalso; simp (disch := omega) only [J_add, J_mul, J_sub, J_cl, J_lt, J_le, J_eq, vp_J, n1_ne, n1_lt, n1_le, n1_nlt, n1_nle] at e; omega
theorem rr_near (hy : y0 = 260) (hv : VG mv) (ho : VOo mv) (h : RIv σ y0 mv kv img tp n fl) {a1 a2 : Int32}
    (h0 : ∀ k1 k2, k1 < mv 4 → k2 < mv 5 → a1 = J k1 → a2 = J k2 → ∀ τ, RIv τ y0 mv kv img tp n fl → FRf σ τ → sI τ y0 0 = J 0 → Q (.inl (some (.int (J (nea mv (dpF mv (stO mv k1) 0) k2 96))))) τ) (h1 : ¬ (IX a1 (mv 4) ∧ IX a2 (mv 5)) → ∀ τ v, RIv τ y0 mv kv img tp n fl → FRf σ τ → sI τ y0 0 = J 1 → Q (.inl (some (.int v))) τ) : WP gT (d + 5) B 263 0 [.ref y0, .int a1, .int a2, .retAddr 0, .retAddr 0, .retAddr 0, .retAddr 0, .retAddr 0] [] σ Q := by
  have hs := hv.s
  have ho1 := ho.s
  by_cases c : IX a1 (mv 4) ∧ IX a2 (mv 5)
  · obtain ⟨⟨k1, hk1, rfl⟩, ⟨k2, hk2, rfl⟩⟩ := c
    have t1 : ¬ f_167 σ y0 (J k1) = J 0 := fun e => (r167 h.2.1 ho).mp e ⟨k1, hk1, rfl⟩
    have t2 : ¬ f_168 σ y0 (J k2) = J 0 := fun e => (r168 h.2.1 ho).mp e ⟨k2, hk2, rfl⟩
    have h0 := h0 k1 k2 hk1 hk2 rfl rfl
    refine g_263_0 h.1 (fun u hu => ?_)
    rw [if_neg t1, if_neg t2] at hu
    subst hu
    refine ⟨fun _ => ?_, fun e => absurd ret0 e⟩
    refine r_run hy hv ho h.thr hk1 (fun τ h2 hF ht hD hf hn hm => ?_)
    dsimp only [oV]
    have h0 := h0 τ h2 ((FRf.th hy).tr hF) (ht.trans sI_same)
    have hkv := ho.k hk2
    have hpv := hv.p hkv.1
    have hrv := hv.r hpv.1
    simp (disch := omega) only [rv_171 h2.2.1]
    refine ⟨h2.1, (by simp (disch := omega) only [J_add, J_mul, J_sub, J_cl, vp_J]; omega), (by simp (disch := omega) only [J_add, J_mul, J_sub, J_cl, vp_J]; omega), ?_⟩
    have key := upto0 (W := fun q => ∀ x7 : Value, WP gT (d + 5) B 263 61 [.ref y0, .int (J k1), .int (J k2), .int (J (mv (2728 + 6 * k2 + 1))), .int (J (mv (2728 + 6 * k2 + 2))), .int (J (nea mv (dpF mv (stO mv k1) 0) k2 q)), .int (J q), x7] [] τ Q) 96 (fun q hq ih x7 => ?_) (fun x7 => ?_) 0 (by omega)
    · exact key _
    · have hnl := nea_le mv (dpF mv (stO mv k1) 0) k2 q
      refine g_263_61 h2.1 ⟨fun e => ?_, fun _ => ?_⟩
      · exfalso; simp (disch := omega) only [J_add, J_mul, J_sub, J_cl, J_lt, J_le, J_eq, vp_J, n1_ne, n1_lt, n1_le, n1_nlt, n1_nle] at e; omega
      · simp (disch := omega) only [rv_171 h2.2.1, rv_170 h2.2.1, rv_169 h2.2.1, rv_203 hD hv, Nat.add_zero, b01]
        simp (disch := omega) only [J_add, J_mul, J_sub, J_cl, J_lt, J_le, J_eq, vp_J, n1_ne, n1_lt, n1_le, n1_nlt, n1_nle, Nat.add_zero]
        rw [show nea mv (dpF mv (stO mv k1) 0) k2 (q + 1) = if wetB mv (dpF mv (stO mv k1) 0) (mv (2728 + 6 * k2)) q = true then (if nea mv (dpF mv (stO mv k1) 0) k2 q ≤ far mv k2 q then nea mv (dpF mv (stO mv k1) 0) k2 q else far mv k2 q) else nea mv (dpF mv (stO mv k1) 0) k2 q from rfl] at ih
        refine ⟨(by omega), (by omega), (by omega), (by omega), (by omega), (by omega), fun c => ?_, fun c => fun u8 h8 => ?_⟩
        · rw [if_neg (by rw [c]; decide)] at ih; exact ih _
        · rw [if_pos (by simpa using c)] at ih
          have ef : (if mv (2728 + 6 * k2 + 1) ≤ q then (if q ≤ mv (2728 + 6 * k2 + 2) then J 0 else J (q - mv (2728 + 6 * k2 + 2))) else J (mv (2728 + 6 * k2 + 1) - q)) = J (far mv k2 q) := by
            unfold far
            by_cases c1 : mv (2728 + 6 * k2 + 1) ≤ q
            · rw [if_pos c1, if_pos c1]
              by_cases c2 : q ≤ mv (2728 + 6 * k2 + 2)
              · rw [if_pos c2, if_pos c2]
              · rw [if_neg c2, if_neg c2]
            · rw [if_neg c1, if_neg c1]
          have hfl : far mv k2 q ≤ 1000 := by unfold far; repeat' split
                                              all_goals omega
          have e8 : u8 = J (if nea mv (dpF mv (stO mv k1) 0) k2 q ≤ far mv k2 q then nea mv (dpF mv (stO mv k1) 0) k2 q else far mv k2 q) := by
            rw [h8, ef]; simp (disch := omega) only [J_le]
            split <;> rfl
          rw [e8]; exact ih _
    · refine g_263_61 h2.1 ⟨fun _ => h0, fun e => ?_⟩
      exfalso; simp (disch := omega) only [J_add, J_mul, J_sub, J_cl, J_lt, J_le, J_eq, vp_J, n1_ne, n1_lt, n1_le, n1_nlt, n1_nle] at e; omega
  · refine g_263_0 h.1 (fun u hu => ?_)
    have hu1 : u = J 1 := by
      rw [hu]
      by_cases q1 : f_167 σ y0 a1 = J 0
      · rw [if_pos q1]
      rw [if_neg q1]
      by_cases q2 : f_168 σ y0 a2 = J 0
      · rw [if_pos q2]
      rw [if_neg q2]
      exact absurd ⟨Classical.not_not.mp (fun e => q1 ((r167 h.2.1 ho).mpr e)), Classical.not_not.mp (fun e => q2 ((r168 h.2.1 ho).mpr e))⟩ c
    subst hu1
    exact ⟨fun e => absurd e ret1, fun _ => h1 c _ _ h.thr (FRf.th hy) sI_same⟩
/-- power of the first quarters -/
def pwr (mv st : Mem) : Nat → Int64
  | 0 => Int64.ofInt 0
  | q + 1 => pwr mv st q + (if J (mv 13) ≤ ltF mv st q then J (mv 13) else ltF mv st q).toInt64 * (J (mv (212 + q))).toInt64
theorem min_le {x y : Int32} : (if x < y then x else y) = if x ≤ y then x else y := by
  by_cases c : x < y
  · rw [if_pos c, if_pos (by rw [Int32.le_iff_toInt_le]; rw [Int32.lt_iff_toInt_lt] at c; omega)]
  · by_cases c2 : x ≤ y
    · rw [if_neg c, if_pos c2]
      apply Int32.toInt_inj.mp; rw [Int32.le_iff_toInt_le] at c2; rw [Int32.lt_iff_toInt_lt] at c; omega
    · rw [if_neg c, if_neg c2]
theorem cc_power (h : CIv σ x0 mv kv img tp n fl) (hB : 16 ≤ B.1 ∧ 1000 ≤ B.2) {a1 : Int32}
    (h0 : ∀ k1, k1 < mv 4 → a1 = J k1 → ∀ τ, CIv τ x0 mv kv img tp n fl → FCl σ τ → Q (.inl (some (.long (pwr mv (stO mv k1) 96)))) τ) (h1 : ¬ (IX a1 (mv 4)) → Q (.inr 0) σ) : WP gT (d + 18) B 129 0 [.ref x0, .int a1, .retAddr 0, .retAddr 0, .retAddr 0, .retAddr 0, .retAddr 0] [] σ Q := by
  have hx := h.x
  have hv := h.mv_.1
  have ho := h.mv_.2.1
  have hs := hv.s
  have ho1 := ho.s
  refine g_129_0 h.sh hB ⟨fun c1 => ?_, fun c1 => h1 (fun k => c1 (h.gO.mpr k))⟩
  obtain ⟨k1, hk1, rfl⟩ := h.gO.mp c1
  have h0 := h0 k1 hk1 rfl
  refine c_floodOf h hk1 (fun τ h2 hF hS hC hf => ?_)
  dsimp only [oR]
  have h0 := h0 τ h2 hF
  refine ⟨hS, ?_⟩
  refine upto0 (W := fun q => WP gT (d + 18) (B.1 - 1, B.2 - 6) 129 30 [.ref x0, .int (J k1), .ref (x0 + 98), .ref (x0 + 29), .long (pwr mv (stO mv k1) q), .retAddr 0, .int (J q)] [] τ Q) 96 (fun q hq ih => ?_) ?_ 0 (by omega)
  · refine g_129_30 (sub_11_98_3 hS) hS (hS.1 29 (by decide)).1 ⟨fun e => ?_, fun _ => ?_⟩
    · exfalso; simp (disch := omega) only [J_add, J_mul, J_sub, J_cl, J_lt, J_le, J_eq, vp_J, n1_ne, n1_lt, n1_le, n1_nlt, n1_nle] at e; omega
    · rw [J_cl (by omega), (hf q hq).1.2.1, (h2.G.q hq).2.2, show sZ τ (x0 + 29) = 96 from (hS.1 29 (by decide)).2, h2.mv_.2.2.2.2.1.2.2.2.2.2.1, min_le]
      refine ⟨(by simp (disch := omega) only [J_add, J_mul, J_sub, J_cl, vp_J]; omega), (by simp (disch := omega) only [J_add, J_mul, J_sub, J_cl, vp_J]; omega), fun u hu => ?_⟩
      rw [hu, J_add]; exact ih
  · refine g_129_30 (sub_11_98_3 hS) hS (hS.1 29 (by decide)).1 ⟨fun _ => h0, fun e => ?_⟩
    exfalso; simp (disch := omega) only [J_add, J_mul, J_sub, J_cl, J_lt, J_le, J_eq, vp_J, n1_ne, n1_lt, n1_le, n1_nlt, n1_nle] at e; omega
theorem rr_power (hy : y0 = 260) (hv : VG mv) (ho : VOo mv) (h : RIv σ y0 mv kv img tp n fl) {a1 : Int32}
    (h0 : ∀ k1, k1 < mv 4 → a1 = J k1 → ∀ τ, RIv τ y0 mv kv img tp n fl → FRf σ τ → sI τ y0 0 = J 0 → Q (.inl (some (.long (pwr mv (stO mv k1) 96)))) τ) (h1 : ¬ (IX a1 (mv 4)) → ∀ τ v, RIv τ y0 mv kv img tp n fl → FRf σ τ → sI τ y0 0 = J 1 → Q (.inl (some (.long v))) τ) : WP gT (d + 5) B 251 0 [.ref y0, .int a1, .retAddr 0, .retAddr 0, .retAddr 0] [] σ Q := by
  have hs := hv.s
  have ho1 := ho.s
  by_cases c : IX a1 (mv 4)
  · obtain ⟨k1, hk1, rfl⟩ := c
    have t1 : ¬ f_167 σ y0 (J k1) = J 0 := fun e => (r167 h.2.1 ho).mp e ⟨k1, hk1, rfl⟩
    have h0 := h0 k1 hk1 rfl
    refine g_251_0 h.1 ?_
    simp only [if_neg t1]
    refine ⟨fun _ => ?_, fun e => absurd ret0 e⟩
    refine r_run hy hv ho h.thr hk1 (fun τ h2 hF ht hD hf hn hm => ?_)
    dsimp only [oV]
    have h0 := h0 τ h2 ((FRf.th hy).tr hF) (ht.trans sI_same)
    refine upto0 (W := fun q => WP gT (d + 5) B 251 36 [.ref y0, .int (J k1), .long (pwr mv (stO mv k1) q), .retAddr 0, .int (J q)] [] τ Q) 96 (fun q hq ih => ?_) ?_ 0 (by omega)
    · refine g_251_36 h2.1 ⟨fun e => ?_, fun _ => ?_⟩
      · exfalso; simp (disch := omega) only [J_add, J_mul, J_sub, J_cl, J_lt, J_le, J_eq, vp_J, n1_ne, n1_lt, n1_le, n1_nlt, n1_nle] at e; omega
      · rw [J_cl (by omega), hf.2.2.1 q hq, h2.2.1.at (by omega)]
        refine ⟨(by simp (disch := omega) only [J_add, J_mul, J_sub, J_cl, vp_J]; omega), fun _ => ⟨(by simp (disch := omega) only [J_add, J_mul, J_sub, J_cl, vp_J]; omega), trivial⟩, fun u3 h3 => ⟨(by simp (disch := omega) only [J_add, J_mul, J_sub, J_cl, vp_J]; omega), fun u5 h5 => ?_⟩⟩
        simp (disch := omega) only [J_add, J_mul, J_sub, J_cl, J_lt, J_le, J_eq, vp_J, n1_ne, n1_lt, n1_le, n1_nlt, n1_nle, h2.2.1.at] at h5
        rw [h5, h3, J_add]; exact ih
    · refine g_251_36 h2.1 ⟨fun _ => h0, fun e => ?_⟩
      exfalso; simp (disch := omega) only [J_add, J_mul, J_sub, J_cl, J_lt, J_le, J_eq, vp_J, n1_ne, n1_lt, n1_le, n1_nlt, n1_nle] at e; omega
  · refine g_251_0 h.1 ?_
    have hu1 : (if (f_167 σ y0 a1) = (J 0) then (J 1) else (J 0)) = J 1 := by
      by_cases q1 : f_167 σ y0 a1 = J 0
      · rw [if_pos q1]
      rw [if_neg q1]
      exact absurd (Classical.not_not.mp (fun e => q1 ((r167 h.2.1 ho).mpr e))) c
    rw [hu1]
    exact ⟨fun e => absurd e ret1, fun _ => h1 c _ _ h.thr (FRf.th hy) sI_same⟩
/-- the first quarter of the greatest rise (z = 0) or fall, of quarters 0 to n -/
def sgn (z x : Int32) : Int32 := if z = J 0 then x else -x
def bri (dp : Nat → Nat → Int32) (r : Nat) (z : Int32) : Nat → Nat
  | 0 => 0
  | q + 1 => if sgn z (rs dp r (q + 1)) ≤ sgn z (rs dp r (bri dp r z q)) then bri dp r z q else q + 1
theorem bri_le (dp : Nat → Nat → Int32) (r : Nat) (z : Int32) : ∀ q, bri dp r z q ≤ q := by
  intro q
  induction q with
  | zero => exact Nat.le_refl _
  | succ q ih => rw [show bri dp r z (q + 1) = if sgn z (rs dp r (q + 1)) ≤ sgn z (rs dp r (bri dp r z q)) then bri dp r z q else q + 1 from rfl]; split <;> omega
theorem sgn_mul {z x : Int32} : x * (if z = J 0 then J 1 else -J 1) = sgn z x := by
  unfold sgn
  split
  · exact Int32.mul_one x
  · rw [Int32.mul_neg]; exact congrArg _ (Int32.mul_one x)
theorem cc_most (h : CIv σ x0 mv kv img tp n fl) (hB : 16 ≤ B.1 ∧ 1000 ≤ B.2) {a1 a2 a3 a4 : Int32}
    (h0 : ∀ k1 k2, k1 < mv 4 → k2 < mv 2 → a1 = J k1 → a2 = J k2 → ∀ τ, CIv τ x0 mv kv img tp n fl → FCl σ τ → Q (.inl (some (.int (if a4 = J 0 then sgn a3 (rs (dpF mv (stO mv k1) 0) k2 (bri (dpF mv (stO mv k1) 0) k2 a3 95)) else J (bri (dpF mv (stO mv k1) 0) k2 a3 95))))) τ) (h1 : ¬ (IX a1 (mv 4) ∧ IX a2 (mv 2)) → Q (.inr 0) σ) : WP gT (d + 18) B 109 0 [.ref x0, .int a1, .int a2, .int a3, .int a4, .retAddr 0, .retAddr 0, .retAddr 0] [] σ Q := by
  have hx := h.x
  have hv := h.mv_.1
  have ho := h.mv_.2.1
  have hs := hv.s
  have ho1 := ho.s
  refine g_109_0 h.sh hB ⟨fun c1 => ⟨fun c2 => ?_, fun c2 => h1 (fun k => c2 (h.gR.mpr k.2))⟩, fun c1 => h1 (fun k => c1 (h.gO.mpr k.1))⟩
  obtain ⟨k1, hk1, rfl⟩ := h.gO.mp c1
  obtain ⟨k2, hk2, rfl⟩ := h.gR.mp c2
  have h0 := h0 k1 k2 hk1 hk2 rfl rfl
  refine c_floodOf h hk1 (fun τ h2 hF hS hC hf => ?_)
  dsimp only [oR]
  have h0 := h0 τ h2 hF
  have hb95 := bri_le (dpF mv (stO mv k1) 0) k2 a3 95
  refine ⟨sub_11_98_3 hS, ?_⟩
  have L := upto0 (W := fun q => WP gT (d + 17) (0, 0) 30 5 [.ref (x0 + 98), .int (J k2), .int (if a3 = J 0 then J 1 else -J 1), .int (J (bri (dpF mv (stO mv k1) 0) k2 a3 q)), .int (J (q + 1))] [] τ (oI (fun v6 τ7 => (S_3 τ7 (x0 + 98) ∧ (vp_in (J k2) 8 ∧ (vp_in v6 96 ∧ ((¬ (v6 = (J 0)) → (vp_in (J k2) 8 ∧ (vp_in (v6 - (J 1)) 96 ∧ True))) ∧ (∀ u11 : Int32, u11 = (if a4 = (J 0) then (if a3 = (J 0) then (f_29 τ7 (x0 + 98) (J k2) v6) else (-(f_29 τ7 (x0 + 98) (J k2) v6))) else v6) → Q (.inl (some (.int u11))) τ7)))))) (fun _ _ => False))) 95 (fun q hq ih => ?_) ?_ 0 (by omega)
  · exact g_30_0 L
  · have hbq := bri_le (dpF mv (stO mv k1) 0) k2 a3 q
    refine g_30_5 (sub_11_98_3 hS) ⟨fun e => ?_, fun _ => ?_⟩
    · exfalso; simp (disch := omega) only [J_add, J_mul, J_sub, J_cl, J_lt, J_le, J_eq, vp_J, n1_ne, n1_lt, n1_le, n1_nlt, n1_nle] at e; omega
    · rw [cv_29 hC hv hk2 (by omega), cv_29 hC hv hk2 (by omega), sgn_mul, sgn_mul, J_add]
      rw [show bri (dpF mv (stO mv k1) 0) k2 a3 (q + 1) = if sgn a3 (rs (dpF mv (stO mv k1) 0) k2 (q + 1)) ≤ sgn a3 (rs (dpF mv (stO mv k1) 0) k2 (bri (dpF mv (stO mv k1) 0) k2 a3 q)) then bri (dpF mv (stO mv k1) 0) k2 a3 q else q + 1 from rfl] at ih
      refine ⟨(by simp (disch := omega) only [J_add, J_mul, J_sub, J_cl, vp_J]; omega), (by simp (disch := omega) only [J_add, J_mul, J_sub, J_cl, vp_J]; omega), fun e => ?_, (by simp (disch := omega) only [J_add, J_mul, J_sub, J_cl, vp_J]; omega), (by simp (disch := omega) only [J_add, J_mul, J_sub, J_cl, vp_J]; omega), fun e => ?_, ?_⟩
      · simp (disch := omega) only [J_add, J_mul, J_sub, J_cl, J_lt, J_le, J_eq, vp_J, n1_ne, n1_lt, n1_le, n1_nlt, n1_nle, and_true]; omega
      · simp (disch := omega) only [J_add, J_mul, J_sub, J_cl, J_lt, J_le, J_eq, vp_J, n1_ne, n1_lt, n1_le, n1_nlt, n1_nle] at e
        simp (disch := omega) only [J_add, J_mul, J_sub, J_cl, J_lt, J_le, J_eq, vp_J, n1_ne, n1_lt, n1_le, n1_nlt, n1_nle, and_true]; omega
      · by_cases c : sgn a3 (rs (dpF mv (stO mv k1) 0) k2 (q + 1)) ≤ sgn a3 (rs (dpF mv (stO mv k1) 0) k2 (bri (dpF mv (stO mv k1) 0) k2 a3 q))
        · rw [if_pos c] at ih ⊢; exact ih
        · rw [if_neg c] at ih ⊢; exact ih
  · refine g_30_5 (sub_11_98_3 hS) ⟨fun _ => ⟨sub_11_98_3 hS, (by simp (disch := omega) only [J_add, J_mul, J_sub, J_cl, vp_J]; omega), (by simp (disch := omega) only [J_add, J_mul, J_sub, J_cl, vp_J]; omega), fun e => ?_, fun u hu => ?_⟩, fun e => ?_⟩
    · simp (disch := omega) only [J_add, J_mul, J_sub, J_cl, J_lt, J_le, J_eq, vp_J, n1_ne, n1_lt, n1_le, n1_nlt, n1_nle] at e
      simp (disch := omega) only [J_add, J_mul, J_sub, J_cl, J_lt, J_le, J_eq, vp_J, n1_ne, n1_lt, n1_le, n1_nlt, n1_nle, and_true]; omega
    · rw [cv_29 hC hv hk2 (by omega)] at hu
      rw [hu]; exact h0
    · exfalso; simp (disch := omega) only [J_add, J_mul, J_sub, J_cl, J_lt, J_le, J_eq, vp_J, n1_ne, n1_lt, n1_le, n1_nlt, n1_nle] at e; omega
theorem rr_most (hy : y0 = 260) (hv : VG mv) (ho : VOo mv) (h : RIv σ y0 mv kv img tp n fl) {a1 a2 a3 a4 : Int32}
    (h0 : ∀ k1 k2, k1 < mv 4 → k2 < mv 2 → a1 = J k1 → a2 = J k2 → ∀ τ, RIv τ y0 mv kv img tp n fl → FRf σ τ → sI τ y0 0 = J 0 → Q (.inl (some (.int (if a4 = J 0 then sgn a3 (rs (dpF mv (stO mv k1) 0) k2 (bri (dpF mv (stO mv k1) 0) k2 a3 95)) else J (bri (dpF mv (stO mv k1) 0) k2 a3 95))))) τ) (h1 : ¬ (IX a1 (mv 4) ∧ IX a2 (mv 2)) → ∀ τ v, RIv τ y0 mv kv img tp n fl → FRf σ τ → sI τ y0 0 = J 1 → Q (.inl (some (.int v))) τ) : WP gT (d + 5) B 217 0 [.ref y0, .int a1, .int a2, .int a3, .int a4, .retAddr 0, .retAddr 0, .retAddr 0, .retAddr 0] [] σ Q := by
  have hs := hv.s
  have ho1 := ho.s
  by_cases c : IX a1 (mv 4) ∧ IX a2 (mv 2)
  · obtain ⟨⟨k1, hk1, rfl⟩, ⟨k2, hk2, rfl⟩⟩ := c
    have t1 : ¬ f_167 σ y0 (J k1) = J 0 := fun e => (r167 h.2.1 ho).mp e ⟨k1, hk1, rfl⟩
    have t2 : ¬ f_165 σ y0 (J k2) = J 0 := fun e => (r165 h.2.1 hv).mp e ⟨k2, hk2, rfl⟩
    have h0 := h0 k1 k2 hk1 hk2 rfl rfl
    refine g_217_0 h.1 (fun u hu => ?_)
    rw [if_neg t1, if_neg t2] at hu
    subst hu
    refine ⟨fun _ => ?_, fun e => absurd ret0 e⟩
    refine r_run hy hv ho h.thr hk1 (fun τ h2 hF ht hD hf hn hm => ?_)
    dsimp only [oV]
    have h0 := h0 τ h2 ((FRf.th hy).tr hF) (ht.trans sI_same)
    have hrv := hv.r hk2
    have hne : ¬ f_169 τ y0 (J k2) (J 0) = J 0 := by rw [rv_169 h2.2.1 (r := k2) (w := 0) (by omega), show 336 + 5 * k2 + 0 = 336 + 5 * k2 from rfl, J_eq (by omega) (by omega)]; omega
    have hside : ∀ q, q < 96 → vp_in (J 97 * J k2 + (J q + J 1)) 776 ∧ vp_in (J 336 + J 5 * J k2 + J 0) 4488 ∧ ¬ f_169 τ y0 (J k2) (J 0) = J 0 ∧ vp_in (J 97 * J k2 + J q) 776 ∧ True := fun q hq => ⟨(by simp (disch := omega) only [J_add, J_mul, J_sub, J_cl, vp_J]; omega), (by simp (disch := omega) only [J_add, J_mul, J_sub, J_cl, vp_J]; omega), hne, (by simp (disch := omega) only [J_add, J_mul, J_sub, J_cl, vp_J]; omega), trivial⟩
    have L := upto0 (W := fun q => ∀ x8 : Value, WP gT (d + 5) B 217 48 [.ref y0, .int (J k1), .int (J k2), .int a3, .int a4, .int (J (bri (dpF mv (stO mv k1) 0) k2 a3 q)), .int (sgn a3 (rs (dpF mv (stO mv k1) 0) k2 (bri (dpF mv (stO mv k1) 0) k2 a3 q))), .int (J (q + 1)), x8] [] τ Q) 95 (fun q hq ih x8 => ?_) (fun x8 => ?_) 0 (by omega)
    · refine g_217_48 h2.1 ⟨fun e => absurd e (by decide), fun _ => ⟨⟨fun _ => hside 0 (by omega), fun _ => hside 0 (by omega)⟩, fun u12 h12 u13 h13 => ?_⟩⟩
      rw [if_pos ret0] at h12 h13
      rw [rv_204 hD hv hk2 (by omega)] at h13
      rw [h12, h13]; exact L _
    · refine g_217_48 h2.1 ⟨fun e => ?_, fun _ => ⟨⟨fun _ => hside (q + 1) (by omega), fun _ => hside (q + 1) (by omega)⟩, fun u12 h12 u13 h13 => ?_⟩⟩
      · exfalso; simp (disch := omega) only [J_add, J_mul, J_sub, J_cl, J_lt, J_le, J_eq, vp_J, n1_ne, n1_lt, n1_le, n1_nlt, n1_nle] at e; omega
      · have hn0 : ¬ J (q + 1) ≤ J 0 := by rw [J_le (by omega) (by omega)]; omega
        rw [rv_204 hD hv hk2 (by omega), if_neg hn0, ite_le] at h12 h13
        rw [show bri (dpF mv (stO mv k1) 0) k2 a3 (q + 1) = if sgn a3 (rs (dpF mv (stO mv k1) 0) k2 (q + 1)) ≤ sgn a3 (rs (dpF mv (stO mv k1) 0) k2 (bri (dpF mv (stO mv k1) 0) k2 a3 q)) then bri (dpF mv (stO mv k1) 0) k2 a3 q else q + 1 from rfl] at ih
        rw [J_add]
        have h12 : u12 = if sgn a3 (rs (dpF mv (stO mv k1) 0) k2 (q + 1)) ≤ sgn a3 (rs (dpF mv (stO mv k1) 0) k2 (bri (dpF mv (stO mv k1) 0) k2 a3 q)) then J (bri (dpF mv (stO mv k1) 0) k2 a3 q) else J (q + 1) := h12
        have h13 : u13 = if sgn a3 (rs (dpF mv (stO mv k1) 0) k2 (q + 1)) ≤ sgn a3 (rs (dpF mv (stO mv k1) 0) k2 (bri (dpF mv (stO mv k1) 0) k2 a3 q)) then sgn a3 (rs (dpF mv (stO mv k1) 0) k2 (bri (dpF mv (stO mv k1) 0) k2 a3 q)) else sgn a3 (rs (dpF mv (stO mv k1) 0) k2 (q + 1)) := h13
        by_cases c : sgn a3 (rs (dpF mv (stO mv k1) 0) k2 (q + 1)) ≤ sgn a3 (rs (dpF mv (stO mv k1) 0) k2 (bri (dpF mv (stO mv k1) 0) k2 a3 q))
        · rw [if_pos c] at ih h12 h13; rw [h12, h13]; exact ih _
        · rw [if_neg c] at ih h12 h13; rw [h12, h13]; exact ih _
    · refine g_217_48 h2.1 ⟨fun _ => h0, fun e => ?_⟩
      exfalso; simp (disch := omega) only [J_add, J_mul, J_sub, J_cl, J_lt, J_le, J_eq, vp_J, n1_ne, n1_lt, n1_le, n1_nlt, n1_nle] at e; omega
  · refine g_217_0 h.1 (fun u hu => ?_)
    have hu1 : u = J 1 := by
      rw [hu]
      by_cases q1 : f_167 σ y0 a1 = J 0
      · rw [if_pos q1]
      rw [if_neg q1]
      by_cases q2 : f_165 σ y0 a2 = J 0
      · rw [if_pos q2]
      rw [if_neg q2]
      exact absurd ⟨Classical.not_not.mp (fun e => q1 ((r167 h.2.1 ho).mpr e)), Classical.not_not.mp (fun e => q2 ((r165 h.2.1 hv).mpr e))⟩ c
    subst hu1
    exact ⟨fun e => absurd e ret1, fun _ => h1 c _ _ h.thr (FRf.th hy) sI_same⟩
