/-! ===== hours, the reference ===== -/
variable {d : Nat} {B : Nat × Nat} {Q : Out → Sto → Prop} {P : Nat → Nat → Prop} {σ τ : Sto} {x0 y0 X a m k q L F : Nat} {mv kv w W : Mem} {img : Bool} {tp : Mem} {n : Nat} {fl : Option Nat}
theorem VLg_le (h : k ≤ 1000000000) (h2 : m ≤ 1000000000) : (lg_cmp (VLg k) (VLg m) ≤ J 0) = (k ≤ m) := by
  rw [show J 0 = 0 from rfl, lg_cmp_le, Int64.le_iff_toInt_le, VLg_int h, VLg_int h2]; exact propext (by omega)
theorem VLg_ge (h : k ≤ 1000000000) (h2 : m ≤ 1000000000) : (J 0 ≤ lg_cmp (VLg k) (VLg m)) = (m ≤ k) := by
  rw [show J 0 = 0 from rfl, lg_cmp_ge, Int64.le_iff_toInt_le, VLg_int h, VLg_int h2]; exact propext (by omega)
theorem VLg_lt (h : k ≤ 1000000000) (h2 : m ≤ 1000000000) : (lg_cmp (VLg k) (VLg m) < J 0) = (k < m) := by
  rw [show J 0 = 0 from rfl, lg_cmp_lt, Int64.lt_iff_toInt_lt, VLg_int h, VLg_int h2]; exact propext (by omega)
theorem VLg_eq (h : k ≤ 1000000000) (h2 : m ≤ 1000000000) : (lg_cmp (VLg k) (VLg m) = J 0) = (k = m) := by
  have h1 := VLg_le h h2
  have h3 := VLg_ge h h2
  refine propext ⟨fun e => ?_, fun e => ?_⟩
  · rw [e] at h1 h3
    have a1 : k ≤ m := h1.mp (by decide)
    have a2 : m ≤ k := h3.mp (by decide)
    omega
  · have a1 := h1.mpr (show k ≤ m by omega)
    have a2 := h3.mpr (show m ≤ k by omega)
    rw [Int32.le_iff_toInt_le] at a1 a2
    exact Int32.toInt_inj.mp (by omega)
theorem ofInt0 : Int64.ofInt 0 = VLg 1 := rfl
theorem ofIntm : Int64.ofInt (-1) = VLg 0 := rfl
theorem VLg_max (h : k ≤ 1000000000) (h2 : m ≤ 1000000000) : (if lg_cmp (VLg k) (VLg m) ≤ J 0 then VLg m else VLg k) = VLg (max m k) := by
  by_cases c : k ≤ m
  · rw [if_pos (by rw [VLg_le h h2]; exact c), show max m k = m by omega]
  · rw [if_neg (by rw [VLg_le h h2]; exact c), show max m k = k by omega]
theorem rv_253 (hv : VG mv) (hM : RMm σ y0 mv) (hF : F ≤ 9999) (hq : q < 96) : f_253 σ y0 (J q) (J F) = N64 (wF mv F q) := by
  have := (hv.q hq).2.2
  unfold f_253 wF
  rw [J_add, J_cl (by omega), hM.at (by omega), N64_J (by omega), N64_J (by omega), N64_mul]
/-- bounds of a plan -/
def HBd (W : Mem) (L : Nat) : Prop := (1 ≤ L ∧ L ≤ 96) ∧ (∀ a b, a ≤ b → W a ≤ W b) ∧ W 96 ≤ 96000000
theorem HBd.l (h : HBd W L) : 1 ≤ L ∧ L ≤ 96 := h.1
theorem HBd.wm (h : HBd W L) : ∀ a b, a ≤ b → W a ≤ W b := h.2.1
theorem HBd.b (h : HBd W L) : W 96 ≤ 96000000 := h.2.2
theorem HBd.p (h : HBd W L) (hq : q ≤ 96) : PL W L q m ≤ 96000001 ∧ NX W L q m ≤ 96000001 := by
  have := PL_b (W := W) (m := m) h.l.1 h.wm 96 q hq (by omega)
  have w1 := h.wm q 96 hq
  have := h.b
  omega
theorem HBd.kb (h : HBd W L) : PK W L k q m ≤ 192000001 := by
  rw [PK_e]
  by_cases c : m < k ∨ 96 < q + k
  · rw [if_pos c]; omega
  · rw [if_neg c]
    have := (h.p (q := q + k) (m := m - k) (by omega)).2
    have w1 := h.wm (q + k) 96 (by omega)
    have := h.b
    by_cases c2 : NX W L (q + k) (m - k) = 0
    · rw [if_pos c2]; omega
    · rw [if_neg c2]; omega
theorem r_piece (hv : VG mv) (nx : S_12 σ y0) (hM : RMm σ y0 mv) (hF : F ≤ 9999) (hb : HBd (HW (wF mv F)) L) (hq : q < 96) (hm : m ≤ 96)
    (hr : q + L ≤ 96 → L ≤ m → sL σ (y0 + 16) (97 * (q + L) + m - L) = VLg (NX (HW (wF mv F)) L (q + L) (m - L)))
    (hQ : Q (.inl (some (.long (VLg (PK (HW (wF mv F)) L L q m))))) σ) : WP gT (d + 1) B 254 0 [.ref y0, .int (J q), .int (J m), .int (J L), .int (J F), .retAddr 0, .retAddr 0, .retAddr 0] [] σ Q := by
  have hl := hb.l
  rw [PK_e] at hQ
  refine g_254_0 nx ⟨fun c => ?_, fun c => ?_⟩
  · rw [J_lt (by omega) (by omega)] at c
    rw [if_pos (Or.inl c)] at hQ; exact hQ
  · rw [J_lt (by omega) (by omega)] at c
    rw [J_add]
    refine ⟨fun c2 => ?_, fun c2 => ?_⟩
    · rw [J_le (by omega) (by omega)] at c2
      have hr := hr c2 (by omega)
      have bn := (hb.p (q := q + L) (m := m - L) c2).2
      rw [if_neg (show ¬ (m < L ∨ 96 < q + L) by omega)] at hQ
      rw [J_mul, J_add, J_sub (by omega), J_cl (by omega), hr, ofInt0]
      refine ⟨(by simp (disch := omega) only [J_add, J_mul, J_sub, J_cl, vp_J]; omega), fun c3 => ?_, fun c3 => ?_⟩
      · rw [VLg_ge (by omega) (by omega)] at c3
        rw [if_neg (by omega)] at hQ
        obtain ⟨v, hv2⟩ : ∃ v, NX (HW (wF mv F)) L (q + L) (m - L) = v + 1 := ⟨NX (HW (wF mv F)) L (q + L) (m - L) - 1, by omega⟩
        rw [hv2] at hQ ⊢
        have L1 : ∀ t i, i + t = q + L → q ≤ i → WP gT (d + 1) B 254 48 [.ref y0, .int (J q), .int (J m), .int (J L), .int (J F), .long (N64 (v + (HW (wF mv F) i - HW (wF mv F) q))), .retAddr 0, .int (J i)] [] σ Q := by
          intro t
          induction t with
          | zero =>
            intro i hi _
            have hi : i = q + L := hi
            subst hi
            refine g_254_48 nx ⟨fun _ => ?_, fun c => ?_⟩
            · rw [show v + 1 + (HW (wF mv F) (q + L) - HW (wF mv F) q) = (v + (HW (wF mv F) (q + L) - HW (wF mv F) q)) + 1 by omega, VLg_s] at hQ
              exact hQ
            · exfalso; apply c; rw [J_add, J_le (by omega) (by omega)]; exact Nat.le_refl _
          | succ t ih =>
            intro i hi hqi
            refine g_254_48 nx ⟨fun c => ?_, fun _ => ⟨by rw [J_add]; exact (by simp (disch := omega) only [J_add, J_mul, J_sub, J_cl, vp_J]; omega), ?_⟩⟩
            · exfalso; rw [J_add, J_le (by omega) (by omega)] at c; omega
            · rw [rv_253 hv hM hF (by omega), N64_add, J_add]
              have w1 := hb.wm q i hqi
              have e : v + (HW (wF mv F) i - HW (wF mv F) q) + wF mv F i = v + (HW (wF mv F) (i + 1) - HW (wF mv F) q) := by
                show _ = v + (HW (wF mv F) i + wF mv F i - HW (wF mv F) q)
                omega
              rw [e]
              exact ih (i + 1) (by omega) (by omega)
        have := L1 L q rfl (Nat.le_refl _)
        rw [Nat.sub_self] at this
        exact this
      · rw [VLg_ge (by omega) (by omega)] at c3
        rw [if_pos (by omega)] at hQ
        exact hQ
    · rw [J_le (by omega) (by omega)] at c2
      rw [if_pos (show m < L ∨ 96 < q + L by omega)] at hQ; exact hQ
/-- the rows of the reference that are ready -/
def RHr (σ : Sto) (y0 : Nat) (W : Mem) (L M q i : Nat) : Prop := ∀ j m', j ≤ 96 → m' ≤ M → (q < j ∨ (j = q ∧ m' < i)) → sL σ (y0 + 15) (97 * j + m') = VLg (PL W L j m') ∧ sL σ (y0 + 16) (97 * j + m') = VLg (NX W L j m')
def PHr (y0 : Nat) : Nat → Nat → Prop := fun p _ => p = y0 + 15 ∨ p = y0 + 16
theorem r_plans (hv : VG mv) (nx : S_12 σ y0) (hM : RMm σ y0 mv) (hF : F ≤ 9999) (hb : HBd (HW (wF mv F)) L) (ha : a < 96) (hm : m ≤ 96)
    (hQ : ∀ τ, Fr (PHr y0) σ τ → (∀ j m', a ≤ j → j ≤ 96 → m' ≤ m → sL τ (y0 + 15) (97 * j + m') = VLg (PL (HW (wF mv F)) L j m') ∧ sL τ (y0 + 16) (97 * j + m') = VLg (NX (HW (wF mv F)) L j m')) → Q (.inl (some (.long (VLg (PL (HW (wF mv F)) L a m))))) τ) : WP gT (d + 2) B 252 0 [.ref y0, .int (J a), .int (J m), .int (J L), .int (J F), .retAddr 0, .retAddr 0, .retAddr 0, .retAddr 0, .retAddr 0, .retAddr 0, .retAddr 0, .retAddr 0] [] σ Q := by
  have hl := hb.l
  have tb : ∀ {τ : Sto}, Fr (PHr y0) σ τ → S_12 τ y0 ∧ RMm τ y0 mv := fun f => ⟨f.sh nx, hM.fr f (fun j k => by unfold PHr at k; omega)⟩
  -- a quarter
  have L75 : ∀ t i q τ x7 x9 x11, q < 96 → i + t = m + 1 → Fr (PHr y0) σ τ → RHr τ y0 (HW (wF mv F)) L m q i → (∀ ρ x7 x9 x11, Fr (PHr y0) σ ρ → RHr ρ y0 (HW (wF mv F)) L m q (m + 1) → WP gT (d + 2) B 252 66 [.ref y0, .int (J a), .int (J m), .int (J L), .int (J F), .int (VJ q), .int (J (m + 1)), x7, .retAddr 0, x9, .retAddr 0, x11, .retAddr 0] [] ρ Q) → WP gT (d + 2) B 252 75 [.ref y0, .int (J a), .int (J m), .int (J L), .int (J F), .int (J q), .int (J i), x7, .retAddr 0, x9, .retAddr 0, x11, .retAddr 0] [] τ Q := by
    intro t
    induction t with
    | zero =>
      intro i q τ x7 x9 x11 hq hi F1 hR hc
      have hi : i = m + 1 := hi
      subst hi
      exact g_252_75 (tb F1).1 ⟨fun _ => hc τ x7 x9 x11 F1 hR, fun c => absurd (by rw [J_lt (by omega) (by omega)]; omega) c⟩
    | succ t ih =>
      intro i q τ x7 x9 x11 hq hi F1 hR hc
      obtain ⟨t1, t2⟩ := tb F1
      have s := PL_s (W := HW (wF mv F)) (L := L) (m := i) hl.1 hq
      have c1 := hR (q + 1) i (by omega) (by omega) (Or.inl (by omega))
      have b1 := hb.p (q := q + 1) (m := i) (by omega)
      have bL := hb.kb (k := L) (q := q) (m := i)
      have b2 := hb.kb (k := 1) (q := q) (m := i)
      refine g_252_75 t1 ⟨fun c => ?_, fun _ => ?_⟩
      · exfalso; rw [J_lt (by omega) (by omega)] at c; omega
      have e1 : J 97 * (J q + J 1) + J i = J (97 * (q + 1) + i) := by rw [J_add, J_mul, J_add]
      have e2 : J 97 * J q + J i = J (97 * q + i) := by rw [J_mul, J_add]
      rw [e1, e2, J_cl (a := 97 * (q + 1) + i) (by omega), c1.1, J_cl (a := 97 * q + i) (by omega), ofInt0, ofIntm]
      refine ⟨(by simp (disch := omega) only [J_add, J_mul, J_sub, J_cl, vp_J]; omega), fun c => ?_, fun u5 h5 u6 h6 => ⟨(by simp (disch := omega) only [J_add, J_mul, J_sub, J_cl, vp_J]; omega), ?_⟩⟩
      · rw [J_le (by omega) (by omega)] at c
        rw [J_sub (by omega), J_add]
        exact ⟨(by simp (disch := omega) only [J_add, J_mul, J_sub, J_cl, vp_J]; omega), fun _ => ⟨(by simp (disch := omega) only [J_add, J_mul, J_sub, J_cl, vp_J]; omega), (by simp (disch := omega) only [J_add, J_mul, J_sub, J_cl, vp_J]; omega), trivial⟩⟩
      · have hu5 : u5 = VLg (PK (HW (wF mv F)) L 1 q i) := by
          rw [h5, PK_e]
          by_cases c : i = 0
          · rw [if_pos (by rw [c]; exact ret0), if_pos (Or.inl (by omega))]
          · have c2 := (hR (q + 1) (i - 1) (by omega) (by omega) (Or.inl (by omega))).2
            have b3 := (hb.p (q := q + 1) (m := i - 1) (by omega)).2
            rw [if_neg (by rw [J_le (by omega) (by omega)]; omega), J_sub (by omega), J_cl (by omega), show 97 * (q + 1) + i - 1 = 97 * (q + 1) + (i - 1) by omega, c2, if_neg (show ¬ (i < 1 ∨ 96 < q + 1) by omega)]
            by_cases c3 : NX (HW (wF mv F)) L (q + 1) (i - 1) = 0
            · rw [if_pos c3, if_pos (by rw [VLg_lt (by omega) (by omega)]; omega)]
            · rw [if_neg c3, if_neg (by rw [VLg_lt (by omega) (by omega)]; omega), rv_253 hv t2 hF hq]
              obtain ⟨v, hv2⟩ : ∃ v, NX (HW (wF mv F)) L (q + 1) (i - 1) = v + 1 := ⟨NX (HW (wF mv F)) L (q + 1) (i - 1) - 1, by omega⟩
              rw [hv2, VLg_s, N64_add]
              have e : HW (wF mv F) (q + 1) - HW (wF mv F) q = wF mv F q := by
                show HW (wF mv F) q + wF mv F q - HW (wF mv F) q = _
                omega
              rw [e, show v + 1 + wF mv F q = (v + wF mv F q) + 1 by omega, VLg_s]
        rw [hu5, VLg_max (by omega) (by omega), ← s.2] at h6
        subst h6
        have f16 : Fr (PHr y0) τ (setL τ (y0 + 16) (97 * q + i) (VLg (NX (HW (wF mv F)) L q i))) := Fr.rf.setL (Or.inr rfl)
        obtain ⟨u1, u2⟩ := tb (F1.tr f16)
        refine r_piece hv u1 u2 hF hb hq (by omega) (fun h1 h2 => ?_) ?_
        · rw [show 97 * (q + L) + i - L = 97 * (q + L) + (i - L) by omega, sL_any (by omega)]
          exact (hR (q + L) (i - L) h1 (by omega) (Or.inl (by omega))).2
        · refine ⟨u1, fun u10 h10 => ⟨(by simp (disch := omega) only [J_add, J_mul, J_sub, J_cl, vp_J]; omega), ?_⟩⟩
          rw [VLg_max (by omega) (by omega), ← s.1] at h10
          subst h10
          have f15 : Fr (PHr y0) (setL τ (y0 + 16) (97 * q + i) (VLg (NX (HW (wF mv F)) L q i))) (setL (setL τ (y0 + 16) (97 * q + i) (VLg (NX (HW (wF mv F)) L q i))) (y0 + 15) (97 * q + i) (VLg (PL (HW (wF mv F)) L q i))) := Fr.rf.setL (Or.inl rfl)
          rw [J_add]
          refine ih (i + 1) q _ _ _ _ hq (by omega) ((F1.tr f16).tr f15) (fun j m' h1 h2 h3 => ?_) hc
          by_cases c : j = q ∧ m' = i
          · obtain ⟨rfl, rfl⟩ := c
            rw [sL_same, sL_any (by omega), sL_same]
            exact ⟨rfl, rfl⟩
          · rw [sL_any (by omega), sL_any (by omega), sL_any (by omega), sL_any (by omega)]
            exact hR j m' h1 h2 (by omega)
  have L66 : ∀ t q τ x6 x7 x9 x11, q = a + t → q ≤ 96 → Fr (PHr y0) σ τ → (∀ j m', q ≤ j → j ≤ 96 → m' ≤ m → sL τ (y0 + 15) (97 * j + m') = VLg (PL (HW (wF mv F)) L j m') ∧ sL τ (y0 + 16) (97 * j + m') = VLg (NX (HW (wF mv F)) L j m')) → WP gT (d + 2) B 252 66 [.ref y0, .int (J a), .int (J m), .int (J L), .int (J F), .int (VJ q), x6, x7, .retAddr 0, x9, .retAddr 0, x11, .retAddr 0] [] τ Q := by
    intro t
    induction t with
    | zero =>
      intro q τ x6 x7 x9 x11 hq hq2 F1 hR
      have hq : q = a := hq
      subst hq
      refine g_252_66 (tb F1).1 ⟨fun _ => ⟨by rw [J_mul, J_add]; exact (by simp (disch := omega) only [J_add, J_mul, J_sub, J_cl, vp_J]; omega), ?_⟩, fun c => absurd (by rw [VJ_ltJ (by omega) (by omega)]; omega) c⟩
      rw [J_mul, J_add, J_cl (by omega), (hR q m (Nat.le_refl _) (by omega) (Nat.le_refl _)).1]
      exact hQ τ F1 hR
    | succ t ih =>
      intro q τ x6 x7 x9 x11 hq hq2 F1 hR
      obtain ⟨p, rfl⟩ : ∃ p, q = p + 1 := ⟨a + t, by omega⟩
      rw [VJ_s]
      refine g_252_66 (tb F1).1 ⟨fun c => ?_, fun _ => ?_⟩
      · exfalso; rw [J_lt (by omega) (by omega)] at c; omega
      · refine L75 (m + 1) 0 p τ _ _ _ (by omega) (by omega) F1 (fun j m' h1 h2 h3 => hR j m' (by omega) h1 h2) (fun ρ x7 x9 x11 F2 hR2 => ?_)
        exact ih p ρ _ _ _ _ (by omega) (by omega) F2 (fun j m' h1 h2 h3 => hR2 j m' h2 h3 (by omega))
  refine g_252_0 ?_
  refine upto (I := fun i τ => Fr (PHr y0) σ τ ∧ ∀ m', m' < i → sL τ (y0 + 15) (9312 + m') = VLg (if m' = 0 then 1 else 0) ∧ sL τ (y0 + 16) (9312 + m') = VLg (if m' = 0 then 1 else 0)) (W := fun i τ => WP gT (d + 2) B 252 3 [.ref y0, .int (J a), .int (J m), .int (J L), .int (J F), .int (J i), .retAddr 0, .retAddr 0, .retAddr 0, .retAddr 0, .retAddr 0, .retAddr 0, .retAddr 0] [] τ Q) 97 ?_ ?_ 0 σ (by omega) ⟨Fr.rf, fun m' h => absurd h (Nat.not_lt_zero _)⟩
  · intro i τ hi hI ih
    obtain ⟨f, hz⟩ := hI
    refine g_252_3 (f.sh nx) ⟨fun c => ?_, fun _ => ?_⟩
    · exfalso; rw [J_lt (by omega) (by omega)] at c; omega
    · have e : (if J i = J 0 then Int64.ofInt 0 else Int64.ofInt (-1)) = VLg (if i = 0 then 1 else 0) := by
        by_cases c : i = 0
        · rw [if_pos (by rw [c]), if_pos c]; rfl
        · rw [if_neg (fun e => c (J_inj (by omega) (by omega) e)), if_neg c]; rfl
      rw [J_add, J_cl (by omega), J_add, e]
      refine ⟨(by simp (disch := omega) only [J_add, J_mul, J_sub, J_cl, vp_J]; omega), (by simp (disch := omega) only [J_add, J_mul, J_sub, J_cl, vp_J]; omega), ih _ ⟨(f.setL (Or.inl rfl)).setL (Or.inr rfl), fun m' h => ?_⟩⟩
      by_cases c : m' = i
      · subst c
        rw [sL_same, sL_any (by omega), sL_same]; exact ⟨rfl, rfl⟩
      · rw [sL_any (by omega), sL_any (by omega), sL_any (by omega), sL_any (by omega)]; exact hz m' (by omega)
  · intro τ hI
    obtain ⟨f, hz⟩ := hI
    refine g_252_3 (f.sh nx) ⟨fun _ => ?_, fun c => absurd (by decide) c⟩
    rw [show J 95 = VJ 96 from (VJ_s 95).symm]
    refine L66 (96 - a) 96 τ _ _ _ _ (by omega) (Nat.le_refl _) f (fun j m' h1 h2 h3 => ?_)
    have : j = 96 := by omega
    subst this
    rw [PL_96.1, PL_96.2]
    exact hz m' (by omega)
