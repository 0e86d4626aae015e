/-! ===== trials: closing, a wave that warns ===== -/
variable {d : Nat} {B : Nat × Nat} {Q : Out → Sto → Prop} {P : Nat → Nat → Prop} {σ τ : Sto} {x0 y0 : Nat} {mv kv : Mem} {img : Bool} {tp : Mem} {n : Nat} {fl : Option Nat}
theorem CFf.cong {f : Nat} {st st' : Mem} {more m : Nat} (h : CFf σ f mv st more m) (he : ∀ g q, g < mv 1 → q < m → st (96 * g + q) = st' (96 * g + q)) : CFf σ f mv st' more m := by
  intro q hq
  have hq2 := h q hq
  have e1 := lkF_congr (mv := mv) (st := st) (st' := st') (q + 1) (fun g a hg ha => he g a hg (by omega))
  have e2 := ltF_congr (mv := mv) (st := st) (st' := st') (n := q) (fun g a hg ha => he g a hg (by omega))
  have e3 := rcF_congr (mv := mv) (st := st) (st' := st') (more := more) (q + 1) (fun g a hg ha => he g a hg (by omega))
  have e4 := gnF_congr (mv := mv) (st := st) (st' := st') (more := more) (q + 1) (fun g a hg ha => he g a hg (by omega))
  refine ⟨?_, fun r hr => ?_⟩
  · rw [← e1, ← e2, ← e4]; exact hq2.1
  · unfold dpF; rw [← e3]; exact hq2.2 r hr
theorem CFf.less {f : Nat} {st : Mem} {more m m' : Nat} (h : CFf σ f mv st more m) (hm : m' ≤ m) : CFf σ f mv st more m' := fun q hq => h q (by omega)
theorem c_fill {a z : Nat} {v : Int32} (hk : sK σ a = 14) (hz : sZ σ a = z) (hz2 : z < 1000000) (hQ : ∀ τ, Fr (fun p _ => p = a) σ τ → (∀ j, j < z → sI τ a j = v) → Q (.inl none) τ) : WP gT d B 321 0 [.ref a, .int v, .retAddr 0, .retAddr 0] [] σ Q := by
  refine g_321_0 hk ?_
  rw [hz]
  refine upto (I := fun i τ => Fr (fun p _ => p = a) σ τ ∧ ∀ j, j < i → sI τ a j = v) (W := fun i τ => WP gT d B 321 5 [.ref a, .int v, .int (J i), .int (J z)] [] τ Q) z ?_ ?_ 0 σ (Nat.zero_le _) ⟨Fr.rf, fun j hj => by omega⟩
  · intro i τ hi hI ih
    refine g_321_5 (by rw [hI.1.K]; exact hk) ⟨fun e => ?_, fun _ => ?_⟩
    · exfalso; simp (disch := omega) only [J_add, J_mul, J_sub, J_cl, J_lt, J_le, J_eq, vp_J, n1_ne, n1_lt, n1_le, n1_nlt, n1_nle] at e; omega
    · rw [hI.1.Z, hz]
      simp (disch := omega) only [J_add, J_mul, J_sub, J_cl, J_lt, J_le, J_eq, vp_J, n1_ne, n1_lt, n1_le, n1_nlt, n1_nle]
      refine ⟨(by omega), ih _ ⟨hI.1.setI rfl, fun j hj => ?_⟩⟩
      by_cases e : j = i
      · subst e; rw [sI_same]
      · rw [sI_any (by omega)]; exact hI.2 j (by omega)
  · intro τ hI
    refine g_321_5 (by rw [hI.1.K]; exact hk) ⟨fun _ => hQ τ hI.1 hI.2, fun e => ?_⟩
    exfalso; simp (disch := omega) only [J_add, J_mul, J_sub, J_cl, J_lt, J_le, J_eq, vp_J, n1_ne, n1_lt, n1_le, n1_nlt, n1_nle] at e; omega
theorem c_tell {k1 : Nat} (h : CIv σ x0 mv kv img tp n fl) (hk1 : k1 < mv 4) (hQ : ∀ τ, CIv τ x0 mv kv img tp n fl → FCl σ τ → S_11 τ x0 → (∀ k, k < 384 → sI τ (x0 + 159) k = J (stO mv k1 k)) → Q (.inl none) τ) : WP gT (d + 2) B 156 0 [.ref (x0 + 42 + k1), .ref (x0 + 159)] [] σ Q := by
  have hx := h.x
  have ho1 := h.mv_.2.1.s
  have hr := op_row (o := k1) h.sh (by omega)
  have ht := tr_st h.sh
  refine c_copyRow (z := 384) hr.2.1 ht.1 hr.2.2 ht.2 (by omega) (by omega) (fun τ hF hc => ?_)
  have h2 := h.fr hF (fun p j k => by unfold SCr; omega)
  refine hQ τ h2 (FCl.of hx hF (fun p j k => by omega)) h2.sh (fun k hk => ?_)
  rw [hc k hk, show x0 + 42 + k1 = x0 + 24 + 18 + k1 by omega]
  exact h.mv_.2.2.2.2.2.1 k1 hk1 k hk
theorem c_fallT {st : Mem} (h : CIv σ x0 mv kv img tp n fl) (hf : CFf σ (x0 + 131) mv st 0 96) (hQ : Q (.inl (some (.int (if falB mv (dpF mv st 0) = true then J 1 else J 0)))) σ) : WP gT d B 31 0 [.ref (x0 + 131), .ref (x0 + 25), .int (J (mv 15)), .retAddr 0, .retAddr 0, .retAddr 0] [] σ Q :=
  c_falls (sub_11_131_3 h.sh) (sub_11_25_4 h.sh) (CDd.of h.mv_.1 (by omega) hf) h.G h.mv_.1 (by have := h.mv_.2.1.s; omega) hQ
theorem cc_closing (h : CIv σ x0 mv kv img tp n fl) (hB : 16 ≤ B.1 ∧ 1000 ≤ B.2) {a1 a2 a3 : Int32}
    (h0 : ∀ k1 k2 k3, k1 < mv 4 → k2 < mv 1 → k3 < 96 → a1 = J k1 → a2 = J k2 → a3 = J k3 → ∀ τ, CIv τ x0 mv kv img tp n fl → FCl σ τ → Q (.inl (some (.int (oJ (fstB (fun e => !falB mv (dpF mv (gstp (stO mv k1) k2 k3 0 e) 0)) 1 12))))) τ) (h1 : ¬ (IX a1 (mv 4) ∧ IX a2 (mv 1) ∧ IX a3 (96)) → Q (.inr 0) σ) : WP gT (d + 18) B 127 0 [.ref x0, .int a1, .int a2, .int a3] [] σ Q := by
  have hx := h.x
  have hv := h.mv_.1
  have ho := h.mv_.2.1
  have hs := hv.s
  have ho1 := ho.s
  refine g_127_0 h.sh hB ⟨fun c1 => ⟨fun c2 => ⟨fun c3 => ?_, fun c3 => h1 (fun k => c3 (gQ.mpr k.2.2))⟩, fun c2 => h1 (fun k => c2 (h.gG.mpr k.2.1))⟩, fun c1 => h1 (fun k => c1 (h.gO.mpr k.1))⟩
  obtain ⟨k1, hk1, rfl⟩ := h.gO.mp c1
  obtain ⟨k2, hk2, rfl⟩ := h.gG.mp c2
  obtain ⟨k3, hk3, rfl⟩ := gQ.mp c3
  have h0 := h0 k1 k2 k3 hk1 hk2 hk3 rfl rfl rfl
  refine ⟨(by simp (disch := omega) only [J_add, J_mul, J_sub, J_cl, vp_J]; omega), ?_⟩
  rw [J_cl (by omega)]
  refine g_91_0 (tr_10 h.sh) (c_tell h hk1 (fun τ h2 hF hS hst => ?_))
  dsimp only [oV]
  have L : ∀ m e τ, 1 ≤ e → e + m = 13 → CIv τ x0 mv kv img tp n fl → FCl σ τ → (∃ st, (∀ k, k < 384 → sI τ (x0 + 159) k = J (st k)) ∧ (∀ k, k < 384 → st k ≤ 6) ∧ ∀ e, gstp st k2 k3 0 e = gstp (stO mv k1) k2 k3 0 e) → (∀ ρ, CIv ρ x0 mv kv img tp n fl → FCl σ ρ → Q (.inl (some (.int (oJ (fstB (fun e => !falB mv (dpF mv (gstp (stO mv k1) k2 k3 0 e) 0)) e m))))) ρ) → WP gT (d + 17) (0, 0) 91 11 [.ref (x0 + 130), .ref (x0 + 24), .ref (x0 + 42 + k1), .int (J k2), .int (J k3), .int (J e)] [] τ (oI (fun v5 τ6 => Q (.inl (some (.int v5))) τ6) (fun _ _ => False)) := by
    intro m
    induction m with
    | zero =>
      intro e τ he1 he2 h2 hF hst hq
      refine g_91_11 (tr_10 h2.sh) ⟨fun _ => hq τ h2 hF, fun c => ?_⟩
      exfalso; simp (disch := omega) only [J_add, J_mul, J_sub, J_cl, J_lt, J_le, J_eq, vp_J, n1_ne, n1_lt, n1_le, n1_nlt, n1_nle] at c; omega
    | succ m ih =>
      intro e τ he1 he2 h2 hF hst hq
      obtain ⟨st, s1, s2, s3⟩ := hst
      refine g_91_11 (tr_10 h2.sh) ⟨fun c => ?_, fun _ => ?_⟩
      · exfalso; simp (disch := omega) only [J_add, J_mul, J_sub, J_cl, J_lt, J_le, J_eq, vp_J, n1_ne, n1_lt, n1_le, n1_nlt, n1_nle] at c; omega
      · have ht := tr_st h2.sh
        refine c_goStep (st := st) ht.1 ht.2 s1 s2 (by omega) hk3 (by omega) he1 (by omega) (fun ρ hF2 hst2 => ?_)
        have h3 := h2.fr hF2 (fun p j k => by unfold SCr; omega)
        rw [s3 e] at hst2
        have hl6 : ∀ k, k < 384 → (gstp (stO mv k1) k2 k3 0 e) k ≤ 6 := gstp_le (by omega) (by omega) hk3 (fun k hk => ho.o hk1 hk)
        refine ⟨tr_10 h3.sh, sub_11_24_2 h3.sh, c_runT (st := (gstp (stO mv k1) k2 k3 0 e)) (more := 0) (m := 0) h3 (tr_st h3.sh).1 (tr_st h3.sh).2 (by omega) hst2 hl6 (by omega) (by omega) (fun q hq => by omega) (fun χ h4 hF4 hf => ⟨tr_10 h4.sh, sub_11_24_2 h4.sh, ?_⟩)⟩
        rw [h4.mv_.2.2.2.2.1.2.2.2.1]
        refine c_fallT h4 hf ?_
        dsimp only [oI]
        have hFF : FCl σ χ := (hF.tr (FCl.of hx hF2 (fun p j k => by omega))).tr (FCl.of hx hF4 (fun p j k => by omega))
        have hst4 : ∀ k, k < 384 → sI χ (x0 + 159) k = J ((gstp (stO mv k1) k2 k3 0 e) k) := fun k hk => (hF4.i (by omega)).trans (hst2 k hk)
        have hq : ∀ ρ, CIv ρ x0 mv kv img tp n fl → FCl σ ρ → Q (.inl (some (.int (oJ (if (!falB mv (dpF mv (gstp (stO mv k1) k2 k3 0 e) 0)) = true then some e else fstB (fun e => !falB mv (dpF mv (gstp (stO mv k1) k2 k3 0 e) 0)) (e + 1) m))))) ρ := hq
        rw [b01, J_add]
        refine ⟨fun c => ?_, fun c => ?_⟩
        · have := hq χ h4 hFF; rw [c, if_pos (by decide)] at this; exact this
        · refine ih (e + 1) χ (by omega) (by omega) h4 hFF ⟨_, hst4, hl6, fun e' => gstp_gstp⟩ (fun ρ a b => ?_)
          have := hq ρ a b
          rw [if_neg (by simp at c; rw [c]; decide)] at this; exact this
  exact L 12 1 τ (by omega) (by omega) h2 hF ⟨stO mv k1, hst, fun k hk => ho.o hk1 hk, fun e => rfl⟩ h0
theorem rr_closing (hy : y0 = 260) (hv : VG mv) (ho : VOo mv) (h : RIv σ y0 mv kv img tp n fl) {a1 a2 a3 : Int32}
    (h0 : ∀ k1 k2 k3, k1 < mv 4 → k2 < mv 1 → k3 < 96 → a1 = J k1 → a2 = J k2 → a3 = J k3 → ∀ τ, RIv τ y0 mv kv img tp n fl → FRf σ τ → sI τ y0 0 = J 0 → Q (.inl (some (.int (oJ (fstB (fun e => !falB mv (dpF mv (gstp (stO mv k1) k2 k3 0 e) 0)) 1 12))))) τ) (h1 : ¬ (IX a1 (mv 4) ∧ IX a2 (mv 1) ∧ IX a3 (96)) → ∀ τ v, RIv τ y0 mv kv img tp n fl → FRf σ τ → sI τ y0 0 = J 1 → Q (.inl (some (.int v))) τ) : WP gT (d + 4) B 249 0 [.ref y0, .int a1, .int a2, .int a3, .retAddr 0, .retAddr 0, .retAddr 0] [] σ Q := by
  have hs := hv.s
  have ho1 := ho.s
  by_cases c : IX a1 (mv 4) ∧ IX a2 (mv 1) ∧ IX a3 (96)
  · obtain ⟨⟨k1, hk1, rfl⟩, ⟨k2, hk2, rfl⟩, ⟨k3, hk3, rfl⟩⟩ := c
    have t1 : ¬ f_167 σ y0 (J k1) = J 0 := fun e => (r167 h.2.1 ho).mp e ⟨k1, hk1, rfl⟩
    have t2 : ¬ f_164 σ y0 (J k2) = J 0 := fun e => (r164 h.2.1 hv).mp e ⟨k2, hk2, rfl⟩
    have t3 : ¬ f_163 σ (J k3) = J 0 := fun e => (r163).mp e ⟨k3, hk3, rfl⟩
    have h0 := h0 k1 k2 k3 hk1 hk2 hk3 rfl rfl rfl
    refine g_249_0 h.1 (fun u hu => ?_)
    rw [if_neg t1, if_neg t2, if_neg t3] at hu
    subst hu
    refine ⟨fun _ => ?_, fun e => absurd ret0 e⟩
    have L : ∀ m e τ, 1 ≤ e → e + m = 13 → RIv τ y0 mv kv img tp n fl → FRf σ τ → sI τ y0 0 = J 0 → (∀ ρ, RIv ρ y0 mv kv img tp n fl → FRf σ ρ → sI ρ y0 0 = J 0 → Q (.inl (some (.int (oJ (fstB (fun e => !falB mv (dpF mv (gstp (stO mv k1) k2 k3 0 e) 0)) e m))))) ρ) → ∀ x5 x6 : Value, WP gT (d + 4) B 249 44 [.ref y0, .int (J k1), .int (J k2), .int (J k3), .int (J e), x5, x6] [] τ Q := by
      intro m
      induction m with
      | zero =>
        intro e τ he1 he2 h2 hF ht hq x5 x6
        refine g_249_44 h2.1 ⟨fun _ => hq τ h2 hF ht, fun c => ?_⟩
        exfalso; simp (disch := omega) only [J_add, J_mul, J_sub, J_cl, J_lt, J_le, J_eq, vp_J, n1_ne, n1_lt, n1_le, n1_nlt, n1_nle] at c; omega
      | succ m ih =>
        intro e τ he1 he2 h2 hF ht hq x5 x6
        have hq : ∀ ρ, RIv ρ y0 mv kv img tp n fl → FRf σ ρ → sI ρ y0 0 = J 0 → Q (.inl (some (.int (oJ (if (!falB mv (dpF mv (gstp (stO mv k1) k2 k3 0 e) 0)) = true then some e else fstB (fun e => !falB mv (dpF mv (gstp (stO mv k1) k2 k3 0 e) 0)) (e + 1) m))))) ρ := hq
        refine g_249_44 h2.1 ⟨fun c => ?_, fun _ => ?_⟩
        · exfalso; simp (disch := omega) only [J_add, J_mul, J_sub, J_cl, J_lt, J_le, J_eq, vp_J, n1_ne, n1_lt, n1_le, n1_nlt, n1_nle] at c; omega
        · refine r_takes (mv := mv) h2.1 h2.2.1 (by omega) (fun ρ hF2 hst hm0 => ?_)
          have h3 := h2.fr hF2 (fun p j k _ _ => by unfold SRr; omega)
          have hs0 : st0 (stO mv k1) k2 k3 ≤ 6 := by
            unfold st0; split
            · omega
            · exact ho.o hk1 (by omega)
          refine ⟨h3.1, fun c => ⟨?_, trivial⟩, fun u4 h4 => ?_⟩
          · simp (disch := omega) only [J_add, J_mul, J_sub, J_cl, J_lt, J_le, J_eq, vp_J, n1_ne, n1_lt, n1_le, n1_nlt, n1_nle] at c
            simp (disch := omega) only [J_add, J_mul, J_sub, J_cl, J_lt, J_le, J_eq, vp_J, n1_ne, n1_lt, n1_le, n1_nlt, n1_nle]; omega
          · have e4 : u4 = J (gsv 0 e (st0 (stO mv k1) k2 k3) 0) := by
              rw [h4]; show _ = J (st0 (stO mv k1) k2 k3)
              unfold st0
              by_cases c : k3 = 0
              · rw [if_pos c, if_pos (by rw [c])]
              · rw [if_neg c, if_neg (by rw [J_eq (by omega) (by omega)]; exact c)]
                simp (disch := omega) only [J_add, J_mul, J_sub, J_cl, J_lt, J_le, J_eq, vp_J, n1_ne, n1_lt, n1_le, n1_nlt, n1_nle]
                exact hst _ (by omega)
            subst e4
            have hG0 : FRf σ ρ := hF.tr (FRf.of hy hF2 (fun p j k => by omega))
            have M : ∀ i χ, i ≤ 96 - k3 → (Fr (fun p _ => p = y0 + 5) ρ χ ∧ ∀ k, k < 384 → sI χ (y0 + 5) k = J (if 96 * k2 + k3 ≤ k ∧ k < 96 * k2 + k3 + i then gsv 0 e (st0 (stO mv k1) k2 k3) (k - (96 * k2 + k3) + 1) else stO mv k1 k)) →
                WP gT (d + 4) B 249 82 [.ref y0, .int (J k1), .int (J k2), .int (J k3), .int (J e), .int (J (gsv 0 e (st0 (stO mv k1) k2 k3) i)), .int (J (k3 + i))] [] χ Q := by
              refine upto (96 - k3) ?_ ?_
              · intro i χ hi hI ih2
                obtain ⟨hF3, h5⟩ := hI
                have hgl := gsv_le (each := e) (n := 0) (by omega) hs0 i
                refine g_249_82 (hF3.sh h3.1) ⟨fun c => ?_, fun _ => ⟨?_, fun u6 h6 => ⟨(by simp (disch := omega) only [J_add, J_mul, J_sub, J_cl, vp_J]; omega), ?_⟩⟩⟩
                · exfalso; simp (disch := omega) only [J_add, J_mul, J_sub, J_cl, J_lt, J_le, J_eq, vp_J, n1_ne, n1_lt, n1_le, n1_nlt, n1_nle] at c; omega
                · rw [J_eq (by omega) (by omega)]; omega
                · have e6 : u6 = J (gsv 0 e (st0 (stO mv k1) k2 k3) (i + 1)) := by
                    rw [h6, show gsv 0 e (st0 (stO mv k1) k2 k3) (i + 1) = if i % e = 0 then twd 0 (gsv 0 e (st0 (stO mv k1) k2 k3) i) else gsv 0 e (st0 (stO mv k1) k2 k3) i from rfl, J_sub (by omega), show k3 + i - k3 = i by omega]
                    simp only [modJ (show i < 1000 by omega) (show e < 1000 by omega) he1]
                    generalize gsv 0 e (st0 (stO mv k1) k2 k3) i = s at hgl ⊢
                    split
                    · unfold twd
                      simp (disch := omega) only [J_le]
                      by_cases c : s ≤ 0
                      · rw [if_pos c, if_neg (by omega), if_neg (by omega)]
                      · rw [if_neg c, if_neg (by omega), if_pos (by omega), ← Int32.sub_eq_add_neg, J_sub (by omega)]
                    · rfl
                  rw [e6, J_add, show k3 + i + 1 = k3 + (i + 1) from rfl]
                  simp (disch := omega) only [J_mul, J_add, J_cl]
                  refine ih2 _ ⟨hF3.setI rfl, fun k hk2 => ?_⟩
                  by_cases c : k = 96 * k2 + (k3 + i)
                  · subst c; rw [sI_same, if_pos (by omega), show 96 * k2 + (k3 + i) - (96 * k2 + k3) + 1 = i + 1 by omega]
                  · rw [sI_any (by omega), h5 k hk2]
                    by_cases c2 : 96 * k2 + k3 ≤ k ∧ k < 96 * k2 + k3 + i
                    · rw [if_pos c2, if_pos (by omega)]
                    · rw [if_neg c2, if_neg (by omega)]
              · intro χ hI
                obtain ⟨hF3, h5⟩ := hI
                have h4 := h3.fr hF3 (fun p j k _ _ => by unfold SRr; omega)
                have hst4 : ∀ k, k < 384 → sI χ (y0 + 5) k = J ((gstp (stO mv k1) k2 k3 0 e) k) := fun k hk2 => by
                  rw [h5 k hk2]; unfold gstp; rw [show 96 * k2 + k3 + (96 - k3) = 96 * k2 + 96 by omega]
                refine g_249_82 h4.1 ⟨fun _ => ?_, fun c => ?_⟩
                · refine r_runs (st := (gstp (stO mv k1) k2 k3 0 e)) (more := 0) h4.1 hv h4.2.1 hst4 (gstp_le (by omega) (by omega) hk3 (fun k hk => ho.o hk1 hk)) ((hF3.i (by omega)).trans hm0) (fun φ hF5 hf => ?_)
                  have h6 := h4.fr hF5 (fun p j k _ _ => by unfold P200 at k; unfold SRr; omega)
                  refine ⟨h6.1, r_falls h6.1 (RDd.of h6.2.1 hf) hv ho ?_⟩
                  dsimp only [oI]
                  have hFF : FRf σ φ := (hG0.tr (FRf.of hy hF3 (fun p j k => by omega))).tr (FRf.of hy hF5 (fun p j k => by unfold P200 at k; omega))
                  have ht6 : sI φ y0 0 = J 0 := (hF5.i (by unfold P200; omega)).trans ((hF3.i (by omega)).trans ((hF2.i (by omega)).trans ht))
                  rw [b01, J_add]
                  refine ⟨fun c => ?_, fun c => ?_⟩
                  · have := hq φ h6 hFF ht6; rw [c, if_pos (by decide)] at this; exact this
                  · refine ih (e + 1) φ (by omega) (by omega) h6 hFF ht6 (fun χ a b t => ?_) _ _
                    have := hq χ a b t
                    rw [if_neg (by simp at c; rw [c]; decide)] at this; exact this
                · exfalso; simp (disch := omega) only [J_add, J_mul, J_sub, J_cl, J_lt, J_le, J_eq, vp_J, n1_ne, n1_lt, n1_le, n1_nlt, n1_nle] at c; omega
            exact M 0 ρ (by omega) ⟨Fr.rf, fun k hk2 => by rw [if_neg (by omega)]; exact hst k hk2⟩
    exact L 12 1 _ (by omega) (by omega) h.thr (FRf.th hy) sI_same h0 _ _
  · refine g_249_0 h.1 (fun u hu => ?_)
    have hu1 : u = J 1 := by
      rw [hu]
      by_cases q1 : f_167 σ y0 a1 = J 0
      · rw [if_pos q1]
      rw [if_neg q1]
      by_cases q2 : f_164 σ y0 a2 = J 0
      · rw [if_pos q2]
      rw [if_neg q2]
      by_cases q3 : f_163 σ a3 = J 0
      · rw [if_pos q3]
      rw [if_neg q3]
      exact absurd ⟨Classical.not_not.mp (fun e => q1 ((r167 h.2.1 ho).mpr e)), Classical.not_not.mp (fun e => q2 ((r164 h.2.1 hv).mpr e)), Classical.not_not.mp (fun e => q3 ((r163).mpr e))⟩ c
    subst hu1
    exact ⟨fun e => absurd e ret1, fun _ => h1 c _ _ h.thr (FRf.th hy) sI_same⟩
