/-! ===== follow and keeps ===== -/
variable {d : Nat} {B : Nat × Nat} {Q : Out → Sto → Prop} {P : Nat → Nat → Prop} {σ τ : Sto} {x0 y0 r i : Nat} {mv kv st st' : Mem} {img : Bool} {tp : Mem} {n q g : Nat} {fl : Option Nat} {R : List RLn}
/-- the rules are readable -/
def rOf (mv : Mem) (i : Nat) : List RLn := match rAll (tx_ mv i) (tn_ mv i) with
  | .inl _ => []
  | .inr a => a.1
def RLok (mv : Mem) : Prop := ∀ i, i < mv 7 → (tn_ mv i ≤ 400 ∧ ∀ k, k < tn_ mv i → tx_ mv i k ≤ 255) ∧ ∃ p, rAll (tx_ mv i) (tn_ mv i) = .inr (rOf mv i, p)
theorem rOf_e {p : Nat} (h : rAll (tx_ mv i) (tn_ mv i) = .inr (R, p)) : rOf mv i = R := by unfold rOf; rw [h]
theorem CIv.rl (h : CIv σ x0 mv kv img tp n fl) : RLok mv := fun i hi => by
  obtain ⟨h1, R, p, r, h2, _⟩ := h.mv_.2.2.2.2.2.2.2 i hi
  exact ⟨h1, p, by rw [rOf_e h2]; exact h2⟩
theorem CIv.ru (h : CIv σ x0 mv kv img tp n fl) (hi : i < mv 7) : ∃ r, sP σ (x0 + 57) i = some r ∧ RuleAt σ r (rOf mv i) ∧ ∀ x, x ∈ rOf mv i → LNok x := by
  obtain ⟨h1, R, p, r, h2, h3, h4⟩ := h.mv_.2.2.2.2.2.2.2 i hi
  have e := rOf_e h2
  rw [e]
  exact ⟨r, by rw [show x0 + 57 = x0 + 24 + 33 by omega]; exact h3, h4, rAll_ok h2⟩
theorem CIv.gL (h : CIv σ x0 mv kv img tp n fl) {x : Int32} : okIx x (sI σ (x0 + 24) 9) ↔ IX x (mv 7) := by
  have := h.mv_.2.1.s; rw [h.mv_.2.2.2.2.1.2.2.2.2.2.2.1]; exact okIx_J (by omega)
/-- the opening that follows rule i -/
def fol (mv : Mem) (i : Nat) : Mem := folS mv (rOf mv i) 96
theorem cc_follow (h : CIv σ x0 mv kv img tp n fl) (hB : 16 ≤ B.1 ∧ 1000 ≤ B.2) {a1 : Int32} (h0 : ∀ k1, k1 < mv 7 → mv 4 < 6 → a1 = J k1 → ∀ τ, CIv τ x0 (addO mv (fol mv k1)) kv img tp n fl → FCl σ τ → Q (.inl (some (.int (J (mv 4))))) τ) (h1 : ¬ IX a1 (mv 7) → Q (.inr 0) σ) (h2 : IX a1 (mv 7) → ¬ mv 4 < 6 → Q (.inr 2) σ) : WP gT (d + 18) B 131 0 [.ref x0, .int a1] [] σ Q := by
  have hx := h.x
  have ho := h.mv_.2.1
  have ho1 := ho.s
  refine g_131_0 (d := d + 1) h.sh hB ⟨fun c1 => ?_, fun c => h1 (fun k => c (h.gL.mpr k))⟩
  rw [h.sc.2.1, J_lt (by omega) (by omega)]
  refine ⟨fun c => ?_, h2 (h.gL.mp c1)⟩
  obtain ⟨k1, hk1, rfl⟩ := h.gL.mp c1
  obtain ⟨r, e1, hR, hl⟩ := h.ru hk1
  have hr := hR.1
  refine ⟨(by simp (disch := omega) only [J_add, J_mul, J_sub, J_cl, vp_J]; omega), r, by rw [J_cl (by omega)]; exact e1, hR.2.1, ?_⟩
  refine c_obey h hR hl (fun τ h2 F hf hz => ⟨h2.sh, ?_⟩)
  have hro := op_row (o := mv 4) h2.sh (by omega)
  have htr := tr_st h2.sh
  rw [h2.sc.2.1]
  simp (disch := omega) only [J_add, J_mul, J_sub, J_cl, J_lt, J_le, J_eq, vp_J, n1_ne, n1_lt, n1_le, n1_nlt, n1_nle]
  refine ⟨(by omega), c_copyRow (z := 384) htr.1 hro.2.1 htr.2 hro.2.2 (by omega) (by omega) (fun ρ hF hz2 => ⟨hF.sh h2.sh, ?_⟩)⟩
  have FF : FCl σ τ := FCl.of hx F (fun p j k => by unfold Pob at k; omega)
  refine c_addO (st := fol mv k1) h2 c (fun k hk => folS_6 hl _ _) hF (fun p j k => Or.inr k) (fun k hk => ?_) (fun χ h4 hf4 => h0 k1 hk1 c rfl χ h4 (FF.tr hf4))
  rw [hz2 k hk]; exact hz k hk
theorem cc_keeps (h : CIv σ x0 mv kv img tp n fl) (hB : 16 ≤ B.1 ∧ 1000 ≤ B.2) {a1 : Int32} (h0 : ∀ k1, k1 < mv 7 → a1 = J k1 → ∀ τ, CIv τ x0 mv kv img tp n fl → FCl σ τ → Q (.inl (some (.int (J (jdg mv (fol mv k1) 0))))) τ) (h1 : ¬ IX a1 (mv 7) → Q (.inr 0) σ) : WP gT (d + 18) B 132 0 [.ref x0, .int a1] [] σ Q := by
  have hx := h.x
  have ho := h.mv_.2.1
  have ho1 := ho.s
  refine g_132_0 (d := d + 1) h.sh hB ⟨fun c1 => ?_, fun c => h1 (fun k => c (h.gL.mpr k))⟩
  obtain ⟨k1, hk1, rfl⟩ := h.gL.mp c1
  obtain ⟨r, e1, hR, hl⟩ := h.ru hk1
  have hr := hR.1
  refine ⟨(by simp (disch := omega) only [J_add, J_mul, J_sub, J_cl, vp_J]; omega), r, by rw [J_cl (by omega)]; exact e1, hR.2.1, ?_⟩
  refine c_obey h hR hl (fun τ h2 F hf hz => ⟨h2.sh, ?_⟩)
  have FF : FCl σ τ := FCl.of hx F (fun p j k => by unfold Pob at k; omega)
  exact c_judT h2 (by omega) hf (fun χ h3 hG => h0 k1 hk1 rfl χ h3 (FF.tr (FCl.of hx hG (fun p j k => by omega))))
theorem RFn.cong {more m : Nat} (h : RFn σ y0 mv st more m) (he : ∀ g q, g < mv 1 → q < m → st (96 * g + q) = st' (96 * g + q)) : RFn σ y0 mv st' more m := by
  obtain ⟨h1, h2, h3, h4⟩ := h
  refine ⟨fun q hq => ?_, fun q r hq hr => ?_, fun q hq => ?_, fun q hq => ?_⟩
  · rw [← lkF_congr (mv := mv) (st := st) (st' := st') q (fun g a hg ha => he g a hg (by omega))]; exact h1 q hq
  · rw [← rcF_congr (mv := mv) (st := st) (st' := st') (more := more) q (fun g a hg ha => he g a hg (by omega))]; exact h2 q r hq hr
  · rw [← ltF_congr (mv := mv) (st := st) (st' := st') (n := q) (fun g a hg ha => he g a hg (by omega))]; exact h3 q hq
  · rw [← gnF_congr (mv := mv) (st := st) (st' := st') (more := more) (q + 1) (fun g a hg ha => he g a hg (by omega))]; exact h4 q hq
theorem RFn.fr {more m : Nat} (h : RFn σ y0 mv st more m) (f : Fr P σ τ) (hP : ∀ i j, 6 ≤ i → i ≤ 9 → ¬ P (y0 + i) j) : RFn τ y0 mv st more m := by
  obtain ⟨h1, h2, h3, h4⟩ := h
  exact ⟨fun q hq => by rw [f.i (hP 6 _ (by omega) (by omega))]; exact h1 q hq, fun q r hq hr => by rw [f.i (hP 7 _ (by omega) (by omega))]; exact h2 q r hq hr, fun q hq => by rw [f.i (hP 8 _ (by omega) (by omega))]; exact h3 q hq, fun q hq => by rw [f.i (hP 9 _ (by omega) (by omega))]; exact h4 q hq⟩
/-- what following writes: the row of the trial, the flood, and where it reads -/
def PFo (y0 : Nat) : Nat → Nat → Prop := fun p j => (p = y0 ∧ j ≠ 0 ∧ j ≠ 3 ∧ j ≠ 6) ∨ (y0 + 5 ≤ p ∧ p ≤ y0 + 9)
/-- between two quarters, or two gates -/
def RFo (σ τ : Sto) (y0 : Nat) (mv : Mem) (i q : Nat) (m : Mem) : Prop := Fr (PFo y0) σ τ ∧ (sI τ y0 7 = J (2885 + 401 * i) ∧ sI τ y0 8 = J (tn_ mv i) ∧ sI τ y0 20 = J 0) ∧ RFn τ y0 mv (folS mv (rOf mv i) q) 0 q ∧ ∀ k, k < 384 → sI τ (y0 + 5) k = J (m k)
theorem RFo.up {ρ : Sto} {m : Mem} (h : RFo σ τ y0 mv i q m) (f : Fr P τ ρ) (hP : ∀ p j, P p j → p = y0 ∧ 9 ≤ j ∧ j ≤ 14) : RFo σ ρ y0 mv i q m := by
  obtain ⟨h1, h2, h3, h4⟩ := h
  refine ⟨h1.tr (f.mono (fun p j k => by have := hP p j k; unfold PFo; omega)), ⟨?_, ?_, ?_⟩, h3.fr f (fun a j h1 h2 k => by have := hP _ _ k; omega), fun k hk => ?_⟩
  · rw [f.i (fun k => by have := hP _ _ k; omega)]; exact h2.1
  · rw [f.i (fun k => by have := hP _ _ k; omega)]; exact h2.2.1
  · rw [f.i (fun k => by have := hP _ _ k; omega)]; exact h2.2.2
  · rw [f.i (fun k => by have := hP _ _ k; omega)]; exact h4 k hk
theorem RIv.fo (hy : y0 = 260) (h : RIv σ y0 mv kv img tp n fl) (F : Fr (PFo y0) σ τ) : RIv (setI τ y0 10 (oJ fl)) y0 mv kv img tp n fl ∧ Fr (PFo y0) σ (setI τ y0 10 (oJ fl)) := by
  have F2 : Fr (PFo y0) σ (setI τ y0 10 (oJ fl)) := F.setI (by unfold PFo; omega)
  obtain ⟨a1, a2, a3, a4, a5, a6⟩ := h
  refine ⟨⟨F2.sh a1, a2.fr F2 (fun j k => by unfold PFo at k; omega), fun hi k hk => ?_, ?_, ⟨?_, fun k hk => ?_⟩, sI_same⟩, F2⟩
  · rw [F2.i (by unfold PFo; omega)]; exact a3 hi k hk
  · rw [F2.i (by unfold PFo; omega)]; exact a4
  · rw [F2.i (by unfold PFo; omega)]; exact a5.1
  · rw [F2.i (by unfold PFo; omega)]; exact a5.2 k hk
theorem r_follows (hy : y0 = 260) (hv : VG mv) (ho : VOo mv) (hL : RLok mv) (hw : WRD σ) (h : RIv σ y0 mv kv img tp n fl) (hi : i < mv 7)
    (hQ : ∀ τ, RIv τ y0 mv kv img tp n fl → Fr (PFo y0) σ τ → RFf τ y0 mv (fol mv i) 0 → (∀ k, k < 384 → sI τ (y0 + 5) k = J (fol mv i k)) → Q (.inl none) τ) : WP gT (d + 31) B 256 0 [.ref y0, .int (J i), .retAddr 0, .retAddr 0, .retAddr 0] [] σ Q := by
  have hs := hv.s
  have ho1 := ho.s
  obtain ⟨⟨hn, htx⟩, p0, he⟩ := hL i hi
  have hl := rAll_ok he
  have e10 : sI σ y0 10 = oJ fl := h.2.2.2.2.2
  have tb : ∀ {τ : Sto} {q : Nat} {m : Mem}, RFo σ τ y0 mv i q m → S_12 τ y0 ∧ RMm τ y0 mv ∧ WRD τ := fun k => ⟨k.1.sh h.1, h.2.1.fr k.1 (fun j c => by unfold PFo at c; omega), hw.fr k.1 (fun p j c => by unfold PFo at c; omega)⟩
  have G : ∀ m2 q g τ, q < 96 → g + m2 = mv 1 → RFo σ τ y0 mv i q (folM mv (rOf mv i) q g) → sI τ y0 12 = J q → (∀ ρ, RFo σ ρ y0 mv i (q + 1) (folS mv (rOf mv i) (q + 1)) → WP gT (d + 31) B 256 68 [.ref y0, .int (J i), .int (oJ fl), .int (J (q + 1)), .int (J (mv 1))] [] ρ Q) → WP gT (d + 31) B 256 82 [.ref y0, .int (J i), .int (oJ fl), .int (J q), .int (J g)] [] τ Q := by
    intro m2
    induction m2 with
    | zero =>
      intro q g τ hq hg hI h12 hc
      have hg : g = mv 1 := by omega
      subst hg
      obtain ⟨t1, t2, t3⟩ := tb hI
      rw [folM_1] at hI
      obtain ⟨i1, i2, i3, i4⟩ := hI
      refine g_256_82 t1 ⟨fun _ => ?_, fun c => ?_⟩
      · have i3' : RFn τ y0 mv (folS mv (rOf mv i) (q + 1)) 0 q := i3.cong (fun gg a _ ha => by
          have := folM_lt (mv := mv) (R := rOf mv i) (g := mv 1) hq ha gg
          rw [folM_1] at this
          exact this.symm)
        refine r_quarter' t1 hv t2 i4 (fun k _ => folS_6 hl _ _) i2.2.2 hq i3' (fun ρ F2 hf2 => ?_)
        dsimp only [oV]
        rw [J_add]
        refine hc ρ ⟨i1.tr (F2.mono (fun p j k => by unfold P200 at k; unfold PFo; omega)), ⟨?_, ?_, ?_⟩, hf2, fun k hk => ?_⟩
        · rw [F2.i (by unfold P200; omega)]; exact i2.1
        · rw [F2.i (by unfold P200; omega)]; exact i2.2.1
        · rw [F2.i (by unfold P200; omega)]; exact i2.2.2
        · rw [F2.i (by unfold P200; omega)]; exact i4 k hk
      · exfalso; apply c; rw [t2.at (by omega), J_le (by omega) (by omega)]; exact Nat.le_refl _
    | succ m2 ih =>
      intro q g τ hq hg hI h12 hc
      obtain ⟨t1, t2, t3⟩ := tb hI
      refine g_256_82 t1 ⟨fun c => ?_, fun _ => ?_⟩
      · exfalso; rw [t2.at (by omega), J_le (by omega) (by omega)] at c; omega
      · have f1 : Fr (fun p j => p = y0 ∧ (j = 13 ∨ j = 14 ∨ j = 10)) τ (setI (setI (setI τ y0 13 (J g)) y0 14 (-J 1)) y0 10 (-J 1)) := ((Fr.rf.setI (by omega)).setI (by omega)).setI (by omega)
        have v13 : sI (setI (setI (setI τ y0 13 (J g)) y0 14 (-J 1)) y0 10 (-J 1)) y0 13 = J g := by rw [sI_any (by omega), sI_any (by omega), sI_same]
        have v14 : sI (setI (setI (setI τ y0 13 (J g)) y0 14 (-J 1)) y0 10 (-J 1)) y0 14 = -J 1 := by rw [sI_any (by omega), sI_same]
        have v10 : sI (setI (setI (setI τ y0 13 (J g)) y0 14 (-J 1)) y0 10 (-J 1)) y0 10 = -J 1 := sI_same
        have v12 : sI (setI (setI (setI τ y0 13 (J g)) y0 14 (-J 1)) y0 10 (-J 1)) y0 12 = J q := by rw [f1.i (by omega)]; exact h12
        generalize setI (setI (setI τ y0 13 (J g)) y0 14 (-J 1)) y0 10 (-J 1) = χ at f1 v13 v14 v10 v12 ⊢
        have hI2 : RFo σ χ y0 mv i q (folM mv (rOf mv i) q g) := hI.up f1 (fun p j k => by omega)
        obtain ⟨u1, u2, u3⟩ := tb hI2
        obtain ⟨i1, i2, i3, i4⟩ := hI2
        have by_ : RBy χ y0 (tx_ mv i) (tn_ mv i) (some (2885 + 401 * i)) := by
          refine ⟨u1, i2.2.1, hn, htx, i2.1, (fun e => by cases e), fun b e => ?_⟩
          have e : 2885 + 401 * i = b := Option.some.inj e
          subst e
          refine ⟨by omega, by omega, fun k hk => ?_⟩
          rw [u2.at (by omega)]
          unfold tx_
          rw [if_pos hk]
        have i3' : RFn χ y0 mv (folM mv (rOf mv i) q g) 0 q := i3.cong (fun gg a _ ha => folM_c gg hq ha)
        have Eχ : EVr χ y0 mv q (lkF mv (folM mv (rOf mv i) q g) q) (fun r => dpF mv (folM mv (rOf mv i) q g) 0 q r) (fun k => J (folM mv (rOf mv i) q g k)) := ⟨u2, ⟨v12, hq⟩, fun _ => i3'.1 q (Nat.le_refl _), fun r hr => by rw [i3'.2.1 q r (Nat.le_refl _) hr]; rfl, i4⟩
        have f11 : Fr (fun p j => p = y0 ∧ j = 11) χ (setI χ y0 11 (J 0)) := Fr.rf.setI ⟨rfl, rfl⟩
        have Kχ : Kr y0 mv q (lkF mv (folM mv (rOf mv i) q g) q) (fun r => dpF mv (folM mv (rOf mv i) q g) 0 q r) (fun k => J (folM mv (rOf mv i) q g k)) g (-J 1) [] (setI χ y0 11 (J 0)) := ⟨Eχ.fr f11 (fun p j k => by omega), sI_same, by rw [sI_any (by omega)]; exact v13, by rw [sI_any (by omega)]; exact v14, u3.fr f11 (fun p j k => by omega), fun v hv => (by cases hv), by omega, Or.inl rfl⟩
        refine r_tellR (d := d) hy hv by_ v10 Kχ (fun τ2 f2 L => ?_)
        rw [he] at L
        obtain ⟨L1, L2⟩ := L
        have hI3 : RFo σ τ2 y0 mv i q (folM mv (rOf mv i) q g) := RFo.up ⟨i1, i2, i3, i4⟩ f2 (fun p j k => by unfold P192 at k; omega)
        have e14 : sI τ2 y0 14 = SYf (-J 1) (saysR (eC mv (folS mv (rOf mv i) q) q) g (rOf mv i)) := by
          rw [← folM_e (g := g) hq]; exact L2.2.2.2.1
        obtain ⟨w1, w2, w3⟩ := tb hI3
        obtain ⟨j1, j2, j3, j4⟩ := hI3
        dsimp only [oV]
        refine ⟨w1, fun _ c => ⟨?_, trivial⟩, fun u hu => ⟨?_, ?_⟩⟩
        · have : ¬ q = 0 := fun e => c (by rw [e])
          rw [J_mul, J_add, J_sub (by omega)]; exact (by simp (disch := omega) only [J_add, J_mul, J_sub, J_cl, vp_J]; omega)
        · rw [J_mul, J_add]; exact (by simp (disch := omega) only [J_add, J_mul, J_sub, J_cl, vp_J]; omega)
        · have e1 := folM_s (mv := mv) (R := rOf mv i) (q := q) (g := g) hq (by omega) _ rfl (fun s hs => saysR_6 hl hs)
          have hu2 : u = J (folS mv (rOf mv i) (q + 1) (96 * g + q)) := by
            rw [← e1, hu, e14]
            have e3 : (if J q = J 0 then J 0 else sI τ2 (y0 + 5) (J 96 * J g + J q - J 1).toNatClampNeg) = (if q = 0 then J 0 else J (folM mv (rOf mv i) q g (96 * g + q - 1))) := by
              by_cases c : q = 0
              · rw [if_pos (by rw [c]), if_pos c]
              · rw [if_neg (fun e => c (J_inj (by omega) (by omega) e)), if_neg c, J_mul, J_add, J_sub (by omega), J_cl (by omega), j4 _ (by omega)]
            rw [e3]
          rw [hu2, J_mul, J_add, J_add, J_cl (by omega)]
          have fs : Fr (fun p _ => p = y0 + 5) τ2 (setI τ2 (y0 + 5) (96 * g + q) (J (folS mv (rOf mv i) (q + 1) (96 * g + q)))) := Fr.rf.setI rfl
          refine ih q (g + 1) _ hq (by omega) ⟨j1.tr (fs.mono (fun p j k => by unfold PFo; omega)), ⟨?_, ?_, ?_⟩, j3.fr fs (fun a j h1 h2 k => by omega), fun k hk => ?_⟩ ?_ hc
          · rw [fs.i (by omega)]; exact j2.1
          · rw [fs.i (by omega)]; exact j2.2.1
          · rw [fs.i (by omega)]; exact j2.2.2
          · by_cases c : k = 96 * g + q
            · rw [c, sI_same, folM_at hq]
            · rw [sI_any (by omega), j4 k hk, folM_next hq c]
          · rw [fs.i (by omega), f2.i (by unfold P192; omega)]; exact v12
  have L : ∀ m q τ x4, q + m = 96 → RFo σ τ y0 mv i q (folS mv (rOf mv i) q) → WP gT (d + 31) B 256 68 [.ref y0, .int (J i), .int (oJ fl), .int (J q), x4] [] τ Q := by
    intro m
    induction m with
    | zero =>
      intro q τ x4 hq hI
      have hq : q = 96 := by omega
      subst hq
      refine g_256_68 (tb hI).1 ⟨fun _ => ?_, fun c => absurd (by decide) c⟩
      have k := RIv.fo hy h hI.1
      have f2 : Fr (fun p j => p = y0 ∧ 9 ≤ j ∧ j ≤ 14) τ (setI τ y0 10 (oJ fl)) := Fr.rf.setI (by omega)
      have hI2 := hI.up f2 (fun p j k => k)
      exact hQ _ k.1 k.2 hI2.2.2.1 hI2.2.2.2
    | succ m ih =>
      intro q τ x4 hq hI
      refine g_256_68 (tb hI).1 ⟨fun c => ?_, fun _ => ?_⟩
      · exfalso; rw [J_le (by omega) (by omega)] at c; omega
      · have f2 : Fr (fun p j => p = y0 ∧ 9 ≤ j ∧ j ≤ 14) τ (setI τ y0 12 (J q)) := Fr.rf.setI (by omega)
        have hI2 := hI.up f2 (fun p j k => k)
        exact G (mv 1) q 0 _ (by omega) (by omega) (by rw [folM_0]; exact hI2) sI_same (fun ρ hρ => ih (q + 1) ρ _ (by omega) hρ)
  refine g_256_0 ?_
  refine upto (I := fun j τ => Fr (fun p _ => p = y0 + 5) σ τ ∧ ∀ k, k < j → sI τ (y0 + 5) k = J 0) (W := fun j τ => WP gT (d + 31) B 256 2 [.ref y0, .int (J i), .int (J j), .retAddr 0, .retAddr 0] [] τ Q) 384 ?_ ?_ 0 σ (Nat.zero_le _) ⟨Fr.rf, fun k hk => absurd hk (Nat.not_lt_zero _)⟩
  · intro j τ hj hI ih
    obtain ⟨F, hz⟩ := hI
    refine g_256_2 (F.sh h.1) ⟨fun c => ?_, fun _ => ⟨(by simp (disch := omega) only [J_add, J_mul, J_sub, J_cl, vp_J]; omega), ?_⟩⟩
    · exfalso; rw [J_le (by omega) (by omega)] at c; omega
    · rw [J_cl (by omega), J_add]
      refine ih _ ⟨F.setI rfl, fun k hk => ?_⟩
      by_cases c : k = j
      · rw [c, sI_same]
      · rw [sI_any (by omega)]; exact hz k (by omega)
  · intro τ hI
    obtain ⟨F, hz⟩ := hI
    refine g_256_2 (F.sh h.1) ⟨fun _ => ?_, fun c => absurd (by decide) c⟩
    have f1 : Fr (fun p j => p = y0 ∧ j = 20) τ (setI τ y0 20 (J 0)) := Fr.rf.setI ⟨rfl, rfl⟩
    have v20 : sI (setI τ y0 20 (J 0)) y0 20 = J 0 := sI_same
    generalize setI τ y0 20 (J 0) = χ at f1 v20 ⊢
    have F1 : Fr (PFo y0) σ χ := (F.mono (fun p j k => by unfold PFo; omega)).tr (f1.mono (fun p j k => by unfold PFo; omega))
    have m1 : RMm χ y0 mv := h.2.1.fr F1 (fun j c => by unfold PFo at c; omega)
    refine r_begins (st := folS mv (rOf mv i) 0) (more := 0) (F1.sh h.1) hv m1 (fun ρ F2 hf => ?_)
    dsimp only [oV]
    have F3 : Fr (PFo y0) σ ρ := F1.tr (F2.mono (fun p j k => by unfold P200 at k; unfold PFo; omega))
    have m3 : RMm ρ y0 mv := h.2.1.fr F3 (fun j c => by unfold PFo at c; omega)
    have e1 : J 2884 + J 401 * J i + J 1 = J (2885 + 401 * i) := by rw [J_mul, J_add, J_add, show 2884 + 401 * i + 1 = 2885 + 401 * i by omega]
    have e2 : J (2885 + 401 * i) - J 1 = J (2884 + 401 * i) := by rw [J_sub (by omega), show 2885 + 401 * i - 1 = 2884 + 401 * i by omega]
    have e3 : sI ρ y0 10 = oJ fl := by rw [F2.i (by unfold P200; omega), f1.i (by omega), F.i (by omega)]; exact e10
    have e4 : sI ρ (y0 + 1) (J (2884 + 401 * i)).toNatClampNeg = J (tn_ mv i) := by rw [J_cl (by omega)]; exact m3.at (by omega)
    rw [e1, e2, e3, e4]
    refine ⟨F3.sh h.1, (by simp (disch := omega) only [J_add, J_mul, J_sub, J_cl, vp_J]; omega), ?_⟩
    have f5 : Fr (fun p j => p = y0 ∧ (j = 7 ∨ j = 8)) ρ (setI (setI ρ y0 7 (J (2885 + 401 * i))) y0 8 (J (tn_ mv i))) := (Fr.rf.setI (by omega)).setI (by omega)
    refine L 96 0 _ _ (by omega) ⟨F3.tr (f5.mono (fun p j k => by unfold PFo; omega)), ⟨by rw [sI_any (by omega), sI_same], sI_same, ?_⟩, hf.fr f5 (fun a j h1 h2 k => by omega), fun k hk => ?_⟩
    · rw [f5.i (by omega), F2.i (by unfold P200; omega)]; exact v20
    · rw [f5.i (by omega), F2.i (by unfold P200; omega), f1.i (by omega)]; exact hz k hk
theorem rr_follow (hy : y0 = 260) (hv : VG mv) (ho : VOo mv) (hL : RLok mv) (hw : WRD σ) (h : RIv σ y0 mv kv img tp n fl) {a1 : Int32} (h0 : ∀ k1, k1 < mv 7 → mv 4 < 6 → a1 = J k1 → ∀ τ, RIv τ y0 (addO mv (fol mv k1)) kv img tp n fl → FRf σ τ → sI τ y0 0 = J 0 → Q (.inl (some (.int (J (mv 4))))) τ) (h1 : ¬ IX a1 (mv 7) → ∀ τ v, RIv τ y0 mv kv img tp n fl → FRf σ τ → sI τ y0 0 = J 1 → Q (.inl (some (.int v))) τ) (h2 : IX a1 (mv 7) → ¬ mv 4 < 6 → ∀ τ v, RIv τ y0 mv kv img tp n fl → FRf σ τ → sI τ y0 0 = J 2 → Q (.inl (some (.int v))) τ) : WP gT (d + 32) B 257 0 [.ref y0, .int a1] [] σ Q := by
  have ho1 := ho.s
  have e7 : sI σ (y0 + 1) 7 = J (mv 7) := h.2.1.at (by omega)
  refine g_257_0 (d := d + 23) h.1 (fun u hu => ?_)
  rw [h.2.1.at (k := 4) (by omega), e7] at hu
  simp (disch := omega) only [J_eq] at hu
  by_cases c1 : IX a1 (mv 7)
  · rw [if_neg (fun e => (rix (by omega)).mp e c1)] at hu
    by_cases c : mv 4 = 6
    · rw [if_pos c] at hu; subst hu
      exact ⟨fun e => absurd e ret2, fun _ => h2 c1 (by omega) _ _ h.thr (FRf.th hy) sI_same⟩
    · rw [if_neg c] at hu; subst hu
      obtain ⟨k1, hk1, rfl⟩ := c1
      refine ⟨fun _ => r_follows (d := d) hy hv ho hL (hw.fr (FRf.th hy (v := J 0)) (fun p j k => by omega)) h.thr hk1 (fun τ h3 hF hf hst => ?_), fun e => absurd ret0 e⟩
      have hFF : FRf σ τ := (FRf.th hy).tr (FRf.of hy hF (fun p j k => by unfold PFo at k; omega))
      have hl := rAll_ok (hL k1 hk1).2.choose_spec
      refine ⟨h3.1, r_keeps0 (h0σ := τ) (st := fol mv k1) hy h3 Fr.rf ?_ h3.2.1 (by omega) hst (fun ρ h4 f4 e4 => h0 k1 hk1 (by omega) rfl ρ h4 (hFF.tr f4) e4)⟩
      rw [hF.i (by unfold PFo; omega), sI_same]
  · rw [if_pos ((rix (by omega)).mpr c1)] at hu
    subst hu
    exact ⟨fun e => absurd e ret1, fun _ => h1 c1 _ _ h.thr (FRf.th hy) sI_same⟩
theorem rr_keeps (hy : y0 = 260) (hv : VG mv) (ho : VOo mv) (hL : RLok mv) (hw : WRD σ) (h : RIv σ y0 mv kv img tp n fl) {a1 : Int32} (h0 : ∀ k1, k1 < mv 7 → a1 = J k1 → ∀ τ, RIv τ y0 mv kv img tp n fl → FRf σ τ → sI τ y0 0 = J 0 → Q (.inl (some (.int (J (jdg mv (fol mv k1) 0))))) τ) (h1 : ¬ IX a1 (mv 7) → ∀ τ v, RIv τ y0 mv kv img tp n fl → FRf σ τ → sI τ y0 0 = J 1 → Q (.inl (some (.int v))) τ) : WP gT (d + 32) B 258 0 [.ref y0, .int a1] [] σ Q := by
  have ho1 := ho.s
  have e7 : sI σ (y0 + 1) 7 = J (mv 7) := h.2.1.at (by omega)
  refine g_258_0 (d := d + 23) h.1 (fun u hu => ?_)
  rw [e7] at hu
  by_cases c1 : IX a1 (mv 7)
  · rw [if_neg (fun e => (rix (by omega)).mp e c1)] at hu
    subst hu
    obtain ⟨k1, hk1, rfl⟩ := c1
    refine ⟨fun _ => r_follows (d := d) hy hv ho hL (hw.fr (FRf.th hy (v := J 0)) (fun p j k => by omega)) h.thr hk1 (fun τ h3 hF hf hst => ⟨h3.1, r_laysCalls h3.1 h3.2.1 ho hv (fun ρ hG hc => ?_)⟩), fun e => absurd ret0 e⟩
    have h4 := h3.fr hG (fun p j k _ _ => by unfold P228 at k; unfold SRr; omega)
    have hD := (RDd.of h3.2.1 hf).fr hG (fun i j hi k => by unfold P228 at k; omega)
    have hFF : FRf σ ρ := ((FRf.th hy).tr (FRf.of hy hF (fun p j k => by unfold PFo at k; omega))).tr (FRf.of hy hG (fun p j k => by unfold P228 at k; omega))
    exact ⟨h4.1, r_judged h4.1 hD hv ho hc (h0 k1 hk1 rfl ρ h4 hFF ((hG.i (by unfold P228; omega)).trans ((hF.i (by unfold PFo; omega)).trans sI_same)))⟩
  · rw [if_pos ((rix (by omega)).mpr c1)] at hu
    subst hu
    exact ⟨fun e => absurd e ret1, fun _ => h1 c1 _ _ h.thr (FRf.th hy) sI_same⟩
