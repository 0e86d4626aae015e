/-! ===== the call gorge ===== -/
variable {d : Nat} {B : Nat × Nat} {Q : Out → Sto → Prop} {P : Nat → Nat → Prop} {σ τ : Sto} {x0 y0 g : Nat} {mv mv' kv tx : Mem} {img : Bool} {tp tp' : Mem} {n n' p f0 : Nat} {fl fl' : Option Nat}
theorem VG.up0 {v : Nat} (hv : VG mv) (h : v ≤ 12) : VG (up mv 0 v) := by
  have hs := hv.s
  have e : ∀ k, k ≠ 0 → up mv 0 v k = mv k := fun k hk => up_ne hk
  refine ⟨?_, fun q hq => ?_, fun g hg => ?_, fun r hr => ?_, fun p hp => ?_⟩
  · rw [up_eq, e 1 (by omega), e 2 (by omega), e 3 (by omega), e 9 (by omega), e 10 (by omega), e 11 (by omega), e 12 (by omega)]; omega
  · rw [e _ (by omega), e _ (by omega), e _ (by omega)]; exact hv.q hq
  · rw [e 1 (by omega)] at hg
    have h := hv.g hg
    rw [e (308 + 7 * g) (by omega)]
    exact ⟨h.1, h.2.1, fun s a b => by rw [e _ (by omega)]; exact h.2.2 s a b⟩
  · rw [e 2 (by omega)] at hr
    rw [e _ (by omega), e _ (by omega), e _ (by omega), e _ (by omega), e _ (by omega)]; exact hv.r hr
  · rw [e 3 (by omega)] at hp
    rw [e 2 (by omega), e _ (by omega), e _ (by omega), e _ (by omega), e _ (by omega)]; exact hv.p hp
theorem RGg.up0 {v : Nat} (h : RGg σ g mv) : RGg σ g (up mv 0 v) := by
  have e : ∀ k, k ≠ 0 → up mv 0 v k = mv k := fun k hk => up_ne hk
  refine ⟨?_, fun q hq => ?_, fun i hi => h.z hi, fun i hi => ?_, fun r hr => ?_, fun p hp => ?_⟩
  · rw [e 1 (by omega), e 2 (by omega), e 3 (by omega), e 9 (by omega), e 10 (by omega), e 11 (by omega), e 12 (by omega)]; exact h.s
  · rw [e _ (by omega), e _ (by omega), e _ (by omega)]; exact h.q hq
  · rw [e 1 (by omega)] at hi
    have h2 := h.g hi
    rw [e (308 + 7 * i) (by omega)]
    exact ⟨h2.1, fun s a b => by rw [e _ (by omega)]; exact h2.2 s a b⟩
  · rw [e 2 (by omega)] at hr
    rw [e _ (by omega), e _ (by omega), e _ (by omega), e _ (by omega), e _ (by omega)]; exact h.r hr
  · rw [e 3 (by omega)] at hp
    rw [e _ (by omega), e _ (by omega), e _ (by omega), e _ (by omega)]; exact h.p hp
theorem VOo.gx (ho : VOo mv) (h : GX mv mv') : VOo mv' := by
  have ho1 := ho.s
  have e : ∀ k, (4 ≤ k ∧ k ≤ 8) ∨ (13 ≤ k ∧ k < 20) ∨ 424 ≤ k → mv' k = mv k := fun k hk => h.1 k (Or.inr hk)
  have h3 := h.2
  refine ⟨?_, fun o hk k hk2 => ?_, fun k hk => ?_, fun c hc => ?_, fun p => ?_, fun l hl => ?_⟩
  · rw [e 4 (by omega), e 5 (by omega), e 6 (by omega), e 7 (by omega), e 8 (by omega), e 13 (by omega), e 14 (by omega), e 15 (by omega), e 16 (by omega)]; exact ho1
  · rw [e 4 (by omega)] at hk; rw [e _ (by omega)]; exact ho.2.1 o hk k hk2
  · rw [e 5 (by omega)] at hk
    have := ho.k hk
    have q0 := e (2728 + 6 * k) (by omega)
    have q1 := e (2728 + 6 * k + 1) (by omega)
    have q2 := e (2728 + 6 * k + 2) (by omega)
    have q3 := e (2728 + 6 * k + 3) (by omega)
    have q4 := e (2728 + 6 * k + 4) (by omega)
    have q5 := e (2728 + 6 * k + 5) (by omega)
    omega
  · rw [e 6 (by omega)] at hc
    have := ho.c hc
    have q0 := e (2788 + 2 * c) (by omega)
    have q1 := e (2788 + 2 * c + 1) (by omega)
    omega
  · rw [e 6 (by omega)]
    show cntC (fun i => mv' (2788 + 2 * i)) p (mv 6) ≤ 4
    rw [cntC_cong (cp' := fun i => mv (2788 + 2 * i)) (mv 6) (fun i hi => e _ (by omega))]; exact ho.c4 p
  · rw [e 8 (by omega)] at hl
    have := ho.l hl
    have q0 := e (2836 + 3 * l) (by omega)
    have q1 := e (2836 + 3 * l + 1) (by omega)
    have q2 := e (2836 + 3 * l + 2) (by omega)
    omega
theorem GX.up0 {v : Nat} (h : GX mv mv') : ∀ k, (4 ≤ k ∧ k ≤ 8) ∨ (13 ≤ k ∧ k < 20) ∨ 424 ≤ k → up mv' 0 v k = mv k := fun k hk => by rw [up_ne (by omega)]; exact h.1 k (Or.inr hk)
theorem VOo.up0 {v : Nat} (ho : VOo mv) : VOo (up mv 0 v) := by
  have e : ∀ k, k ≠ 0 → up mv 0 v k = mv k := fun k hk => up_ne hk
  have ho1 := ho.s
  refine ⟨?_, fun o hk k hk2 => ?_, fun k hk => ?_, fun c hc => ?_, fun p => ?_, fun l hl => ?_⟩
  · rw [e 4 (by omega), e 5 (by omega), e 6 (by omega), e 7 (by omega), e 8 (by omega), e 13 (by omega), e 14 (by omega), e 15 (by omega), e 16 (by omega)]; exact ho1
  · rw [e 4 (by omega)] at hk; rw [e _ (by omega)]; exact ho.2.1 o hk k hk2
  · rw [e 5 (by omega)] at hk
    rw [e 3 (by omega), e _ (by omega), e _ (by omega), e _ (by omega), e _ (by omega), e _ (by omega), e _ (by omega)]; exact ho.k hk
  · rw [e 6 (by omega)] at hc
    rw [e 3 (by omega), e _ (by omega), e _ (by omega)]; exact ho.c hc
  · rw [e 6 (by omega)]
    show cntC (fun i => up mv 0 v (2788 + 2 * i)) p (mv 6) ≤ 4
    rw [cntC_cong (cp' := fun i => mv (2788 + 2 * i)) (mv 6) (fun i hi => e _ (by omega))]; exact ho.c4 p
  · rw [e 8 (by omega)] at hl
    rw [e 3 (by omega), e _ (by omega), e _ (by omega), e _ (by omega)]; exact ho.l hl
theorem c_rewind {X : Nat} (nX : S_9 σ X) (hb : CB σ X tx n) (hQ : ∀ τ, Fr (PtX X) σ τ → CTg τ X tx n (skp tx n 0) → Q (.inl none) τ) : WP gT (d + 1) B 73 0 [.ref X] [] σ Q := by
  refine g_73_0 nX ?_
  have f : Fr (PtX X) σ (setI (setI σ X 2 (-J 1)) X 5 (J 0)) := (Fr.rf.setI ⟨rfl, by omega⟩).setI ⟨rfl, by omega⟩
  exact c_goOn (w := none) (f.sh nX) (hb.fr f (fun p j k => by unfold PtX at k; omega)) (b := 0) sI_same (Nat.zero_le _) (by rw [sI_any (by omega), sI_same]; rfl) (fun τ f2 k => hQ τ (f.tr f2) ⟨(f.tr f2).sh nX, k⟩)
theorem CIv.cb (h : CIv σ x0 mv kv img tp n fl) : CB σ (x0 + 1) tp n := h.1.2.2.2.2.2.1
/-- behind a text that was right or wrong -/
theorem c_close {w : Option Nat} (h : CIv σ x0 mv kv img tp n fl) (h2 : sI σ (x0 + 1) 2 = oJ w) (hw : ∀ q, w = some q → q ≤ 400) (hQ : ∀ τ, CIv τ x0 mv kv img tp 0 w → Fr (fun p j => (p = x0 + 1 ∧ j = 1) ∨ (p = x0 ∧ j = 10)) σ τ → Q (.inl (some (.int (if w = none then J 1 else J 0)))) τ) : WP gT d B 141 0 [.ref x0] [] σ Q := by
  refine g_141_0 h.sh ?_
  have f : Fr (fun p j => (p = x0 + 1 ∧ j = 1) ∨ (p = x0 ∧ j = 10)) σ (setI (setI σ x0 10 (sI σ (x0 + 1) 2)) (x0 + 1) 1 (J 0)) := (Fr.rf.setI (Or.inr ⟨rfl, rfl⟩)).setI (Or.inl ⟨rfl, rfl⟩)
  have e : (if sI σ (x0 + 1) 2 = -J 1 then J 1 else J 0) = (if w = none then J 1 else J 0) := by
    rw [h2]
    cases w with
    | none => rfl
    | some q =>
      have := hw q rfl
      rw [if_neg (by show ¬ J q = -J 1; rw [n1_ne (by omega)]; exact id), if_neg (by intro c; cases c)]
  rw [e]
  exact hQ _ (h.txt f (fun p j k => by omega) ⟨sI_same, by omega, fun k hk => by omega⟩ ⟨by rw [sI_any (by omega), sI_same, h2], hw⟩) f
theorem cc_gorge (h : CIv σ x0 mv kv img tp n fl) (hB : 16 ≤ B.1 ∧ 1000 ≤ B.2) (hw : WRD σ)
    (h0 : ∀ mv' q, gTell tp n mv = .inr (mv', q) → mv 0 < 12 → ∀ τ, CIv τ x0 (up mv' 0 (mv 0 + 1)) kv img tp 0 none → FCl σ τ → Q (.inl (some (.int (J (mv 0 + 1))))) τ)
    (h1 : ∀ f, gTell tp n mv = .inl f → ∀ τ, CIv τ x0 mv kv img tp 0 (some f) → FCl σ τ → Q (.inr 1) τ)
    (h2 : ∀ mv' q, gTell tp n mv = .inr (mv', q) → ¬ mv 0 < 12 → ∀ τ, CIv τ x0 mv kv img tp 0 none → FCl σ τ → Q (.inr 2) τ) : WP gT (d + 16) B 96 0 [.ref x0] [] σ Q := by
  have hx := h.x
  have hv := h.mv_.1
  have ho := h.mv_.2.1
  have hs := hv.s
  refine g_96_0 h.sh hB (c_takeG (sub_11_3_4 h.sh) (sub_11_25_4 h.sh) (by omega) (fun τ2 g2 => ?_))
  have k2 := h.fr g2.1 (fun p j k => by unfold SCr; omega)
  have F2 : FCl σ τ2 := FCl.of hx g2.1 (fun p j k => by omega)
  have G2 : RGg τ2 (x0 + 3) mv := h.G.tk hv g2
  refine ⟨k2.sh, c_rewind (sub_11_1_9 k2.sh) k2.cb (fun τ4 f4 c4 => ?_)⟩
  have k4 := k2.fr f4 (fun p j k => by unfold PtX at k; unfold SCr; omega)
  have F4 : FCl σ τ4 := F2.tr (FCl.of hx f4 (fun p j k => by unfold PtX at k; omega))
  refine ⟨k4.sh, c_tellG c4 (sub_11_3_4 k4.sh) (by omega) (by omega) (G2.fr f4 (fun i j hi k => by unfold PtX at k; omega)) hv (WRD.fr hw F4 (fun p j k => by omega)) (fun τ6 f6 L => ?_)⟩
  have k6 := k4.fr f6 (fun p j k => by unfold Pgl at k; unfold SCr; omega)
  have F6 : FCl σ τ6 := F4.tr (FCl.of hx f6 (fun p j k => by unfold Pgl at k; omega))
  refine ⟨k6.sh, ?_⟩
  cases e : gTell tp n mv with
  | inl f =>
    rw [e] at L
    have L : CTb τ6 (x0 + 1) tp n f := L
    have hl := L.le
    obtain ⟨_, _, q, L3⟩ := L
    refine c_close k6 L3.2.2.2.1 (fun q hq => by cases hq; omega) (fun τ8 k8 f8 => ⟨k8.sh, fun _ => ?_, fun c => absurd rfl c⟩)
    exact h1 f e τ8 k8 (F6.tr (FCl.of hx f8 (fun p j k => by omega)))
  | inr a =>
    obtain ⟨mv', q⟩ := a
    rw [e] at L
    obtain ⟨L1, L2, L3, L4⟩ := L
    refine c_close (w := none) k6 L1.2.2.2.2.1 (fun q hq => by cases hq) (fun τ8 k8 f8 => ⟨k8.sh, fun c => absurd c (by decide), fun _ => ?_⟩)
    have F8 : FCl σ τ8 := F6.tr (FCl.of hx f8 (fun p j k => by omega))
    have e0 : sI τ8 (x0 + 24) 0 = J (mv 0) := k8.sc.1
    rw [e0]
    refine ⟨fun c => ?_, fun c => ?_⟩
    · rw [J_lt (by omega) (by omega)] at c
      have G8 : RGg τ8 (x0 + 3) mv' := L2.fr f8 (fun i j hi k => by omega)
      refine c_takeG (sub_11_25_4 k8.sh) (sub_11_3_4 k8.sh) (by omega) (fun τ10 g10 => ?_)
      have G10 : RGg τ10 (x0 + 25) mv' := G8.tk L3 g10
      refine ⟨g10.1.sh k8.sh, ?_⟩
      have e1 : sI τ10 (x0 + 24) 0 = J (mv 0) := by rw [g10.1.i (by omega)]; exact e0
      rw [e1, J_add]
      have fF : Fr (fun p j => (x0 + 25 ≤ p ∧ p < x0 + 41) ∨ (p = x0 + 24 ∧ j = 0) ∨ (p = x0 ∧ j = 12)) τ8 (setI (setI τ10 (x0 + 24) 0 (J (mv 0 + 1))) x0 12 (-J 1)) := ((g10.1.mono (fun p j k => by omega)).setI (by omega)).setI (by omega)
      have fG : Fr (fun p j => (p = x0 + 24 ∧ j = 0) ∨ (p = x0 ∧ j = 12)) τ10 (setI (setI τ10 (x0 + 24) 0 (J (mv 0 + 1))) x0 12 (-J 1)) := (Fr.rf.setI (by omega)).setI (by omega)
      have ag : ∀ k, (4 ≤ k ∧ k ≤ 8) ∨ (13 ≤ k ∧ k < 20) ∨ 424 ≤ k → up mv' 0 (mv 0 + 1) k = mv k := L4.up0
      have hsc := k8.sc
      refine h0 mv' q e c _ ⟨k8.1.chg fF (fun p j k => by unfold SCf SCr; omega) (L3.up0 (by omega)) (ho.gx L4).up0 ⟨(G10.fr fG (fun i j hi k => by omega)).up0, k8.p1 fF (fun i j hi k => by omega) (fun k hk => by unfold pS at hk; exact ag k (by omega)), ?_, k8.p3 fF (fun i j hi k => by omega) (fun k hk => by unfold oS at hk; exact ag k (by omega)), k8.p4 fF (fun i j hi k => by omega) (fun k hk => by unfold lS at hk; exact ag k (by omega)), k8.p5 fF (fun p j k _ => by omega) (fun k hk => by unfold uS at hk; exact ag k (by omega))⟩ (fun j k => by omega), Or.inl sI_same⟩ (F8.tr (FCl.of hx fF (fun p j k => by omega)))
      have en : ∀ j, j ≠ 0 → sI (setI (setI τ10 (x0 + 24) 0 (J (mv 0 + 1))) x0 12 (-J 1)) (x0 + 24) j = sI τ8 (x0 + 24) j := fun j hj => fF.i (by omega)
      refine ⟨?_, ?_, ?_, ?_, ?_, ?_, ?_, ?_⟩
      · rw [sI_any (by omega), sI_same, up_eq]
      · rw [en 2 (by omega), ag 4 (by omega)]; exact hsc.2.1
      · rw [en 5 (by omega), ag 14 (by omega)]; exact hsc.2.2.1
      · rw [en 6 (by omega), ag 15 (by omega)]; exact hsc.2.2.2.1
      · rw [en 7 (by omega), ag 16 (by omega)]; exact hsc.2.2.2.2.1
      · rw [en 8 (by omega), ag 13 (by omega)]; exact hsc.2.2.2.2.2.1
      · rw [en 9 (by omega), ag 7 (by omega)]; exact hsc.2.2.2.2.2.2.1
      · rw [en 11 (by omega), ag 8 (by omega)]; exact hsc.2.2.2.2.2.2.2
    · rw [J_lt (by omega) (by omega)] at c
      exact h2 mv' q e c τ8 k8 F8
theorem RIv.gor (h : RIv σ y0 mv kv img tp n fl) (f : Fr P σ τ) (hP : ∀ p j, P p j → (p = y0 ∧ j ≠ 3) ∨ p = y0 + 1 ∨ p = y0 + 3 ∨ (y0 + 5 ≤ p ∧ p ≤ y0 + 16)) (hm : RMm τ y0 mv') (h6 : sI τ y0 6 = J 0) (hf : sI τ y0 10 = oJ fl') : RIv τ y0 mv' kv img tp 0 fl' := by
  obtain ⟨a1, a2, a3, a4, a5, a6⟩ := h
  refine ⟨f.sh a1, hm, fun hi k hk => ?_, ?_, ⟨h6, fun k hk => by omega⟩, hf⟩
  · rw [f.i (fun c => by have := hP _ _ c; omega)]; exact a3 hi k hk
  · rw [f.i (fun c => by have := hP _ _ c; omega)]; exact a4
theorem rr_gorge (hy : y0 = 260) (hv : VG mv) (hn : n ≤ 400 ∧ ∀ k, k < n → tp k ≤ 255) (hw : WRD σ) (h : RIv σ y0 mv kv img tp n fl)
    (h0 : ∀ mv' q, gTell tp n mv = .inr (mv', q) → mv 0 < 12 → ∀ τ, RIv τ y0 (up mv' 0 (mv 0 + 1)) kv img tp 0 none → FRf σ τ → sI τ y0 0 = J 0 → Q (.inl (some (.int (J (mv 0 + 1))))) τ)
    (h1 : ∀ f, gTell tp n mv = .inl f → ∀ τ, RIv τ y0 mv kv img tp 0 (some f) → FRf σ τ → sI τ y0 0 = J 1 → Q (.inl (some (.int (J 0)))) τ)
    (h2 : ∀ mv' q, gTell tp n mv = .inr (mv', q) → ¬ mv 0 < 12 → ∀ τ, RIv τ y0 mv kv img tp 0 none → FRf σ τ → sI τ y0 0 = J 2 → Q (.inl (some (.int (J 0)))) τ) : WP gT (d + 8) B 185 0 [.ref y0, .retAddr 0] [] σ Q := by
  have hs := hv.s
  refine g_185_0 ?_
  have L1 : ∀ i τ, i ≤ 424 → (Fr (fun p _ => p = y0 + 3) σ τ ∧ ∀ k, k < i → sI τ (y0 + 3) k = J (mv k)) → WP gT (d + 8) B 185 2 [.ref y0, .int (J i)] [] τ Q := by
    refine upto 424 ?_ ?_
    · intro i τ hi hI ih
      obtain ⟨hF, k1⟩ := hI
      refine g_185_2 (hF.sh h.1) ⟨fun c => ?_, fun _ => ⟨(by simp (disch := omega) only [J_add, J_mul, J_sub, J_cl, vp_J]; omega), (by simp (disch := omega) only [J_add, J_mul, J_sub, J_cl, vp_J]; omega), ?_⟩⟩
      · exfalso; simp (disch := omega) only [J_add, J_mul, J_sub, J_cl, J_lt, J_le, J_eq, vp_J, n1_ne, n1_lt, n1_le, n1_nlt, n1_nle] at c; omega
      · rw [J_cl (by omega), J_add, hF.i (by omega), h.2.1 i (by omega)]
        refine ih _ ⟨hF.setI rfl, fun k hk => ?_⟩
        by_cases e : k = i
        · rw [e, sI_same]
        · rw [sI_any (by omega)]; exact k1 k (by omega)
    · intro τ hI
      obtain ⟨hF, k1⟩ := hI
      refine g_185_2 (hF.sh h.1) ⟨fun _ => ?_, fun c => absurd (by decide) c⟩
      have f3 : Fr (fun p j => p = y0 ∧ (j = 10 ∨ j = 7 ∨ j = 8)) τ (setI (setI (setI τ y0 10 (-J 1)) y0 7 (-J 1)) y0 8 (sI τ y0 6)) := ((Fr.rf.setI (by omega)).setI (by omega)).setI (by omega)
      have e6 : sI τ y0 6 = J n := by rw [hF.i (by omega)]; exact h.2.2.2.2.1.1
      rw [e6] at f3 ⊢
      generalize eχ : setI (setI (setI τ y0 10 (-J 1)) y0 7 (-J 1)) y0 8 (J n) = χ at f3 ⊢
      have FF := (hF.mono (P' := fun p j => p = y0 + 3 ∨ (p = y0 ∧ (j = 10 ∨ j = 7 ∨ j = 8))) (fun p j k => Or.inl k)).tr (f3.mono (fun p j k => Or.inr k))
      have mχ : RMm χ y0 mv := h.2.1.fr FF (fun j k => by omega)
      have by_ : RBy χ y0 tp n none := ⟨FF.sh h.1, by rw [← eχ, sI_same], hn.1, hn.2, by rw [← eχ, sI_any (by omega), sI_same]; rfl, fun _ k hk => by rw [FF.i (by omega)]; exact h.2.2.2.2.1.2 k hk, fun b e => by cases e⟩
      refine r_tellG hy by_ (by rw [← eχ, sI_any (by omega), sI_any (by omega), sI_same]) mχ hv (hw.fr FF (fun p j k => by omega)) (fun τ2 f2 L => ?_)
      have F2 := FF.mono (P' := fun p j => (p = y0 ∧ j ≠ 3 ∧ j ≠ 6) ∨ (p = y0 + 1 ∧ j < 424) ∨ p = y0 + 3) (fun p j k => by omega) |>.tr (f2.mono (fun p j k => by unfold Pgr at k; omega))
      have sh2 := F2.sh h.1
      /- back to what was before -/
      have BK : ∀ u w, (u = J 1 ∨ u = J 2) → sI τ2 y0 10 = oJ w → (∀ ρ, RIv ρ y0 mv kv img tp 0 w → FRf σ ρ → sI ρ y0 0 = u → Q (.inl (some (.int (J 0)))) ρ) → WP gT (d + 8) B 185 96 [.ref y0, .int (J 0)] [] (setI (setI τ2 y0 6 (J 0)) y0 0 u) Q := by
        intro u w hu hw2 hq
        have f5 : Fr (fun p j => p = y0 ∧ (j = 6 ∨ j = 0)) τ2 (setI (setI τ2 y0 6 (J 0)) y0 0 u) := (Fr.rf.setI (by omega)).setI (by omega)
        have e60 : sI (setI (setI τ2 y0 6 (J 0)) y0 0 u) y0 6 = J 0 ∧ sI (setI (setI τ2 y0 6 (J 0)) y0 0 u) y0 0 = u := ⟨by rw [sI_any (by omega), sI_same], sI_same⟩
        generalize setI (setI τ2 y0 6 (J 0)) y0 0 u = φ at f5 e60 ⊢
        have F5 := (F2.mono (P' := fun p j => (p = y0 ∧ j ≠ 3) ∨ (p = y0 + 1 ∧ j < 424) ∨ p = y0 + 3) (fun p j k => by omega)).tr (f5.mono (fun p j k => by omega))
        have b3 : ∀ k, k < 424 → sI φ (y0 + 3) k = J (mv k) := fun k hk => by
          rw [f5.i (by omega), f2.i (by unfold Pgr; omega), f3.i (by omega)]; exact k1 k hk
        have L2 : ∀ i ρ, i ≤ 424 → (Fr (fun p j => p = y0 + 1 ∧ j < 424) φ ρ ∧ ∀ k, k < i → sI ρ (y0 + 1) k = J (mv k)) → WP gT (d + 8) B 185 96 [.ref y0, .int (J i)] [] ρ Q := by
          refine upto 424 ?_ ?_
          · intro i ρ hi hI ih
            obtain ⟨hG, g1⟩ := hI
            refine g_185_96 (hG.sh (F5.sh h.1)) ⟨fun c => ?_, fun _ => ⟨(by simp (disch := omega) only [J_add, J_mul, J_sub, J_cl, vp_J]; omega), (by simp (disch := omega) only [J_add, J_mul, J_sub, J_cl, vp_J]; omega), ?_⟩⟩
            · exfalso; simp (disch := omega) only [J_add, J_mul, J_sub, J_cl, J_lt, J_le, J_eq, vp_J, n1_ne, n1_lt, n1_le, n1_nlt, n1_nle] at c; omega
            · rw [J_cl (by omega), J_add, hG.i (by omega), b3 i hi]
              refine ih _ ⟨hG.setI (by omega), fun k hk => ?_⟩
              by_cases e : k = i
              · rw [e, sI_same]
              · rw [sI_any (by omega)]; exact g1 k (by omega)
          · intro ρ hI
            obtain ⟨hG, g1⟩ := hI
            refine g_185_96 (hG.sh (F5.sh h.1)) ⟨fun _ => ?_, fun c => absurd (by decide) c⟩
            have F6 := F5.tr (hG.mono (fun p j k => Or.inr (Or.inl k)))
            refine hq ρ (h.gor F6 (fun p j k => by omega) (fun k hk => ?_) ?_ ?_) (FRf.of hy F6 (fun p j k => by omega)) ?_
            · by_cases c : k < 424
              · exact g1 k c
              · rw [F6.i (by omega)]; exact h.2.1 k hk
            · rw [hG.i (by omega)]; exact e60.1
            · rw [hG.i (by omega), f5.i (by omega)]; exact hw2
            · rw [hG.i (by omega)]; exact e60.2
        exact L2 0 φ (by omega) ⟨Fr.rf, fun k hk => by omega⟩
      refine ⟨sh2, fun u hu => ?_⟩
      cases e : gTell tp n mv with
      | inl f =>
        rw [e] at L
        have L : RTb τ2 y0 tp n none f 10 := L
        have hu2 : u = J 1 := by rw [hu, if_neg L.bad]
        subst hu2
        refine ⟨fun c => absurd c (by decide), fun _ => ?_⟩
        exact BK (J 1) (some f) (Or.inl rfl) L.2.2.1 (fun ρ a b c => h1 f e ρ a b c)
      | inr a =>
        obtain ⟨mv', q⟩ := a
        rw [e] at L
        obtain ⟨L1, L2, L3, L4⟩ := L
        have x0 : mv' 0 = mv 0 := L4.1 0 (Or.inl rfl)
        have e0 : sI τ2 (y0 + 1) 0 = J (mv 0) := by rw [L2.at (by omega), x0]
        have e10 : sI τ2 y0 10 = oJ none := L1.2.1
        by_cases c12 : mv 0 < 12
        · have hu2 : u = J 0 := by
            rw [hu, if_pos L1.2.1, if_neg]
            rw [e0, J_eq (by omega) (by omega)]; omega
          subst hu2
          refine ⟨fun _ => ?_, fun c => absurd ret0 c⟩
          rw [e0, J_add]
          have f5 : Fr (fun p j => (p = y0 ∧ (j = 6 ∨ j = 0)) ∨ (p = y0 + 1 ∧ j = 0)) τ2 (setI (setI (setI τ2 y0 6 (J 0)) y0 0 (J 0)) (y0 + 1) 0 (J (mv 0 + 1))) := ((Fr.rf.setI (by omega)).setI (by omega)).setI (by omega)
          have F5 := (F2.mono (P' := fun p j => (p = y0 ∧ j ≠ 3) ∨ p = y0 + 1 ∨ p = y0 + 3) (fun p j k => by omega)).tr (f5.mono (fun p j k => by omega))
          exact h0 mv' q e c12 _ (h.gor F5 (fun p j k => by omega) L2.th.th.up (by rw [sI_any (by omega), sI_any (by omega), sI_same]) (by rw [f5.i (by omega)]; exact e10)) (FRf.of hy F5 (fun p j k => by omega)) (by rw [sI_any (by omega), sI_same])
        · have hu2 : u = J 2 := by
            rw [hu, if_pos L1.2.1, if_pos]
            rw [e0, J_eq (by omega) (by omega)]; omega
          subst hu2
          refine ⟨fun c => absurd c (by decide), fun _ => ?_⟩
          exact BK (J 2) none (Or.inr rfl) e10 (fun ρ a b c => h2 mv' q e c12 ρ a b c)
  exact L1 0 σ (by omega) ⟨Fr.rf, fun k hk => by omega⟩
