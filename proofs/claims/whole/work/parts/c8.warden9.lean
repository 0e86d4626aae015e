/-! ===== warden: the reference, pieces ===== -/
variable {d : Nat} {B : Nat × Nat} {Q : Out → Sto → Prop} {P : Nat → Nat → Prop} {σ τ : Sto} {v i j k t p q X x0 y0 : Nat} {o s mv kv π tp : Mem} {l : List Nat} {img : Bool} {n : Nat} {fl : Option Nat} {r0 q0 pc : Nat} {dp : Nat → Nat → Int32} {lk : Nat → Int32}
theorem r_wardens (hy : y0 = 260) (hv : VG mv) (ho : VOo mv) (h : RIv σ y0 mv kv img tp n fl) (hD : RDd σ y0 mv dp lk) (hv6 : v ≤ 6) (ho3 : ∀ k, k < v → o k < mv 3) (hd : ∀ i j, i < v → j < v → o i = o j → i = j) (hr : r0 < mv 2) (hq : q0 < 96) (hp : pc ≤ 9) (hA : ARR σ (y0 + 12) v o)
    (hQ : ∀ τ, Fr (P228 y0) σ τ → Q (.inl (some (.long (N64 (feO mv dp r0 q0 pc v o))))) τ) : WP gT (d + 7) B 244 0 [.ref y0, .int (J v), .int (J r0), .int (J q0), .int (J pc), .retAddr 0, .retAddr 0, .retAddr 0, .retAddr 0] [] σ Q := by
  have hs := hv.s
  have ho1 := ho.s
  refine g_244_0 h.1 (r_laysCalls h.1 h.2.1 ho hv (fun τ f0 hc => ?_))
  dsimp only [oV]
  have L : ∀ t i τ x8, i + t = v → Fr (P228 y0) σ τ → RCc τ y0 (wkP mv o r0 q0 pc i) (wkT mv o r0 q0 pc i) (wkN mv o r0 q0 pc i) → WP gT (d + 7) B 244 13 [.ref y0, .int (J v), .int (J r0), .int (J q0), .int (J pc), .int (J (wkA mv o r0 i)), .int (J (wkQ mv o r0 q0 pc i)), .int (J i), x8] [] τ Q := by
    intro t
    induction t with
    | zero =>
      intro i τ x8 hi f hc
      have hi : i = v := hi
      subst hi
      have h2 := h.fr f (fun p j k _ _ => by unfold P228 at k; unfold SRr; omega)
      have hD2 := hD.fr f (fun i j hi k => by unfold P228 at k; omega)
      refine g_244_13 h2.1 ⟨fun _ => r_fearNow h2.1 hD2 hv ho hc ?_, fun c => absurd (Int32.le_refl _) c⟩
      dsimp only [oL]
      have e := fea_W (dp := dp) (ci := wkC mv o r0 q0 pc i) (fun k c hk => wk_cin (k := k) (c := c) hd i (Nat.le_refl _)) (mv 5) (Nat.le_refl _)
      rw [e]
      exact hQ τ f
    | succ t ih =>
      intro i τ x8 hi f hc
      have h2 := h.fr f (fun p j k _ _ => by unfold P228 at k; unfold SRr; omega)
      have hoi := ho3 i (by omega)
      have hpv := hv.p hoi
      have b := wkQ_b (q0 := q0) hv ho3 hr hp i (by omega)
      have b2 := wkQ_b (q0 := q0) hv ho3 hr hp (i + 1) (by omega)
      have ec : sI τ (y0 + 12) (J i).toNatClampNeg = J (o i) := by rw [J_cl (by omega), f.i (by unfold P228; omega)]; exact hA i (by omega)
      have er : f_170 τ y0 (J (o i)) (J 0) = J (mv (376 + 4 * o i)) := rv_170 h2.2.1 (w := 0) (by omega)
      have hcn : cntP mv (o i) (mv 6) ≤ 4 := ho.c4 (o i)
      have eu : (if J (mv (376 + 4 * o i)) ≤ J (wkA mv o r0 i) then J (wkA mv o r0 i) - J (mv (376 + 4 * o i)) else J (mv (376 + 4 * o i)) - J (wkA mv o r0 i)) = J (gapN (wkA mv o r0 i) (mv (376 + 4 * o i))) := by
        unfold gapN
        by_cases c : mv (376 + 4 * o i) ≤ wkA mv o r0 i
        · rw [if_pos (by rw [J_le (by omega) (by omega)]; exact c), J_sub c]
          by_cases c2 : wkA mv o r0 i ≤ mv (376 + 4 * o i)
          · rw [if_pos c2]; congr 1; omega
          · rw [if_neg c2]
        · rw [if_neg (by rw [J_le (by omega) (by omega)]; exact c), if_pos (by omega), J_sub (by omega)]
      refine g_244_13 h2.1 ⟨fun c => ?_, fun _ => ⟨(by simp (disch := omega) only [J_add, J_mul, J_sub, J_cl, vp_J]; omega), ?_, fun u hu => ?_⟩⟩
      · exfalso; rw [J_le (by omega) (by omega)] at c; omega
      · rw [ec, J_mul, J_add, J_add]; exact (by simp (disch := omega) only [J_add, J_mul, J_sub, J_cl, vp_J]; omega)
      rw [ec, er, eu] at hu
      subst hu
      rw [ec, er, J_mul, J_add]
      have eQ : wkQ mv o r0 q0 pc i + pc * gapN (wkA mv o r0 i) (mv (376 + 4 * o i)) = wkQ mv o r0 q0 pc (i + 1) := rfl
      rw [eQ]
      have skip : ¬ wkH mv o r0 q0 pc i → WP gT (d + 7) B 244 13 [.ref y0, .int (J v), .int (J r0), .int (J q0), .int (J pc), .int (J (mv (376 + 4 * o i))), .int (J (wkQ mv o r0 q0 pc (i + 1))), .int (J i + J 1), .int (J (mv (376 + 4 * o i)))] [] τ Q := fun hn => by
        rw [J_add]
        refine ih (i + 1) τ _ (by omega) f ?_
        show RCc τ y0 (if wkH mv o r0 q0 pc i then _ else wkP mv o r0 q0 pc i) (if wkH mv o r0 q0 pc i then _ else wkT mv o r0 q0 pc i) (if wkH mv o r0 q0 pc i then _ else wkN mv o r0 q0 pc i)
        rw [if_neg hn, if_neg hn, if_neg hn]; exact hc
      refine ⟨fun c => ?_, fun c => ⟨(by simp (disch := omega) only [J_add, J_mul, J_sub, J_cl, vp_J]; omega), ?_⟩⟩
      · rw [J_le (by omega) (by omega)] at c
        exact skip (fun k => by have := k.1; omega)
      · rw [J_le (by omega) (by omega)] at c
        refine r_callsOf h2.1 h2.2.1 ho hv (by omega) ?_
        dsimp only [oI]
        refine ⟨h2.1, fun c4 => ?_, fun c4 => ⟨(by simp (disch := omega) only [J_add, J_mul, J_sub, J_cl, vp_J]; omega), ?_⟩⟩
        · rw [J_le (by omega) (by omega)] at c4
          exact skip (fun k => by have := k.2; omega)
        · rw [J_le (by omega) (by omega)] at c4
          have hn := wkN_b (mv := mv) (o := o) (r0 := r0) (q0 := q0) (pc := pc) i
          have hcnt := wk_cnt (mv := mv) (o := o) (r0 := r0) (q0 := q0) (pc := pc) i (o i) (fun j hj e => by have := hd j i (by omega) (by omega) e; omega)
          rw [ec]
          refine r_addCall h2.1 hc (by omega) (by omega) (by omega) (by omega) (fun ρ f2 hc2 => ?_)
          dsimp only [oV]
          rw [J_add]
          refine ih (i + 1) ρ _ (by omega) (f.tr f2) ?_
          show RCc ρ y0 (if wkH mv o r0 q0 pc i then up (wkP mv o r0 q0 pc i) (wkN mv o r0 q0 pc i) (o i) else wkP mv o r0 q0 pc i) (if wkH mv o r0 q0 pc i then up (wkT mv o r0 q0 pc i) (wkN mv o r0 q0 pc i) (wkQ mv o r0 q0 pc (i + 1)) else wkT mv o r0 q0 pc i) (if wkH mv o r0 q0 pc i then wkN mv o r0 q0 pc i + 1 else wkN mv o r0 q0 pc i)
          have hh : wkH mv o r0 q0 pc i := ⟨by omega, by omega⟩
          rw [if_pos hh, if_pos hh, if_pos hh]; exact hc2
  exact L v 0 τ _ (by omega) f0 hc
theorem r_next (n0 : S_12 σ y0) (hv6 : v ≤ 6) (ho : ∀ k, k < v → o k < 1000) (hA : ARR σ (y0 + 12) v o)
    (hn : nxtF v o = none → Q (.inl (some (.int (J 0)))) σ) (hs : ∀ o', nxtF v o = some o' → ∀ τ, Fr (fun p _ => p = y0 + 12) σ τ → ARR τ (y0 + 12) v o' → Q (.inl (some (.int (J 1)))) τ) : WP gT d B 245 0 [.ref y0, .int (J v), .retAddr 0, .retAddr 0, .retAddr 0, .retAddr 0, .retAddr 0] [] σ Q := by
  have L3 : ∀ t i j o2 τ low h x4, j < v → j ≤ i + t → i ≤ v → (∀ ρ, Fr (fun p _ => p = y0 + 12) σ ρ → ARR ρ (y0 + 12) v (revF t o2 i j) → Q (.inl (some (.int (J 1)))) ρ) → Fr (fun p _ => p = y0 + 12) σ τ → ARR τ (y0 + 12) v o2 → WP gT d B 245 100 [.ref y0, .int (J v), .int (J low), .int (J h), .int x4, .int (J i), .int (J j)] [] τ Q := by
    intro t
    induction t with
    | zero =>
      intro i j o2 τ low h x4 hj hji hi hq f hA2
      exact g_245_100 (f.sh n0) ⟨fun _ => hq τ f hA2, fun c => absurd (by rw [J_le (by omega) (by omega)]; omega) c⟩
    | succ t ih =>
      intro i j o2 τ low h x4 hj hji hi hq f hA2
      have hq : ∀ ρ, Fr (fun p _ => p = y0 + 12) σ ρ → ARR ρ (y0 + 12) v (if j ≤ i then o2 else revF t (sw o2 i j) (i + 1) (j - 1)) → Q (.inl (some (.int (J 1)))) ρ := hq
      refine g_245_100 (f.sh n0) ⟨fun c => ?_, fun c => ?_⟩
      · rw [J_le (by omega) (by omega)] at c
        rw [if_pos c] at hq; exact hq τ f hA2
      · rw [J_le (by omega) (by omega)] at c
        rw [if_neg c] at hq
        refine ⟨(by simp (disch := omega) only [J_add, J_mul, J_sub, J_cl, vp_J]; omega), (by simp (disch := omega) only [J_add, J_mul, J_sub, J_cl, vp_J]; omega), (by simp (disch := omega) only [J_add, J_mul, J_sub, J_cl, vp_J]; omega), (by simp (disch := omega) only [J_add, J_mul, J_sub, J_cl, vp_J]; omega), ?_⟩
        rw [J_cl (by omega), J_cl (by omega), J_add, show J j + -J 1 = J (j - 1) by rw [show j = (j - 1) + 1 by omega, Jn1]; rfl]
        exact ih (i + 1) (j - 1) _ _ low h _ (by omega) (by omega) (by omega) hq ((f.setI rfl).setI rfl) (hA2.swp (by omega) (by omega))
  have L2 : ∀ low h, low + 1 < v → low + 1 ≤ h → h < v → lowF o (v - 1) = some low → highF o low h = highF o low (v - 1) → WP gT d B 245 41 [.ref y0, .int (J v), .int (J low), .int (J h), .retAddr 0, .retAddr 0, .retAddr 0] [] σ Q := by
    intro low h
    induction h with
    | zero => intro _ h; omega
    | succ h ih =>
      intro hl hlh hh hlo he
      have ol := ho low (by omega)
      have oh := ho (h + 1) hh
      rw [highF_1] at he
      refine g_245_41 n0 ⟨(by simp (disch := omega) only [J_add, J_mul, J_sub, J_cl, vp_J]; omega), (by simp (disch := omega) only [J_add, J_mul, J_sub, J_cl, vp_J]; omega), fun c2 => ⟨(by simp (disch := omega) only [J_add, J_mul, J_sub, J_cl, vp_J]; omega), (by simp (disch := omega) only [J_add, J_mul, J_sub, J_cl, vp_J]; omega), (by simp (disch := omega) only [J_add, J_mul, J_sub, J_cl, vp_J]; omega), (by simp (disch := omega) only [J_add, J_mul, J_sub, J_cl, vp_J]; omega), ?_⟩, fun c2 => ?_⟩
      · rw [J_cl (by omega), J_cl (by omega), hA low (by omega), hA (h + 1) hh, J_le (by omega) (by omega)] at c2
        rw [if_pos (Or.inr c2)] at he
        rw [J_cl (by omega), J_cl (by omega)]
        have f : Fr (fun p _ => p = y0 + 12) σ (setI (setI σ (y0 + 12) low (sI σ (y0 + 12) (h + 1))) (y0 + 12) (h + 1) (sI σ (y0 + 12) low)) := (Fr.rf.setI (by omega)).setI (by omega)
        rw [J_sub (by omega), J_add]
        refine L3 v (low + 1) (v - 1) (sw o low (h + 1)) _ low (h + 1) _ (by omega) (by omega) (by omega) (fun ρ f2 hA2 => hs (nxtA v o low) (nxtF_s hlo) ρ f2 ?_) f (hA.swp (by omega) (by omega))
        unfold nxtA
        rw [← he]; exact hA2
      · rw [J_cl (by omega), J_cl (by omega), hA low (by omega), hA (h + 1) hh, J_le (by omega) (by omega)] at c2
        by_cases c : h + 1 ≤ low + 1
        · exfalso
          have : h = low := by omega
          subst this
          exact c2 (lowF_lt _ _ hlo).2
        · rw [if_neg (fun k => k.elim c c2)] at he
          rw [Jn1]
          exact ih hl (by omega) (by omega) hlo he
  have L1 : ∀ k, k ≤ v - 1 → lowF o k = lowF o (v - 1) → WP gT d B 245 4 [.ref y0, .int (J v), .int (VJ k), .retAddr 0, .retAddr 0, .retAddr 0, .retAddr 0] [] σ Q := by
    intro k
    induction k with
    | zero =>
      intro _ he
      rw [VJ_0]
      exact g_245_4 n0 ⟨fun _ => ⟨fun c => absurd c (by decide), fun _ => hn (nxtF_n he.symm)⟩, fun c => absurd (by decide) c⟩
    | succ k ih =>
      intro hk he
      rw [VJ_s]
      have he : (if o k ≤ o (k + 1) then some k else lowF o k) = lowF o (v - 1) := he
      have ok := ho k (by omega)
      have ok1 := ho (k + 1) (by omega)
      refine g_245_4 n0 ⟨fun c => ?_, fun _ => ⟨(by simp (disch := omega) only [J_add, J_mul, J_sub, J_cl, vp_J]; omega), ?_, fun c => ?_, fun c => ?_⟩⟩
      · exfalso; rw [J_lt (by omega) (by omega)] at c; omega
      · rw [J_add]; exact (by simp (disch := omega) only [J_add, J_mul, J_sub, J_cl, vp_J]; omega)
      · rw [J_add, J_cl (by omega), J_cl (by omega), hA k (by omega), hA (k + 1) (by omega), J_le (by omega) (by omega)] at c
        rw [if_pos c] at he
        refine ⟨fun _ => ?_, fun c => absurd (by rw [J_le (by omega) (by omega)]; omega) c⟩
        rw [J_sub (by omega)]
        exact L2 k (v - 1) (by omega) (by omega) (by omega) he.symm rfl
      · rw [J_add, J_cl (by omega), J_cl (by omega), hA k (by omega), hA (k + 1) (by omega), J_le (by omega) (by omega)] at c
        rw [if_neg c] at he
        exact ih (by omega) he
  refine g_245_0 ?_
  by_cases c0 : v = 0
  · subst c0
    exact g_245_4 n0 ⟨fun _ => ⟨fun c => absurd c (by decide), fun _ => hn (nxtF_n rfl)⟩, fun c => absurd (by decide) c⟩
  · have e : J v - J 2 = VJ (v - 1) := by
      by_cases c1 : v = 1
      · subst c1; decide
      · rw [J_sub (by omega), show v - 1 = (v - 2) + 1 by omega, VJ_s]
    rw [e]
    exact L1 (v - 1) (Nat.le_refl _) rfl
