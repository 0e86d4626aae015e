/-! ===== lines of a gorge: rows and gates ===== -/
variable {d : Nat} {B : Nat × Nat} {Q : Out → Sto → Prop} {P : Nat → Nat → Prop} {σ τ : Sto} {X y0 g : Nat} {mv mv' tx : Mem} {n p f0 : Nat} {w : List Nat} {bs : Option Nat}
theorem tN_v {lo hi1 v q : Nat} (h : tN tx n lo hi1 p = .inr (v, q)) : lo ≤ v ∧ v < hi1 := by
  unfold tN at h
  split at h
  · cases h
  · cases h; omega
theorem tNu_v {lo hi1 v : Nat} {s s' : TS} (hl : lo < hi1) (h : tNu tx n lo hi1 s = (v, s')) : lo ≤ v ∧ v < hi1 := by
  cases s with
  | inl f => cases h; omega
  | inr p =>
    unfold tNu at h
    dsimp only at h
    cases e : tN tx n lo hi1 p with
    | inl f => rw [e] at h; cases h; omega
    | inr a => rw [e] at h; cases h; exact tN_v e
theorem gSpan_r {from_ hi1 v1 v2 v3 q0 q1 q2 : Nat} (t1 : tN tx n 0 96 p = .inr (v1, q0)) (t2 : tN tx n v1 96 q0 = .inr (v2, q1)) (t3 : tN tx n 0 hi1 q1 = .inr (v3, q2)) : gSpan tx n mv from_ hi1 p = .inr (fillM mv from_ v1 v2 v3, q2) := by
  unfold gSpan; exact (bnd_r t1).trans ((bnd_r t2).trans (bnd_r t3))
theorem gSpan_l {from_ hi1 v1 v2 v3 f : Nat} {s1 s2 : TS} (e1 : tNu tx n 0 96 (.inr p) = (v1, s1)) (e2 : tNu tx n v1 96 s1 = (v2, s2)) (e3 : tNu tx n 0 hi1 s2 = (v3, .inl f)) : gSpan tx n mv from_ hi1 p = .inl f := by
  unfold gSpan
  rcases tNu_l e3 with hh | ⟨q2, hh, t3⟩
  · subst hh
    rcases tNu_l e2 with hh | ⟨q1, hh, t2⟩
    · subst hh
      rcases tNu_l e1 with hh | ⟨q0, hh, t1⟩
      · cases hh
      · cases hh; exact bnd_l t1
    · subst hh
      obtain ⟨q0, hq0, t1⟩ := tNu_r e1; cases hq0; exact (bnd_r t1).trans (bnd_l t2)
  · subst hh
    obtain ⟨q1, hq1, t2⟩ := tNu_r e2; subst hq1; obtain ⟨q0, hq0, t1⟩ := tNu_r e1; cases hq0; exact (bnd_r t1).trans ((bnd_r t2).trans (bnd_l t3))
def Pfi_span (X g i : Nat) : Nat → Nat → Prop := fun p j => (p = X ∧ 2 ≤ j) ∨ p = g + 2 + i
theorem RGg.row (h : RGg σ g mv) {i q : Nat} (hi : i < 3) (hq : q < 96) : sI σ (g + 2 + i) q = J (mv (20 + 96 * i + q)) := by
  have h2 := h.q hq
  match i, hi with
  | 0, _ => exact h2.1
  | 1, _ => exact h2.2.1
  | 2, _ => exact h2.2.2
theorem c_span {i hi1 : Nat} {x3 : Int32} (hi : i < 3) (hh : hi1 = if i = 0 then 10000 else if i = 1 then 10 else 100) (hx3 : x3 = J hi1 - J 1) (h : CTg σ X tx n p) (n4 : S_4 σ g) (hd : X + 1 < g) (hG : RGg σ g mv) (hv : VG mv) (hQ : ∀ τ, Fr (Pgl X g) σ τ → LN τ X g tx n (gSpan tx n mv (20 + 96 * i) hi1 p) → Q (.inl none) τ) : WP gT (d + 2) B 40 0 [.ref g, .ref X, .int (J i), .int x3, .retAddr 0, .retAddr 0, .retAddr 0, .retAddr 0] [] σ Q := by
  have hhi : hi1 ≤ 10000 ∧ 0 < hi1 := by
    rw [hh]
    by_cases e0 : i = 0
    · rw [if_pos e0]; omega
    · rw [if_neg e0]
      by_cases e1 : i = 1
      · rw [if_pos e1]; omega
      · rw [if_neg e1]; omega
  have c0 : CTs σ X tx n (.inr p) := h
  refine g_40_0 h.1 (c_tnv c0 (by omega) (hi1 := 96) (by omega) (by decide) (fun τ1 v1 s1 e1 f1 d1 => ⟨d1.sh, ?_⟩))
  have b1 := tNu_v (by omega) e1
  refine c_tnv d1 (by omega) (hi1 := 96) (by omega) (by decide) (fun τ2 v2 s2 e2 f2 d2 => ⟨d2.sh, ?_⟩)
  have b2 := tNu_v (by omega) e2
  refine c_tnv d2 (by omega) (hi1 := hi1) (by omega) hx3 (fun τ3 v3 s3 e3 f3 d3 => ?_)
  have b3 := tNu_v (by omega) e3
  dsimp only [oI]
  have F3 : Fr (PtX X) σ τ3 := (f1.tr f2).tr f3
  have S3 := F3.mono (P' := Pfi_span X g i) (fun p j k => by unfold PtX at k; unfold Pfi_span; omega)
  have N4 : S_4 τ3 g := F3.sh n4
  refine upto (I := fun k χ => v1 ≤ k ∧ Fr (fun p _ => p = g + 2 + i) τ3 χ ∧ ∀ q, q < 96 → sI χ (g + 2 + i) q = if v1 ≤ q ∧ q < k then J v3 else sI σ (g + 2 + i) q) (W := fun k χ => WP gT (d + 2) B 40 31 [.ref g, .ref X, .int (J i), .int x3, .int (J v1), .int (J v2), .int (J v3), .int (J k)] [] χ Q) (v2 + 1) ?_ ?_ v1 τ3 (by omega) ⟨Nat.le_refl _, Fr.rf, fun q hq => ?_⟩
  · intro k χ hk hI ih
    obtain ⟨i1, i2, i3⟩ := hI
    refine g_40_31 (i2.sh N4) ⟨fun c => ?_, fun _ => ⟨(by simp (disch := omega) only [J_add, J_mul, J_sub, J_cl, vp_J]; omega), (by simp (disch := omega) only [J_add, J_mul, J_sub, J_cl, vp_J]; omega), ?_⟩⟩
    · exfalso; rw [J_lt (by omega) (by omega)] at c; omega
    · rw [J_cl (by omega), J_cl (by omega), J_add]
      refine ih _ ⟨by omega, i2.setI rfl, fun q hq => ?_⟩
      by_cases e : q = k
      · rw [e, sI_same, if_pos (by omega)]
      · rw [sI_any (by omega), i3 q hq]
        by_cases c : v1 ≤ q ∧ q < k
        · rw [if_pos c, if_pos (by omega)]
        · rw [if_neg c, if_neg (by omega)]
  · intro χ hI
    obtain ⟨i1, i2, i3⟩ := hI
    refine g_40_31 (i2.sh N4) ⟨fun _ => ?_, fun c => absurd (by rw [J_lt (by omega) (by omega)]; omega) c⟩
    have FF : Fr (Pfi_span X g i) σ χ := S3.tr (i2.mono (fun p j k => by unfold Pfi_span; omega))
    have cc : CTs χ X tx n s3 := d3.fr i2 (fun q j k => by omega)
    refine hQ χ (FF.mono (fun p j k => by unfold Pfi_span at k; unfold Pgl; omega)) ?_
    cases s3 with
    | inl f => rw [gSpan_l e1 e2 e3]; exact Or.inl cc
    | inr q =>
      obtain ⟨q2, hq2, t3⟩ := tNu_r e3; subst hq2; obtain ⟨q1, hq1, t2⟩ := tNu_r e2; subst hq1; obtain ⟨q0, hq0, t1⟩ := tNu_r e1; cases hq0
      rw [gSpan_r t1 t2 t3]
      have en : ∀ k, ¬ (20 + 96 * i ≤ k ∧ k < 116 + 96 * i) → fillM mv (20 + 96 * i) v1 v2 v3 k = mv k := fun k hk => if_neg (by omega)
      refine ⟨cc, hG.span hv hi en FF (fun p j k a b => by unfold Pfi_span at k; omega) (fun q hq => ?_), hv.span hi en (fun q hq => ?_)⟩
      · rw [i3 q hq]
        unfold fillM
        by_cases c : v1 ≤ q ∧ q < v2 + 1
        · rw [if_pos c, if_pos (by omega)]
        · rw [if_neg c, if_neg (by omega)]; exact hG.row hi hq
      · unfold fillM
        by_cases c : 20 + 96 * i + v1 ≤ 20 + 96 * i + q ∧ 20 + 96 * i + q ≤ 20 + 96 * i + v2
        · rw [if_pos c]
          match i, hi, hh with
          | 0, _, hh => rw [if_pos rfl] at hh ⊢; omega
          | 1, _, hh => rw [if_neg (by omega), if_pos rfl] at hh ⊢; omega
          | 2, _, hh => rw [if_neg (by omega), if_neg (by omega)] at hh ⊢; omega
        · rw [if_neg c]
          have hvq := hv.q hq
          match i, hi with
          | 0, _ => rw [if_pos rfl]; exact hvq.1
          | 1, _ => rw [if_neg (by omega), if_pos rfl]; exact hvq.2.1
          | 2, _ => rw [if_neg (by omega), if_neg (by omega)]; exact hvq.2.2
  · rw [if_neg (by omega)]; exact F3.i (by unfold PtX; omega)
theorem r_span {from_ hi1 : Nat} {x2 : Int32} (hf : from_ + 96 ≤ 424) (hh : 0 < hi1 ∧ hi1 ≤ 10000) (hx2 : x2 = J hi1 - J 1) (h : RTg σ y0 tx n bs p) (hm : RMm σ y0 mv) (hQ : ∀ τ, Fr (Pgr y0) σ τ → LR τ y0 tx n bs (gSpan tx n mv from_ hi1 p) → Q (.inl none) τ) : WP gT (d + 3) B 181 0 [.ref y0, .int (J from_), .int x2, .retAddr 0, .retAddr 0, .retAddr 0, .retAddr 0] [] σ Q := by
  have c0 : RTs σ y0 tx n bs (.inr p) := h
  refine g_181_0 h.1.1 (r_figv c0 (by omega) (hi1 := 96) (by omega) (by decide) (fun τ1 u1 v1 s1 e1 f1 d1 w1 => ⟨d1.by_.1, ?_⟩))
  have b1 := tNu_v (by omega) e1
  have F1 := f1.mono PY_gr
  /- the second number is read from the first on, if there is one -/
  cases s1 with
  | inl f =>
    refine r_fig_b d1 ⟨d1.by_.1, r_fig_b d1 ⟨d1.by_.1, fun c => absurd c d1.bad, fun _ => hQ τ1 F1 ?_⟩⟩
    rcases tNu_l e1 with hh | ⟨q0, hh, t1⟩
    · cases hh
    · cases hh; unfold gSpan; rw [bnd_l t1]; exact d1
  | inr q0 =>
    have x1 := w1 _ rfl
    subst x1
    refine r_figv (s := .inr q0) d1 (by omega) (hi1 := 96) (by omega) (by decide) (fun τ2 u2 v2 s2 e2 f2 d2 w2 => ⟨d2.by_.1, ?_⟩)
    have b2 := tNu_v (by omega) e2
    refine r_figv d2 (by omega) (hi1 := hi1) (by omega) hx2 (fun τ3 u3 v3 s3 e3 f3 d3 w3 => ⟨d3.by_.1, fun c => ?_, fun c => ?_⟩)
    · have F3 : Fr (PYt y0) σ τ3 := (f1.tr f2).tr f3
      cases s3 with
      | inl f => exact absurd c d3.bad
      | inr q =>
        have x3 := w3 _ rfl
        obtain ⟨q2, hq2, t3⟩ := tNu_r e3; subst hq2
        have x2 := w2 _ rfl
        subst x2; subst x3
        obtain ⟨q1, hq1, t2⟩ := tNu_r e2; cases hq1; obtain ⟨q9, hq9, t1⟩ := tNu_r e1; cases hq9
        refine upto (I := fun k χ => v1 ≤ k ∧ Fr (fun p j => p = y0 + 1 ∧ j < 424) τ3 χ ∧ RMm χ y0 (fun j => if from_ + v1 ≤ j ∧ j < from_ + k then v3 else mv j)) (W := fun k χ => WP gT (d + 3) B 181 37 [.ref y0, .int (J from_), .int x2, .int (J v1), .int (J v2), .int (J v3), .int (J k)] [] χ Q) (v2 + 1) ?_ ?_ v1 τ3 (by omega) ⟨Nat.le_refl _, Fr.rf, ?_⟩
        · intro k χ hk hI ih
          obtain ⟨i1, i2, i3⟩ := hI
          refine g_181_37 (i2.sh d3.by_.1) ⟨fun c => ?_, fun _ => ⟨(by simp (disch := omega) only [J_add, J_mul, J_sub, J_cl, vp_J]; omega), ?_⟩⟩
          · exfalso; rw [J_lt (by omega) (by omega)] at c; omega
          · rw [J_add from_ k, J_cl (by omega), J_add]
            refine ih _ ⟨by omega, i2.setI (by omega), ?_⟩
            have e : (fun j => if from_ + v1 ≤ j ∧ j < from_ + (k + 1) then v3 else mv j) = up (fun j => if from_ + v1 ≤ j ∧ j < from_ + k then v3 else mv j) (from_ + k) v3 := funext fun j => by
              by_cases ej : j = from_ + k
              · rw [ej, up_eq, if_pos (by omega)]
              · rw [up_ne ej]
                by_cases c : from_ + v1 ≤ j ∧ j < from_ + k
                · rw [if_pos c, if_pos (by omega)]
                · rw [if_neg c, if_neg (by omega)]
            rw [e]; exact i3.up
        · intro χ hI
          obtain ⟨i1, i2, i3⟩ := hI
          refine g_181_37 (i2.sh d3.by_.1) ⟨fun _ => ?_, fun c => absurd (by rw [J_lt (by omega) (by omega)]; omega) c⟩
          refine hQ χ ((F3.mono PY_gr).tr (i2.mono (fun p j k => Or.inr k))) ?_
          rw [gSpan_r t1 t2 t3]
          refine ⟨RTs.fr (s := .inr q) d3 i2 (fun p j k => by omega), ?_⟩
          have e : fillM mv from_ v1 v2 v3 = (fun j => if from_ + v1 ≤ j ∧ j < from_ + (v2 + 1) then v3 else mv j) := funext fun j => by
            unfold fillM
            by_cases c : from_ + v1 ≤ j ∧ j < from_ + (v2 + 1)
            · rw [if_pos c, if_pos (by omega)]
            · rw [if_neg c, if_neg (by omega)]
          rw [e]; exact i3
        · have e : (fun j => if from_ + v1 ≤ j ∧ j < from_ + v1 then v3 else mv j) = mv := funext fun j => if_neg (by omega)
          rw [e]; exact hm.t F3
    · refine hQ τ3 (((f1.tr f2).tr f3).mono PY_gr) ?_
      cases s3 with
      | inl f => rw [gSpan_l e1 e2 e3]; exact d3
      | inr q => exact absurd d3.2.1 c
/-! gates -/
def gNum1 (tx : Mem) (n f : Nat) (mv : Mem) (k p : Nat) : Rs (Mem × Nat) := bnd (tN tx n 0 10000 p) (fun v p => gNums tx n f (up mv (309 + 7 * mv 1 + k) v) (k + 1) p)
def gFin (a : Mem × Nat) (p : Nat) : Rs Mem := .inr (up (up a.1 (308 + 7 * a.1 1) a.2) 1 (a.1 1 + 1), p)
theorem gNums_n {f k : Nat} (h : ¬ (p < n ∧ isD tx p = true)) : gNums tx n f mv k p = .inr ((mv, k), p) := by
  cases f with
  | zero => exact if_neg h
  | succ f => exact if_neg h
theorem gNums_y {f k : Nat} (h : p < n ∧ isD tx p = true) : gNums tx n (f + 1) mv k p = gNum1 tx n f mv k p := if_pos h
theorem gNums_0 {k : Nat} (h : p < n ∧ isD tx p = true) : gNums tx n 0 mv k p = .inl p := if_pos h
theorem gGate_1 : gGate tx n mv p = bnd (gNum1 tx n 5 mv 0 p) gFin := by
  unfold gGate gNum1
  cases tN tx n 0 10000 p with
  | inl f => rfl
  | inr a => rfl
def Pfi_gate (X g : Nat) (mv : Mem) : Nat → Nat → Prop := fun p j => (p = X ∧ 2 ≤ j) ∨ (p = g ∧ j = 5) ∨ (p = g + 5 ∧ j = mv 1) ∨ (p = g + 6 ∧ mv 1 * 7 + 1 ≤ j ∧ j ≤ mv 1 * 7 + 6)
theorem c_gateL (n4 : S_4 σ g) (hd : X + 1 < g) (hG : RGg σ g mv) (hv : VG mv) (hc : mv 1 < 4) {R : Rs Mem} (hQ : ∀ τ, Fr (Pgl X g) σ τ → LN τ X g tx n R → Q (.inl none) τ) : ∀ f k p mk τ, f + k = 5 → Fr (Pfi_gate X g mv) σ τ → CTg τ X tx n p → sI τ g 5 = J (mv 1) → mk 1 = mv 1 → (∀ s, 1 ≤ s → s ≤ k → sI τ (g + 6) (mv 1 * 7 + s) = J (mk (308 + 7 * mv 1 + s)) ∧ mk (308 + 7 * mv 1 + s) ≤ 9999) → (∀ j, ¬ (309 + 7 * mv 1 ≤ j ∧ j < 309 + 7 * mv 1 + k) → mk j = mv j) → R = bnd (gNum1 tx n f mk k p) gFin → WP gT (d + 2) B 41 2 [.ref g, .ref X, .int (J k)] [] τ Q := by
  have hs := hv.s
  intro f
  induction f with
  | zero =>
    intro k p mk τ hfk F h r5 m1 hcell hrest hR
    have hk : k = 5 := by omega
    subst hk
    have c0 : CTs τ X tx n (.inr p) := h
    refine g_41_2 (F.sh n4) h.1 (c_tnv c0 (by omega) (hi1 := 10000) (by omega) (by decide) (fun τ1 v s e f1 d1 => ?_))
    dsimp only [oI]
    have r5' : sI τ1 g 5 = J (mv 1) := by rw [f1.i (by unfold PtX; omega)]; exact r5
    have G1 : Fr (Pfi_gate X g mv) σ τ1 := F.tr (f1.mono (fun p j k => by unfold PtX at k; unfold Pfi_gate; omega))
    rw [r5, r5']
    simp (disch := omega) only [J_add, J_mul, J_cl]
    refine ⟨G1.sh n4, d1.sh, (by simp (disch := omega) only [J_add, J_mul, J_sub, J_cl, vp_J]; omega), fun _ => ⟨(by simp (disch := omega) only [J_add, J_mul, J_sub, J_cl, vp_J]; omega), ?_⟩, fun c => absurd (by decide) c⟩
    have b := tNu_v (by omega) e
    have FF : Fr (Pfi_gate X g mv) σ (setI (setI (setI τ1 (g + 6) (mv 1 * 7 + (5 + 1)) (J v)) (g + 5) (mv 1) (J (5 + 1))) g 5 (J (mv 1 + 1))) := ((G1.setI (by unfold Pfi_gate; omega)).setI (by unfold Pfi_gate; omega)).setI (by unfold Pfi_gate; omega)
    have cc : CTs (setI (setI (setI τ1 (g + 6) (mv 1 * 7 + (5 + 1)) (J v)) (g + 5) (mv 1) (J (5 + 1))) g 5 (J (mv 1 + 1))) X tx n s := ((d1.setI (by omega)).setI (by omega)).setI (by omega)
    refine hQ _ (FF.mono (fun p j k => by unfold Pfi_gate at k; unfold Pgl; omega)) ?_
    cases s with
    | inl f =>
      rcases tNu_l e with hh | ⟨q, hh, t⟩
      · cases hh
      · cases hh; rw [hR]; unfold gNum1; rw [bnd_l t]; exact Or.inl cc
    | inr q =>
      obtain ⟨q', hq', t⟩ := tNu_r e
      cases hq'
      by_cases cd : q < n ∧ isD tx q = true
      · rw [hR]; unfold gNum1; rw [bnd_r t, gNums_0 cd]; exact Or.inr ⟨cc, cd.1, cd.2⟩
      · rw [hR]; unfold gNum1; rw [bnd_r t, gNums_n cd]
        have u1 : up mk (309 + 7 * mk 1 + 5) v 1 = mv 1 := by rw [up_ne (by omega)]; exact m1
        show LN _ X g tx n (.inr (up (up (up mk (309 + 7 * mk 1 + 5) v) (308 + 7 * up mk (309 + 7 * mk 1 + 5) v 1) (5 + 1)) 1 (up mk (309 + 7 * mk 1 + 5) v 1 + 1), q))
        rw [u1, m1]
        have en : ∀ j, j ≠ 1 → ¬ (308 + 7 * mv 1 ≤ j ∧ j < 315 + 7 * mv 1) → up (up (up mk (309 + 7 * mv 1 + 5) v) (308 + 7 * mv 1) (5 + 1)) 1 (mv 1 + 1) j = mv j := fun j h1 h2 => by rw [up_ne h1, up_ne (by omega), up_ne (by omega)]; exact hrest j (by omega)
        have ec : up (up (up mk (309 + 7 * mv 1 + 5) v) (308 + 7 * mv 1) (5 + 1)) 1 (mv 1 + 1) (308 + 7 * mv 1) = 6 := by rw [up_ne (by omega), up_eq]
        have es : ∀ s, 1 ≤ s → s ≤ 6 → sI (setI (setI (setI τ1 (g + 6) (mv 1 * 7 + (5 + 1)) (J v)) (g + 5) (mv 1) (J (5 + 1))) g 5 (J (mv 1 + 1))) (g + 6) (mv 1 * 7 + s) = J (up (up (up mk (309 + 7 * mv 1 + 5) v) (308 + 7 * mv 1) (5 + 1)) 1 (mv 1 + 1) (308 + 7 * mv 1 + s)) ∧ up (up (up mk (309 + 7 * mv 1 + 5) v) (308 + 7 * mv 1) (5 + 1)) 1 (mv 1 + 1) (308 + 7 * mv 1 + s) ≤ 9999 := fun s h1 h2 => by
          rw [sI_any (by omega), sI_any (by omega), up_ne (by omega), up_ne (by omega)]
          by_cases e6 : s = 6
          · subst e6
            rw [sI_same, show 308 + 7 * mv 1 + 6 = 309 + 7 * mv 1 + 5 by omega, up_eq]; exact ⟨rfl, by omega⟩
          · rw [sI_any (by omega), up_ne (by omega), f1.i (by unfold PtX; omega)]; exact hcell s h1 (by omega)
        refine ⟨cc, hG.gate hv hc en up_eq (by rw [ec]; omega) FF (fun p j k a b => by unfold Pfi_gate at k; omega) ⟨sI_same, ?_, fun s h1 h2 => (es s h1 (by rw [ec] at h2; exact h2)).1⟩, hv.gate hc en up_eq (by rw [ec]; omega) (fun s h1 h2 => (es s h1 (by rw [ec] at h2; exact h2)).2)⟩
        rw [sI_any (by omega), sI_same, ec]
  | succ f ih =>
    intro k p mk τ hfk F h r5 m1 hcell hrest hR
    have c0 : CTs τ X tx n (.inr p) := h
    refine g_41_2 (F.sh n4) h.1 (c_tnv c0 (by omega) (hi1 := 10000) (by omega) (by decide) (fun τ1 v s e f1 d1 => ?_))
    dsimp only [oI]
    have r5' : sI τ1 g 5 = J (mv 1) := by rw [f1.i (by unfold PtX; omega)]; exact r5
    have G1 : Fr (Pfi_gate X g mv) σ τ1 := F.tr (f1.mono (fun p j k => by unfold PtX at k; unfold Pfi_gate; omega))
    rw [r5, r5']
    simp (disch := omega) only [J_add, J_mul, J_cl]
    have b := tNu_v (by omega) e
    have F2 : Fr (Pfi_gate X g mv) σ (setI τ1 (g + 6) (mv 1 * 7 + (k + 1)) (J v)) := G1.setI (by unfold Pfi_gate; omega)
    have c2 : CTs (setI τ1 (g + 6) (mv 1 * 7 + (k + 1)) (J v)) X tx n s := d1.setI (by omega)
    have FF : Fr (Pfi_gate X g mv) σ (setI (setI (setI τ1 (g + 6) (mv 1 * 7 + (k + 1)) (J v)) (g + 5) (mv 1) (J (k + 1))) g 5 (J (mv 1 + 1))) := (F2.setI (by unfold Pfi_gate; omega)).setI (by unfold Pfi_gate; omega)
    have cc : CTs (setI (setI (setI τ1 (g + 6) (mv 1 * 7 + (k + 1)) (J v)) (g + 5) (mv 1) (J (k + 1))) g 5 (J (mv 1 + 1))) X tx n s := (c2.setI (by omega)).setI (by omega)
    refine ⟨G1.sh n4, d1.sh, (by simp (disch := omega) only [J_add, J_mul, J_sub, J_cl, vp_J]; omega), fun c => ?_, fun _ => ⟨fun c => ⟨(by simp (disch := omega) only [J_add, J_mul, J_sub, J_cl, vp_J]; omega), ?_⟩, fun c => ⟨fun c3 => ⟨(by simp (disch := omega) only [J_add, J_mul, J_sub, J_cl, vp_J]; omega), ?_⟩, fun c3 => ?_⟩⟩⟩
    · exfalso; rw [J_le (by omega) (by omega)] at c; omega
    · refine hQ _ (FF.mono (fun p j k => by unfold Pfi_gate at k; unfold Pgl; omega)) ?_
      cases s with
      | inl f2 =>
        rcases tNu_l e with hh | ⟨q, hh, t⟩
        · cases hh
        · cases hh; rw [hR]; unfold gNum1; rw [bnd_l t]; exact Or.inl cc
      | inr q => exact absurd ((CTg.r c2).symm.trans c) (by decide)
    · cases s with
      | inl f2 => exact absurd (CTb.r c2) c
      | inr q =>
        obtain ⟨q', hq', t⟩ := tNu_r e
        cases hq'
        have cd : ¬ (q < n ∧ isD tx q = true) := fun k => by
          have := (CTg.fig c2).mpr k
          unfold f_77 at c3; rw [if_pos this] at c3; exact absurd c3 (by decide)
        refine hQ _ (FF.mono (fun p j k => by unfold Pfi_gate at k; unfold Pgl; omega)) ?_
        rw [hR]; unfold gNum1; rw [bnd_r t, gNums_n cd]
        have u1 : up mk (309 + 7 * mk 1 + k) v 1 = mv 1 := by rw [up_ne (by omega)]; exact m1
        show LN _ X g tx n (.inr (up (up (up mk (309 + 7 * mk 1 + k) v) (308 + 7 * up mk (309 + 7 * mk 1 + k) v 1) (k + 1)) 1 (up mk (309 + 7 * mk 1 + k) v 1 + 1), q))
        rw [u1, m1]
        have en : ∀ j, j ≠ 1 → ¬ (308 + 7 * mv 1 ≤ j ∧ j < 315 + 7 * mv 1) → up (up (up mk (309 + 7 * mv 1 + k) v) (308 + 7 * mv 1) (k + 1)) 1 (mv 1 + 1) j = mv j := fun j h1 h2 => by rw [up_ne h1, up_ne (by omega), up_ne (by omega)]; exact hrest j (by omega)
        have ec : up (up (up mk (309 + 7 * mv 1 + k) v) (308 + 7 * mv 1) (k + 1)) 1 (mv 1 + 1) (308 + 7 * mv 1) = k + 1 := by rw [up_ne (by omega), up_eq]
        have es : ∀ s, 1 ≤ s → s ≤ k + 1 → sI (setI (setI (setI τ1 (g + 6) (mv 1 * 7 + (k + 1)) (J v)) (g + 5) (mv 1) (J (k + 1))) g 5 (J (mv 1 + 1))) (g + 6) (mv 1 * 7 + s) = J (up (up (up mk (309 + 7 * mv 1 + k) v) (308 + 7 * mv 1) (k + 1)) 1 (mv 1 + 1) (308 + 7 * mv 1 + s)) ∧ up (up (up mk (309 + 7 * mv 1 + k) v) (308 + 7 * mv 1) (k + 1)) 1 (mv 1 + 1) (308 + 7 * mv 1 + s) ≤ 9999 := fun s h1 h2 => by
          rw [sI_any (by omega), sI_any (by omega), up_ne (by omega), up_ne (by omega)]
          by_cases e6 : s = k + 1
          · subst e6
            rw [sI_same, show 308 + 7 * mv 1 + (k + 1) = 309 + 7 * mv 1 + k by omega, up_eq]; exact ⟨rfl, by omega⟩
          · rw [sI_any (by omega), up_ne (by omega), f1.i (by unfold PtX; omega)]; exact hcell s h1 (by omega)
        refine ⟨cc, hG.gate hv hc en up_eq (by rw [ec]; omega) FF (fun p j k a b => by unfold Pfi_gate at k; omega) ⟨sI_same, ?_, fun s h1 h2 => (es s h1 (by rw [ec] at h2; exact h2)).1⟩, hv.gate hc en up_eq (by rw [ec]; omega) (fun s h1 h2 => (es s h1 (by rw [ec] at h2; exact h2)).2)⟩
        rw [sI_any (by omega), sI_same, ec]
    · cases s with
      | inl f2 => exact absurd (CTb.r c2) c
      | inr q =>
        obtain ⟨q', hq', t⟩ := tNu_r e
        cases hq'
        have cd : q < n ∧ isD tx q = true := by
          refine (CTg.fig c2).mp (Classical.byContradiction fun k => c3 ?_)
          unfold f_77; rw [if_neg k]
        refine ih (k + 1) q (up mk (309 + 7 * mv 1 + k) v) _ (by omega) F2 c2 ?_ ?_ (fun s h1 h2 => ?_) (fun j hj => ?_) ?_
        · rw [sI_any (by omega)]; exact r5'
        · rw [up_ne (by omega)]; exact m1
        · by_cases e6 : s = k + 1
          · subst e6
            rw [sI_same, show 308 + 7 * mv 1 + (k + 1) = 309 + 7 * mv 1 + k by omega, up_eq]; exact ⟨rfl, by omega⟩
          · rw [sI_any (by omega), up_ne (by omega), f1.i (by unfold PtX; omega)]; exact hcell s h1 (by omega)
        · rw [up_ne (by omega)]; exact hrest j (by omega)
        · rw [hR]; unfold gNum1; rw [bnd_r t, gNums_y cd, m1]; rfl
theorem c_gate (h : CTg σ X tx n p) (n4 : S_4 σ g) (hd : X + 1 < g) (hG : RGg σ g mv) (hv : VG mv) (hc : mv 1 < 4) (hQ : ∀ τ, Fr (Pgl X g) σ τ → LN τ X g tx n (gGate tx n mv p) → Q (.inl none) τ) : WP gT (d + 2) B 41 0 [.ref g, .ref X, .retAddr 0] [] σ Q :=
  g_41_0 (c_gateL n4 hd hG hv hc (R := gGate tx n mv p) hQ 5 0 p mv σ rfl Fr.rf h hG.s.2.2.2.2.1 rfl (fun s h1 h2 => by omega) (fun j _ => rfl) gGate_1)
theorem r_gateB {k f : Nat} (hk : k < 100) (hc : mv 1 < 4) (h : RTb σ y0 tx n bs f 0) {x1 : Int32} (hQ : ∀ τ, Fr (Pgr y0) σ τ → RTb τ y0 tx n bs f 0 → Q (.inl none) τ) : WP gT (d + 3) B 182 32 [.ref y0, .int x1, .int (J (308 + 7 * mv 1)), .int (J k)] [] σ Q := by
  refine g_182_32 h.1.1 ⟨fun c => absurd c h.bad, fun _ => ⟨(by simp (disch := omega) only [J_add, J_mul, J_sub, J_cl, vp_J]; omega), ?_⟩⟩
  rw [J_cl (by omega)]
  have FF : Fr (fun p j => p = y0 + 1 ∧ j < 424) σ (setI (setI σ (y0 + 1) (308 + 7 * mv 1) (J k)) (y0 + 1) 1 (sI (setI σ (y0 + 1) (308 + 7 * mv 1) (J k)) (y0 + 1) 1 + J 1)) := (Fr.rf.setI (by omega)).setI (by omega)
  exact hQ _ (FF.mono (fun p j k => Or.inr k)) (h.fr FF (fun p j k => by omega))
theorem r_gateL (hc : mv 1 < 4) {x1 : Int32} {R : Rs Mem} (hQ : ∀ τ, Fr (Pgr y0) σ τ → LR τ y0 tx n bs R → Q (.inl none) τ) : ∀ f k s mk τ, f + k = 6 → 1 ≤ k → Fr (Pgr y0) σ τ → RTs τ y0 tx n bs s → ((∃ q, s = .inr q) → RMm τ y0 mk ∧ mk 1 = mv 1) → (R = match s with | .inl f => .inl f | .inr p => bnd (gNums tx n f mk k p) gFin) → WP gT (d + 3) B 182 32 [.ref y0, .int x1, .int (J (308 + 7 * mv 1)), .int (J k)] [] τ Q := by
  intro f
  induction f with
  | zero =>
    intro k s mk τ hfk hk1 F h hm hR
    have hk : k = 6 := by omega
    subst hk
    cases s with
    | inl f => exact r_gateB (by omega) hc h (fun ρ f2 k => hQ ρ (F.tr f2) (by rw [hR]; exact k))
    | inr p =>
      obtain ⟨hm, m1⟩ := hm ⟨p, rfl⟩
      have h : RTg τ y0 tx n bs p := h
      have hl := h.le
      refine g_182_32 h.1.1 ⟨fun _ => ⟨fun c => absurd c (by decide), fun _ => r_isFigure h (fun ρ f1 k1 => ⟨k1.1.1, fun c => ?_, fun c => ?_⟩)⟩, fun c => absurd h.2.1 c⟩
      · rw [J_cl (by omega)]
        have cd : ¬ (p < n ∧ isD tx p = true) := fun k => by rw [if_pos k] at c; exact absurd c (by decide)
        refine ⟨(by simp (disch := omega) only [J_add, J_mul, J_sub, J_cl, vp_J]; omega), hQ _ (((F.tr (f1.mono (fun p j k => Or.inl ⟨k.1, Or.inl k.2⟩))).setI (Or.inr ⟨rfl, by omega⟩)).setI (Or.inr ⟨rfl, by omega⟩)) ?_⟩
        rw [hR]; dsimp only; rw [gNums_n cd]
        have hm2 := hm.t (f1.mono P9_Y)
        have e1 : sI (setI ρ (y0 + 1) (308 + 7 * mv 1) (J 6)) (y0 + 1) 1 = J (mv 1) := by rw [sI_any (by omega), hm2.at (by omega), m1]
        rw [e1, J_add]
        show RTg _ _ _ _ _ _ ∧ RMm _ y0 (up (up mk (308 + 7 * mk 1) 6) 1 (mk 1 + 1))
        rw [m1]
        exact ⟨RTs.setI (s := .inr p) (RTs.setI (s := .inr p) k1.g (by omega)) (by omega), hm2.up.up⟩
      · have cd : p < n ∧ isD tx p = true := Classical.byContradiction fun k => c (if_neg k)
        refine r_skip k1.g (fun ρ2 f2 k2 => ⟨k2.1.1, fun _ => ?_, fun c => absurd rfl c⟩)
        rw [k2.2.2.1]
        refine r_wrong_g k2.g hl.1 (fun ρ3 f3 k3 => ?_)
        dsimp only [oV]
        rw [J_add]
        refine r_gateB (by omega) hc k3 (fun χ f4 k4 => hQ χ ((((F.tr ((f1.mono P9_Y).mono PY_gr)).tr ((f2.mono P9_Y).mono PY_gr)).tr (f3.mono PY_gr)).tr f4) ?_)
        rw [hR]; dsimp only; rw [gNums_0 cd]; exact k4
  | succ f ih =>
    intro k s mk τ hfk hk1 F h hm hR
    cases s with
    | inl f => exact r_gateB (by omega) hc h (fun ρ f2 k => hQ ρ (F.tr f2) (by rw [hR]; exact k))
    | inr p =>
      obtain ⟨hm, m1⟩ := hm ⟨p, rfl⟩
      have h : RTg τ y0 tx n bs p := h
      have hl := h.le
      refine g_182_32 h.1.1 ⟨fun _ => ⟨fun c => ?_, fun _ => r_isFigure h (fun ρ f1 k1 => ⟨k1.1.1, fun c => ?_, fun c => ?_⟩)⟩, fun c => absurd h.2.1 c⟩
      · exfalso; rw [J_eq (by omega) (by omega)] at c; omega
      · rw [J_cl (by omega)]
        have cd : ¬ (p < n ∧ isD tx p = true) := fun k => by rw [if_pos k] at c; exact absurd c (by decide)
        refine ⟨(by simp (disch := omega) only [J_add, J_mul, J_sub, J_cl, vp_J]; omega), hQ _ (((F.tr (f1.mono (fun p j k => Or.inl ⟨k.1, Or.inl k.2⟩))).setI (Or.inr ⟨rfl, by omega⟩)).setI (Or.inr ⟨rfl, by omega⟩)) ?_⟩
        rw [hR]; dsimp only; rw [gNums_n cd]
        have hm2 := hm.t (f1.mono P9_Y)
        have e1 : sI (setI ρ (y0 + 1) (308 + 7 * mv 1) (J k)) (y0 + 1) 1 = J (mv 1) := by rw [sI_any (by omega), hm2.at (by omega), m1]
        rw [e1, J_add]
        show RTg _ _ _ _ _ _ ∧ RMm _ y0 (up (up mk (308 + 7 * mk 1) k) 1 (mk 1 + 1))
        rw [m1]
        exact ⟨RTs.setI (s := .inr p) (RTs.setI (s := .inr p) k1.g (by omega)) (by omega), hm2.up.up⟩
      · have cd : p < n ∧ isD tx p = true := Classical.byContradiction fun k => c (if_neg k)
        refine r_skip k1.g (fun ρ2 f2 k2 => ⟨k2.1.1, fun c => ?_, fun _ => ?_⟩)
        · exfalso; rw [J_eq (by omega) (by omega)] at c; omega
        · refine r_figv (s := .inr p) k2.g (by omega) (hi1 := 10000) (by omega) (by decide) (fun ρ3 u v s e f3 d3 w3 => ?_)
          dsimp only [oI]
          simp (disch := omega) only [J_add, J_cl]
          refine ⟨d3.by_.1, (by simp (disch := omega) only [J_add, J_mul, J_sub, J_cl, vp_J]; omega), ?_⟩
          have FF : Fr (Pgr y0) σ ρ3 := ((F.tr ((f1.mono P9_Y).mono PY_gr)).tr ((f2.mono P9_Y).mono PY_gr)).tr (f3.mono PY_gr)
          refine ih (k + 1) s (up mk (309 + 7 * mk 1 + k) v) _ (by omega) (by omega) (FF.setI (Or.inr ⟨rfl, by omega⟩)) (d3.setI (by omega)) (fun hq => ?_) ?_
          · obtain ⟨q, hq⟩ := hq
            have e3 := w3 q hq
            subst e3
            rw [m1, show 308 + 7 * mv 1 + 1 + k = 309 + 7 * mv 1 + k by omega]
            exact ⟨(((hm.t (f1.mono P9_Y)).t (f2.mono P9_Y)).t f3).up, by rw [up_ne (by omega)]; exact m1⟩
          · rw [hR]; dsimp only; rw [gNums_y cd]; unfold gNum1
            cases s with
            | inl f2 =>
              rcases tNu_l e with hh | ⟨q, hh, t⟩
              · cases hh
              · cases hh; rw [bnd_l t]; rfl
            | inr q =>
              obtain ⟨q', hq', t⟩ := tNu_r e
              cases hq'
              rw [bnd_r t]
theorem r_gate (h : RTg σ y0 tx n bs p) (hm : RMm σ y0 mv) (hv : VG mv) {b : Nat} (hb : b ≤ n) (hQ : ∀ τ, Fr (Pgr y0) σ τ → LR τ y0 tx n bs (if mv 1 = 4 then .inl b else gGate tx n mv p) → Q (.inl none) τ) : WP gT (d + 3) B 182 0 [.ref y0, .int (J b), .retAddr 0, .retAddr 0] [] σ Q := by
  have hs := hv.s
  have e1 : sI σ (y0 + 1) 1 = J (mv 1) := hm.at (by omega)
  refine g_182_0 h.1.1 ?_
  rw [e1]
  refine ⟨fun c => ?_, fun c => ?_⟩
  · rw [J_eq (by omega) (by omega)] at c
    exact r_wrong_g h hb (fun τ f k => hQ τ (f.mono PY_gr) (by rw [if_pos c]; exact k))
  · rw [J_eq (by omega) (by omega)] at c
    rw [J_mul, J_add]
    have hc : mv 1 < 4 := by omega
    refine g_182_32 h.1.1 ⟨fun _ => ⟨fun _ => r_skip h (fun ρ2 f2 k2 => ⟨k2.1.1, fun c => absurd c (by decide), fun _ => ?_⟩), fun c => absurd rfl c⟩, fun c => absurd h.2.1 c⟩
    refine r_figv (s := .inr p) k2.g (by omega) (hi1 := 10000) (by omega) (by decide) (fun ρ3 u v s e f3 d3 w3 => ?_)
    dsimp only [oI]
    simp (disch := omega) only [J_add, J_cl]
    refine ⟨d3.by_.1, (by simp (disch := omega) only [J_add, J_mul, J_sub, J_cl, vp_J]; omega), ?_⟩
    have FF : Fr (Pgr y0) σ ρ3 := ((f2.mono P9_Y).mono PY_gr).tr (f3.mono PY_gr)
    refine r_gateL (σ := σ) hc hQ 5 1 s (up mv (309 + 7 * mv 1) v) _ (by omega) (by omega) (FF.setI (Or.inr ⟨rfl, by omega⟩)) (d3.setI (by omega)) (fun hq => ?_) ?_
    · obtain ⟨q, hq⟩ := hq
      have e3 := w3 q hq
      subst e3
      rw [show 308 + 7 * mv 1 + 1 + 0 = 309 + 7 * mv 1 by omega]
      exact ⟨((hm.t (f2.mono P9_Y)).t f3).up, up_ne (by omega)⟩
    · rw [if_neg c, gGate_1]
      unfold gNum1
      cases s with
      | inl f2 =>
        rcases tNu_l e with hh | ⟨q, hh, t⟩
        · cases hh
        · cases hh; rw [bnd_l t]; rfl
      | inr q =>
        obtain ⟨q', hq', t⟩ := tNu_r e
        cases hq'
        rw [bnd_r t]
        rfl
