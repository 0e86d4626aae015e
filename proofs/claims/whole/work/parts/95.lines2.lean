/-! ===== lines of a gorge: lake, reach, place ===== -/
variable {d : Nat} {B : Nat × Nat} {Q : Out → Sto → Prop} {P : Nat → Nat → Prop} {σ τ : Sto} {X y0 g : Nat} {mv mv' tx : Mem} {n p f0 : Nat} {w : List Nat} {bs : Option Nat}
theorem tNu_r {lo hi1 v q : Nat} {s : TS} (h : tNu tx n lo hi1 s = (v, .inr q)) : ∃ p, s = .inr p ∧ tN tx n lo hi1 p = .inr (v, q) := by
  obtain ⟨p, h1, h2⟩ := tNu_inr (tx := tx) (n := n) (lo := lo) (hi1 := hi1) (s := s) (q := q) (by rw [h])
  rw [h] at h2
  exact ⟨p, h1, h2⟩
theorem tNu_l {lo hi1 v f : Nat} {s : TS} (h : tNu tx n lo hi1 s = (v, .inl f)) : s = .inl f ∨ ∃ p, s = .inr p ∧ tN tx n lo hi1 p = .inl f := tNu_inl (by rw [h])
theorem c_tnv {s : TS} (h : CTs σ X tx n s) {lo hi1 : Nat} {x2 : Int32} (hlo : lo ≤ 1000000) (hhi : hi1 ≤ 1000000) (hx : x2 = J hi1 - J 1) (hQ : ∀ τ v s', tNu tx n lo hi1 s = (v, s') → Fr (PtX X) σ τ → CTs τ X tx n s' → Q (.inl (some (.int (J v)))) τ) : WP gT (d + 1) B 82 0 [.ref X, .int (J lo), .int x2, .retAddr 0] [] σ Q :=
  c_tnu h hlo hhi hx (fun τ f k => hQ τ _ _ rfl f k)
theorem r_figv {s : TS} (h : RTs σ y0 tx n bs s) {lo hi1 : Nat} {x2 : Int32} (hlo : lo ≤ 1000000) (hhi : hi1 ≤ 1000000) (hx : x2 = J hi1 - J 1) (hQ : ∀ τ u v s', tNu tx n lo hi1 s = (v, s') → Fr (PYt y0) σ τ → RTs τ y0 tx n bs s' → (∀ q, s' = .inr q → u = J v) → Q (.inl (some (.int u))) τ) : WP gT (d + 2) B 180 0 [.ref y0, .int (J lo), .int x2, .retAddr 0, .retAddr 0] [] σ Q :=
  r_figu h hlo hhi hx (fun τ u f k e => hQ τ u _ _ rfl f k e)
theorem CTs.setI {s : TS} {q j : Nat} {v : Int32} (h : CTs σ X tx n s) (hq : q ≠ X ∧ q ≠ X + 1) : CTs (setI σ q j v) X tx n s := h.fr (P := fun p _ => p = q) (Fr.rf.setI rfl) (fun p j k => by subst k; exact hq)
theorem RTs.setI {s : TS} {j : Nat} {v : Int32} (h : RTs σ y0 tx n bs s) (hq : j < 424) : RTs (setI σ (y0 + 1) j v) y0 tx n bs s := h.fr (P := fun p k => p = y0 + 1 ∧ k = j) (Fr.rf.setI ⟨rfl, rfl⟩) (fun p k e => by omega)
def Pgl (X g : Nat) : Nat → Nat → Prop := fun p j => (p = X ∧ 2 ≤ j) ∨ (g ≤ p ∧ p ≤ g + 15)
theorem PtX_gl : ∀ p j, PtX X p j → Pgl X g p j := fun p j h => Or.inl h
def Pgr (y0 : Nat) : Nat → Nat → Prop := fun p j => (p = y0 ∧ (j = 9 ∨ j = 10)) ∨ (p = y0 + 1 ∧ j < 424)
theorem PY_gr : ∀ p j, PYt y0 p j → Pgr y0 p j := fun p j h => Or.inl h
/-- what a line leaves, in the class -/
def LN (τ : Sto) (X g : Nat) (tx : Mem) (n : Nat) (r : Rs Mem) : Prop := match r with
  | .inl f => CTb τ X tx n f ∨ (CTg τ X tx n f ∧ f < n ∧ isD tx f = true)
  | .inr (mv', q) => CTg τ X tx n q ∧ RGg τ g mv' ∧ VG mv'
/-- what a line leaves, in the reference -/
def LR (τ : Sto) (y0 : Nat) (tx : Mem) (n : Nat) (bs : Option Nat) (r : Rs Mem) : Prop := match r with
  | .inl f => RTb τ y0 tx n bs f 0
  | .inr (mv', q) => RTg τ y0 tx n bs q ∧ RMm τ y0 mv'
theorem RMm.t (h : RMm σ y0 mv) (f : Fr (PYt y0) σ τ) : RMm τ y0 mv := h.fr f (fun j k => by unfold PYt at k; omega)
def Pfi_lake (X g : Nat) (mv : Mem) : Nat → Nat → Prop := fun p j => (p = X ∧ 2 ≤ j) ∨ (p = g ∧ j ≤ 3)
theorem c_lake (h : CTg σ X tx n p) (n4 : S_4 σ g) (hd : X + 1 < g) (hG : RGg σ g mv) (hv : VG mv) (hQ : ∀ τ, Fr (Pgl X g) σ τ → LN τ X g tx n (gLake tx n mv p) → Q (.inl none) τ) : WP gT (d + 2) B 39 0 [.ref g, .ref X] [] σ Q := by
  have hs := hv.s
  refine g_39_0 h.1 ?_
  have F0 : Fr (Pfi_lake X g mv) σ σ := Fr.rf
  have c0 : CTs σ X tx n (.inr p) := h
  refine c_tnv c0 (by omega) (hi1 := 10000) (by omega) (by decide) (fun τ1 v1 s1 e1 f1 d1 => ?_)
  dsimp only [oI]
  have G1 : Fr (Pfi_lake X g mv) σ τ1 := F0.tr (f1.mono (fun p j k => by unfold PtX at k; unfold Pfi_lake; omega))
  refine ⟨G1.sh n4, d1.sh, ?_⟩
  have F1 : Fr (Pfi_lake X g mv) σ (setI τ1 g 0 (J v1)) := G1.setI (by unfold Pfi_lake; omega)
  have c1 : CTs (setI τ1 g 0 (J v1)) X tx n s1 := d1.setI (by omega)
  refine c_tnv c1 (by omega) (hi1 := 1000000) (by omega) (by decide) (fun τ2 v2 s2 e2 f2 d2 => ?_)
  dsimp only [oI]
  have G2 : Fr (Pfi_lake X g mv) σ τ2 := F1.tr (f2.mono (fun p j k => by unfold PtX at k; unfold Pfi_lake; omega))
  refine ⟨G2.sh n4, d2.sh, ?_⟩
  have F2 : Fr (Pfi_lake X g mv) σ (setI τ2 g 1 (J v2)) := G2.setI (by unfold Pfi_lake; omega)
  have c2 : CTs (setI τ2 g 1 (J v2)) X tx n s2 := d2.setI (by omega)
  refine c_tnv c2 (by omega) (hi1 := 10000) (by omega) (by decide) (fun τ3 v3 s3 e3 f3 d3 => ?_)
  dsimp only [oI]
  have G3 : Fr (Pfi_lake X g mv) σ τ3 := F2.tr (f3.mono (fun p j k => by unfold PtX at k; unfold Pfi_lake; omega))
  refine ⟨G3.sh n4, d3.sh, ?_⟩
  have F3 : Fr (Pfi_lake X g mv) σ (setI τ3 g 2 (J v3)) := G3.setI (by unfold Pfi_lake; omega)
  have c3 : CTs (setI τ3 g 2 (J v3)) X tx n s3 := d3.setI (by omega)
  refine c_tnv c3 (by omega) (hi1 := 96) (by omega) (by decide) (fun τ4 v4 s4 e4 f4 d4 => ?_)
  dsimp only [oI]
  have G4 : Fr (Pfi_lake X g mv) σ τ4 := F3.tr (f4.mono (fun p j k => by unfold PtX at k; unfold Pfi_lake; omega))
  refine ⟨G4.sh n4, ?_⟩
  have FF : Fr (Pfi_lake X g mv) σ (setI τ4 g 3 (J v4)) := G4.setI (by unfold Pfi_lake; omega)
  have cc : CTs (setI τ4 g 3 (J v4)) X tx n s4 := d4.setI (by omega)
  have u1 : sI (setI τ4 g 3 (J v4)) g 0 = J v1 := by rw [sI_any (by omega), f4.i (by unfold PtX; omega), sI_any (by omega), f3.i (by unfold PtX; omega), sI_any (by omega), f2.i (by unfold PtX; omega), sI_same]
  have u2 : sI (setI τ4 g 3 (J v4)) g 1 = J v2 := by rw [sI_any (by omega), f4.i (by unfold PtX; omega), sI_any (by omega), f3.i (by unfold PtX; omega), sI_same]
  have u3 : sI (setI τ4 g 3 (J v4)) g 2 = J v3 := by rw [sI_any (by omega), f4.i (by unfold PtX; omega), sI_same]
  have u4 : sI (setI τ4 g 3 (J v4)) g 3 = J v4 := by rw [sI_same]
  refine hQ _ (FF.mono (fun p j k => by unfold Pfi_lake at k; unfold Pgl; omega)) ?_
  cases s4 with
  | inl f =>
    have e : gLake tx n mv p = .inl f := by
      unfold gLake
      rcases tNu_l e4 with hh | ⟨q3, hh, t4⟩
      · subst hh
        rcases tNu_l e3 with hh | ⟨q2, hh, t3⟩
        · subst hh
          rcases tNu_l e2 with hh | ⟨q1, hh, t2⟩
          · subst hh
            rcases tNu_l e1 with hh | ⟨q0, hh, t1⟩
            · cases hh
            · cases hh; exact bnd_l t1
          · subst hh
            obtain ⟨q0, hq0, t1⟩ := tNu_r e1; cases hq0; exact (bnd_r t1).trans (bnd_l t2)
        · subst hh
          obtain ⟨q1, hq1, t2⟩ := tNu_r e2; subst hq1; obtain ⟨q0, hq0, t1⟩ := tNu_r e1; cases hq0; exact (bnd_r t1).trans ((bnd_r t2).trans (bnd_l t3))
      · subst hh
        obtain ⟨q2, hq2, t3⟩ := tNu_r e3; subst hq2; obtain ⟨q1, hq1, t2⟩ := tNu_r e2; subst hq1; obtain ⟨q0, hq0, t1⟩ := tNu_r e1; cases hq0; exact (bnd_r t1).trans ((bnd_r t2).trans ((bnd_r t3).trans (bnd_l t4)))
    rw [e]; exact Or.inl cc
  | inr q =>
    obtain ⟨q3, hq3, t4⟩ := tNu_r e4; subst hq3; obtain ⟨q2, hq2, t3⟩ := tNu_r e3; subst hq2; obtain ⟨q1, hq1, t2⟩ := tNu_r e2; subst hq1; obtain ⟨q0, hq0, t1⟩ := tNu_r e1; cases hq0; 
    have b0 := h.le.1
    have b1 := tN_b (by omega) t1
    have b2 := tN_b (by omega) t2
    have b3 := tN_b (by omega) t3
    have b4 := tN_b (by omega) t4
    have e : gLake tx n mv p = .inr ((up (up (up (up mv (9) v1) (10) v2) (11) v3) (12) v4), q) := by unfold gLake; exact (bnd_r t1).trans ((bnd_r t2).trans ((bnd_r t3).trans (bnd_r t4)))
    rw [e]
    have en : ∀ k, ¬ (9 ≤ k ∧ k ≤ 12) → (up (up (up (up mv (9) v1) (10) v2) (11) v3) (12) v4) k = mv k := fun k hk => by rw [up_ne (by omega), up_ne (by omega), up_ne (by omega), up_ne (by omega)]
    have m1 : (up (up (up (up mv (9) v1) (10) v2) (11) v3) (12) v4) (9) = v1 := by rw [up_ne (by omega), up_ne (by omega), up_ne (by omega), up_eq]
    have m2 : (up (up (up (up mv (9) v1) (10) v2) (11) v3) (12) v4) (10) = v2 := by rw [up_ne (by omega), up_ne (by omega), up_eq]
    have m3 : (up (up (up (up mv (9) v1) (10) v2) (11) v3) (12) v4) (11) = v3 := by rw [up_ne (by omega), up_eq]
    have m4 : (up (up (up (up mv (9) v1) (10) v2) (11) v3) (12) v4) (12) = v4 := by rw [up_eq]
    exact ⟨cc, hG.lake hv en FF (fun p j k a b => by unfold Pfi_lake at k; omega) ⟨by rw [u1, m1], by rw [u2, m2], by rw [u3, m3], by rw [u4, m4]⟩, hv.lake en (by rw [m1, m2, m3, m4]; omega)⟩
def Pfi_reach (X g : Nat) (mv : Mem) : Nat → Nat → Prop := fun p j => (p = X ∧ 2 ≤ j) ∨ (p = g ∧ j = 8) ∨ (g + 7 ≤ p ∧ p ≤ g + 11 ∧ j = mv 2)
theorem c_reach (h : CTg σ X tx n p) (n4 : S_4 σ g) (hd : X + 1 < g) (hG : RGg σ g mv) (hv : VG mv) (hc : mv 2 < 8) (hQ : ∀ τ, Fr (Pgl X g) σ τ → LN τ X g tx n (gReach tx n mv p) → Q (.inl none) τ) : WP gT (d + 2) B 42 0 [.ref g, .ref X] [] σ Q := by
  have hs := hv.s
  refine g_42_0 n4 h.1 ?_
  have r0 : sI σ g 8 = J (mv 2) := hG.s.2.2.2.2.2.1
  rw [r0]
  try rw [J_cl (by omega)]
  have F0 : Fr (Pfi_reach X g mv) σ σ := Fr.rf
  have c0 : CTs σ X tx n (.inr p) := h
  refine c_tnv c0 (by omega) (hi1 := 1000) (by omega) (by decide) (fun τ1 v1 s1 e1 f1 d1 => ?_)
  dsimp only [oI]
  have G1 : Fr (Pfi_reach X g mv) σ τ1 := F0.tr (f1.mono (fun p j k => by unfold PtX at k; unfold Pfi_reach; omega))
  have r1 : sI τ1 g 8 = J (mv 2) := by rw [f1.i (by unfold PtX; omega)]; exact r0
  rw [r1]
  try rw [J_cl (by omega)]
  refine ⟨G1.sh n4, d1.sh, (by simp (disch := omega) only [J_add, J_mul, J_sub, J_cl, vp_J]; omega), ?_⟩
  have F1 : Fr (Pfi_reach X g mv) σ (setI τ1 (g + 7) (mv 2) (J v1)) := G1.setI (by unfold Pfi_reach; omega)
  have c1 : CTs (setI τ1 (g + 7) (mv 2) (J v1)) X tx n s1 := d1.setI (by omega)
  refine c_tnv c1 (by omega) (hi1 := 101) (by omega) (by decide) (fun τ2 v2 s2 e2 f2 d2 => ?_)
  dsimp only [oI]
  have G2 : Fr (Pfi_reach X g mv) σ τ2 := F1.tr (f2.mono (fun p j k => by unfold PtX at k; unfold Pfi_reach; omega))
  have r2 : sI τ2 g 8 = J (mv 2) := by rw [f2.i (by unfold PtX; omega), sI_any (by omega), f1.i (by unfold PtX; omega)]; exact r0
  rw [r2]
  try rw [J_cl (by omega)]
  refine ⟨G2.sh n4, d2.sh, (by simp (disch := omega) only [J_add, J_mul, J_sub, J_cl, vp_J]; omega), ?_⟩
  have F2 : Fr (Pfi_reach X g mv) σ (setI τ2 (g + 8) (mv 2) (J v2)) := G2.setI (by unfold Pfi_reach; omega)
  have c2 : CTs (setI τ2 (g + 8) (mv 2) (J v2)) X tx n s2 := d2.setI (by omega)
  refine c_tnv c2 (by omega) (hi1 := 101) (by omega) (by decide) (fun τ3 v3 s3 e3 f3 d3 => ?_)
  dsimp only [oI]
  have G3 : Fr (Pfi_reach X g mv) σ τ3 := F2.tr (f3.mono (fun p j k => by unfold PtX at k; unfold Pfi_reach; omega))
  have r3 : sI τ3 g 8 = J (mv 2) := by rw [f3.i (by unfold PtX; omega), sI_any (by omega), f2.i (by unfold PtX; omega), sI_any (by omega), f1.i (by unfold PtX; omega)]; exact r0
  rw [r3]
  try rw [J_cl (by omega)]
  refine ⟨G3.sh n4, d3.sh, (by simp (disch := omega) only [J_add, J_mul, J_sub, J_cl, vp_J]; omega), ?_⟩
  have F3 : Fr (Pfi_reach X g mv) σ (setI τ3 (g + 9) (mv 2) (J v3)) := G3.setI (by unfold Pfi_reach; omega)
  have c3 : CTs (setI τ3 (g + 9) (mv 2) (J v3)) X tx n s3 := d3.setI (by omega)
  refine c_tnv c3 (by omega) (hi1 := 1000) (by omega) (by decide) (fun τ4 v4 s4 e4 f4 d4 => ?_)
  dsimp only [oI]
  have G4 : Fr (Pfi_reach X g mv) σ τ4 := F3.tr (f4.mono (fun p j k => by unfold PtX at k; unfold Pfi_reach; omega))
  have r4 : sI τ4 g 8 = J (mv 2) := by rw [f4.i (by unfold PtX; omega), sI_any (by omega), f3.i (by unfold PtX; omega), sI_any (by omega), f2.i (by unfold PtX; omega), sI_any (by omega), f1.i (by unfold PtX; omega)]; exact r0
  rw [r4]
  try rw [J_cl (by omega)]
  refine ⟨G4.sh n4, d4.sh, (by simp (disch := omega) only [J_add, J_mul, J_sub, J_cl, vp_J]; omega), ?_⟩
  have F4 : Fr (Pfi_reach X g mv) σ (setI τ4 (g + 10) (mv 2) (J v4)) := G4.setI (by unfold Pfi_reach; omega)
  have c4 : CTs (setI τ4 (g + 10) (mv 2) (J v4)) X tx n s4 := d4.setI (by omega)
  refine c_tnv c4 (by omega) (hi1 := 100) (by omega) (by decide) (fun τ5 v5 s5 e5 f5 d5 => ?_)
  dsimp only [oI]
  have G5 : Fr (Pfi_reach X g mv) σ τ5 := F4.tr (f5.mono (fun p j k => by unfold PtX at k; unfold Pfi_reach; omega))
  have r5 : sI τ5 g 8 = J (mv 2) := by rw [f5.i (by unfold PtX; omega), sI_any (by omega), f4.i (by unfold PtX; omega), sI_any (by omega), f3.i (by unfold PtX; omega), sI_any (by omega), f2.i (by unfold PtX; omega), sI_any (by omega), f1.i (by unfold PtX; omega)]; exact r0
  rw [r5]
  try rw [J_cl (by omega)]
  refine ⟨G5.sh n4, (by simp (disch := omega) only [J_add, J_mul, J_sub, J_cl, vp_J]; omega), ?_⟩
  try rw [J_add]
  have FF : Fr (Pfi_reach X g mv) σ (setI (setI τ5 (g + 11) (mv 2) (J v5)) g 8 (J (mv 2 + 1))) := (G5.setI (by unfold Pfi_reach; omega)).setI (by unfold Pfi_reach; omega)
  have cc : CTs (setI (setI τ5 (g + 11) (mv 2) (J v5)) g 8 (J (mv 2 + 1))) X tx n s5 := (d5.setI (by omega)).setI (by omega)
  have u1 : sI (setI (setI τ5 (g + 11) (mv 2) (J v5)) g 8 (J (mv 2 + 1))) (g + 7) (mv 2) = J v1 := by rw [sI_any (by omega), sI_any (by omega), f5.i (by unfold PtX; omega), sI_any (by omega), f4.i (by unfold PtX; omega), sI_any (by omega), f3.i (by unfold PtX; omega), sI_any (by omega), f2.i (by unfold PtX; omega), sI_same]
  have u2 : sI (setI (setI τ5 (g + 11) (mv 2) (J v5)) g 8 (J (mv 2 + 1))) (g + 8) (mv 2) = J v2 := by rw [sI_any (by omega), sI_any (by omega), f5.i (by unfold PtX; omega), sI_any (by omega), f4.i (by unfold PtX; omega), sI_any (by omega), f3.i (by unfold PtX; omega), sI_same]
  have u3 : sI (setI (setI τ5 (g + 11) (mv 2) (J v5)) g 8 (J (mv 2 + 1))) (g + 9) (mv 2) = J v3 := by rw [sI_any (by omega), sI_any (by omega), f5.i (by unfold PtX; omega), sI_any (by omega), f4.i (by unfold PtX; omega), sI_same]
  have u4 : sI (setI (setI τ5 (g + 11) (mv 2) (J v5)) g 8 (J (mv 2 + 1))) (g + 10) (mv 2) = J v4 := by rw [sI_any (by omega), sI_any (by omega), f5.i (by unfold PtX; omega), sI_same]
  have u5 : sI (setI (setI τ5 (g + 11) (mv 2) (J v5)) g 8 (J (mv 2 + 1))) (g + 11) (mv 2) = J v5 := by rw [sI_any (by omega), sI_same]
  have uc : sI (setI (setI τ5 (g + 11) (mv 2) (J v5)) g 8 (J (mv 2 + 1))) g 8 = J (mv 2 + 1) := sI_same
  refine hQ _ (FF.mono (fun p j k => by unfold Pfi_reach at k; unfold Pgl; omega)) ?_
  cases s5 with
  | inl f =>
    have e : gReach tx n mv p = .inl f := by
      unfold gReach
      rcases tNu_l e5 with hh | ⟨q4, hh, t5⟩
      · subst hh
        rcases tNu_l e4 with hh | ⟨q3, hh, t4⟩
        · subst hh
          rcases tNu_l e3 with hh | ⟨q2, hh, t3⟩
          · subst hh
            rcases tNu_l e2 with hh | ⟨q1, hh, t2⟩
            · subst hh
              rcases tNu_l e1 with hh | ⟨q0, hh, t1⟩
              · cases hh
              · cases hh; exact bnd_l t1
            · subst hh
              obtain ⟨q0, hq0, t1⟩ := tNu_r e1; cases hq0; exact (bnd_r t1).trans (bnd_l t2)
          · subst hh
            obtain ⟨q1, hq1, t2⟩ := tNu_r e2; subst hq1; obtain ⟨q0, hq0, t1⟩ := tNu_r e1; cases hq0; exact (bnd_r t1).trans ((bnd_r t2).trans (bnd_l t3))
        · subst hh
          obtain ⟨q2, hq2, t3⟩ := tNu_r e3; subst hq2; obtain ⟨q1, hq1, t2⟩ := tNu_r e2; subst hq1; obtain ⟨q0, hq0, t1⟩ := tNu_r e1; cases hq0; exact (bnd_r t1).trans ((bnd_r t2).trans ((bnd_r t3).trans (bnd_l t4)))
      · subst hh
        obtain ⟨q3, hq3, t4⟩ := tNu_r e4; subst hq3; obtain ⟨q2, hq2, t3⟩ := tNu_r e3; subst hq2; obtain ⟨q1, hq1, t2⟩ := tNu_r e2; subst hq1; obtain ⟨q0, hq0, t1⟩ := tNu_r e1; cases hq0; exact (bnd_r t1).trans ((bnd_r t2).trans ((bnd_r t3).trans ((bnd_r t4).trans (bnd_l t5))))
    rw [e]; exact Or.inl cc
  | inr q =>
    obtain ⟨q4, hq4, t5⟩ := tNu_r e5; subst hq4; obtain ⟨q3, hq3, t4⟩ := tNu_r e4; subst hq3; obtain ⟨q2, hq2, t3⟩ := tNu_r e3; subst hq2; obtain ⟨q1, hq1, t2⟩ := tNu_r e2; subst hq1; obtain ⟨q0, hq0, t1⟩ := tNu_r e1; cases hq0; 
    have b0 := h.le.1
    have b1 := tN_b (by omega) t1
    have b2 := tN_b (by omega) t2
    have b3 := tN_b (by omega) t3
    have b4 := tN_b (by omega) t4
    have b5 := tN_b (by omega) t5
    have e : gReach tx n mv p = .inr ((up (up (up (up (up (up mv (336 + 5 * mv 2) v1) (336 + 5 * mv 2 + 1) v2) (336 + 5 * mv 2 + 2) v3) (336 + 5 * mv 2 + 3) v4) (336 + 5 * mv 2 + 4) v5) 2 (mv 2 + 1)), q) := by unfold gReach; exact (bnd_r t1).trans ((bnd_r t2).trans ((bnd_r t3).trans ((bnd_r t4).trans (bnd_r t5))))
    rw [e]
    have en : ∀ k, k ≠ 2 → ¬ (336 + 5 * mv 2 ≤ k ∧ k < 341 + 5 * mv 2) → (up (up (up (up (up (up mv (336 + 5 * mv 2) v1) (336 + 5 * mv 2 + 1) v2) (336 + 5 * mv 2 + 2) v3) (336 + 5 * mv 2 + 3) v4) (336 + 5 * mv 2 + 4) v5) 2 (mv 2 + 1)) k = mv k := fun k hk hk2 => by rw [up_ne (by omega), up_ne (by omega), up_ne (by omega), up_ne (by omega), up_ne (by omega), up_ne (by omega)]
    have mc : (up (up (up (up (up (up mv (336 + 5 * mv 2) v1) (336 + 5 * mv 2 + 1) v2) (336 + 5 * mv 2 + 2) v3) (336 + 5 * mv 2 + 3) v4) (336 + 5 * mv 2 + 4) v5) 2 (mv 2 + 1)) 2 = mv 2 + 1 := up_eq
    have m1 : (up (up (up (up (up (up mv (336 + 5 * mv 2) v1) (336 + 5 * mv 2 + 1) v2) (336 + 5 * mv 2 + 2) v3) (336 + 5 * mv 2 + 3) v4) (336 + 5 * mv 2 + 4) v5) 2 (mv 2 + 1)) (336 + 5 * mv 2) = v1 := by rw [up_ne (by omega), up_ne (by omega), up_ne (by omega), up_ne (by omega), up_ne (by omega), up_eq]
    have m2 : (up (up (up (up (up (up mv (336 + 5 * mv 2) v1) (336 + 5 * mv 2 + 1) v2) (336 + 5 * mv 2 + 2) v3) (336 + 5 * mv 2 + 3) v4) (336 + 5 * mv 2 + 4) v5) 2 (mv 2 + 1)) (336 + 5 * mv 2 + 1) = v2 := by rw [up_ne (by omega), up_ne (by omega), up_ne (by omega), up_ne (by omega), up_eq]
    have m3 : (up (up (up (up (up (up mv (336 + 5 * mv 2) v1) (336 + 5 * mv 2 + 1) v2) (336 + 5 * mv 2 + 2) v3) (336 + 5 * mv 2 + 3) v4) (336 + 5 * mv 2 + 4) v5) 2 (mv 2 + 1)) (336 + 5 * mv 2 + 2) = v3 := by rw [up_ne (by omega), up_ne (by omega), up_ne (by omega), up_eq]
    have m4 : (up (up (up (up (up (up mv (336 + 5 * mv 2) v1) (336 + 5 * mv 2 + 1) v2) (336 + 5 * mv 2 + 2) v3) (336 + 5 * mv 2 + 3) v4) (336 + 5 * mv 2 + 4) v5) 2 (mv 2 + 1)) (336 + 5 * mv 2 + 3) = v4 := by rw [up_ne (by omega), up_ne (by omega), up_eq]
    have m5 : (up (up (up (up (up (up mv (336 + 5 * mv 2) v1) (336 + 5 * mv 2 + 1) v2) (336 + 5 * mv 2 + 2) v3) (336 + 5 * mv 2 + 3) v4) (336 + 5 * mv 2 + 4) v5) 2 (mv 2 + 1)) (336 + 5 * mv 2 + 4) = v5 := by rw [up_ne (by omega), up_eq]
    exact ⟨cc, hG.reach hv hc en mc FF (fun p j k a b => by unfold Pfi_reach at k; omega) ⟨uc, by rw [u1, m1], by rw [u2, m2], by rw [u3, m3], by rw [u4, m4], by rw [u5, m5]⟩, hv.reach hc en mc (by rw [m1, m2, m3, m4, m5]; omega)⟩
def Pfi_place (X g : Nat) (mv : Mem) : Nat → Nat → Prop := fun p j => (p = X ∧ 2 ≤ j) ∨ (p = g ∧ j = 14) ∨ (g + 12 ≤ p ∧ p ≤ g + 15 ∧ j = mv 3)
theorem c_place (h : CTg σ X tx n p) (n4 : S_4 σ g) (hd : X + 1 < g) (hG : RGg σ g mv) (hv : VG mv) (hc : mv 3 < 12) (hQ : ∀ τ, Fr (Pgl X g) σ τ → LN τ X g tx n (gPlace tx n mv p) → Q (.inl none) τ) : WP gT (d + 2) B 43 0 [.ref g, .ref X] [] σ Q := by
  have hs := hv.s
  refine g_43_0 n4 h.1 ?_
  rw [hG.s.2.2.2.2.2.1]
  have r0 : sI σ g 14 = J (mv 3) := hG.s.2.2.2.2.2.2
  rw [r0]
  try rw [J_cl (by omega)]
  have F0 : Fr (Pfi_place X g mv) σ σ := Fr.rf
  have c0 : CTs σ X tx n (.inr p) := h
  refine c_tnv c0 (by omega) (hi1 := (mv 2)) (by omega) rfl (fun τ1 v1 s1 e1 f1 d1 => ?_)
  dsimp only [oI]
  have G1 : Fr (Pfi_place X g mv) σ τ1 := F0.tr (f1.mono (fun p j k => by unfold PtX at k; unfold Pfi_place; omega))
  have r1 : sI τ1 g 14 = J (mv 3) := by rw [f1.i (by unfold PtX; omega)]; exact r0
  rw [r1]
  try rw [J_cl (by omega)]
  refine ⟨G1.sh n4, d1.sh, (by simp (disch := omega) only [J_add, J_mul, J_sub, J_cl, vp_J]; omega), ?_⟩
  have F1 : Fr (Pfi_place X g mv) σ (setI τ1 (g + 12) (mv 3) (J v1)) := G1.setI (by unfold Pfi_place; omega)
  have c1 : CTs (setI τ1 (g + 12) (mv 3) (J v1)) X tx n s1 := d1.setI (by omega)
  refine c_tnv c1 (by omega) (hi1 := 1000) (by omega) (by decide) (fun τ2 v2 s2 e2 f2 d2 => ?_)
  dsimp only [oI]
  have G2 : Fr (Pfi_place X g mv) σ τ2 := F1.tr (f2.mono (fun p j k => by unfold PtX at k; unfold Pfi_place; omega))
  have r2 : sI τ2 g 14 = J (mv 3) := by rw [f2.i (by unfold PtX; omega), sI_any (by omega), f1.i (by unfold PtX; omega)]; exact r0
  rw [r2]
  try rw [J_cl (by omega)]
  refine ⟨G2.sh n4, d2.sh, (by simp (disch := omega) only [J_add, J_mul, J_sub, J_cl, vp_J]; omega), ?_⟩
  have F2 : Fr (Pfi_place X g mv) σ (setI τ2 (g + 13) (mv 3) (J v2)) := G2.setI (by unfold Pfi_place; omega)
  have c2 : CTs (setI τ2 (g + 13) (mv 3) (J v2)) X tx n s2 := d2.setI (by omega)
  refine c_tnv c2 (by omega) (hi1 := 13) (by omega) (by decide) (fun τ3 v3 s3 e3 f3 d3 => ?_)
  dsimp only [oI]
  have G3 : Fr (Pfi_place X g mv) σ τ3 := F2.tr (f3.mono (fun p j k => by unfold PtX at k; unfold Pfi_place; omega))
  have r3 : sI τ3 g 14 = J (mv 3) := by rw [f3.i (by unfold PtX; omega), sI_any (by omega), f2.i (by unfold PtX; omega), sI_any (by omega), f1.i (by unfold PtX; omega)]; exact r0
  rw [r3]
  try rw [J_cl (by omega)]
  refine ⟨G3.sh n4, d3.sh, (by simp (disch := omega) only [J_add, J_mul, J_sub, J_cl, vp_J]; omega), ?_⟩
  have F3 : Fr (Pfi_place X g mv) σ (setI τ3 (g + 14) (mv 3) (J v3)) := G3.setI (by unfold Pfi_place; omega)
  have c3 : CTs (setI τ3 (g + 14) (mv 3) (J v3)) X tx n s3 := d3.setI (by omega)
  refine c_tnv c3 (by omega) (hi1 := 1000) (by omega) (by decide) (fun τ4 v4 s4 e4 f4 d4 => ?_)
  dsimp only [oI]
  have G4 : Fr (Pfi_place X g mv) σ τ4 := F3.tr (f4.mono (fun p j k => by unfold PtX at k; unfold Pfi_place; omega))
  have r4 : sI τ4 g 14 = J (mv 3) := by rw [f4.i (by unfold PtX; omega), sI_any (by omega), f3.i (by unfold PtX; omega), sI_any (by omega), f2.i (by unfold PtX; omega), sI_any (by omega), f1.i (by unfold PtX; omega)]; exact r0
  rw [r4]
  try rw [J_cl (by omega)]
  refine ⟨G4.sh n4, (by simp (disch := omega) only [J_add, J_mul, J_sub, J_cl, vp_J]; omega), ?_⟩
  try rw [J_add]
  have FF : Fr (Pfi_place X g mv) σ (setI (setI τ4 (g + 15) (mv 3) (J v4)) g 14 (J (mv 3 + 1))) := (G4.setI (by unfold Pfi_place; omega)).setI (by unfold Pfi_place; omega)
  have cc : CTs (setI (setI τ4 (g + 15) (mv 3) (J v4)) g 14 (J (mv 3 + 1))) X tx n s4 := (d4.setI (by omega)).setI (by omega)
  have u1 : sI (setI (setI τ4 (g + 15) (mv 3) (J v4)) g 14 (J (mv 3 + 1))) (g + 12) (mv 3) = J v1 := by rw [sI_any (by omega), sI_any (by omega), f4.i (by unfold PtX; omega), sI_any (by omega), f3.i (by unfold PtX; omega), sI_any (by omega), f2.i (by unfold PtX; omega), sI_same]
  have u2 : sI (setI (setI τ4 (g + 15) (mv 3) (J v4)) g 14 (J (mv 3 + 1))) (g + 13) (mv 3) = J v2 := by rw [sI_any (by omega), sI_any (by omega), f4.i (by unfold PtX; omega), sI_any (by omega), f3.i (by unfold PtX; omega), sI_same]
  have u3 : sI (setI (setI τ4 (g + 15) (mv 3) (J v4)) g 14 (J (mv 3 + 1))) (g + 14) (mv 3) = J v3 := by rw [sI_any (by omega), sI_any (by omega), f4.i (by unfold PtX; omega), sI_same]
  have u4 : sI (setI (setI τ4 (g + 15) (mv 3) (J v4)) g 14 (J (mv 3 + 1))) (g + 15) (mv 3) = J v4 := by rw [sI_any (by omega), sI_same]
  have uc : sI (setI (setI τ4 (g + 15) (mv 3) (J v4)) g 14 (J (mv 3 + 1))) g 14 = J (mv 3 + 1) := sI_same
  refine hQ _ (FF.mono (fun p j k => by unfold Pfi_place at k; unfold Pgl; omega)) ?_
  cases s4 with
  | inl f =>
    have e : gPlace tx n mv p = .inl f := by
      unfold gPlace
      rcases tNu_l e4 with hh | ⟨q3, hh, t4⟩
      · subst hh
        rcases tNu_l e3 with hh | ⟨q2, hh, t3⟩
        · subst hh
          rcases tNu_l e2 with hh | ⟨q1, hh, t2⟩
          · subst hh
            rcases tNu_l e1 with hh | ⟨q0, hh, t1⟩
            · cases hh
            · cases hh; exact bnd_l t1
          · subst hh
            obtain ⟨q0, hq0, t1⟩ := tNu_r e1; cases hq0; exact (bnd_r t1).trans (bnd_l t2)
        · subst hh
          obtain ⟨q1, hq1, t2⟩ := tNu_r e2; subst hq1; obtain ⟨q0, hq0, t1⟩ := tNu_r e1; cases hq0; exact (bnd_r t1).trans ((bnd_r t2).trans (bnd_l t3))
      · subst hh
        obtain ⟨q2, hq2, t3⟩ := tNu_r e3; subst hq2; obtain ⟨q1, hq1, t2⟩ := tNu_r e2; subst hq1; obtain ⟨q0, hq0, t1⟩ := tNu_r e1; cases hq0; exact (bnd_r t1).trans ((bnd_r t2).trans ((bnd_r t3).trans (bnd_l t4)))
    rw [e]; exact Or.inl cc
  | inr q =>
    obtain ⟨q3, hq3, t4⟩ := tNu_r e4; subst hq3; obtain ⟨q2, hq2, t3⟩ := tNu_r e3; subst hq2; obtain ⟨q1, hq1, t2⟩ := tNu_r e2; subst hq1; obtain ⟨q0, hq0, t1⟩ := tNu_r e1; cases hq0; 
    have b0 := h.le.1
    have b1 := tN_b (by omega) t1
    have b2 := tN_b (by omega) t2
    have b3 := tN_b (by omega) t3
    have b4 := tN_b (by omega) t4
    have e : gPlace tx n mv p = .inr ((up (up (up (up (up mv (376 + 4 * mv 3) v1) (376 + 4 * mv 3 + 1) v2) (376 + 4 * mv 3 + 2) v3) (376 + 4 * mv 3 + 3) v4) 3 (mv 3 + 1)), q) := by unfold gPlace; exact (bnd_r t1).trans ((bnd_r t2).trans ((bnd_r t3).trans (bnd_r t4)))
    rw [e]
    have en : ∀ k, k ≠ 3 → ¬ (376 + 4 * mv 3 ≤ k ∧ k < 380 + 4 * mv 3) → (up (up (up (up (up mv (376 + 4 * mv 3) v1) (376 + 4 * mv 3 + 1) v2) (376 + 4 * mv 3 + 2) v3) (376 + 4 * mv 3 + 3) v4) 3 (mv 3 + 1)) k = mv k := fun k hk hk2 => by rw [up_ne (by omega), up_ne (by omega), up_ne (by omega), up_ne (by omega), up_ne (by omega)]
    have mc : (up (up (up (up (up mv (376 + 4 * mv 3) v1) (376 + 4 * mv 3 + 1) v2) (376 + 4 * mv 3 + 2) v3) (376 + 4 * mv 3 + 3) v4) 3 (mv 3 + 1)) 3 = mv 3 + 1 := up_eq
    have m1 : (up (up (up (up (up mv (376 + 4 * mv 3) v1) (376 + 4 * mv 3 + 1) v2) (376 + 4 * mv 3 + 2) v3) (376 + 4 * mv 3 + 3) v4) 3 (mv 3 + 1)) (376 + 4 * mv 3) = v1 := by rw [up_ne (by omega), up_ne (by omega), up_ne (by omega), up_ne (by omega), up_eq]
    have m2 : (up (up (up (up (up mv (376 + 4 * mv 3) v1) (376 + 4 * mv 3 + 1) v2) (376 + 4 * mv 3 + 2) v3) (376 + 4 * mv 3 + 3) v4) 3 (mv 3 + 1)) (376 + 4 * mv 3 + 1) = v2 := by rw [up_ne (by omega), up_ne (by omega), up_ne (by omega), up_eq]
    have m3 : (up (up (up (up (up mv (376 + 4 * mv 3) v1) (376 + 4 * mv 3 + 1) v2) (376 + 4 * mv 3 + 2) v3) (376 + 4 * mv 3 + 3) v4) 3 (mv 3 + 1)) (376 + 4 * mv 3 + 2) = v3 := by rw [up_ne (by omega), up_ne (by omega), up_eq]
    have m4 : (up (up (up (up (up mv (376 + 4 * mv 3) v1) (376 + 4 * mv 3 + 1) v2) (376 + 4 * mv 3 + 2) v3) (376 + 4 * mv 3 + 3) v4) 3 (mv 3 + 1)) (376 + 4 * mv 3 + 3) = v4 := by rw [up_ne (by omega), up_eq]
    exact ⟨cc, hG.place hv hc en mc FF (fun p j k a b => by unfold Pfi_place at k; omega) ⟨uc, by rw [u1, m1], by rw [u2, m2], by rw [u3, m3], by rw [u4, m4]⟩, hv.place hc en mc (by rw [m1, m2, m3, m4]; omega)⟩
theorem r_lake (h : RTg σ y0 tx n bs p) (hm : RMm σ y0 mv) (hv : VG mv) (hQ : ∀ τ, Fr (Pgr y0) σ τ → LR τ y0 tx n bs (gLake tx n mv p) → Q (.inl none) τ) : WP gT (d + 4) (0, 0) 180 0 [.ref y0, .int (J 1), .int (J 9999), .retAddr 0, .retAddr 0] [] σ (oI (fun v89 τ90 => (S_12 τ90 y0 ∧ WP gT (d + 4) (0, 0) 180 0 [.ref y0, .int (J 0), .int (J 999999), .retAddr 0, .retAddr 0] [] (setI τ90 (y0 + 1) 9 v89) (oI (fun v91 τ92 => (S_12 τ92 y0 ∧ WP gT (d + 4) (0, 0) 180 0 [.ref y0, .int (J 0), .int (J 9999), .retAddr 0, .retAddr 0] [] (setI τ92 (y0 + 1) 10 v91) (oI (fun v93 τ94 => (S_12 τ94 y0 ∧ WP gT (d + 4) (0, 0) 180 0 [.ref y0, .int (J 0), .int (J 95), .retAddr 0, .retAddr 0] [] (setI τ94 (y0 + 1) 11 v93) (oI (fun v95 τ96 => (S_12 τ96 y0 ∧ Q (.inl none) (setI τ96 (y0 + 1) 12 v95))) (fun _ _ => False)))) (fun _ _ => False)))) (fun _ _ => False)))) (fun _ _ => False)) := by
  have hs := hv.s
  have F0 : Fr (Pgr y0) σ σ := Fr.rf
  have c0 : RTs σ y0 tx n bs (.inr p) := h
  refine r_figv c0 (by omega) (hi1 := 10000) (by omega) (by decide) (fun τ1 u1 v1 s1 e1 f1 d1 w1 => ?_)
  dsimp only [oI]
  have G1 : Fr (Pgr y0) σ τ1 := F0.tr (f1.mono PY_gr)
  refine ⟨d1.by_.1, ?_⟩
  have F1 : Fr (Pgr y0) σ (setI τ1 (y0 + 1) (9) u1) := G1.setI (by unfold Pgr; omega)
  have c1 : RTs (setI τ1 (y0 + 1) (9) u1) y0 tx n bs s1 := d1.setI (by omega)
  refine r_figv c1 (by omega) (hi1 := 1000000) (by omega) (by decide) (fun τ2 u2 v2 s2 e2 f2 d2 w2 => ?_)
  dsimp only [oI]
  have G2 : Fr (Pgr y0) σ τ2 := F1.tr (f2.mono PY_gr)
  refine ⟨d2.by_.1, ?_⟩
  have F2 : Fr (Pgr y0) σ (setI τ2 (y0 + 1) (10) u2) := G2.setI (by unfold Pgr; omega)
  have c2 : RTs (setI τ2 (y0 + 1) (10) u2) y0 tx n bs s2 := d2.setI (by omega)
  refine r_figv c2 (by omega) (hi1 := 10000) (by omega) (by decide) (fun τ3 u3 v3 s3 e3 f3 d3 w3 => ?_)
  dsimp only [oI]
  have G3 : Fr (Pgr y0) σ τ3 := F2.tr (f3.mono PY_gr)
  refine ⟨d3.by_.1, ?_⟩
  have F3 : Fr (Pgr y0) σ (setI τ3 (y0 + 1) (11) u3) := G3.setI (by unfold Pgr; omega)
  have c3 : RTs (setI τ3 (y0 + 1) (11) u3) y0 tx n bs s3 := d3.setI (by omega)
  refine r_figv c3 (by omega) (hi1 := 96) (by omega) (by decide) (fun τ4 u4 v4 s4 e4 f4 d4 w4 => ?_)
  dsimp only [oI]
  have G4 : Fr (Pgr y0) σ τ4 := F3.tr (f4.mono PY_gr)
  refine ⟨d4.by_.1, ?_⟩
  have FF : Fr (Pgr y0) σ (setI τ4 (y0 + 1) (12) u4) := G4.setI (by unfold Pgr; omega)
  have cc : RTs (setI τ4 (y0 + 1) (12) u4) y0 tx n bs s4 := d4.setI (by omega)
  refine hQ _ FF ?_
  cases s4 with
  | inl f =>
    have e : gLake tx n mv p = .inl f := by
      unfold gLake
      rcases tNu_l e4 with hh | ⟨q3, hh, t4⟩
      · subst hh
        rcases tNu_l e3 with hh | ⟨q2, hh, t3⟩
        · subst hh
          rcases tNu_l e2 with hh | ⟨q1, hh, t2⟩
          · subst hh
            rcases tNu_l e1 with hh | ⟨q0, hh, t1⟩
            · cases hh
            · cases hh; exact bnd_l t1
          · subst hh
            obtain ⟨q0, hq0, t1⟩ := tNu_r e1; cases hq0; exact (bnd_r t1).trans (bnd_l t2)
        · subst hh
          obtain ⟨q1, hq1, t2⟩ := tNu_r e2; subst hq1; obtain ⟨q0, hq0, t1⟩ := tNu_r e1; cases hq0; exact (bnd_r t1).trans ((bnd_r t2).trans (bnd_l t3))
      · subst hh
        obtain ⟨q2, hq2, t3⟩ := tNu_r e3; subst hq2; obtain ⟨q1, hq1, t2⟩ := tNu_r e2; subst hq1; obtain ⟨q0, hq0, t1⟩ := tNu_r e1; cases hq0; exact (bnd_r t1).trans ((bnd_r t2).trans ((bnd_r t3).trans (bnd_l t4)))
    rw [e]; exact cc
  | inr q =>
    obtain ⟨q3, hq3, t4⟩ := tNu_r e4; subst hq3; obtain ⟨q2, hq2, t3⟩ := tNu_r e3; subst hq2; obtain ⟨q1, hq1, t2⟩ := tNu_r e2; subst hq1; obtain ⟨q0, hq0, t1⟩ := tNu_r e1; cases hq0; 
    have e : gLake tx n mv p = .inr ((up (up (up (up mv (9) v1) (10) v2) (11) v3) (12) v4), q) := by unfold gLake; exact (bnd_r t1).trans ((bnd_r t2).trans ((bnd_r t3).trans (bnd_r t4)))
    rw [e]
    have x1 : u1 = J v1 := w1 _ rfl
    subst x1
    have x2 : u2 = J v2 := w2 _ rfl
    subst x2
    have x3 : u3 = J v3 := w3 _ rfl
    subst x3
    have x4 : u4 = J v4 := w4 _ rfl
    subst x4
    exact ⟨cc, ((((((((hm).t f1).up).t f2).up).t f3).up).t f4).up⟩
theorem r_reach (h : RTg σ y0 tx n bs p) (hm : RMm σ y0 mv) (hv : VG mv) (hc : mv 2 < 8) (hQ : ∀ τ, Fr (Pgr y0) σ τ → LR τ y0 tx n bs (gReach tx n mv p) → Q (.inl none) τ) : WP gT (d + 4) (0, 0) 180 0 [.ref y0, .int (J 1), .int (J 999), .retAddr 0, .retAddr 0] [] σ (oI (fun v65 τ66 => (S_12 τ66 y0 ∧ (vp_in ((J 336) + ((J 5) * (sI σ (y0 + 1) 2))) 4488 ∧ WP gT (d + 4) (0, 0) 180 0 [.ref y0, .int (J 0), .int (J 100), .retAddr 0, .retAddr 0] [] (setI τ66 (y0 + 1) (((J 336) + ((J 5) * (sI σ (y0 + 1) 2))).toNatClampNeg) v65) (oI (fun v68 τ69 => (S_12 τ69 y0 ∧ (vp_in (((J 336) + ((J 5) * (sI σ (y0 + 1) 2))) + (J 1)) 4488 ∧ WP gT (d + 4) (0, 0) 180 0 [.ref y0, .int (J 0), .int (J 100), .retAddr 0, .retAddr 0] [] (setI τ69 (y0 + 1) ((((J 336) + ((J 5) * (sI σ (y0 + 1) 2))) + (J 1)).toNatClampNeg) v68) (oI (fun v71 τ72 => (S_12 τ72 y0 ∧ (vp_in (((J 336) + ((J 5) * (sI σ (y0 + 1) 2))) + (J 2)) 4488 ∧ WP gT (d + 4) (0, 0) 180 0 [.ref y0, .int (J 0), .int (J 999), .retAddr 0, .retAddr 0] [] (setI τ72 (y0 + 1) ((((J 336) + ((J 5) * (sI σ (y0 + 1) 2))) + (J 2)).toNatClampNeg) v71) (oI (fun v74 τ75 => (S_12 τ75 y0 ∧ (vp_in (((J 336) + ((J 5) * (sI σ (y0 + 1) 2))) + (J 3)) 4488 ∧ WP gT (d + 4) (0, 0) 180 0 [.ref y0, .int (J 0), .int (J 99), .retAddr 0, .retAddr 0] [] (setI τ75 (y0 + 1) ((((J 336) + ((J 5) * (sI σ (y0 + 1) 2))) + (J 3)).toNatClampNeg) v74) (oI (fun v77 τ78 => (S_12 τ78 y0 ∧ (vp_in (((J 336) + ((J 5) * (sI σ (y0 + 1) 2))) + (J 4)) 4488 ∧ (∀ u80 : Int32, u80 = ((sI (setI τ78 (y0 + 1) ((((J 336) + ((J 5) * (sI σ (y0 + 1) 2))) + (J 4)).toNatClampNeg) v77) (y0 + 1) 2) + (J 1)) → Q (.inl none) (setI (setI τ78 (y0 + 1) ((((J 336) + ((J 5) * (sI σ (y0 + 1) 2))) + (J 4)).toNatClampNeg) v77) (y0 + 1) 2 u80))))) (fun _ _ => False))))) (fun _ _ => False))))) (fun _ _ => False))))) (fun _ _ => False))))) (fun _ _ => False)) := by
  have hs := hv.s
  have F0 : Fr (Pgr y0) σ σ := Fr.rf
  have c0 : RTs σ y0 tx n bs (.inr p) := h
  have r0 : sI σ (y0 + 1) 2 = J (mv 2) := hm.at (by omega)
  rw [r0]
  simp (disch := omega) only [J_add, J_mul, J_cl]
  refine r_figv c0 (by omega) (hi1 := 1000) (by omega) (by decide) (fun τ1 u1 v1 s1 e1 f1 d1 w1 => ?_)
  dsimp only [oI]
  have G1 : Fr (Pgr y0) σ τ1 := F0.tr (f1.mono PY_gr)
  refine ⟨d1.by_.1, (by simp (disch := omega) only [J_add, J_mul, J_sub, J_cl, vp_J]; omega), ?_⟩
  have F1 : Fr (Pgr y0) σ (setI τ1 (y0 + 1) (336 + 5 * mv 2) u1) := G1.setI (by unfold Pgr; omega)
  have c1 : RTs (setI τ1 (y0 + 1) (336 + 5 * mv 2) u1) y0 tx n bs s1 := d1.setI (by omega)
  refine r_figv c1 (by omega) (hi1 := 101) (by omega) (by decide) (fun τ2 u2 v2 s2 e2 f2 d2 w2 => ?_)
  dsimp only [oI]
  have G2 : Fr (Pgr y0) σ τ2 := F1.tr (f2.mono PY_gr)
  refine ⟨d2.by_.1, (by simp (disch := omega) only [J_add, J_mul, J_sub, J_cl, vp_J]; omega), ?_⟩
  have F2 : Fr (Pgr y0) σ (setI τ2 (y0 + 1) (336 + 5 * mv 2 + 1) u2) := G2.setI (by unfold Pgr; omega)
  have c2 : RTs (setI τ2 (y0 + 1) (336 + 5 * mv 2 + 1) u2) y0 tx n bs s2 := d2.setI (by omega)
  refine r_figv c2 (by omega) (hi1 := 101) (by omega) (by decide) (fun τ3 u3 v3 s3 e3 f3 d3 w3 => ?_)
  dsimp only [oI]
  have G3 : Fr (Pgr y0) σ τ3 := F2.tr (f3.mono PY_gr)
  refine ⟨d3.by_.1, (by simp (disch := omega) only [J_add, J_mul, J_sub, J_cl, vp_J]; omega), ?_⟩
  have F3 : Fr (Pgr y0) σ (setI τ3 (y0 + 1) (336 + 5 * mv 2 + 2) u3) := G3.setI (by unfold Pgr; omega)
  have c3 : RTs (setI τ3 (y0 + 1) (336 + 5 * mv 2 + 2) u3) y0 tx n bs s3 := d3.setI (by omega)
  refine r_figv c3 (by omega) (hi1 := 1000) (by omega) (by decide) (fun τ4 u4 v4 s4 e4 f4 d4 w4 => ?_)
  dsimp only [oI]
  have G4 : Fr (Pgr y0) σ τ4 := F3.tr (f4.mono PY_gr)
  refine ⟨d4.by_.1, (by simp (disch := omega) only [J_add, J_mul, J_sub, J_cl, vp_J]; omega), ?_⟩
  have F4 : Fr (Pgr y0) σ (setI τ4 (y0 + 1) (336 + 5 * mv 2 + 3) u4) := G4.setI (by unfold Pgr; omega)
  have c4 : RTs (setI τ4 (y0 + 1) (336 + 5 * mv 2 + 3) u4) y0 tx n bs s4 := d4.setI (by omega)
  refine r_figv c4 (by omega) (hi1 := 100) (by omega) (by decide) (fun τ5 u5 v5 s5 e5 f5 d5 w5 => ?_)
  dsimp only [oI]
  have G5 : Fr (Pgr y0) σ τ5 := F4.tr (f5.mono PY_gr)
  refine ⟨d5.by_.1, (by simp (disch := omega) only [J_add, J_mul, J_sub, J_cl, vp_J]; omega), fun uu hu => ?_⟩
  have F5 : Fr (Pgr y0) σ (setI τ5 (y0 + 1) (336 + 5 * mv 2 + 4) u5) := G5.setI (by unfold Pgr; omega)
  have c5 : RTs (setI τ5 (y0 + 1) (336 + 5 * mv 2 + 4) u5) y0 tx n bs s5 := d5.setI (by omega)
  have hu2 : uu = J (mv 2 + 1) := by rw [hu, sI_any (by omega), f5.i (by unfold PYt; omega), sI_any (by omega), f4.i (by unfold PYt; omega), sI_any (by omega), f3.i (by unfold PYt; omega), sI_any (by omega), f2.i (by unfold PYt; omega), sI_any (by omega), f1.i (by unfold PYt; omega), r0, J_add]
  subst hu2
  have FF : Fr (Pgr y0) σ (setI (setI τ5 (y0 + 1) (336 + 5 * mv 2 + 4) u5) (y0 + 1) 2 (J (mv 2 + 1))) := F5.setI (by unfold Pgr; omega)
  have cc : RTs (setI (setI τ5 (y0 + 1) (336 + 5 * mv 2 + 4) u5) (y0 + 1) 2 (J (mv 2 + 1))) y0 tx n bs s5 := c5.setI (by omega)
  refine hQ _ FF ?_
  cases s5 with
  | inl f =>
    have e : gReach tx n mv p = .inl f := by
      unfold gReach
      rcases tNu_l e5 with hh | ⟨q4, hh, t5⟩
      · subst hh
        rcases tNu_l e4 with hh | ⟨q3, hh, t4⟩
        · subst hh
          rcases tNu_l e3 with hh | ⟨q2, hh, t3⟩
          · subst hh
            rcases tNu_l e2 with hh | ⟨q1, hh, t2⟩
            · subst hh
              rcases tNu_l e1 with hh | ⟨q0, hh, t1⟩
              · cases hh
              · cases hh; exact bnd_l t1
            · subst hh
              obtain ⟨q0, hq0, t1⟩ := tNu_r e1; cases hq0; exact (bnd_r t1).trans (bnd_l t2)
          · subst hh
            obtain ⟨q1, hq1, t2⟩ := tNu_r e2; subst hq1; obtain ⟨q0, hq0, t1⟩ := tNu_r e1; cases hq0; exact (bnd_r t1).trans ((bnd_r t2).trans (bnd_l t3))
        · subst hh
          obtain ⟨q2, hq2, t3⟩ := tNu_r e3; subst hq2; obtain ⟨q1, hq1, t2⟩ := tNu_r e2; subst hq1; obtain ⟨q0, hq0, t1⟩ := tNu_r e1; cases hq0; exact (bnd_r t1).trans ((bnd_r t2).trans ((bnd_r t3).trans (bnd_l t4)))
      · subst hh
        obtain ⟨q3, hq3, t4⟩ := tNu_r e4; subst hq3; obtain ⟨q2, hq2, t3⟩ := tNu_r e3; subst hq2; obtain ⟨q1, hq1, t2⟩ := tNu_r e2; subst hq1; obtain ⟨q0, hq0, t1⟩ := tNu_r e1; cases hq0; exact (bnd_r t1).trans ((bnd_r t2).trans ((bnd_r t3).trans ((bnd_r t4).trans (bnd_l t5))))
    rw [e]; exact cc
  | inr q =>
    obtain ⟨q4, hq4, t5⟩ := tNu_r e5; subst hq4; obtain ⟨q3, hq3, t4⟩ := tNu_r e4; subst hq3; obtain ⟨q2, hq2, t3⟩ := tNu_r e3; subst hq2; obtain ⟨q1, hq1, t2⟩ := tNu_r e2; subst hq1; obtain ⟨q0, hq0, t1⟩ := tNu_r e1; cases hq0; 
    have e : gReach tx n mv p = .inr ((up (up (up (up (up (up mv (336 + 5 * mv 2) v1) (336 + 5 * mv 2 + 1) v2) (336 + 5 * mv 2 + 2) v3) (336 + 5 * mv 2 + 3) v4) (336 + 5 * mv 2 + 4) v5) 2 (mv 2 + 1)), q) := by unfold gReach; exact (bnd_r t1).trans ((bnd_r t2).trans ((bnd_r t3).trans ((bnd_r t4).trans (bnd_r t5))))
    rw [e]
    have x1 : u1 = J v1 := w1 _ rfl
    subst x1
    have x2 : u2 = J v2 := w2 _ rfl
    subst x2
    have x3 : u3 = J v3 := w3 _ rfl
    subst x3
    have x4 : u4 = J v4 := w4 _ rfl
    subst x4
    have x5 : u5 = J v5 := w5 _ rfl
    subst x5
    exact ⟨cc, (((((((((((hm).t f1).up).t f2).up).t f3).up).t f4).up).t f5).up).up⟩
theorem r_place (h : RTg σ y0 tx n bs p) (hm : RMm σ y0 mv) (hv : VG mv) (hc : mv 3 < 12) (hQ : ∀ τ, Fr (Pgr y0) σ τ → LR τ y0 tx n bs (gPlace tx n mv p) → Q (.inl none) τ) : WP gT (d + 4) (0, 0) 180 0 [.ref y0, .int (J 0), .int ((sI σ (y0 + 1) 2) - (J 1)), .retAddr 0, .retAddr 0] [] σ (oI (fun v34 τ35 => (S_12 τ35 y0 ∧ (vp_in ((J 376) + ((J 4) * (sI σ (y0 + 1) 3))) 4488 ∧ WP gT (d + 4) (0, 0) 180 0 [.ref y0, .int (J 0), .int (J 999), .retAddr 0, .retAddr 0] [] (setI τ35 (y0 + 1) (((J 376) + ((J 4) * (sI σ (y0 + 1) 3))).toNatClampNeg) v34) (oI (fun v37 τ38 => (S_12 τ38 y0 ∧ (vp_in (((J 376) + ((J 4) * (sI σ (y0 + 1) 3))) + (J 1)) 4488 ∧ WP gT (d + 4) (0, 0) 180 0 [.ref y0, .int (J 0), .int (J 12), .retAddr 0, .retAddr 0] [] (setI τ38 (y0 + 1) ((((J 376) + ((J 4) * (sI σ (y0 + 1) 3))) + (J 1)).toNatClampNeg) v37) (oI (fun v40 τ41 => (S_12 τ41 y0 ∧ (vp_in (((J 376) + ((J 4) * (sI σ (y0 + 1) 3))) + (J 2)) 4488 ∧ WP gT (d + 4) (0, 0) 180 0 [.ref y0, .int (J 0), .int (J 999), .retAddr 0, .retAddr 0] [] (setI τ41 (y0 + 1) ((((J 376) + ((J 4) * (sI σ (y0 + 1) 3))) + (J 2)).toNatClampNeg) v40) (oI (fun v43 τ44 => (S_12 τ44 y0 ∧ (vp_in (((J 376) + ((J 4) * (sI σ (y0 + 1) 3))) + (J 3)) 4488 ∧ (∀ u46 : Int32, u46 = ((sI (setI τ44 (y0 + 1) ((((J 376) + ((J 4) * (sI σ (y0 + 1) 3))) + (J 3)).toNatClampNeg) v43) (y0 + 1) 3) + (J 1)) → Q (.inl none) (setI (setI τ44 (y0 + 1) ((((J 376) + ((J 4) * (sI σ (y0 + 1) 3))) + (J 3)).toNatClampNeg) v43) (y0 + 1) 3 u46))))) (fun _ _ => False))))) (fun _ _ => False))))) (fun _ _ => False))))) (fun _ _ => False)) := by
  have hs := hv.s
  have F0 : Fr (Pgr y0) σ σ := Fr.rf
  have c0 : RTs σ y0 tx n bs (.inr p) := h
  have r0 : sI σ (y0 + 1) 3 = J (mv 3) := hm.at (by omega)
  rw [show sI σ (y0 + 1) 2 = J (mv 2) from hm.at (by omega)]
  rw [r0]
  simp (disch := omega) only [J_add, J_mul, J_cl]
  refine r_figv c0 (by omega) (hi1 := (mv 2)) (by omega) rfl (fun τ1 u1 v1 s1 e1 f1 d1 w1 => ?_)
  dsimp only [oI]
  have G1 : Fr (Pgr y0) σ τ1 := F0.tr (f1.mono PY_gr)
  refine ⟨d1.by_.1, (by simp (disch := omega) only [J_add, J_mul, J_sub, J_cl, vp_J]; omega), ?_⟩
  have F1 : Fr (Pgr y0) σ (setI τ1 (y0 + 1) (376 + 4 * mv 3) u1) := G1.setI (by unfold Pgr; omega)
  have c1 : RTs (setI τ1 (y0 + 1) (376 + 4 * mv 3) u1) y0 tx n bs s1 := d1.setI (by omega)
  refine r_figv c1 (by omega) (hi1 := 1000) (by omega) (by decide) (fun τ2 u2 v2 s2 e2 f2 d2 w2 => ?_)
  dsimp only [oI]
  have G2 : Fr (Pgr y0) σ τ2 := F1.tr (f2.mono PY_gr)
  refine ⟨d2.by_.1, (by simp (disch := omega) only [J_add, J_mul, J_sub, J_cl, vp_J]; omega), ?_⟩
  have F2 : Fr (Pgr y0) σ (setI τ2 (y0 + 1) (376 + 4 * mv 3 + 1) u2) := G2.setI (by unfold Pgr; omega)
  have c2 : RTs (setI τ2 (y0 + 1) (376 + 4 * mv 3 + 1) u2) y0 tx n bs s2 := d2.setI (by omega)
  refine r_figv c2 (by omega) (hi1 := 13) (by omega) (by decide) (fun τ3 u3 v3 s3 e3 f3 d3 w3 => ?_)
  dsimp only [oI]
  have G3 : Fr (Pgr y0) σ τ3 := F2.tr (f3.mono PY_gr)
  refine ⟨d3.by_.1, (by simp (disch := omega) only [J_add, J_mul, J_sub, J_cl, vp_J]; omega), ?_⟩
  have F3 : Fr (Pgr y0) σ (setI τ3 (y0 + 1) (376 + 4 * mv 3 + 2) u3) := G3.setI (by unfold Pgr; omega)
  have c3 : RTs (setI τ3 (y0 + 1) (376 + 4 * mv 3 + 2) u3) y0 tx n bs s3 := d3.setI (by omega)
  refine r_figv c3 (by omega) (hi1 := 1000) (by omega) (by decide) (fun τ4 u4 v4 s4 e4 f4 d4 w4 => ?_)
  dsimp only [oI]
  have G4 : Fr (Pgr y0) σ τ4 := F3.tr (f4.mono PY_gr)
  refine ⟨d4.by_.1, (by simp (disch := omega) only [J_add, J_mul, J_sub, J_cl, vp_J]; omega), fun uu hu => ?_⟩
  have F4 : Fr (Pgr y0) σ (setI τ4 (y0 + 1) (376 + 4 * mv 3 + 3) u4) := G4.setI (by unfold Pgr; omega)
  have c4 : RTs (setI τ4 (y0 + 1) (376 + 4 * mv 3 + 3) u4) y0 tx n bs s4 := d4.setI (by omega)
  have hu2 : uu = J (mv 3 + 1) := by rw [hu, sI_any (by omega), f4.i (by unfold PYt; omega), sI_any (by omega), f3.i (by unfold PYt; omega), sI_any (by omega), f2.i (by unfold PYt; omega), sI_any (by omega), f1.i (by unfold PYt; omega), r0, J_add]
  subst hu2
  have FF : Fr (Pgr y0) σ (setI (setI τ4 (y0 + 1) (376 + 4 * mv 3 + 3) u4) (y0 + 1) 3 (J (mv 3 + 1))) := F4.setI (by unfold Pgr; omega)
  have cc : RTs (setI (setI τ4 (y0 + 1) (376 + 4 * mv 3 + 3) u4) (y0 + 1) 3 (J (mv 3 + 1))) y0 tx n bs s4 := c4.setI (by omega)
  refine hQ _ FF ?_
  cases s4 with
  | inl f =>
    have e : gPlace tx n mv p = .inl f := by
      unfold gPlace
      rcases tNu_l e4 with hh | ⟨q3, hh, t4⟩
      · subst hh
        rcases tNu_l e3 with hh | ⟨q2, hh, t3⟩
        · subst hh
          rcases tNu_l e2 with hh | ⟨q1, hh, t2⟩
          · subst hh
            rcases tNu_l e1 with hh | ⟨q0, hh, t1⟩
            · cases hh
            · cases hh; exact bnd_l t1
          · subst hh
            obtain ⟨q0, hq0, t1⟩ := tNu_r e1; cases hq0; exact (bnd_r t1).trans (bnd_l t2)
        · subst hh
          obtain ⟨q1, hq1, t2⟩ := tNu_r e2; subst hq1; obtain ⟨q0, hq0, t1⟩ := tNu_r e1; cases hq0; exact (bnd_r t1).trans ((bnd_r t2).trans (bnd_l t3))
      · subst hh
        obtain ⟨q2, hq2, t3⟩ := tNu_r e3; subst hq2; obtain ⟨q1, hq1, t2⟩ := tNu_r e2; subst hq1; obtain ⟨q0, hq0, t1⟩ := tNu_r e1; cases hq0; exact (bnd_r t1).trans ((bnd_r t2).trans ((bnd_r t3).trans (bnd_l t4)))
    rw [e]; exact cc
  | inr q =>
    obtain ⟨q3, hq3, t4⟩ := tNu_r e4; subst hq3; obtain ⟨q2, hq2, t3⟩ := tNu_r e3; subst hq2; obtain ⟨q1, hq1, t2⟩ := tNu_r e2; subst hq1; obtain ⟨q0, hq0, t1⟩ := tNu_r e1; cases hq0; 
    have e : gPlace tx n mv p = .inr ((up (up (up (up (up mv (376 + 4 * mv 3) v1) (376 + 4 * mv 3 + 1) v2) (376 + 4 * mv 3 + 2) v3) (376 + 4 * mv 3 + 3) v4) 3 (mv 3 + 1)), q) := by unfold gPlace; exact (bnd_r t1).trans ((bnd_r t2).trans ((bnd_r t3).trans (bnd_r t4)))
    rw [e]
    have x1 : u1 = J v1 := w1 _ rfl
    subst x1
    have x2 : u2 = J v2 := w2 _ rfl
    subst x2
    have x3 : u3 = J v3 := w3 _ rfl
    subst x3
    have x4 : u4 = J v4 := w4 _ rfl
    subst x4
    exact ⟨cc, (((((((((hm).t f1).up).t f2).up).t f3).up).t f4).up).up⟩
