/-! ===== the class reads a rule ===== -/
variable {d : Nat} {B : Nat × Nat} {Q : Out → Sto → Prop} {P : Nat → Nat → Prop} {σ τ : Sto} {X R y0 : Nat} {tx : Mem} {n p q f0 : Nat} {cs : List (Nat × Nat)}
theorem J_bv (a : Nat) : (J a).toBitVec = BitVec.ofNat 32 a := by
  show BitVec.ofInt 32 (a : Int) = _
  exact BitVec.ofInt_natCast ..
theorem enc_J {k f : Nat} (hk : k < 16) (ho : f ≤ 999999) : (J f <<< (J 4 &&& 31)) ||| J k = J (f * 16 + k) := by
  have e : (J 4 &&& 31 : Int32) = 4 := by decide
  rw [e]
  apply Int32.toBitVec_inj.mp
  rw [Int32.toBitVec_or, Int32.toBitVec_shiftLeft, J_bv, J_bv, J_bv]
  apply BitVec.eq_of_toNat_eq
  have e2 : ((4 : Int32).toBitVec.smod 32) = 4#32 := by decide
  rw [e2, BitVec.toNat_or, BitVec.shiftLeft_eq', BitVec.toNat_shiftLeft, BitVec.toNat_ofNat, BitVec.toNat_ofNat, BitVec.toNat_ofNat, BitVec.toNat_ofNat, Nat.mod_eq_of_lt (a := f) (by omega), Nat.mod_eq_of_lt (a := k) (by omega), Nat.mod_eq_of_lt (a := f * 16 + k) (by omega), Nat.mod_eq_of_lt (a := 4) (by omega), Nat.mod_eq_of_lt (a := f <<< 4) (by rw [Nat.shiftLeft_eq]; omega), ← Nat.shiftLeft_add_eq_or_of_lt (by omega), Nat.shiftLeft_eq]
theorem gd_l {a b : List (Nat × Nat)} {j : Nat} (h : j < a.length) : (a ++ b).getD j (0, 0) = a.getD j (0, 0) := by
  rw [List.getD_eq_getElem?_getD, List.getD_eq_getElem?_getD, List.getElem?_append_left h]
theorem gd_r {a : List (Nat × Nat)} {x : Nat × Nat} : (a ++ [x]).getD a.length (0, 0) = x := by
  rw [List.getD_eq_getElem?_getD, List.getElem?_append_right (Nat.le_refl _), Nat.sub_self]; rfl
def COD (σ : Sto) (R : Nat) (cs : List (Nat × Nat)) : Prop := sI σ R 4 = J cs.length ∧ cs.length ≤ 400 ∧ ∀ j, j < cs.length → sI σ (R + 4) j = J (enc (cs.getD j (0, 0)))
def CZ (σ : Sto) (R : Nat) : Prop := ∃ m, m ≤ 400 ∧ sI σ R 4 = J m
def Ppt (R : Nat) : Nat → Nat → Prop := fun p j => p = R + 4 ∨ (p = R ∧ j = 4)
def Prr (X R : Nat) : Nat → Nat → Prop := fun p j => (p = X ∧ 2 ≤ j) ∨ p = R + 4 ∨ (p = R ∧ j = 4)
theorem PtX_rr : ∀ p j, PtX X p j → Prr X R p j := fun p j h => Or.inl h
theorem Ppt_rr : ∀ p j, Ppt R p j → Prr X R p j := fun p j h => Or.inr h
theorem COD.z (h : COD σ R cs) : CZ σ R := ⟨_, h.2.1, h.1⟩
theorem COD.fr (h : COD σ R cs) (f : Fr P σ τ) (hP : ∀ p j, P p j → p ≠ R + 4 ∧ (p = R → j ≠ 4)) : COD τ R cs := by
  refine ⟨?_, h.2.1, fun j hj => ?_⟩
  · rw [f.i (fun k => (hP _ _ k).2 rfl rfl)]; exact h.1
  · rw [f.i (fun k => (hP _ _ k).1 rfl)]; exact h.2.2 j hj
theorem CZ.fr (h : CZ σ R) (f : Fr P σ τ) (hP : ∀ p j, P p j → p ≠ R + 4 ∧ (p = R → j ≠ 4)) : CZ τ R := by
  obtain ⟨m, h1, h2⟩ := h
  exact ⟨m, h1, by rw [f.i (fun k => (hP _ _ k).2 rfl rfl)]; exact h2⟩
theorem COD.t (h : COD σ R cs) (f : Fr (PtX X) σ τ) (hd : X + 1 < R) : COD τ R cs := h.fr f (fun p j k => by unfold PtX at k; omega)
theorem CZ.t (h : CZ σ R) (f : Fr (PtX X) σ τ) (hd : X + 1 < R) : CZ τ R := h.fr f (fun p j k => by unfold PtX at k; omega)
theorem CTg.pt_ (h : CTg σ X tx n p) (f : Fr (Ppt R) σ τ) (hd : X + 1 < R) : CTg τ X tx n p := h.fr f (fun p j k => by unfold Ppt at k; omega)
theorem CTb.pt_ (h : CTb σ X tx n f0) (f : Fr (Ppt R) σ τ) (hd : X + 1 < R) : CTb τ X tx n f0 := h.fr f (fun p j k => by unfold Ppt at k; omega)
theorem c_put (n8 : S_8 σ R) (h : COD σ R cs) (hlt : cs.length < 400) {k f : Nat} (hk : k < 16) (hf : f ≤ 999999) (hQ : ∀ τ, Fr (Ppt R) σ τ → COD τ R (cs ++ [(k, f)]) → Q (.inl none) τ) : WP gT d B 70 0 [.ref R, .int (J k), .int (J f)] [] σ Q := by
  refine g_70_0 n8 ?_
  rw [h.1, enc_J hk hf]
  refine ⟨fun c => ?_, fun _ => ⟨(by simp (disch := omega) only [J_add, J_mul, J_sub, J_cl, vp_J]; omega), ?_⟩⟩
  · exfalso; rw [J_le (by omega) (by omega)] at c; omega
  · rw [J_cl (by omega), J_add]
    refine hQ _ ((Fr.rf.setI (Or.inl rfl)).setI (Or.inr ⟨rfl, rfl⟩)) ⟨?_, ?_, fun j hj => ?_⟩
    · rw [sI_same, List.length_append]; rfl
    · rw [List.length_append]; show cs.length + 1 ≤ 400; omega
    · rw [sI_any (by omega)]
      rw [List.length_append] at hj
      have hj : j < cs.length + 1 := hj
      by_cases e : j = cs.length
      · subst e
        rw [sI_same, gd_r]; rfl
      · rw [sI_any (by omega), gd_l (by omega)]; exact h.2.2 j (by omega)
theorem c_put_b (n8 : S_8 σ R) (h : CZ σ R) {x1 x2 : Int32} (hQ : ∀ τ, Fr (Ppt R) σ τ → CZ τ R → Q (.inl none) τ) : WP gT d B 70 0 [.ref R, .int x1, .int x2] [] σ Q := by
  obtain ⟨m, h1, h2⟩ := h
  refine g_70_0 n8 ?_
  rw [h2]
  refine ⟨fun c => hQ σ Fr.rf ⟨m, h1, h2⟩, fun c => ?_⟩
  rw [J_le (by omega) (by omega)] at c
  refine ⟨(by simp (disch := omega) only [J_add, J_mul, J_sub, J_cl, vp_J]; omega), ?_⟩
  rw [J_add]
  exact hQ _ ((Fr.rf.setI (Or.inl rfl)).setI (Or.inr ⟨rfl, rfl⟩)) ⟨m + 1, by omega, sI_same⟩
/-- what is left behind a piece of a rule -/
def CRs (τ : Sto) (X R : Nat) (tx : Mem) (n : Nat) (cs : List (Nat × Nat)) (r : Rs CVl) : Prop := match r with
  | .inl f => CTb τ X tx n f ∧ CZ τ R
  | .inr (a, q) => CTg τ X tx n q ∧ COD τ R (cs ++ a.1)
def PRT (τ : Sto) (X R : Nat) (tx : Mem) (n : Nat) (cs : List (Nat × Nat)) (r : Rs (Nat × Nat)) : Prop := match r with
  | .inl f => CTb τ X tx n f ∧ CZ τ R
  | .inr (b, q) => CTg τ X tx n q ∧ COD τ R (cs ++ [b])
def T69t (d : Nat) (B : Nat × Nat) (R X : Nat) (i : Int32) (Q : Out → Sto → Prop) (τ : Sto) : Prop := (S_9 τ X ∧ (S_8 τ R ∧ ((i ≤ (J 0) → WP gT (d + 5) (0, 0) 81 0 [.ref X, .int (J 43)] [] τ (oI (fun v17 τ18 => WP gT (d + 6) B 69 4 [.ref R, .ref X, .int v17, .int (i + (J 1))] [] τ18 Q) (fun _ _ => False))) ∧ (¬ (i ≤ (J 0)) → WP gT (d + 5) (0, 0) 70 0 [.ref R, .int (J 9), .int (J 0)] [] τ (oV (fun τ20 => (S_9 τ20 X ∧ WP gT (d + 5) (0, 0) 81 0 [.ref X, .int (J 43)] [] τ20 (oI (fun v21 τ22 => WP gT (d + 6) B 69 4 [.ref R, .ref X, .int v21, .int (i + (J 1))] [] τ22 Q) (fun _ _ => False)))) (fun _ _ => False))))))
def T69b (d : Nat) (B : Nat × Nat) (R X : Nat) (i : Int32) (Q : Out → Sto → Prop) (σ : Sto) : Prop := WP gT (d + 5) (0, 0) 80 0 [.ref X, .ref 30] [] σ (oI (fun v1 τ2 => (S_9 τ2 X ∧ (S_8 τ2 R ∧ ((v1 = (J 0) → WP gT (d + 5) (0, 0) 80 0 [.ref X, .ref 32] [] τ2 (oI (fun v3 τ4 => (S_9 τ4 X ∧ (S_8 τ4 R ∧ ((v3 = (J 0) → WP gT (d + 5) (0, 0) 80 0 [.ref X, .ref 34] [] τ4 (oI (fun v5 τ6 => (S_9 τ6 X ∧ (S_8 τ6 R ∧ ((v5 = (J 0) → WP gT (d + 5) (0, 0) 80 0 [.ref X, .ref 36] [] τ6 (oI (fun v7 τ8 => (S_9 τ8 X ∧ (S_8 τ8 R ∧ ((v7 = (J 0) → WP gT (d + 5) (0, 0) 80 0 [.ref X, .ref 38] [] τ8 (oI (fun v9 τ10 => (S_9 τ10 X ∧ ((v9 = (J 0) → WP gT (d + 5) (0, 0) 80 0 [.ref X, .ref 40] [] τ10 (oI (fun v11 τ12 => (S_9 τ12 X ∧ ((v11 = (J 0) → WP gT (d + 5) (0, 0) 82 0 [.ref X, .int (J 0), .int (J 999999), .retAddr 0] [] τ12 (oI (fun v13 τ14 => (S_8 τ14 R ∧ WP gT (d + 5) (0, 0) 70 0 [.ref R, .int (J 0), .int v13] [] τ14 (oV (fun τ16 => (S_9 τ16 X ∧ (S_8 τ16 R ∧ ((i ≤ (J 0) → WP gT (d + 5) (0, 0) 81 0 [.ref X, .int (J 43)] [] τ16 (oI (fun v17 τ18 => WP gT (d + 6) B 69 4 [.ref R, .ref X, .int v17, .int (i + (J 1))] [] τ18 Q) (fun _ _ => False))) ∧ (¬ (i ≤ (J 0)) → WP gT (d + 5) (0, 0) 70 0 [.ref R, .int (J 9), .int (J 0)] [] τ16 (oV (fun τ20 => (S_9 τ20 X ∧ WP gT (d + 5) (0, 0) 81 0 [.ref X, .int (J 43)] [] τ20 (oI (fun v21 τ22 => WP gT (d + 6) B 69 4 [.ref R, .ref X, .int v21, .int (i + (J 1))] [] τ22 Q) (fun _ _ => False)))) (fun _ _ => False))))))) (fun _ _ => False)))) (fun _ _ => False))) ∧ (¬ (v11 = (J 0)) → WP gT (d + 5) (0, 0) 82 0 [.ref X, .int (J 0), .int (J 3), .retAddr 0] [] τ12 (oI (fun v23 τ24 => (S_8 τ24 R ∧ WP gT (d + 5) (0, 0) 70 0 [.ref R, .int (J 6), .int v23] [] τ24 (oV (fun τ26 => (S_9 τ26 X ∧ (S_8 τ26 R ∧ ((i ≤ (J 0) → WP gT (d + 5) (0, 0) 81 0 [.ref X, .int (J 43)] [] τ26 (oI (fun v27 τ28 => WP gT (d + 6) B 69 4 [.ref R, .ref X, .int v27, .int (i + (J 1))] [] τ28 Q) (fun _ _ => False))) ∧ (¬ (i ≤ (J 0)) → WP gT (d + 5) (0, 0) 70 0 [.ref R, .int (J 9), .int (J 0)] [] τ26 (oV (fun τ30 => (S_9 τ30 X ∧ WP gT (d + 5) (0, 0) 81 0 [.ref X, .int (J 43)] [] τ30 (oI (fun v31 τ32 => WP gT (d + 6) B 69 4 [.ref R, .ref X, .int v31, .int (i + (J 1))] [] τ32 Q) (fun _ _ => False)))) (fun _ _ => False))))))) (fun _ _ => False)))) (fun _ _ => False)))))) (fun _ _ => False))) ∧ (¬ (v9 = (J 0)) → WP gT (d + 5) (0, 0) 82 0 [.ref X, .int (J 0), .int (J 7), .retAddr 0] [] τ10 (oI (fun v33 τ34 => (S_8 τ34 R ∧ WP gT (d + 5) (0, 0) 70 0 [.ref R, .int (J 5), .int v33] [] τ34 (oV (fun τ36 => (S_9 τ36 X ∧ (S_8 τ36 R ∧ ((i ≤ (J 0) → WP gT (d + 5) (0, 0) 81 0 [.ref X, .int (J 43)] [] τ36 (oI (fun v37 τ38 => WP gT (d + 6) B 69 4 [.ref R, .ref X, .int v37, .int (i + (J 1))] [] τ38 Q) (fun _ _ => False))) ∧ (¬ (i ≤ (J 0)) → WP gT (d + 5) (0, 0) 70 0 [.ref R, .int (J 9), .int (J 0)] [] τ36 (oV (fun τ40 => (S_9 τ40 X ∧ WP gT (d + 5) (0, 0) 81 0 [.ref X, .int (J 43)] [] τ40 (oI (fun v41 τ42 => WP gT (d + 6) B 69 4 [.ref R, .ref X, .int v41, .int (i + (J 1))] [] τ42 Q) (fun _ _ => False)))) (fun _ _ => False))))))) (fun _ _ => False)))) (fun _ _ => False)))))) (fun _ _ => False))) ∧ (¬ (v7 = (J 0)) → WP gT (d + 5) (0, 0) 70 0 [.ref R, .int (J 4), .int (J 0)] [] τ8 (oV (fun τ44 => (S_9 τ44 X ∧ (S_8 τ44 R ∧ ((i ≤ (J 0) → WP gT (d + 5) (0, 0) 81 0 [.ref X, .int (J 43)] [] τ44 (oI (fun v45 τ46 => WP gT (d + 6) B 69 4 [.ref R, .ref X, .int v45, .int (i + (J 1))] [] τ46 Q) (fun _ _ => False))) ∧ (¬ (i ≤ (J 0)) → WP gT (d + 5) (0, 0) 70 0 [.ref R, .int (J 9), .int (J 0)] [] τ44 (oV (fun τ48 => (S_9 τ48 X ∧ WP gT (d + 5) (0, 0) 81 0 [.ref X, .int (J 43)] [] τ48 (oI (fun v49 τ50 => WP gT (d + 6) B 69 4 [.ref R, .ref X, .int v49, .int (i + (J 1))] [] τ50 Q) (fun _ _ => False)))) (fun _ _ => False))))))) (fun _ _ => False))))))) (fun _ _ => False))) ∧ (¬ (v5 = (J 0)) → WP gT (d + 5) (0, 0) 70 0 [.ref R, .int (J 3), .int (J 0)] [] τ6 (oV (fun τ52 => (S_9 τ52 X ∧ (S_8 τ52 R ∧ ((i ≤ (J 0) → WP gT (d + 5) (0, 0) 81 0 [.ref X, .int (J 43)] [] τ52 (oI (fun v53 τ54 => WP gT (d + 6) B 69 4 [.ref R, .ref X, .int v53, .int (i + (J 1))] [] τ54 Q) (fun _ _ => False))) ∧ (¬ (i ≤ (J 0)) → WP gT (d + 5) (0, 0) 70 0 [.ref R, .int (J 9), .int (J 0)] [] τ52 (oV (fun τ56 => (S_9 τ56 X ∧ WP gT (d + 5) (0, 0) 81 0 [.ref X, .int (J 43)] [] τ56 (oI (fun v57 τ58 => WP gT (d + 6) B 69 4 [.ref R, .ref X, .int v57, .int (i + (J 1))] [] τ58 Q) (fun _ _ => False)))) (fun _ _ => False))))))) (fun _ _ => False))))))) (fun _ _ => False))) ∧ (¬ (v3 = (J 0)) → WP gT (d + 5) (0, 0) 70 0 [.ref R, .int (J 2), .int (J 0)] [] τ4 (oV (fun τ60 => (S_9 τ60 X ∧ (S_8 τ60 R ∧ ((i ≤ (J 0) → WP gT (d + 5) (0, 0) 81 0 [.ref X, .int (J 43)] [] τ60 (oI (fun v61 τ62 => WP gT (d + 6) B 69 4 [.ref R, .ref X, .int v61, .int (i + (J 1))] [] τ62 Q) (fun _ _ => False))) ∧ (¬ (i ≤ (J 0)) → WP gT (d + 5) (0, 0) 70 0 [.ref R, .int (J 9), .int (J 0)] [] τ60 (oV (fun τ64 => (S_9 τ64 X ∧ WP gT (d + 5) (0, 0) 81 0 [.ref X, .int (J 43)] [] τ64 (oI (fun v65 τ66 => WP gT (d + 6) B 69 4 [.ref R, .ref X, .int v65, .int (i + (J 1))] [] τ66 Q) (fun _ _ => False)))) (fun _ _ => False))))))) (fun _ _ => False))))))) (fun _ _ => False))) ∧ (¬ (v1 = (J 0)) → WP gT (d + 5) (0, 0) 70 0 [.ref R, .int (J 1), .int (J 0)] [] τ2 (oV (fun τ68 => (S_9 τ68 X ∧ (S_8 τ68 R ∧ ((i ≤ (J 0) → WP gT (d + 5) (0, 0) 81 0 [.ref X, .int (J 43)] [] τ68 (oI (fun v69 τ70 => WP gT (d + 6) B 69 4 [.ref R, .ref X, .int v69, .int (i + (J 1))] [] τ70 Q) (fun _ _ => False))) ∧ (¬ (i ≤ (J 0)) → WP gT (d + 5) (0, 0) 70 0 [.ref R, .int (J 9), .int (J 0)] [] τ68 (oV (fun τ72 => (S_9 τ72 X ∧ WP gT (d + 5) (0, 0) 81 0 [.ref X, .int (J 43)] [] τ72 (oI (fun v73 τ74 => WP gT (d + 6) B 69 4 [.ref R, .ref X, .int v73, .int (i + (J 1))] [] τ74 Q) (fun _ _ => False)))) (fun _ _ => False))))))) (fun _ _ => False))))))) (fun _ _ => False))
theorem c_partK {i : Int32} (h : CTg σ X tx n p) (n8 : S_8 σ R) (hd : X + 1 < R) (hw : WRD σ) (hc : COD σ R cs) (hl : cs.length ≤ p) (K : ∀ τ, Fr (Prr X R) σ τ → PRT τ X R tx n cs (rPart tx n p) → T69t d B R X i Q τ) : T69b d B R X i Q σ := by
  have hle := h.le
  have sm : ∀ {w : List Nat} {k : Nat} {τ : Sto}, isW tx n p w = true → 0 < w.length → k < 16 → rPart tx n p = .inr ((k, 0), aftW tx n p) → Fr (PtX X) σ τ → CTg τ X tx n (aftW tx n p) → WP gT (d + 5) (0, 0) 70 0 [.ref R, .int (J k), .int (J 0)] [] τ (oV (fun τ => T69t d B R X i Q τ) (fun _ _ => False)) := fun e hw hk er f k => by
    have hlen := (isW_aft hle.1 e hw).1
    have hb := (aftW_b (tx := tx) hle.1).2
    exact c_put (f.sh n8) (hc.t f hd) (by omega) hk (by omega) (fun τ2 f2 c2 => K τ2 ((f.mono PtX_rr).tr (f2.mono Ppt_rr)) (by rw [er]; exact ⟨k.pt_ f2 hd, c2⟩))
  have nu : ∀ {k hi1 q : Nat} {x2 : Int32} {τ : Sto}, k < 16 → hi1 ≤ 1000000 → x2 = J hi1 - J 1 → cs.length ≤ q → rPart tx n p = bnd (tN tx n 0 hi1 q) (fun a p => .inr ((k, a), p)) → Fr (PtX X) σ τ → CTg τ X tx n q → WP gT (d + 5) (0, 0) 82 0 [.ref X, .int (J 0), .int x2, .retAddr 0] [] τ (oI (fun v τ2 => (S_8 τ2 R ∧ WP gT (d + 5) (0, 0) 70 0 [.ref R, .int (J k), .int v] [] τ2 (oV (fun τ => T69t d B R X i Q τ) (fun _ _ => False)))) (fun _ _ => False)) := fun {k hi1 q x2 τ} hk hhi hx hq er f kg => by
    refine c_tn kg (by omega) hhi hx (fun v p' t τ2 f2 k2 => ⟨(f.tr f2).sh n8, ?_⟩) (fun t τ2 f2 k2 => ⟨(f.tr f2).sh n8, ?_⟩)
    · have b := tN_b kg.le.1 t
      exact c_put ((f.tr f2).sh n8) (hc.t (f.tr f2) hd) (by omega) hk (by omega) (fun τ3 f3 c3 => K τ3 (((f.tr f2).mono PtX_rr).tr (f3.mono Ppt_rr)) (by rw [er, bnd_r t]; exact ⟨k2.pt_ f3 hd, c3⟩))
    · exact c_put_b ((f.tr f2).sh n8) (hc.t (f.tr f2) hd).z (fun τ3 f3 c3 => K τ3 (((f.tr f2).mono PtX_rr).tr (f3.mono Ppt_rr)) (by rw [er, bnd_l t]; exact ⟨k2.pt_ f3 hd, c3⟩))
  refine c_tw h (hw 30 w_level (by decide)) (fun e τ f k => ⟨k.1, f.sh n8, fun c => absurd c (by decide), fun _ => sm e (by decide) (by decide) (by unfold rPart; rw [if_pos e]) f k⟩) (fun e1 => ⟨h.1, n8, fun _ => ?_, fun c => absurd rfl c⟩)
  refine c_tw h (hw 32 w_goal (by decide)) (fun e τ f k => ⟨k.1, f.sh n8, fun c => absurd c (by decide), fun _ => sm e (by decide) (by decide) (by unfold rPart; rw [if_neg (by rw [e1]; decide), if_pos e]) f k⟩) (fun e2 => ⟨h.1, n8, fun _ => ?_, fun c => absurd rfl c⟩)
  refine c_tw h (hw 34 w_quarter (by decide)) (fun e τ f k => ⟨k.1, f.sh n8, fun c => absurd c (by decide), fun _ => sm e (by decide) (by decide) (by unfold rPart; rw [if_neg (by rw [e1]; decide), if_neg (by rw [e2]; decide), if_pos e]) f k⟩) (fun e3 => ⟨h.1, n8, fun _ => ?_, fun c => absurd rfl c⟩)
  refine c_tw h (hw 36 w_rain (by decide)) (fun e τ f k => ⟨k.1, f.sh n8, fun c => absurd c (by decide), fun _ => sm e (by decide) (by decide) (by unfold rPart; rw [if_neg (by rw [e1]; decide), if_neg (by rw [e2]; decide), if_neg (by rw [e3]; decide), if_pos e]) f k⟩) (fun e4 => ⟨h.1, n8, fun _ => ?_, fun c => absurd rfl c⟩)
  refine c_tw h (hw 38 w_depth (by decide)) (fun e τ f k => ⟨k.1, fun c => absurd c (by decide), fun _ => nu (hi1 := 8) (by decide) (by omega) (by decide) (Nat.le_trans hl (Nat.le_of_lt (isW_aft hle.1 e (by decide)).1)) (by unfold rPart; rw [if_neg (by rw [e1]; decide), if_neg (by rw [e2]; decide), if_neg (by rw [e3]; decide), if_neg (by rw [e4]; decide), if_pos e]) f k⟩) (fun e5 => ⟨h.1, fun _ => ?_, fun c => absurd rfl c⟩)
  refine c_tw h (hw 40 w_gate (by decide)) (fun e τ f k => ⟨k.1, fun c => absurd c (by decide), fun _ => nu (hi1 := 4) (by decide) (by omega) (by decide) (Nat.le_trans hl (Nat.le_of_lt (isW_aft hle.1 e (by decide)).1)) (by unfold rPart; rw [if_neg (by rw [e1]; decide), if_neg (by rw [e2]; decide), if_neg (by rw [e3]; decide), if_neg (by rw [e4]; decide), if_neg (by rw [e5]; decide), if_pos e]) f k⟩) (fun e6 => ⟨h.1, fun _ => ?_, fun c => absurd rfl c⟩)
  exact nu (k := 0) (hi1 := 1000000) (by decide) (by omega) (by decide) hl (by unfold rPart; rw [if_neg (by rw [e1]; decide), if_neg (by rw [e2]; decide), if_neg (by rw [e3]; decide), if_neg (by rw [e4]; decide), if_neg (by rw [e5]; decide), if_neg (by rw [e6]; decide)]) Fr.rf h
theorem c_sum_e {i x2 : Int32} (nX : S_9 τ X) (hx : x2 = J 0) (h : Q (.inl none) τ) : WP gT (d + 6) B 69 4 [.ref R, .ref X, .int x2, .int i] [] τ Q := by
  refine g_69_4 nX ⟨fun _ => h, fun _ => ⟨fun _ => h, fun c => absurd hx c⟩⟩
theorem c_sumL (n8 : S_8 σ R) (hd : X + 1 < R) (hX : 96 ≤ X) (hw : WRD σ) {R0 : Rs CVl} (hQ : ∀ τ, Fr (Prr X R) σ τ → CRs τ X R tx n cs R0 → Q (.inl none) τ) : ∀ f i p (a : CVl) τ, n < p + f → 2 * i ≤ p → 1 ≤ i → Fr (Prr X R) σ τ → CTg τ X tx n p → COD τ R (cs ++ a.1) → (cs ++ a.1).length + 1 ≤ p → R0 = bnd (rPart tx n p) (fun b p => rSumL tx n f (a.1 ++ [b, (9, 0)], fun e => a.2 e + e b.1 b.2) p) → WP gT (d + 6) B 69 4 [.ref R, .ref X, .int (J 1), .int (J i)] [] τ Q := by
  intro f
  induction f with
  | zero => intro i p a τ hf hi h1 F h hc hl hR; have := h.le; omega
  | succ f ih =>
    intro i p a τ hf hi h1 F h hc hl hR
    have hle := h.le
    refine g_69_4 h.1 ⟨fun c => ?_, fun _ => ⟨fun c => absurd c (by decide), fun _ => ?_⟩⟩
    · exfalso; rw [J_le (by omega) (by omega)] at c; omega
    refine c_partK (i := J i) (B := B) (Q := Q) h (F.sh n8) hd (hw.fr F (fun p j k => by unfold Prr at k; omega)) hc (by omega) (fun τ2 f2 L => ?_)
    have F2 := F.tr f2
    cases e : rPart tx n p with
    | inl f0 =>
      rw [e] at L
      rw [bnd_l e] at hR
      refine ⟨L.1.1, F2.sh n8, fun c => ?_, fun _ => c_put_b (F2.sh n8) L.2 (fun τ3 f3 c3 => ⟨f3.sh L.1.1, ?_⟩)⟩
      · exfalso; rw [J_le (by omega) (by omega)] at c; omega
      · have b3 := L.1.pt_ f3 hd
        exact c_ts_b b3 (c_sum_e b3.1 rfl (hQ τ3 (F2.tr (f3.mono Ppt_rr)) (by rw [hR]; exact ⟨b3, c3⟩)))
    | inr b =>
      obtain ⟨b, q⟩ := b
      rw [e] at L
      rw [bnd_r e] at hR
      have b1 := rPart_b hle.1 e
      have e2 : (cs ++ a.1 ++ [b] ++ [(9, 0)]) = cs ++ (a.1 ++ [b, (9, 0)]) := by simp
      have l2 : (cs ++ a.1 ++ [b]).length = (cs ++ a.1).length + 1 := by rw [List.length_append (as := cs ++ a.1)]; rfl
      refine ⟨L.1.1, F2.sh n8, fun c => ?_, fun _ => c_put (F2.sh n8) L.2 (by omega) (by omega) (by omega) (fun τ3 f3 c3 => ⟨f3.sh L.1.1, ?_⟩)⟩
      · exfalso; rw [J_le (by omega) (by omega)] at c; omega
      have F3 := F2.tr (f3.mono Ppt_rr)
      have g3 := L.1.pt_ f3 hd
      rw [e2] at c3
      have l3 : (cs ++ (a.1 ++ [b, (9, 0)])).length = (cs ++ a.1).length + 2 := by rw [← List.append_assoc, List.length_append (as := cs ++ a.1)]; rfl
      have hS : rSumL tx n (f + 1) (a.1 ++ [b, (9, 0)], fun e => a.2 e + e b.1 b.2) q = if isS tx n q 43 = true then bnd (rPart tx n (aftS tx n q)) (fun b2 p => rSumL tx n f ((a.1 ++ [b, (9, 0)]) ++ [b2, (9, 0)], fun e => (a.2 e + e b.1 b.2) + e b2.1 b2.2) p) else .inr ((a.1 ++ [b, (9, 0)], fun e => a.2 e + e b.1 b.2), q) := rfl
      rw [hS] at hR
      refine c_ts g3 (c := 43) (by omega) (fun ey hlt τ4 f4 k4 => ?_) (fun en => ?_)
      · have bS := aftS_b (tx := tx) hlt
        rw [if_pos ey] at hR
        dsimp only [oI]
        rw [J_add]
        exact ih (i + 1) _ (a.1 ++ [b, (9, 0)], fun e => a.2 e + e b.1 b.2) τ4 (by omega) (by omega) (by omega) (F3.tr (f4.mono PtX_rr)) k4 (c3.t f4 hd) (by dsimp only; omega) hR
      · rw [if_neg (by rw [en]; decide)] at hR
        exact c_sum_e g3.1 rfl (hQ τ3 F3 (by rw [hR]; exact ⟨g3, c3⟩))
theorem c_tellSum (h : CTg σ X tx n p) (n8 : S_8 σ R) (hd : X + 1 < R) (hX : 96 ≤ X) (hw : WRD σ) (hc : COD σ R cs) (hl : cs.length ≤ p) (hQ : ∀ τ, Fr (Prr X R) σ τ → CRs τ X R tx n cs (rSum tx n p) → Q (.inl none) τ) : WP gT (d + 6) B 69 0 [.ref R, .ref X, .retAddr 0, .retAddr 0] [] σ Q := by
  have hle := h.le
  refine g_69_0 (g_69_4 h.1 ⟨fun c => absurd c (by decide), fun _ => ⟨fun c => absurd c (by decide), fun _ => ?_⟩⟩)
  refine c_partK (i := J 0) (B := B) (Q := Q) h n8 hd hw hc hl (fun τ2 f2 L => ?_)
  cases e : rPart tx n p with
  | inl f0 =>
    rw [e] at L
    exact ⟨L.1.1, f2.sh n8, fun _ => c_ts_b L.1 (c_sum_e L.1.1 rfl (hQ τ2 f2 (by unfold rSum; rw [bnd_l e]; exact L))), fun c => absurd (by decide) c⟩
  | inr b =>
    obtain ⟨b, q⟩ := b
    rw [e] at L
    have b1 := rPart_b hle.1 e
    have hS : rSum tx n p = if isS tx n q 43 = true then bnd (rPart tx n (aftS tx n q)) (fun b2 p => rSumL tx n 400 ([b] ++ [b2, (9, 0)], fun e => e b.1 b.2 + e b2.1 b2.2) p) else .inr (([b], fun e => e b.1 b.2), q) := by unfold rSum; rw [bnd_r e]; rfl
    have l3 : (cs ++ [b]).length = cs.length + 1 := by rw [List.length_append]; rfl
    refine ⟨L.1.1, f2.sh n8, fun _ => ?_, fun c => absurd (by decide) c⟩
    refine c_ts L.1 (c := 43) (by omega) (fun ey hlt τ4 f4 k4 => ?_) (fun en => ?_)
    · have bS := aftS_b (tx := tx) hlt
      rw [if_pos ey] at hS
      exact c_sumL n8 hd hX hw (R0 := rSum tx n p) hQ 400 1 _ ([b], fun e => e b.1 b.2) τ4 (by omega) (by omega) (by omega) (f2.tr (f4.mono PtX_rr)) k4 (L.2.t f4 hd) (by dsimp only; omega) hS
    · rw [if_neg (by rw [en]; decide)] at hS
      exact c_sum_e L.1.1 rfl (hQ τ2 f2 (by rw [hS]; exact L))
theorem CTb.sg (h : CTb σ X tx n f0) : (sI σ X 3 = J 3 → vp_in (sI σ X 4) 400 ∧ True) := by
  have hle := h.le
  obtain ⟨h1, h2, q, h3⟩ := h
  intro e
  refine ⟨?_, trivial⟩
  rw [h3.2.2.1]
  have : q < n := by
    rcases h3.2.2.2.2 with ⟨a, b⟩ | ⟨a, a2, b, _⟩ | ⟨a, a2, b, _⟩ | ⟨a, a2, _, b, _⟩
    · rw [b] at e; exact absurd e (by decide)
    all_goals exact a
  exact (by simp (disch := omega) only [J_add, J_mul, J_sub, J_cl, vp_J]; omega)
/-- a sum, where the text is wrong already -/
theorem c_tellSum_b (h : CTb σ X tx n f0) (n8 : S_8 σ R) (hd : X + 1 < R) (hz : CZ σ R) (hQ : ∀ τ, Fr (Prr X R) σ τ → CTb τ X tx n f0 → CZ τ R → Q (.inl none) τ) : WP gT (d + 6) B 69 0 [.ref R, .ref X, .retAddr 0, .retAddr 0] [] σ Q := by
  refine g_69_0 (g_69_4 h.1 ⟨fun c => absurd c (by decide), fun _ => ⟨fun c => absurd c (by decide), fun _ => ?_⟩⟩)
  refine c_tw_b h ⟨h.1, n8, fun _ => ?_, fun c => absurd rfl c⟩
  refine c_tw_b h ⟨h.1, n8, fun _ => ?_, fun c => absurd rfl c⟩
  refine c_tw_b h ⟨h.1, n8, fun _ => ?_, fun c => absurd rfl c⟩
  refine c_tw_b h ⟨h.1, n8, fun _ => ?_, fun c => absurd rfl c⟩
  refine c_tw_b h ⟨h.1, fun _ => ?_, fun c => absurd rfl c⟩
  refine c_tw_b h ⟨h.1, fun _ => ?_, fun c => absurd rfl c⟩
  refine c_tn_b h ⟨n8, c_put_b n8 hz (fun τ f z => ?_)⟩
  have b := h.pt_ f hd
  exact ⟨b.1, f.sh n8, fun _ => c_ts_b b (c_sum_e b.1 rfl (hQ τ (f.mono Ppt_rr) b z)), fun c => absurd (by decide) c⟩
def T67c (d R X : Nat) (Q : Out → Sto → Prop) (σ : Sto) : Prop := WP gT (d + 6) (0, 0) 69 0 [.ref R, .ref X, .retAddr 0, .retAddr 0] [] σ (oV (fun τ8 => (S_9 τ8 X ∧ (((sI τ8 X 3) = (J 3) → (vp_in (sI τ8 X 4) 400 ∧ True)) ∧ WP gT (d + 6) (0, 0) 81 0 [.ref X, .int (J 60)] [] τ8 (oI (fun v11 τ12 => (S_9 τ12 X ∧ (S_8 τ12 R ∧ ((v11 = (J 0) → WP gT (d + 6) (0, 0) 81 0 [.ref X, .int (J 62)] [] τ12 (oI (fun v13 τ14 => (S_9 τ14 X ∧ (S_8 τ14 R ∧ ((v13 = (J 0) → WP gT (d + 6) (0, 0) 75 0 [.ref X] [] τ14 (oV (fun τ16 => (S_8 τ16 R ∧ WP gT (d + 6) (0, 0) 69 0 [.ref R, .ref X, .retAddr 0, .retAddr 0] [] τ16 (oV (fun τ18 => (S_8 τ18 R ∧ WP gT (d + 6) (0, 0) 70 0 [.ref R, .int (if (f_78 τ8 X (J 60)) = (J 0) then (J 11) else (J 10)), .int (J 0)] [] τ18 (oV (fun τ20 => Q (.inl none) τ20) (fun _ _ => False)))) (fun _ _ => False)))) (fun _ _ => False))) ∧ (¬ (v13 = (J 0)) → WP gT (d + 6) (0, 0) 69 0 [.ref R, .ref X, .retAddr 0, .retAddr 0] [] τ14 (oV (fun τ22 => (S_8 τ22 R ∧ WP gT (d + 6) (0, 0) 70 0 [.ref R, .int (if (f_78 τ8 X (J 60)) = (J 0) then (J 11) else (J 10)), .int (J 0)] [] τ22 (oV (fun τ24 => Q (.inl none) τ24) (fun _ _ => False)))) (fun _ _ => False))))))) (fun _ _ => False))) ∧ (¬ (v11 = (J 0)) → WP gT (d + 6) (0, 0) 69 0 [.ref R, .ref X, .retAddr 0, .retAddr 0] [] τ12 (oV (fun τ26 => (S_8 τ26 R ∧ WP gT (d + 6) (0, 0) 70 0 [.ref R, .int (if (f_78 τ8 X (J 60)) = (J 0) then (J 11) else (J 10)), .int (J 0)] [] τ26 (oV (fun τ28 => Q (.inl none) τ28) (fun _ _ => False)))) (fun _ _ => False))))))) (fun _ _ => False))))) (fun _ _ => False))
theorem c_tellCmp (h : CTg σ X tx n p) (n8 : S_8 σ R) (hd : X + 1 < R) (hX : 96 ≤ X) (hw : WRD σ) (hc : COD σ R cs) (hl : cs.length ≤ p) (hQ : ∀ τ, Fr (Prr X R) σ τ → CRs τ X R tx n cs (rCmp tx n p) → Q (.inl none) τ) : T67c d R X Q σ := by
  have hle := h.le
  have BAD : ∀ {τ : Sto} {f : Nat} {kv : Int32}, Fr (Prr X R) σ τ → CTb τ X tx n f → CZ τ R → rCmp tx n p = .inl f → WP gT (d + 6) (0, 0) 69 0 [.ref R, .ref X, .retAddr 0, .retAddr 0] [] τ (oV (fun τ10 => (S_8 τ10 R ∧ WP gT (d + 6) (0, 0) 70 0 [.ref R, .int kv, .int (J 0)] [] τ10 (oV (fun τ13 => Q (.inl none) τ13) (fun _ _ => False)))) (fun _ _ => False)) := by
    intro τ f kv F b z hr
    refine c_tellSum_b b (F.sh n8) hd z (fun τ3 f3 b3 z3 => ⟨(F.tr f3).sh n8, ?_⟩)
    exact c_put_b ((F.tr f3).sh n8) z3 (fun τ4 f4 c4 => hQ τ4 ((F.tr f3).tr (f4.mono Ppt_rr)) (by rw [hr]; exact ⟨b3.pt_ f4 hd, c4⟩))
  refine c_tellSum h n8 hd hX hw hc hl (fun τ2 f2 L => ?_)
  cases e : rSum tx n p with
  | inl f0 =>
    rw [e] at L
    refine ⟨L.1.1, L.1.sg, c_ts_b L.1 ⟨L.1.1, f2.sh n8, fun _ => c_ts_b L.1 ⟨L.1.1, f2.sh n8, fun _ => c_fail_b L.1 ⟨f2.sh n8, ?_⟩, fun c => absurd rfl c⟩, fun c => absurd rfl c⟩⟩
    exact BAD f2 L.1 L.2 (by unfold rCmp; rw [bnd_l e])
  | inr a =>
    obtain ⟨a, q⟩ := a
    rw [e] at L
    have a1 := (rSum_s hle.1 e).2
    have la : (cs ++ a.1).length ≤ q := by rw [List.length_append]; have := a1.1; omega
    have SEC : ∀ {k q1 : Nat} {kv : Int32} {τ : Sto} (hkv : kv = J k) (F : Fr (Prr X R) σ τ) (g : CTg τ X tx n q1) (c : COD τ R (cs ++ a.1)), k = 10 ∨ k = 11 → (cs ++ a.1).length + 1 ≤ q1 → (∀ b q2, rSum tx n q1 = .inr (b, q2) → ∃ v, rCmp tx n p = .inr ((a.1 ++ b.1 ++ [(k, 0)], v), q2)) → (∀ f, rSum tx n q1 = .inl f → rCmp tx n p = .inl f) → WP gT (d + 6) (0, 0) 69 0 [.ref R, .ref X, .retAddr 0, .retAddr 0] [] τ (oV (fun τ10 => (S_8 τ10 R ∧ WP gT (d + 6) (0, 0) 70 0 [.ref R, .int kv, .int (J 0)] [] τ10 (oV (fun τ13 => Q (.inl none) τ13) (fun _ _ => False)))) (fun _ _ => False)) := by
      intro k q1 kv τ hkv F g c hk hlq hy hn
      subst hkv
      refine c_tellSum g (F.sh n8) hd hX (hw.fr F (fun p j k => by unfold Prr at k; omega)) c (by omega) (fun τ3 f3 L3 => ⟨(F.tr f3).sh n8, ?_⟩)
      have F3 := F.tr f3
      cases e3 : rSum tx n q1 with
      | inl f0 =>
        rw [e3] at L3
        exact c_put_b (F3.sh n8) L3.2 (fun τ4 f4 c4 => hQ τ4 (F3.tr (f4.mono Ppt_rr)) (by rw [hn f0 e3]; exact ⟨L3.1.pt_ f4 hd, c4⟩))
      | inr b =>
        obtain ⟨b, q2⟩ := b
        rw [e3] at L3
        obtain ⟨v, hv⟩ := hy b q2 e3
        have b1 := (rSum_s g.le.1 e3).2
        have lb : (cs ++ a.1 ++ b.1).length + 1 ≤ q2 := by rw [List.length_append (as := cs ++ a.1)]; have := b1.1; omega
        have hq2 := b1.2.1
        have hn4 := hle.2
        exact c_put (F3.sh n8) L3.2 (by omega) (by omega) (by omega) (fun τ4 f4 c4 => hQ τ4 (F3.tr (f4.mono Ppt_rr)) (by
          rw [hv]
          refine ⟨L3.1.pt_ f4 hd, ?_⟩
          have e5 : cs ++ (a.1 ++ b.1 ++ [(k, 0)]) = cs ++ a.1 ++ b.1 ++ [(k, 0)] := by simp
          show COD τ4 R (cs ++ (a.1 ++ b.1 ++ [(k, 0)]))
          rw [e5]; exact c4))
    obtain ⟨s1, s2, s3⟩ := L.1.sgn (c := 60) (by omega)
    refine ⟨L.1.1, s1, c_ts L.1 (c := 60) (by omega) (fun ey hlt τ4 f4 k4 => ?_) (fun en => ?_)⟩
    · have bS := aftS_b (tx := tx) hlt
      have F4 := f2.tr (f4.mono PtX_rr)
      refine ⟨k4.1, F4.sh n8, fun c => absurd c (by decide), fun _ => ?_⟩
      exact SEC (by rw [s2, if_pos ey, if_neg (show ¬ J 1 = J 0 by decide)]) F4 k4 (L.2.t f4 hd) (Or.inl rfl) (by omega) (fun b q2 e3 => ⟨_, by unfold rCmp; rw [bnd_r e, if_pos ey, bnd_r e3]⟩) (fun f e3 => by unfold rCmp; rw [bnd_r e, if_pos ey, bnd_l e3])
    · refine ⟨L.1.1, f2.sh n8, fun _ => ?_, fun c => absurd rfl c⟩
      refine c_ts L.1 (c := 62) (by omega) (fun ey hlt τ4 f4 k4 => ?_) (fun en2 => ?_)
      · have bS := aftS_b (tx := tx) hlt
        have F4 := f2.tr (f4.mono PtX_rr)
        refine ⟨k4.1, F4.sh n8, fun c => absurd c (by decide), fun _ => ?_⟩
        have s5 : f_78 τ2 X (J 60) = J 0 := by rw [s2, if_neg (by rw [en]; decide)]
        exact SEC (by rw [s5, if_pos rfl]) F4 k4 (L.2.t f4 hd) (Or.inr rfl) (by omega) (fun b q2 e3 => ⟨_, by unfold rCmp; rw [bnd_r e, if_neg (by rw [en]; decide), if_pos ey, bnd_r e3]⟩) (fun f e3 => by unfold rCmp; rw [bnd_r e, if_neg (by rw [en]; decide), if_pos ey, bnd_l e3])
      · refine ⟨L.1.1, f2.sh n8, fun _ => c_fail L.1 (fun τ3 f3 k3 => ⟨(f2.tr (f3.mono PtX_rr)).sh n8, ?_⟩), fun c => absurd rfl c⟩
        refine BAD (f2.tr (f3.mono PtX_rr)) k3 (L.2.t f3 hd).z ?_
        unfold rCmp
        rw [bnd_r e, if_neg (by rw [en]; decide), if_neg (by rw [en2]; decide)]
