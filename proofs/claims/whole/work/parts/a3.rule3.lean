/-! ===== the class reads a rule: its lines ===== -/
variable {d : Nat} {B : Nat × Nat} {Q : Out → Sto → Prop} {P : Nat → Nat → Prop} {σ τ : Sto} {X R y0 : Nat} {tx : Mem} {n p q f0 : Nat} {cs : List (Nat × Nat)}
def T64b (d : Nat) (B : Nat × Nat) (R X : Nat) (x2 : Int32) (Q : Out → Sto → Prop) (σ : Sto) : Prop := WP gT (d + 6) (0, 0) 80 0 [.ref X, .ref 20] [] σ (oI (fun v7 τ8 => (S_9 τ8 X ∧ (S_8 τ8 R ∧ ((v7 = (J 0) → WP gT (d + 6) (0, 0) 80 0 [.ref X, .ref 22] [] τ8 (oI (fun v9 τ10 => (S_9 τ10 X ∧ (S_8 τ10 R ∧ ((v9 = (J 0) → WP gT (d + 6) (0, 0) 75 0 [.ref X] [] τ10 (oV (fun τ12 => (S_8 τ12 R ∧ (S_9 τ12 X ∧ WP gT (d + 6) (0, 0) 82 0 [.ref X, .int (J 0), .int (J 3), .retAddr 0] [] τ12 (oI (fun v13 τ14 => (S_8 τ14 R ∧ (S_9 τ14 X ∧ (vp_in x2 12 ∧ ((v7 = (J 0) → (vp_in x2 12 ∧ WP gT (d + 6) (0, 0) 80 0 [.ref X, .ref 24] [] (setI (setI τ14 (R + 1) x2.toNatClampNeg v13) (R + 2) x2.toNatClampNeg (J 0)) (oI (fun v17 τ18 => (S_8 τ18 R ∧ ((v17 = (J 0) → (vp_in x2 12 ∧ WP gT (d + 7) B 64 12 [.ref R, .ref X, .int (x2 + (J 1)), .int v7] [] (setI (setI τ18 (R + 3) x2.toNatClampNeg (sI τ18 R 4)) R 0 (x2 + (J 1))) Q)) ∧ (¬ (v17 = (J 0)) → WP gT (d + 6) (0, 0) 66 0 [.ref R, .ref X, .int (J 0), .retAddr 0, .retAddr 0, .retAddr 0] [] τ18 (oV (fun τ21 => (S_8 τ21 R ∧ (vp_in x2 12 ∧ WP gT (d + 7) B 64 12 [.ref R, .ref X, .int (x2 + (J 1)), .int v7] [] (setI (setI τ21 (R + 3) x2.toNatClampNeg (sI τ21 R 4)) R 0 (x2 + (J 1))) Q))) (fun _ _ => False)))))) (fun _ _ => False)))) ∧ (¬ (v7 = (J 0)) → WP gT (d + 6) (0, 0) 82 0 [.ref X, .int (J 1), .int (J 6), .retAddr 0] [] (setI τ14 (R + 1) x2.toNatClampNeg v13) (oI (fun v23 τ24 => (S_8 τ24 R ∧ (S_9 τ24 X ∧ (vp_in x2 12 ∧ WP gT (d + 6) (0, 0) 80 0 [.ref X, .ref 24] [] (setI τ24 (R + 2) x2.toNatClampNeg v23) (oI (fun v26 τ27 => (S_8 τ27 R ∧ ((v26 = (J 0) → (vp_in x2 12 ∧ WP gT (d + 7) B 64 12 [.ref R, .ref X, .int (x2 + (J 1)), .int v7] [] (setI (setI τ27 (R + 3) x2.toNatClampNeg (sI τ27 R 4)) R 0 (x2 + (J 1))) Q)) ∧ (¬ (v26 = (J 0)) → WP gT (d + 6) (0, 0) 66 0 [.ref R, .ref X, .int (J 0), .retAddr 0, .retAddr 0, .retAddr 0] [] τ27 (oV (fun τ30 => (S_8 τ30 R ∧ (vp_in x2 12 ∧ WP gT (d + 7) B 64 12 [.ref R, .ref X, .int (x2 + (J 1)), .int v7] [] (setI (setI τ30 (R + 3) x2.toNatClampNeg (sI τ30 R 4)) R 0 (x2 + (J 1))) Q))) (fun _ _ => False)))))) (fun _ _ => False)))))) (fun _ _ => False)))))))) (fun _ _ => False))))) (fun _ _ => False))) ∧ (¬ (v9 = (J 0)) → WP gT (d + 6) (0, 0) 82 0 [.ref X, .int (J 0), .int (J 3), .retAddr 0] [] τ10 (oI (fun v32 τ33 => (S_8 τ33 R ∧ (S_9 τ33 X ∧ (vp_in x2 12 ∧ ((v7 = (J 0) → (vp_in x2 12 ∧ WP gT (d + 6) (0, 0) 80 0 [.ref X, .ref 24] [] (setI (setI τ33 (R + 1) x2.toNatClampNeg v32) (R + 2) x2.toNatClampNeg (J 0)) (oI (fun v36 τ37 => (S_8 τ37 R ∧ ((v36 = (J 0) → (vp_in x2 12 ∧ WP gT (d + 7) B 64 12 [.ref R, .ref X, .int (x2 + (J 1)), .int v7] [] (setI (setI τ37 (R + 3) x2.toNatClampNeg (sI τ37 R 4)) R 0 (x2 + (J 1))) Q)) ∧ (¬ (v36 = (J 0)) → WP gT (d + 6) (0, 0) 66 0 [.ref R, .ref X, .int (J 0), .retAddr 0, .retAddr 0, .retAddr 0] [] τ37 (oV (fun τ40 => (S_8 τ40 R ∧ (vp_in x2 12 ∧ WP gT (d + 7) B 64 12 [.ref R, .ref X, .int (x2 + (J 1)), .int v7] [] (setI (setI τ40 (R + 3) x2.toNatClampNeg (sI τ40 R 4)) R 0 (x2 + (J 1))) Q))) (fun _ _ => False)))))) (fun _ _ => False)))) ∧ (¬ (v7 = (J 0)) → WP gT (d + 6) (0, 0) 82 0 [.ref X, .int (J 1), .int (J 6), .retAddr 0] [] (setI τ33 (R + 1) x2.toNatClampNeg v32) (oI (fun v42 τ43 => (S_8 τ43 R ∧ (S_9 τ43 X ∧ (vp_in x2 12 ∧ WP gT (d + 6) (0, 0) 80 0 [.ref X, .ref 24] [] (setI τ43 (R + 2) x2.toNatClampNeg v42) (oI (fun v45 τ46 => (S_8 τ46 R ∧ ((v45 = (J 0) → (vp_in x2 12 ∧ WP gT (d + 7) B 64 12 [.ref R, .ref X, .int (x2 + (J 1)), .int v7] [] (setI (setI τ46 (R + 3) x2.toNatClampNeg (sI τ46 R 4)) R 0 (x2 + (J 1))) Q)) ∧ (¬ (v45 = (J 0)) → WP gT (d + 6) (0, 0) 66 0 [.ref R, .ref X, .int (J 0), .retAddr 0, .retAddr 0, .retAddr 0] [] τ46 (oV (fun τ49 => (S_8 τ49 R ∧ (vp_in x2 12 ∧ WP gT (d + 7) B 64 12 [.ref R, .ref X, .int (x2 + (J 1)), .int v7] [] (setI (setI τ49 (R + 3) x2.toNatClampNeg (sI τ49 R 4)) R 0 (x2 + (J 1))) Q))) (fun _ _ => False)))))) (fun _ _ => False)))))) (fun _ _ => False)))))))) (fun _ _ => False))))))) (fun _ _ => False))) ∧ (¬ (v7 = (J 0)) → WP gT (d + 6) (0, 0) 82 0 [.ref X, .int (J 0), .int (J 3), .retAddr 0] [] τ8 (oI (fun v51 τ52 => (S_8 τ52 R ∧ (S_9 τ52 X ∧ (vp_in x2 12 ∧ ((v7 = (J 0) → (vp_in x2 12 ∧ WP gT (d + 6) (0, 0) 80 0 [.ref X, .ref 24] [] (setI (setI τ52 (R + 1) x2.toNatClampNeg v51) (R + 2) x2.toNatClampNeg (J 0)) (oI (fun v55 τ56 => (S_8 τ56 R ∧ ((v55 = (J 0) → (vp_in x2 12 ∧ WP gT (d + 7) B 64 12 [.ref R, .ref X, .int (x2 + (J 1)), .int v7] [] (setI (setI τ56 (R + 3) x2.toNatClampNeg (sI τ56 R 4)) R 0 (x2 + (J 1))) Q)) ∧ (¬ (v55 = (J 0)) → WP gT (d + 6) (0, 0) 66 0 [.ref R, .ref X, .int (J 0), .retAddr 0, .retAddr 0, .retAddr 0] [] τ56 (oV (fun τ59 => (S_8 τ59 R ∧ (vp_in x2 12 ∧ WP gT (d + 7) B 64 12 [.ref R, .ref X, .int (x2 + (J 1)), .int v7] [] (setI (setI τ59 (R + 3) x2.toNatClampNeg (sI τ59 R 4)) R 0 (x2 + (J 1))) Q))) (fun _ _ => False)))))) (fun _ _ => False)))) ∧ (¬ (v7 = (J 0)) → WP gT (d + 6) (0, 0) 82 0 [.ref X, .int (J 1), .int (J 6), .retAddr 0] [] (setI τ52 (R + 1) x2.toNatClampNeg v51) (oI (fun v61 τ62 => (S_8 τ62 R ∧ (S_9 τ62 X ∧ (vp_in x2 12 ∧ WP gT (d + 6) (0, 0) 80 0 [.ref X, .ref 24] [] (setI τ62 (R + 2) x2.toNatClampNeg v61) (oI (fun v64 τ65 => (S_8 τ65 R ∧ ((v64 = (J 0) → (vp_in x2 12 ∧ WP gT (d + 7) B 64 12 [.ref R, .ref X, .int (x2 + (J 1)), .int v7] [] (setI (setI τ65 (R + 3) x2.toNatClampNeg (sI τ65 R 4)) R 0 (x2 + (J 1))) Q)) ∧ (¬ (v64 = (J 0)) → WP gT (d + 6) (0, 0) 66 0 [.ref R, .ref X, .int (J 0), .retAddr 0, .retAddr 0, .retAddr 0] [] τ65 (oV (fun τ68 => (S_8 τ68 R ∧ (vp_in x2 12 ∧ WP gT (d + 7) B 64 12 [.ref R, .ref X, .int (x2 + (J 1)), .int v7] [] (setI (setI τ68 (R + 3) x2.toNatClampNeg (sI τ68 R 4)) R 0 (x2 + (J 1))) Q))) (fun _ _ => False)))))) (fun _ _ => False)))))) (fun _ _ => False)))))))) (fun _ _ => False))))))) (fun _ _ => False))
def T64g (d : Nat) (B : Nat × Nat) (R X : Nat) (x2 x7 : Int32) (Q : Out → Sto → Prop) (σ : Sto) : Prop := WP gT (d + 6) (0, 0) 82 0 [.ref X, .int (J 0), .int (J 3), .retAddr 0] [] σ (oI (fun v51 τ52 => (S_8 τ52 R ∧ (S_9 τ52 X ∧ (vp_in x2 12 ∧ ((x7 = (J 0) → (vp_in x2 12 ∧ WP gT (d + 6) (0, 0) 80 0 [.ref X, .ref 24] [] (setI (setI τ52 (R + 1) x2.toNatClampNeg v51) (R + 2) x2.toNatClampNeg (J 0)) (oI (fun v55 τ56 => (S_8 τ56 R ∧ ((v55 = (J 0) → (vp_in x2 12 ∧ WP gT (d + 7) B 64 12 [.ref R, .ref X, .int (x2 + (J 1)), .int x7] [] (setI (setI τ56 (R + 3) x2.toNatClampNeg (sI τ56 R 4)) R 0 (x2 + (J 1))) Q)) ∧ (¬ (v55 = (J 0)) → WP gT (d + 6) (0, 0) 66 0 [.ref R, .ref X, .int (J 0), .retAddr 0, .retAddr 0, .retAddr 0] [] τ56 (oV (fun τ59 => (S_8 τ59 R ∧ (vp_in x2 12 ∧ WP gT (d + 7) B 64 12 [.ref R, .ref X, .int (x2 + (J 1)), .int x7] [] (setI (setI τ59 (R + 3) x2.toNatClampNeg (sI τ59 R 4)) R 0 (x2 + (J 1))) Q))) (fun _ _ => False)))))) (fun _ _ => False)))) ∧ (¬ (x7 = (J 0)) → WP gT (d + 6) (0, 0) 82 0 [.ref X, .int (J 1), .int (J 6), .retAddr 0] [] (setI τ52 (R + 1) x2.toNatClampNeg v51) (oI (fun v61 τ62 => (S_8 τ62 R ∧ (S_9 τ62 X ∧ (vp_in x2 12 ∧ WP gT (d + 6) (0, 0) 80 0 [.ref X, .ref 24] [] (setI τ62 (R + 2) x2.toNatClampNeg v61) (oI (fun v64 τ65 => (S_8 τ65 R ∧ ((v64 = (J 0) → (vp_in x2 12 ∧ WP gT (d + 7) B 64 12 [.ref R, .ref X, .int (x2 + (J 1)), .int x7] [] (setI (setI τ65 (R + 3) x2.toNatClampNeg (sI τ65 R 4)) R 0 (x2 + (J 1))) Q)) ∧ (¬ (v64 = (J 0)) → WP gT (d + 6) (0, 0) 66 0 [.ref R, .ref X, .int (J 0), .retAddr 0, .retAddr 0, .retAddr 0] [] τ65 (oV (fun τ68 => (S_8 τ68 R ∧ (vp_in x2 12 ∧ WP gT (d + 7) B 64 12 [.ref R, .ref X, .int (x2 + (J 1)), .int x7] [] (setI (setI τ68 (R + 3) x2.toNatClampNeg (sI τ68 R 4)) R 0 (x2 + (J 1))) Q))) (fun _ _ => False)))))) (fun _ _ => False)))))) (fun _ _ => False)))))))) (fun _ _ => False))
def T64i (d : Nat) (B : Nat × Nat) (R X : Nat) (x2 x7 : Int32) (Q : Out → Sto → Prop) (σ : Sto) : Prop := WP gT (d + 6) (0, 0) 80 0 [.ref X, .ref 24] [] σ (oI (fun v64 τ65 => (S_8 τ65 R ∧ ((v64 = (J 0) → (vp_in x2 12 ∧ WP gT (d + 7) B 64 12 [.ref R, .ref X, .int (x2 + (J 1)), .int x7] [] (setI (setI τ65 (R + 3) x2.toNatClampNeg (sI τ65 R 4)) R 0 (x2 + (J 1))) Q)) ∧ (¬ (v64 = (J 0)) → WP gT (d + 6) (0, 0) 66 0 [.ref R, .ref X, .int (J 0), .retAddr 0, .retAddr 0, .retAddr 0] [] τ65 (oV (fun τ68 => (S_8 τ68 R ∧ (vp_in x2 12 ∧ WP gT (d + 7) B 64 12 [.ref R, .ref X, .int (x2 + (J 1)), .int x7] [] (setI (setI τ68 (R + 3) x2.toNatClampNeg (sI τ68 R 4)) R 0 (x2 + (J 1))) Q))) (fun _ _ => False)))))) (fun _ _ => False))
def Prl (X R : Nat) : Nat → Nat → Prop := fun p j => (p = X ∧ 2 ≤ j) ∨ (R ≤ p ∧ p ≤ R + 4)
theorem PtX_rl : ∀ p j, PtX X p j → Prl X R p j := fun p j h => Or.inl h
theorem Prr_rl : ∀ p j, Prr X R p j → Prl X R p j := fun p j h => by unfold Prr at h; unfold Prl; omega
theorem Prl.w (hX : 96 ≤ X) (hd : X + 1 < R) : ∀ p j, Prl X R p j → 96 ≤ p := fun p j k => by unfold Prl at k; omega
/-- the lines that are read, as the reader keeps them -/
def RLS (σ : Sto) (R : Nat) (l : List RLn) : Prop := COD σ R (codes l) ∧ sI σ R 0 = J l.length ∧ l.length ≤ 12 ∧ ∀ i, i < l.length → sI σ (R + 1) i = J (l.getD i dfl).1 ∧ sI σ (R + 2) i = J (l.getD i dfl).2.1 ∧ sI σ (R + 3) i = J (codes (l.take (i + 1))).length
theorem codes_app {l : List RLn} {x : RLn} : codes (l ++ [x]) = codes l ++ x.2.2.1 := by
  unfold codes
  rw [List.flatMap_append]
  simp
theorem rl_l {l : List RLn} {x : RLn} {i : Nat} (h : i < l.length) : (l ++ [x]).getD i dfl = l.getD i dfl := by
  rw [List.getD_eq_getElem?_getD, List.getD_eq_getElem?_getD, List.getElem?_append_left h]
theorem rl_r {l : List RLn} {x : RLn} : (l ++ [x]).getD l.length dfl = x := by
  rw [List.getD_eq_getElem?_getD, List.getElem?_append_right (Nat.le_refl _), Nat.sub_self]; rfl
theorem rl_t {l : List RLn} {x : RLn} {i : Nat} (h : i < l.length) : (l ++ [x]).take (i + 1) = l.take (i + 1) := by
  rw [List.take_append_of_le_length (by omega)]
/-- behind a whole line: what the reader writes -/
theorem RLS.next {l : List RLn} {x : RLn} {g s : Nat} {σ1 : Sto} (h : RLS σ R l) (hk : l.length < 12) (hx1 : x.1 = g) (hx2 : x.2.1 = s) (hc : COD τ R (codes l ++ x.2.2.1))
    (h1 : ∀ i, i < l.length → sI τ (R + 1) i = sI σ (R + 1) i ∧ sI τ (R + 2) i = sI σ (R + 2) i ∧ sI τ (R + 3) i = sI σ (R + 3) i) (hg : sI τ (R + 1) l.length = J g) (hs : sI τ (R + 2) l.length = J s)
    (e1 : σ1 = setI (setI τ (R + 3) l.length (sI τ R 4)) R 0 (J (l.length + 1))) : RLS σ1 R (l ++ [x]) := by
  have hc4 := hc.1
  subst e1
  have fr : Fr (fun p j => p = R + 3 ∨ (p = R ∧ j = 0)) τ (setI (setI τ (R + 3) l.length (sI τ R 4)) R 0 (J (l.length + 1))) := (Fr.rf.setI (Or.inl rfl)).setI (Or.inr ⟨rfl, rfl⟩)
  refine ⟨?_, ?_, ?_, fun i hi => ?_⟩
  · rw [codes_app]; exact hc.fr fr (fun p j k => by omega)
  · rw [sI_same, List.length_append]; rfl
  · rw [List.length_append]; show l.length + 1 ≤ 12; omega
  · rw [List.length_append] at hi
    have hi : i < l.length + 1 := hi
    by_cases e : i = l.length
    · subst e
      rw [rl_r, sI_any (by omega), sI_any (by omega), sI_any (by omega), sI_any (by omega), sI_any (by omega), sI_same, hg, hs, hx1, hx2, hc4]
      refine ⟨rfl, rfl, ?_⟩
      rw [List.take_of_length_le (by rw [List.length_append]; exact Nat.le_refl _), codes_app]
    · rw [rl_l (by omega), rl_t (by omega), sI_any (by omega), sI_any (by omega), sI_any (by omega), sI_any (by omega), sI_any (by omega), sI_any (by omega)]
      have a := h1 i (by omega)
      rw [a.1, a.2.1, a.2.2]; exact h.2.2.2 i (by omega)
theorem rLine_len {l l2 : List RLn} {q : Nat} (h : rLine tx n l p = .inr (l2, q)) : l2.length = l.length + 1 := by
  unfold rLine at h
  split at h
  · obtain ⟨g, q1, t1, h⟩ := bnd_i h
    obtain ⟨s, q2, t2, h⟩ := bnd_i h
    split at h
    · obtain ⟨a, q3, t3, h⟩ := bnd_i h
      cases h; rw [List.length_append]; rfl
    · cases h; rw [List.length_append]; rfl
  · cases h
def LNr (τ : Sto) (X R : Nat) (tx : Mem) (n : Nat) (r : Rs (List RLn)) : Prop := match r with
  | .inl f => CTb τ X tx n f
  | .inr (l, q) => CTg τ X tx n q ∧ RLS τ R l ∧ (codes l).length ≤ q
/-- behind gate and step -/
theorem c_ifK {l : List RLn} {g s : Nat} {x7 : Int32} {rest : Rs (List RLn)} {σ0 : Sto} (n8 : S_8 σ R) (hd : X + 1 < R) (hX : 96 ≤ X) (hw : WRD σ) (hk : l.length < 12)
    (H : (∃ f, CTb σ X tx n f ∧ CZ σ R ∧ rest = .inl f) ∨ (∃ q, CTg σ X tx n q ∧ COD σ R (codes l) ∧ (codes l).length ≤ q ∧ RLS σ0 R l ∧ (∀ i, i < l.length → sI σ (R + 1) i = sI σ0 (R + 1) i ∧ sI σ (R + 2) i = sI σ0 (R + 2) i ∧ sI σ (R + 3) i = sI σ0 (R + 3) i) ∧ sI σ (R + 1) l.length = J g ∧ sI σ (R + 2) l.length = J s ∧
      rest = if isW tx n q w_if = true then bnd (rAny tx n (rAtom tx n 6) (aftW tx n q)) (fun a p3 => .inr (l ++ [(g, s, a)], p3)) else .inr (l ++ [(g, s, [], fun _ => J 1)], q)))
    (HD : ∀ τ, Fr (Prl X R) σ τ → LNr τ X R tx n rest → WP gT (d + 16 + 7) B 64 12 [.ref R, .ref X, .int (J l.length + J 1), .int x7] [] τ Q) : T64i (d + 16) B R X (J l.length) x7 Q σ := by
  have fin : ∀ {τ : Sto}, Fr (Prl X R) σ τ → Fr (Prl X R) σ (setI (setI τ (R + 3) l.length (sI τ R 4)) R 0 (J l.length + J 1)) := fun F => (F.setI (Or.inr (by omega))).setI (Or.inr (by omega))
  have fr : ∀ {τ : Sto}, Fr (fun p j => p = R + 3 ∨ (p = R ∧ j = 0)) τ (setI (setI τ (R + 3) l.length (sI τ R 4)) R 0 (J l.length + J 1)) := (Fr.rf.setI (Or.inl rfl)).setI (Or.inr ⟨rfl, rfl⟩)
  have hcl : (J l.length).toNatClampNeg = l.length := J_cl (by omega)
  unfold T64i
  rw [hcl]
  rcases H with ⟨f, h1, h2, h3⟩ | ⟨q, h1, h2, h3, h4, h5, h6, h7, h8⟩
  · refine c_tw_b h1 ⟨n8, fun _ => ⟨(by simp (disch := omega) only [J_add, J_mul, J_sub, J_cl, vp_J]; omega), HD _ (fin Fr.rf) (by rw [h3]; exact h1.fr fr (fun p j k => by omega))⟩, fun c => absurd rfl c⟩
  · have hle := h1.le
    refine c_tw h1 (hw 24 w_if (by decide)) (fun e τ f k => ⟨f.sh n8, fun c => absurd c (by decide), fun _ => ?_⟩) (fun e => ⟨n8, fun _ => ⟨(by simp (disch := omega) only [J_add, J_mul, J_sub, J_cl, vp_J]; omega), ?_⟩, fun c => absurd rfl c⟩)
    · rw [if_pos e] at h8
      have hlen := (isW_aft hle.1 e (by decide)).1
      refine c_tellAny k (f.sh n8) hd hX (hw.fr f (fun p j k => by unfold PtX at k; omega)) (h2.t f hd) (by omega) (fun τ2 f2 L => ?_)
      have FF : Fr (Prl X R) σ τ2 := (f.mono PtX_rl).tr (f2.mono Prr_rl)
      have cl : ∀ i j, 1 ≤ i → i ≤ 3 → sI τ2 (R + i) j = sI σ (R + i) j := fun i j a b => by rw [f2.i (by unfold Prr; omega), f.i (by unfold PtX; omega)]
      refine ⟨FF.sh n8, (by simp (disch := omega) only [J_add, J_mul, J_sub, J_cl, vp_J]; omega), HD _ (fin FF) ?_⟩
      rw [h8]
      cases ea : rAny tx n (rAtom tx n 6) (aftW tx n q) with
      | inl f0 =>
        rw [ea] at L
        exact L.1.fr fr (fun p j k => by omega)
      | inr a =>
        obtain ⟨a, q2⟩ := a
        rw [ea] at L
        have a1 := (rTop_s _ _ _ k.le.1 ea).2.1.1
        refine ⟨L.1.fr fr (fun p j k => by omega), RLS.next h4 hk rfl rfl (τ := τ2) L.2 (fun i hi => ?_) ?_ ?_ (by rw [J_add]), ?_⟩
        · rw [cl 1 i (by omega) (by omega), cl 2 i (by omega) (by omega), cl 3 i (by omega) (by omega)]; exact h5 i hi
        · rw [cl 1 _ (by omega) (by omega)]; exact h6
        · rw [cl 2 _ (by omega) (by omega)]; exact h7
        · rw [codes_app, List.length_append]; show (codes l).length + a.1.length ≤ q2; omega
    · rw [if_neg (by rw [e]; decide)] at h8
      refine HD _ (fin Fr.rf) ?_
      rw [h8]
      refine ⟨h1.fr fr (fun p j k => by omega), RLS.next h4 hk rfl rfl (τ := σ) (by show COD σ R (codes l ++ []); rw [List.append_nil]; exact h2) h5 h6 h7 (by rw [J_add]), ?_⟩
      rw [codes_app]; show (codes l ++ []).length ≤ q; rw [List.append_nil]; exact h3
def rIf (tx : Mem) (n : Nat) (l : List RLn) (g s p2 : Nat) : Rs (List RLn) := if isW tx n p2 w_if = true then bnd (rAny tx n (rAtom tx n 6) (aftW tx n p2)) (fun a p3 => .inr (l ++ [(g, s, a)], p3)) else .inr (l ++ [(g, s, [], fun _ => J 1)], p2)
def rGt (tx : Mem) (n : Nat) (op : Bool) (l : List RLn) (p : Nat) : Rs (List RLn) := bnd (tN tx n 0 4 p) (fun g p1 => bnd (if op = true then tN tx n 1 7 p1 else .inr (0, p1)) (fun s p2 => rIf tx n l g s p2))
theorem rLine_o {l : List RLn} (h : isW tx n p w_open = true) : rLine tx n l p = rGt tx n true l (aftW tx n p) := by
  unfold rLine rGt rIf; rw [if_pos (Or.inl h)]; simp only [h, if_true]
theorem rLine_s {l : List RLn} (h0 : isW tx n p w_open = false) (h : isW tx n p w_shut = true) : rLine tx n l p = rGt tx n false l (aftW tx n p) := by
  unfold rLine rGt rIf; rw [if_pos (Or.inr h)]; simp only [h0, Bool.false_eq_true, if_false]
theorem rLine_n {l : List RLn} (h0 : isW tx n p w_open = false) (h : isW tx n p w_shut = false) : rLine tx n l p = .inl p := by
  unfold rLine; rw [if_neg (by rw [h0, h]; decide)]
def GTH (σ : Sto) (R : Nat) (tx : Mem) (n : Nat) (op : Bool) (l : List RLn) (rest : Rs (List RLn)) (s : TS) : Prop := match s with
  | .inl f => rest = .inl f
  | .inr p => RLS σ R l ∧ (codes l).length ≤ p ∧ rest = rGt tx n op l p
theorem c_gtK {l : List RLn} {op : Bool} {s : TS} {rest : Rs (List RLn)} (n8 : S_8 σ R) (hd : X + 1 < R) (hX : 96 ≤ X) (hw : WRD σ) (hk : l.length < 12) (hs : CTs σ X tx n s) (hz : CZ σ R)
    (H : GTH σ R tx n op l rest s)
    (HD : ∀ τ, Fr (Prl X R) σ τ → LNr τ X R tx n rest → WP gT (d + 16 + 7) B 64 12 [.ref R, .ref X, .int (J l.length + J 1), .int (if op = true then J 1 else J 0)] [] τ Q) : T64g (d + 16) B R X (J l.length) (if op = true then J 1 else J 0) Q σ := by
  have hcl : (J l.length).toNatClampNeg = l.length := J_cl (by omega)
  unfold T64g
  rw [hcl]
  refine c_tnv hs (by omega) (hi1 := 4) (by omega) (by decide) (fun τ v s' e f k => ⟨f.sh n8, k.sh, (by simp (disch := omega) only [J_add, J_mul, J_sub, J_cl, vp_J]; omega), ?_⟩)
  have F := f.mono (PtX_rl (R := R))
  cases op with
  | false =>
    refine ⟨fun _ => ⟨(by simp (disch := omega) only [J_add, J_mul, J_sub, J_cl, vp_J]; omega), ?_⟩, fun c => absurd rfl c⟩
    have F2 : Fr (Prl X R) σ (setI (setI τ (R + 1) l.length (J v)) (R + 2) l.length (J 0)) := (F.setI (Or.inr (by omega))).setI (Or.inr (by omega))
    have k2 : CTs (setI (setI τ (R + 1) l.length (J v)) (R + 2) l.length (J 0)) X tx n s' := (k.setI (by omega)).setI (by omega)
    have fz : Fr (fun p _ => p = R + 1 ∨ p = R + 2) τ (setI (setI τ (R + 1) l.length (J v)) (R + 2) l.length (J 0)) := (Fr.rf.setI (Or.inl rfl)).setI (Or.inr rfl)
    have hT := c_ifK (d := d) (B := B) (Q := Q) (tx := tx) (n := n) (l := l) (g := v) (s := 0) (x7 := if false = true then J 1 else J 0) (rest := rest) (σ0 := σ) (F2.sh n8) hd hX (hw.fr F2 (Prl.w hX hd)) hk ?_ (fun τ2 f2 L => HD τ2 (F2.tr f2) L)
    · unfold T64i at hT
      rw [hcl] at hT
      exact hT
    · cases s' with
      | inl f0 =>
        refine Or.inl ⟨f0, k2, (hz.t f hd).fr fz (fun p j k => by omega), ?_⟩
        rcases tNu_l e with hh | ⟨q, hh, t⟩
        · subst hh; exact H
        · subst hh; rw [H.2.2]; unfold rGt; rw [bnd_l t]
      | inr q2 =>
        obtain ⟨q, hh, t⟩ := tNu_r e
        subst hh
        obtain ⟨H1, H2, H3⟩ := H
        have b := tN_b hs.le.1 t
        refine Or.inr ⟨q2, k2, (H1.1.t f hd).fr fz (fun p j k => by omega), by omega, H1, fun i hi => ?_, ?_, sI_same, ?_⟩
        · rw [sI_any (by omega), sI_any (by omega), sI_any (by omega), sI_any (by omega), sI_any (by omega), sI_any (by omega), f.i (by unfold PtX; omega), f.i (by unfold PtX; omega), f.i (by unfold PtX; omega)]; exact ⟨rfl, rfl, rfl⟩
        · rw [sI_any (by omega), sI_same]
        · rw [H3]; unfold rGt; rw [bnd_r t]; rfl
  | true =>
    refine ⟨fun c => absurd c (by decide), fun _ => ?_⟩
    have k1 : CTs (setI τ (R + 1) l.length (J v)) X tx n s' := k.setI (by omega)
    have F1 : Fr (Prl X R) σ (setI τ (R + 1) l.length (J v)) := F.setI (Or.inr (by omega))
    have fz1 : Fr (fun p _ => p = R + 1) τ (setI τ (R + 1) l.length (J v)) := Fr.rf.setI rfl
    refine c_tnv k1 (by omega) (hi1 := 7) (by omega) (by decide) (fun τ2 v2 s2 e2 f2 k2 => ⟨(F1.tr (f2.mono PtX_rl)).sh n8, k2.sh, (by simp (disch := omega) only [J_add, J_mul, J_sub, J_cl, vp_J]; omega), ?_⟩)
    have F2 : Fr (Prl X R) σ (setI τ2 (R + 2) l.length (J v2)) := (F1.tr (f2.mono PtX_rl)).setI (Or.inr (by omega))
    have k3 : CTs (setI τ2 (R + 2) l.length (J v2)) X tx n s2 := k2.setI (by omega)
    have fz : Fr (fun p _ => p = R + 2) τ2 (setI τ2 (R + 2) l.length (J v2)) := Fr.rf.setI rfl
    have hT := c_ifK (d := d) (B := B) (Q := Q) (tx := tx) (n := n) (l := l) (g := v) (s := v2) (x7 := if true = true then J 1 else J 0) (rest := rest) (σ0 := σ) (F2.sh n8) hd hX (hw.fr F2 (Prl.w hX hd)) hk ?_ (fun τ3 f3 L => HD τ3 (F2.tr f3) L)
    · unfold T64i at hT
      rw [hcl] at hT
      exact hT
    · cases s2 with
      | inl f0 =>
        refine Or.inl ⟨f0, k3, (((hz.t f hd).fr fz1 (fun p j k => by omega)).t f2 hd).fr fz (fun p j k => by omega), ?_⟩
        rcases tNu_l e2 with hh | ⟨q, hh, t⟩
        · subst hh
          rcases tNu_l e with hh | ⟨q, hh, t⟩
          · subst hh; exact H
          · subst hh; rw [H.2.2]; unfold rGt; rw [bnd_l t]
        · subst hh
          obtain ⟨q0, hh, t0⟩ := tNu_r e
          subst hh; rw [H.2.2]; unfold rGt; rw [bnd_r t0]; exact bnd_l t
      | inr q2 =>
        obtain ⟨q1, hh, t⟩ := tNu_r e2
        subst hh
        obtain ⟨q, hh, t0⟩ := tNu_r e
        subst hh
        obtain ⟨H1, H2, H3⟩ := H
        have b0 := tN_b hs.le.1 t0
        have b := tN_b b0.2.2.2 t
        refine Or.inr ⟨q2, k3, (((H1.1.t f hd).fr fz1 (fun p j k => by omega)).t f2 hd).fr fz (fun p j k => by omega), by omega, H1, fun i hi => ?_, ?_, sI_same, ?_⟩
        · rw [sI_any (by omega), sI_any (by omega), sI_any (by omega), f2.i (by unfold PtX; omega), f2.i (by unfold PtX; omega), f2.i (by unfold PtX; omega), sI_any (by omega), sI_any (by omega), sI_any (by omega), f.i (by unfold PtX; omega), f.i (by unfold PtX; omega), f.i (by unfold PtX; omega)]; exact ⟨rfl, rfl, rfl⟩
        · rw [sI_any (by omega), f2.i (by unfold PtX; omega), sI_same]
        · rw [H3]; unfold rGt; rw [bnd_r t0]; exact bnd_r t
theorem RLS.t {l : List RLn} (h : RLS σ R l) (f : Fr (PtX X) σ τ) (hd : X + 1 < R) : RLS τ R l := by
  refine ⟨h.1.t f hd, by rw [f.i (by unfold PtX; omega)]; exact h.2.1, h.2.2.1, fun i hi => ?_⟩
  rw [f.i (by unfold PtX; omega), f.i (by unfold PtX; omega), f.i (by unfold PtX; omega)]; exact h.2.2.2 i hi
/-- one line -/
theorem c_lineR {l : List RLn} (h : CTg σ X tx n p) (n8 : S_8 σ R) (hd : X + 1 < R) (hX : 96 ≤ X) (hw : WRD σ) (hk : l.length < 12) (hl : RLS σ R l) (hp : (codes l).length ≤ p)
    (HD : ∀ τ x7, Fr (Prl X R) σ τ → LNr τ X R tx n (rLine tx n l p) → WP gT (d + 16 + 7) B 64 12 [.ref R, .ref X, .int (J l.length + J 1), .int x7] [] τ Q) : T64b (d + 16) B R X (J l.length) Q σ := by
  have hle := h.le
  have G : ∀ {op : Bool} {s : TS} {τ : Sto}, Fr (PtX X) σ τ → CTs τ X tx n s → GTH τ R tx n op l (rLine tx n l p) s → T64g (d + 16) B R X (J l.length) (if op = true then J 1 else J 0) Q τ := fun {op s τ} f k H =>
    c_gtK (f.sh n8) hd hX (hw.fr f (fun p j k => by unfold PtX at k; omega)) hk k (hl.t f hd).1.z H (fun τ2 f2 L => HD τ2 _ ((f.mono PtX_rl).tr f2) L)
  unfold T64b
  refine c_tw h (hw 20 w_open (by decide)) (fun e τ f k => ⟨k.1, f.sh n8, fun c => absurd c (by decide), fun _ => ?_⟩) (fun e0 => ⟨h.1, n8, fun _ => ?_, fun c => absurd rfl c⟩)
  · have hlen := (isW_aft hle.1 e (by decide)).1
    have hT := G (op := true) (s := .inr (aftW tx n p)) f k ⟨hl.t f hd, by omega, rLine_o e⟩
    unfold T64g at hT
    exact hT
  · refine c_tw h (hw 22 w_shut (by decide)) (fun e τ f k => ⟨k.1, f.sh n8, fun c => absurd c (by decide), fun _ => ?_⟩) (fun e1 => ⟨h.1, n8, fun _ => c_fail h (fun τ f k => ⟨f.sh n8, k.1, ?_⟩), fun c => absurd rfl c⟩)
    · have hlen := (isW_aft hle.1 e (by decide)).1
      have hT := G (op := false) (s := .inr (aftW tx n p)) f k ⟨hl.t f hd, by omega, rLine_s e0 e⟩
      unfold T64g at hT
      exact hT
    · have hT := G (op := false) (s := .inl p) f k (rLine_n e0 e1)
      unfold T64g at hT
      exact hT
/-- a row more, or a wrong text: how many codes -/
theorem c_tellRL (n8 : S_8 σ R) (hd : X + 1 < R) (hX : 96 ≤ X) (hw : WRD σ) {R0 : Rs (List RLn)} (hQ : ∀ τ, Fr (Prl X R) σ τ → LNr τ X R tx n R0 → Q (.inl none) τ) : ∀ f k, f + k = 12 →
    (∀ (l : List RLn) p τ x3, Fr (Prl X R) σ τ → CTg τ X tx n p → RLS τ R l → l.length = k → (codes l).length ≤ p → 1 ≤ k → R0 = gNext tx n (rLine tx n) f l p → WP gT (d + 16 + 7) B 64 12 [.ref R, .ref X, .int (J k), x3] [] τ Q) ∧
    (∀ (l : List RLn) p τ, Fr (Prl X R) σ τ → CTg τ X tx n p → RLS τ R l → l.length = k → (codes l).length ≤ p → k + 1 ≤ 12 → R0 = gLs tx n (rLine tx n) f l p → T64b (d + 16) B R X (J k) Q τ) ∧
    (∀ f0 τ x3, Fr (Prl X R) σ τ → CTb τ X tx n f0 → R0 = .inl f0 → WP gT (d + 16 + 7) B 64 12 [.ref R, .ref X, .int (J k), x3] [] τ Q) := by
  intro f
  have Eb : ∀ f0 τ, Fr (Prl X R) σ τ → CTb τ X tx n f0 → R0 = .inl f0 → WP gT (d + 16 + 6) (0, 0) 83 0 [.ref X, .int (J 12)] [] τ (oI (fun v1 τ2 => Q (.inl none) τ2) (fun _ _ => False)) := fun f0 τ F h hR => c_lb_b h (hQ τ F (by rw [hR]; exact h))
  have Eg : ∀ (l : List RLn) τ, Fr (Prl X R) σ τ → CTg τ X tx n n → RLS τ R l → (codes l).length ≤ n → R0 = .inr (l, n) → WP gT (d + 16 + 6) (0, 0) 83 0 [.ref X, .int (J 12)] [] τ (oI (fun v1 τ2 => Q (.inl none) τ2) (fun _ _ => False)) := fun l τ F h hG hv hR => c_lb h (by omega) (fun _ => hQ τ F (by rw [hR]; exact ⟨h, hG, hv⟩)) (fun c => absurd c (Nat.lt_irrefl _)) (fun c => absurd c (Nat.lt_irrefl _)) (fun c => absurd c (Nat.lt_irrefl _))
  have Bad : ∀ k f0 τ x3, k ≤ 12 → Fr (Prl X R) σ τ → CTb τ X tx n f0 → R0 = .inl f0 → WP gT (d + 16 + 7) B 64 12 [.ref R, .ref X, .int (J k), x3] [] τ Q := fun k f0 τ x3 hk F h hR =>
    g_64_12 h.1 ⟨fun _ => Eb f0 τ F h hR, fun _ => c_lb_b h ⟨h.1, fun _ => Eb f0 τ F h hR, fun c => absurd rfl c⟩⟩
  induction f with
  | zero =>
    intro k hk
    have hk : k = 12 := by omega
    subst hk
    refine ⟨fun l p τ x3 F h hG hll hv _ hR => ?_, fun l p τ F h hG hll hv hk _ => by omega, fun f0 τ x3 F h hR => Bad 12 f0 τ x3 (by omega) F h hR⟩
    refine g_64_12 h.1 ⟨fun _ => c_lb h (by omega) (fun e => ?_) (fun hlt hno τ2 f2 k2 => ?_) (fun _ _ c => absurd c (by omega)) (fun hlt hyes _ τ2 f2 k2 => ?_), fun c => absurd (by decide) c⟩
    · subst e
      exact hQ τ F (by rw [hR]; unfold gNext; rw [if_pos rfl]; exact ⟨h, hG, hv⟩)
    · exact hQ τ2 (F.tr (f2.mono PtX_rl)) (by rw [hR]; unfold gNext; rw [if_neg (by omega), if_neg (by rw [hno]; decide)]; exact k2)
    · exact hQ τ2 (F.tr (f2.mono PtX_rl)) (by rw [hR]; unfold gNext; rw [if_neg (by omega), if_pos hyes]; exact k2)
  | succ f ih =>
    intro k hk
    have LINE : ∀ (l : List RLn) p τ, Fr (Prl X R) σ τ → CTg τ X tx n p → RLS τ R l → l.length = k → (codes l).length ≤ p → k + 1 ≤ 12 → R0 = gLs tx n (rLine tx n) (f + 1) l p → T64b (d + 16) B R X (J k) Q τ := by
      intro l p τ F h hG hll hv hk2 hR
      rw [gLs_s] at hR
      subst hll
      refine c_lineR h (F.sh n8) hd hX (hw.fr F (Prl.w hX hd)) (by omega) hG hv (fun τ2 x7 f2 L => ?_)
      rw [J_add]
      have ih := ih (l.length + 1) (by omega)
      cases e : rLine tx n l p with
      | inl f0 =>
        rw [e] at L
        rw [bnd_l e] at hR
        exact ih.2.2 f0 τ2 _ (F.tr f2) L hR
      | inr a =>
        obtain ⟨l2, q⟩ := a
        rw [e] at L
        rw [bnd_r e] at hR
        exact ih.1 l2 q τ2 _ (F.tr f2) L.1 L.2.1 (rLine_len e) L.2.2 (by omega) hR
    refine ⟨fun l p τ x3 F h hG hll hv h1 hR => ?_, LINE, fun f0 τ x3 F h hR => Bad k f0 τ x3 (by omega) F h hR⟩
    refine g_64_12 h.1 ⟨fun c => ?_, fun _ => c_lb h (by omega) (fun e => ⟨h.1, fun _ => ?_, fun c => absurd rfl c⟩) (fun hlt hno τ2 f2 k2 => ⟨k2.1, fun _ => ?_, fun c => absurd rfl c⟩) (fun hlt hyes _ τ2 f2 k2 => ⟨k2.1, fun c => absurd c (by decide), fun _ => ?_⟩) (fun _ _ c => by omega)⟩
    · exfalso; rw [J_le (by omega) (by omega)] at c; omega
    · subst e
      exact Eg l τ F h hG hv (by rw [hR]; unfold gNext; rw [if_pos rfl])
    · exact Eb p τ2 (F.tr (f2.mono PtX_rl)) k2 (by rw [hR]; unfold gNext; rw [if_neg (by omega), if_neg (by rw [hno]; decide)])
    · have bS := aftS_b (tx := tx) hlt
      exact LINE l _ τ2 (F.tr (f2.mono PtX_rl)) k2 (hG.t f2 hd) hll (by omega) (by omega) (by rw [hR]; unfold gNext; rw [if_neg (by omega), if_pos hyes])
theorem c_tellR (h : CTg σ X tx n (skp tx n 0)) (n8 : S_8 σ R) (hd : X + 1 < R) (hX : 96 ≤ X) (hw : WRD σ) (hQ : ∀ τ, Fr (Prl X R) σ τ → LNr τ X R tx n (rAll tx n) → Q (.inl none) τ) : WP gT (d + 16 + 7) B 64 0 [.ref R, .ref X, .retAddr 0, .retAddr 0] [] σ Q := by
  refine g_64_0 n8 ?_
  have f0 : Fr (fun p j => p = R ∧ (j = 0 ∨ j = 4)) σ (setI (setI σ R 0 (J 0)) R 4 (J 0)) := (Fr.rf.setI ⟨rfl, Or.inl rfl⟩).setI ⟨rfl, Or.inr rfl⟩
  have R0 : RLS (setI (setI σ R 0 (J 0)) R 4 (J 0)) R [] := ⟨⟨sI_same, Nat.zero_le _, fun j hj => absurd hj (Nat.not_lt_zero _)⟩, by rw [sI_any (by omega), sI_same]; rfl, Nat.zero_le _, fun i hi => absurd hi (Nat.not_lt_zero _)⟩
  generalize setI (setI σ R 0 (J 0)) R 4 (J 0) = σ1 at f0 R0 ⊢
  have h1 : CTg σ1 X tx n (skp tx n 0) := h.fr f0 (fun p j k => by omega)
  have F0 : Fr (Prl X R) σ σ1 := f0.mono (fun p j k => by unfold Prl; omega)
  refine g_64_12 h1.1 ⟨fun c => absurd c (by decide), fun _ => c_lb0 h1 (fun e => ⟨h1.1, fun _ => ?_, fun c => absurd rfl c⟩) (fun hlt => ⟨h1.1, fun c => absurd c (by decide), fun _ => ?_⟩)⟩
  · have h2 := h1
    rw [e] at h2
    exact c_lb h2 (by omega) (fun _ => hQ σ1 F0 (by unfold rAll gAll; rw [if_pos e]; exact ⟨h2, R0, Nat.zero_le _⟩)) (fun c => absurd c (Nat.lt_irrefl _)) (fun c => absurd c (Nat.lt_irrefl _)) (fun c => absurd c (Nat.lt_irrefl _))
  · have hT := (c_tellRL (d := d) (B := B) n8 hd hX hw hQ 12 0 rfl).2.1 [] _ σ1 F0 h1 R0 rfl (Nat.zero_le _) (by omega) (by unfold rAll gAll; rw [if_neg (by omega)])
    unfold T64b at hT
    exact hT
