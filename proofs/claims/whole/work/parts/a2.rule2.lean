/-! ===== the class reads a rule: conditions ===== -/
variable {d : Nat} {B : Nat × Nat} {Q : Out → Sto → Prop} {P : Nat → Nat → Prop} {σ τ : Sto} {X R y0 : Nat} {tx : Mem} {n p q f0 : Nat} {cs : List (Nat × Nat)}
def T67w (d R X : Nat) (Q : Out → Sto → Prop) (σ : Sto) : Prop := WP gT (d + 6) (0, 0) 80 0 [.ref X, .ref 28] [] σ (oI (fun v5 τ6 => (S_8 τ6 R ∧ (S_9 τ6 X ∧ ((v5 = (J 0) → WP gT (d + 6) (0, 0) 69 0 [.ref R, .ref X, .retAddr 0, .retAddr 0] [] τ6 (oV (fun τ8 => (S_9 τ8 X ∧ (((sI τ8 X 3) = (J 3) → (vp_in (sI τ8 X 4) 400 ∧ True)) ∧ WP gT (d + 6) (0, 0) 81 0 [.ref X, .int (J 60)] [] τ8 (oI (fun v11 τ12 => (S_9 τ12 X ∧ (S_8 τ12 R ∧ ((v11 = (J 0) → WP gT (d + 6) (0, 0) 81 0 [.ref X, .int (J 62)] [] τ12 (oI (fun v13 τ14 => (S_9 τ14 X ∧ (S_8 τ14 R ∧ ((v13 = (J 0) → WP gT (d + 6) (0, 0) 75 0 [.ref X] [] τ14 (oV (fun τ16 => (S_8 τ16 R ∧ WP gT (d + 6) (0, 0) 69 0 [.ref R, .ref X, .retAddr 0, .retAddr 0] [] τ16 (oV (fun τ18 => (S_8 τ18 R ∧ WP gT (d + 6) (0, 0) 70 0 [.ref R, .int (if (f_78 τ8 X (J 60)) = (J 0) then (J 11) else (J 10)), .int (J 0)] [] τ18 (oV (fun τ20 => Q (.inl none) τ20) (fun _ _ => False)))) (fun _ _ => False)))) (fun _ _ => False))) ∧ (¬ (v13 = (J 0)) → WP gT (d + 6) (0, 0) 69 0 [.ref R, .ref X, .retAddr 0, .retAddr 0] [] τ14 (oV (fun τ22 => (S_8 τ22 R ∧ WP gT (d + 6) (0, 0) 70 0 [.ref R, .int (if (f_78 τ8 X (J 60)) = (J 0) then (J 11) else (J 10)), .int (J 0)] [] τ22 (oV (fun τ24 => Q (.inl none) τ24) (fun _ _ => False)))) (fun _ _ => False))))))) (fun _ _ => False))) ∧ (¬ (v11 = (J 0)) → WP gT (d + 6) (0, 0) 69 0 [.ref R, .ref X, .retAddr 0, .retAddr 0] [] τ12 (oV (fun τ26 => (S_8 τ26 R ∧ WP gT (d + 6) (0, 0) 70 0 [.ref R, .int (if (f_78 τ8 X (J 60)) = (J 0) then (J 11) else (J 10)), .int (J 0)] [] τ26 (oV (fun τ28 => Q (.inl none) τ28) (fun _ _ => False)))) (fun _ _ => False))))))) (fun _ _ => False))))) (fun _ _ => False))) ∧ (¬ (v5 = (J 0)) → WP gT (d + 6) (0, 0) 82 0 [.ref X, .int (J 0), .int (J 11), .retAddr 0] [] τ6 (oI (fun v30 τ31 => (S_8 τ31 R ∧ WP gT (d + 6) (0, 0) 70 0 [.ref R, .int (J 7), .int v30] [] τ31 (oV (fun τ33 => Q (.inl none) τ33) (fun _ _ => False)))) (fun _ _ => False))))))) (fun _ _ => False))
def T67a (d R X : Nat) (x2 : Int32) (Q : Out → Sto → Prop) (σ : Sto) : Prop := WP gT (d + 6) (0, 0) 80 0 [.ref X, .ref 26] [] σ (oI (fun v1 τ2 => (S_9 τ2 X ∧ (S_8 τ2 R ∧ ((v1 = (J 0) → WP gT (d + 6) (0, 0) 81 0 [.ref X, .int (J 40)] [] τ2 (oI (fun v3 τ4 => (S_9 τ4 X ∧ (S_8 τ4 R ∧ ((v3 = (J 0) → WP gT (d + 6) (0, 0) 80 0 [.ref X, .ref 28] [] τ4 (oI (fun v5 τ6 => (S_8 τ6 R ∧ (S_9 τ6 X ∧ ((v5 = (J 0) → WP gT (d + 6) (0, 0) 69 0 [.ref R, .ref X, .retAddr 0, .retAddr 0] [] τ6 (oV (fun τ8 => (S_9 τ8 X ∧ (((sI τ8 X 3) = (J 3) → (vp_in (sI τ8 X 4) 400 ∧ True)) ∧ WP gT (d + 6) (0, 0) 81 0 [.ref X, .int (J 60)] [] τ8 (oI (fun v11 τ12 => (S_9 τ12 X ∧ (S_8 τ12 R ∧ ((v11 = (J 0) → WP gT (d + 6) (0, 0) 81 0 [.ref X, .int (J 62)] [] τ12 (oI (fun v13 τ14 => (S_9 τ14 X ∧ (S_8 τ14 R ∧ ((v13 = (J 0) → WP gT (d + 6) (0, 0) 75 0 [.ref X] [] τ14 (oV (fun τ16 => (S_8 τ16 R ∧ WP gT (d + 6) (0, 0) 69 0 [.ref R, .ref X, .retAddr 0, .retAddr 0] [] τ16 (oV (fun τ18 => (S_8 τ18 R ∧ WP gT (d + 6) (0, 0) 70 0 [.ref R, .int (if (f_78 τ8 X (J 60)) = (J 0) then (J 11) else (J 10)), .int (J 0)] [] τ18 (oV (fun τ20 => Q (.inl none) τ20) (fun _ _ => False)))) (fun _ _ => False)))) (fun _ _ => False))) ∧ (¬ (v13 = (J 0)) → WP gT (d + 6) (0, 0) 69 0 [.ref R, .ref X, .retAddr 0, .retAddr 0] [] τ14 (oV (fun τ22 => (S_8 τ22 R ∧ WP gT (d + 6) (0, 0) 70 0 [.ref R, .int (if (f_78 τ8 X (J 60)) = (J 0) then (J 11) else (J 10)), .int (J 0)] [] τ22 (oV (fun τ24 => Q (.inl none) τ24) (fun _ _ => False)))) (fun _ _ => False))))))) (fun _ _ => False))) ∧ (¬ (v11 = (J 0)) → WP gT (d + 6) (0, 0) 69 0 [.ref R, .ref X, .retAddr 0, .retAddr 0] [] τ12 (oV (fun τ26 => (S_8 τ26 R ∧ WP gT (d + 6) (0, 0) 70 0 [.ref R, .int (if (f_78 τ8 X (J 60)) = (J 0) then (J 11) else (J 10)), .int (J 0)] [] τ26 (oV (fun τ28 => Q (.inl none) τ28) (fun _ _ => False)))) (fun _ _ => False))))))) (fun _ _ => False))))) (fun _ _ => False))) ∧ (¬ (v5 = (J 0)) → WP gT (d + 6) (0, 0) 82 0 [.ref X, .int (J 0), .int (J 11), .retAddr 0] [] τ6 (oI (fun v30 τ31 => (S_8 τ31 R ∧ WP gT (d + 6) (0, 0) 70 0 [.ref R, .int (J 7), .int v30] [] τ31 (oV (fun τ33 => Q (.inl none) τ33) (fun _ _ => False)))) (fun _ _ => False))))))) (fun _ _ => False))) ∧ (¬ (v3 = (J 0)) → WP gT (d + 6) (0, 0) 66 0 [.ref R, .ref X, .int (x2 + (J 1)), .retAddr 0, .retAddr 0, .retAddr 0] [] τ4 (oV (fun τ35 => (S_9 τ35 X ∧ WP gT (d + 6) (0, 0) 81 0 [.ref X, .int (J 41)] [] τ35 (oI (fun v36 τ37 => (S_9 τ37 X ∧ ((v36 = (J 0) → WP gT (d + 6) (0, 0) 75 0 [.ref X] [] τ37 (oV (fun τ39 => Q (.inl none) τ39) (fun _ _ => False))) ∧ (¬ (v36 = (J 0)) → Q (.inl none) τ37)))) (fun _ _ => False)))) (fun _ _ => False))))))) (fun _ _ => False))) ∧ (¬ (v1 = (J 0)) → WP gT (d + 6) (0, 0) 67 0 [.ref R, .ref X, .int (x2 + (J 1)), .retAddr 0] [] τ2 (oV (fun τ41 => (S_8 τ41 R ∧ WP gT (d + 6) (0, 0) 70 0 [.ref R, .int (J 8), .int (J 0)] [] τ41 (oV (fun τ43 => Q (.inl none) τ43) (fun _ _ => False)))) (fun _ _ => False))))))) (fun _ _ => False))
def T66a (d : Nat) (B : Nat × Nat) (R X : Nat) (x2 x3 x5 : Int32) (Q : Out → Sto → Prop) (σ : Sto) : Prop := WP gT (d + 5) (0, 0) 80 0 [.ref X, .ref 42] [] σ (oI (fun v3 τ4 => (S_9 τ4 X ∧ (S_8 τ4 R ∧ ((x3 = (J 0) → ((v3 = (J 0) → WP gT (d + 5) (0, 0) 80 0 [.ref X, .ref 44] [] τ4 (oI (fun v5 τ6 => ((v5 = (J 0) → ((v3 = (J 0) → Q (.inl none) τ6) ∧ (¬ (v3 = (J 0)) → WP gT (d + 6) B 66 8 [.ref R, .ref X, .int x2, .int v5, .int v3, .int (x5 + (J 1))] [] τ6 Q))) ∧ (¬ (v5 = (J 0)) → WP gT (d + 6) B 66 8 [.ref R, .ref X, .int x2, .int v5, .int v3, .int (x5 + (J 1))] [] τ6 Q))) (fun _ _ => False))) ∧ (¬ (v3 = (J 0)) → ((x3 = (J 0) → ((v3 = (J 0) → Q (.inl none) τ4) ∧ (¬ (v3 = (J 0)) → WP gT (d + 6) B 66 8 [.ref R, .ref X, .int x2, .int x3, .int v3, .int (x5 + (J 1))] [] τ4 Q))) ∧ (¬ (x3 = (J 0)) → WP gT (d + 6) B 66 8 [.ref R, .ref X, .int x2, .int x3, .int v3, .int (x5 + (J 1))] [] τ4 Q))))) ∧ (¬ (x3 = (J 0)) → ((v3 = (J 0) → WP gT (d + 5) (0, 0) 70 0 [.ref R, .int (J 13), .int (J 0)] [] τ4 (oV (fun τ8 => (S_9 τ8 X ∧ ((v3 = (J 0) → WP gT (d + 5) (0, 0) 80 0 [.ref X, .ref 44] [] τ8 (oI (fun v9 τ10 => ((v9 = (J 0) → ((v3 = (J 0) → Q (.inl none) τ10) ∧ (¬ (v3 = (J 0)) → WP gT (d + 6) B 66 8 [.ref R, .ref X, .int x2, .int v9, .int v3, .int (x5 + (J 1))] [] τ10 Q))) ∧ (¬ (v9 = (J 0)) → WP gT (d + 6) B 66 8 [.ref R, .ref X, .int x2, .int v9, .int v3, .int (x5 + (J 1))] [] τ10 Q))) (fun _ _ => False))) ∧ (¬ (v3 = (J 0)) → ((x3 = (J 0) → ((v3 = (J 0) → Q (.inl none) τ8) ∧ (¬ (v3 = (J 0)) → WP gT (d + 6) B 66 8 [.ref R, .ref X, .int x2, .int x3, .int v3, .int (x5 + (J 1))] [] τ8 Q))) ∧ (¬ (x3 = (J 0)) → WP gT (d + 6) B 66 8 [.ref R, .ref X, .int x2, .int x3, .int v3, .int (x5 + (J 1))] [] τ8 Q)))))) (fun _ _ => False))) ∧ (¬ (v3 = (J 0)) → ((v3 = (J 0) → WP gT (d + 5) (0, 0) 80 0 [.ref X, .ref 44] [] τ4 (oI (fun v11 τ12 => ((v11 = (J 0) → ((v3 = (J 0) → Q (.inl none) τ12) ∧ (¬ (v3 = (J 0)) → WP gT (d + 6) B 66 8 [.ref R, .ref X, .int x2, .int v11, .int v3, .int (x5 + (J 1))] [] τ12 Q))) ∧ (¬ (v11 = (J 0)) → WP gT (d + 6) B 66 8 [.ref R, .ref X, .int x2, .int v11, .int v3, .int (x5 + (J 1))] [] τ12 Q))) (fun _ _ => False))) ∧ (¬ (v3 = (J 0)) → ((x3 = (J 0) → ((v3 = (J 0) → Q (.inl none) τ4) ∧ (¬ (v3 = (J 0)) → WP gT (d + 6) B 66 8 [.ref R, .ref X, .int x2, .int x3, .int v3, .int (x5 + (J 1))] [] τ4 Q))) ∧ (¬ (x3 = (J 0)) → WP gT (d + 6) B 66 8 [.ref R, .ref X, .int x2, .int x3, .int v3, .int (x5 + (J 1))] [] τ4 Q))))))))))) (fun _ _ => False))
theorem Prr.w (hX : 96 ≤ X) (hd : X + 1 < R) : ∀ p j, Prr X R p j → 96 ≤ p := fun p j k => by unfold Prr at k; omega
theorem c_plainK (h : CTg σ X tx n p) (n8 : S_8 σ R) (hd : X + 1 < R) (hX : 96 ≤ X) (hw : WRD σ) (hc : COD σ R cs) (hl : cs.length ≤ p) (hQ : ∀ τ, Fr (Prr X R) σ τ → CRs τ X R tx n cs (rPlain tx n p) → Q (.inl none) τ) : T67w d R X Q σ := by
  have hle := h.le
  refine c_tw h (hw 28 w_wet (by decide)) (fun e τ f k => ⟨f.sh n8, k.1, fun c => absurd c (by decide), fun _ => ?_⟩) (fun e1 => ⟨n8, h.1, fun _ => ?_, fun c => absurd rfl c⟩)
  · have hlen := (isW_aft hle.1 e (by decide)).1
    have er : rPlain tx n p = bnd (tN tx n 0 12 (aftW tx n p)) (fun a p => .inr (([(7, a)], fun e => e 7 a), p)) := by unfold rPlain; rw [if_pos e]
    refine c_tn k (by omega) (hi1 := 12) (by omega) (by decide) (fun v p' t τ2 f2 k2 => ⟨(f.tr f2).sh n8, ?_⟩) (fun t τ2 f2 k2 => ⟨(f.tr f2).sh n8, ?_⟩)
    · have b := tN_b k.le.1 t
      exact c_put ((f.tr f2).sh n8) (hc.t (f.tr f2) hd) (by omega) (by omega) (by omega) (fun τ3 f3 c3 => hQ τ3 (((f.tr f2).mono PtX_rr).tr (f3.mono Ppt_rr)) (by rw [er, bnd_r t]; exact ⟨k2.pt_ f3 hd, c3⟩))
    · exact c_put_b ((f.tr f2).sh n8) (hc.t (f.tr f2) hd).z (fun τ3 f3 c3 => hQ τ3 (((f.tr f2).mono PtX_rr).tr (f3.mono Ppt_rr)) (by rw [er, bnd_l t]; exact ⟨k2.pt_ f3 hd, c3⟩))
  · exact c_tellCmp h n8 hd hX hw hc hl (fun τ f L => hQ τ f (by unfold rPlain; rw [if_neg (by rw [e1]; decide)]; exact L))
def AtC (X R : Nat) (tx : Mem) (n k : Nat) : Prop := ∀ (d : Nat) (B : Nat × Nat) (Q : Out → Sto → Prop) (σ : Sto) (p : Nat) (cs : List (Nat × Nat)), CTg σ X tx n p → S_8 σ R → WRD σ → COD σ R cs → cs.length ≤ p → (∀ τ, Fr (Prr X R) σ τ → CRs τ X R tx n cs (rAtom tx n k p) → Q (.inl none) τ) → WP gT (d + 2 * k + 9) B 67 0 [.ref R, .ref X, .int (J (6 - k)), .retAddr 0] [] σ Q
def AnC (X R : Nat) (tx : Mem) (n k : Nat) : Prop := ∀ (d : Nat) (B : Nat × Nat) (Q : Out → Sto → Prop) (σ : Sto) (p : Nat) (cs : List (Nat × Nat)), CTg σ X tx n p → S_8 σ R → WRD σ → COD σ R cs → cs.length ≤ p → (∀ τ, Fr (Prr X R) σ τ → CRs τ X R tx n cs (rAny tx n (rAtom tx n k) p) → Q (.inl none) τ) → WP gT (d + 2 * k + 10) B 66 0 [.ref R, .ref X, .int (J (6 - k)), .retAddr 0, .retAddr 0, .retAddr 0] [] σ Q
theorem atC_0 (hd : X + 1 < R) (hX : 96 ≤ X) : AtC X R tx n 0 := by
  intro d B Q σ p cs h n8 hw hc hl hQ
  have hle := h.le
  have bad : (isW tx n p w_not = true ∨ isS tx n p 40 = true) → WP gT (d + 2 + 6) (0, 0) 75 0 [.ref X] [] σ (oV (fun τ => Q (.inl none) τ) (fun _ _ => False)) := fun e => c_fail h (fun τ f k => hQ τ (f.mono PtX_rr) (by unfold rAtom; rw [if_pos e]; exact ⟨k, (hc.t f hd).z⟩))
  show WP gT (d + 2 + 7) B 67 0 [.ref R, .ref X, .int (J 6), .retAddr 0] [] σ Q
  refine g_67_0 h.1 ⟨fun c => absurd c (by decide), fun _ => c_isWord h (hw 26 w_not (by decide)) (fun e _ => ⟨h.1, fun c => absurd c (by decide), fun _ => bad (Or.inl e)⟩) (fun e1 => ?_)⟩
  obtain ⟨s1, s2, s3⟩ := h.sgn (c := 40) (by omega)
  refine ⟨h.1, fun _ => ⟨s1, fun c => ?_, fun c => ?_⟩, fun c => absurd rfl c⟩
  · have e2 : isS tx n p 40 = false := by rw [s2, b01] at c; exact c
    have er : rAtom tx n 0 p = rPlain tx n p := by unfold rAtom; rw [if_neg (by rw [e1, e2]; decide)]
    refine c_tw h (hw 26 w_not (by decide)) (fun e => by rw [e1] at e; exact absurd e (by decide)) (fun _ => ⟨h.1, n8, fun _ => ?_, fun c => absurd rfl c⟩)
    refine c_ts h (c := 40) (by omega) (fun e => by rw [e2] at e; exact absurd e (by decide)) (fun _ => ⟨h.1, n8, fun _ => ?_, fun c => absurd rfl c⟩)
    exact c_plainK h n8 hd hX hw hc hl (fun τ f L => hQ τ f (by rw [er]; exact L))
  · refine bad (Or.inr ?_)
    cases e2 : isS tx n p 40 with
    | true => rfl
    | false => rw [s2, e2] at c; exact absurd rfl c
theorem atC_s (hd : X + 1 < R) (hX : 96 ≤ X) {k : Nat} (hk : k + 1 ≤ 6) (hA : AtC X R tx n k) (hN : AnC X R tx n k) : AtC X R tx n (k + 1) := by
  intro d B Q σ p cs h n8 hw hc hl hQ
  have hle := h.le
  rw [show d + 2 * (k + 1) + 9 = (d + 2 * k + 4) + 7 by omega]
  refine g_67_0 h.1 ⟨fun _ => ?_, fun c => absurd (by rw [J_lt (by omega) (by omega)]; omega) c⟩
  have sA := rAtom_s (tx := tx) (n := n) k (by omega)
  have sN := rAny_s (tx := tx) (n := n) (by omega) sA
  have ej : J (6 - (k + 1)) + J 1 = J (6 - k) := by rw [J_add]; congr 1; omega
  rw [ej]
  refine c_tw h (hw 26 w_not (by decide)) (fun e τ f kg => ⟨kg.1, f.sh n8, fun c => absurd c (by decide), fun _ => ?_⟩) (fun e1 => ⟨h.1, n8, fun _ => ?_, fun c => absurd rfl c⟩)
  · have hlen := (isW_aft hle.1 e (by decide)).1
    have er : rAtom tx n (k + 1) p = bnd (rAtom tx n k (aftW tx n p)) (fun a p => .inr ((a.1 ++ [(8, 0)], fun e => J 1 - a.2 e), p)) := if_pos e
    rw [show d + 2 * k + 4 + 6 = (d + 1) + 2 * k + 9 by omega]
    refine hA _ _ _ τ _ cs kg (f.sh n8) (hw.fr f (fun p j k => by unfold PtX at k; omega)) (hc.t f hd) (by omega) (fun τ2 f2 L => ?_)
    have F2 := (f.mono PtX_rr).tr f2
    refine ⟨F2.sh n8, ?_⟩
    cases ea : rAtom tx n k (aftW tx n p) with
    | inl f0 =>
      rw [ea] at L
      exact c_put_b (F2.sh n8) L.2 (fun τ3 f3 c3 => hQ τ3 (F2.tr (f3.mono Ppt_rr)) (by rw [er, bnd_l ea]; exact ⟨L.1.pt_ f3 hd, c3⟩))
    | inr a =>
      obtain ⟨a, q⟩ := a
      rw [ea] at L
      have a1 := (sA _ _ _ kg.le.1 ea).2.1
      have la : (cs ++ a.1).length + 1 ≤ q := by rw [List.length_append]; have := a1.1; omega
      have hq := a1.2.1
      refine c_put (F2.sh n8) L.2 (by omega) (by omega) (by omega) (fun τ3 f3 c3 => hQ τ3 (F2.tr (f3.mono Ppt_rr)) ?_)
      rw [er, bnd_r ea]
      refine ⟨L.1.pt_ f3 hd, ?_⟩
      show COD τ3 R (cs ++ (a.1 ++ [(8, 0)]))
      rw [← List.append_assoc]; exact c3
  · refine c_ts h (c := 40) (by omega) (fun e hlt τ f kg => ⟨kg.1, f.sh n8, fun c => absurd c (by decide), fun _ => ?_⟩) (fun e2 => ⟨h.1, n8, fun _ => ?_, fun c => absurd rfl c⟩)
    · have bS := aftS_b (tx := tx) hlt
      have er : rAtom tx n (k + 1) p = bnd (rAny tx n (rAtom tx n k) (aftS tx n p)) (fun a p => if isS tx n p 41 = true then .inr (a, aftS tx n p) else .inl p) := by unfold rAtom; rw [if_neg (by rw [e1]; decide), if_pos e]
      rw [show d + 2 * k + 4 + 6 = d + 2 * k + 10 by omega]
      refine hN _ _ _ τ _ cs kg (f.sh n8) (hw.fr f (fun p j k => by unfold PtX at k; omega)) (hc.t f hd) (by omega) (fun τ2 f2 L => ?_)
      have F2 := (f.mono PtX_rr).tr f2
      cases ea : rAny tx n (rAtom tx n k) (aftS tx n p) with
      | inl f0 =>
        rw [ea] at L
        exact ⟨L.1.1, c_ts_b L.1 ⟨L.1.1, fun _ => c_fail_b L.1 (hQ τ2 F2 (by rw [er, bnd_l ea]; exact L)), fun c => absurd rfl c⟩⟩
      | inr a =>
        obtain ⟨a, q⟩ := a
        rw [ea] at L
        refine ⟨L.1.1, c_ts L.1 (c := 41) (by omega) (fun ey hlt2 τ3 f3 k3 => ⟨k3.1, fun c => absurd c (by decide), fun _ => ?_⟩) (fun en => ⟨L.1.1, fun _ => c_fail L.1 (fun τ3 f3 k3 => ?_), fun c => absurd rfl c⟩)⟩
        · exact hQ τ3 (F2.tr (f3.mono PtX_rr)) (by rw [er, bnd_r ea, if_pos ey]; exact ⟨k3, L.2.t f3 hd⟩)
        · exact hQ τ3 (F2.tr (f3.mono PtX_rr)) (by rw [er, bnd_r ea, if_neg (by rw [en]; decide)]; exact ⟨k3, (L.2.t f3 hd).z⟩)
    · exact c_plainK h n8 hd hX hw hc hl (fun τ f L => hQ τ f (by unfold rAtom; rw [if_neg (by rw [e1]; decide), if_neg (by rw [e2]; decide)]; exact L))
/-! joined by and, and by or -/
abbrev OCN : Type := Option (CVl × Nat)
def KSf (tx : Mem) (n : Nat) (atom : Nat → Rs CVl) (o : OCN) (a : CVl) (p : Nat) : Rs CVl := match o with
  | none => rSoL tx n atom 401 a p
  | some (s, g) => rSoL tx n atom g (s.1 ++ a.1 ++ [(13, 0)], fun e => s.2 e ||| a.2 e) p
def Efn (tx : Mem) (n : Nat) (atom : Nat → Rs CVl) (o : OCN) (p : Nat) : Rs CVl := match o with
  | none => rEv tx n atom p
  | some (a, f) => bnd (atom p) (fun b p => rEvL tx n atom f (a.1 ++ b.1 ++ [(12, 0)], fun e => a.2 e &&& b.2 e) p)
def Sfn (o : OCN) : List (Nat × Nat) := match o with
  | none => []
  | some (s, _) => s.1
def xfn (o : OCN) : Int32 := match o with
  | none => J 0
  | some _ => J 1
def pfn (o : OCN) : Nat := match o with
  | none => 0
  | some _ => 1
def ffn (o : OCN) : Nat := match o with
  | none => 401
  | some (_, g) => g
/-- behind an atom, and what joins it to those ahead by and -/
theorem c_anyK {atom : Nat → Rs CVl} {i : Nat} {x2 : Int32} {o : OCN} {A : CVl} {f : Nat} {R0 : Rs CVl} (h : CTg σ X tx n q) (n8 : S_8 σ R) (hd : X + 1 < R) (hX : 96 ≤ X) (hw : WRD σ) (hc : COD σ R (cs ++ (Sfn o ++ A.1))) (hl : (cs ++ (Sfn o ++ A.1)).length + pfn o ≤ q) (hf : n < q + f) (hg : n < q + ffn o) (hR : R0 = bnd (rEvL tx n atom f A q) (KSf tx n atom o))
    (hQ : ∀ τ, Fr (Prr X R) σ τ → CRs τ X R tx n cs R0 → Q (.inl none) τ)
    (HD : ∀ τ p o an, Fr (Prr X R) σ τ → q + 2 ≤ p → CTg τ X tx n p → COD τ R (cs ++ (Sfn o ++ Sfn an)) → (cs ++ (Sfn o ++ Sfn an)).length + pfn o + pfn an ≤ p → n < p + ffn o → n < p + ffn an → R0 = bnd (Efn tx n atom an p) (KSf tx n atom o) → WP gT (d + 6) B 66 8 [.ref R, .ref X, .int x2, .int (xfn o), .int (xfn an), .int (J i + J 1)] [] τ Q) : T66a d B R X x2 (xfn o) (J i) Q σ := by
  have hle := h.le
  obtain ⟨f, rfl⟩ : ∃ f', f = f' + 1 := ⟨f - 1, by omega⟩
  have hE : rEvL tx n atom (f + 1) A q = if isW tx n q w_and = true then bnd (atom (aftW tx n q)) (fun b p => rEvL tx n atom f (A.1 ++ b.1 ++ [(12, 0)], fun e => A.2 e &&& b.2 e) p) else .inr (A, q) := rfl
  /- behind an 'or', or the end of it all -/
  have OR : ∀ {s : CVl} {g : Nat} {τ : Sto}, Fr (Prr X R) σ τ → CTg τ X tx n q → COD τ R (cs ++ s.1) → (cs ++ s.1).length ≤ q → n < q + g → R0 = rSoL tx n atom g s q → WP gT (d + 5) (0, 0) 80 0 [.ref X, .ref 44] [] τ (oI (fun v5 τ6 => ((v5 = (J 0) → ((J 0 = (J 0) → Q (.inl none) τ6) ∧ (¬ (J 0 = (J 0)) → WP gT (d + 6) B 66 8 [.ref R, .ref X, .int x2, .int v5, .int (J 0), .int (J i + (J 1))] [] τ6 Q))) ∧ (¬ (v5 = (J 0)) → WP gT (d + 6) B 66 8 [.ref R, .ref X, .int x2, .int v5, .int (J 0), .int (J i + (J 1))] [] τ6 Q))) (fun _ _ => False)) := by
    intro s g τ F k c hlen hgf hR2
    obtain ⟨g, rfl⟩ : ∃ g', g = g' + 1 := ⟨g - 1, by omega⟩
    have hS : rSoL tx n atom (g + 1) s q = if isW tx n q w_or = true then bnd (rEv tx n atom (aftW tx n q)) (fun b p => rSoL tx n atom g (s.1 ++ b.1 ++ [(13, 0)], fun e => s.2 e ||| b.2 e) p) else .inr (s, q) := rfl
    rw [hS] at hR2
    refine c_tw k (hw.fr F (Prr.w hX hd) 44 w_or (by decide)) (fun e τ2 f2 k2 => ⟨fun c => absurd c (by decide), fun _ => ?_⟩) (fun e => ⟨fun _ => ⟨fun _ => ?_, fun c => absurd rfl c⟩, fun c => absurd rfl c⟩)
    · have hlen2 := isW_aft hle.1 e (by decide)
      have hlen3 : q + 2 ≤ aftW tx n q := hlen2.2
      rw [if_pos e] at hR2
      refine HD τ2 _ (some (s, g)) none (F.tr (f2.mono PtX_rr)) hlen3 k2 ?_ ?_ ?_ ?_ hR2
      · show COD τ2 R (cs ++ (s.1 ++ []))
        rw [List.append_nil]; exact c.t f2 hd
      · show (cs ++ (s.1 ++ [])).length + 1 + 0 ≤ _
        rw [List.append_nil]; omega
      · show n < _ + g; omega
      · show n < _ + 401; omega
    · rw [if_neg (by rw [e]; decide)] at hR2
      exact hQ τ F (by rw [hR2]; exact ⟨k, c⟩)
  rw [hE] at hR
  refine c_tw h (hw 42 w_and (by decide)) (fun e τ f2 k2 => ⟨k2.1, f2.sh n8, ?_⟩) (fun e => ⟨h.1, n8, ?_⟩)
  · rw [if_pos e] at hR
    have hlen2 := isW_aft hle.1 e (by decide)
    have hlen3 : q + 3 ≤ aftW tx n q := hlen2.2
    have H := HD τ (aftW tx n q) o (some (A, f)) (f2.mono PtX_rr) (by omega) k2 (hc.t f2 hd) (by show (cs ++ (Sfn o ++ A.1)).length + pfn o + 1 ≤ _; omega) (by omega) (by show n < _ + f; omega) hR
    cases o with
    | none => exact ⟨fun _ => ⟨fun c => absurd c (by decide), fun _ => ⟨fun _ => ⟨fun c => absurd c (by decide), fun _ => H⟩, fun c => absurd rfl c⟩⟩, fun c => absurd rfl c⟩
    | some s => exact ⟨fun c => absurd c (by decide : ¬ J 1 = J 0), fun _ => ⟨fun c => absurd c (by decide), fun _ => ⟨fun c => absurd c (by decide), fun _ => ⟨fun c => absurd c (by decide : ¬ J 1 = J 0), fun _ => H⟩⟩⟩⟩
  · rw [if_neg (by rw [e]; decide)] at hR
    cases o with
    | none =>
      refine ⟨fun _ => ⟨fun _ => ?_, fun c => absurd rfl c⟩, fun c => absurd rfl c⟩
      exact OR (s := A) (g := 401) Fr.rf h hc hl hg hR
    | some s =>
      obtain ⟨s, g⟩ := s
      have hc : COD σ R (cs ++ (s.1 ++ A.1)) := hc
      have hl : (cs ++ (s.1 ++ A.1)).length + 1 ≤ q := hl
      refine ⟨fun c => absurd c (by decide : ¬ J 1 = J 0), fun _ => ⟨fun _ => ?_, fun c => absurd rfl c⟩⟩
      refine c_put n8 hc (by omega) (by omega) (by omega) (fun τ f2 c2 => ⟨(h.pt_ f2 hd).1, fun _ => ?_, fun c => absurd rfl c⟩)
      have e5 : cs ++ (s.1 ++ A.1) ++ [(13, 0)] = cs ++ (s.1 ++ A.1 ++ [(13, 0)]) := by simp
      rw [e5] at c2
      refine OR (s := (s.1 ++ A.1 ++ [(13, 0)], fun e => s.2 e ||| A.2 e)) (g := g) (f2.mono Ppt_rr) (h.pt_ f2 hd) c2 ?_ hg hR
      show (cs ++ (s.1 ++ A.1 ++ [(13, 0)])).length ≤ q
      rw [← e5, List.length_append]; exact hl
theorem anC_of (hd : X + 1 < R) (hX : 96 ≤ X) {k : Nat} (hk : k ≤ 6) (hA : AtC X R tx n k) : AnC X R tx n k := by
  intro d B Q σ p cs h n8 hw hc hl hQ
  have sA := rAtom_s (tx := tx) (n := n) k hk
  rw [show d + 2 * k + 10 = (d + 2 * k + 4) + 6 by omega]
  generalize hR0 : rAny tx n (rAtom tx n k) p = R0 at hQ
  have HD : ∀ m i p o an τ, n < p + m → 2 * i ≤ p → Fr (Prr X R) σ τ → CTg τ X tx n p → COD τ R (cs ++ (Sfn o ++ Sfn an)) → (cs ++ (Sfn o ++ Sfn an)).length + pfn o + pfn an ≤ p → n < p + ffn o → n < p + ffn an → R0 = bnd (Efn tx n (rAtom tx n k) an p) (KSf tx n (rAtom tx n k) o) → WP gT (d + 2 * k + 4 + 6) B 66 8 [.ref R, .ref X, .int (J (6 - k)), .int (xfn o), .int (xfn an), .int (J i)] [] τ Q := by
    intro m
    induction m with
    | zero => intro i p o an τ hm hi F h hc hl hfo hfa hR; have := h.le; omega
    | succ m ih =>
      intro i p o an τ hm hi F h hc hl hfo hfa hR
      have hle := h.le
      have hwτ := hw.fr F (Prr.w hX hd)
      refine g_66_8 (F.sh n8) ⟨fun c => ?_, fun _ => ?_⟩
      · exfalso; rw [J_le (by omega) (by omega)] at c; omega
      rw [show d + 2 * k + 4 + 5 = d + 2 * k + 9 by omega]
      refine hA _ _ _ τ p _ h (F.sh n8) hwτ hc (by omega) (fun τ2 f2 L => ?_)
      have F2 := F.tr f2
      cases ea : rAtom tx n k p with
      | inl f0 =>
        rw [ea] at L
        have hR2 : R0 = .inl f0 := by
          rw [hR]
          cases an with
          | none => unfold Efn rEv; dsimp only; rw [bnd_l ea]; rfl
          | some a => unfold Efn; dsimp only; rw [bnd_l ea]; rfl
        have BT : ∀ {τ3 : Sto}, Fr (Prr X R) σ τ3 → CTb τ3 X tx n f0 → CZ τ3 R → T66a (d + 2 * k + 4) B R X (J (6 - k)) (xfn o) (J i) Q τ3 := by
          intro τ3 F3 b3 z3
          have fin := hQ τ3 F3 (by rw [hR2]; exact ⟨b3, z3⟩)
          refine c_tw_b b3 ⟨b3.1, F3.sh n8, ?_⟩
          cases o with
          | none => exact ⟨fun _ => ⟨fun _ => c_tw_b b3 ⟨fun _ => ⟨fun _ => fin, fun c => absurd rfl c⟩, fun c => absurd rfl c⟩, fun c => absurd rfl c⟩, fun c => absurd rfl c⟩
          | some s =>
            refine ⟨fun c => absurd c (by decide : ¬ J 1 = J 0), fun _ => ⟨fun _ => c_put_b (F3.sh n8) z3 (fun τ4 f4 z4 => ⟨(b3.pt_ f4 hd).1, fun _ => c_tw_b (b3.pt_ f4 hd) ⟨fun _ => ⟨fun _ => ?_, fun c => absurd rfl c⟩, fun c => absurd rfl c⟩, fun c => absurd rfl c⟩), fun c => absurd rfl c⟩⟩
            exact hQ τ4 (F3.tr (f4.mono Ppt_rr)) (by rw [hR2]; exact ⟨b3.pt_ f4 hd, z4⟩)
        refine ⟨L.1.1, F2.sh n8, ?_⟩
        cases an with
        | none => exact ⟨fun _ => BT F2 L.1 L.2, fun c => absurd rfl c⟩
        | some a => exact ⟨fun c => absurd c (by decide : ¬ J 1 = J 0), fun _ => c_put_b (F2.sh n8) L.2 (fun τ3 f3 z3 => ⟨(L.1.pt_ f3 hd).1, BT (F2.tr (f3.mono Ppt_rr)) (L.1.pt_ f3 hd) z3⟩)⟩
      | inr b =>
        obtain ⟨b, q⟩ := b
        rw [ea] at L
        obtain ⟨L1, L2⟩ := L
        have b1 := (sA _ _ _ hle.1 ea).2.1
        have hb1 := b1.1
        have hb2 := b1.2.1
        have hb3 := b1.2.2.1
        refine ⟨L1.1, F2.sh n8, ?_⟩
        have HD2 : ∀ τ3, Fr (Prr X R) σ τ3 → ∀ τ p o an, Fr (Prr X R) τ3 τ → q + 2 ≤ p → CTg τ X tx n p → COD τ R (cs ++ (Sfn o ++ Sfn an)) → (cs ++ (Sfn o ++ Sfn an)).length + pfn o + pfn an ≤ p → n < p + ffn o → n < p + ffn an → R0 = bnd (Efn tx n (rAtom tx n k) an p) (KSf tx n (rAtom tx n k) o) → WP gT (d + 2 * k + 4 + 6) B 66 8 [.ref R, .ref X, .int (J (6 - k)), .int (xfn o), .int (xfn an), .int (J i + J 1)] [] τ Q := by
          intro τ3 F3 τ p2 o2 an2 f4 h1 h2 h3 h4 h5 h6 h7
          rw [J_add]
          exact ih (i + 1) p2 o2 an2 τ (by omega) (by omega) (F3.tr f4) h2 h3 h4 h5 h6 h7
        cases an with
        | none =>
          refine ⟨fun _ => ?_, fun c => absurd rfl c⟩
          have e5 : cs ++ (Sfn o ++ Sfn none) ++ b.1 = cs ++ (Sfn o ++ b.1) := by simp [Sfn]
          have l5 : (cs ++ (Sfn o ++ b.1)).length = (cs ++ (Sfn o ++ Sfn none)).length + b.1.length := by rw [← e5, List.length_append (as := cs ++ (Sfn o ++ Sfn none))]
          rw [e5] at L2
          have hl : (cs ++ (Sfn o ++ Sfn none)).length + pfn o + 0 ≤ p := hl
          exact c_anyK (A := b) (f := 401) L1 (F2.sh n8) hd hX (hw.fr F2 (Prr.w hX hd)) L2 (by omega) (by omega) (by omega) (by rw [hR]; unfold Efn rEv; dsimp only; rw [bnd_r ea]) (fun τ4 f4 c4 => hQ τ4 (F2.tr f4) c4) (HD2 τ2 F2)
        | some a =>
          obtain ⟨a, f⟩ := a
          refine ⟨fun c => absurd c (by decide : ¬ J 1 = J 0), fun _ => ?_⟩
          have l5 : (cs ++ (Sfn o ++ a.1) ++ b.1).length = (cs ++ (Sfn o ++ a.1)).length + b.1.length := List.length_append
          have hl : (cs ++ (Sfn o ++ a.1)).length + pfn o + 1 ≤ p := hl
          have L2 : COD τ2 R (cs ++ (Sfn o ++ a.1) ++ b.1) := L2
          refine c_put (F2.sh n8) L2 (by omega) (by omega) (by omega) (fun τ3 f3 c3 => ⟨(L1.pt_ f3 hd).1, ?_⟩)
          have F3 := F2.tr (f3.mono Ppt_rr)
          have e6 : cs ++ (Sfn o ++ a.1) ++ b.1 ++ [(12, 0)] = cs ++ (Sfn o ++ (a.1 ++ b.1 ++ [(12, 0)])) := by simp
          have l6 : (cs ++ (Sfn o ++ (a.1 ++ b.1 ++ [(12, 0)]))).length = (cs ++ (Sfn o ++ a.1) ++ b.1).length + 1 := by rw [← e6, List.length_append (as := cs ++ (Sfn o ++ a.1) ++ b.1)]; rfl
          rw [e6] at c3
          have hfa : n < p + f := hfa
          exact c_anyK (A := (a.1 ++ b.1 ++ [(12, 0)], fun e => a.2 e &&& b.2 e)) (f := f) (L1.pt_ f3 hd) (F3.sh n8) hd hX (hw.fr F3 (Prr.w hX hd)) c3 (by dsimp only; omega) (by omega) (by omega) (by rw [hR]; unfold Efn; dsimp only; rw [bnd_r ea]) (fun τ4 f4 c4 => hQ τ4 (F3.tr f4) c4) (HD2 τ3 F3)
  have hle := h.le
  refine g_66_0 (HD (n + 1) 0 p none none σ (by omega) (by omega) Fr.rf h ?_ ?_ ?_ ?_ ?_)
  · show COD σ R (cs ++ [])
    rw [List.append_nil]; exact hc
  · show (cs ++ []).length + 0 + 0 ≤ p
    rw [List.append_nil]; omega
  · show n < p + 401; omega
  · show n < p + 401; omega
  · rw [← hR0]; rfl
theorem atC_all (hd : X + 1 < R) (hX : 96 ≤ X) : ∀ k, k ≤ 6 → AtC X R tx n k := by
  intro k
  induction k with
  | zero => intro _; exact atC_0 hd hX
  | succ k ih => intro hk; exact atC_s hd hX hk (ih (by omega)) (anC_of hd hX (by omega) (ih (by omega)))
/-- a condition -/
theorem c_tellAny (h : CTg σ X tx n p) (n8 : S_8 σ R) (hd : X + 1 < R) (hX : 96 ≤ X) (hw : WRD σ) (hc : COD σ R cs) (hl : cs.length ≤ p) (hQ : ∀ τ, Fr (Prr X R) σ τ → CRs τ X R tx n cs (rAny tx n (rAtom tx n 6) p) → Q (.inl none) τ) : WP gT (d + 22) B 66 0 [.ref R, .ref X, .int (J 0), .retAddr 0, .retAddr 0, .retAddr 0] [] σ Q :=
  anC_of hd hX (Nat.le_refl 6) (atC_all hd hX 6 (Nat.le_refl 6)) d B Q σ p cs h n8 hw hc hl hQ
