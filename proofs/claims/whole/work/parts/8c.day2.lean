/-! ===== a day takes all from another: its loops ===== -/
variable {d : Nat} {B : Nat × Nat} {Q : Out → Sto → Prop} {P : Nat → Nat → Prop} {σ τ : Sto} {x0 x1 y0 : Nat} {mv mv' kv : Mem} {img : Bool} {tp tp' : Mem} {n n' : Nat} {fl fl' : Option Nat}
theorem c_logs (s0 : S_2 σ x0) (s1 : S_2 σ x1) (hd : x0 + 37 ≤ x1 ∨ x1 + 37 ≤ x0) (hb : ∀ l, l < 16 → sI σ (x1 + 36) l = J 0 ∨ sI σ (x1 + 36) l = J 1) (hQ : ∀ τ, Fr (fun p _ => p = x0 + 36) σ τ → (∀ j, j < 16 → sI τ (x0 + 36) j = sI σ (x1 + 36) j) → Q (.inl none) τ) : WP gT (d + 4) B 20 164 [.ref x0, .ref x1, .int (J 0)] [] σ Q := by
  have L : ∀ i τ, i ≤ 16 → (Fr (fun p _ => p = x0 + 36) σ τ ∧ ∀ j, j < i → sI τ (x0 + 36) j = sI σ (x1 + 36) j) → WP gT (d + 4) B 20 164 [.ref x0, .ref x1, .int (J i)] [] τ Q := by
    refine upto 16 ?_ ?_
    · intro i τ hi hI ih
      obtain ⟨hF, k1⟩ := hI
      refine g_20_164 (hF.sh s0) (hF.sh s1) ⟨fun c => ?_, fun _ => ⟨(by simp (disch := omega) only [J_add, J_mul, J_sub, J_cl, vp_J]; omega), (by simp (disch := omega) only [J_add, J_mul, J_sub, J_cl, vp_J]; omega), ?_, ?_⟩⟩
      · exfalso; simp (disch := omega) only [J_add, J_mul, J_sub, J_cl, J_lt, J_le, J_eq, vp_J, n1_ne, n1_lt, n1_le, n1_nlt, n1_nle] at c; omega
      · rw [J_cl (by omega), hF.i (by omega)]; exact hb i hi
      · rw [J_cl (by omega), J_add, hF.i (by omega)]
        refine ih _ ⟨hF.setI rfl, fun j hj => ?_⟩
        by_cases e : j = i
        · rw [e, sI_same]
        · rw [sI_any (by omega)]; exact k1 j (by omega)
    · intro τ hI
      exact g_20_164 (hI.1.sh s0) (hI.1.sh s1) ⟨fun _ => hQ τ hI.1 hI.2, fun c => absurd (by decide) c⟩
  exact L 0 σ (by omega) ⟨Fr.rf, fun j hj => by omega⟩
/-- the rows of openings -/
theorem c_rows (s0 : S_2 σ x0) (s1 : S_2 σ x1) (hd : x0 + 37 ≤ x1 ∨ x1 + 37 ≤ x0) (hQ : ∀ τ, Fr (fun p _ => x0 + 18 ≤ p ∧ p < x0 + 24) σ τ → (∀ o, o < 6 → ∀ j, j < 384 → sI τ (x0 + 18 + o) j = sI σ (x1 + 18 + o) j) → WP gT (d + 4) B 20 29 [.ref x0, .ref x1, .int (J 6)] [] τ Q) : WP gT (d + 4) B 20 29 [.ref x0, .ref x1, .int (J 0)] [] σ Q := by
  have L : ∀ i τ, i ≤ 6 → (Fr (fun p _ => x0 + 18 ≤ p ∧ p < x0 + 24) σ τ ∧ ∀ o, o < i → ∀ j, j < 384 → sI τ (x0 + 18 + o) j = sI σ (x1 + 18 + o) j) → WP gT (d + 4) B 20 29 [.ref x0, .ref x1, .int (J i)] [] τ Q := by
    refine upto 6 ?_ (fun τ hI => hQ τ hI.1 hI.2)
    intro i τ hi hI ih
    obtain ⟨hF, k1⟩ := hI
    refine g_20_29 (hF.sh s0) (hF.sh s1) ⟨fun c => ?_, fun _ => ⟨(by simp (disch := omega) only [J_add, J_mul, J_sub, J_cl, vp_J]; omega), (by simp (disch := omega) only [J_add, J_mul, J_sub, J_cl, vp_J]; omega), ?_⟩⟩
    · exfalso; simp (disch := omega) only [J_add, J_mul, J_sub, J_cl, J_lt, J_le, J_eq, vp_J, n1_ne, n1_lt, n1_le, n1_nlt, n1_nle] at c; omega
    · rw [J_cl (by omega), J_add]
      have r0 := q2_2_17 (hF.sh s0) i hi
      have r1 := q2_2_17 (hF.sh s1) i hi
      refine c_copyRow r1.2.1 r0.2.1 r1.2.2 r0.2.2 (by omega) (by omega) (fun τ' f e => ih τ' ⟨hF.tr (f.mono (fun p j k => by omega)), fun o ho j hj => ?_⟩)
      by_cases eo : o = i
      · rw [eo, e j hj]; exact hF.i (by omega)
      · rw [f.i (by omega)]; exact k1 o (by omega) j hj
  exact L 0 σ (by omega) ⟨Fr.rf, fun o ho => by omega⟩
