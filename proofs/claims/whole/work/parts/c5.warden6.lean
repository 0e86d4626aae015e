/-! ===== warden: the class, the next order and the search ===== -/
variable {d : Nat} {B : Nat × Nat} {Q : Out → Sto → Prop} {P : Nat → Nat → Prop} {σ τ : Sto} {v i j k t p q X x0 y0 : Nat} {o s mv kv π tp : Mem} {l : List Nat} {img : Bool} {n : Nat} {fl : Option Nat} {r0 q0 pc : Nat}
theorem ARR.swp {a : Nat} (h : ARR σ a v o) (hi : i < v) (hj : j < v) : ARR (setI (setI σ a i (sI σ a j)) a j (sI σ a i)) a v (sw o i j) := by
  intro k hk
  unfold sw
  by_cases c : k = j
  · rw [if_pos c, c, sI_same]; exact h i hi
  · rw [if_neg c, sI_any (by omega)]
    by_cases c2 : k = i
    · rw [if_pos c2, c2, sI_same]; exact h j hj
    · rw [if_neg c2, sI_any (by omega)]; exact h k hk
theorem ARR.fr {a : Nat} (h : ARR σ a v o) (f : Fr P σ τ) (hP : ∀ j, ¬ P a j) : ARR τ a v o := fun k hk => (f.i (hP k)).trans (h k hk)
/-- what the next order is, behind low -/
def nxtA (v : Nat) (o : Mem) (low : Nat) : Mem := revF v (sw o low (highF o low (v - 1))) (low + 1) (v - 1)
theorem nxtF_n (h : lowF o (v - 1) = none) : nxtF v o = none := by unfold nxtF; rw [h]
theorem nxtF_s {low : Nat} (h : lowF o (v - 1) = some low) : nxtF v o = some (nxtA v o low) := by unfold nxtF; rw [h]; rfl
theorem highF_1 {low h : Nat} : highF o low (h + 1) = if h + 1 ≤ low + 1 ∨ o low ≤ o (h + 1) then h + 1 else highF o low h := rfl
theorem c_next (n0 : S_0 σ X) (hv6 : v ≤ 6) (ho : ∀ k, k < v → o k < 1000) (h1 : sI σ X 1 = J v) (hA : ARR σ (X + 1) v o)
    (hn : nxtF v o = none → Q (.inl (some (.int (J 0)))) σ) (hs : ∀ o', nxtF v o = some o' → ∀ τ, Fr (fun p _ => p = X + 1) σ τ → ARR τ (X + 1) v o' → Q (.inl (some (.int (J 1)))) τ) : WP gT (d + 1) B 7 0 [.ref X, .retAddr 0, .retAddr 0, .retAddr 0, .retAddr 0] [] σ Q := by
  have L3 : ∀ t i j o2 τ low h, j < v → j ≤ i + t → i ≤ v → (∀ ρ, Fr (fun p _ => p = X + 1) σ ρ → ARR ρ (X + 1) v (revF t o2 i j) → Q (.inl (some (.int (J 1)))) ρ) → Fr (fun p _ => p = X + 1) σ τ → ARR τ (X + 1) v o2 → WP gT (d + 1) B 7 93 [.ref X, .int (J low), .int (J h), .int (J i), .int (J j)] [] τ Q := by
    intro t
    induction t with
    | zero =>
      intro i j o2 τ low h hj hji hi hq f hA2
      exact g_7_93 (f.sh n0) ⟨fun _ => hq τ f hA2, fun c => absurd (by rw [J_le (by omega) (by omega)]; omega) c⟩
    | succ t ih =>
      intro i j o2 τ low h hj hji hi hq f hA2
      have hq : ∀ ρ, Fr (fun p _ => p = X + 1) σ ρ → ARR ρ (X + 1) v (if j ≤ i then o2 else revF t (sw o2 i j) (i + 1) (j - 1)) → Q (.inl (some (.int (J 1)))) ρ := hq
      refine g_7_93 (f.sh n0) ⟨fun c => ?_, fun c => ?_⟩
      · rw [J_le (by omega) (by omega)] at c
        rw [if_pos c] at hq; exact hq τ f hA2
      · rw [J_le (by omega) (by omega)] at c
        rw [if_neg c] at hq
        refine g_8_0 (f.sh n0) ⟨(by simp (disch := omega) only [J_add, J_mul, J_sub, J_cl, vp_J]; omega), (by simp (disch := omega) only [J_add, J_mul, J_sub, J_cl, vp_J]; omega), (by simp (disch := omega) only [J_add, J_mul, J_sub, J_cl, vp_J]; omega), (by simp (disch := omega) only [J_add, J_mul, J_sub, J_cl, vp_J]; omega), ?_⟩
        dsimp only [oV]
        rw [J_cl (by omega), J_cl (by omega), J_add, show J j + -J 1 = J (j - 1) by rw [show j = (j - 1) + 1 by omega, Jn1]; rfl]
        exact ih (i + 1) (j - 1) _ _ low h (by omega) (by omega) (by omega) hq ((f.setI rfl).setI rfl) (hA2.swp (by omega) (by omega))
  have L2 : ∀ low h, low + 1 < v → low + 1 ≤ h → h < v → lowF o (v - 1) = some low → highF o low h = highF o low (v - 1) → WP gT (d + 1) B 7 47 [.ref X, .int (J low), .int (J h), .retAddr 0, .retAddr 0] [] σ Q := by
    intro low h
    induction h with
    | zero => intro _ h; omega
    | succ h ih =>
      intro hl hlh hh hlo he
      have swp : highF o low (v - 1) = h + 1 → WP gT d (0, 0) 8 0 [.ref X, .int (J low), .int (J (h + 1)), .retAddr 0] [] σ (oV (fun τ2 => (S_0 τ2 X ∧ WP gT (d + 1) B 7 93 [.ref X, .int (J low), .int (J (h + 1)), .int (J low + J 1), .int ((sI τ2 X 1) - (J 1))] [] τ2 Q)) (fun _ _ => False)) := fun e => by
        refine g_8_0 n0 ⟨(by simp (disch := omega) only [J_add, J_mul, J_sub, J_cl, vp_J]; omega), (by simp (disch := omega) only [J_add, J_mul, J_sub, J_cl, vp_J]; omega), (by simp (disch := omega) only [J_add, J_mul, J_sub, J_cl, vp_J]; omega), (by simp (disch := omega) only [J_add, J_mul, J_sub, J_cl, vp_J]; omega), ?_⟩
        dsimp only [oV]
        rw [J_cl (by omega), J_cl (by omega)]
        have f : Fr (fun p _ => p = X + 1) σ (setI (setI σ (X + 1) low (sI σ (X + 1) (h + 1))) (X + 1) (h + 1) (sI σ (X + 1) low)) := (Fr.rf.setI (by omega)).setI (by omega)
        refine ⟨f.sh n0, ?_⟩
        rw [f.i (by omega), h1, J_sub (by omega), J_add]
        refine L3 v (low + 1) (v - 1) (sw o low (h + 1)) _ low (h + 1) (by omega) (by omega) (by omega) (fun ρ f2 hA2 => hs (nxtA v o low) (nxtF_s hlo) ρ f2 ?_) f (hA.swp (by omega) (by omega))
        unfold nxtA
        rw [e]; exact hA2
      rw [highF_1] at he
      refine g_7_47 n0 ⟨fun c => ?_, fun c => ⟨(by simp (disch := omega) only [J_add, J_mul, J_sub, J_cl, vp_J]; omega), (by simp (disch := omega) only [J_add, J_mul, J_sub, J_cl, vp_J]; omega), fun c2 => ?_, fun c2 => ?_⟩⟩
      · rw [J_add, J_le (by omega) (by omega)] at c
        rw [if_pos (Or.inl c)] at he
        exact swp he.symm
      · rw [J_cl (by omega), J_cl (by omega), hA low (by omega), hA (h + 1) hh, J_le (by have := ho low (by omega); omega) (by have := ho (h + 1) hh; omega)] at c2
        rw [if_pos (Or.inr c2)] at he
        exact swp he.symm
      · rw [J_cl (by omega), J_cl (by omega), hA low (by omega), hA (h + 1) hh, J_le (by have := ho low (by omega); omega) (by have := ho (h + 1) hh; omega)] at c2
        rw [J_add, J_le (by omega) (by omega)] at c
        rw [if_neg (fun k => k.elim c c2)] at he
        rw [Jn1]
        exact ih hl (by omega) (by omega) hlo he
  have L1 : ∀ k, k ≤ v - 1 → lowF o k = lowF o (v - 1) → WP gT (d + 1) B 7 7 [.ref X, .int (VJ k), .retAddr 0, .retAddr 0, .retAddr 0] [] σ Q := by
    intro k
    induction k with
    | zero =>
      intro _ he
      rw [VJ_0]
      exact g_7_7 n0 ⟨fun _ => ⟨fun c => absurd c (by decide), fun _ => hn (nxtF_n he.symm)⟩, fun c => absurd (by decide) c⟩
    | succ k ih =>
      intro hk he
      rw [VJ_s]
      have he : (if o k ≤ o (k + 1) then some k else lowF o k) = lowF o (v - 1) := he
      have ok := ho k (by omega)
      have ok1 := ho (k + 1) (by omega)
      refine g_7_7 n0 ⟨fun c => ?_, fun _ => ⟨(by simp (disch := omega) only [J_add, J_mul, J_sub, J_cl, vp_J]; omega), ?_, fun c => ?_, fun c => ?_⟩⟩
      · exfalso; rw [J_lt (by omega) (by omega)] at c; omega
      · rw [J_add]; exact (by simp (disch := omega) only [J_add, J_mul, J_sub, J_cl, vp_J]; omega)
      · rw [J_add, J_cl (by omega), J_cl (by omega), hA k (by omega), hA (k + 1) (by omega), J_le (by omega) (by omega)] at c
        rw [if_pos c] at he
        refine ⟨fun _ => ?_, fun c => absurd (by rw [J_le (by omega) (by omega)]; omega) c⟩
        rw [h1, J_sub (by omega)]
        exact L2 k (v - 1) (by omega) (by omega) (by omega) he.symm rfl
      · rw [J_add, J_cl (by omega), J_cl (by omega), hA k (by omega), hA (k + 1) (by omega), J_le (by omega) (by omega)] at c
        rw [if_neg c] at he
        exact ih (by omega) he
  refine g_7_0 n0 ?_
  rw [h1]
  by_cases c0 : v = 0
  · subst c0
    exact g_7_7 n0 ⟨fun _ => ⟨fun c => absurd c (by decide), fun _ => hn (nxtF_n rfl)⟩, fun c => absurd (by decide) c⟩
  · have e : J v - J 2 = VJ (v - 1) := by
      by_cases c1 : v = 1
      · subst c1; decide
      · rw [J_sub (by omega), show v - 1 = (v - 2) + 1 by omega, VJ_s]
    rw [e]
    exact L1 (v - 1) (Nat.le_refl _) rfl
