/-! ===== a day takes all from another: its rules ===== -/
variable {d : Nat} {B : Nat × Nat} {Q : Out → Sto → Prop} {σ τ : Sto} {x0 x1 : Nat}
theorem sP_any {p j q i : Nat} {v : Option Nat} (h : ¬ (q = p ∧ i = j)) : sP (setP σ p j v) q i = sP σ q i := by
  show (up (sP σ) p (up (sP σ p) j v)) q i = _
  by_cases e : q = p
  · subst e; rw [up_eq, up_ne (fun e2 => h ⟨rfl, e2⟩)]
  · rw [up_ne e]
theorem sP_same {p j : Nat} {v : Option Nat} : sP (setP σ p j v) p j = v := by
  show (up (sP σ) p (up (sP σ p) j v)) p j = v
  rw [up_eq, up_eq]
def rulS (σ : Sto) (x0 x1 : Nat) : Nat → Sto
  | 0 => σ
  | i + 1 => setP (rulS σ x0 x1 i) (x0 + 33) i (sP σ (x1 + 33) i)
theorem rul_o : ∀ i, sN (rulS σ x0 x1 i) = sN σ ∧ sK (rulS σ x0 x1 i) = sK σ ∧ sZ (rulS σ x0 x1 i) = sZ σ ∧ sI (rulS σ x0 x1 i) = sI σ ∧ sL (rulS σ x0 x1 i) = sL σ := by
  intro i
  induction i with
  | zero => exact ⟨rfl, rfl, rfl, rfl, rfl⟩
  | succ i ih => exact ih
theorem rul_n {p j : Nat} (hp : p ≠ x0 + 33) : ∀ i, sP (rulS σ x0 x1 i) p j = sP σ p j := by
  intro i
  induction i with
  | zero => rfl
  | succ i ih => exact (sP_any (fun e => hp e.1)).trans ih
theorem rul_y {j : Nat} : ∀ i, j < i → sP (rulS σ x0 x1 i) (x0 + 33) j = sP σ (x1 + 33) j := by
  intro i
  induction i with
  | zero => intro h; omega
  | succ i ih =>
    intro h
    by_cases e : j = i
    · subst e; exact sP_same
    · exact (sP_any (fun e2 => e e2.2)).trans (ih (by omega))
theorem ps2_33 : ∀ k, k < 36 → (ps_2.getD k (0, 0, 0)).1 ≠ 33 ∧ (ps_2.getD k (0, 0, 0)).1 < 37 := by decide
theorem rul_sh {o : Nat} (s : S_2 σ o) (h : o = x0 ∨ o + 37 ≤ x0 ∨ x0 + 37 ≤ o) (i : Nat) : S_2 (rulS σ x0 x1 i) o := by
  obtain ⟨_, e1, e2, _⟩ := rul_o (σ := σ) (x0 := x0) (x1 := x1) i
  refine ⟨fun k hk => by rw [e1, e2]; exact s.1 k hk, fun k hk => ?_⟩
  have := ps2_33 k hk
  rw [rul_n (by omega)]; exact s.2 k hk
theorem c_ruls (s0 : S_2 σ x0) (s1 : S_2 σ x1) (hd : x0 + 37 ≤ x1 ∨ x1 + 37 ≤ x0) (hb : ∀ i r, sP σ (x1 + 33) i = some r → sK σ r = 8) (hQ : WP gT (d + 4) B 20 109 [.ref x0, .ref x1, .int (J 4)] [] (rulS σ x0 x1 4) Q) : WP gT (d + 4) B 20 109 [.ref x0, .ref x1, .int (J 0)] [] σ Q := by
  have L : ∀ i τ, i ≤ 4 → τ = rulS σ x0 x1 i → WP gT (d + 4) B 20 109 [.ref x0, .ref x1, .int (J i)] [] τ Q := by
    refine upto 4 ?_ (fun τ e => by rw [e]; exact hQ)
    intro i τ hi e ih
    subst e
    have t0 : S_2 (rulS σ x0 x1 i) x0 := rul_sh s0 (by omega) i
    have t1 : S_2 (rulS σ x0 x1 i) x1 := rul_sh s1 (by omega) i
    have en : sP (rulS σ x0 x1 i) (x1 + 33) i = sP σ (x1 + 33) i := rul_n (by omega) i
    refine g_20_109 t1 t0 ⟨fun c => ?_, fun _ => g_20_114 t1 t0 (fun r hr => ?_) (by simp (disch := omega) only [J_add, J_mul, J_sub, J_cl, vp_J]; omega) ?_⟩
    · exfalso; simp (disch := omega) only [J_add, J_mul, J_sub, J_cl, J_lt, J_le, J_eq, vp_J, n1_ne, n1_lt, n1_le, n1_nlt, n1_nle] at c; omega
    · rw [J_cl (by omega), en] at hr
      rw [(rul_o i).2.1]; exact hb i r hr
    · rw [J_cl (by omega), J_add, en]; exact ih _ rfl
  exact L 0 σ (by omega) rfl
