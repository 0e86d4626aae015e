/-! ===== texts: runs of bytes, words of the program ===== -/
variable {d : Nat} {B : Nat × Nat} {Q : Out → Sto → Prop} {P : Nat → Nat → Prop} {σ τ : Sto} {X y0 : Nat} {tx : Mem} {n : Nat}
theorem runE_step (b : Nat → Bool) {n p : Nat} (h : p ≤ n) : runE b n p = if p < n ∧ b p = true then runE b n (p + 1) else p := by
  unfold runE
  by_cases e : p = n
  · subst e
    rw [Nat.sub_self, if_neg (by omega)]
    show p + 0 = p
    omega
  · have e1 : n - p = (n - (p + 1)) + 1 := by omega
    rw [e1, show fstB (fun q => !b q) p (n - (p + 1) + 1) = if (!b p) = true then some p else fstB (fun q => !b q) (p + 1) (n - (p + 1)) from rfl]
    by_cases c : b p = true
    · rw [if_neg (by rw [c]; decide), if_pos ⟨by omega, c⟩]
      cases fstB (fun q => !b q) (p + 1) (n - (p + 1)) with
      | none => dsimp only; omega
      | some q => rfl
    · rw [if_pos (by cases h2 : b p with | true => exact absurd h2 c | false => rfl), if_neg (fun k => c k.2)]
theorem runE_hit (b : Nat → Bool) {n p : Nat} (h : p < n) (hb : b p = true) : runE b n p = runE b n (p + 1) := by
  rw [runE_step b (by omega), if_pos ⟨h, hb⟩]
theorem runE_stop (b : Nat → Bool) {n p : Nat} (h : p ≤ n) (hb : p < n → b p = false) : runE b n p = p := by
  rw [runE_step b h, if_neg (fun k => by rw [hb k.1] at k; exact absurd k.2 (by decide))]
theorem runE_b (b : Nat → Bool) {n : Nat} : ∀ p, p ≤ n → p ≤ runE b n p ∧ runE b n p ≤ n ∧ (runE b n p < n → b (runE b n p) = false) ∧ ∀ q, p ≤ q → q < runE b n p → b q = true := by
  refine upto0 (W := fun p => p ≤ runE b n p ∧ runE b n p ≤ n ∧ (runE b n p < n → b (runE b n p) = false) ∧ ∀ q, p ≤ q → q < runE b n p → b q = true) n (fun p hp ih => ?_) ?_
  · by_cases c : b p = true
    · rw [runE_hit b hp c]
      refine ⟨by omega, ih.2.1, ih.2.2.1, fun q h1 h2 => ?_⟩
      by_cases e : q = p
      · rw [e]; exact c
      · exact ih.2.2.2 q (by omega) h2
    · have c : b p = false := by cases h : b p with | true => exact absurd h c | false => rfl
      rw [runE_stop b (by omega) (fun _ => c)]
      exact ⟨Nat.le_refl _, by omega, fun _ => c, fun q h1 h2 => by omega⟩
  · rw [runE_stop b (Nat.le_refl _) (fun h => by omega)]
    exact ⟨Nat.le_refl _, Nat.le_refl _, fun h => by omega, fun q h1 h2 => by omega⟩
theorem runE_idem (b : Nat → Bool) {n p : Nat} (h : p ≤ n) : runE b n (runE b n p) = runE b n p := runE_stop b (runE_b b p h).2.1 (runE_b b p h).2.2.1
theorem runE_mid (b : Nat → Bool) {n e : Nat} (he : e ≤ n) {p : Nat} (hp : p ≤ e) (h : ∀ q, p ≤ q → q < e → b q = true) : runE b n p = runE b n e := by
  induction hk : e - p generalizing p with
  | zero => rw [show p = e by omega]
  | succ k ih => rw [runE_hit b (by omega) (h p (Nat.le_refl _) (by omega))]; exact ih (by omega) (fun q h1 h2 => h q (by omega) h2) (by omega)
theorem skp_b {p : Nat} (h : p ≤ n) : p ≤ skp tx n p ∧ skp tx n p ≤ n := ⟨(runE_b _ p h).1, (runE_b _ p h).2.1⟩
theorem skp_idem {p : Nat} (h : p ≤ n) : skp tx n (skp tx n p) = skp tx n p := runE_idem _ h
theorem skp_hit {p : Nat} (h : p < n) (e : tx p = 32) : skp tx n p = skp tx n (p + 1) := runE_hit _ h (by simp [e])
theorem skp_stop {p : Nat} (h : p ≤ n) (e : p < n → tx p ≠ 32) : skp tx n p = p := runE_stop _ h (fun k => by simp [e k])
theorem skp_ne {p : Nat} (h : p < n) (e : skp tx n p = p) : tx p ≠ 32 := fun c => by
  rw [skp_hit h c] at e
  have := (skp_b (tx := tx) (n := n) (p := p + 1) (by omega)).1
  omega
theorem dg_b {p : Nat} (h : p ≤ n) : p ≤ dgE tx n p ∧ dgE tx n p ≤ n := ⟨(runE_b _ p h).1, (runE_b _ p h).2.1⟩
theorem lt_b {p : Nat} (h : p ≤ n) : p ≤ ltE tx n p ∧ ltE tx n p ≤ n := ⟨(runE_b _ p h).1, (runE_b _ p h).2.1⟩
theorem isD_iff {q : Nat} : isD tx q = true ↔ 48 ≤ tx q ∧ tx q ≤ 57 := by unfold isD; simp
theorem isL_iff {q : Nat} : isL tx q = true ↔ 97 ≤ tx q ∧ tx q ≤ 122 := by unfold isL; simp
theorem isD_no {q : Nat} : isD tx q = false ↔ ¬ (48 ≤ tx q ∧ tx q ≤ 57) := by
  rw [← isD_iff]; cases isD tx q <;> simp
theorem isL_no {q : Nat} : isL tx q = false ↔ ¬ (97 ≤ tx q ∧ tx q ≤ 122) := by
  rw [← isL_iff]; cases isL tx q <;> simp
theorem dg_no {p : Nat} (h : p ≤ n) (e : p < n → isD tx p = false) : dgE tx n p = p := runE_stop _ h e
theorem lt_no {p : Nat} (h : p ≤ n) (e : p < n → isL tx p = false) : ltE tx n p = p := runE_stop _ h e
theorem dg_gt {p : Nat} (h : p < n) (e : isD tx p = true) : p < dgE tx n p := by
  have := (dg_b (tx := tx) (n := n) (p := p + 1) (by omega)).1
  unfold dgE; rw [runE_hit _ h e]; exact this
theorem lt_gt {p : Nat} (h : p < n) (e : isL tx p = true) : p < ltE tx n p := by
  have := (lt_b (tx := tx) (n := n) (p := p + 1) (by omega)).1
  unfold ltE; rw [runE_hit _ h e]; exact this
theorem aftW_b {p : Nat} (h : p ≤ n) : p ≤ aftW tx n p ∧ aftW tx n p ≤ n := by
  have h1 := lt_b (tx := tx) h
  have h2 := skp_b (tx := tx) h1.2
  unfold aftW; omega
theorem aftS_b {p : Nat} (h : p < n) : p < aftS tx n p ∧ aftS tx n p ≤ n := by
  have h2 := skp_b (tx := tx) (n := n) (p := p + 1) (by omega)
  unfold aftS; omega
theorem isW_lt {p : Nat} {w : List Nat} (h : isW tx n p w = true) : ltE tx n p - p = w.length := by
  unfold isW at h
  simp at h
  exact h.1
theorem isW_aft {p : Nat} {w : List Nat} (hp : p ≤ n) (h : isW tx n p w = true) (hw : 0 < w.length) : p < aftW tx n p ∧ p + w.length ≤ aftW tx n p := by
  have h1 := isW_lt h
  have h3 := lt_b (tx := tx) hp
  have h2 := skp_b (tx := tx) (n := n) (p := ltE tx n p) h3.2
  unfold aftW
  omega
/-- a word of the program -/
def SW (σ : Sto) (x : Nat) (w : List Nat) : Prop := (2 ≤ x ∧ x < 95 ∧ 0 < w.length ∧ w.length ≤ 10 ∧ ∀ j, j < w.length → w.getD j 0 ≤ 127) ∧ sK σ x = 19 ∧ sI σ x 1 = J 0 ∧ sP σ x 0 = some (x + 1) ∧ sK σ (x + 1) = 20 ∧ sZ σ (x + 1) = w.length ∧ ∀ j, j < w.length → sI σ (x + 1) j = J (w.getD j 0)
theorem SW.fr {x : Nat} {w : List Nat} (h : SW σ x w) (f : Fr P σ τ) (hP : ∀ p j, P p j → 96 ≤ p) : SW τ x w := by
  obtain ⟨h1, h2, h3, h4, h5, h6, h7⟩ := h
  refine ⟨h1, by rw [f.K]; exact h2, by rw [f.i (fun k => by have := hP _ _ k; omega)]; exact h3, by rw [f.P]; exact h4, by rw [f.K]; exact h5, by rw [f.Z]; exact h6, fun j hj => ?_⟩
  rw [f.i (fun k => by have := hP _ _ k; omega)]; exact h7 j hj
theorem SW.k {x : Nat} {w : List Nat} (h : SW σ x w) : sK σ x = 19 := h.2.1
theorem c_len {x : Nat} {w : List Nat} (h : SW σ x w) (hQ : Q (.inl (some (.int (J w.length)))) σ) : WP gT (d + 1) B 308 0 [.ref x] [] σ Q := by
  obtain ⟨h1, h2, h3, h4, h5, h6, h7⟩ := h
  refine g_308_0 h2 ⟨x + 1, h4, h5, by rw [h3]; decide, ?_⟩
  have e : (J (sZ σ (x + 1)) >>> (f_310 σ x &&& 31)) = J w.length := by
    rw [show f_310 σ x = J 0 from h3, h6]
    have : ∀ k, k ≤ 10 → J k >>> (J 0 &&& 31) = J k := by decide
    exact this _ h1.2.2.2.1
  rw [e]; exact hQ
theorem c_chr {x j : Nat} {w : List Nat} (h : SW σ x w) (hj : j < w.length) (hQ : Q (.inl (some (.int (J (w.getD j 0))))) σ) : WP gT (d + 3) B 309 0 [.ref x, .int (J j)] [] σ Q := by
  obtain ⟨h1, h2, h3, h4, h5, h6, h7⟩ := h
  have h127 := h1.2.2.2.2 j hj
  have e : ((((sI σ (x + 1) (J j).toNatClampNeg) &&& (J 255)).toUInt32 % 65536).toInt32) = J (w.getD j 0) := by
    rw [J_cl (by omega), h7 j hj]
    have : ∀ k, k ≤ 127 → (((J k) &&& (J 255)).toUInt32 % 65536).toInt32 = J k := by decide
    exact this _ h127
  have e2 : narrow .char (.int (J (w.getD j 0))) = .int (J (w.getD j 0)) := by
    have : ∀ k, k ≤ 127 → narrow .char (.int (J k)) = .int (J k) := by decide
    exact this _ h127
  refine g_309_0 h2 ⟨fun c => ?_, fun _ => ⟨x + 1, h4, h5, g_313_0 h5 (s_312 (fun c => ?_) ?_ ⟨h5, ?_, ?_, ?_⟩)⟩⟩
  · unfold f_311 at c; rw [h3, if_pos rfl] at c; exact absurd c (by decide)
  · rw [J_lt (by omega) (by omega)] at c; omega
  · rw [h6, J_lt (by omega) (by omega)]; exact hj
  · rw [h6, vp_J (by omega)]; exact hj
  · rw [e]; exact e2
  · rw [e]; exact ⟨e2, hQ⟩
