/-! ===== the reference's text ===== -/
variable {d : Nat} {B : Nat × Nat} {Q : Out → Sto → Prop} {P : Nat → Nat → Prop} {σ τ : Sto} {X y0 : Nat} {tx : Mem} {n p f0 : Nat} {w : List Nat} {bs : Option Nat}
def RBy (σ : Sto) (y0 : Nat) (tx : Mem) (n : Nat) (bs : Option Nat) : Prop := S_12 σ y0 ∧ sI σ y0 8 = J n ∧ n ≤ 400 ∧ (∀ k, k < n → tx k ≤ 255) ∧ sI σ y0 7 = oJ bs ∧
  (bs = none → ∀ k, k < n → sI σ (y0 + 4) k = J (tx k)) ∧ (∀ b, bs = some b → b + n ≤ 4488 ∧ 424 ≤ b ∧ ∀ k, k < n → sI σ (y0 + 1) (b + k) = J (tx k))
theorem RBy.fr (h : RBy σ y0 tx n bs) (f : Fr P σ τ) (hP : ∀ p j, P p j → (p = y0 → j ≠ 7 ∧ j ≠ 8) ∧ p ≠ y0 + 4 ∧ (p = y0 + 1 → j < 424)) : RBy τ y0 tx n bs := by
  obtain ⟨h1, h2, h3, h4, h5, h6, h7⟩ := h
  refine ⟨f.sh h1, ?_, h3, h4, ?_, fun e k hk => ?_, fun b e => ⟨(h7 b e).1, (h7 b e).2.1, fun k hk => ?_⟩⟩
  · rw [f.i (fun k => ((hP _ _ k).1 rfl).2 rfl)]; exact h2
  · rw [f.i (fun k => ((hP _ _ k).1 rfl).1 rfl)]; exact h5
  · rw [f.i (fun k => (hP _ _ k).2.1 rfl)]; exact h6 e k hk
  · have := (h7 b e).2.1
    rw [f.i (fun k => by have := (hP _ _ k).2.2 rfl; omega)]; exact (h7 b e).2.2 k hk
/-- the letter at k -/
theorem RBy.let_ (h : RBy σ y0 tx n bs) {k : Nat} (hk : k < n) : f_174 σ y0 (J k) = J (tx k) ∧ ((sI σ y0 7 = -J 1 → vp_in (J k) 400 ∧ True) ∧ (¬ sI σ y0 7 = -J 1 → vp_in (sI σ y0 7 + J k) 4488 ∧ True)) := by
  obtain ⟨h1, h2, h3, h4, h5, h6, h7⟩ := h
  unfold f_174
  cases bs with
  | none =>
    have h5 : sI σ y0 7 = -J 1 := h5
    rw [if_pos h5, J_cl (by omega)]
    exact ⟨h6 rfl k hk, fun _ => ⟨(by simp (disch := omega) only [J_add, J_mul, J_sub, J_cl, vp_J]; omega), trivial⟩, fun c => absurd h5 c⟩
  | some b =>
    have h7 := h7 b rfl
    have h5 : sI σ y0 7 = J b := h5
    rw [h5, if_neg (by rw [n1_ne (by omega)]; exact id), J_add, J_cl (by omega)]
    exact ⟨h7.2.2 k hk, fun c => by rw [n1_ne (by omega)] at c; exact c.elim, fun _ => ⟨(by simp (disch := omega) only [J_add, J_mul, J_sub, J_cl, vp_J]; omega), trivial⟩⟩
def P9 (y0 : Nat) : Nat → Nat → Prop := fun p j => p = y0 ∧ j = 9
def PYt (y0 : Nat) : Nat → Nat → Prop := fun p j => p = y0 ∧ (j = 9 ∨ j = 10)
theorem P9_Y : ∀ p j, P9 y0 p j → PYt y0 p j := fun p j h => ⟨h.1, Or.inl h.2⟩
theorem RBy.y (h : RBy σ y0 tx n bs) (f : Fr (PYt y0) σ τ) : RBy τ y0 tx n bs := h.fr f (fun p j k => by unfold PYt at k; omega)
def RTg (σ : Sto) (y0 : Nat) (tx : Mem) (n : Nat) (bs : Option Nat) (p : Nat) : Prop := RBy σ y0 tx n bs ∧ sI σ y0 10 = -J 1 ∧ ∃ a, sI σ y0 9 = J a ∧ a ≤ n ∧ skp tx n a = p
def RTb (σ : Sto) (y0 : Nat) (tx : Mem) (n : Nat) (bs : Option Nat) (f m : Nat) : Prop := RBy σ y0 tx n bs ∧ f ≤ n ∧ sI σ y0 10 = J f ∧ ∃ a, sI σ y0 9 = J a ∧ a ≤ 400 + m
theorem RTg.fr (h : RTg σ y0 tx n bs p) (f : Fr P σ τ) (hP : ∀ p j, P p j → (p = y0 → j ≠ 7 ∧ j ≠ 8 ∧ j ≠ 9 ∧ j ≠ 10) ∧ p ≠ y0 + 4 ∧ (p = y0 + 1 → j < 424)) : RTg τ y0 tx n bs p := by
  obtain ⟨h1, h2, h3⟩ := h
  refine ⟨h1.fr f (fun p j k => by have := hP _ _ k; omega), ?_, ?_⟩
  · rw [f.i (fun k => ((hP _ _ k).1 rfl).2.2.2 rfl)]; exact h2
  · rw [f.i (fun k => ((hP _ _ k).1 rfl).2.2.1 rfl)]; exact h3
theorem RTb.fr {m : Nat} (h : RTb σ y0 tx n bs f0 m) (f : Fr P σ τ) (hP : ∀ p j, P p j → (p = y0 → j ≠ 7 ∧ j ≠ 8 ∧ j ≠ 9 ∧ j ≠ 10) ∧ p ≠ y0 + 4 ∧ (p = y0 + 1 → j < 424)) : RTb τ y0 tx n bs f0 m := by
  obtain ⟨h1, h2, h3, h4⟩ := h
  refine ⟨h1.fr f (fun p j k => by have := hP _ _ k; omega), h2, ?_, ?_⟩
  · rw [f.i (fun k => ((hP _ _ k).1 rfl).2.2.2 rfl)]; exact h3
  · rw [f.i (fun k => ((hP _ _ k).1 rfl).2.2.1 rfl)]; exact h4
theorem RTb.up {m m2 : Nat} (h : RTb σ y0 tx n bs f0 m) (hm : m ≤ m2) : RTb σ y0 tx n bs f0 m2 := by
  obtain ⟨h1, h2, h3, a, h4, h5⟩ := h
  exact ⟨h1, h2, h3, a, h4, by omega⟩
theorem RTg.le (h : RTg σ y0 tx n bs p) : p ≤ n ∧ n ≤ 400 ∧ skp tx n p = p := by
  obtain ⟨h1, h2, a, h3, h4, h5⟩ := h
  have := skp_b (tx := tx) h4
  have h6 := skp_idem (tx := tx) h4
  rw [h5] at h6 this
  exact ⟨this.2, h1.2.2.1, h6⟩
theorem RTb.le {m : Nat} (h : RTb σ y0 tx n bs f0 m) : f0 ≤ n ∧ n ≤ 400 := ⟨h.2.1, h.1.2.2.1⟩
theorem RTb.bad {m : Nat} (h : RTb σ y0 tx n bs f0 m) : ¬ sI σ y0 10 = -J 1 := by
  have hl := h.le
  rw [h.2.2.1, n1_ne (by omega)]; exact id
/-- blanks passed over -/
theorem r_skip_ (h : RBy σ y0 tx n bs) {a : Nat} (h9 : sI σ y0 9 = J a) (ha : a ≤ n) (hQ : ∀ τ, Fr (P9 y0) σ τ → sI τ y0 9 = J (skp tx n a) → Q (.inl none) τ) : WP gT (d + 1) B 175 0 [.ref y0] [] σ Q := by
  have hn := h.2.2.1
  have L : ∀ k, k ≤ n → ∀ τ, Fr (P9 y0) σ τ → sI τ y0 9 = J k → skp tx n k = skp tx n a → WP gT (d + 1) B 175 0 [.ref y0] [] τ Q := by
    refine upto0 (W := fun k => ∀ τ, Fr (P9 y0) σ τ → sI τ y0 9 = J k → skp tx n k = skp tx n a → WP gT (d + 1) B 175 0 [.ref y0] [] τ Q) n ?_ ?_
    · intro k hk ih τ f k9 hs
      have hb := h.y (f.mono P9_Y)
      have hl := hb.let_ hk
      have h4 := hb.2.2.2.1 k hk
      refine g_175_0 hb.1 ?_
      rw [hb.2.1, k9, hl.1]
      refine ⟨fun c => ?_, fun _ => ⟨hl.2, fun c => ?_, fun c => ?_⟩⟩
      · exfalso; simp (disch := omega) only [J_add, J_mul, J_sub, J_cl, J_lt, J_le, J_eq, vp_J, n1_ne, n1_lt, n1_le, n1_nlt, n1_nle] at c; omega
      · rw [J_eq (by omega) (by omega)] at c
        exact ih _ (f.setI ⟨rfl, rfl⟩) (by rw [sI_same, J_add]) (by rw [← skp_hit hk c]; exact hs)
      · rw [J_eq (by omega) (by omega)] at c
        rw [skp_stop (by omega) (fun _ => c)] at hs
        exact hQ τ f (by rw [← hs]; exact k9)
    · intro τ f k9 hs
      have hb := h.y (f.mono P9_Y)
      refine g_175_0 hb.1 ?_
      rw [hb.2.1, k9]
      rw [skp_stop (Nat.le_refl _) (fun k => by omega)] at hs
      exact ⟨fun _ => hQ τ f (by rw [← hs]; exact k9), fun c => absurd (by rw [J_le (by omega) (by omega)]; omega) c⟩
  exact L a ha σ Fr.rf h9 rfl
/-- the text, read as far as p, and the finger there -/
def RTp (σ : Sto) (y0 : Nat) (tx : Mem) (n : Nat) (bs : Option Nat) (p : Nat) : Prop := RBy σ y0 tx n bs ∧ sI σ y0 10 = -J 1 ∧ sI σ y0 9 = J p ∧ p ≤ n ∧ skp tx n p = p
theorem RTp.g (h : RTp σ y0 tx n bs p) : RTg σ y0 tx n bs p := ⟨h.1, h.2.1, p, h.2.2.1, h.2.2.2.1, h.2.2.2.2⟩
theorem r_skip (h : RTg σ y0 tx n bs p) (hQ : ∀ τ, Fr (P9 y0) σ τ → RTp τ y0 tx n bs p → Q (.inl none) τ) : WP gT (d + 1) B 175 0 [.ref y0] [] σ Q := by
  have hl := h.le
  obtain ⟨h1, h2, a, h3, h4, h5⟩ := h
  refine r_skip_ h1 h3 h4 (fun τ f k => hQ τ f ⟨h1.y (f.mono P9_Y), ?_, by rw [k, h5], hl.1, hl.2.2⟩)
  rw [f.i (by unfold P9; omega)]; exact h2
theorem r_skip_b {m : Nat} (h : RTb σ y0 tx n bs f0 m) (hm : m ≤ 100) (hQ : ∀ τ, Fr (P9 y0) σ τ → RTb τ y0 tx n bs f0 m → Q (.inl none) τ) : WP gT (d + 1) B 175 0 [.ref y0] [] σ Q := by
  have hl := h.le
  obtain ⟨h1, h2, h3, a, h4, h5⟩ := h
  by_cases c : a ≤ n
  · have hs := skp_b (tx := tx) c
    exact r_skip_ h1 h4 c (fun τ f k => hQ τ f ⟨h1.y (f.mono P9_Y), h2, by rw [f.i (by unfold P9; omega)]; exact h3, _, k, by omega⟩)
  · refine g_175_0 h1.1 ?_
    rw [h1.2.1, h4]
    exact ⟨fun _ => hQ σ Fr.rf ⟨h1, h2, h3, a, h4, h5⟩, fun c2 => absurd (by rw [J_le (by omega) (by omega)]; omega) c2⟩
theorem r_isSign (h : RTg σ y0 tx n bs p) {c : Nat} (hc : c < 256) (hQ : ∀ τ, Fr (P9 y0) σ τ → RTp τ y0 tx n bs p → Q (.inl (some (.int (if isS tx n p c = true then J 1 else J 0)))) τ) : WP gT (d + 2) B 176 0 [.ref y0, .int (J c)] [] σ Q := by
  have hl := h.le
  refine g_176_0 h.1.1 (r_skip h (fun τ f k => ⟨k.1.1, ?_, fun u hu => ?_⟩))
  · rw [k.1.2.1, k.2.2.1]
    intro c2
    rw [J_le (by omega) (by omega)] at c2
    exact ⟨(k.1.let_ (by omega)).2, trivial⟩
  · have hu2 : u = if isS tx n p c = true then J 1 else J 0 := by
      rw [hu, k.1.2.1, k.2.2.1]
      unfold isS
      by_cases c2 : n ≤ p
      · rw [if_pos (by rw [J_le (by omega) (by omega)]; exact c2), if_neg (by simp; omega)]
      · have h255 := k.1.2.2.2.1 p (by omega)
        rw [if_neg (by rw [J_le (by omega) (by omega)]; exact c2), (k.1.let_ (by omega)).1]
        by_cases e : tx p = c
        · rw [if_pos (by rw [e]), if_pos (by simp [e]; omega)]
        · rw [if_neg (by rw [J_eq (by omega) (by omega)]; exact e), if_neg (by simp [e])]
    refine ⟨?_, by rw [hu2]; exact hQ τ f k⟩
    rw [hu2]; split
    · exact Or.inr rfl
    · exact Or.inl rfl
theorem f162_J {a lo hi : Nat} (ha : a < 2147483648) (h1 : lo < 2147483648) (h2 : hi < 2147483648) : f_162 σ (J a) (J lo) (J hi) = if lo ≤ a ∧ a ≤ hi then J 1 else J 0 := by
  unfold f_162
  by_cases c1 : a < lo
  · rw [if_pos (by rw [J_lt ha h1]; exact c1), if_neg (by omega)]
  · rw [if_neg (by rw [J_lt ha h1]; exact c1)]
    by_cases c2 : hi < a
    · rw [if_pos (by rw [J_lt h2 ha]; exact c2), if_neg (by omega)]
    · rw [if_neg (by rw [J_lt h2 ha]; exact c2), if_pos (by omega)]
theorem r_isFigure (h : RTg σ y0 tx n bs p) (hQ : ∀ τ, Fr (P9 y0) σ τ → RTp τ y0 tx n bs p → Q (.inl (some (.int (if p < n ∧ isD tx p = true then J 1 else J 0)))) τ) : WP gT (d + 2) B 177 0 [.ref y0] [] σ Q := by
  have hl := h.le
  refine g_177_0 h.1.1 (r_skip h (fun τ f k => ⟨k.1.1, ?_, fun u hu => ?_⟩))
  · rw [k.1.2.1, k.2.2.1]
    intro c2
    rw [J_le (by omega) (by omega)] at c2
    exact ⟨(k.1.let_ (by omega)).2, trivial⟩
  · have hu2 : u = if p < n ∧ isD tx p = true then J 1 else J 0 := by
      rw [hu, k.1.2.1, k.2.2.1]
      by_cases c2 : n ≤ p
      · rw [if_pos (by rw [J_le (by omega) (by omega)]; exact c2), if_neg (by omega)]
      · have h255 := k.1.2.2.2.1 p (by omega)
        rw [if_neg (by rw [J_le (by omega) (by omega)]; exact c2), (k.1.let_ (by omega)).1, f162_J (by omega) (by omega) (by omega)]
        by_cases e : 48 ≤ tx p ∧ tx p ≤ 57
        · rw [if_pos e, if_neg (by decide), if_pos ⟨by omega, isD_iff.mpr e⟩]
        · rw [if_neg e, if_pos rfl, if_neg (fun q => e (isD_iff.mp q.2))]
    refine ⟨?_, by rw [hu2]; exact hQ τ f k⟩
    rw [hu2]; split
    · exact Or.inr rfl
    · exact Or.inl rfl
/-! a word -/
theorem r_has (h : RTg σ y0 tx n bs p) {x : Nat} (hy : y0 = 260) (hw : SW σ x w) (h1 : isW tx n p w = true → ∀ τ, Fr (P9 y0) σ τ → RTg τ y0 tx n bs (aftW tx n p) → Q (.inl (some (.int (J 1)))) τ) (h0 : isW tx n p w = false → ∀ τ, Fr (P9 y0) σ τ → RTp τ y0 tx n bs p → Q (.inl (some (.int (J 0)))) τ) : WP gT (d + 4) B 178 0 [.ref y0, .ref x, .retAddr 0, .retAddr 0] [] σ Q := by
  have hl := h.le
  have hwl := hw.1
  refine g_178_0 h.1.1 (r_skip h (fun τ f k => ⟨k.1.1, ?_⟩))
  have hw : SW τ x w := hw.fr f (fun p j k => by unfold P9 at k; omega)
  rw [k.2.2.1]
  /- the letters -/
  have LL : ∀ e, ltE tx n p = e → ∀ i, i ≤ w.length → e - p = w.length → (∀ j, j < i → tx (p + j) = w.getD j 0) → WP gT (d + 4) B 178 55 [.ref y0, .ref x, .int (J e), .int (J i)] [] τ Q := by
    intro e he i hi hew
    have hlt := lt_b (tx := tx) hl.1
    refine upto0 (W := fun i => (∀ j, j < i → tx (p + j) = w.getD j 0) → WP gT (d + 4) B 178 55 [.ref y0, .ref x, .int (J e), .int (J i)] [] τ Q) w.length (fun i hi ih hj => ?_) (fun hj => ?_) i hi
    · refine g_178_55 hw.k (c_len hw ⟨k.1.1, hw.k, fun c => ?_, fun _ => ?_⟩)
      · exfalso; rw [J_le (by omega) (by omega)] at c; omega
      · have hlet := k.1.let_ (k := p + i) (by omega)
        rw [k.2.2.1, J_add]
        refine ⟨hlet.2, c_chr hw hi ?_⟩
        have h127 := hwl.2.2.2.2 i hi
        have h255 := k.1.2.2.2.1 (p + i) (by omega)
        dsimp only [oI]
        rw [hlet.1, J_add]
        refine ⟨fun c => ih (fun j hj2 => ?_), fun c => h0 (isW_F ⟨i, hi, fun e => c (by rw [e])⟩) τ f k⟩
        rw [J_eq (by omega) (by omega)] at c
        by_cases e : j = i
        · rw [e]; exact c
        · exact hj j (by omega)
    · refine g_178_55 hw.k (c_len hw ⟨k.1.1, hw.k, fun _ => ?_, fun c => ?_⟩)
      · have f2 : Fr (P9 y0) τ (setI τ y0 9 (J e)) := Fr.rf.setI ⟨rfl, rfl⟩
        refine h1 (isW_T (by rw [he]; exact hew) hj) _ (f.tr f2) ⟨k.1.y (f2.mono P9_Y), by rw [sI_any (by omega)]; exact k.2.1, e, sI_same, by omega, ?_⟩
        unfold aftW; rw [he]
      · exfalso; rw [J_le (by omega) (by omega)] at c; omega
  have LE : ∀ e, p ≤ e → ltE tx n p = e → e ≤ n → WP gT (d + 3) (0, 0) 308 0 [.ref x] [] τ (oI (fun v1 τ2 => ((J e - sI τ y0 9 = v1 → WP gT (d + 4) B 178 55 [.ref y0, .ref x, .int (J e), .int (J 0)] [] τ2 Q) ∧ (¬ J e - sI τ y0 9 = v1 → Q (.inl (some (.int (J 0)))) τ2))) (fun _ _ => False)) := by
    intro e hpe he hen
    refine c_len hw ?_
    dsimp only [oI]
    rw [k.2.2.1, J_sub hpe, J_eq (by omega) (by omega)]
    exact ⟨fun c => LL e he 0 (by omega) c (fun j hj => by omega), fun c => h0 (isW_F2 (by rw [he]; exact c)) τ f k⟩
  have L : ∀ e, e ≤ n → p ≤ e → (∀ q, p ≤ q → q < e → isL tx q = true) → WP gT (d + 4) B 178 9 [.ref y0, .ref x, .int (J e), .retAddr 0] [] τ Q := by
    refine upto0 (W := fun e => p ≤ e → (∀ q, p ≤ q → q < e → isL tx q = true) → WP gT (d + 4) B 178 9 [.ref y0, .ref x, .int (J e), .retAddr 0] [] τ Q) n (fun e hen ih hpe hq => ?_) (fun hpe hq => ?_)
    · have hlet := k.1.let_ hen
      have h255 := k.1.2.2.2.1 e hen
      refine g_178_9 k.1.1 hw.k ?_
      rw [k.1.2.1, hlet.1, f162_J (by omega) (by omega) (by omega)]
      refine ⟨fun c => ?_, fun _ => ⟨hlet.2, fun c => ?_, fun c => ?_⟩⟩
      · exfalso; rw [J_le (by omega) (by omega)] at c; omega
      · have hno : isL tx e = false := isL_no.mpr (fun c2 => by rw [if_pos c2] at c; exact absurd c (by decide))
        exact LE e hpe ((runE_mid (isL tx) (by omega) hpe hq).trans (lt_no (by omega) (fun _ => hno))) (by omega)
      · rw [J_add]
        refine ih (by omega) (fun q h1 h2 => ?_)
        by_cases eq : q = e
        · rw [eq]; exact isL_iff.mpr (Classical.byContradiction fun c2 => c (if_neg c2))
        · exact hq q h1 (by omega)
    · refine g_178_9 k.1.1 hw.k ?_
      rw [k.1.2.1]
      refine ⟨fun _ => ?_, fun c => absurd (by rw [J_le (by omega) (by omega)]; omega) c⟩
      exact LE n hpe ((runE_mid (isL tx) (Nat.le_refl _) hpe hq).trans (lt_no (Nat.le_refl _) (fun k => by omega))) (Nat.le_refl _)
  exact L p hl.1 (Nat.le_refl _) (fun q h1 h2 => by omega)
/-! what is wrong -/
theorem r_wrong (h : RBy σ y0 tx n bs) (h10 : sI σ y0 10 = -J 1) {f m a : Nat} (hf : f ≤ n) (h9 : sI σ y0 9 = J a) (ha : a ≤ 400 + m) (h0 : ∀ τ, Fr (PYt y0) σ τ → RTb τ y0 tx n bs f m → Q (.inl none) τ) : WP gT d B 179 0 [.ref y0, .int (J f)] [] σ Q := by
  refine g_179_0 h.1 ⟨fun _ => ?_, fun c => absurd h10 c⟩
  have f2 : Fr (PYt y0) σ (setI σ y0 10 (J f)) := Fr.rf.setI ⟨rfl, Or.inr rfl⟩
  exact h0 _ f2 ⟨h.y f2, hf, sI_same, a, by rw [sI_any (by omega)]; exact h9, ha⟩
theorem r_wrong_g (h : RTg σ y0 tx n bs p) {f : Nat} (hf : f ≤ n) (h0 : ∀ τ, Fr (PYt y0) σ τ → RTb τ y0 tx n bs f 0 → Q (.inl none) τ) : WP gT d B 179 0 [.ref y0, .int (J f)] [] σ Q := by
  obtain ⟨h1, h2, a, h3, h4, h5⟩ := h
  have := h1.2.2.1
  exact r_wrong h1 h2 hf h3 (by omega) h0
theorem r_wrong_b {m : Nat} (h : RTb σ y0 tx n bs f0 m) {v : Int32} (h0 : Q (.inl none) σ) : WP gT d B 179 0 [.ref y0, .int v] [] σ Q :=
  g_179_0 h.1.1 ⟨fun c => absurd c h.bad, fun _ => h0⟩
/-! a number -/
theorem r_fig (h : RTg σ y0 tx n bs p) {lo hi1 : Nat} {x2 : Int32} (hlo : lo ≤ 1000000) (hhi : hi1 ≤ 1000000) (hx : x2 = J hi1 - J 1) (h1 : ∀ v p', tN tx n lo hi1 p = .inr (v, p') → ∀ τ, Fr (PYt y0) σ τ → RTg τ y0 tx n bs p' → Q (.inl (some (.int (J v)))) τ)
    (h0 : tN tx n lo hi1 p = .inl p → ∀ τ v, Fr (PYt y0) σ τ → RTb τ y0 tx n bs p 0 → Q (.inl (some (.int v))) τ) : WP gT (d + 2) B 180 0 [.ref y0, .int (J lo), .int x2, .retAddr 0, .retAddr 0] [] σ Q := by
  have hl := h.le
  have hx2 : x2.toInt = (hi1 : Int) - 1 := by rw [hx]; exact sub_int (by omega) (by omega)
  refine g_180_0 h.1.1 ⟨fun _ => r_skip h (fun τ f k => ⟨k.1.1, ?_⟩), fun c => absurd h.2.1 c⟩
  rw [k.2.2.1]
  have hnv : ∀ j, (∀ i, i < j → isD tx (p + i) = true) → numV tx p j < 10 ^ j := by
    intro j
    induction j with
    | zero => intro _; exact Nat.one_pos
    | succ j ih =>
      intro hk
      have hq := isD_iff.mp (hk j (by omega))
      have := ih (fun i hi => hk i (by omega))
      rw [show numV tx p (j + 1) = 10 * numV tx p j + (tx (p + j) - 48) from rfl, Nat.pow_succ]
      omega
  have dE : ∀ e, p ≤ e → e ≤ n → (∀ q, p ≤ q → q < e → isD tx q = true) → dgE tx n p = dgE tx n e := fun e h1 h2 hq => runE_mid (isD tx) h2 h1 hq
  have EX : ∀ e χ, Fr (P9 y0) τ χ → p ≤ e → e ≤ n → e - p ≤ 7 → sI χ y0 9 = J e → (∀ q, p ≤ q → q < e → isD tx q = true) → (e - p ≤ 6 → dgE tx n p = e) →
      (J e = J p → WP gT (d + 1) (0, 0) 179 0 [.ref y0, .int (J p)] [] χ (oV (fun τ2 => Q (.inl (some (.int (J (numV tx p (e - p)))))) τ2) (fun _ _ => False))) ∧ (¬ J e = J p → ((J 6 < J e - J p → WP gT (d + 1) (0, 0) 179 0 [.ref y0, .int (J p)] [] χ (oV (fun τ4 => Q (.inl (some (.int (J (numV tx p (e - p)))))) τ4) (fun _ _ => False))) ∧ (¬ J 6 < J e - J p → ((J (numV tx p (e - p)) < J lo → WP gT (d + 1) (0, 0) 179 0 [.ref y0, .int (J p)] [] χ (oV (fun τ6 => Q (.inl (some (.int (J (numV tx p (e - p)))))) τ6) (fun _ _ => False))) ∧ (¬ J (numV tx p (e - p)) < J lo → ((J (numV tx p (e - p)) ≤ x2 → Q (.inl (some (.int (J (numV tx p (e - p)))))) χ) ∧ (¬ J (numV tx p (e - p)) ≤ x2 → WP gT (d + 1) (0, 0) 179 0 [.ref y0, .int (J p)] [] χ (oV (fun τ8 => Q (.inl (some (.int (J (numV tx p (e - p)))))) τ8) (fun _ _ => False))))))))) := by
    intro e χ f2 hpe hen h7 k9 hq hdg
    have hf : Fr (PYt y0) σ χ := (f.tr f2).mono P9_Y
    have hb := h.1.y hf
    have k10 : sI χ y0 10 = -J 1 := by rw [f2.i (by unfold P9; omega)]; exact k.2.1
    have hv := hnv (e - p) (fun i hi => hq _ (by omega) (by omega))
    have hv7 : numV tx p (e - p) < 10000000 := Nat.lt_of_lt_of_le hv (Nat.pow_le_pow_right (n := 10) (by omega) h7)
    have hdle : e ≤ dgE tx n p := by rw [dE e hpe hen hq]; exact (dg_b (tx := tx) hen).1
    have bad : tN tx n lo hi1 p = .inl p → WP gT (d + 1) (0, 0) 179 0 [.ref y0, .int (J p)] [] χ (oV (fun τ2 => Q (.inl (some (.int (J (numV tx p (e - p)))))) τ2) (fun _ _ => False)) := fun et =>
      r_wrong hb k10 hl.1 k9 (by omega) (fun τ2 f3 c => h0 et τ2 _ (hf.tr f3) c)
    rw [J_sub hpe, J_eq (by omega) (by omega), J_lt (by omega) (by omega), J_lt (by omega) (by omega), Int32.le_iff_toInt_le, hx2, J_int (by omega)]
    refine ⟨fun c => bad ?_, fun c => ⟨fun c2 => bad ?_, fun c2 => ⟨fun c3 => bad ?_, fun c3 => ⟨fun c4 => ?_, fun c4 => bad ?_⟩⟩⟩⟩
    · have := hdg (by omega); unfold tN; exact if_pos (by omega)
    · unfold tN; exact if_pos (by omega)
    · have := hdg (by omega); unfold tN; rw [this]; exact if_pos (by omega)
    · have hd := hdg (by omega)
      refine h1 _ (skp tx n e) ?_ χ hf ⟨hb, k10, e, k9, hen, rfl⟩
      unfold tN; rw [hd]; exact if_neg (by omega)
    · have := hdg (by omega); unfold tN; rw [this]; exact if_pos (by omega)
  have L : ∀ e, e ≤ n → ∀ χ, Fr (P9 y0) τ χ → p ≤ e → e - p ≤ 7 → sI χ y0 9 = J e → (∀ q, p ≤ q → q < e → isD tx q = true) → WP gT (d + 2) B 180 22 [.ref y0, .int (J lo), .int x2, .int (J p), .int (J (numV tx p (e - p)))] [] χ Q := by
    refine upto0 (W := fun e => ∀ χ, Fr (P9 y0) τ χ → p ≤ e → e - p ≤ 7 → sI χ y0 9 = J e → (∀ q, p ≤ q → q < e → isD tx q = true) → WP gT (d + 2) B 180 22 [.ref y0, .int (J lo), .int x2, .int (J p), .int (J (numV tx p (e - p)))] [] χ Q) n ?_ ?_
    · intro e hen ih χ f2 hpe h7 k9 hq
      have hb := k.1.y (f2.mono P9_Y)
      have hlet := hb.let_ hen
      have h255 := hb.2.2.2.1 e hen
      have hv := hnv (e - p) (fun i hi => hq _ (by omega) (by omega))
      have hv7 : numV tx p (e - p) < 10000000 := Nat.lt_of_lt_of_le hv (Nat.pow_le_pow_right (n := 10) (by omega) h7)
      refine g_180_22 hb.1 ?_
      rw [hb.2.1, k9, hlet.1, f162_J (by omega) (by omega) (by omega)]
      refine ⟨fun c => ?_, fun _ => ⟨hlet.2, fun c => ?_, fun c => ⟨fun c7 => ?_, fun c7 => ⟨hlet.2, ?_⟩⟩⟩⟩
      · exfalso; rw [J_le (by omega) (by omega)] at c; omega
      · have hno : isD tx e = false := isD_no.mpr (fun c2 => by rw [if_pos c2] at c; exact absurd c (by decide))
        exact EX e χ f2 hpe (by omega) h7 k9 hq (fun _ => (dE e hpe (by omega) hq).trans (dg_no (by omega) (fun _ => hno)))
      · rw [J_sub hpe, J_le (by omega) (by omega)] at c7
        exact EX e χ f2 hpe (by omega) h7 k9 hq (fun c6 => by omega)
      · rw [J_sub hpe, J_le (by omega) (by omega)] at c7
        have hdig : 48 ≤ tx e ∧ tx e ≤ 57 := Classical.byContradiction fun c2 => c (if_neg c2)
        have hval : J 10 * J (numV tx p (e - p)) + J (tx e) - J 48 = J (numV tx p (e + 1 - p)) := by
          rw [J_mul, J_add, J_sub (by omega), show e + 1 - p = (e - p) + 1 by omega]
          congr 1
          rw [show numV tx p (e - p + 1) = 10 * numV tx p (e - p) + (tx (p + (e - p)) - 48) from rfl, show p + (e - p) = e by omega]
          omega
        rw [hval]
        refine ih _ (f2.setI ⟨rfl, rfl⟩) (by omega) (by omega) (by rw [sI_same, J_add]) (fun q h1 h2 => ?_)
        by_cases eq : q = e
        · rw [eq]; exact isD_iff.mpr hdig
        · exact hq q h1 (by omega)
    · intro χ f2 hpe h7 k9 hq
      have hb := k.1.y (f2.mono P9_Y)
      refine g_180_22 hb.1 ?_
      rw [hb.2.1, k9]
      refine ⟨fun _ => ?_, fun c => absurd (by rw [J_le (by omega) (by omega)]; omega) c⟩
      exact EX n χ f2 hpe (Nat.le_refl _) h7 k9 hq (fun _ => (dE n hpe (Nat.le_refl _) hq).trans (dg_no (Nat.le_refl _) (fun k => by omega)))
  have h0' := L p hl.1 τ Fr.rf (Nat.le_refl _) (by omega) k.2.2.1 (fun q h1 h2 => by omega)
  rw [Nat.sub_self] at h0'
  exact h0'
theorem r_fig_b {m : Nat} (h : RTb σ y0 tx n bs f0 m) {x1 x2 : Int32} (h0 : Q (.inl (some (.int (J 0)))) σ) : WP gT (d + 2) B 180 0 [.ref y0, .int x1, .int x2, .retAddr 0, .retAddr 0] [] σ Q :=
  g_180_0 h.1.1 ⟨fun c => absurd c h.bad, fun _ => h0⟩
