/-! ===== the class's text: words, signs, numbers ===== -/
variable {d : Nat} {B : Nat × Nat} {Q : Out → Sto → Prop} {P : Nat → Nat → Prop} {σ τ : Sto} {X y0 : Nat} {tx : Mem} {n p f0 : Nat} {w : List Nat}
/-- the text, read as far as p -/
def CTg (σ : Sto) (X : Nat) (tx : Mem) (n p : Nat) : Prop := S_9 σ X ∧ CTw σ X tx n p none
/-- the text, found wrong at f -/
def CTb (σ : Sto) (X : Nat) (tx : Mem) (n f : Nat) : Prop := S_9 σ X ∧ f ≤ n ∧ ∃ p, CTw σ X tx n p (some f)
theorem CTw.fr {wr : Option Nat} (h : CTw σ X tx n p wr) (f : Fr P σ τ) (hP : ∀ q j, P q j → q ≠ X ∧ q ≠ X + 1) : CTw τ X tx n p wr := by
  obtain ⟨h1, h2, h3, h4, h5⟩ := h
  have e : ∀ j, sI τ X j = sI σ X j := fun j => f.i (fun k => (hP _ _ k).1 rfl)
  refine ⟨h1.fr f (fun q j k => ⟨fun c => absurd c (hP _ _ k).1, (hP _ _ k).2⟩), h2, by rw [e]; exact h3, by rw [e]; exact h4, ?_⟩
  unfold TKk
  rw [e, e, e]; exact h5
theorem CTg.fr (h : CTg σ X tx n p) (f : Fr P σ τ) (hP : ∀ q j, P q j → q ≠ X ∧ q ≠ X + 1) : CTg τ X tx n p := ⟨f.sh h.1, h.2.fr f hP⟩
theorem CTb.fr (h : CTb σ X tx n f0) (f : Fr P σ τ) (hP : ∀ q j, P q j → q ≠ X ∧ q ≠ X + 1) : CTb τ X tx n f0 := by
  obtain ⟨h1, h2, q, h3⟩ := h
  exact ⟨f.sh h1, h2, q, h3.fr f hP⟩
theorem CTg.le (h : CTg σ X tx n p) : p ≤ n ∧ n ≤ 400 := ⟨h.2.2.1.1, h.2.1.2.1⟩
theorem CTg.sk (h : CTg σ X tx n p) : skp tx n p = p := h.2.2.1.2
theorem CTb.le (h : CTb σ X tx n f0) : f0 ≤ n ∧ n ≤ 400 := by
  obtain ⟨h1, h2, q, h3⟩ := h
  exact ⟨h2, h3.1.2.1⟩
theorem CTg.r (h : CTg σ X tx n p) : f_74 σ X = J 1 := by unfold f_74; rw [h.2.2.2.2.1]; exact if_pos rfl
theorem CTb.r (h : CTb σ X tx n f0) : f_74 σ X = J 0 := by
  have hl := h.le
  obtain ⟨h1, h2, q, h3⟩ := h
  unfold f_74; rw [h3.2.2.2.1, if_neg]
  show ¬ J f0 = -J 1
  rw [n1_ne (by omega)]; exact id
theorem CTg.beh (h : CTg σ X tx n p) {b : Nat} (h5 : sI σ X 5 = J b) (hb : b ≤ n) (hQ : ∀ τ, Fr (PtX X) σ τ → CTg τ X tx n (skp tx n b) → Q (.inl none) τ) : WP gT d B 76 0 [.ref X] [] σ Q :=
  c_goOn h.1 h.2.1 h5 hb h.2.2.2.2.1 (fun τ f c => hQ τ f ⟨f.sh h.1, c⟩)
/-! the kinds -/
theorem CTg.end_ (h : CTg σ X tx n p) : sI σ X 3 = J 0 ↔ p = n := by
  rcases h.2.2.2.2.2 with ⟨a, b⟩ | ⟨a, _, b, _⟩ | ⟨a, _, b, _⟩ | ⟨a, _, _, b, _⟩
  · rw [b]; exact ⟨fun _ => a, fun _ => rfl⟩
  all_goals rw [b]; exact ⟨fun c => absurd c (by decide), fun c => by omega⟩
theorem CTg.fig (h : CTg σ X tx n p) : (sI σ X 3 = J 2 ↔ p < n ∧ isD tx p = true) := by
  rcases h.2.2.2.2.2 with ⟨a, b⟩ | ⟨a, a2, b, _⟩ | ⟨a, a2, b, _⟩ | ⟨a, a2, _, b, _⟩
  · rw [b]; exact ⟨fun c => absurd c (by decide), fun c => by omega⟩
  · rw [b]; exact ⟨fun _ => ⟨a, a2⟩, fun _ => rfl⟩
  · rw [b]; refine ⟨fun c => absurd c (by decide), fun c => ?_⟩
    have h1 := isD_iff.mp c.2; have h2 := isL_iff.mp a2; omega
  · rw [b]; refine ⟨fun c => absurd c (by decide), fun c => ?_⟩
    rw [a2] at c; exact absurd c.2 (by decide)
/-! a word -/
theorem c_isWord_T (nX : S_9 σ X) (hb : CB σ X tx n) (h4 : sI σ X 4 = J p) (h5 : sI σ X 5 = J (p + w.length)) (hl : p + w.length ≤ n) {x : Nat} (hw : SW σ x w) (h1 : (∀ i, i < w.length → tx (p + i) = w.getD i 0) → Q (.inl (some (.int (J 1)))) σ) (h0 : (∃ i, i < w.length ∧ tx (p + i) ≠ w.getD i 0) → Q (.inl (some (.int (J 0)))) σ) : WP gT (d + 4) B 79 28 [.ref X, .ref x, .int (J 0)] [] σ Q := by
  have hn := hb.2.1
  have hwl := hw.1
  have L : ∀ i, i ≤ w.length → (∀ j, j < i → tx (p + j) = w.getD j 0) → WP gT (d + 4) B 79 28 [.ref X, .ref x, .int (J i)] [] σ Q := by
    refine upto0 (W := fun i => (∀ j, j < i → tx (p + j) = w.getD j 0) → WP gT (d + 4) B 79 28 [.ref X, .ref x, .int (J i)] [] σ Q) w.length (fun i hi ih hj => ?_) (fun hj => ?_)
    · refine g_79_28 hw.k (c_len hw ⟨nX, hw.k, fun c => ?_, fun _ => ?_⟩)
      · exfalso; rw [J_le (by omega) (by omega)] at c; omega
      · have by1 := hb.2.2 (p + i) (by omega)
        rw [h4, J_add]
        refine ⟨(by simp (disch := omega) only [J_add, J_mul, J_sub, J_cl, vp_J]; omega), c_chr hw hi ?_⟩
        have h127 := hwl.2.2.2.2 i hi
        dsimp only [oI]
        rw [J_cl (by omega), by1.1, J_add]
        refine ⟨fun c => ih (fun j hj2 => ?_), fun c => h0 ⟨i, hi, fun e => c (by rw [e])⟩⟩
        rw [J_eq (by omega) (by omega)] at c
        by_cases e : j = i
        · rw [e]; exact c
        · exact hj j (by omega)
    · refine g_79_28 hw.k (c_len hw ⟨nX, hw.k, fun _ => h1 hj, fun c => ?_⟩)
      exfalso; rw [J_le (by omega) (by omega)] at c; omega
  exact L 0 (by omega) (fun j hj => by omega)
theorem isW_T (h : ltE tx n p - p = w.length) (k : ∀ i, i < w.length → tx (p + i) = w.getD i 0) : isW tx n p w = true := by
  unfold isW
  have e : fstB (fun i => !decide (tx (p + i) = w.getD i 0)) 0 w.length = none := by
    cases hf : fstB (fun i => !decide (tx (p + i) = w.getD i 0)) 0 w.length with
    | none => rfl
    | some q =>
      have := fstB_some hf
      have h2 := k q (by omega)
      rw [h2, decide_eq_true rfl] at this
      exact absurd this.2.2 (by decide)
  rw [e, decide_eq_true h]; rfl
theorem isW_F (k : ∃ i, i < w.length ∧ tx (p + i) ≠ w.getD i 0) : isW tx n p w = false := by
  obtain ⟨i, hi, hne⟩ := k
  unfold isW
  have := fstB_is (b := fun i => !decide (tx (p + i) = w.getD i 0)) (a := 0) (n := w.length) (Nat.zero_le i) (by omega) (by rw [decide_eq_false hne]; rfl)
  cases hf : fstB (fun i => !decide (tx (p + i) = w.getD i 0)) 0 w.length with
  | none => rw [hf] at this; cases this
  | some q => simp
theorem isW_F2 (k : ltE tx n p - p ≠ w.length) : isW tx n p w = false := by unfold isW; simp [k]
theorem c_isWord (h : CTg σ X tx n p) {x : Nat} (hw : SW σ x w) (h1 : isW tx n p w = true → sI σ X 5 = J (ltE tx n p) → Q (.inl (some (.int (J 1)))) σ) (h0 : isW tx n p w = false → Q (.inl (some (.int (J 0)))) σ) : WP gT (d + 4) B 79 0 [.ref X, .ref x, .retAddr 0] [] σ Q := by
  have hle := h.le
  have hwl := hw.1
  rcases h.2.2.2.2.2 with ⟨a, b⟩ | ⟨a, a2, b, _⟩ | ⟨a, a2, b, b5⟩ | ⟨a, a2, a3, b, _⟩
  · refine g_79_0 h.1 hw.k ⟨fun c => absurd (b.symm.trans c) (by decide), fun _ => h0 (isW_F2 ?_)⟩
    have := lt_no (tx := tx) hle.1 (fun k => by omega)
    omega
  · refine g_79_0 h.1 hw.k ⟨fun c => absurd (b.symm.trans c) (by decide), fun _ => h0 (isW_F2 ?_)⟩
    have := lt_no (tx := tx) hle.1 (fun k => by have h1 := isD_iff.mp a2; exact isL_no.mpr (by omega))
    omega
  · have hlt := lt_b (tx := tx) hle.1
    refine g_79_0 h.1 hw.k ⟨fun _ => c_len hw ⟨fun c => ?_, fun c => h0 (isW_F2 fun e => c ?_)⟩, fun c => absurd b c⟩
    · rw [b5, h.2.2.2.1, J_sub hlt.1, J_eq (by omega) (by omega)] at c
      refine c_isWord_T h.1 h.2.1 h.2.2.2.1 (by rw [b5]; congr 1; omega) (by omega) hw (fun k => h1 (isW_T c k) b5) (fun k => h0 (isW_F k))
    · rw [b5, h.2.2.2.1, J_sub hlt.1, e]
  · refine g_79_0 h.1 hw.k ⟨fun c => absurd (b.symm.trans c) (by decide), fun _ => h0 (isW_F2 ?_)⟩
    have := lt_no (tx := tx) hle.1 (fun k => a3)
    omega
theorem c_tw (h : CTg σ X tx n p) {x : Nat} (hw : SW σ x w) (h1 : isW tx n p w = true → ∀ τ, Fr (PtX X) σ τ → CTg τ X tx n (aftW tx n p) → Q (.inl (some (.int (J 1)))) τ) (h0 : isW tx n p w = false → Q (.inl (some (.int (J 0)))) σ) : WP gT (d + 5) B 80 0 [.ref X, .ref x] [] σ Q := by
  refine g_80_0 h.1 ⟨fun c => absurd (h.r.symm.trans c) (by decide), fun _ => c_isWord h hw (fun e b5 => ⟨h.1, fun c => absurd c (by decide), fun _ => ?_⟩) (fun e => ⟨h.1, fun _ => h0 e, fun c => absurd rfl c⟩)⟩
  exact h.beh b5 (lt_b h.le.1).2 (fun τ f c => h1 e τ f c)
theorem c_tw_b (h : CTb σ X tx n f0) {x : Nat} (h0 : Q (.inl (some (.int (J 0)))) σ) : WP gT (d + 5) B 80 0 [.ref X, .ref x] [] σ Q :=
  g_80_0 h.1 ⟨fun _ => h0, fun c => absurd h.r c⟩
/-! a sign -/
theorem CTg.sgn (h : CTg σ X tx n p) {c : Nat} (hc : c < 256 ∧ c ≠ 32 ∧ ¬ (48 ≤ c ∧ c ≤ 57) ∧ ¬ (97 ≤ c ∧ c ≤ 122)) : (sI σ X 3 = J 3 → vp_in (sI σ X 4) 400 ∧ True) ∧ f_78 σ X (J c) = (if isS tx n p c = true then J 1 else J 0) ∧ (isS tx n p c = true → sI σ X 5 = J (p + 1) ∧ p < n) := by
  have hle := h.le
  refine ⟨fun e => ⟨?_, trivial⟩, ?_, fun e => ?_⟩
  · rw [h.2.2.2.1]
    have : p < n := by
      rcases h.2.2.2.2.2 with ⟨a, b⟩ | ⟨a, a2, b, _⟩ | ⟨a, a2, b, _⟩ | ⟨a, a2, _, b, _⟩
      · rw [b] at e; exact absurd e (by decide)
      all_goals exact a
    exact (by simp (disch := omega) only [J_add, J_mul, J_sub, J_cl, vp_J]; omega)
  · unfold f_78
    rw [h.2.2.2.1, J_cl (by omega)]
    rcases h.2.2.2.2.2 with ⟨a, b⟩ | ⟨a, a2, b, _⟩ | ⟨a, a2, b, _⟩ | ⟨a, a2, a3, b, _⟩
    · rw [b, if_neg (by decide), if_neg]; unfold isS; simp [a]
    · rw [b, if_neg (by decide), if_neg]
      unfold isS
      have h1 := isD_iff.mp a2
      simp; omega
    · rw [b, if_neg (by decide), if_neg]
      unfold isS
      have h1 := isL_iff.mp a2
      simp; omega
    · have by1 := h.2.1.2.2 p a
      rw [b, if_pos rfl, by1.1]
      unfold isS
      by_cases e : tx p = c
      · rw [e, if_pos rfl, if_pos (by simp [a])]
      · rw [if_neg (by rw [J_eq (by omega) (by omega)]; exact e), if_neg (by simp [e])]
  · unfold isS at e
    simp at e
    rcases h.2.2.2.2.2 with ⟨a, b⟩ | ⟨a, a2, b, _⟩ | ⟨a, a2, b, _⟩ | ⟨a, a2, a3, b, b5⟩
    · omega
    · have h1 := isD_iff.mp a2; omega
    · have h1 := isL_iff.mp a2; omega
    · exact ⟨b5, a⟩
theorem c_ts (h : CTg σ X tx n p) {c : Nat} (hc : c < 256 ∧ c ≠ 32 ∧ ¬ (48 ≤ c ∧ c ≤ 57) ∧ ¬ (97 ≤ c ∧ c ≤ 122)) (h1 : isS tx n p c = true → p < n → ∀ τ, Fr (PtX X) σ τ → CTg τ X tx n (aftS tx n p) → Q (.inl (some (.int (J 1)))) τ) (h0 : isS tx n p c = false → Q (.inl (some (.int (J 0)))) σ) : WP gT (d + 1) B 81 0 [.ref X, .int (J c)] [] σ Q := by
  obtain ⟨s1, s2, s3⟩ := h.sgn hc
  refine g_81_0 h.1 ⟨fun c => absurd (h.r.symm.trans c) (by decide), fun _ => ⟨s1, fun e => ?_, fun e => ?_⟩⟩
  · rw [s2, b01] at e; exact h0 e
  · rw [s2, b01] at e
    have e : isS tx n p c = true := by cases hh : isS tx n p c with | true => rfl | false => exact absurd hh e
    have s4 := s3 e
    exact h.beh s4.1 (by omega) (fun τ f k => h1 e s4.2 τ f k)
theorem c_ts_b (h : CTb σ X tx n f0) {c : Int32} (h0 : Q (.inl (some (.int (J 0)))) σ) : WP gT (d + 1) B 81 0 [.ref X, .int c] [] σ Q :=
  g_81_0 h.1 ⟨fun _ => h0, fun c => absurd h.r c⟩
/-! what is wrong -/
theorem c_fail (h : CTg σ X tx n p) (h0 : ∀ τ, Fr (PtX X) σ τ → CTb τ X tx n p → Q (.inl none) τ) : WP gT d B 75 0 [.ref X] [] σ Q := by
  refine g_75_0 h.1 ⟨fun _ => ?_, fun c => absurd h.2.2.2.2.1 c⟩
  have f : Fr (PtX X) σ (setI σ X 2 (sI σ X 4)) := Fr.rf.setI ⟨rfl, Nat.le_refl _⟩
  obtain ⟨h1, h2, h3, h4, h5, h6⟩ := h
  refine h0 _ f ⟨f.sh h1, h3.1, p, h2.fr f (fun q j k => by unfold PtX at k; omega), h3, by rw [sI_any (by omega)]; exact h4, by rw [sI_same, h4]; rfl, ?_⟩
  unfold TKk
  rw [sI_any (by omega), sI_any (by omega), sI_any (by omega)]; exact h6
theorem c_fail_b (h : CTb σ X tx n f0) (h0 : Q (.inl none) σ) : WP gT d B 75 0 [.ref X] [] σ Q := by
  refine g_75_0 h.1 ⟨fun c => ?_, fun _ => h0⟩
  have e := h.r
  unfold f_74 at e
  rw [if_pos c] at e
  exact absurd e (by decide)
/-! a number -/
theorem c_tn (h : CTg σ X tx n p) {lo hi1 : Nat} {x2 : Int32} (hlo : lo ≤ 1000000) (hhi : hi1 ≤ 1000000) (hx : x2 = J hi1 - J 1) (h1 : ∀ v p', tN tx n lo hi1 p = .inr (v, p') → ∀ τ, Fr (PtX X) σ τ → CTg τ X tx n p' → Q (.inl (some (.int (J v)))) τ)
    (h0 : tN tx n lo hi1 p = .inl p → ∀ τ, Fr (PtX X) σ τ → CTb τ X tx n p → Q (.inl (some (.int (J lo)))) τ) : WP gT (d + 1) B 82 0 [.ref X, .int (J lo), .int x2, .retAddr 0] [] σ Q := by
  have hle := h.le
  have hx2 : x2.toInt = (hi1 : Int) - 1 := by rw [hx]; exact sub_int (by omega) (by omega)
  have bad : tN tx n lo hi1 p = .inl p → WP gT d (0, 0) 75 0 [.ref X] [] σ (oV (fun τ2 => Q (.inl (some (.int (J lo)))) τ2) (fun _ _ => False)) := fun e => c_fail h (fun τ f c => h0 e τ f c)
  refine g_82_0 h.1 ⟨fun c => absurd (h.r.symm.trans c) (by decide), fun _ => ⟨fun c => ?_, fun c => ?_⟩⟩
  · obtain ⟨hp, hd⟩ := h.fig.mp c
    have hgt := dg_gt hp hd
    have hdb := dg_b (tx := tx) hle.1
    have h56 : sI σ X 5 = J (dgE tx n p) ∧ sI σ X 6 = valF tx p (dgE tx n p) := by
      rcases h.2.2.2.2.2 with ⟨a, b⟩ | ⟨a, a2, b, b5, b6⟩ | ⟨a, a2, b, _⟩ | ⟨a, a2, _, b, _⟩
      · omega
      · exact ⟨b5, b6⟩
      · rw [b] at c; exact absurd c (by decide)
      · rw [b] at c; exact absurd c (by decide)
    rw [h56.2]
    unfold valF
    by_cases c6 : dgE tx n p - p ≤ 6
    · rw [if_pos c6]
      have hnv : numV tx p (dgE tx n p - p) < 10 ^ (dgE tx n p - p) := by
        have : ∀ k, p + k ≤ dgE tx n p → numV tx p k < 10 ^ k := by
          intro k
          induction k with
          | zero => intro _; exact Nat.one_pos
          | succ k ih =>
            intro hk
            have hq := isD_iff.mp ((runE_b (isD tx) p hle.1).2.2.2 (p + k) (by omega) (by show p + k < dgE tx n p; omega))
            have := ih (by omega)
            rw [show numV tx p (k + 1) = 10 * numV tx p k + (tx (p + k) - 48) from rfl, Nat.pow_succ]
            omega
        exact this _ (by omega)
      have hnv6 : numV tx p (dgE tx n p - p) < 1000000 := Nat.lt_of_lt_of_le hnv (Nat.pow_le_pow_right (n := 10) (by omega) c6)
      refine ⟨fun c2 => bad ?_, fun c2 => ⟨fun c3 => ?_, fun c3 => bad ?_⟩⟩
      · rw [J_lt (by omega) (by omega)] at c2
        unfold tN; exact if_pos (by omega)
      · rw [J_lt (by omega) (by omega)] at c2
        rw [Int32.le_iff_toInt_le, hx2, J_int (by omega)] at c3
        refine h.beh h56.1 hdb.2 (fun τ f k => ?_)
        dsimp only [oV]
        refine h1 _ _ ?_ τ f k
        unfold tN; exact if_neg (by omega)
      · rw [Int32.le_iff_toInt_le, hx2, J_int (by omega)] at c3
        unfold tN; exact if_pos (by omega)
    · rw [if_neg c6]
      refine ⟨fun _ => bad ?_, fun c2 => absurd (by rw [n1_lt (by omega)]; trivial) c2⟩
      unfold tN; exact if_pos (by omega)
  · refine bad ?_
    unfold tN
    refine if_pos (Or.inl (dg_no hle.1 (fun hp => ?_)))
    cases hd : isD tx p with
    | false => rfl
    | true => exact absurd (h.fig.mpr ⟨hp, hd⟩) c
theorem c_tn_b (h : CTb σ X tx n f0) {x1 x2 : Int32} (h0 : Q (.inl (some (.int x1))) σ) : WP gT (d + 1) B 82 0 [.ref X, .int x1, .int x2, .retAddr 0] [] σ Q :=
  g_82_0 h.1 ⟨fun _ => c_fail_b h h0, fun c => absurd h.r c⟩
theorem tN_b {lo hi1 v p' : Nat} (hp : p ≤ n) (h : tN tx n lo hi1 p = .inr (v, p')) : lo ≤ v ∧ v < hi1 ∧ p < p' ∧ p' ≤ n := by
  unfold tN at h
  split at h
  · cases h
  · rename_i c
    cases h
    have h1 := dg_b (tx := tx) hp
    have h2 := skp_b (tx := tx) (n := n) h1.2
    omega
theorem tN_l {lo hi1 f : Nat} (h : tN tx n lo hi1 p = .inl f) : f = p := by
  unfold tN at h
  split at h
  · cases h; rfl
  · cases h
