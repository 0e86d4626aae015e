/-! ===== hours: the best plan, and when it begins (numbers are one more than what they stand for) ===== -/
variable {d : Nat} {B : Nat × Nat} {Q : Out → Sto → Prop} {P : Nat → Nat → Prop} {σ τ : Sto} {x0 y0 X a m k q L : Nat} {mv kv w W : Mem} {img : Bool} {tp : Mem} {n : Nat} {fl : Option Nat}
def HW (w : Mem) : Mem
  | 0 => 0
  | n + 1 => HW w n + w n
theorem HW_mono {a b : Nat} (h : a ≤ b) : HW w a ≤ HW w b := by
  induction b with
  | zero => have : a = 0 := by omega
            subst this; exact Nat.le_refl _
  | succ b ih =>
    by_cases c : a = b + 1
    · rw [c]; exact Nat.le_refl _
    · have := ih (by omega)
      show HW w a ≤ HW w b + w b
      omega
theorem HW_le (hw : ∀ q, q < 96 → w q ≤ 1000000) : ∀ q, q ≤ 96 → HW w q ≤ 1000000 * q := by
  intro q
  induction q with
  | zero => intro _; exact Nat.zero_le _
  | succ q ih =>
    intro hq
    have := ih (by omega)
    have := hw q (by omega)
    show HW w q + w q ≤ _
    omega
def pkF (W : Mem) (f : Nat → Nat → Nat) (k q m : Nat) : Nat := if m < k ∨ 96 < q + k then 0 else if f (96 - (q + k)) (m - k) = 0 then 0 else f (96 - (q + k)) (m - k) + (W (q + k) - W q)
def TB (W : Mem) (L : Nat) : Nat → Nat → Nat → Nat × Nat
  | 0, _, m => if m = 0 then (1, 1) else (0, 0)
  | t + 1, s, m => if s ≤ t then TB W L t s m else (max (TB W L t t m).1 (pkF W (fun s m => (TB W L t s m).2) L (95 - t) m), max (TB W L t t m).1 (pkF W (fun s m => (TB W L t s m).2) 1 (95 - t) m))
theorem TB_st : ∀ t s m, s ≤ t → TB W L t s m = TB W L s s m := by
  intro t
  induction t with
  | zero => intro s m hs; have : s = 0 := by omega
            subst this; rfl
  | succ t ih =>
    intro s m hs
    by_cases c : s = t + 1
    · rw [c]
    · show (if s ≤ t then TB W L t s m else _) = _
      rw [if_pos (by omega)]; exact ih s m (by omega)
/-- from quarter q on: the best plan of m quarters; and the best one, if a piece goes on at q -/
def PL (W : Mem) (L q m : Nat) : Nat := (TB W L (96 - q) (96 - q) m).1
def NX (W : Mem) (L q m : Nat) : Nat := (TB W L (96 - q) (96 - q) m).2
def PK (W : Mem) (L k q m : Nat) : Nat := pkF W (fun s m => (TB W L s s m).2) k q m
theorem PK_e : PK W L k q m = if m < k ∨ 96 < q + k then 0 else if NX W L (q + k) (m - k) = 0 then 0 else NX W L (q + k) (m - k) + (W (q + k) - W q) := rfl
theorem PL_96 : PL W L 96 m = (if m = 0 then 1 else 0) ∧ NX W L 96 m = (if m = 0 then 1 else 0) := by
  unfold PL NX
  show (TB W L 0 0 m).1 = _ ∧ (TB W L 0 0 m).2 = _
  unfold TB
  by_cases c : m = 0
  · rw [if_pos c, if_pos c]; exact ⟨rfl, rfl⟩
  · rw [if_neg c, if_neg c]; exact ⟨rfl, rfl⟩
theorem pkF_c {t k : Nat} (hk : 1 ≤ k) (ht : t < 96) : pkF W (fun s m => (TB W L t s m).2) k (95 - t) m = PK W L k (95 - t) m := by
  unfold PK pkF
  by_cases c : m < k ∨ 96 < 95 - t + k
  · rw [if_pos c, if_pos c]
  · rw [if_neg c, if_neg c]
    dsimp only
    have e := TB_st (W := W) (L := L) t (96 - (95 - t + k)) (m - k) (by omega)
    simp only [e]
theorem PL_s (hL : 1 ≤ L) (hq : q < 96) : PL W L q m = max (PL W L (q + 1) m) (PK W L L q m) ∧ NX W L q m = max (PL W L (q + 1) m) (PK W L 1 q m) := by
  have e : 96 - q = (95 - q) + 1 := by omega
  have e2 : 96 - (q + 1) = 95 - q := by omega
  have e3 : 95 - (95 - q) = q := by omega
  have k1 := pkF_c (W := W) (L := L) (m := m) hL (show 95 - q < 96 by omega)
  have k2 := pkF_c (W := W) (L := L) (m := m) (Nat.le_refl 1) (show 95 - q < 96 by omega)
  rw [e3] at k1 k2
  unfold PL NX
  rw [e, e2]
  show (if 95 - q + 1 ≤ 95 - q then _ else _ : Nat × Nat).1 = _ ∧ (if 95 - q + 1 ≤ 95 - q then _ else _ : Nat × Nat).2 = _
  rw [if_neg (by omega)]
  dsimp only
  rw [e3, k1, k2]
  exact ⟨rfl, rfl⟩
theorem PK_b (hW : ∀ a b, a ≤ b → W a ≤ W b) (hb : ∀ m, NX W L (q + k) m ≤ 1 + (W 96 - W (q + k))) : PK W L k q m ≤ 1 + (W 96 - W q) := by
  rw [PK_e]
  by_cases c : m < k ∨ 96 < q + k
  · rw [if_pos c]; omega
  · rw [if_neg c]
    have := hb (m - k)
    have h1 := hW q (q + k) (by omega)
    have h2 := hW (q + k) 96 (by omega)
    by_cases c2 : NX W L (q + k) (m - k) = 0
    · rw [if_pos c2]; omega
    · rw [if_neg c2]; omega
theorem PL_b (hL : 1 ≤ L) (hW : ∀ a b, a ≤ b → W a ≤ W b) : ∀ t q m, q ≤ 96 → 96 - q ≤ t → PL W L q m ≤ 1 + (W 96 - W q) ∧ NX W L q m ≤ 1 + (W 96 - W q) := by
  intro t
  induction t with
  | zero =>
    intro q m hq ht
    have : q = 96 := by omega
    subst this
    rw [PL_96.1, PL_96.2]
    by_cases c : m = 0
    · rw [if_pos c]; omega
    · rw [if_neg c]; omega
  | succ t ih =>
    intro q m hq ht
    by_cases c : q = 96
    · subst c
      rw [PL_96.1, PL_96.2]
      by_cases c : m = 0
      · rw [if_pos c]; omega
      · rw [if_neg c]; omega
    · have s := PL_s (W := W) (m := m) hL (show q < 96 by omega)
      have b0 := (ih (q + 1) m (by omega) (by omega)).1
      have h1 := hW q (q + 1) (by omega)
      have bk : ∀ k, 1 ≤ k → PK W L k q m ≤ 1 + (W 96 - W q) := fun k hk => by
        by_cases c : 96 < q + k
        · rw [PK_e, if_pos (Or.inr c)]; omega
        · exact PK_b hW (fun m => (ih (q + k) m (by omega) (by omega)).2)
      have b1 := bk L hL
      have b2 := bk 1 (Nat.le_refl 1)
      rw [s.1, s.2]
      constructor <;> omega
theorem PK_NX (hL : 1 ≤ L) (hW : ∀ a b, a ≤ b → W a ≤ W b) : ∀ k, 1 ≤ k → ∀ q m, q < 96 → PK W L k q m ≤ NX W L q m := by
  intro k
  induction k with
  | zero => intro h; omega
  | succ k ih =>
    intro _ q m hq
    have s := PL_s (W := W) (m := m) hL hq
    by_cases c : k = 0
    · subst c; show PK W L 1 q m ≤ _; rw [s.2]; omega
    · have e := PK_e (W := W) (L := L) (k := k + 1) (q := q) (m := m)
      by_cases c1 : m < k + 1 ∨ 96 < q + (k + 1)
      · rw [if_pos c1] at e; omega
      · rw [if_neg c1] at e
        by_cases c2 : NX W L (q + (k + 1)) (m - (k + 1)) = 0
        · rw [if_pos c2] at e; omega
        · rw [if_neg c2] at e
          have i := ih (by omega) (q + 1) (m - 1) (by omega)
          rw [PK_e, if_neg (by omega), show q + 1 + k = q + (k + 1) by omega, show m - 1 - k = m - (k + 1) by omega, if_neg c2] at i
          have e1 := PK_e (W := W) (L := L) (k := 1) (q := q) (m := m)
          rw [if_neg (by omega), if_neg (by omega)] at e1
          have h1 := hW q (q + 1) (by omega)
          have h2 := hW (q + 1) (q + (k + 1)) (by omega)
          rw [s.2]
          omega
/-- where the best plan begins: the least quarter -/
def BG (W : Mem) (L m : Nat) : Nat → Nat → Nat
  | 0, _ => 0
  | t + 1, q => if ¬ PK W L L q m = 0 ∧ PL W L (q + 1) m ≤ PK W L L q m then q + 1 else BG W L m t (q + 1)
/-- the numbers as they are kept -/
def VJ (p : Nat) : Int32 := J p + -J 1
def VLg (p : Nat) : Int64 := if p = 0 then Int64.ofInt (-1) else N64 (p - 1)
theorem VJ_s (p : Nat) : VJ (p + 1) = J p := Jn1
theorem VJ_0 : VJ 0 = -J 1 := J01'
theorem VJ_int (h : k ≤ 1000000000) : (VJ k).toInt = (k : Int) - 1 := by
  cases k with
  | zero => rw [VJ_0]; decide
  | succ k => rw [VJ_s, J_int (by omega)]; omega
theorem VJ_lt (h : k ≤ 1000000000) (h2 : m ≤ 1000000000) : (VJ k < VJ m) = (k < m) := by
  rw [Int32.lt_iff_toInt_lt, VJ_int h, VJ_int h2]; exact propext (by omega)
theorem VJ_eq (h : k ≤ 1000000000) (h2 : m ≤ 1000000000) : (VJ k = VJ m) = (k = m) := by
  refine propext ⟨fun e => ?_, fun e => by rw [e]⟩
  have := congrArg Int32.toInt e
  rw [VJ_int h, VJ_int h2] at this; omega
theorem VJ_n1 (h : k ≤ 1000000000) : (VJ k = -J 1) = (k = 0) := by rw [← VJ_0, VJ_eq h (by omega)]
theorem VJ_ltJ (h : k ≤ 1000000000) (h2 : m < 1000000000) : (VJ k < J m) = (k < m + 1) := by rw [← VJ_s, VJ_lt h (by omega)]
theorem VLg_s (p : Nat) : VLg (p + 1) = N64 p := by unfold VLg; rw [if_neg (by omega)]; rfl
theorem VJ_L (h : k ≤ 1000000000) : (VJ k).toInt64 = VLg k := by
  cases k with
  | zero => rw [VJ_0]; rfl
  | succ k => rw [VJ_s, VLg_s, N64_J (by omega)]
theorem VLg_int (h : k ≤ 1000000000) : (VLg k).toInt = (k : Int) - 1 := by
  cases k with
  | zero => rfl
  | succ k => rw [VLg_s, N64_int (by omega)]; omega
theorem VJ_lt_ite (h : k ≤ 1000000000) (h2 : m ≤ 1000000000) : (if VJ k < VJ m then VJ m else VJ k) = VJ (max k m) := by
  by_cases c : k < m
  · rw [if_pos (by rw [VJ_lt h h2]; exact c), show max k m = m by omega]
  · rw [if_neg (by rw [VJ_lt h h2]; exact c), show max k m = k by omega]
/-! the class -/
theorem cv_50 (hL : 1 ≤ L) (hW : ∀ a b, a ≤ b → W a ≤ W b) (hb : W 96 ≤ 96000000) (hA : ∀ j, j ≤ 96 → sI σ (X + 1) j = J (W j)) (hk : k ≤ 96) (hm : m ≤ 96) (hq : q ≤ 96) (hr : q + k ≤ 96 → k ≤ m → sI σ (X + 2) ((m - k) * 97 + q + k) = VJ (NX W L (q + k) (m - k))) : f_50 σ X (J k) (J m) (J q) = VJ (PK W L k q m) := by
  unfold f_50
  rw [PK_e]
  by_cases c1 : m < k
  · rw [if_pos (by rw [J_lt (by omega) (by omega)]; exact c1), if_pos (Or.inl c1), VJ_0]
  · rw [if_neg (by rw [J_lt (by omega) (by omega)]; exact c1), J_add]
    by_cases c2 : q + k ≤ 96
    · have hr := hr c2 (by omega)
      have b := (PL_b (W := W) hL hW (96 - (q + k)) (q + k) (m - k) c2 (Nat.le_refl _)).2
      have w1 := hW (q + k) 96 c2
      have w2 := hW q (q + k) (by omega)
      rw [if_pos (by rw [J_le (by omega) (by omega)]; exact c2), if_neg (show ¬ (m < k ∨ 96 < q + k) by omega), J_sub (by omega), J_mul, J_add, J_add, J_cl (by omega), J_cl (by omega), J_cl (by omega), hr, hA _ c2, hA _ (by omega)]
      by_cases c3 : NX W L (q + k) (m - k) = 0
      · rw [if_pos c3, if_pos (by rw [c3, VJ_0]), VJ_0]
      · rw [if_neg c3, if_neg (by rw [VJ_n1 (by omega)]; exact c3)]
        obtain ⟨v, hv⟩ : ∃ v, NX W L (q + k) (m - k) = v + 1 := ⟨NX W L (q + k) (m - k) - 1, by omega⟩
        rw [hv, VJ_s, J_add, J_sub (by omega), show v + 1 + (W (q + k) - W q) = (v + W (q + k) - W q) + 1 by omega, VJ_s]
    · rw [if_neg (by rw [J_le (by omega) (by omega)]; exact c2), if_pos (Or.inr (by omega)), VJ_0]
/-- the rows of the class that are ready: all of m' < m, and of m from quarter q on -/
def HRw (σ : Sto) (X : Nat) (W : Mem) (L a m q : Nat) : Prop := ∀ m' j, a ≤ j → j ≤ 96 → (m' < m ∨ (m' = m ∧ q ≤ j)) → sI σ (X + 2) (m' * 97 + j) = VJ (NX W L j m')
def P49 (X : Nat) : Nat → Nat → Prop := fun p j => (p = X ∧ j ≤ 1) ∨ p = X + 2
theorem c_row (n5 : S_5 σ X) (hL : 1 ≤ L ∧ L ≤ 96) (hW : ∀ a b, a ≤ b → W a ≤ W b) (hb : W 96 ≤ 96000000) (hA : ∀ j, j ≤ 96 → sI σ (X + 1) j = J (W j)) (hm : m ≤ 96) (ha : a < 96) (hr : HRw σ X W L a m 97)
    (hQ : ∀ τ, Fr (P49 X) σ τ → HRw τ X W L a m a → sI τ X 0 = VJ (PL W L a m) → sI τ X 1 = VJ (BG W L m (96 - a) a) → Q (.inl none) τ) : WP gT (d + 2) B 49 0 [.ref X, .int (J m), .int (J a), .int (J L), .retAddr 0, .retAddr 0] [] σ Q := by
  have bd : ∀ q m, q ≤ 96 → PL W L q m ≤ 96000001 ∧ NX W L q m ≤ 96000001 := fun q m hq => by
    have := PL_b (W := W) (m := m) hL.1 hW 96 q hq (by omega)
    have w1 := hW q 96 hq
    omega
  have bpk : ∀ k q m, q + k ≤ 96 ∨ 96 < q + k → PK W L k q m ≤ 192000001 := fun k q m _ => by
    rw [PK_e]
    by_cases c : m < k ∨ 96 < q + k
    · rw [if_pos c]; omega
    · rw [if_neg c]
      have := (bd (q + k) (m - k) (by omega)).2
      have w1 := hW (q + k) 96 (by omega)
      by_cases c2 : NX W L (q + k) (m - k) = 0
      · rw [if_pos c2]; omega
      · rw [if_neg c2]; omega
  have bpk : ∀ k q m, PK W L k q m ≤ 192000001 := fun k q m => bpk k q m (by omega)
  have bbg : ∀ t q, q + t = 96 → BG W L m t q ≤ 96 := by
    intro t
    induction t with
    | zero => intro q _; exact Nat.zero_le _
    | succ t ih =>
      intro q hq
      show (if ¬ PK W L L q m = 0 ∧ PL W L (q + 1) m ≤ PK W L L q m then q + 1 else BG W L m t (q + 1)) ≤ 96
      split
      · omega
      · exact ih (q + 1) (by omega)
  have L2 : ∀ t q τ x5, q = a + t → q ≤ 96 → Fr (P49 X) σ τ → HRw τ X W L a m q → sI τ X 0 = VJ (PL W L q m) → sI τ X 1 = VJ (BG W L m (96 - q) q) → WP gT (d + 2) B 49 38 [.ref X, .int (J m), .int (J a), .int (J L), .int (VJ q), x5] [] τ Q := by
    intro t
    induction t with
    | zero =>
      intro q τ x5 hq hq2 F hR h0 h1
      have hq : q = a := hq
      subst hq
      exact g_49_38 (F.sh n5) ⟨fun _ => hQ τ F hR h0 h1, fun c => absurd (by rw [VJ_ltJ (by omega) (by omega)]; omega) c⟩
    | succ t ih =>
      intro q τ x5 hq hq2 F hR h0 h1
      obtain ⟨p, rfl⟩ : ∃ p, q = p + 1 := ⟨a + t, by omega⟩
      have hA' : ∀ (ρ : Sto), Fr (P49 X) σ ρ → ∀ j, j ≤ 96 → sI ρ (X + 1) j = J (W j) := fun ρ f j hj => by rw [f.i (by unfold P49; omega)]; exact hA j hj
      have cell : ∀ k, 1 ≤ k → p + k ≤ 96 → k ≤ m → sI τ (X + 2) ((m - k) * 97 + p + k) = VJ (NX W L (p + k) (m - k)) := fun k h1 h2 h3 => by
        rw [Nat.add_assoc]; exact hR _ _ (by omega) h2 (Or.inl (by omega))
      have fL := cv_50 (k := L) (m := m) (q := p) hL.1 hW hb (hA' τ F) hL.2 hm (by omega) (cell L hL.1)
      have f1 := cv_50 (k := 1) (m := m) (q := p) hL.1 hW hb (hA' τ F) (by omega) hm (by omega) (cell 1 (by omega))
      have s := PL_s (W := W) (L := L) (m := m) hL.1 (show p < 96 by omega)
      have pn := PK_NX (W := W) hL.1 hW L hL.1 p m (by omega)
      have b1 := bd p m (by omega)
      have b2 := bd (p + 1) m (by omega)
      have b3 := bpk L p m
      have b4 := bpk 1 p m
      have e96 : 96 - p = (96 - (p + 1)) + 1 := by omega
      have eBG : BG W L m (96 - p) p = if ¬ PK W L L p m = 0 ∧ PL W L (p + 1) m ≤ PK W L L p m then p + 1 else BG W L m (96 - (p + 1)) (p + 1) := by rw [e96]; rfl
      -- the guard of a piece
      have gd : ∀ (ρ : Sto) k, k ≤ 96 → (¬ (J m < J k) → ((J p + J k) ≤ (J 96) → (vp_in ((((J m - J k) * (J 97)) + J p) + J k) 9409 ∧ (¬ ((sI ρ (X + 2) (((((J m - J k) * (J 97)) + J p) + J k).toNatClampNeg)) = (-J 1)) → (vp_in (J p + J k) 97 ∧ (vp_in (J p) 97 ∧ True)))))) := fun ρ k hk c1 c2 => by
        rw [J_lt (by omega) (by omega)] at c1
        rw [J_add, J_le (by omega) (by omega)] at c2
        rw [J_sub (by omega), J_mul, J_add, J_add, J_add]
        exact ⟨(by simp (disch := omega) only [J_add, J_mul, J_sub, J_cl, vp_J]; omega), fun _ => ⟨(by simp (disch := omega) only [J_add, J_mul, J_sub, J_cl, vp_J]; omega), (by simp (disch := omega) only [J_add, J_mul, J_sub, J_cl, vp_J]; omega), trivial⟩⟩
      have fin : ∀ (ρ : Sto) (u : Int32) x5, Fr (P49 X) τ ρ → (∀ j, sI ρ (X + 2) j = sI τ (X + 2) j) → u = VJ (NX W L p m) → sI ρ X 0 = VJ (PL W L p m) → sI ρ X 1 = VJ (BG W L m (96 - p) p) → WP gT (d + 2) B 49 38 [.ref X, .int (J m), .int (J a), .int (J L), .int (J p + -J 1), x5] [] (setI ρ (X + 2) ((J m * J 97) + J p).toNatClampNeg u) Q := fun ρ u x5 f hc hu g0 g1 => by
        rw [J_mul, J_add, J_cl (by omega)]
        have fs : Fr (fun p _ => p = X + 2) ρ (setI ρ (X + 2) (m * 97 + p) u) := Fr.rf.setI rfl
        refine ih p _ x5 (by omega) (by omega) ((F.tr f).tr (fs.mono (fun p j k => by unfold P49; omega))) (fun m' j h1 h2 h3 => ?_) ?_ ?_
        · by_cases c : m' * 97 + j = m * 97 + p
          · have : m' = m := by omega
            subst this
            have : j = p := by omega
            subst this
            rw [sI_same]; exact hu
          · rw [sI_any (by omega), hc]
            exact hR m' j h1 h2 (by
              rcases h3 with h3 | ⟨h3, h4⟩
              · exact Or.inl h3
              · subst h3; exact Or.inr ⟨rfl, by omega⟩)
        · rw [fs.i (by omega)]; exact g0
        · rw [fs.i (by omega)]; exact g1
      rw [VJ_s]
      refine g_49_38 (F.sh n5) ⟨fun c => ?_, fun _ => ⟨gd τ L hL.2, fun c => ?_, fun c => ⟨fun c2 => ?_, fun c2 => ?_⟩⟩⟩
      · exfalso; rw [J_lt (by omega) (by omega)] at c; omega
      · rw [fL, VJ_n1 (by omega)] at c
        refine ⟨gd τ 1 (by omega), ?_, fun u hu => ?_⟩
        · rw [J_mul, J_add]; exact (by simp (disch := omega) only [J_add, J_mul, J_sub, J_cl, vp_J]; omega)
        · rw [h0, f1] at hu
          have ePL : PL W L p m = PL W L (p + 1) m := by rw [s.1, c]; omega
          refine fin τ u _ Fr.rf (fun _ => rfl) ?_ (by rw [ePL]; exact h0) (by rw [eBG, if_neg (fun k => k.1 c)]; exact h1)
          rw [hu, s.2, VJ_lt_ite (by omega) (by omega)]
      · rw [fL, h0, VJ_lt (by omega) (by omega)] at c2
        refine ⟨gd τ 1 (by omega), ?_, fun u hu => ?_⟩
        · rw [J_mul, J_add]; exact (by simp (disch := omega) only [J_add, J_mul, J_sub, J_cl, vp_J]; omega)
        · rw [h0, f1] at hu
          have ePL : PL W L p m = PL W L (p + 1) m := by rw [s.1]; omega
          refine fin τ u _ Fr.rf (fun _ => rfl) ?_ (by rw [ePL]; exact h0) (by rw [eBG, if_neg (fun k => by omega)]; exact h1)
          rw [hu, s.2, VJ_lt_ite (by omega) (by omega)]
      · rw [fL, h0, VJ_lt (by omega) (by omega)] at c2
        rw [fL, VJ_n1 (by omega)] at c
        refine ⟨gd _ 1 (by omega), ?_, fun u hu => ?_⟩
        · rw [J_mul, J_add]; exact (by simp (disch := omega) only [J_add, J_mul, J_sub, J_cl, vp_J]; omega)
        · have fs : Fr (fun p j => p = X ∧ j ≤ 1) τ (setI (setI τ X 0 (f_50 τ X (J L) (J m) (J p))) X 1 (J p)) := (Fr.rf.setI (by omega)).setI (by omega)
          have f1' : f_50 (setI (setI τ X 0 (f_50 τ X (J L) (J m) (J p))) X 1 (J p)) X (J 1) (J m) (J p) = f_50 τ X (J 1) (J m) (J p) := by
            unfold f_50
            simp (disch := omega) only [sI_any]
          rw [f1', f1, fL] at hu
          have ePL : PL W L p m = PK W L L p m := by rw [s.1]; omega
          refine fin _ u _ (fs.mono (fun p j k => Or.inl k)) (fun j => by rw [fs.i (by omega)]) ?_ ?_ ?_
          · rw [hu, VJ_lt_ite (by omega) (by omega), s.2]; congr 1; omega
          · rw [sI_any (by omega), sI_same, fL, ePL]
          · rw [sI_same, eBG, if_pos ⟨c, by omega⟩, VJ_s]
  refine g_49_0 n5 ⟨by rw [J_mul, J_add]; exact (by simp (disch := omega) only [J_add, J_mul, J_sub, J_cl, vp_J]; omega), ?_⟩
  have e0 : (if J m = J 0 then J 0 else -J 1) = VJ (if m = 0 then 1 else 0) := by
    by_cases c : m = 0
    · rw [if_pos (by rw [c]), if_pos c, VJ_s]
    · rw [if_neg (fun e => c (J_inj (by omega) (by omega) e)), if_neg c, VJ_0]
  rw [e0, J_mul, J_add, J_cl (by omega), show J 95 = VJ 96 from (VJ_s 95).symm]
  refine L2 (96 - a) 96 _ _ (by omega) (Nat.le_refl _) ((((Fr.rf.setI (Or.inl ⟨rfl, by omega⟩)).setI (Or.inl ⟨rfl, by omega⟩)).setI (Or.inr rfl))) (fun m' j h1 h2 h3 => ?_) ?_ ?_
  · by_cases c : m' * 97 + j = m * 97 + 96
    · have : m' = m := by omega
      subst this
      have : j = 96 := by omega
      subst this
      rw [sI_same, PL_96.2]
    · rw [sI_any (by omega), sI_any (by omega), sI_any (by omega)]
      exact hr m' j h1 h2 (by
        rcases h3 with h3 | ⟨h3, h4⟩
        · exact Or.inl h3
        · subst h3; omega)
  · rw [sI_any (by omega), sI_any (by omega), sI_same, PL_96.1]
  · rw [sI_any (by omega), sI_same]
    show -J 1 = VJ (BG W L m 0 96)
    exact VJ_0.symm
