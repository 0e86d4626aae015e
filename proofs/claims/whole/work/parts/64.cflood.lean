/-! ===== the class: its gorge, and a flood ===== -/
def RGg (σ : Sto) (g : Nat) (mv : Mem) : Prop :=
  (sI σ g 0 = J (mv 9) ∧ sI σ g 1 = J (mv 10) ∧ sI σ g 2 = J (mv 11) ∧ sI σ g 3 = J (mv 12) ∧ sI σ g 5 = J (mv 1) ∧ sI σ g 8 = J (mv 2) ∧ sI σ g 14 = J (mv 3)) ∧
  (∀ q, q < 96 → sI σ (g + 2) q = J (mv (20 + q)) ∧ sI σ (g + 3) q = J (mv (116 + q)) ∧ sI σ (g + 4) q = J (mv (212 + q))) ∧
  (∀ i, i < 4 → sI σ (g + 6) (i * 7) = J 0) ∧
  (∀ i, i < mv 1 → sI σ (g + 5) i = J (mv (308 + 7 * i)) ∧ ∀ s, 1 ≤ s → s ≤ mv (308 + 7 * i) → sI σ (g + 6) (i * 7 + s) = J (mv (308 + 7 * i + s))) ∧
  (∀ r, r < mv 2 → sI σ (g + 7) r = J (mv (336 + 5 * r)) ∧ sI σ (g + 8) r = J (mv (336 + 5 * r + 1)) ∧ sI σ (g + 9) r = J (mv (336 + 5 * r + 2)) ∧ sI σ (g + 10) r = J (mv (336 + 5 * r + 3)) ∧ sI σ (g + 11) r = J (mv (336 + 5 * r + 4))) ∧
  (∀ p, p < mv 3 → sI σ (g + 12) p = J (mv (376 + 4 * p)) ∧ sI σ (g + 13) p = J (mv (376 + 4 * p + 1)) ∧ sI σ (g + 14) p = J (mv (376 + 4 * p + 2)) ∧ sI σ (g + 15) p = J (mv (376 + 4 * p + 3)))
theorem RGg.s {σ : Sto} {g : Nat} {mv : Mem} (h : RGg σ g mv) : sI σ g 0 = J (mv 9) ∧ sI σ g 1 = J (mv 10) ∧ sI σ g 2 = J (mv 11) ∧ sI σ g 3 = J (mv 12) ∧ sI σ g 5 = J (mv 1) ∧ sI σ g 8 = J (mv 2) ∧ sI σ g 14 = J (mv 3) := h.1
theorem RGg.q {σ : Sto} {g : Nat} {mv : Mem} (h : RGg σ g mv) {q : Nat} (hq : q < 96) : sI σ (g + 2) q = J (mv (20 + q)) ∧ sI σ (g + 3) q = J (mv (116 + q)) ∧ sI σ (g + 4) q = J (mv (212 + q)) := h.2.1 q hq
theorem RGg.z {σ : Sto} {g : Nat} {mv : Mem} (h : RGg σ g mv) {i : Nat} (hi : i < 4) : sI σ (g + 6) (i * 7) = J 0 := h.2.2.1 i hi
theorem RGg.g {σ : Sto} {g : Nat} {mv : Mem} (h : RGg σ g mv) {i : Nat} (hi : i < mv 1) : sI σ (g + 5) i = J (mv (308 + 7 * i)) ∧ ∀ s, 1 ≤ s → s ≤ mv (308 + 7 * i) → sI σ (g + 6) (i * 7 + s) = J (mv (308 + 7 * i + s)) := h.2.2.2.1 i hi
theorem RGg.r {σ : Sto} {g : Nat} {mv : Mem} (h : RGg σ g mv) {r : Nat} (hr : r < mv 2) : sI σ (g + 7) r = J (mv (336 + 5 * r)) ∧ sI σ (g + 8) r = J (mv (336 + 5 * r + 1)) ∧ sI σ (g + 9) r = J (mv (336 + 5 * r + 2)) ∧ sI σ (g + 10) r = J (mv (336 + 5 * r + 3)) ∧ sI σ (g + 11) r = J (mv (336 + 5 * r + 4)) := h.2.2.2.2.1 r hr
theorem RGg.p {σ : Sto} {g : Nat} {mv : Mem} (h : RGg σ g mv) {p : Nat} (hp : p < mv 3) : sI σ (g + 12) p = J (mv (376 + 4 * p)) ∧ sI σ (g + 13) p = J (mv (376 + 4 * p + 1)) ∧ sI σ (g + 14) p = J (mv (376 + 4 * p + 2)) ∧ sI σ (g + 15) p = J (mv (376 + 4 * p + 3)) := h.2.2.2.2.2 p hp
theorem RGg.eqI {σ τ : Sto} {g g' : Nat} {mv : Mem} (h : RGg σ g mv) (he : ∀ i j, i < 16 → sI τ (g' + i) j = sI σ (g + i) j) : RGg τ g' mv := by
  obtain ⟨h1, h2, h3, h4, h5, h6⟩ := h
  have e0 : ∀ j, sI τ g' j = sI σ g j := fun j => he 0 j (by omega)
  refine ⟨?_, fun q hq => ?_, fun i hi => ?_, fun i hi => ⟨?_, fun s a b => ?_⟩, fun r hr => ?_, fun p hp => ?_⟩
  · simp only [e0]; exact h1
  · rw [he 2 q (by omega), he 3 q (by omega), he 4 q (by omega)]; exact h2 q hq
  · rw [he 6 _ (by omega)]; exact h3 i hi
  · rw [he 5 _ (by omega)]; exact (h4 i hi).1
  · rw [he 6 _ (by omega)]; exact (h4 i hi).2 s a b
  · rw [he 7 _ (by omega), he 8 _ (by omega), he 9 _ (by omega), he 10 _ (by omega), he 11 _ (by omega)]; exact h5 r hr
  · rw [he 12 _ (by omega), he 13 _ (by omega), he 14 _ (by omega), he 15 _ (by omega)]; exact h6 p hp
theorem RGg.fr {P : Nat → Nat → Prop} {σ τ : Sto} {g : Nat} {mv : Mem} (h : RGg σ g mv) (f : Fr P σ τ) (hP : ∀ i j, i < 16 → ¬ P (g + i) j) : RGg τ g mv := h.eqI (fun i j hi => f.i (hP i j hi))
theorem cv_157 {σ : Sto} {a : Int32} {b : Nat} (h0 : 1 ≤ b) (hb : b < 2147483648) : f_157 σ a (J b) = a / J b := by
  unfold f_157; rw [if_neg (by rw [J_le hb (by omega)]; omega)]
theorem cv_44 {σ : Sto} {g : Nat} {mv : Mem} (h : RGg σ g mv) (hv : VG mv) : f_44 σ g = J (lv0 mv) := by
  have := hv.s
  have h := h.s
  unfold f_44; rw [h.1, h.2.1, cv_157 (by omega) (by omega), J_div (by omega) (by omega) (by omega)]; rfl
theorem cv_46 {σ : Sto} {g : Nat} {mv : Mem} (h : RGg σ g mv) (hv : VG mv) {i s : Nat} (hi : i < mv 1) (hs : s ≤ 6) : f_46 σ g (J i) (J s) = J (flwG mv i s) := by
  have h1 := hv.s
  have h2 := hv.g hi
  have h3 := h.g hi
  unfold f_46 flwG
  simp (disch := omega) only [J_add, J_mul, J_sub, J_cl, J_lt, J_le, J_eq, vp_J, n1_ne, n1_lt, n1_le, n1_nlt, n1_nle, h3.1]
  by_cases c : mv (308 + 7 * i) < s
  · rw [if_pos c, if_neg (by omega), if_neg (by omega)]
    simp (disch := omega) only [J_add, J_mul, J_sub, J_cl, J_lt, J_le, J_eq, vp_J, n1_ne, n1_lt, n1_le, n1_nlt, n1_nle]
    exact h3.2 _ h2.1 (Nat.le_refl _)
  · rw [if_neg c]
    simp (disch := omega) only [J_add, J_mul, J_sub, J_cl, J_lt, J_le, J_eq, vp_J, n1_ne, n1_lt, n1_le, n1_nlt, n1_nle]
    by_cases e : s = 0
    · subst e; rw [if_pos rfl]; exact h.z (by omega)
    · rw [if_neg e, if_pos (by omega)]; exact h3.2 _ (by omega) (by omega)
/-! the lake never falls below 0 -/
theorem min_eq (u : Int64) (l : Int32) : (if l.toInt64 < u then l.toInt64 else u).toInt32 = if lg_cmp u l.toInt64 ≤ J 0 then u.toInt32 else l := by
  by_cases c : l.toInt64 < u
  · rw [if_pos c, if_neg (by rw [show J 0 = 0 from rfl, lg_cmp_le]; rw [Int64.lt_iff_toInt_lt] at c; rw [Int64.le_iff_toInt_le]; omega)]
    exact Int32.toInt32_toInt64 l
  · rw [if_neg c, if_pos (by rw [show J 0 = 0 from rfl, lg_cmp_le]; rw [Int64.lt_iff_toInt_lt] at c; rw [Int64.le_iff_toInt_le]; omega)]
theorem J64 {a : Nat} (h : a < 2147483648) : (J a).toInt64.toInt = a := by rw [Int32.toInt_toInt64, J_int h]
theorem wnt_nn {mv st : Mem} (hv : VG mv) {q a g : Nat} (hg : g < mv 1) (ha : a < 2000000) : 0 ≤ (wnt mv st q (J a) g).toInt := by
  have hs := hv.s
  have hf := flw_le hv (s := st (96 * g + q)) hg
  have h1 : a / mv 9 ≤ a := Nat.div_le_self _ _
  have h2 := lv0_le mv
  unfold wnt
  split
  · decide
  · rw [J_div (by omega) (by omega) (by omega), Int64.toInt_div, J64 (by omega), Int64.toInt_mul, J64 (by omega), J64 (Nat.lt_of_le_of_lt h1 (by omega))]
    have h4 : flwG mv g (st (96 * g + q)) * (a / mv 9) ≤ 19998000000 := Nat.le_trans (Nat.mul_le_mul hf (Nat.le_trans h1 (Nat.le_of_lt ha))) (Nat.le_of_ble_eq_true rfl)
    rw [show (flwG mv g (st (96 * g + q)) : Int) * ((a / mv 9 : Nat) : Int) = ((flwG mv g (st (96 * g + q)) * (a / mv 9) : Nat) : Int) from (Int.natCast_mul _ _).symm]
    generalize flwG mv g (st (96 * g + q)) * (a / mv 9) = x at h4 ⊢
    rw [show (x : Int).bmod (2 ^ 64) = x from Int.bmod_eq_of_le (by omega) (by omega), Int.tdiv_eq_ediv_of_nonneg (by omega), ← Int.natCast_ediv]
    have h5 : x / lv0 mv ≤ x := Nat.div_le_self _ _
    generalize x / lv0 mv = y at h5 ⊢
    rw [Int.bmod_eq_of_le (by omega) (by omega)]
    omega
theorem lft_J {mv st : Mem} (hv : VG mv) {q a : Nat} (ha : a < 2000000) : ∀ g, g ≤ mv 1 → ∃ b, b ≤ a ∧ lft mv st q (J a) g = J b := by
  intro g
  induction g with
  | zero => intro _; exact ⟨a, Nat.le_refl _, rfl⟩
  | succ g ih =>
    intro hg
    obtain ⟨b, hb, e⟩ := ih (by omega)
    have hw := wnt_nn (st := st) (q := q) (a := a) hv (g := g) (by omega) ha
    unfold lft
    rw [e, show J 0 = 0 from rfl]
    by_cases c : lg_cmp (wnt mv st q (J a) g) (J b).toInt64 ≤ 0
    · rw [if_pos c]
      have c2 := (lg_cmp_le _ _).mp c
      rw [Int64.le_iff_toInt_le, J64 (by omega)] at c2
      refine ⟨b - (wnt mv st q (J a) g).toInt.toNat, by omega, ?_⟩
      have h2 : (wnt mv st q (J a) g).toInt32 = J (wnt mv st q (J a) g).toInt.toNat := by
        apply Int32.toInt_inj.mp
        rw [Int64.toInt_toInt32, J_int (by omega), Int.bmod_eq_of_le (by omega) (by omega)]
        omega
      rw [h2, J_sub (by omega)]
    · rw [if_neg c]
      exact ⟨0, by omega, by rw [J_sub (Nat.le_refl _), Nat.sub_self]⟩
theorem lkF_J {mv st : Mem} (hv : VG mv) : ∀ q, q ≤ 96 → ∃ a, a ≤ 999999 + 9999 * q ∧ lkF mv st q = J a := by
  intro q
  induction q with
  | zero => intro _; have := hv.s; exact ⟨mv 10, by omega, rfl⟩
  | succ q ih =>
    intro hq
    obtain ⟨a, ha, e⟩ := ih (by omega)
    obtain ⟨b, hb, e2⟩ := lft_J (st := st) (q := q) (a := a) hv (by omega) (mv 1) (Nat.le_refl _)
    have := hv.q (q := q) (by omega)
    unfold lkF
    rw [e, e2, J_add]
    exact ⟨b + mv (20 + q), by omega, rfl⟩
/-- nothing is let go where there was no level -/
theorem lft_0 {mv st : Mem} {q a : Nat} (ha : a < 2147483648) (h0 : lv0 mv = 0) : ∀ g, lft mv st q (J a) g = J a := by
  intro g
  induction g with
  | zero => rfl
  | succ g ih =>
    have hw : wnt mv st q (J a) g = 0 := by unfold wnt; rw [if_pos h0]; rfl
    unfold lft
    rw [ih, hw, if_pos (by rw [show J 0 = 0 from rfl, lg_cmp_le, Int64.le_iff_toInt_le, J64 ha, show (0 : Int64).toInt = 0 from by decide]; omega)]
    rw [show (0 : Int64).toInt32 = J 0 from by decide, J_sub (Nat.zero_le _), Nat.sub_zero]
theorem c_released {d : Nat} {B : Nat × Nat} {σ : Sto} {Q : Out → Sto → Prop} {g s : Nat} {mv st : Mem} {q a : Nat} (ng : S_4 σ g) (hv : VG mv) (hG : RGg σ g mv) (hk : sK σ s = 14) (hz : sZ σ s = 384) (hn : ∀ k, k < 384 → sI σ s k = J (st k)) (hst : ∀ k, k < 384 → st k ≤ 6) (hq : q < 96) (ha : a < 2000000)
    (hQ : Q (.inl (some (.int (J a - lft mv st q (J a) (mv 1))))) σ) :
    WP gT (d + 3) B 27 0 [.ref g, .ref s, .int (J q), .int (J a), .retAddr 0, .retAddr 0, .retAddr 0, .retAddr 0, .retAddr 0, .retAddr 0, .retAddr 0] [] σ Q := by
  have hs := hv.s
  have hg := hG.s
  have hdb := lv0_le mv
  have hne : ¬ sI σ g 0 = J 0 := by rw [hg.1, J_eq (by omega) (by omega)]; omega
  have L : 0 < lv0 mv → ∀ i τ, i ≤ mv 1 → τ = σ → ∀ x9 : Value, WP gT (d + 3) B 27 30 [.ref g, .ref s, .int (J q), .int (J a), .int (J (lv0 mv)), .long ((J a / J (mv 9)).toInt64), .retAddr 0, .int (lft mv st q (J a) i), .int (J i), x9, .retAddr 0] [] τ Q := by
    intro hp
    refine upto (mv 1) ?_ ?_
    · intro i τ hi hI ih x9
      subst hI
      have hgi := hG.g hi
      have hvi := hv.g hi
      have hsb := hst (96 * i + q) (by omega)
      have e1 : sI τ s (i * 96 + q) = J (st (96 * i + q)) := by rw [show i * 96 + q = 96 * i + q by omega]; exact hn _ (by omega)
      refine g_27_30 ng hk ⟨fun c => ?_, fun _ => ?_⟩
      · exfalso; simp (disch := omega) only [J_add, J_mul, J_sub, J_cl, J_lt, J_le, J_eq, vp_J, n1_ne, n1_lt, n1_le, n1_nlt, n1_nle, hg] at c; omega
      · simp (disch := omega) only [J_add, J_mul, J_sub, J_cl, J_lt, J_le, J_eq, vp_J, n1_ne, n1_lt, n1_le, n1_nlt, n1_nle, hz, e1, hgi.1, cv_46 hG hv]
        refine ⟨(by omega), (by omega), ?_, ?_, fun u hu => ?_⟩
        · split
          · simp (disch := omega) only [J_add, J_mul, J_sub, J_cl, J_lt, J_le, J_eq, vp_J, n1_ne, n1_lt, n1_le, n1_nlt, n1_nle]; omega
          · simp (disch := omega) only [J_add, J_mul, J_sub, J_cl, J_lt, J_le, J_eq, vp_J, n1_ne, n1_lt, n1_le, n1_nlt, n1_nle]; omega
        · intro h0
          have h1 : (J (lv0 mv)).toInt64.toInt = (0 : Int64).toInt := by rw [h0]
          rw [J64 (by omega)] at h1
          have h2 : (0 : Int64).toInt = 0 := by decide
          omega
        · have hw : u = wnt mv st q (J a) i := by
            rw [hu]; unfold wnt; rw [if_neg (by omega)]
          subst hw
          rw [min_eq]
          exact ih τ rfl _
    · intro τ hI x9
      subst hI
      refine g_27_30 ng hk ⟨fun _ => hQ, fun c => ?_⟩
      exfalso; simp (disch := omega) only [J_add, J_mul, J_sub, J_cl, J_lt, J_le, J_eq, vp_J, n1_ne, n1_lt, n1_le, n1_nlt, n1_nle, hg] at c; omega
  refine g_27_0 ng ⟨fun _ => ⟨hne, trivial⟩, fun c => ⟨fun _ => ⟨hne, trivial⟩, ?_⟩, fun c => ?_⟩
  · rw [cv_44 hG hv, J_lt (by omega) (by omega)] at c
    rw [cv_44 hG hv, hg.1, cv_157 (by omega) (by omega)]
    exact L c 0 σ (Nat.zero_le _) rfl _
  · rw [cv_44 hG hv, J_lt (by omega) (by omega)] at c
    rw [lft_0 (by omega) (by omega), J_sub (Nat.le_refl _), Nat.sub_self] at hQ
    exact hQ
theorem i32_a (a c o b : Int32) : a + c - o + b = a - o + c + b := by simp only [Int32.sub_eq_add_neg]; ac_rfl
theorem i32_b (a l b : Int32) : a + b - (a - l) = l + b := by
  simp only [Int32.sub_eq_add_neg, Int32.neg_add, Int32.neg_neg]
  rw [show a + b + (-a + l) = (a + -a) + (l + b) by ac_rfl, Int32.add_right_neg, Int32.zero_add]
/-- the flood of (mv, st, more) lies in the class's rows as far as quarter n -/
def CFf (σ : Sto) (f : Nat) (mv st : Mem) (more n : Nat) : Prop := ∀ q, q < n → (sI σ (f + 1) q = lkF mv st (q + 1) ∧ sI σ (f + 2) q = ltF mv st q ∧ sI σ (f + 3) q = gnF mv st more (q + 1)) ∧ ∀ r, r < mv 2 → sI σ (f + 5 + r) q = rcF mv st more (q + 1) r ∧ sI σ (f + 14 + r) q = dpF mv st more (q + 1) r
def P26 (f q : Nat) : Nat → Nat → Prop := fun p j => (f + 1 ≤ p ∧ p ≤ f + 21) ∧ j = q
theorem c_runQuarter {d : Nat} {B : Nat × Nat} {σ : Sto} {Q : Out → Sto → Prop} {f g s : Nat} {mv st : Mem} {more q : Nat} (nf : S_3 σ f) (ng : S_4 σ g) (hd1 : g + 16 ≤ f ∨ f + 22 ≤ g) (hd2 : s < f ∨ f + 22 ≤ s) (hv : VG mv) (hG : RGg σ g mv) (hk : sK σ s = 14) (hz : sZ σ s = 384) (hn : ∀ k, k < 384 → sI σ s k = J (st k)) (hst : ∀ k, k < 384 → st k ≤ 6) (hmo : more ≤ 9) (hq : q < 96) (hf : CFf σ f mv st more q)
    (hQ : ∀ τ, Fr (P26 f q) σ τ → CFf τ f mv st more (q + 1) → Q (.inl none) τ) :
    WP gT (d + 4) B 26 0 [.ref f, .ref g, .ref s, .int (J q), .int (J more), .retAddr 0, .retAddr 0, .retAddr 0, .retAddr 0, .retAddr 0, .retAddr 0, .retAddr 0] [] σ Q := by
  have hs := hv.s
  have hgs := hG.s
  have hqv := hv.q hq
  obtain ⟨a, ha, ea⟩ := lkF_J (st := st) hv q (by omega)
  have eu : (if J q = J 0 then sI σ g 1 else sI σ (f + 1) ((J q - J 1).toNatClampNeg)) = J a := by
    by_cases e : q = 0
    · subst e; rw [if_pos rfl, hgs.2.1]; exact ea
    · simp (disch := omega) only [J_add, J_mul, J_sub, J_cl, J_lt, J_le, J_eq, vp_J, n1_ne, n1_lt, n1_le, n1_nlt, n1_nle]; rw [if_neg e, (hf (q - 1) (by omega)).1.1, show q - 1 + 1 = q by omega]; exact ea
  have L : ∀ r τ, r ≤ mv 2 → (Fr (P26 f q) σ τ ∧ sI τ (f + 1) q = lkF mv st (q + 1) ∧ sI τ (f + 2) q = ltF mv st q ∧ ∀ k, k < r → sI τ (f + 5 + k) q = rcF mv st more (q + 1) k ∧ sI τ (f + 14 + k) q = dpF mv st more (q + 1) k) →
      ∀ (u2 : Int32) (x9 x10 x11 : Value), WP gT (d + 4) B 26 83 [.ref f, .ref g, .ref s, .int (J q), .int (J more), .int u2, .int (J (mv (116 + q) + more)), .int (comF mv (rcF mv st more q) (ltF mv st q) r), .int (J r), x9, x10, x11] [] τ Q := by
    refine upto (mv 2) ?_ ?_
    · intro r τ hr hI ih u2 x9 x10 x11
      obtain ⟨hF, hI1, hI2, hI3⟩ := hI
      have hrv := hv.r hr
      have hG2 : RGg τ g mv := hG.fr hF (fun i j hi h => by unfold P26 at h; omega)
      have hgr := hG2.r hr
      have hg2 := hG2.s
      have e7 : (if J q = J 0 then J 0 else sI τ (f + 5 + r) ((J q - J 1).toNatClampNeg)) = rcF mv st more q r := by
        by_cases e : q = 0
        · subst e; rfl
        · simp (disch := omega) only [J_add, J_mul, J_sub, J_cl, J_lt, J_le, J_eq, vp_J, n1_ne, n1_lt, n1_le, n1_nlt, n1_nle]; rw [if_neg e, hF.i (by unfold P26; omega), ((hf (q - 1) (by omega)).2 r hr).1, show q - 1 + 1 = q by omega]
      have e10 : (if J q = J 0 then J 0 else sI τ (f + 14 + r) ((J q - J 1).toNatClampNeg)) = dpF mv st more q r := by
        by_cases e : q = 0
        · subst e; show J 0 = J 0 / J (mv (336 + 5 * r)); rw [J_div (by omega) (by omega) (by omega), Nat.zero_div]
        · simp (disch := omega) only [J_add, J_mul, J_sub, J_cl, J_lt, J_le, J_eq, vp_J, n1_ne, n1_lt, n1_le, n1_nlt, n1_nle]; rw [if_neg e, hF.i (by unfold P26; omega), ((hf (q - 1) (by omega)).2 r hr).2, show q - 1 + 1 = q by omega]
      refine g_26_83 (hF.sh ng) (hF.sh nf) ⟨fun c => ?_, fun _ => ?_⟩
      · exfalso; simp (disch := omega) only [J_add, J_mul, J_sub, J_cl, J_lt, J_le, J_eq, vp_J, n1_ne, n1_lt, n1_le, n1_nlt, n1_nle, hg2] at c; omega
      · simp (disch := omega) only [J_cl]
        have hv1 : ¬ J q = J 0 → vp_in (J r) 8 ∧ vp_in (J q - J 1) 96 ∧ True := fun c => by
          simp (disch := omega) only [J_add, J_mul, J_sub, J_cl, J_lt, J_le, J_eq, vp_J, n1_ne, n1_lt, n1_le, n1_nlt, n1_nle] at c
          simp (disch := omega) only [J_add, J_mul, J_sub, J_cl, J_lt, J_le, J_eq, vp_J, n1_ne, n1_lt, n1_le, n1_nlt, n1_nle, and_true]
          omega
        refine ⟨hv1, fun u7 h7 => ⟨hv1, fun u10 h10 => ⟨(by simp (disch := omega) only [J_add, J_mul, J_sub, J_cl, vp_J]; omega), ⟨fun c => ⟨(by simp (disch := omega) only [J_add, J_mul, J_sub, J_cl, vp_J]; omega), trivial⟩, fun c => ⟨(by simp (disch := omega) only [J_add, J_mul, J_sub, J_cl, vp_J]; omega), trivial⟩⟩, fun u14 h14 => ⟨(by simp (disch := omega) only [J_add, J_mul, J_sub, J_cl, vp_J]; omega), (by simp (disch := omega) only [J_add, J_mul, J_sub, J_cl, vp_J]; omega), (by simp (disch := omega) only [J_add, J_mul, J_sub, J_cl, vp_J]; omega), fun u18 h18 => ⟨(by simp (disch := omega) only [J_add, J_mul, J_sub, J_cl, vp_J]; omega), (by simp (disch := omega) only [J_add, J_mul, J_sub, J_cl, vp_J]; omega), (by simp (disch := omega) only [J_add, J_mul, J_sub, J_cl, vp_J]; omega), (by simp (disch := omega) only [J_add, J_mul, J_sub, J_cl, vp_J]; omega), fun c => ⟨?_, trivial⟩, (by simp (disch := omega) only [J_add, J_mul, J_sub, J_cl, vp_J]; omega), fun u25 h25 => ?_⟩⟩⟩⟩⟩
        · rw [sI_any (by omega), hgr.1, J_eq (by omega) (by omega)]; omega
        · rw [e7] at h7; rw [e10] at h10
          have ho : u7 * u14 / J 100 = outF mv (rcF mv st more q) r := by
            rw [h14, h7, h10, hgr.2.1, hgr.2.2.1, hgr.2.2.2.1]
            unfold outF dpF
            split <;> rfl
          have hw : u18 = rcF mv st more (q + 1) r := by
            rw [h18, ho, h7, hgr.2.2.2.2, i32_a]; rfl
          have hdp : u25 = dpF mv st more (q + 1) r := by
            rw [h25, hw, sI_any (by omega), hgr.1, cv_157 (by omega) (by omega)]; rfl
          rw [ho, hw, hdp, J_add]
          refine ih _ ⟨(hF.setI (by unfold P26; omega)).setI (by unfold P26; omega), ?_, ?_, fun k hk => ?_⟩ _ _ _ _
          · rw [sI_any (by omega), sI_any (by omega)]; exact hI1
          · rw [sI_any (by omega), sI_any (by omega)]; exact hI2
          · by_cases e : k = r
            · subst e; rw [sI_any (by omega), sI_same, sI_same]; exact ⟨rfl, rfl⟩
            · rw [sI_any (by omega), sI_any (by omega), sI_any (by omega), sI_any (by omega)]; exact hI3 k (by omega)
    · intro τ hI u2 x9 x10 x11
      obtain ⟨hF, hI1, hI2, hI3⟩ := hI
      have hG2 : RGg τ g mv := hG.fr hF (fun i j hi h => by unfold P26 at h; omega)
      have hg2 := hG2.s
      refine g_26_83 (hF.sh ng) (hF.sh nf) ⟨fun _ => ⟨fun c => ⟨?_, trivial⟩, fun u2 h2 => ⟨(by simp (disch := omega) only [J_add, J_mul, J_sub, J_cl, vp_J]; omega), ?_⟩⟩, fun c => ?_⟩
      · simp (disch := omega) only [J_add, J_mul, J_sub, J_cl, J_lt, J_le, J_eq, vp_J, n1_ne, n1_lt, n1_le, n1_nlt, n1_nle] at c
        simp (disch := omega) only [J_add, J_mul, J_sub, J_cl, J_lt, J_le, J_eq, vp_J, n1_ne, n1_lt, n1_le, n1_nlt, n1_nle]; omega
      · have hu : (if J q = J 0 then J 0 else sI τ (f + 3) ((J q - J 1).toNatClampNeg)) = gnF mv st more q := by
          by_cases e : q = 0
          · subst e; rfl
          · simp (disch := omega) only [J_add, J_mul, J_sub, J_cl, J_lt, J_le, J_eq, vp_J, n1_ne, n1_lt, n1_le, n1_nlt, n1_nle]; rw [if_neg e, hF.i (by unfold P26; omega), (hf (q - 1) (by omega)).1.2.2, show q - 1 + 1 = q by omega]
        rw [hu] at h2; subst h2
        simp (disch := omega) only [J_cl]
        refine hQ _ (hF.setI (by unfold P26; omega)) (fun k hk => ?_)
        by_cases e : k = q
        · subst e
          refine ⟨⟨?_, ?_, ?_⟩, fun r hr => ?_⟩
          · rw [sI_any (by omega)]; exact hI1
          · rw [sI_any (by omega)]; exact hI2
          · rw [sI_same, Int32.add_comm]; rfl
          · rw [sI_any (by omega), sI_any (by omega)]; exact hI3 r hr
        · have h0 := hf k (by omega)
          refine ⟨⟨?_, ?_, ?_⟩, fun r hr => ?_⟩
          · rw [sI_any (by omega), hF.i (by unfold P26; omega)]; exact h0.1.1
          · rw [sI_any (by omega), hF.i (by unfold P26; omega)]; exact h0.1.2.1
          · rw [sI_any (by omega), hF.i (by unfold P26; omega)]; exact h0.1.2.2
          · rw [sI_any (by omega), sI_any (by omega), hF.i (by unfold P26; omega), hF.i (by unfold P26; omega)]; exact h0.2 r hr
      · exfalso; simp (disch := omega) only [J_add, J_mul, J_sub, J_cl, J_lt, J_le, J_eq, vp_J, n1_ne, n1_lt, n1_le, n1_nlt, n1_nle, hg2] at c; omega
  refine g_26_0 ng nf ⟨fun c => ⟨?_, trivial⟩, fun u2 h2 => ?_⟩
  · simp (disch := omega) only [J_add, J_mul, J_sub, J_cl, J_lt, J_le, J_eq, vp_J, n1_ne, n1_lt, n1_le, n1_nlt, n1_nle] at c
    simp (disch := omega) only [J_add, J_mul, J_sub, J_cl, J_lt, J_le, J_eq, vp_J, n1_ne, n1_lt, n1_le, n1_nlt, n1_nle]; omega
  · rw [eu] at h2; subst h2
    refine c_released ng hv hG hk hz hn hst hq (by omega) ⟨nf, ng, (by simp (disch := omega) only [J_add, J_mul, J_sub, J_cl, vp_J]; omega), (by simp (disch := omega) only [J_add, J_mul, J_sub, J_cl, vp_J]; omega), (by simp (disch := omega) only [J_add, J_mul, J_sub, J_cl, vp_J]; omega), (by simp (disch := omega) only [J_add, J_mul, J_sub, J_cl, vp_J]; omega), fun u9 h9 => ⟨(by simp (disch := omega) only [J_add, J_mul, J_sub, J_cl, vp_J]; omega), fun u11 h11 => ⟨(by simp (disch := omega) only [J_add, J_mul, J_sub, J_cl, vp_J]; omega), ?_⟩⟩⟩
    simp (disch := omega) only [J_cl] at h9 h11 ⊢
    have hl : J a - lft mv st q (J a) (mv 1) = ltF mv st q := by unfold ltF; rw [ea]
    have e9 : u9 = lkF mv st (q + 1) := by
      rw [h9, sI_any (by omega), (hG.q hq).1]
      show _ = lft mv st q (lkF mv st q) (mv 1) + J (mv (20 + q))
      rw [ea, i32_b]
    have e11 : u11 = J (mv (116 + q) + more) := by
      rw [h11, sI_any (by omega), sI_any (by omega), (hG.q hq).2.1, J_add]
    rw [hl, e9, e11]
    refine L 0 _ (Nat.zero_le _) ⟨(Fr.rf.setI (by unfold P26; omega)).setI (by unfold P26; omega), ?_, ?_, fun k hk => by omega⟩ _ _ _ _
    · rw [sI_same]
    · rw [sI_any (by omega), sI_same]
theorem c_runFrom {d : Nat} {B : Nat × Nat} {σ : Sto} {Q : Out → Sto → Prop} {f g s : Nat} {mv st : Mem} {more n : Nat} (nf : S_3 σ f) (ng : S_4 σ g) (hd1 : g + 16 ≤ f ∨ f + 22 ≤ g) (hd2 : s < f ∨ f + 22 ≤ s) (hv : VG mv) (hG : RGg σ g mv) (hk : sK σ s = 14) (hz : sZ σ s = 384) (hn : ∀ k, k < 384 → sI σ s k = J (st k)) (hst : ∀ k, k < 384 → st k ≤ 6) (hmo : more ≤ 9) (hq : n ≤ 96) (hf : CFf σ f mv st more n)
    (hQ : ∀ τ, Fr (fun p _ => f + 1 ≤ p ∧ p ≤ f + 21) σ τ → CFf τ f mv st more 96 → Q (.inl none) τ) :
    WP gT (d + 5) B 25 0 [.ref f, .ref g, .ref s, .int (J n), .int (J more), .retAddr 0] [] σ Q := by
  have L : ∀ q τ, q ≤ 96 → (Fr (fun p _ => f + 1 ≤ p ∧ p ≤ f + 21) σ τ ∧ CFf τ f mv st more q) → WP gT (d + 5) B 25 3 [.ref f, .ref g, .ref s, .int (J n), .int (J more), .int (J q)] [] τ Q := by
    refine upto 96 ?_ ?_
    · intro q τ hq hI ih
      obtain ⟨hF, hf⟩ := hI
      refine g_25_3 (hF.sh nf) ⟨fun c => ?_, fun _ => ?_⟩
      · exfalso; simp (disch := omega) only [J_add, J_mul, J_sub, J_cl, J_lt, J_le, J_eq, vp_J, n1_ne, n1_lt, n1_le, n1_nlt, n1_nle] at c; omega
      · simp only [J_add]
        refine c_runQuarter (hF.sh nf) (hF.sh ng) hd1 hd2 hv (hG.fr hF (fun i j hi h => by omega)) ?_ ?_ (fun k hk => (hF.i (by omega)).trans (hn k hk)) hst hmo hq hf (fun τ' hF' hf' => ih τ' ⟨hF.tr (hF'.mono (fun p j h => h.1)), hf'⟩)
        · rw [hF.K]; exact hk
        · rw [hF.Z]; exact hz
    · intro τ hI
      refine g_25_3 (hI.1.sh nf) ⟨fun _ => hQ τ hI.1 hI.2, fun c => ?_⟩
      exfalso; simp (disch := omega) only [J_add, J_mul, J_sub, J_cl, J_lt, J_le, J_eq, vp_J, n1_ne, n1_lt, n1_le, n1_nlt, n1_nle] at c; omega
  exact g_25_0 (L n σ hq ⟨Fr.rf, hf⟩)
