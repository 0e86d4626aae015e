/-! ===== the reference: wet places, people, fear, judging ===== -/
variable {d : Nat} {B : Nat × Nat} {σ : Sto} {Q : Out → Sto → Prop} {x0 : Nat} {mv : Mem} {dp : Nat → Nat → Int32} {lk : Nat → Int32} {cp ca : Mem} {n : Nat}
/-- the reference's memory and a flood in its rows -/
def RDd (σ : Sto) (x0 : Nat) (mv : Mem) (dp : Nat → Nat → Int32) (lk : Nat → Int32) : Prop := RMm σ x0 mv ∧ (∀ q, q ≤ 96 → sI σ (x0 + 6) q = lk q) ∧ (∀ q r, q ≤ 96 → r < mv 2 → sI σ (x0 + 7) (97 * r + q) / J (mv (336 + 5 * r)) = dp q r)
theorem RDd.of {st : Mem} {more : Nat} (hm : RMm σ x0 mv) (h : RFf σ x0 mv st more) : RDd σ x0 mv (dpF mv st more) (lkF mv st) := ⟨hm, h.1, fun q r hq hr => by rw [h.2.1 q r hq hr]; rfl⟩
theorem RDd.fr {P : Nat → Nat → Prop} {τ : Sto} (h : RDd σ x0 mv dp lk) (f : Fr P σ τ) (hP : ∀ i j, i = 1 ∨ i = 6 ∨ i = 7 → ¬ P (x0 + i) j) : RDd τ x0 mv dp lk :=
  ⟨h.1.fr f (fun j => hP 1 j (by omega)), fun q hq => (f.i (hP 6 q (by omega))).trans (h.2.1 q hq), fun q r hq hr => by rw [f.i (hP 7 _ (by omega))]; exact h.2.2 q r hq hr⟩
theorem rv_196 (h : RDd σ x0 mv dp lk) (hv : VG mv) {r q : Nat} (hr : r < mv 2) (hq : q ≤ 96) : f_196 σ x0 (J r) (J q) = dp q r := by
  have hs := hv.s
  unfold f_196
  rw [rv_169 h.1 (by omega)]
  simp (disch := omega) only [J_add, J_mul, J_sub, J_cl, J_lt, J_le, J_eq, vp_J, n1_ne, n1_lt, n1_le, n1_nlt, n1_nle, Nat.add_zero]
  exact h.2.2 q r hq hr
theorem rv_203 (h : RDd σ x0 mv dp lk) (hv : VG mv) {p q : Nat} (hp : p < mv 3) (hq : q < 96) : f_203 σ x0 (J p) (J q) = if wetB mv dp p q = true then J 1 else J 0 := by
  have hs := hv.s
  have hpv := hv.p hp
  unfold f_203 wetB
  rw [rv_170 h.1 (by omega), rv_170 h.1 (by omega), J_add, Nat.add_zero, rv_196 h hv hpv.1 (by omega)]
  by_cases c : dp (q + 1) (mv (376 + 4 * p)) ≤ J (mv (376 + 4 * p + 1))
  · rw [if_pos c, decide_eq_true c]; rfl
  · rw [if_neg c, decide_eq_false c]; rfl
theorem rv_204 (h : RDd σ x0 mv dp lk) (hv : VG mv) {r q : Nat} (hr : r < mv 2) (hq : q < 96) : f_204 σ x0 (J r) (J q) = rs dp r q := by
  unfold f_204 rs
  rw [J_add, rv_196 h hv hr (by omega), rv_196 h hv hr (by omega)]
theorem b01 {b : Bool} : ((if b = true then J 1 else J 0) = J 0) = (b = false) := by cases b <;> simp (disch := decide) [J_eq]
theorem r_firstWet (nx0 : S_12 σ x0) (h : RDd σ x0 mv dp lk) (hv : VG mv) {p a t : Nat} (hp : p < mv 3) (ha : a ≤ t + 1) (ht : t ≤ 95) (hQ : Q (.inl (some (.int (oJ (fstB (wetB mv dp p) a (t + 1 - a)))))) σ) :
    WP gT (d + 3) B 219 0 [.ref x0, .int (J p), .int (J a), .int (J t), .retAddr 0] [] σ Q := by
  have hs := hv.s
  have hpv := hv.p hp
  refine g_219_0 (fst_loop (W := fun q => WP gT (d + 3) B 219 3 [.ref x0, .int (J p), .int (J a), .int (J t), .int (J q)] [] σ Q) (R := fun o => Q (.inl (some (.int (oJ o)))) σ) (b := wetB mv dp p) (t + 1 - a) a (fun q h1 h2 hf hn => ?_) (fun hR => ?_) hQ)
  · refine g_219_3 nx0 ⟨fun c => ?_, fun _ => ?_⟩
    · exfalso; simp (disch := omega) only [J_add, J_mul, J_sub, J_cl, J_lt, J_le, J_eq, vp_J, n1_ne, n1_lt, n1_le, n1_nlt, n1_nle] at c; omega
    · rw [rv_203 h hv hp (by omega), rv_170 h.1 (by omega), Nat.add_zero, rv_169 h.1 (by omega), b01]
      have := hv.r hpv.1
      simp (disch := omega) only [J_add, J_mul, J_sub, J_cl, J_lt, J_le, J_eq, vp_J, n1_ne, n1_lt, n1_le, n1_nlt, n1_nle, Nat.add_zero]
      refine ⟨(by omega), (by omega), (by omega), (by omega), (by omega), hn, fun c => hf (by simpa using c)⟩
  · refine g_219_3 nx0 ⟨fun _ => hR, fun c => ?_⟩
    exfalso; simp (disch := omega) only [J_add, J_mul, J_sub, J_cl, J_lt, J_le, J_eq, vp_J, n1_ne, n1_lt, n1_le, n1_nlt, n1_nle] at c; omega
theorem r_harmNow (nx0 : S_12 σ x0) (h : RDd σ x0 mv dp lk) (hv : VG mv) (hQ : Q (.inl (some (.int (J (hrm mv dp (mv 3)))))) σ) : WP gT (d + 4) B 220 0 [.ref x0, .retAddr 0, .retAddr 0] [] σ Q := by
  have hs := hv.s
  refine g_220_0 (upto0 (W := fun p => WP gT (d + 4) B 220 4 [.ref x0, .int (J (hrm mv dp p)), .int (J p)] [] σ Q) (mv 3) (fun p hp ih => ?_) ?_ 0 (Nat.zero_le _))
  · refine g_220_4 nx0 ⟨fun c => ?_, fun _ => r_firstWet nx0 h hv hp (by omega) (by omega) ?_⟩
    · exfalso; simp (disch := omega) only [J_add, J_mul, J_sub, J_cl, J_lt, J_le, J_eq, vp_J, n1_ne, n1_lt, n1_le, n1_nlt, n1_nle, h.1.at] at c; omega
    · refine ⟨nx0, fun _ => ⟨(by simp (disch := omega) only [J_add, J_mul, J_sub, J_cl, vp_J]; omega), trivial⟩, ?_⟩
      rw [rv_170 h.1 (by omega), J_add]
      have e : J (hrm mv dp p) + (if oJ (fstB (wetB mv dp p) 0 (95 + 1 - 0)) = -J 1 then J 0 else J (mv (376 + 4 * p + 3))) = J (hrm mv dp (p + 1)) := by
        simp only [oJ_none (o := fstB (wetB mv dp p) 0 (95 + 1 - 0)) (fun q hq => by have := fstB_some hq; omega)]
        show _ = J (hrm mv dp p + _)
        rw [← J_add]
        cases fstB (wetB mv dp p) 0 96 <;> rfl
      rw [e]; exact ih
  · refine g_220_4 nx0 ⟨fun _ => hQ, fun c => ?_⟩
    exfalso; simp (disch := omega) only [J_add, J_mul, J_sub, J_cl, J_lt, J_le, J_eq, vp_J, n1_ne, n1_lt, n1_le, n1_nlt, n1_nle, h.1.at] at c; omega
theorem VOo.s {mv : Mem} (h : VOo mv) : mv 4 ≤ 6 ∧ mv 5 ≤ 10 ∧ mv 6 ≤ 24 ∧ mv 7 ≤ 4 ∧ mv 8 ≤ 16 ∧ mv 13 ≤ 9999 ∧ mv 14 ≤ 1000 ∧ mv 15 ≤ 999 ∧ mv 16 ≤ 99999 := h.1
theorem VOo.k {mv : Mem} (h : VOo mv) {k : Nat} (hk : k < mv 5) : mv (2728 + 6 * k) < mv 3 ∧ mv (2728 + 6 * k + 1) ≤ mv (2728 + 6 * k + 2) ∧ mv (2728 + 6 * k + 2) ≤ 95 ∧ mv (2728 + 6 * k + 3) ≤ 100 ∧ mv (2728 + 6 * k + 4) ≤ 95 ∧ 1 ≤ mv (2728 + 6 * k + 5) ∧ mv (2728 + 6 * k + 5) ≤ 99 := h.2.2.1 k hk
theorem VOo.c {mv : Mem} (h : VOo mv) {c : Nat} (hc : c < mv 6) : mv (2788 + 2 * c) < mv 3 ∧ mv (2788 + 2 * c + 1) ≤ 95 := h.2.2.2.1 c hc
theorem VOo.l {mv : Mem} (h : VOo mv) {l : Nat} (hl : l < mv 8) : mv (2836 + 3 * l) < mv 3 ∧ mv (2836 + 3 * l + 1) ≤ 95 ∧ mv (2836 + 3 * l + 2) ≤ 1 := h.2.2.2.2.2 l hl
theorem VOo.o {mv : Mem} (h : VOo mv) {o k : Nat} (ho : o < mv 4) (hk : k < 384) : stO mv o k ≤ 6 := h.2.1 o ho k hk
theorem VOo.c4 {mv : Mem} (h : VOo mv) : C4 (fun i => mv (2788 + 2 * i)) (mv 6) := h.2.2.2.2.1
theorem r_caughtNow (nx0 : S_12 σ x0) (h : RDd σ x0 mv dp lk) (hv : VG mv) (ho : VOo mv) {k : Nat} (hk : k < mv 5) (hQ : Q (.inl (some (.int (oJ (cau mv dp k))))) σ) : WP gT (d + 4) B 230 0 [.ref x0, .int (J k), .retAddr 0, .retAddr 0] [] σ Q := by
  have hs := hv.s
  have ho1 := ho.s
  have hkv := ho.k hk
  have hpv := hv.p hkv.1
  have hrv := hv.r hpv.1
  refine g_230_0 nx0 ?_
  simp (disch := omega) only [rv_171 h.1, rv_170 h.1, rv_169 h.1, rv_203 h hv, Nat.add_zero, b01]
  simp (disch := omega) only [J_add, J_mul, J_sub, J_cl, J_lt, J_le, J_eq, vp_J, n1_ne, n1_lt, n1_le, n1_nlt, n1_nle, Nat.add_zero]
  refine ⟨(by omega), (by omega), (by omega), (by omega), (by omega), (by omega), (by omega), fun c => ⟨(by omega), ?_⟩, fun c => ?_⟩
  · refine r_firstWet nx0 h hv hkv.1 (by omega) (by omega) ?_
    show Q (.inl (some (.int _))) σ
    unfold cau at hQ
    rw [if_neg (by rw [c]; decide), show mv (2728 + 6 * k + 2) - mv (2728 + 6 * k + 1) = mv (2728 + 6 * k + 2) + 1 - (mv (2728 + 6 * k + 1) + 1) by omega] at hQ
    exact hQ
  · unfold cau at hQ
    rw [if_pos (by simpa using c)] at hQ
    exact hQ
theorem rv_231 (h : RMm σ x0 mv) (hv : VG mv) (ho : VOo mv) {k q c : Nat} (hk : k < mv 5) (hq : q ≤ 1000) (hc : c ≤ 1000) : f_231 σ x0 (J k) (J q) (J c) = if inT mv k q c = true then J 1 else J 0 := by
  have hs := hv.s
  have ho1 := ho.s
  have hkv := ho.k hk
  have hpv := hv.p hkv.1
  unfold f_231 inT
  simp (disch := omega) only [rv_171 h, rv_170 h, Nat.add_zero]
  simp (disch := omega) only [J_add, J_mul, J_sub, J_cl, J_lt, J_le, J_eq, vp_J, n1_ne, n1_lt, n1_le, n1_nlt, n1_nle]
  by_cases c1 : q < mv (2728 + 6 * k + 1)
  · rw [if_pos c1, decide_eq_false (by omega : ¬ mv (2728 + 6 * k + 1) ≤ q)]; rfl
  · rw [if_neg c1, decide_eq_true (by omega : mv (2728 + 6 * k + 1) ≤ q)]
    by_cases c2 : q < mv (2728 + 6 * k + 4)
    · rw [if_pos c2, decide_eq_false (by omega : ¬ mv (2728 + 6 * k + 4) ≤ q)]; rfl
    · rw [if_neg c2, decide_eq_true (by omega : mv (2728 + 6 * k + 4) ≤ q)]
      by_cases c3 : c < q + mv (376 + 4 * mv (2728 + 6 * k) + 2)
      · rw [if_pos c3, decide_eq_false (by omega)]; rfl
      · rw [if_neg c3, decide_eq_true (by omega)]; rfl
theorem r_goes (nx0 : S_12 σ x0) (h : RDd σ x0 mv dp lk) (hv : VG mv) (ho : VOo mv) {k c : Nat} (hk : k < mv 5) (hc : c ≤ 95) (hQ : Q (.inl (some (.int (if goB mv dp k c = true then J 1 else J 0)))) σ) : WP gT (d + 3) B 232 0 [.ref x0, .int (J k), .int (J c), .retAddr 0] [] σ Q := by
  have hs := hv.s
  have ho1 := ho.s
  have hkv := ho.k hk
  have hpv := hv.p hkv.1
  have hrv := hv.r hpv.1
  refine g_232_0 (fst_loop (W := fun q => WP gT (d + 3) B 232 2 [.ref x0, .int (J k), .int (J c), .int (J q)] [] σ Q) (R := fun o => Q (.inl (some (.int (if o.isSome = true then J 1 else J 0)))) σ) (b := fun q => inT mv k q c && !decide (rs dp (mv (376 + 4 * mv (2728 + 6 * k))) q < J (mv (2728 + 6 * k + 5)))) 96 0 (fun q h1 h2 hf hn => ?_) (fun hR => ?_) hQ)
  · refine g_232_2 nx0 ⟨fun c => ?_, fun _ => ?_⟩
    · exfalso; simp (disch := omega) only [J_add, J_mul, J_sub, J_cl, J_lt, J_le, J_eq, vp_J, n1_ne, n1_lt, n1_le, n1_nlt, n1_nle] at c; omega
    · simp (disch := omega) only [rv_171 h.1, rv_170 h.1, rv_169 h.1, rv_204 h hv, rv_231 h.1 hv ho, Nat.add_zero, b01]
      simp (disch := omega) only [J_add, J_mul, J_sub, J_cl, J_lt, J_le, J_eq, vp_J, n1_ne, n1_lt, n1_le, n1_nlt, n1_nle, Nat.add_zero, and_true]
      refine ⟨(by omega), fun _ => ⟨(by omega), fun _ => ⟨(by omega), (by omega)⟩⟩, fun c1 => hn (by rw [c1]; rfl), fun c1 => ⟨(by omega), (by omega), (by omega), (by omega), (by omega), (by omega), (by omega), fun c2 => hn ?_, fun c2 => hf ?_⟩⟩
      · simp only [c2, decide_true, Bool.not_true, Bool.and_false]
      · rw [Bool.not_eq_false] at c1
        simp only [c1, c2, decide_false, Bool.not_false, Bool.and_true]
  · refine g_232_2 nx0 ⟨fun _ => hR, fun c => ?_⟩
    exfalso; simp (disch := omega) only [J_add, J_mul, J_sub, J_cl, J_lt, J_le, J_eq, vp_J, n1_ne, n1_lt, n1_le, n1_nlt, n1_nle] at c; omega
/-- the calls that are laid -/
def RCc (σ : Sto) (x0 : Nat) (cp ca : Mem) (n : Nat) : Prop := sI σ x0 23 = J n ∧ n ≤ 32 ∧ C4 cp n ∧ ∀ i, i < n → sI σ (x0 + 10) i = J (cp i) ∧ sI σ (x0 + 11) i = J (ca i) ∧ cp i < 12 ∧ ca i ≤ 95
theorem RCc.fr {P : Nat → Nat → Prop} {τ : Sto} (h : RCc σ x0 cp ca n) (f : Fr P σ τ) (hP : ∀ i j, i = 10 ∨ i = 11 → ¬ P (x0 + i) j) (h0 : ¬ P x0 23) : RCc τ x0 cp ca n :=
  ⟨(f.i h0).trans h.1, h.2.1, h.2.2.1, fun i hi => by rw [f.i (hP 10 i (by omega)), f.i (hP 11 i (by omega))]; exact h.2.2.2 i hi⟩
theorem r_oddsNow (nx0 : S_12 σ x0) (h : RDd σ x0 mv dp lk) (hv : VG mv) (ho : VOo mv) (hc : RCc σ x0 cp ca n) {k : Nat} (hk : k < mv 5) (hQ : Q (.inl (some (.long (N64 (odd mv dp cp ca n k))))) σ) : WP gT (d + 5) B 233 0 [.ref x0, .int (J k), .retAddr 0, .retAddr 0, .retAddr 0, .retAddr 0] [] σ Q := by
  have hs := hv.s
  have ho1 := ho.s
  have hkv := ho.k hk
  have hpv := hv.p hkv.1
  refine g_233_0 nx0 (r_caughtNow nx0 h hv ho hk ⟨nx0, ?_⟩)
  rw [oJ_none (fun q hq => by have := cau_lt hkv.2.1 hkv.2.2.1 hq; omega)]
  unfold odd sty at hQ
  cases hcau : cau mv dp k with
  | none => rw [hcau] at hQ; exact ⟨fun _ => hQ, fun c => (c rfl).elim⟩
  | some c =>
    rw [hcau] at hQ
    have hcb := cau_lt hkv.2.1 hkv.2.2.1 hcau
    refine ⟨fun e => (by cases e), fun _ => r_goes nx0 h hv ho hk hcb ?_⟩
    show (_ → _) ∧ (_ → _)
    rw [b01]
    dsimp only at hQ
    refine ⟨fun e => ?_, fun e => ?_⟩
    · rw [if_neg (by rw [e]; decide)] at hQ
      have hQ : Q (.inl (some (.long (N64 (odN (mv (2728 + 6 * k + 3)) (cin mv cp ca k c n)))))) σ := hQ
      rw [show Int64.ofInt 100000000 = N64 (odN (mv (2728 + 6 * k + 3)) (cin mv cp ca k c 0)) from by unfold cin odN; rw [Nat.pow_zero, Nat.one_mul]; rfl]
      refine upto0 (W := fun i => WP gT (d + 5) B 233 29 [.ref x0, .int (J k), .int (J c), .long (N64 (odN (mv (2728 + 6 * k + 3)) (cin mv cp ca k c i))), .retAddr 0, .int (J i)] [] σ Q) n (fun i hi ih => ?_) ?_ 0 (Nat.zero_le _)
      · have hci := hc.2.2.2 i hi
        have hn32 := hc.2.1
        have h4 : cin mv cp ca k c (i + 1) ≤ 4 := Nat.le_trans (cin_le _) (Nat.le_trans (cntC_mono (by omega)) (hc.2.2.1 _))
        have hol := odN_le (h := mv (2728 + 6 * k + 3)) (c := cin mv cp ca k c i) (by unfold cin at h4; omega)
        refine g_233_29 nx0 ⟨fun e => ?_, fun _ => ?_⟩
        · exfalso; rw [hc.1] at e; simp (disch := omega) only [J_add, J_mul, J_sub, J_cl, J_lt, J_le, J_eq, vp_J, n1_ne, n1_lt, n1_le, n1_nlt, n1_nle] at e; omega
        · simp (disch := omega) only [J_cl, hci, rv_171 h.1, rv_231 h.1 hv ho, Nat.add_zero, b01]
          simp (disch := omega) only [J_add, J_mul, J_sub, J_cl, J_lt, J_le, J_eq, vp_J, n1_ne, n1_lt, n1_le, n1_nlt, n1_nle, Nat.add_zero, and_true]
          refine ⟨(by omega), (by omega), fun _ => ⟨(by omega), (by omega), fun _ => ⟨(by omega), fun _ => ⟨(by omega), (by omega)⟩⟩, fun _ => (by omega)⟩, fun u hu => ?_⟩
          have hu2 : u = N64 (odN (mv (2728 + 6 * k + 3)) (cin mv cp ca k c (i + 1))) := by
            rw [hu]
            rw [show cin mv cp ca k c (i + 1) = cin mv cp ca k c i + (if cp i = mv (2728 + 6 * k) ∧ inT mv k (ca i) c = true then 1 else 0) from rfl] at h4 ⊢
            by_cases c1 : cp i = mv (2728 + 6 * k)
            · by_cases c2 : inT mv k (ca i) c = true
              · rw [if_pos c1, if_neg (by rw [c2]; decide), if_pos ⟨c1, c2⟩, N64_J (by omega), show Int64.ofInt 100 = N64 100 from rfl, N64_mul]
                rw [if_pos ⟨c1, c2⟩] at h4
                have hm : odN (mv (2728 + 6 * k + 3)) (cin mv cp ca k c i) * (100 - mv (2728 + 6 * k + 3)) ≤ 100000000 * 100 := Nat.mul_le_mul hol (by omega)
                rw [N64_div (Nat.lt_of_le_of_lt hm (by decide)) (by decide) (by decide), odN_step (by omega)]
              · rw [if_pos c1, if_pos (by simpa using c2), if_neg (fun x => c2 x.2)]; rfl
            · rw [if_neg c1, if_neg (fun x => c1 x.1)]; rfl
          rw [hu2]; exact ih
      · refine g_233_29 nx0 ⟨fun _ => hQ, fun e => ?_⟩
        have hn32 := hc.2.1
        exfalso; rw [hc.1] at e; simp (disch := omega) only [J_add, J_mul, J_sub, J_cl, J_lt, J_le, J_eq, vp_J, n1_ne, n1_lt, n1_le, n1_nlt, n1_nle] at e; omega
    · rw [if_pos (by simpa using e)] at hQ; exact hQ
theorem r_fearNow (nx0 : S_12 σ x0) (h : RDd σ x0 mv dp lk) (hv : VG mv) (ho : VOo mv) (hc : RCc σ x0 cp ca n) (hQ : Q (.inl (some (.long (N64 (fea mv dp cp ca n (mv 5)))))) σ) : WP gT (d + 6) B 234 0 [.ref x0, .retAddr 0, .retAddr 0, .retAddr 0] [] σ Q := by
  have ho1 := ho.s
  refine g_234_0 (upto0 (W := fun k => WP gT (d + 6) B 234 4 [.ref x0, .long (N64 (fea mv dp cp ca n k)), .retAddr 0, .int (J k)] [] σ Q) (mv 5) (fun k hk ih => ?_) ?_ 0 (Nat.zero_le _))
  · refine g_234_4 nx0 ⟨fun e => ?_, fun _ => r_oddsNow nx0 h hv ho hc hk ?_⟩
    · exfalso; simp (disch := omega) only [J_add, J_mul, J_sub, J_cl, J_lt, J_le, J_eq, vp_J, n1_ne, n1_lt, n1_le, n1_nlt, n1_nle, h.1.at] at e; omega
    · show WP gT (d + 6) B 234 4 [.ref x0, .long (_ + _), .retAddr 0, .int (_ + _)] [] σ Q
      rw [N64_add, J_add]; exact ih
  · refine g_234_4 nx0 ⟨fun _ => hQ, fun e => ?_⟩
    exfalso; simp (disch := omega) only [J_add, J_mul, J_sub, J_cl, J_lt, J_le, J_eq, vp_J, n1_ne, n1_lt, n1_le, n1_nlt, n1_nle, h.1.at] at e; omega
theorem r_falls (nx0 : S_12 σ x0) (h : RDd σ x0 mv dp lk) (hv : VG mv) (ho : VOo mv) (hQ : Q (.inl (some (.int (if falB mv dp = true then J 1 else J 0)))) σ) : WP gT (d + 3) B 239 0 [.ref x0, .retAddr 0, .retAddr 0] [] σ Q := by
  have hs := hv.s
  have ho1 := ho.s
  have key := fst_loop (W := fun r => ∀ x2 : Value, WP gT (d + 3) B 239 2 [.ref x0, .int (J r), x2] [] σ Q) (R := fun o => Q (.inl (some (.int (if o.isSome = true then J 1 else J 0)))) σ) (b := falR mv dp) (mv 2) 0 (fun r h1 h2 hf hn x2 => ?_) (fun hR x2 => ?_) hQ
  · exact g_239_0 (key _)
  · refine g_239_2 nx0 ⟨fun e => ?_, fun _ => ?_⟩
    · exfalso; simp (disch := omega) only [J_add, J_mul, J_sub, J_cl, J_lt, J_le, J_eq, vp_J, n1_ne, n1_lt, n1_le, n1_nlt, n1_nle, h.1.at] at e; omega
    · have hrv := hv.r (r := r) (by omega)
      refine fst_loop (W := fun q => WP gT (d + 3) B 239 14 [.ref x0, .int (J r), .int (J q)] [] σ Q) (R := fun o => fstB (fun q => !decide (-(rs dp r q) ≤ J (mv 15))) 0 96 = o) (b := fun q => !decide (-(rs dp r q) ≤ J (mv 15))) 96 0 (fun q h3 h4 hf2 hn2 => ?_) (fun hR => ?_) rfl
      · refine g_239_14 nx0 ⟨fun e => ?_, fun _ => ?_⟩
        · exfalso; simp (disch := omega) only [J_add, J_mul, J_sub, J_cl, J_lt, J_le, J_eq, vp_J, n1_ne, n1_lt, n1_le, n1_nlt, n1_nle] at e; omega
        · simp (disch := omega) only [rv_169 h.1, rv_204 h hv, h.1.at, Nat.add_zero]
          simp (disch := omega) only [J_add, J_mul, J_sub, J_cl, J_lt, J_le, J_eq, vp_J, n1_ne, n1_lt, n1_le, n1_nlt, n1_nle, Nat.add_zero]
          refine ⟨(by omega), (by omega), (by omega), (by omega), fun c => hn2 (by simp only [c, decide_true, Bool.not_true]), fun c => hf ?_⟩
          unfold falR
          exact fstB_is (Nat.zero_le q) h4 (by simp only [c, decide_false, Bool.not_false])
      · refine g_239_14 nx0 ⟨fun _ => ?_, fun e => ?_⟩
        · rw [J_add]; exact hn (by unfold falR; rw [hR]; rfl) _
        · exfalso; simp (disch := omega) only [J_add, J_mul, J_sub, J_cl, J_lt, J_le, J_eq, vp_J, n1_ne, n1_lt, n1_le, n1_nlt, n1_nle] at e; omega
  · refine g_239_2 nx0 ⟨fun _ => hR, fun e => ?_⟩
    exfalso; simp (disch := omega) only [J_add, J_mul, J_sub, J_cl, J_lt, J_le, J_eq, vp_J, n1_ne, n1_lt, n1_le, n1_nlt, n1_nle, h.1.at] at e; omega
theorem N64c (a : Nat) : Int64.ofInt (a : Int) = N64 a := rfl
theorem r_judged (nx0 : S_12 σ x0) (h : RDd σ x0 mv dp lk) (hv : VG mv) (ho : VOo mv) (hc : RCc σ x0 cp ca n) (hQ : Q (.inl (some (.int (J (jud mv dp lk (fea mv dp cp ca n (mv 5))))))) σ) : WP gT (d + 7) B 240 0 [.ref x0] [] σ Q := by
  have hs := hv.s
  have ho1 := ho.s
  have hfl := fea_le (mv := mv) (dp := dp) (ca := ca) hc.2.2.1 (mv 5)
  have hhl := hrm_le (dp := dp) hv (mv 3) (Nat.le_refl _)
  refine g_240_0 nx0 ?_
  simp (disch := omega) only [h.1.at]
  simp (disch := omega) only [J_add, J_mul, J_sub, J_cl, J_lt, J_le, J_eq, vp_J, n1_ne, n1_lt, n1_le, n1_nlt, n1_nle, h.2.1]
  unfold jud at hQ
  refine ⟨(by omega), (by omega), fun c => ?_, fun c => ?_⟩
  · rw [if_pos c] at hQ
    refine r_fearNow nx0 h hv ho hc ⟨nx0, ?_⟩
    rw [h.1.at (by omega), N64_J (by omega), show Int64.ofInt 1000000 = N64 1000000 from rfl, N64_mul, N64_cmp (by omega) (by omega)]
    refine ⟨fun c2 => ?_, fun c2 => ?_⟩
    · rw [if_pos c2] at hQ
      refine r_falls nx0 h hv ho ⟨nx0, ?_⟩
      rw [b01]
      refine ⟨fun c3 => ?_, fun c3 => ?_⟩
      · rw [if_neg (by rw [c3]; decide)] at hQ
        refine r_harmNow nx0 h hv ⟨nx0, ?_⟩
        rw [h.1.at (by omega)]
        simp (disch := omega) only [J_le]
        by_cases c4 : hrm mv dp (mv 3) ≤ mv 16
        · rw [if_pos c4] at hQ ⊢; exact hQ
        · rw [if_neg c4] at hQ ⊢; exact hQ
      · rw [if_pos (by simpa using c3)] at hQ; exact hQ
    · rw [if_neg c2] at hQ; exact hQ
  · rw [if_neg c] at hQ; exact hQ
theorem r_callsOf (nx0 : S_12 σ x0) (h : RMm σ x0 mv) (ho : VOo mv) (hv : VG mv) {p : Nat} (hp : p < 12) (hQ : Q (.inl (some (.int (J (cntP mv p (mv 6)))))) σ) : WP gT d B 225 0 [.ref x0, .int (J p), .retAddr 0, .retAddr 0] [] σ Q := by
  have ho1 := ho.s
  have hs := hv.s
  refine g_225_0 (upto0 (W := fun i => WP gT d B 225 4 [.ref x0, .int (J p), .int (J (cntP mv p i)), .int (J i)] [] σ Q) (mv 6) (fun i hi ih => ?_) ?_ 0 (Nat.zero_le _))
  · have hcv := ho.c hi
    refine g_225_4 nx0 ⟨fun e => ?_, fun _ => ?_⟩
    · exfalso; simp (disch := omega) only [J_add, J_mul, J_sub, J_cl, J_lt, J_le, J_eq, vp_J, n1_ne, n1_lt, n1_le, n1_nlt, n1_nle, h.at] at e; omega
    · simp (disch := omega) only [J_add, J_mul, J_sub, J_cl, J_lt, J_le, J_eq, vp_J, n1_ne, n1_lt, n1_le, n1_nlt, n1_nle, h.at]
      refine ⟨(by omega), fun u hu => ?_⟩
      have e : J (cntP mv p i) + u = J (cntP mv p (i + 1)) := by
        rw [hu]
        show _ = J (cntP mv p i + _)
        rw [← J_add]
        split <;> rfl
      rw [e]; exact ih
  · refine g_225_4 nx0 ⟨fun _ => hQ, fun e => ?_⟩
    exfalso; simp (disch := omega) only [J_add, J_mul, J_sub, J_cl, J_lt, J_le, J_eq, vp_J, n1_ne, n1_lt, n1_le, n1_nlt, n1_nle, h.at] at e; omega
def P228 (x0 : Nat) : Nat → Nat → Prop := fun p j => p = x0 + 10 ∨ p = x0 + 11 ∨ (p = x0 ∧ j = 23)
theorem r_laysCalls (nx0 : S_12 σ x0) (h : RMm σ x0 mv) (ho : VOo mv) (hv : VG mv) (hQ : ∀ τ, Fr (P228 x0) σ τ → RCc τ x0 (fun i => mv (2788 + 2 * i)) (fun i => mv (2788 + 2 * i + 1)) (mv 6) → Q (.inl none) τ) : WP gT d B 228 0 [.ref x0, .retAddr 0] [] σ Q := by
  have ho1 := ho.s
  have hs := hv.s
  have L : ∀ i τ, i ≤ mv 6 → (Fr (P228 x0) σ τ ∧ sI τ x0 23 = J (mv 6) ∧ ∀ k, k < i → sI τ (x0 + 10) k = J (mv (2788 + 2 * k)) ∧ sI τ (x0 + 11) k = J (mv (2788 + 2 * k + 1))) → WP gT d B 228 13 [.ref x0, .int (J i)] [] τ Q := by
    refine upto (mv 6) ?_ ?_
    · intro i τ hi hI ih
      obtain ⟨hF, h1, h2⟩ := hI
      have hm2 : RMm τ x0 mv := h.fr hF (fun j k => by unfold P228 at k; omega)
      refine g_228_13 (hF.sh nx0) ⟨fun e => ?_, fun _ => ?_⟩
      · exfalso; rw [h1] at e; simp (disch := omega) only [J_add, J_mul, J_sub, J_cl, J_lt, J_le, J_eq, vp_J, n1_ne, n1_lt, n1_le, n1_nlt, n1_nle] at e; omega
      · simp (disch := omega) only [J_add, J_mul, J_sub, J_cl, J_lt, J_le, J_eq, vp_J, n1_ne, n1_lt, n1_le, n1_nlt, n1_nle, hm2.at]
        refine ⟨(by omega), (by omega), (by omega), (by omega), ih _ ⟨(hF.setI (by unfold P228; omega)).setI (by unfold P228; omega), ?_, fun k hk => ?_⟩⟩
        · rw [sI_any (by omega), sI_any (by omega)]; exact h1
        · by_cases e : k = i
          · subst e; rw [sI_any (by omega), sI_same, sI_same]; exact ⟨rfl, rfl⟩
          · rw [sI_any (by omega), sI_any (by omega), sI_any (by omega), sI_any (by omega)]; exact h2 k (by omega)
    · intro τ hI
      obtain ⟨hF, h1, h2⟩ := hI
      refine g_228_13 (hF.sh nx0) ⟨fun _ => hQ τ hF ⟨h1, by omega, ho.c4, fun i hi => ⟨(h2 i hi).1, (h2 i hi).2, ?_, (ho.c hi).2⟩⟩, fun e => ?_⟩
      · have := (ho.c hi).1; show mv (2788 + 2 * i) < 12; omega
      · exfalso; rw [h1] at e; simp (disch := omega) only [J_add, J_mul, J_sub, J_cl, J_lt, J_le, J_eq, vp_J, n1_ne, n1_lt, n1_le, n1_nlt, n1_nle] at e; omega
  refine g_228_0 nx0 (L 0 _ (Nat.zero_le _) ⟨Fr.rf.setI (by unfold P228; omega), ?_, fun k hk => by omega⟩)
  rw [sI_same]; exact h.at (by omega)
