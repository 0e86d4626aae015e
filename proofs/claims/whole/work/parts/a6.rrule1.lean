/-! ===== the reference reads a rule, and says what it says ===== -/
variable {d : Nat} {B : Nat × Nat} {Q : Out → Sto → Prop} {P : Nat → Nat → Prop} {σ τ : Sto} {y0 : Nat} {mv tx : Mem} {n p q f0 : Nat} {bs : Option Nat} {qn : Nat} {lkv : Int32} {dpv nwv : Nat → Int32}
def T189d (d : Nat) (y0 : Nat) (bg x3 : Int32) (Q : Out → Sto → Prop) (σ : Sto) : Prop := (((sI σ y0 11) = (J 6) → WP gT (d + 7) (0, 0) 179 0 [.ref y0, .int bg] [] σ (oV (fun τ11 => Q (.inl (some (.int (J 0)))) τ11) (fun _ _ => False))) ∧ (¬ ((sI σ y0 11) = (J 6)) → ((x3 = (J 0) → WP gT (d + 7) (0, 0) 191 0 [.ref y0, .retAddr 0, .retAddr 0] [] (setI (setI σ y0 11 ((sI σ y0 11) + (J 1))) y0 9 ((sI σ y0 9) + (J 1))) (oI (fun v12 τ13 => (S_12 τ13 y0 ∧ (((sI τ13 y0 10) = (-J 1) → WP gT (d + 7) (0, 0) 176 0 [.ref y0, .int (J 41)] [] τ13 (oI (fun v14 τ15 => (S_12 τ15 y0 ∧ ((v14 = (J 0) → WP gT (d + 7) (0, 0) 179 0 [.ref y0, .int (sI τ15 y0 9)] [] τ15 (oV (fun τ17 => (S_12 τ17 y0 ∧ ((v12 = J 0 ∨ v12 = J 1) ∧ Q (.inl (some (.int v12))) (setI (setI τ17 y0 9 ((sI τ17 y0 9) + (J 1))) y0 11 ((sI τ17 y0 11) - (J 1)))))) (fun _ _ => False))) ∧ (¬ (v14 = (J 0)) → ((v12 = J 0 ∨ v12 = J 1) ∧ Q (.inl (some (.int v12))) (setI (setI τ15 y0 9 ((sI τ15 y0 9) + (J 1))) y0 11 ((sI τ15 y0 11) - (J 1)))))))) (fun _ _ => False))) ∧ (¬ ((sI τ13 y0 10) = (-J 1)) → ((v12 = J 0 ∨ v12 = J 1) ∧ Q (.inl (some (.int v12))) (setI (setI τ13 y0 9 ((sI τ13 y0 9) + (J 1))) y0 11 ((sI τ13 y0 11) - (J 1)))))))) (fun _ _ => False))) ∧ (¬ (x3 = (J 0)) → WP gT (d + 7) (0, 0) 189 0 [.ref y0, .retAddr 0, .retAddr 0, .retAddr 0] [] (setI σ y0 11 ((sI σ y0 11) + (J 1))) (oI (fun v21 τ22 => (S_12 τ22 y0 ∧ Q (.inl (some (.int (if v21 = (J 0) then (J 1) else (J 0))))) (setI τ22 y0 11 ((sI τ22 y0 11) - (J 1))))) (fun _ _ => False))))))
def PYd (y0 : Nat) : Nat → Nat → Prop := fun p j => p = y0 ∧ (j = 9 ∨ j = 10 ∨ j = 11)
theorem PY_d : ∀ p j, PYt y0 p j → PYd y0 p j := fun p j h => by unfold PYt at h; unfold PYd; omega
theorem P9_d : ∀ p j, P9 y0 p j → PYd y0 p j := fun p j h => by unfold P9 at h; unfold PYd; omega
/-- what the parts of a condition say -/
def envR (mv : Mem) (qn : Nat) (lkv : Int32) (dpv nwv : Nat → Int32) : Env := fun k f =>
  if k = 0 then J f else if k = 1 then (if qn = 0 then J (lv0 mv) else lkv / J (mv 9)) else if k = 2 then J (mv 11) else if k = 3 then J qn else if k = 4 then J (mv (116 + qn))
  else if k = 5 then (if f < mv 2 then dpv f else J 0) else if k = 6 then (if f < mv 1 ∧ 0 < qn then nwv (96 * f + qn - 1) else J 0)
  else (if f < mv 3 ∧ 0 < qn ∧ ¬ dpv (mv (376 + 4 * f)) ≤ J (mv (376 + 4 * f + 1)) then J 1 else J 0)
theorem envR_7 : ∀ k, envR mv qn lkv dpv nwv 7 k = J 0 ∨ envR mv qn lkv dpv nwv 7 k = J 1 := fun k => by
  unfold envR
  rw [if_neg (by omega), if_neg (by omega), if_neg (by omega), if_neg (by omega), if_neg (by omega), if_neg (by omega), if_neg (by omega)]
  exact ite01
theorem envR_1 {f : Nat} : envR mv qn lkv dpv nwv 1 f = (if qn = 0 then J (lv0 mv) else lkv / J (mv 9)) := by
  unfold envR; rw [if_neg (by omega), if_pos rfl]
theorem envR_5 {f : Nat} : envR mv qn lkv dpv nwv 5 f = (if f < mv 2 then dpv f else J 0) := by
  unfold envR; rw [if_neg (by omega), if_neg (by omega), if_neg (by omega), if_neg (by omega), if_neg (by omega), if_pos rfl]
theorem envR_6 {f : Nat} : envR mv qn lkv dpv nwv 6 f = (if f < mv 1 ∧ 0 < qn then nwv (96 * f + qn - 1) else J 0) := by
  unfold envR; rw [if_neg (by omega), if_neg (by omega), if_neg (by omega), if_neg (by omega), if_neg (by omega), if_neg (by omega), if_pos rfl]
theorem envR_v {f : Nat} : envR mv qn lkv dpv nwv 7 f = (if f < mv 3 ∧ 0 < qn ∧ ¬ dpv (mv (376 + 4 * f)) ≤ J (mv (376 + 4 * f + 1)) then J 1 else J 0) := by
  unfold envR; rw [if_neg (by omega), if_neg (by omega), if_neg (by omega), if_neg (by omega), if_neg (by omega), if_neg (by omega), if_neg (by omega)]
def EVr (σ : Sto) (y0 : Nat) (mv : Mem) (qn : Nat) (lkv : Int32) (dpv nwv : Nat → Int32) : Prop := RMm σ y0 mv ∧ (sI σ y0 12 = J qn ∧ qn < 96) ∧ (0 < qn → sI σ (y0 + 6) qn = lkv) ∧ (∀ r, r < mv 2 → sI σ (y0 + 7) (97 * r + qn) / J (mv (336 + 5 * r)) = dpv r) ∧ ∀ k, k < 384 → sI σ (y0 + 5) k = nwv k
theorem EVr.fr (h : EVr σ y0 mv qn lkv dpv nwv) (f : Fr P σ τ) (hP : ∀ p j, P p j → p = y0 ∧ j ≠ 12) : EVr τ y0 mv qn lkv dpv nwv := by
  have n0 : ∀ p j, p ≠ y0 → sI τ p j = sI σ p j := fun p j hp => f.i (fun k => hp (hP _ _ k).1)
  refine ⟨fun k hk => by rw [n0 _ _ (by omega)]; exact h.1 k hk, ⟨by rw [f.i (fun k => (hP _ _ k).2 rfl)]; exact h.2.1.1, h.2.1.2⟩, fun hq => by rw [n0 _ _ (by omega)]; exact h.2.2.1 hq, fun r hr => by rw [n0 _ _ (by omega)]; exact h.2.2.2.1 r hr, fun k hk => by rw [n0 _ _ (by omega)]; exact h.2.2.2.2 k hk⟩
theorem EVr.t (h : EVr σ y0 mv qn lkv dpv nwv) (f : Fr (PYt y0) σ τ) : EVr τ y0 mv qn lkv dpv nwv := h.fr f (fun p j k => by unfold PYt at k; omega)
theorem EVr.dd_ (h : EVr σ y0 mv qn lkv dpv nwv) (f : Fr (PYd y0) σ τ) : EVr τ y0 mv qn lkv dpv nwv := h.fr f (fun p j k => by unfold PYd at k; omega)
theorem isW_dig {w : List Nat} (hp : p ≤ n) (h : isD tx p = true) (hw : 0 < w.length) : isW tx n p w = false := by
  have h1 := isD_iff.mp h
  have : ltE tx n p = p := lt_no hp (fun _ => isL_no.mpr (by omega))
  exact isW_F2 (by omega)
theorem rPart_d (hp : p ≤ n) (h : isD tx p = true) : rPart tx n p = bnd (tN tx n 0 1000000 p) (fun a p => .inr ((0, a), p)) := by
  unfold rPart
  rw [if_neg (by rw [isW_dig hp h (by decide)]; decide), if_neg (by rw [isW_dig hp h (by decide)]; decide), if_neg (by rw [isW_dig hp h (by decide)]; decide), if_neg (by rw [isW_dig hp h (by decide)]; decide), if_neg (by rw [isW_dig hp h (by decide)]; decide), if_neg (by rw [isW_dig hp h (by decide)]; decide)]
theorem tN_nd {lo hi : Nat} (hp : p ≤ n) (h : ¬ (p < n ∧ isD tx p = true)) : tN tx n lo hi p = .inl p := by
  unfold tN
  refine if_pos (Or.inl (dg_no hp (fun k => ?_)))
  cases hd : isD tx p with
  | false => rfl
  | true => exact absurd ⟨k, hd⟩ h
theorem r_part (hy : y0 = 260) (h : RTg σ y0 tx n bs p) (hE : EVr σ y0 mv qn lkv dpv nwv) (hv : VG mv) (hw : WRD σ) (h1 : ∀ b q, rPart tx n p = .inr (b, q) → ∀ τ, Fr (PYt y0) σ τ → RTg τ y0 tx n bs q → Q (.inl (some (.int (envR mv qn lkv dpv nwv b.1 b.2)))) τ)
    (h0 : ∀ f, rPart tx n p = .inl f → ∀ τ v, Fr (PYt y0) σ τ → RTb τ y0 tx n bs f 0 → Q (.inl (some (.int v))) τ) : WP gT (d + 5) B 186 0 [.ref y0, .retAddr 0] [] σ Q := by
  have hl := h.le
  have hs := hv.s
  refine g_186_0 h.1.1 ⟨fun _ => r_isFigure h (fun τ2 F2 k2 => ⟨k2.1.1, fun c => ?_, fun c => ?_⟩), fun c => absurd h.2.1 c⟩
  · have nf : ¬ (p < n ∧ isD tx p = true) := fun k => by rw [if_pos k] at c; exact absurd c (by decide)
    have wf : ∀ {τ : Sto}, Fr (P9 y0) σ τ → WRD τ := fun f => hw.fr f (fun p j k => by unfold P9 at k; omega)
    have ef : ∀ {τ : Sto}, Fr (P9 y0) σ τ → EVr τ y0 mv qn lkv dpv nwv := fun f => hE.t (f.mono P9_Y)
    refine r_has k2.g hy (wf F2 70 w_level (by decide)) (fun e τ f k => ⟨k.1.1, fun c => absurd c (by decide), fun _ => ?_⟩) (fun e3 τ3 f3 k3 => ⟨k3.1.1, fun _ => ?_, fun c => absurd rfl c⟩)
    · have er : rPart tx n p = .inr ((1, 0), aftW tx n p) := by unfold rPart; rw [if_pos e]
      have E := ef (F2.tr f)
      have H := h1 _ _ er τ ((F2.tr f).mono P9_Y) k
      have e9 : sI τ (y0 + 1) 9 = J (mv 9) := E.1.at (by omega)
      have eq := E.2.1.2
      have n9 : ¬ J (mv 9) = J 0 := by rw [J_eq (by omega) (by omega)]; omega
      rw [E.2.1.1, e9, rv_195 E.1 hv]
      refine ⟨⟨fun _ => ⟨n9, trivial⟩, fun _ => ⟨(by simp (disch := omega) only [J_add, J_mul, J_sub, J_cl, vp_J]; omega), n9, trivial⟩⟩, fun u hu => ?_⟩
      have hu2 : u = envR mv qn lkv dpv nwv 1 0 := by
        rw [hu, envR_1]
        by_cases c0 : qn = 0
        · rw [if_pos (by rw [c0]), if_pos c0]
        · rw [if_neg (by rw [J_eq (by omega) (by omega)]; exact c0), if_neg c0, J_cl (by omega), E.2.2.1 (by omega)]
      rw [hu2]; exact H
    have F3 : Fr (P9 y0) σ τ3 := F2.tr f3
    refine r_has k3.g hy (wf F3 72 w_goal (by decide)) (fun e τ f k => ⟨k.1.1, fun c => absurd c (by decide), fun _ => ?_⟩) (fun e4 τ4 f4 k4 => ⟨k4.1.1, fun _ => ?_, fun c => absurd rfl c⟩)
    · have er : rPart tx n p = .inr ((2, 0), aftW tx n p) := by unfold rPart; rw [if_neg (by rw [e3]; decide), if_pos e]
      have E := ef (F3.tr f)
      have H := h1 _ _ er τ ((F3.tr f).mono P9_Y) k
      have e11 : sI τ (y0 + 1) 11 = J (mv 11) := E.1.at (by omega)
      rw [e11]; exact H
    have F4 : Fr (P9 y0) σ τ4 := F3.tr f4
    refine r_has k4.g hy (wf F4 74 w_quarter (by decide)) (fun e τ f k => ⟨k.1.1, fun c => absurd c (by decide), fun _ => ?_⟩) (fun e5 τ5 f5 k5 => ⟨k5.1.1, fun _ => ?_, fun c => absurd rfl c⟩)
    · have er : rPart tx n p = .inr ((3, 0), aftW tx n p) := by unfold rPart; rw [if_neg (by rw [e3]; decide), if_neg (by rw [e4]; decide), if_pos e]
      have E := ef (F4.tr f)
      have H := h1 _ _ er τ ((F4.tr f).mono P9_Y) k
      rw [E.2.1.1]; exact H
    have F5 : Fr (P9 y0) σ τ5 := F4.tr f5
    refine r_has k5.g hy (wf F5 76 w_rain (by decide)) (fun e τ f k => ⟨k.1.1, fun c => absurd c (by decide), fun _ => ?_⟩) (fun e6 τ6 f6 k6 => ⟨k6.1.1, fun _ => ?_, fun c => absurd rfl c⟩)
    · have er : rPart tx n p = .inr ((4, 0), aftW tx n p) := by unfold rPart; rw [if_neg (by rw [e3]; decide), if_neg (by rw [e4]; decide), if_neg (by rw [e5]; decide), if_pos e]
      have E := ef (F5.tr f)
      have H := h1 _ _ er τ ((F5.tr f).mono P9_Y) k
      have eq := E.2.1.2
      rw [E.2.1.1]
      simp (disch := omega) only [J_add, J_cl]
      refine ⟨(by simp (disch := omega) only [J_add, J_mul, J_sub, J_cl, vp_J]; omega), ?_⟩
      rw [E.1.at (by omega)]; exact H
    have F6 : Fr (P9 y0) σ τ6 := F5.tr f6
    refine r_has k6.g hy (wf F6 78 w_depth (by decide)) (fun e τ f k => ⟨k.1.1, fun c => absurd c (by decide), fun _ => ?_⟩) (fun e7 τ7 f7 k7 => ⟨k7.1.1, fun _ => ?_, fun c => absurd rfl c⟩)
    · have er : rPart tx n p = bnd (tN tx n 0 8 (aftW tx n p)) (fun a p => .inr ((5, a), p)) := by unfold rPart; rw [if_neg (by rw [e3]; decide), if_neg (by rw [e4]; decide), if_neg (by rw [e5]; decide), if_neg (by rw [e6]; decide), if_pos e]
      refine r_fig k (by omega) (hi1 := 8) (by omega) (by decide) (fun v p' t τ2' f2 k2' => ⟨k2'.1.1, ?_⟩) (fun t τ2' v f2 k2' => ⟨k2'.1.1, fun c => absurd c k2'.bad, fun u hu => h0 _ (by rw [er, bnd_l t]) τ2' _ (((F6.tr f).mono P9_Y).tr f2) k2'⟩)
      have E := (ef (F6.tr f)).t f2
      have eq := E.2.1.2
      have bv := tN_v t
      have H := h1 _ _ (by rw [er, bnd_r t]) τ2' (((F6.tr f).mono P9_Y).tr f2) k2'
      have c1 : ∀ hr : v < mv 2, f_196 τ2' y0 (J v) (J qn) = dpv v := fun hr => by
        have hrv := hv.r hr
        show sI τ2' (y0 + 7) ((J 97 * J v + J qn).toNatClampNeg) / f_169 τ2' y0 (J v) (J 0) = _
        rw [rv_169 E.1 (by omega)]
        simp (disch := omega) only [J_add, J_mul, J_cl]
        exact E.2.2.2.1 v hr
      rw [E.2.1.1]
      have r5 := r165 (σ := τ2') (x := J v) E.1 hv
      refine ⟨fun _ c => ?_, fun u hu => ?_⟩
      · have hr : v < mv 2 := Classical.byContradiction fun hn => c (r5.mpr (fun ⟨k, hk, e⟩ => by have := J_inj (by omega) (by omega) e; omega))
        have hrv := hv.r hr
        rw [show f_169 τ2' y0 (J v) (J 0) = J (mv (336 + 5 * v)) from rv_169 E.1 (by omega)]
        refine ⟨(by simp (disch := omega) only [J_add, J_mul, J_sub, J_cl, vp_J]; omega), (by simp (disch := omega) only [J_add, J_mul, J_sub, J_cl, vp_J]; omega), ?_, trivial⟩
        rw [J_eq (by omega) (by omega)]; omega
      · have hu2 : u = envR mv qn lkv dpv nwv 5 v := by
          rw [hu, if_pos k2'.2.1, envR_5]
          by_cases hr : v < mv 2
          · rw [if_neg (fun c => (r5.mp c) ⟨v, hr, rfl⟩), if_pos hr]; exact c1 hr
          · rw [if_pos (r5.mpr (fun ⟨k, hk, e⟩ => by have := J_inj (by omega) (by omega) e; omega)), if_neg hr]
        rw [hu2]; exact H
    have F7 : Fr (P9 y0) σ τ7 := F6.tr f7
    refine r_has k7.g hy (wf F7 80 w_gate (by decide)) (fun e τ f k => ⟨k.1.1, fun c => absurd c (by decide), fun _ => ?_⟩) (fun e8 τ8 f8 k8 => ⟨k8.1.1, fun _ => ?_, fun c => absurd rfl c⟩)
    · have er : rPart tx n p = bnd (tN tx n 0 4 (aftW tx n p)) (fun a p => .inr ((6, a), p)) := by unfold rPart; rw [if_neg (by rw [e3]; decide), if_neg (by rw [e4]; decide), if_neg (by rw [e5]; decide), if_neg (by rw [e6]; decide), if_neg (by rw [e7]; decide), if_pos e]
      refine r_fig k (by omega) (hi1 := 4) (by omega) (by decide) (fun v p' t τ2' f2 k2' => ⟨k2'.1.1, ?_⟩) (fun t τ2' v f2 k2' => ⟨k2'.1.1, fun c => absurd c k2'.bad, fun u hu => h0 _ (by rw [er, bnd_l t]) τ2' _ (((F7.tr f).mono P9_Y).tr f2) k2'⟩)
      have E := (ef (F7.tr f)).t f2
      have eq := E.2.1.2
      have bv := tN_v t
      have H := h1 _ _ (by rw [er, bnd_r t]) τ2' (((F7.tr f).mono P9_Y).tr f2) k2'
      rw [E.2.1.1]
      have r4 := r164 (σ := τ2') (x := J v) E.1 hv
      refine ⟨fun _ c c2 => ?_, fun u hu => ?_⟩
      · rw [J_le (by omega) (by omega)] at c2
        exact ⟨(by simp (disch := omega) only [J_add, J_mul, J_sub, J_cl, vp_J]; omega), trivial⟩
      · have hu2 : u = envR mv qn lkv dpv nwv 6 v := by
          rw [hu, if_pos k2'.2.1, envR_6]
          by_cases hr : v < mv 1
          · rw [if_neg (fun c => (r4.mp c) ⟨v, hr, rfl⟩)]
            by_cases h0q : qn ≤ 0
            · rw [if_pos (by rw [J_le (by omega) (by omega)]; exact h0q), if_neg (by omega)]
            · rw [if_neg (by rw [J_le (by omega) (by omega)]; exact h0q), if_pos (by omega)]
              simp (disch := omega) only [J_add, J_mul, J_sub, J_cl]
              exact E.2.2.2.2 _ (by omega)
          · rw [if_pos (r4.mpr (fun ⟨k, hk, e⟩ => by have := J_inj (by omega) (by omega) e; omega)), if_neg (by omega)]
        rw [hu2]; exact H
    have F8 : Fr (P9 y0) σ τ8 := F7.tr f8
    rw [k8.2.2.1]
    refine r_wrong_g k8.g hl.1 (fun τ f k => ?_)
    have er : rPart tx n p = .inl p := by unfold rPart; rw [if_neg (by rw [e3]; decide), if_neg (by rw [e4]; decide), if_neg (by rw [e5]; decide), if_neg (by rw [e6]; decide), if_neg (by rw [e7]; decide), if_neg (by rw [e8]; decide)]; exact bnd_l (tN_nd hl.1 nf)
    exact h0 p er τ _ ((F8.mono P9_Y).tr f) k
  · have yf : p < n ∧ isD tx p = true := Classical.byContradiction fun k => c (if_neg k)
    have er := rPart_d hl.1 yf.2
    exact r_fig k2.g (by omega) (hi1 := 1000000) (by omega) (by decide) (fun v p' t τ f k => h1 (0, v) p' (by rw [er, bnd_r t]) τ ((F2.mono P9_Y).tr f) k) (fun t τ v f k => h0 p (by rw [er, bnd_l t]) τ v ((F2.mono P9_Y).tr f) k)
theorem RTg.w (h : WRD σ) (f : Fr (PYd y0) σ τ) (hy : y0 = 260) : WRD τ := h.fr f (fun p j k => by unfold PYd at k; omega)
theorem r_sumL (hy : y0 = 260) (hv : VG mv) {R0 : Rs CVl} (hw : WRD σ) (hE : EVr σ y0 mv qn lkv dpv nwv) (h1 : ∀ a q, R0 = .inr (a, q) → ∀ τ, Fr (PYt y0) σ τ → RTg τ y0 tx n bs q → Q (.inl (some (.int (a.2 (envR mv qn lkv dpv nwv))))) τ)
    (h0 : ∀ f, R0 = .inl f → ∀ τ v, Fr (PYt y0) σ τ → RTb τ y0 tx n bs f 0 → Q (.inl (some (.int v))) τ) : ∀ f (a : CVl) p τ, n < p + f → Fr (PYt y0) σ τ → RTg τ y0 tx n bs p → R0 = rSumL tx n f a p → WP gT (d + 6) B 187 5 [.ref y0, .int (a.2 (envR mv qn lkv dpv nwv))] [] τ Q := by
  intro f
  induction f with
  | zero => intro a p τ hf F h hR; have := h.le; omega
  | succ f ih =>
    intro a p τ hf F h hR
    have hl := h.le
    have hS : rSumL tx n (f + 1) a p = if isS tx n p 43 = true then bnd (rPart tx n (aftS tx n p)) (fun b p => rSumL tx n f (a.1 ++ [b, (9, 0)], fun e => a.2 e + e b.1 b.2) p) else .inr (a, p) := rfl
    rw [hS] at hR
    refine g_187_5 h.1.1 ⟨fun _ => r_isSign h (c := 43) (by omega) (fun τ2 f2 k2 => ⟨k2.1.1, fun c => ?_, fun c => ?_⟩), fun c => absurd h.2.1 c⟩
    · have en : isS tx n p 43 = false := by rw [b01] at c; exact c
      rw [if_neg (by rw [en]; decide)] at hR
      exact h1 _ _ hR τ2 (F.tr (f2.mono P9_Y)) k2.g
    · have ey : isS tx n p 43 = true := by cases h2 : isS tx n p 43 with | true => rfl | false => rw [h2] at c; exact absurd rfl c
      rw [if_pos ey] at hR
      have bS := aftS_b (tx := tx) (isS_lt ey)
      rw [k2.2.2.1, J_add]
      have hi := k2.g.inc k2.2.2.1 ey
      have F3 := (F.tr (f2.mono P9_Y)).tr (hi.1.mono P9_Y)
      refine r_part hy hi.2 (hE.t F3) hv (hw.fr F3 (fun p j k => by unfold PYt at k; omega)) (fun b q e τ4 f4 k4 => ?_) (fun f0 e τ4 v f4 k4 => ?_)
      · have b1 := rPart_b hi.2.le.1 e
        rw [bnd_r e] at hR
        exact ih (a.1 ++ [b, (9, 0)], fun e => a.2 e + e b.1 b.2) q τ4 (by omega) (F3.tr f4) k4 hR
      · rw [bnd_l e] at hR
        exact g_187_5 k4.1.1 ⟨fun c => absurd c k4.bad, fun _ => h0 f0 hR τ4 _ (F3.tr f4) k4⟩
theorem r_sum (hy : y0 = 260) (h : RTg σ y0 tx n bs p) (hE : EVr σ y0 mv qn lkv dpv nwv) (hv : VG mv) (hw : WRD σ) (h1 : ∀ a q, rSum tx n p = .inr (a, q) → ∀ τ, Fr (PYt y0) σ τ → RTg τ y0 tx n bs q → Q (.inl (some (.int (a.2 (envR mv qn lkv dpv nwv))))) τ)
    (h0 : ∀ f, rSum tx n p = .inl f → ∀ τ v, Fr (PYt y0) σ τ → RTb τ y0 tx n bs f 0 → Q (.inl (some (.int v))) τ) : WP gT (d + 6) B 187 0 [.ref y0, .retAddr 0] [] σ Q := by
  have hl := h.le
  refine g_187_0 h.1.1 (r_part hy h hE hv hw (fun b q e τ f k => ?_) (fun f0 e τ v f k => ?_))
  · have b1 := rPart_b hl.1 e
    exact r_sumL (R0 := rSum tx n p) hy hv hw hE h1 h0 401 ([b], fun e => e b.1 b.2) q τ (by omega) f k (by unfold rSum; rw [bnd_r e])
  · exact g_187_5 k.1.1 ⟨fun c => absurd c k.bad, fun _ => h0 f0 (by unfold rSum; rw [bnd_l e]) τ _ f k⟩
theorem r_plain (hy : y0 = 260) (h : RTg σ y0 tx n bs p) (hE : EVr σ y0 mv qn lkv dpv nwv) (hv : VG mv) (hw : WRD σ) (h1 : ∀ a q, rPlain tx n p = .inr (a, q) → ∀ τ, Fr (PYt y0) σ τ → RTg τ y0 tx n bs q → Q (.inl (some (.int (a.2 (envR mv qn lkv dpv nwv))))) τ)
    (h0 : ∀ f, rPlain tx n p = .inl f → ∀ τ v, Fr (PYt y0) σ τ → RTb τ y0 tx n bs f 0 → (v = J 0 ∨ v = J 1) → Q (.inl (some (.int v))) τ) : WP gT (d + 7) B 188 0 [.ref y0, .retAddr 0, .retAddr 0, .retAddr 0] [] σ Q := by
  have hl := h.le
  have hs := hv.s
  refine g_188_0 h.1.1 (r_has h hy (hw 68 w_wet (by decide)) (fun e τ f k => ⟨k.1.1, fun c => absurd c (by decide), fun _ => ?_⟩) (fun e1 τ2 f2 k2 => ⟨k2.1.1, fun _ => ?_, fun c => absurd rfl c⟩))
  · have er : rPlain tx n p = bnd (tN tx n 0 12 (aftW tx n p)) (fun a p => .inr (([(7, a)], fun e => e 7 a), p)) := by unfold rPlain; rw [if_pos e]
    refine r_fig k (by omega) (hi1 := 12) (by omega) (by decide) (fun v p' t τ2 f2 k2 => ⟨k2.1.1, ?_⟩) (fun t τ2 v f2 k2 => ⟨k2.1.1, fun c => absurd c k2.bad, fun u hu => ?_⟩)
    · have F2 := (f.mono P9_Y).tr f2
      have E := hE.t F2
      have eq := E.2.1.2
      have bv := tN_v t
      have H := h1 _ _ (by rw [er, bnd_r t]) τ2 F2 k2
      rw [E.2.1.1]
      have r6 := r166 (σ := τ2) (x := J v) E.1 hv
      refine ⟨fun _ c => ?_, fun u hu => ?_⟩
      · have hr : v < mv 3 := Classical.byContradiction fun hn => c (r6.mpr (fun ⟨k, hk, e⟩ => by have := J_inj (by omega) (by omega) e; omega))
        have hpv := hv.p hr
        have hrv := hv.r hpv.1
        rw [show f_170 τ2 y0 (J v) (J 0) = J (mv (376 + 4 * v)) from rv_170 E.1 (by omega), show f_169 τ2 y0 (J (mv (376 + 4 * v))) (J 0) = J (mv (336 + 5 * mv (376 + 4 * v))) from rv_169 E.1 (by omega)]
        refine ⟨(by simp (disch := omega) only [J_add, J_mul, J_sub, J_cl, vp_J]; omega), (by simp (disch := omega) only [J_add, J_mul, J_sub, J_cl, vp_J]; omega), (by simp (disch := omega) only [J_add, J_mul, J_sub, J_cl, vp_J]; omega), ?_, (by simp (disch := omega) only [J_add, J_mul, J_sub, J_cl, vp_J]; omega), trivial⟩
        rw [J_eq (by omega) (by omega)]; omega
      · have hu2 : u = envR mv qn lkv dpv nwv 7 v := by
          rw [hu, if_pos k2.2.1, envR_v]
          by_cases hr : v < mv 3
          · have hpv := hv.p hr
            have hrv := hv.r hpv.1
            have e196 : f_196 τ2 y0 (J (mv (376 + 4 * v))) (J qn) = dpv (mv (376 + 4 * v)) := by
              show sI τ2 (y0 + 7) ((J 97 * J (mv (376 + 4 * v)) + J qn).toNatClampNeg) / f_169 τ2 y0 (J (mv (376 + 4 * v))) (J 0) = _
              rw [rv_169 E.1 (by omega)]
              simp (disch := omega) only [J_add, J_mul, J_cl]
              exact E.2.2.2.1 _ hpv.1
            have e170 : f_170 τ2 y0 (J v) (J 0) = J (mv (376 + 4 * v)) := rv_170 E.1 (by omega)
            have e171 : f_170 τ2 y0 (J v) (J 1) = J (mv (376 + 4 * v + 1)) := rv_170 E.1 (by omega)
            rw [if_neg (fun c => (r6.mp c) ⟨v, hr, rfl⟩), e170, e171, e196]
            by_cases c1 : dpv (mv (376 + 4 * v)) ≤ J (mv (376 + 4 * v + 1))
            · rw [if_pos c1, if_neg (fun k => k.2.2 c1)]
            · rw [if_neg c1]
              by_cases h0q : qn ≤ 0
              · rw [if_pos (by rw [J_le (by omega) (by omega)]; exact h0q), if_neg (by omega)]
              · rw [if_neg (by rw [J_le (by omega) (by omega)]; exact h0q), if_pos ⟨hr, by omega, c1⟩]
          · rw [if_pos (r6.mpr (fun ⟨k, hk, e⟩ => by have := J_inj (by omega) (by omega) e; omega)), if_neg (fun k => hr k.1)]
        rw [hu2]; exact ⟨envR_7 v, H⟩
    · have hu2 : u = J 0 := by rw [hu, if_neg k2.bad]
      rw [hu2]; exact ⟨Or.inl rfl, h0 _ (by rw [er, bnd_l t]) τ2 _ ((f.mono P9_Y).tr f2) k2 (Or.inl rfl)⟩
  · have er : rPlain tx n p = rCmp tx n p := by unfold rPlain; rw [if_neg (by rw [e1]; decide)]
    have F2 := f2.mono P9_Y
    refine r_sum hy k2.g (hE.t F2) hv (hw.fr F2 (fun p j k => by unfold PYt at k; omega)) (fun a q ea τ4 f4 k4 => ⟨k4.1.1, fun _ => ?_, fun c => absurd k4.2.1 c⟩) (fun f0 ea τ4 v f4 k4 => ⟨k4.1.1, fun c => absurd c k4.bad, fun _ => ?_⟩)
    · have F4 := F2.tr f4
      have hl4 := k4.le
      have E4 := hE.t F4
      have hw4 := hw.fr F4 (fun p j k => by unfold PYt at k; omega)
      refine r_isSign k4 (c := 60) (by omega) (fun τ6 f6 k6 => ⟨k6.1.1, fun c => ?_, fun c => ?_⟩)
      · have en : isS tx n q 60 = false := by rw [b01] at c; exact c
        refine r_isSign k6.g (c := 62) (by omega) (fun τ8 f8 k8 => ⟨k8.1.1, fun c2 => ?_, fun c2 => ?_⟩)
        · have en2 : isS tx n q 62 = false := by rw [b01] at c2; exact c2
          rw [k8.2.2.1]
          refine r_wrong_g k8.g hl4.1 (fun τ9 f9 k9 => ?_)
          exact h0 q (by rw [er]; unfold rCmp; rw [bnd_r ea, if_neg (by rw [en]; decide), if_neg (by rw [en2]; decide)]) τ9 _ (((F4.tr (f6.mono P9_Y)).tr (f8.mono P9_Y)).tr f9) k9 (Or.inl rfl)
        · have ey : isS tx n q 62 = true := by cases h2 : isS tx n q 62 with | true => rfl | false => rw [h2] at c2; exact absurd rfl c2
          rw [k8.2.2.1, J_add, en]
          have hi := k8.g.inc k8.2.2.1 ey
          have F9 := ((F4.tr (f6.mono P9_Y)).tr (f8.mono P9_Y)).tr (hi.1.mono P9_Y)
          refine r_sum hy hi.2 (hE.t F9) hv (hw.fr F9 (fun p j k => by unfold PYt at k; omega)) (fun b q2 eb τ10 f10 k10 u hu => ?_) (fun f0 eb τ10 v f10 k10 u hu => ?_)
          · have H := h1 _ _ (by rw [er]; unfold rCmp; rw [bnd_r ea, if_neg (by rw [en]; decide), if_pos ey, bnd_r eb]) τ10 (F9.tr f10) k10
            have hu2 : u = (if b.2 (envR mv qn lkv dpv nwv) < a.2 (envR mv qn lkv dpv nwv) then J 1 else J 0) := by
              rw [hu, if_pos (by rw [if_neg (by decide)])]
              by_cases cc : a.2 (envR mv qn lkv dpv nwv) ≤ b.2 (envR mv qn lkv dpv nwv)
              · rw [if_pos cc, if_neg (Int32.not_lt.mpr cc)]
              · rw [if_neg cc, if_pos (Int32.not_le.mp cc)]
            rw [hu2]; exact ⟨ite01, H⟩
          · have hub : u = J 0 ∨ u = J 1 := by
              rw [hu]
              repeat' split
              all_goals first | exact Or.inl rfl | exact Or.inr rfl
            exact ⟨hub, h0 f0 (by rw [er]; unfold rCmp; rw [bnd_r ea, if_neg (by rw [en]; decide), if_pos ey, bnd_l eb]) τ10 _ (F9.tr f10) k10 hub⟩
      · have ey : isS tx n q 60 = true := by cases h2 : isS tx n q 60 with | true => rfl | false => rw [h2] at c; exact absurd rfl c
        rw [k6.2.2.1, J_add, ey]
        have hi := k6.g.inc k6.2.2.1 ey
        have F9 := (F4.tr (f6.mono P9_Y)).tr (hi.1.mono P9_Y)
        refine r_sum hy hi.2 (hE.t F9) hv (hw.fr F9 (fun p j k => by unfold PYt at k; omega)) (fun b q2 eb τ10 f10 k10 u hu => ?_) (fun f0 eb τ10 v f10 k10 u hu => ?_)
        · have H := h1 _ _ (by rw [er]; unfold rCmp; rw [bnd_r ea, if_pos ey, bnd_r eb]) τ10 (F9.tr f10) k10
          have hu2 : u = (if a.2 (envR mv qn lkv dpv nwv) < b.2 (envR mv qn lkv dpv nwv) then J 1 else J 0) := by
            rw [hu, if_neg (by rw [if_pos rfl]; decide)]
            by_cases cc : b.2 (envR mv qn lkv dpv nwv) ≤ a.2 (envR mv qn lkv dpv nwv)
            · rw [if_pos cc, if_neg (Int32.not_lt.mpr cc)]
            · rw [if_neg cc, if_pos (Int32.not_le.mp cc)]
          rw [hu2]; exact ⟨ite01, H⟩
        · have hub : u = J 0 ∨ u = J 1 := by
            rw [hu]
            repeat' split
            all_goals first | exact Or.inl rfl | exact Or.inr rfl
          exact ⟨hub, h0 f0 (by rw [er]; unfold rCmp; rw [bnd_r ea, if_pos ey, bnd_l eb]) τ10 _ (F9.tr f10) k10 hub⟩
    · exact h0 f0 (by rw [er]; unfold rCmp; rw [bnd_l ea]) τ4 _ (F2.tr f4) k4 (Or.inl rfl)
