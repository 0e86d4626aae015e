/-! ===== trials: the best opening of one gate ===== -/
variable {d : Nat} {B : Nat × Nat} {Q : Out → Sto → Prop} {P : Nat → Nat → Prop} {σ τ : Sto} {x0 y0 : Nat} {mv kv : Mem} {img : Bool} {tp : Mem} {n : Nat} {fl : Option Nat}
def stB (g s r : Nat) : Mem := fun k => if 96 * g + r ≤ k ∧ k < 96 * g + 96 then s else 0
abbrev BSt : Type := Option Nat × Nat × (Nat → Nat)
def bTk (mv : Mem) (g s r : Nat) (b : BSt) : Bool := decide (jdg mv (stB g s r) 0 = 0) && (b.1.isNone || decide (hrm mv (dpF mv (stB g s r) 0) (mv 3) < b.2.1))
def bSt (mv : Mem) (g s r : Nat) (b : BSt) : BSt := (if bTk mv g s r b = true then some (100 * s + r) else b.1, if bTk mv g s r b = true then hrm mv (dpF mv (stB g s r) 0) (mv 3) else b.2.1, up b.2.2 (jdg mv (stB g s r) 0) (b.2.2 (jdg mv (stB g s r) 0) + 1))
def bD (mv : Mem) (g s : Nat) : Nat → BSt → BSt
  | 0, b => b
  | r + 1, b => bD mv g s r (bSt mv g s r b)
def bU (mv : Mem) (g : Nat) : Nat → Nat → BSt → BSt
  | 0, _, b => b
  | m + 1, s, b => bU mv g m (s + 1) (bD mv g s 96 b)
def cbr (m : Nat → Nat) : Nat → Nat
  | 0 => 1
  | i + 1 => if m (i + 2) ≤ m (cbr m i) then cbr m i else i + 2
theorem cbr_le (m : Nat → Nat) : ∀ i, cbr m i ≤ i + 1 := by
  intro i
  induction i with
  | zero => exact Nat.le_refl _
  | succ i ih => rw [show cbr m (i + 1) = if m (i + 2) ≤ m (cbr m i) then cbr m i else i + 2 from rfl]; split <;> omega
def bBar (m : Nat → Nat) : Nat := if m 0 ≤ 0 then cbr m 3 else 0
def bFin (mv : Mem) (g : Nat) : BSt := bU mv g (mv (308 + 7 * g)) 1 (none, 0, fun _ => 0)
theorem stB_le {g s r : Nat} (hs : s ≤ 6) : ∀ k, k < 384 → stB g s r k ≤ 6 := fun k _ => by unfold stB; split <;> omega
theorem stB_up {g s r k : Nat} (hr : r < 96) : (if k = 96 * g + r then s else stB g s (r + 1) k) = stB g s r k := by
  unfold stB
  by_cases e : k = 96 * g + r
  · rw [if_pos e, if_pos (by omega)]
  · rw [if_neg e]
    by_cases c : 96 * g + (r + 1) ≤ k ∧ k < 96 * g + 96
    · rw [if_pos c, if_pos (by omega)]
    · rw [if_neg c, if_neg (by omega)]
/-- a state that may be: r trials more leave the counts within C -/
def BOk (C r : Nat) (b : BSt) : Prop := b.2.1 ≤ 100000 ∧ (∀ c, b.1 = some c → c ≤ 1000) ∧ ∀ j, b.2.2 j + r ≤ C
theorem BOk.st {C r g s : Nat} {b : BSt} (hv : VG mv) (hs : s ≤ 6) (hr : r < 96) (h : BOk C (r + 1) b) : BOk C r (bSt mv g s r b) := by
  have hl := hrm_le (dp := dpF mv (stB g s r) 0) hv (mv 3) (Nat.le_refl _)
  have := hv.s
  obtain ⟨h1, h2, h3⟩ := h
  refine ⟨?_, fun c hc => ?_, fun j => ?_⟩
  · show (if bTk mv g s r b = true then _ else _) ≤ _
    split <;> omega
  · have hc : (if bTk mv g s r b = true then some (100 * s + r) else b.1) = some c := hc
    split at hc
    · cases hc; omega
    · exact h2 c hc
  · show up b.2.2 _ _ j + r ≤ C
    have a1 := h3 j
    unfold up
    split
    · rename_i e; rw [← e]; omega
    · omega
/-- the class's cells of such a state -/
def BCl (σ : Sto) (x0 : Nat) (b : BSt) : Prop := sI σ (x0 + 130) 3 = oJ b.1 ∧ ∀ j, j < 5 → sI σ (x0 + 160) j = J (b.2.2 j)
theorem BCl.fr {b : BSt} (h : BCl σ x0 b) (f : Fr P σ τ) (h1 : ¬ P (x0 + 130) 3) (h2 : ∀ j, ¬ P (x0 + 160) j) : BCl τ x0 b := ⟨(f.i h1).trans h.1, fun j hj => (f.i (h2 j)).trans (h.2 j hj)⟩
theorem c_harmT {st : Mem} (h : CIv σ x0 mv kv img tp n fl) (hf : CFf σ (x0 + 131) mv st 0 96) (hQ : Q (.inl (some (.int (J (hrm mv (dpF mv st 0) (mv 3)))))) σ) : WP gT (d + 1) B 34 0 [.ref (x0 + 131), .ref (x0 + 25), .retAddr 0, .retAddr 0] [] σ Q :=
  c_harm (sub_11_131_3 h.sh) (sub_11_25_4 h.sh) (CDd.of h.mv_.1 (by omega) hf) h.G h.mv_.1 hQ
theorem c_bestD {g s C : Nat} (hg : g < mv 1) (hs : s ≤ 6) (hC : C ≤ 1000) :
    ∀ r b τ, r ≤ 96 → BOk C r b → CIv τ x0 mv kv img tp n fl → FCl σ τ → BCl τ x0 b → (∀ k, k < 384 → sI τ (x0 + 159) k = J (stB g s r k)) → CFf τ (x0 + 131) mv (stB g s r) 0 96 →
    (∀ ρ y z, CIv ρ x0 mv kv img tp n fl → FCl σ ρ → BCl ρ x0 (bD mv g s r b) → BOk C 0 (bD mv g s r b) → WP gT (d + 6) B 85 18 [.ref (x0 + 130), .ref (x0 + 24), .int (J g), .int (J (bD mv g s r b).2.1), .int (J (s + 1)), y, z] [] ρ Q) →
    ∀ x6 : Value, WP gT (d + 6) B 85 61 [.ref (x0 + 130), .ref (x0 + 24), .int (J g), .int (J b.2.1), .int (J s), .int (J r + -J 1), x6] [] τ Q := by
  intro r
  induction r with
  | zero =>
    intro b τ hr hb h hF hbc hst hcf hk x6
    rw [J01']
    refine g_85_61 (tr_10 h.sh) (sub_11_24_2 h.sh) ⟨fun _ => ?_, fun e => absurd (by decide) e⟩
    rw [J_add]; exact hk τ _ _ h hF hbc hb
  | succ r ih =>
    intro b τ hr hb h hF hbc hst hcf hk x6
    have hx := h.x
    have hv := h.mv_.1
    have hgs := hv.s
    have hb2 := hb.st (g := g) hv hs (by omega)
    rw [Jn1]
    refine g_85_61 (tr_10 h.sh) (sub_11_24_2 h.sh) ⟨fun e => ?_, fun _ => ⟨(by simp (disch := omega) only [J_add, J_mul, J_sub, J_cl, vp_J]; omega), ?_⟩⟩
    · exfalso; simp (disch := omega) only [J_add, J_mul, J_sub, J_cl, J_lt, J_le, J_eq, vp_J, n1_ne, n1_lt, n1_le, n1_nlt, n1_nle] at e; omega
    · simp (disch := omega) only [J_mul, J_add, J_cl]
      have hF1 : Fr (fun p _ => p = x0 + 159) τ (setI τ (x0 + 159) (g * 96 + r) (J s)) := Fr.rf.setI rfl
      have h1 := h.fr hF1 (fun p j k => by unfold SCr; omega)
      have hst1 : ∀ k, k < 384 → sI (setI τ (x0 + 159) (g * 96 + r) (J s)) (x0 + 159) k = J (stB g s r k) := fun k hk => by
        rw [← stB_up (by omega)]
        by_cases e : k = 96 * g + r
        · rw [if_pos e, show k = g * 96 + r by omega, sI_same]
        · rw [if_neg e, sI_any (by omega)]; exact hst k hk
      have hcf1 : CFf (setI τ (x0 + 159) (g * 96 + r) (J s)) (x0 + 131) mv (stB g s r) 0 r := by
        refine ((hcf.less (m' := r) (by omega)).fr hv hF1 (fun i j a b k => by omega)).cong (fun g2 q hg2 hq => ?_)
        rw [← stB_up (g := g) (s := s) (r := r) (k := 96 * g2 + q) (by omega), if_neg (by omega)]
      refine c_runT h1 (tr_st h1.sh).1 (tr_st h1.sh).2 (by omega) hst1 (stB_le hs) (by omega) (by omega) hcf1 (fun ρ h2 hF2 hf2 => ⟨tr_10 h2.sh, sub_11_24_2 h2.sh, ?_⟩)
      refine c_judT h2 (by omega) hf2 (fun χ h3 hF3 => ⟨tr_10 h3.sh, sub_11_24_2 h3.sh, ?_⟩)
      have hjl := jdg_le mv (stB g s r) 0
      have hFF : FCl σ χ := ((hF.tr (FCl.of hx hF1 (fun p j k => by omega))).tr (FCl.of hx hF2 (fun p j k => by omega))).tr (FCl.of hx hF3 (fun p j k => by omega))
      have hbc3 : BCl χ x0 b := ((hbc.fr hF1 (by omega) (fun j => by omega)).fr hF2 (by omega) (fun j => by omega)).fr hF3 (by omega) (fun j => by omega)
      have hst3 : ∀ k, k < 384 → sI χ (x0 + 159) k = J (stB g s r k) := fun k hk => (hF3.i (by omega)).trans ((hF2.i (by omega)).trans (hst1 k hk))
      have hf3 := hf2.fr hv hF3 (fun i j a b k => by omega)
      simp (disch := omega) only [J_cl, J_eq]
      rw [show x0 + 130 + 30 = x0 + 160 from rfl, hbc3.2 _ (by omega), J_add]
      -- the count
      have hF4 : Fr (fun p _ => p = x0 + 160) χ (setI χ (x0 + 160) (jdg mv (stB g s r) 0) (J (b.2.2 (jdg mv (stB g s r) 0) + 1))) := Fr.rf.setI rfl
      have h4 := h3.fr hF4 (fun p j k => by unfold SCr; omega)
      have hFF4 := hFF.tr (FCl.of hx hF4 (fun p j k => by omega))
      have hst4 : ∀ k, k < 384 → sI (setI χ (x0 + 160) (jdg mv (stB g s r) 0) (J (b.2.2 (jdg mv (stB g s r) 0) + 1))) (x0 + 159) k = J (stB g s r k) := fun k hk => (hF4.i (by omega)).trans (hst3 k hk)
      have hf4 := hf3.fr hv hF4 (fun i j a b k => by omega)
      have hcnt : ∀ j, j < 5 → sI (setI χ (x0 + 160) (jdg mv (stB g s r) 0) (J (b.2.2 (jdg mv (stB g s r) 0) + 1))) (x0 + 160) j = J ((bSt mv g s r b).2.2 j) := fun j hj => by
        show _ = J (up b.2.2 _ _ j)
        unfold up
        by_cases e : j = jdg mv (stB g s r) 0
        · rw [if_pos e, e, sI_same]
        · rw [if_neg e, sI_any (by omega)]; exact hbc3.2 j hj
      have hbst4 : sI (setI χ (x0 + 160) (jdg mv (stB g s r) 0) (J (b.2.2 (jdg mv (stB g s r) 0) + 1))) (x0 + 130) 3 = oJ b.1 := by rw [sI_any (by omega)]; exact hbc3.1
      generalize setI χ (x0 + 160) (jdg mv (stB g s r) 0) (J (b.2.2 (jdg mv (stB g s r) 0) + 1)) = ψ at hF4 h4 hFF4 hst4 hf4 hcnt hbst4 ⊢
      have hhl := hrm_le (dp := dpF mv (stB g s r) 0) hv (mv 3) (Nat.le_refl _)
      have hnn : (oJ b.1 = -J 1) = (b.1 = none) := oJ_none (fun q hq => by have := hb.2.1 q hq; omega)
      -- how a pass ends that takes the trial, and one that doesn't
      have take : bTk mv g s r b = true → ∀ x6 : Value, WP gT (d + 6) B 85 61 [.ref (x0 + 130), .ref (x0 + 24), .int (J g), .int (J (hrm mv (dpF mv (stB g s r) 0) (mv 3))), .int (J s), .int (J r + -J 1), x6] [] (setI ψ (x0 + 130) 3 (J (100 * s + r))) Q := by
        intro ht x6
        have hF5 : Fr (fun p j => p = x0 + 130 ∧ j = 3) ψ (setI ψ (x0 + 130) 3 (J (100 * s + r))) := Fr.rf.setI ⟨rfl, rfl⟩
        have e1 : (bSt mv g s r b).1 = some (100 * s + r) := if_pos ht
        have e2 : (bSt mv g s r b).2.1 = hrm mv (dpF mv (stB g s r) 0) (mv 3) := if_pos ht
        have := ih (bSt mv g s r b) (setI ψ (x0 + 130) 3 (J (100 * s + r))) (by omega) hb2 (h4.fr hF5 (fun p j k => by unfold SCr; omega)) (hFF4.tr (FCl.of hx hF5 (fun p j k => by omega))) ⟨by rw [sI_same, e1]; rfl, fun j hj => by rw [sI_any (by omega)]; exact hcnt j hj⟩ (fun k hk => by rw [sI_any (by omega)]; exact hst4 k hk) (hf4.fr hv hF5 (fun i j a b k => by omega)) hk x6
        rw [e2] at this; exact this
      have keep : bTk mv g s r b = false → ∀ x6 : Value, WP gT (d + 6) B 85 61 [.ref (x0 + 130), .ref (x0 + 24), .int (J g), .int (J b.2.1), .int (J s), .int (J r + -J 1), x6] [] ψ Q := by
        intro ht x6
        have e1 : (bSt mv g s r b).1 = b.1 := if_neg (by rw [ht]; decide)
        have e2 : (bSt mv g s r b).2.1 = b.2.1 := if_neg (by rw [ht]; decide)
        have := ih (bSt mv g s r b) ψ (by omega) hb2 h4 hFF4 ⟨by rw [e1]; exact hbst4, hcnt⟩ hst4 hf4 hk x6
        rw [e2] at this; exact this
      have h31 := hbc3.1
      have hb1 := hb.1
      refine ⟨(by simp (disch := omega) only [J_add, J_mul, J_sub, J_cl, vp_J]; omega), (by simp (disch := omega) only [J_add, J_mul, J_sub, J_cl, vp_J]; omega), fun c => ⟨fun c2 => ?_, fun c2 => ?_⟩, fun c => keep (by unfold bTk; rw [decide_eq_false c]; rfl) _⟩
      · rw [h31, hnn] at c2
        refine c_harmT h4 hf4 ⟨tr_10 h4.sh, ?_⟩
        exact take (by unfold bTk; rw [decide_eq_true c, c2]; rfl) _
      · rw [h31, hnn] at c2
        have hns : b.1.isNone = false := by cases hbb : b.1 with
          | none => exact absurd hbb c2
          | some _ => rfl
        refine c_harmT h4 hf4 ⟨tr_10 h4.sh, sub_11_24_2 h4.sh, fun c3 => ?_, fun c3 => ?_⟩
        · rw [J_le (by omega) (by omega)] at c3
          exact keep (by unfold bTk; rw [decide_eq_true c, hns, decide_eq_false (by omega)]; rfl) _
        · rw [J_le (by omega) (by omega)] at c3
          refine c_harmT h4 hf4 ⟨tr_10 h4.sh, ?_⟩
          exact take (by unfold bTk; rw [decide_eq_true c, hns, decide_eq_true (by omega)]; rfl) _
theorem c_bestU {g : Nat} (hg : g < mv 1) :
    ∀ m s b τ, 1 ≤ s → s + m = mv (308 + 7 * g) + 1 → BOk (96 * (s - 1)) 0 b → CIv τ x0 mv kv img tp n fl → FCl σ τ → BCl τ x0 b →
    (∀ ρ, CIv ρ x0 mv kv img tp n fl → FCl σ ρ → BCl ρ x0 (bU mv g m s b) → BOk 576 0 (bU mv g m s b) → Q (.inl none) ρ) → ∀ x5 x6 : Value, WP gT (d + 6) B 85 18 [.ref (x0 + 130), .ref (x0 + 24), .int (J g), .int (J b.2.1), .int (J s), x5, x6] [] τ Q := by
  intro m
  induction m with
  | zero =>
    intro s b τ h1 h2 hb h hF hbc hQ x5 x6
    have hgv := h.mv_.1.g hg
    have hgs := h.mv_.1.s
    have hgg := h.G.g hg
    refine g_85_18 (sub_11_24_2 h.sh) (tr_10 h.sh) ⟨(by simp (disch := omega) only [J_add, J_mul, J_sub, J_cl, vp_J]; omega), fun _ => hQ τ h hF hbc ⟨hb.1, hb.2.1, fun j => Nat.le_trans (hb.2.2 j) (by omega)⟩, fun e => ?_⟩
    exfalso; rw [J_cl (by omega), show x0 + 24 + 6 = x0 + 25 + 5 by omega, hgg.1, J_lt (by omega) (by omega)] at e; omega
  | succ m ih =>
    intro s b τ h1 h2 hb h hF hbc hQ x5 x6
    have hx := h.x
    have hv := h.mv_.1
    have hgv := hv.g hg
    have hgs := hv.s
    have hgg := h.G.g hg
    refine g_85_18 (sub_11_24_2 h.sh) (tr_10 h.sh) ⟨(by simp (disch := omega) only [J_add, J_mul, J_sub, J_cl, vp_J]; omega), fun e => ?_, fun _ => ?_⟩
    · exfalso; rw [J_cl (by omega), show x0 + 24 + 6 = x0 + 25 + 5 by omega, hgg.1, J_lt (by omega) (by omega)] at e; omega
    · refine c_fill (a := x0 + 159) (z := 384) (tr_st h.sh).1 (tr_st h.sh).2 (by omega) (fun ρ hF2 hz => ?_)
      have h3 := h.fr hF2 (fun p j k => by unfold SCr; omega)
      have hst : ∀ k, k < 384 → sI ρ (x0 + 159) k = J (stB g s 96 k) := fun k hk => by rw [hz k hk]; unfold stB; rw [if_neg (by omega)]
      refine ⟨tr_10 h3.sh, sub_11_24_2 h3.sh, c_runT h3 (tr_st h3.sh).1 (tr_st h3.sh).2 (by omega) hst (stB_le (by omega)) (by omega) (by omega) (fun q hq => by omega) (fun χ h4 hF4 hf4 => ?_)⟩
      dsimp only [oV]
      rw [show J 95 = J 96 + -J 1 from by decide]
      refine c_bestD (C := 96 * s) hg (by omega) (by omega) 96 b χ (by omega) ⟨hb.1, hb.2.1, fun j => by have := hb.2.2 j; omega⟩ h4 ((hF.tr (FCl.of hx hF2 (fun p j k => by omega))).tr (FCl.of hx hF4 (fun p j k => by omega))) ((hbc.fr hF2 (by omega) (fun j => by omega)).fr hF4 (by omega) (fun j => by omega)) (fun k hk => (hF4.i (by omega)).trans (hst k hk)) hf4 (fun ψ y z h5 hF5 hb5 hok => ?_) _
      exact ih (s + 1) _ ψ (by omega) (by omega) hok h5 hF5 hb5 hQ _ _
theorem c_bar {b : BSt} {C : Nat} (nx : S_10 σ (x0 + 130)) (hb : BOk C 0 b) (hC : C ≤ 1000) (hbc : BCl σ x0 b) (hQ : Q (.inl (some (.int (J (bBar b.2.2))))) σ) : WP gT d B 86 0 [.ref (x0 + 130), .retAddr 0, .retAddr 0] [] σ Q := by
  have hle : ∀ j, b.2.2 j ≤ 1000 := fun j => by have := hb.2.2 j; omega
  have hl0 := hle 0
  unfold bBar at hQ
  refine g_86_0 nx ?_
  rw [show x0 + 130 + 30 = x0 + 160 from rfl, hbc.2 0 (by omega), J_le (by omega) (by omega)]
  refine ⟨fun e => ?_, fun e => ?_⟩
  · rw [if_pos e] at hQ
    refine upto0 (W := fun i => WP gT d B 86 15 [.ref (x0 + 130), .int (J (cbr b.2.2 i)), .int (J (i + 2))] [] σ Q) 3 (fun i hi ih => ?_) ?_ 0 (by omega)
    · have hcl := cbr_le b.2.2 i
      have l1 := hle (i + 2)
      have l2 := hle (cbr b.2.2 i)
      refine g_86_15 nx ⟨fun e => ?_, fun _ => ⟨(by simp (disch := omega) only [J_add, J_mul, J_sub, J_cl, vp_J]; omega), (by simp (disch := omega) only [J_add, J_mul, J_sub, J_cl, vp_J]; omega), fun u hu => ?_⟩⟩
      · exfalso; simp (disch := omega) only [J_add, J_mul, J_sub, J_cl, J_lt, J_le, J_eq, vp_J, n1_ne, n1_lt, n1_le, n1_nlt, n1_nle] at e; omega
      · rw [J_cl (by omega), J_cl (by omega), show x0 + 130 + 30 = x0 + 160 from rfl, hbc.2 _ (by omega), hbc.2 _ (by omega)] at hu
        simp (disch := omega) only [J_le] at hu
        have e : u = J (cbr b.2.2 (i + 1)) := by
          rw [hu, show cbr b.2.2 (i + 1) = if b.2.2 (i + 2) ≤ b.2.2 (cbr b.2.2 i) then cbr b.2.2 i else i + 2 from rfl]
          split <;> rfl
        rw [e, J_add]; exact ih
    · refine g_86_15 nx ⟨fun _ => hQ, fun e => absurd (by decide) e⟩
  · rw [if_neg e] at hQ; exact hQ
def RCl (σ : Sto) (y0 : Nat) (b : BSt) : Prop := ∀ j, j < 5 → sI σ (y0 + 14) j = J (b.2.2 j)
theorem ite_b {b : BSt} {g s r : Nat} (hv : VG mv) (hb : BOk 1000 0 b) (hj : jdg mv (stB g s r) 0 = 0) {α : Type} {x y : α} : (if oJ b.1 = -J 1 then x else if J (hrm mv (dpF mv (stB g s r) 0) (mv 3)) < J b.2.1 then x else y) = if bTk mv g s r b = true then x else y := by
  have hhl := hrm_le (dp := dpF mv (stB g s r) 0) hv (mv 3) (Nat.le_refl _)
  have := hv.s
  have hb1 := hb.1
  have hnn : (oJ b.1 = -J 1) = (b.1 = none) := oJ_none (fun q hq => by have := hb.2.1 q hq; omega)
  unfold bTk
  rw [decide_eq_true hj]
  simp (disch := omega) only [J_lt, hnn]
  cases b.1 with
  | none => rfl
  | some c =>
    rw [if_neg (by intro e; cases e)]
    by_cases c2 : hrm mv (dpF mv (stB g s r) 0) (mv 3) < b.2.1
    · rw [if_pos c2, decide_eq_true c2]; rfl
    · rw [if_neg c2, decide_eq_false c2]; rfl
theorem r_bestD {g s C : Nat} {a2 : Int32} (hy : y0 = 260) (hv : VG mv) (ho : VOo mv) (hg : g < mv 1) (hs : s ≤ 6) (hC : C ≤ 1000) :
    ∀ r b τ, r ≤ 96 → BOk C r b → RIv τ y0 mv kv img tp n fl → FRf σ τ → sI τ y0 0 = J 0 → RCc τ y0 (cpM mv) (caM mv) (mv 6) → sI τ y0 20 = J 0 → RCl τ y0 b →
    (∀ ρ x y z, RIv ρ y0 mv kv img tp n fl → FRf σ ρ → sI ρ y0 0 = J 0 → RCc ρ y0 (cpM mv) (caM mv) (mv 6) → sI ρ y0 20 = J 0 → RCl ρ y0 (bD mv g s r b) → BOk C 0 (bD mv g s r b) → WP gT (d + 8) B 242 63 [.ref y0, .int (J g), .int a2, .int (oJ (bD mv g s r b).1), .int (J (bD mv g s r b).2.1), .int (J (s + 1)), x, y, z] [] ρ Q) →
    ∀ x7 x8 : Value, WP gT (d + 8) B 242 85 [.ref y0, .int (J g), .int a2, .int (oJ b.1), .int (J b.2.1), .int (J s), .int (J r + -J 1), x7, x8] [] τ Q := by
  intro r
  have hgs := hv.s
  induction r with
  | zero =>
    intro b τ hr hb h hF ht hc hm hbc hk x7 x8
    rw [J01']
    refine g_242_85 ⟨fun _ => ?_, fun e => absurd (by decide) e⟩
    rw [J_add]; exact hk τ _ _ _ h hF ht hc hm hbc hb
  | succ r ih =>
    intro b τ hr hb h hF ht hc hm hbc hk x7 x8
    have hb2 := hb.st (g := g) hv hs (by omega)
    have hbk : BOk 1000 0 b := ⟨hb.1, hb.2.1, fun j => by have := hb.2.2 j; omega⟩
    rw [Jn1]
    refine g_242_85 ⟨fun e => ?_, fun _ => ?_⟩
    · exfalso; simp (disch := omega) only [J_add, J_mul, J_sub, J_cl, J_lt, J_le, J_eq, vp_J, n1_ne, n1_lt, n1_le, n1_nlt, n1_nle] at e; omega
    · refine upto (I := fun i χ => Fr (fun p _ => p = y0 + 5) τ χ ∧ ∀ k, k < i → sI χ (y0 + 5) k = J (stB g s r k)) (W := fun i χ => ∀ x8 : Value, WP gT (d + 8) B 242 93 [.ref y0, .int (J g), .int a2, .int (oJ b.1), .int (J b.2.1), .int (J s), .int (J r), .int (J i), x8] [] χ Q) 384 ?_ ?_ 0 τ (by omega) ⟨Fr.rf, fun k hk => by omega⟩ _
      · intro i χ hi hI ih2 x8
        refine g_242_93 (hI.1.sh h.1) ⟨fun e => ?_, fun _ => fun u hu => ⟨(by simp (disch := omega) only [J_add, J_mul, J_sub, J_cl, vp_J]; omega), ?_⟩⟩
        · exfalso; simp (disch := omega) only [J_add, J_mul, J_sub, J_cl, J_lt, J_le, J_eq, vp_J, n1_ne, n1_lt, n1_le, n1_nlt, n1_nle] at e; omega
        · have e : u = J (stB g s r i) := by
            rw [hu]; unfold stB
            simp (disch := omega) only [J_add, J_mul, J_sub, J_cl, J_lt, J_le, J_eq, vp_J, n1_ne, n1_lt, n1_le, n1_nlt, n1_nle]
            by_cases c1 : i < 96 * g + r
            · rw [if_pos c1, if_neg (by omega)]
            · rw [if_neg c1]
              by_cases c2 : 96 * g + 96 ≤ i
              · rw [if_pos c2, if_neg (by omega)]
              · rw [if_neg c2, if_pos (by omega)]
          rw [e, J_add, J_cl (by omega)]
          refine ih2 _ ⟨hI.1.setI rfl, fun k hk2 => ?_⟩ _
          by_cases e2 : k = i
          · subst e2; rw [sI_same]
          · rw [sI_any (by omega)]; exact hI.2 k (by omega)
      · intro χ hI x8
        obtain ⟨hF1, hst⟩ := hI
        have h1 := h.fr hF1 (fun p j k _ _ => by unfold SRr; omega)
        refine g_242_93 h1.1 ⟨fun _ => ?_, fun e => ?_⟩
        · refine r_runs (st := stB g s r) (more := 0) h1.1 hv h1.2.1 hst (stB_le hs) ((hF1.i (by omega)).trans hm) (fun ρ hF2 hf2 => ?_)
          have h2 := h1.fr hF2 (fun p j k _ _ => by unfold P200 at k; unfold SRr; omega)
          have hc2 := (hc.fr hF1 (fun i j hi k => by omega) (by omega)).fr hF2 (fun i j hi k => by unfold P200 at k; omega) (by unfold P200; omega)
          refine ⟨h2.1, r_judged h2.1 (RDd.of h2.2.1 hf2) hv ho hc2 ⟨h2.1, ?_⟩⟩
          rw [show jud mv (dpF mv (stB g s r) 0) (lkF mv (stB g s r)) (fea mv (dpF mv (stB g s r) 0) (cpM mv) (caM mv) (mv 6) (mv 5)) = jdg mv (stB g s r) 0 from rfl]
          have hjl := jdg_le mv (stB g s r) 0
          have hbc2 : RCl ρ y0 b := fun j hj => (hF2.i (by unfold P200; omega)).trans ((hF1.i (by omega)).trans (hbc j hj))
          rw [J_cl (by omega), hbc2 _ (by omega), J_add]
          have hF4 : Fr (fun p _ => p = y0 + 14) ρ (setI ρ (y0 + 14) (jdg mv (stB g s r) 0) (J (b.2.2 (jdg mv (stB g s r) 0) + 1))) := Fr.rf.setI rfl
          have h4 := h2.fr hF4 (fun p j k _ _ => by unfold SRr; omega)
          have hFF : FRf σ (setI ρ (y0 + 14) (jdg mv (stB g s r) 0) (J (b.2.2 (jdg mv (stB g s r) 0) + 1))) := ((hF.tr (FRf.of hy hF1 (fun p j k => by omega))).tr (FRf.of hy hF2 (fun p j k => by unfold P200 at k; omega))).tr (FRf.of hy hF4 (fun p j k => by omega))
          have ht4 : sI (setI ρ (y0 + 14) (jdg mv (stB g s r) 0) (J (b.2.2 (jdg mv (stB g s r) 0) + 1))) y0 0 = J 0 := (hF4.i (by omega)).trans ((hF2.i (by unfold P200; omega)).trans ((hF1.i (by omega)).trans ht))
          have hm4 : sI (setI ρ (y0 + 14) (jdg mv (stB g s r) 0) (J (b.2.2 (jdg mv (stB g s r) 0) + 1))) y0 20 = J 0 := (hF4.i (by omega)).trans ((hF2.i (by unfold P200; omega)).trans ((hF1.i (by omega)).trans hm))
          have hc4 := hc2.fr hF4 (fun i j hi k => by omega) (by omega)
          have hD4 := (RDd.of h2.2.1 hf2).fr hF4 (fun i j hi k => by omega)
          have hcnt : RCl (setI ρ (y0 + 14) (jdg mv (stB g s r) 0) (J (b.2.2 (jdg mv (stB g s r) 0) + 1))) y0 (bSt mv g s r b) := fun j hj => by
            show _ = J (up b.2.2 _ _ j)
            unfold up
            by_cases e : j = jdg mv (stB g s r) 0
            · rw [if_pos e, e, sI_same]
            · rw [if_neg e, sI_any (by omega)]; exact hbc2 j hj
          have ih3 := ih (bSt mv g s r b) _ (by omega) hb2 h4 hFF ht4 hc4 hm4 hcnt hk
          refine ⟨(by simp (disch := omega) only [J_add, J_mul, J_sub, J_cl, vp_J]; omega), (by simp (disch := omega) only [J_add, J_mul, J_sub, J_cl, vp_J]; omega), fun e => ?_, fun e => ?_⟩
          · have hj0 : jdg mv (stB g s r) 0 = 0 := by rw [J_le (by omega) (by omega)] at e; omega
            refine r_harmNow h4.1 hD4 hv (fun u hu => ?_)
            rw [J_mul, J_add, ite_b hv hbk hj0] at hu
            rw [ite_b hv hbk hj0]
            have e1 : u = oJ (bSt mv g s r b).1 := by
              rw [hu]; show _ = oJ (if bTk mv g s r b = true then _ else _)
              split <;> rfl
            have e2 : (if bTk mv g s r b = true then J (hrm mv (dpF mv (stB g s r) 0) (mv 3)) else J b.2.1) = J (bSt mv g s r b).2.1 := by
              show _ = J (if bTk mv g s r b = true then _ else _)
              split <;> rfl
            rw [e1, e2]; exact ih3 _ _
          · have hj0 : ¬ jdg mv (stB g s r) 0 = 0 := by rw [J_le (by omega) (by omega)] at e; omega
            have ht : bTk mv g s r b = false := by unfold bTk; rw [decide_eq_false hj0]; rfl
            have e1 : (bSt mv g s r b).1 = b.1 := if_neg (by rw [ht]; decide)
            have e2 : (bSt mv g s r b).2.1 = b.2.1 := if_neg (by rw [ht]; decide)
            rw [e1, e2] at ih3; exact ih3 _ _
        · exfalso; simp (disch := omega) only [J_add, J_mul, J_sub, J_cl, J_lt, J_le, J_eq, vp_J, n1_ne, n1_lt, n1_le, n1_nlt, n1_nle] at e; omega
theorem r_bestU {g : Nat} {a2 : Int32} (hy : y0 = 260) (hv : VG mv) (ho : VOo mv) (hg : g < mv 1) :
    ∀ m s b τ, 1 ≤ s → s + m = mv (308 + 7 * g) + 1 → BOk (96 * (s - 1)) 0 b → RIv τ y0 mv kv img tp n fl → FRf σ τ → sI τ y0 0 = J 0 → RCc τ y0 (cpM mv) (caM mv) (mv 6) → sI τ y0 20 = J 0 → RCl τ y0 b →
    (∀ ρ, RIv ρ y0 mv kv img tp n fl → FRf σ ρ → sI ρ y0 0 = J 0 → Q (.inl (some (.int (if a2 = J 0 then oJ (bU mv g m s b).1 else J (bBar (bU mv g m s b).2.2))))) ρ) → ∀ x6 x7 x8 : Value, WP gT (d + 8) B 242 63 [.ref y0, .int (J g), .int a2, .int (oJ b.1), .int (J b.2.1), .int (J s), x6, x7, x8] [] τ Q := by
  intro m
  have hgs := hv.s
  have hgv := hv.g hg
  induction m with
  | zero =>
    intro s b τ h1 h2 hb h hF ht hc hm hbc hQ x6 x7 x8
    have hQ := hQ τ h hF ht
    have hQ : Q (.inl (some (.int (if a2 = J 0 then oJ b.1 else J (bBar b.2.2))))) τ := hQ
    have hle : ∀ j, b.2.2 j ≤ 1000 := fun j => by have := hb.2.2 j; omega
    have hl0 := hle 0
    refine g_242_63 h.1 ⟨(by simp (disch := omega) only [J_add, J_mul, J_sub, J_cl, vp_J]; omega), fun _ => ⟨fun e => ?_, fun e => ?_⟩, fun e => ?_⟩
    · rw [if_pos e] at hQ; exact hQ
    · rw [if_neg e] at hQ
      unfold bBar at hQ
      refine upto0 (W := fun i => WP gT (d + 8) B 242 231 [.ref y0, .int (J g), .int a2, .int (oJ b.1), .int (J b.2.1), .int (J (cbr b.2.2 i)), .int (J (i + 2)), x7, x8] [] τ Q) 3 (fun i hi ih => ?_) ?_ 0 (by omega)
      · have hcl := cbr_le b.2.2 i
        have l1 := hle (i + 2)
        have l2 := hle (cbr b.2.2 i)
        refine g_242_231 h.1 ⟨fun e => ?_, fun _ => ⟨(by simp (disch := omega) only [J_add, J_mul, J_sub, J_cl, vp_J]; omega), (by simp (disch := omega) only [J_add, J_mul, J_sub, J_cl, vp_J]; omega), fun u hu => ?_⟩⟩
        · exfalso; simp (disch := omega) only [J_add, J_mul, J_sub, J_cl, J_lt, J_le, J_eq, vp_J, n1_ne, n1_lt, n1_le, n1_nlt, n1_nle] at e; omega
        · rw [J_cl (by omega), J_cl (by omega), hbc _ (by omega), hbc _ (by omega)] at hu
          simp (disch := omega) only [J_le] at hu
          have e : u = J (cbr b.2.2 (i + 1)) := by
            rw [hu, show cbr b.2.2 (i + 1) = if b.2.2 (i + 2) ≤ b.2.2 (cbr b.2.2 i) then cbr b.2.2 i else i + 2 from rfl]
            split <;> rfl
          rw [e, J_add]; exact ih
      · refine g_242_231 h.1 ⟨fun _ => ?_, fun e => absurd (by decide) e⟩
        rw [hbc 0 (by omega)]
        simp (disch := omega) only [J_le]
        by_cases c : b.2.2 0 ≤ 0
        · rw [if_pos c] at hQ ⊢; exact hQ
        · rw [if_neg c] at hQ ⊢; exact hQ
    · exfalso; simp (disch := omega) only [J_add, J_mul, J_sub, J_cl, J_lt, J_le, J_eq, vp_J, n1_ne, n1_lt, n1_le, n1_nlt, n1_nle, h.2.1.at] at e; omega
  | succ m ih =>
    intro s b τ h1 h2 hb h hF ht hc hm hbc hQ x6 x7 x8
    refine g_242_63 h.1 ⟨(by simp (disch := omega) only [J_add, J_mul, J_sub, J_cl, vp_J]; omega), fun e => ?_, fun _ => ?_⟩
    · exfalso; simp (disch := omega) only [J_add, J_mul, J_sub, J_cl, J_lt, J_le, J_eq, vp_J, n1_ne, n1_lt, n1_le, n1_nlt, n1_nle, h.2.1.at] at e; omega
    · rw [show J 95 = J 96 + -J 1 from by decide]
      refine r_bestD (C := 96 * s) hy hv ho hg (by omega) (by omega) 96 b τ (by omega) ⟨hb.1, hb.2.1, fun j => by have := hb.2.2 j; omega⟩ h hF ht hc hm hbc (fun χ x y z h4 hF4 ht4 hc4 hm4 hb4 hok => ?_) _ _
      exact ih (s + 1) _ χ (by omega) (by omega) hok h4 hF4 ht4 hc4 hm4 hb4 hQ _ _ _
theorem cc_best (h : CIv σ x0 mv kv img tp n fl) (hB : 16 ≤ B.1 ∧ 1000 ≤ B.2) {a1 a2 : Int32}
    (h0 : ∀ k1, k1 < mv 1 → a1 = J k1 → ∀ τ, CIv τ x0 mv kv img tp n fl → FCl σ τ → Q (.inl (some (.int (if a2 = J 0 then oJ (bFin mv k1).1 else J (bBar (bFin mv k1).2.2))))) τ) (h1 : ¬ (IX a1 (mv 1)) → Q (.inr 0) σ) : WP gT (d + 18) B 122 0 [.ref x0, .int a1, .int a2] [] σ Q := by
  have hx := h.x
  have hv := h.mv_.1
  have ho := h.mv_.2.1
  have hs := hv.s
  have ho1 := ho.s
  refine g_122_0 h.sh hB ⟨fun c1 => ?_, fun c1 => h1 (fun k => c1 (h.gG.mpr k))⟩
  obtain ⟨k1, hk1, rfl⟩ := h.gG.mp c1
  have h0 := h0 k1 hk1 rfl
  have hgv := hv.g hk1
  refine g_85_0 (tr_10 h.sh) (c_fill (a := x0 + 160) (z := 5) (h.sh.1 160 (by decide)).1 (h.sh.1 160 (by decide)).2 (by omega) (fun τ hF hz => ⟨tr_10 (hF.sh h.sh), ?_⟩))
  have h2 := h.fr hF (fun p j k => by unfold SCr; omega)
  have hF3 : Fr (fun p j => p = x0 + 130 ∧ j = 3) τ (setI τ (x0 + 130) 3 (-J 1)) := Fr.rf.setI ⟨rfl, rfl⟩
  refine c_bestU hk1 (mv (308 + 7 * k1)) 1 (none, 0, fun _ => 0) _ (by omega) (by omega) ⟨Nat.zero_le _, fun c hc => (by cases hc), fun j => Nat.le_refl _⟩ (h2.fr hF3 (fun p j k => by unfold SCr; omega)) ((FCl.of hx hF (fun p j k => by omega)).tr (FCl.of hx hF3 (fun p j k => by omega))) ⟨sI_same, fun j hj => ?_⟩ (fun ρ h4 hF4 hb4 hok => ⟨h4.sh, fun e => ?_, fun e => ?_⟩) _ _
  · rw [sI_any (by omega)]; exact hz j hj
  · have := h0 ρ h4 hF4; rw [if_pos e] at this; rw [hb4.1]; exact this
  · have := h0 ρ h4 hF4; rw [if_neg e] at this; exact c_bar (tr_10 h4.sh) hok (by omega) hb4 this
theorem rr_best (hy : y0 = 260) (hv : VG mv) (ho : VOo mv) (h : RIv σ y0 mv kv img tp n fl) {a1 a2 : Int32}
    (h0 : ∀ k1, k1 < mv 1 → a1 = J k1 → ∀ τ, RIv τ y0 mv kv img tp n fl → FRf σ τ → sI τ y0 0 = J 0 → Q (.inl (some (.int (if a2 = J 0 then oJ (bFin mv k1).1 else J (bBar (bFin mv k1).2.2))))) τ) (h1 : ¬ (IX a1 (mv 1)) → ∀ τ v, RIv τ y0 mv kv img tp n fl → FRf σ τ → sI τ y0 0 = J 1 → Q (.inl (some (.int v))) τ) : WP gT (d + 8) B 242 0 [.ref y0, .int a1, .int a2, .retAddr 0, .retAddr 0, .retAddr 0, .retAddr 0, .retAddr 0, .retAddr 0] [] σ Q := by
  have hs := hv.s
  have ho1 := ho.s
  by_cases c : IX a1 (mv 1)
  · obtain ⟨k1, hk1, rfl⟩ := c
    have t1 : ¬ f_164 σ y0 (J k1) = J 0 := fun e => (r164 h.2.1 hv).mp e ⟨k1, hk1, rfl⟩
    have h0 := h0 k1 hk1 rfl
    refine g_242_0 h.1 ?_
    simp only [if_neg t1]
    refine ⟨fun _ => ?_, fun e => absurd ret0 e⟩
    have hgv := hv.g hk1
    refine r_laysCalls h.thr.1 h.thr.2.1 ho hv (fun ρ hG hc => ?_)
    have h3 := h.thr.fr hG (fun p j k _ _ => by unfold P228 at k; unfold SRr; omega)
    refine ⟨h3.1, ?_⟩
    have hF1 : Fr (fun p j => p = y0 ∧ j = 20) ρ (setI ρ y0 20 (J 0)) := Fr.rf.setI ⟨rfl, rfl⟩
    have h4 := h3.fr hF1 (fun p j k _ _ => by unfold SRr; omega)
    refine upto (I := fun i χ => Fr (fun p _ => p = y0 + 14) (setI ρ y0 20 (J 0)) χ ∧ ∀ j, j < i → sI χ (y0 + 14) j = J 0) (W := fun i χ => WP gT (d + 8) B 242 37 [.ref y0, .int (J k1), .int a2, .int (J i), .retAddr 0, .retAddr 0, .retAddr 0, .retAddr 0, .retAddr 0] [] χ Q) 5 ?_ ?_ 0 _ (by omega) ⟨Fr.rf, fun j hj => by omega⟩
    · intro i χ hi hI ih
      refine g_242_37 (hI.1.sh h4.1) ⟨fun e => ?_, fun _ => ⟨(by simp (disch := omega) only [J_add, J_mul, J_sub, J_cl, vp_J]; omega), ?_⟩⟩
      · exfalso; simp (disch := omega) only [J_add, J_mul, J_sub, J_cl, J_lt, J_le, J_eq, vp_J, n1_ne, n1_lt, n1_le, n1_nlt, n1_nle] at e; omega
      · rw [J_add, J_cl (by omega)]
        refine ih _ ⟨hI.1.setI rfl, fun j hj => ?_⟩
        by_cases e : j = i
        · subst e; rw [sI_same]
        · rw [sI_any (by omega)]; exact hI.2 j (by omega)
    · intro χ hI
      have h5 := h4.fr hI.1 (fun p j k _ _ => by unfold SRr; omega)
      refine g_242_37 h5.1 ⟨fun _ => ?_, fun e => absurd (by decide) e⟩
      refine r_bestU hy hv ho hk1 (mv (308 + 7 * k1)) 1 (none, 0, fun _ => 0) χ (by omega) (by omega) ⟨Nat.zero_le _, fun c hc => (by cases hc), fun j => Nat.le_refl _⟩ h5 ((((FRf.th hy).tr (FRf.of hy hG (fun p j k => by unfold P228 at k; omega))).tr (FRf.of hy hF1 (fun p j k => by omega))).tr (FRf.of hy hI.1 (fun p j k => by omega))) ?_ ?_ ?_ (fun j hj => hI.2 j hj) h0 _ _ _
      · rw [hI.1.i (by omega), sI_any (by omega), hG.i (by unfold P228; omega), sI_same]
      · exact (hc.fr hF1 (fun i j hi k => by omega) (by omega)).fr hI.1 (fun i j hi k => by omega) (by omega)
      · rw [hI.1.i (by omega), sI_same]
  · refine g_242_0 h.1 ?_
    have hu1 : (if (f_164 σ y0 a1) = (J 0) then (J 1) else (J 0)) = J 1 := by
      by_cases q1 : f_164 σ y0 a1 = J 0
      · rw [if_pos q1]
      rw [if_neg q1]
      exact absurd (Classical.not_not.mp (fun e => q1 ((r164 h.2.1 hv).mpr e))) c
    rw [hu1]
    exact ⟨fun e => absurd e ret1, fun _ => h1 c _ _ h.thr (FRf.th hy) sI_same⟩
