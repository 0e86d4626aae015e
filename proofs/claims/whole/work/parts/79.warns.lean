/-! ===== trials: a wave that warns ===== -/
variable {d : Nat} {B : Nat × Nat} {Q : Out → Sto → Prop} {P : Nat → Nat → Prop} {σ τ : Sto} {x0 y0 : Nat} {mv kv : Mem} {img : Bool} {tp : Mem} {n : Nat} {fl : Option Nat}
theorem fstB_least {b : Nat → Bool} : ∀ {m a q : Nat}, fstB b a m = some q → ∀ i, a ≤ i → i < q → b i = false := by
  intro m
  induction m with
  | zero => intro a q h; cases h
  | succ m ih =>
    intro a q h i h1 h2
    unfold fstB at h
    split at h
    · cases h; omega
    · by_cases e : i = a
      · subst e; simpa using ‹¬ b i = true›
      · exact ih h i (by omega) h2
def feaS (mv st : Mem) : Nat := fea mv (dpF mv st 0) (cpM mv) (caM mv) (mv 6) (mv 5)
theorem feaS_le (ho : VOo mv) (st : Mem) : feaS mv st ≤ 1000000000 := by
  have := ho.s
  have h : feaS mv st ≤ 100000000 * mv 5 := fea_le ho.c4 _
  omega
abbrev WSt : Type := Option Nat × Nat
/-- quarters r - 1 down to 0, with step s -/
def wvD (mv st : Mem) (g s : Nat) : Nat → WSt → WSt
  | 0, b => b
  | r + 1, b => wvD mv st g s r (if feaS mv (up st (96 * g + r) s) < b.2 then (some (100 * s + r), feaS mv (up st (96 * g + r) s)) else b)
def wvU (mv st : Mem) (g f : Nat) : Nat → Nat → WSt → WSt
  | 0, _, b => b
  | m + 1, s, b => wvU mv st g f m (s + 1) (wvD mv st g s f b)
def wave (mv st : Mem) (g : Nat) : Option Nat := match fstB (fun q => !decide (st (96 * g + q) = 0)) 0 96 with
  | none => none
  | some f => (wvU mv st g f (mv (308 + 7 * g)) 1 (none, feaS mv st)).1
theorem up_le {st : Mem} {j v : Nat} (hs : ∀ k, k < 384 → st k ≤ 6) (hv : v ≤ 6) : ∀ k, k < 384 → up st j v k ≤ 6 := fun k hk => by
  unfold up; split
  · exact hv
  · exact hs k hk
theorem c_fearT {st : Mem} (h : CIv σ x0 mv kv img tp n fl) (hf : CFf σ (x0 + 131) mv st 0 96) (hQ : ∀ τ, CIv τ x0 mv kv img tp n fl → Fr (fun p _ => x0 + 154 ≤ p ∧ p ≤ x0 + 158) σ τ → Q (.inl (some (.long (N64 (feaS mv st))))) τ) : WP gT (d + 4) B 89 0 [.ref (x0 + 130), .ref (x0 + 24)] [] σ Q := by
  have hx := h.x
  refine g_89_0 (tr_10 h.sh) (sub_11_24_2 h.sh) ?_
  refine c_look (f := x0 + 131) (g := x0 + 25) (pl := x0 + 48) (D := x0 + 153) (sub_11_153_1 h.sh) (sub_11_131_3 h.sh) (sub_11_25_4 h.sh) (sub_11_48_6 h.sh) (by omega) (by omega) (by omega) h.mv_.1 h.mv_.2.1 h.G h.Pp (CDd.of h.mv_.1 (by omega) hf) (fun τ hF hR => ?_)
  have h2 := h.fr hF (fun p j k => by unfold P10 at k; unfold SCr; omega)
  exact ⟨tr_10 h2.sh, sub_11_24_2 h2.sh, c_fearNow (sub_11_153_1 h2.sh) (sub_11_48_6 h2.sh) h2.Pp h2.mv_.2.1 hR (hQ τ h2 (hF.mono (fun p j k => by unfold P10 at k; omega)))⟩
theorem ite_lg {a b : Nat} {α : Type} {x y : α} (ha : a ≤ 1000000000) (hb : b ≤ 1000000000) : (if J 0 ≤ lg_cmp (N64 a) (N64 b) then x else y) = if a < b then y else x := by
  simp (disch := omega) only [N64_cmpge]
  by_cases c : a < b
  · rw [if_pos c, if_neg (by omega)]
  · rw [if_neg c, if_pos (by omega)]
theorem ite_lg' {a b : Nat} {α : Type} {x y : α} (ha : a ≤ 1000000000) (hb : b ≤ 1000000000) : (if lg_cmp (N64 a) (N64 b) < J 0 then x else y) = if a < b then x else y := by
  simp (disch := omega) only [N64_cmplt]
/-- a state of the search that may be: what it found is none or small -/
def WOk (b : WSt) : Prop := b.2 ≤ 1000000000
theorem c_waveD {st : Mem} {g s f : Nat} {x3v : Value} (ho : VOo mv) (hg : g < mv 1) (hs6 : ∀ k, k < 384 → st k ≤ 6) (hs : s ≤ 6) (hf : f < 96) (hz : ∀ q, q < f → st (96 * g + q) = 0) :
    ∀ r b τ, r ≤ f → WOk b → CIv τ x0 mv kv img tp n fl → FCl σ τ → (∀ k, k < 384 → sI τ (x0 + 159) k = J (st k)) → CFf τ (x0 + 131) mv st 0 r →
    (∀ ρ y z, CIv ρ x0 mv kv img tp n fl → FCl σ ρ → (∀ k, k < 384 → sI ρ (x0 + 159) k = J (st k)) → WOk (wvD mv st g s r b) → WP gT (d + 6) B 87 45 [.ref (x0 + 130), .ref (x0 + 24), x3v, .int (J g), .int (J f), .long (N64 (wvD mv st g s r b).2), .retAddr 0, .int (oJ (wvD mv st g s r b).1), .int (J (s + 1)), y, z, .retAddr 0] [] ρ Q) →
    (∃ p, x3v = .ref p) → ∀ x10 : Value, WP gT (d + 6) B 87 82 [.ref (x0 + 130), .ref (x0 + 24), x3v, .int (J g), .int (J f), .long (N64 b.2), .retAddr 0, .int (oJ b.1), .int (J s), .int (J r + -J 1), x10, .retAddr 0] [] τ Q := by
  intro r
  induction r with
  | zero =>
    intro b τ hr hb h hF hst hcf hk hp x10
    obtain ⟨p, rfl⟩ := hp
    rw [J01']
    refine g_87_82 (tr_10 h.sh) (sub_11_24_2 h.sh) ⟨fun _ => ?_, fun e => absurd (by decide) e⟩
    rw [J_add]; exact hk τ _ _ h hF hst hb
  | succ r ih =>
    intro b τ hr hb h hF hst hcf hk hp x10
    obtain ⟨p, rfl⟩ := hp
    have hx := h.x
    have hv := h.mv_.1
    have hgs := hv.s
    rw [Jn1]
    refine g_87_82 (tr_10 h.sh) (sub_11_24_2 h.sh) ⟨fun e => ?_, fun _ => ⟨(by simp (disch := omega) only [J_add, J_mul, J_sub, J_cl, vp_J]; omega), ?_⟩⟩
    · exfalso; simp (disch := omega) only [J_add, J_mul, J_sub, J_cl, J_lt, J_le, J_eq, vp_J, n1_ne, n1_lt, n1_le, n1_nlt, n1_nle] at e; omega
    · simp (disch := omega) only [J_mul, J_add, J_cl]
      have hF1 : Fr (fun p _ => p = x0 + 159) τ (setI τ (x0 + 159) (g * 96 + r) (J s)) := Fr.rf.setI rfl
      have h1 := h.fr hF1 (fun p j k => by unfold SCr; omega)
      have hst1 : ∀ k, k < 384 → sI (setI τ (x0 + 159) (g * 96 + r) (J s)) (x0 + 159) k = J (up st (96 * g + r) s k) := fun k hk => by
        unfold up
        by_cases e : k = 96 * g + r
        · rw [if_pos e, show k = g * 96 + r by omega, sI_same]
        · rw [if_neg e, sI_any (by omega)]; exact hst k hk
      have hcf1 : CFf (setI τ (x0 + 159) (g * 96 + r) (J s)) (x0 + 131) mv (up st (96 * g + r) s) 0 r := by
        refine ((hcf.less (by omega)).fr hv hF1 (fun i j a b k => by omega)).cong (fun g2 q hg2 hq => ?_)
        unfold up; rw [if_neg (by omega)]
      refine c_runT h1 (tr_st h1.sh).1 (tr_st h1.sh).2 (by omega) hst1 (up_le hs6 hs) (by omega) (by omega) hcf1 (fun ρ h2 hF2 hf2 => ?_)
      have hF3 : Fr (fun p _ => p = x0 + 159) ρ (setI ρ (x0 + 159) (g * 96 + r) (J 0)) := Fr.rf.setI rfl
      have h3 := h2.fr hF3 (fun p j k => by unfold SCr; omega)
      have hf3 := hf2.fr hv hF3 (fun i j a b k => by omega)
      have hst3 : ∀ k, k < 384 → sI (setI ρ (x0 + 159) (g * 96 + r) (J 0)) (x0 + 159) k = J (st k) := fun k hk => by
        by_cases e : k = g * 96 + r
        · rw [e, sI_same, show g * 96 + r = 96 * g + r by omega, hz r (by omega)]
        · rw [sI_any (by omega), hF2.i (by omega), hst1 k hk]; unfold up; rw [if_neg (by omega)]
      refine ⟨tr_10 h2.sh, (by simp (disch := omega) only [J_add, J_mul, J_sub, J_cl, vp_J]; omega), c_fearT h3 hf3 (fun χ h4 hF4 => ?_)⟩
      dsimp only [oL]
      have hfl := feaS_le ho (up st (96 * g + r) s)
      rw [ite_lg hfl hb, ite_lg hfl hb]
      have hFF : FCl σ χ := (((hF.tr (FCl.of hx hF1 (fun p j k => by omega))).tr (FCl.of hx hF2 (fun p j k => by omega))).tr (FCl.of hx hF3 (fun p j k => by omega))).tr (FCl.of hx hF4 (fun p j k => by omega))
      have hcf4 : CFf χ (x0 + 131) mv st 0 r := by
        refine ((hf3.less (by omega)).fr hv hF4 (fun i j a b k => by omega)).cong (fun g2 q hg2 hq => ?_)
        unfold up; rw [if_neg (by omega)]
      have hst4 : ∀ k, k < 384 → sI χ (x0 + 159) k = J (st k) := fun k hk => (hF4.i (by omega)).trans (hst3 k hk)
      have hk : ∀ ρ y z, CIv ρ x0 mv kv img tp n fl → FCl σ ρ → (∀ k, k < 384 → sI ρ (x0 + 159) k = J (st k)) → WOk (wvD mv st g s r (if feaS mv (up st (96 * g + r) s) < b.2 then (some (100 * s + r), feaS mv (up st (96 * g + r) s)) else b)) → WP gT (d + 6) B 87 45 [.ref (x0 + 130), .ref (x0 + 24), .ref p, .int (J g), .int (J f), .long (N64 (wvD mv st g s r (if feaS mv (up st (96 * g + r) s) < b.2 then (some (100 * s + r), feaS mv (up st (96 * g + r) s)) else b)).2), .retAddr 0, .int (oJ (wvD mv st g s r (if feaS mv (up st (96 * g + r) s) < b.2 then (some (100 * s + r), feaS mv (up st (96 * g + r) s)) else b)).1), .int (J (s + 1)), y, z, .retAddr 0] [] ρ Q := hk
      by_cases c : feaS mv (up st (96 * g + r) s) < b.2
      · simp only [if_pos c] at hk ⊢
        exact ih (some (100 * s + r), feaS mv (up st (96 * g + r) s)) χ (by omega) hfl h4 hFF hst4 hcf4 hk ⟨p, rfl⟩ _
      · simp only [if_neg c] at hk ⊢
        exact ih b χ (by omega) hb h4 hFF hst4 hcf4 hk ⟨p, rfl⟩ _
theorem c_waveU {st : Mem} {g f p : Nat} (ho : VOo mv) (hg : g < mv 1) (hs6 : ∀ k, k < 384 → st k ≤ 6) (hf : f < 96) (hz : ∀ q, q < f → st (96 * g + q) = 0) :
    ∀ m s b τ, 1 ≤ s → s + m = mv (308 + 7 * g) + 1 → WOk b → CIv τ x0 mv kv img tp n fl → FCl σ τ → (∀ k, k < 384 → sI τ (x0 + 159) k = J (st k)) →
    (∀ ρ, CIv ρ x0 mv kv img tp n fl → FCl σ ρ → Q (.inl (some (.int (oJ (wvU mv st g f m s b).1)))) ρ) → ∀ x9 x10 : Value, WP gT (d + 6) B 87 45 [.ref (x0 + 130), .ref (x0 + 24), .ref p, .int (J g), .int (J f), .long (N64 b.2), .retAddr 0, .int (oJ b.1), .int (J s), x9, x10, .retAddr 0] [] τ Q := by
  intro m
  induction m with
  | zero =>
    intro s b τ h1 h2 hb h hF hst hQ x9 x10
    have hgv := h.mv_.1.g hg
    have hgs := h.mv_.1.s
    have hgg := h.G.g hg
    refine g_87_45 (sub_11_24_2 h.sh) (tr_10 h.sh) ⟨(by simp (disch := omega) only [J_add, J_mul, J_sub, J_cl, vp_J]; omega), fun _ => hQ τ h hF, fun e => ?_⟩
    exfalso; rw [J_cl (by omega), show x0 + 24 + 6 = x0 + 25 + 5 by omega, hgg.1, J_lt (by omega) (by omega)] at e; omega
  | succ m ih =>
    intro s b τ h1 h2 hb h hF hst hQ x9 x10
    have hv := h.mv_.1
    have hx := h.x
    have hgv := hv.g hg
    have hgs := hv.s
    have hgg := h.G.g hg
    refine g_87_45 (sub_11_24_2 h.sh) (tr_10 h.sh) ⟨(by simp (disch := omega) only [J_add, J_mul, J_sub, J_cl, vp_J]; omega), fun e => ?_, fun _ => ?_⟩
    · exfalso; rw [J_cl (by omega), show x0 + 24 + 6 = x0 + 25 + 5 by omega, hgg.1, J_lt (by omega) (by omega)] at e; omega
    · refine c_runT h (tr_st h.sh).1 (tr_st h.sh).2 (by omega) hst hs6 (by omega) (by omega) (fun q hq => by omega) (fun ρ h3 hF3 hf3 => ?_)
      dsimp only [oV]
      rw [Int32.sub_eq_add_neg]
      refine c_waveD (s := s) ho hg hs6 (by omega) hf hz f b ρ (Nat.le_refl _) hb h3 (hF.tr (FCl.of hx hF3 (fun p j k => by omega))) (fun k hk => (hF3.i (by omega)).trans (hst k hk)) (hf3.less (by omega)) (fun χ y z h4 hF4 hst4 hok => ?_) ⟨p, rfl⟩ _
      exact ih (s + 1) _ χ (by omega) (by omega) hok h4 hF4 hst4 hQ _ _
theorem r_waveD {st : Mem} {g s f o : Nat} (hy : y0 = 260) (hv : VG mv) (ho : VOo mv) (hg : g < mv 1) (hs6 : ∀ k, k < 384 → st k ≤ 6) (hs : s ≤ 6) (hf : f < 96) (hz : ∀ q, q < f → st (96 * g + q) = 0) :
    ∀ r b τ, r ≤ f → WOk b → RIv τ y0 mv kv img tp n fl → FRf σ τ → sI τ y0 0 = J 0 → RCc τ y0 (cpM mv) (caM mv) (mv 6) → sI τ y0 20 = J 0 → (∀ k, k < 384 → sI τ (y0 + 5) k = J (st k)) →
    (∀ ρ y z, RIv ρ y0 mv kv img tp n fl → FRf σ ρ → sI ρ y0 0 = J 0 → RCc ρ y0 (cpM mv) (caM mv) (mv 6) → sI ρ y0 20 = J 0 → (∀ k, k < 384 → sI ρ (y0 + 5) k = J (st k)) → WOk (wvD mv st g s r b) → WP gT (d + 7) B 247 91 [.ref y0, .int (J o), .int (J g), .int (J f), .long (N64 (wvD mv st g s r b).2), .retAddr 0, .int (oJ (wvD mv st g s r b).1), .int (J (s + 1)), y, z, .retAddr 0] [] ρ Q) →
    ∀ x9 : Value, WP gT (d + 7) B 247 114 [.ref y0, .int (J o), .int (J g), .int (J f), .long (N64 b.2), .retAddr 0, .int (oJ b.1), .int (J s), .int (J r + -J 1), x9, .retAddr 0] [] τ Q := by
  intro r
  have hgs := hv.s
  induction r with
  | zero =>
    intro b τ hr hb h hF ht hc hm hst hk x9
    rw [J01']
    refine g_247_114 h.1 ⟨fun _ => ?_, fun e => absurd (by decide) e⟩
    rw [J_add]; exact hk τ _ _ h hF ht hc hm hst hb
  | succ r ih =>
    intro b τ hr hb h hF ht hc hm hst hk x9
    rw [Jn1]
    refine g_247_114 h.1 ⟨fun e => ?_, fun _ => ⟨(by simp (disch := omega) only [J_add, J_mul, J_sub, J_cl, vp_J]; omega), ?_⟩⟩
    · exfalso; simp (disch := omega) only [J_add, J_mul, J_sub, J_cl, J_lt, J_le, J_eq, vp_J, n1_ne, n1_lt, n1_le, n1_nlt, n1_nle] at e; omega
    · simp (disch := omega) only [J_mul, J_add, J_cl]
      have hF1 : Fr (fun p _ => p = y0 + 5) τ (setI τ (y0 + 5) (96 * g + r) (J s)) := Fr.rf.setI rfl
      have h1 := h.fr hF1 (fun p j k _ _ => by unfold SRr; omega)
      have hst1 : ∀ k, k < 384 → sI (setI τ (y0 + 5) (96 * g + r) (J s)) (y0 + 5) k = J (up st (96 * g + r) s k) := fun k hk => by
        unfold up
        by_cases e : k = 96 * g + r
        · rw [if_pos e, e, sI_same]
        · rw [if_neg e, sI_any (by omega)]; exact hst k hk
      refine r_runs (st := up st (96 * g + r) s) (more := 0) h1.1 hv h1.2.1 hst1 (up_le hs6 hs) ((hF1.i (by omega)).trans hm) (fun ρ hF2 hf2 => ?_)
      have h2 := h1.fr hF2 (fun p j k _ _ => by unfold P200 at k; unfold SRr; omega)
      have hc2 := (hc.fr hF1 (fun i j hi k => by omega) (by omega)).fr hF2 (fun i j hi k => by unfold P200 at k; omega) (by unfold P200; omega)
      refine ⟨h2.1, r_fearNow h2.1 (RDd.of h2.2.1 hf2) hv ho hc2 ⟨h2.1, (by simp (disch := omega) only [J_add, J_mul, J_sub, J_cl, vp_J]; omega), ?_⟩⟩
      have hF3 : Fr (fun p _ => p = y0 + 5) ρ (setI ρ (y0 + 5) (96 * g + r) (J 0)) := Fr.rf.setI rfl
      have h3 := h2.fr hF3 (fun p j k _ _ => by unfold SRr; omega)
      have hst3 : ∀ k, k < 384 → sI (setI ρ (y0 + 5) (96 * g + r) (J 0)) (y0 + 5) k = J (st k) := fun k hk => by
        by_cases e : k = 96 * g + r
        · rw [e, sI_same, hz r (by omega)]
        · rw [sI_any (by omega), hF2.i (by unfold P200; omega), hst1 k hk]; unfold up; rw [if_neg e]
      have hfl : feaS mv (up st (96 * g + r) s) ≤ 1000000000 := feaS_le ho _
      rw [show fea mv (dpF mv (up st (96 * g + r) s) 0) (cpM mv) (caM mv) (mv 6) (mv 5) = feaS mv (up st (96 * g + r) s) from rfl, ite_lg' hfl hb, ite_lg' hfl hb]
      have hFF : FRf σ (setI ρ (y0 + 5) (96 * g + r) (J 0)) := ((hF.tr (FRf.of hy hF1 (fun p j k => by omega))).tr (FRf.of hy hF2 (fun p j k => by unfold P200 at k; omega))).tr (FRf.of hy hF3 (fun p j k => by omega))
      have ht3 : sI (setI ρ (y0 + 5) (96 * g + r) (J 0)) y0 0 = J 0 := (hF3.i (by omega)).trans ((hF2.i (by unfold P200; omega)).trans ((hF1.i (by omega)).trans ht))
      have hm3 : sI (setI ρ (y0 + 5) (96 * g + r) (J 0)) y0 20 = J 0 := (hF3.i (by omega)).trans ((hF2.i (by unfold P200; omega)).trans ((hF1.i (by omega)).trans hm))
      have hc3 := hc2.fr hF3 (fun i j hi k => by omega) (by omega)
      have hk : ∀ ρ y z, RIv ρ y0 mv kv img tp n fl → FRf σ ρ → sI ρ y0 0 = J 0 → RCc ρ y0 (cpM mv) (caM mv) (mv 6) → sI ρ y0 20 = J 0 → (∀ k, k < 384 → sI ρ (y0 + 5) k = J (st k)) → WOk (wvD mv st g s r (if feaS mv (up st (96 * g + r) s) < b.2 then (some (100 * s + r), feaS mv (up st (96 * g + r) s)) else b)) → WP gT (d + 7) B 247 91 [.ref y0, .int (J o), .int (J g), .int (J f), .long (N64 (wvD mv st g s r (if feaS mv (up st (96 * g + r) s) < b.2 then (some (100 * s + r), feaS mv (up st (96 * g + r) s)) else b)).2), .retAddr 0, .int (oJ (wvD mv st g s r (if feaS mv (up st (96 * g + r) s) < b.2 then (some (100 * s + r), feaS mv (up st (96 * g + r) s)) else b)).1), .int (J (s + 1)), y, z, .retAddr 0] [] ρ Q := hk
      by_cases c : feaS mv (up st (96 * g + r) s) < b.2
      · simp only [if_pos c] at hk ⊢
        exact ih (some (100 * s + r), feaS mv (up st (96 * g + r) s)) _ (by omega) hfl h3 hFF ht3 hc3 hm3 hst3 hk _
      · simp only [if_neg c] at hk ⊢
        exact ih b _ (by omega) hb h3 hFF ht3 hc3 hm3 hst3 hk _
theorem r_waveU {st : Mem} {g f o : Nat} (hy : y0 = 260) (hv : VG mv) (ho : VOo mv) (hg : g < mv 1) (hs6 : ∀ k, k < 384 → st k ≤ 6) (hf : f < 96) (hz : ∀ q, q < f → st (96 * g + q) = 0) :
    ∀ m s b τ, 1 ≤ s → s + m = mv (308 + 7 * g) + 1 → WOk b → RIv τ y0 mv kv img tp n fl → FRf σ τ → sI τ y0 0 = J 0 → RCc τ y0 (cpM mv) (caM mv) (mv 6) → sI τ y0 20 = J 0 → (∀ k, k < 384 → sI τ (y0 + 5) k = J (st k)) →
    (∀ ρ, RIv ρ y0 mv kv img tp n fl → FRf σ ρ → sI ρ y0 0 = J 0 → Q (.inl (some (.int (oJ (wvU mv st g f m s b).1)))) ρ) → ∀ x8 x9 : Value, WP gT (d + 7) B 247 91 [.ref y0, .int (J o), .int (J g), .int (J f), .long (N64 b.2), .retAddr 0, .int (oJ b.1), .int (J s), x8, x9, .retAddr 0] [] τ Q := by
  intro m
  have hgs := hv.s
  have hgv := hv.g hg
  induction m with
  | zero =>
    intro s b τ h1 h2 hb h hF ht hc hm hst hQ x8 x9
    refine g_247_91 h.1 ⟨(by simp (disch := omega) only [J_add, J_mul, J_sub, J_cl, vp_J]; omega), fun _ => hQ τ h hF ht, fun e => ?_⟩
    exfalso; simp (disch := omega) only [J_add, J_mul, J_sub, J_cl, J_lt, J_le, J_eq, vp_J, n1_ne, n1_lt, n1_le, n1_nlt, n1_nle, h.2.1.at] at e; omega
  | succ m ih =>
    intro s b τ h1 h2 hb h hF ht hc hm hst hQ x8 x9
    refine g_247_91 h.1 ⟨(by simp (disch := omega) only [J_add, J_mul, J_sub, J_cl, vp_J]; omega), fun e => ?_, fun _ => ?_⟩
    · exfalso; simp (disch := omega) only [J_add, J_mul, J_sub, J_cl, J_lt, J_le, J_eq, vp_J, n1_ne, n1_lt, n1_le, n1_nlt, n1_nle, h.2.1.at] at e; omega
    · rw [Int32.sub_eq_add_neg]
      refine r_waveD (s := s) hy hv ho hg hs6 (by omega) hf hz f b τ (Nat.le_refl _) hb h hF ht hc hm hst (fun χ y z h4 hF4 ht4 hc4 hm4 hst4 hok => ?_) _
      exact ih (s + 1) _ χ (by omega) (by omega) hok h4 hF4 ht4 hc4 hm4 hst4 hQ _ _
theorem cc_warns (h : CIv σ x0 mv kv img tp n fl) (hB : 16 ≤ B.1 ∧ 1000 ≤ B.2) {a1 a2 : Int32}
    (h0 : ∀ k1 k2, k1 < mv 4 → k2 < mv 1 → a1 = J k1 → a2 = J k2 → ∀ τ, CIv τ x0 mv kv img tp n fl → FCl σ τ → Q (.inl (some (.int (oJ (wave mv (stO mv k1) k2))))) τ) (h1 : ¬ (IX a1 (mv 4) ∧ IX a2 (mv 1)) → Q (.inr 0) σ) : WP gT (d + 18) B 125 0 [.ref x0, .int a1, .int a2] [] σ Q := by
  have hx := h.x
  have hv := h.mv_.1
  have ho := h.mv_.2.1
  have hs := hv.s
  have ho1 := ho.s
  refine g_125_0 h.sh hB ⟨fun c1 => ⟨fun c2 => ?_, fun c2 => h1 (fun k => c2 (h.gG.mpr k.2))⟩, fun c1 => h1 (fun k => c1 (h.gO.mpr k.1))⟩
  obtain ⟨k1, hk1, rfl⟩ := h.gO.mp c1
  obtain ⟨k2, hk2, rfl⟩ := h.gG.mp c2
  have h0 := h0 k1 k2 hk1 hk2 rfl rfl
  have hgv := hv.g hk2
  have hgg := h.G.g hk2
  have hs6 : ∀ k, k < 384 → stO mv k1 k ≤ 6 := fun k hk => ho.o hk1 hk
  refine ⟨(by simp (disch := omega) only [J_add, J_mul, J_sub, J_cl, vp_J]; omega), ?_⟩
  rw [J_cl (by omega)]
  refine g_87_0 (tr_10 h.sh) (c_tell h hk1 (fun τ h2 hF hS hst => ⟨tr_10 hS, ?_⟩))
  unfold wave at h0
  -- what comes behind the search for the first open quarter
  have main : ∀ o, fstB (fun q => !decide (stO mv k1 (96 * k2 + q) = 0)) 0 96 = o → S_10 τ (x0 + 130) ∧ S_2 τ (x0 + 24) ∧ WP gT (d + 16) (0, 0) 25 0 [.ref (x0 + 130 + 1), .ref (x0 + 24 + 1), .ref (x0 + 130 + 29), .int (J 0), .int (J 0), .retAddr 0] [] τ (oV (fun τ6 => (S_10 τ6 (x0 + 130) ∧ WP gT (d + 16) (0, 0) 89 0 [.ref (x0 + 130), .ref (x0 + 24)] [] τ6 (oL (fun v7 τ8 => WP gT (d + 17) (0, 0) 87 45 [.ref (x0 + 130), .ref (x0 + 24), .ref (x0 + 42 + k1), .int (J k2), .int (oJ o), .long v7, .retAddr 0, .int (-J 1), .int (J 1), .retAddr 0, .retAddr 0, .retAddr 0] [] τ8 (oI (fun v4 τ5 => Q (.inl (some (.int v4))) τ5) (fun _ _ => False))) (fun _ _ => False)))) (fun _ _ => False)) := by
    intro o ho2
    rw [ho2] at h0
    refine ⟨tr_10 hS, sub_11_24_2 hS, c_runT h2 (tr_st h2.sh).1 (tr_st h2.sh).2 (by omega) hst hs6 (by omega) (by omega) (fun q hq => by omega) (fun ρ h3 hF3 hf3 => ⟨tr_10 h3.sh, c_fearT h3 hf3 (fun χ h4 hF4 => ?_)⟩)⟩
    dsimp only [oL]
    have hFF : FCl σ χ := (hF.tr (FCl.of hx hF3 (fun p j k => by omega))).tr (FCl.of hx hF4 (fun p j k => by omega))
    have hst4 : ∀ k, k < 384 → sI χ (x0 + 159) k = J (stO mv k1 k) := fun k hk => (hF4.i (by omega)).trans ((hF3.i (by omega)).trans (hst k hk))
    cases o with
    | some f =>
      have hfs := fstB_some ho2
      have hz : ∀ q, q < f → stO mv k1 (96 * k2 + q) = 0 := fun q hq => by
        have := fstB_least ho2 q (Nat.zero_le _) hq
        simpa using this
      exact c_waveU (Q := oI (fun v4 τ5 => Q (.inl (some (.int v4))) τ5) (fun _ _ => False)) ho hk2 hs6 (by omega) hz (mv (308 + 7 * k2)) 1 (none, feaS mv (stO mv k1)) χ (by omega) (by omega) (feaS_le ho _) h4 hFF hst4 h0 _ _
    | none =>
      have N : ∀ m s ρ, 1 ≤ s → s + m = mv (308 + 7 * k2) + 1 → CIv ρ x0 mv kv img tp n fl → FCl σ ρ → (∀ k, k < 384 → sI ρ (x0 + 159) k = J (stO mv k1 k)) → ∀ (v : Int64) (x9 x10 : Value), WP gT (d + 17) (0, 0) 87 45 [.ref (x0 + 130), .ref (x0 + 24), .ref (x0 + 42 + k1), .int (J k2), .int (-J 1), .long v, .retAddr 0, .int (-J 1), .int (J s), x9, x10, .retAddr 0] [] ρ (oI (fun v4 τ5 => Q (.inl (some (.int v4))) τ5) (fun _ _ => False)) := by
        intro m
        induction m with
        | zero =>
          intro s ρ a1 a2 h5 hF5 hst5 v x9 x10
          have hgg := h5.G.g hk2
          refine g_87_45 (sub_11_24_2 h5.sh) (tr_10 h5.sh) ⟨(by simp (disch := omega) only [J_add, J_mul, J_sub, J_cl, vp_J]; omega), fun _ => h0 ρ h5 hF5, fun e => ?_⟩
          exfalso; rw [J_cl (by omega), show x0 + 24 + 6 = x0 + 25 + 5 by omega, hgg.1, J_lt (by omega) (by omega)] at e; omega
        | succ m ih =>
          intro s ρ a1 a2 h5 hF5 hst5 v x9 x10
          have hgg := h5.G.g hk2
          refine g_87_45 (sub_11_24_2 h5.sh) (tr_10 h5.sh) ⟨(by simp (disch := omega) only [J_add, J_mul, J_sub, J_cl, vp_J]; omega), fun e => ?_, fun _ => ?_⟩
          · exfalso; rw [J_cl (by omega), show x0 + 24 + 6 = x0 + 25 + 5 by omega, hgg.1, J_lt (by omega) (by omega)] at e; omega
          · refine c_runT h5 (tr_st h5.sh).1 (tr_st h5.sh).2 (by omega) hst5 hs6 (by omega) (by omega) (fun q hq => by omega) (fun φ h6 hF6 hf6 => ?_)
            dsimp only [oV]
            refine g_87_82 (tr_10 h6.sh) (sub_11_24_2 h6.sh) ⟨fun _ => ?_, fun e => absurd (by decide) e⟩
            rw [J_add]
            exact ih (s + 1) φ (by omega) (by omega) h6 (hF5.tr (FCl.of hx hF6 (fun p j k => by omega))) (fun k hk => (hF6.i (by omega)).trans (hst5 k hk)) _ _ _
      exact N (mv (308 + 7 * k2)) 1 χ (by omega) (by omega) h4 hFF hst4 _ _ _
  refine g_88_0 (fst_loop (W := fun q => WP gT (d + 16) (0, 0) 88 2 [.ref (x0 + 130), .int (J k2), .int (J q)] [] τ (oI (fun v3 τ4 => (S_10 τ4 (x0 + 130) ∧ (S_2 τ4 (x0 + 24) ∧ WP gT (d + 16) (0, 0) 25 0 [.ref (x0 + 130 + 1), .ref (x0 + 24 + 1), .ref (x0 + 130 + 29), .int (J 0), .int (J 0), .retAddr 0] [] τ4 (oV (fun τ6 => (S_10 τ6 (x0 + 130) ∧ WP gT (d + 16) (0, 0) 89 0 [.ref (x0 + 130), .ref (x0 + 24)] [] τ6 (oL (fun v7 τ8 => WP gT (d + 17) (0, 0) 87 45 [.ref (x0 + 130), .ref (x0 + 24), .ref (x0 + 42 + k1), .int (J k2), .int v3, .long v7, .retAddr 0, .int (-J 1), .int (J 1), .retAddr 0, .retAddr 0, .retAddr 0] [] τ8 (oI (fun v4 τ5 => Q (.inl (some (.int v4))) τ5) (fun _ _ => False))) (fun _ _ => False)))) (fun _ _ => False))))) (fun _ _ => False))) (R := fun o => fstB (fun q => !decide (stO mv k1 (96 * k2 + q) = 0)) 0 96 = o) (b := fun q => !decide (stO mv k1 (96 * k2 + q) = 0)) 96 0 (fun q hq1 hq2 hf hn => ?_) (fun hR => ?_) rfl)
  · have e1 : sI τ (x0 + 130 + 29) (k2 * 96 + q) = J (stO mv k1 (96 * k2 + q)) := by rw [show k2 * 96 + q = 96 * k2 + q by omega]; exact hst _ (by omega)
    have hb := hs6 (96 * k2 + q) (by omega)
    refine g_88_2 (tr_10 hS) ⟨fun e => ?_, fun _ => ⟨(by simp (disch := omega) only [J_add, J_mul, J_sub, J_cl, vp_J]; omega), ?_⟩⟩
    · exfalso; simp (disch := omega) only [J_add, J_mul, J_sub, J_cl, J_lt, J_le, J_eq, vp_J, n1_ne, n1_lt, n1_le, n1_nlt, n1_nle] at e; omega
    · simp (disch := omega) only [J_mul, J_add, J_cl, e1, J_le]
      refine ⟨fun e => hn (by simp; omega), fun e => ?_⟩
      exact main _ (hf (by simp; omega))
  · refine g_88_2 (tr_10 hS) ⟨fun _ => main _ hR, fun e => ?_⟩
    exfalso; simp (disch := omega) only [J_add, J_mul, J_sub, J_cl, J_lt, J_le, J_eq, vp_J, n1_ne, n1_lt, n1_le, n1_nlt, n1_nle] at e; omega
theorem rr_warns (hy : y0 = 260) (hv : VG mv) (ho : VOo mv) (h : RIv σ y0 mv kv img tp n fl) {a1 a2 : Int32}
    (h0 : ∀ k1 k2, k1 < mv 4 → k2 < mv 1 → a1 = J k1 → a2 = J k2 → ∀ τ, RIv τ y0 mv kv img tp n fl → FRf σ τ → sI τ y0 0 = J 0 → Q (.inl (some (.int (oJ (wave mv (stO mv k1) k2))))) τ) (h1 : ¬ (IX a1 (mv 4) ∧ IX a2 (mv 1)) → ∀ τ v, RIv τ y0 mv kv img tp n fl → FRf σ τ → sI τ y0 0 = J 1 → Q (.inl (some (.int v))) τ) : WP gT (d + 7) B 247 0 [.ref y0, .int a1, .int a2, .retAddr 0, .retAddr 0, .retAddr 0, .retAddr 0, .retAddr 0, .retAddr 0, .retAddr 0, .retAddr 0] [] σ Q := by
  have hs := hv.s
  have ho1 := ho.s
  by_cases c : IX a1 (mv 4) ∧ IX a2 (mv 1)
  · obtain ⟨⟨k1, hk1, rfl⟩, ⟨k2, hk2, rfl⟩⟩ := c
    have t1 : ¬ f_167 σ y0 (J k1) = J 0 := fun e => (r167 h.2.1 ho).mp e ⟨k1, hk1, rfl⟩
    have t2 : ¬ f_164 σ y0 (J k2) = J 0 := fun e => (r164 h.2.1 hv).mp e ⟨k2, hk2, rfl⟩
    have h0 := h0 k1 k2 hk1 hk2 rfl rfl
    refine g_247_0 h.1 (fun u hu => ?_)
    rw [if_neg t1, if_neg t2] at hu
    subst hu
    refine ⟨fun _ => ?_, fun e => absurd ret0 e⟩
    refine r_run hy hv ho h.thr hk1 (fun τ h2 hF ht hD hf hn hm => ?_)
    dsimp only [oV]
    refine ⟨h2.1, r_laysCalls h2.1 h2.2.1 ho hv (fun ρ hG hc => ?_)⟩
    have h3 := h2.fr hG (fun p j k _ _ => by unfold P228 at k; unfold SRr; omega)
    have hD3 := hD.fr hG (fun i j hi k => by unfold P228 at k; omega)
    have hFF : FRf σ ρ := ((FRf.th hy).tr hF).tr (FRf.of hy hG (fun p j k => by unfold P228 at k; omega))
    have ht3 : sI ρ y0 0 = J 0 := (hG.i (by unfold P228; omega)).trans (ht.trans sI_same)
    have hgv := hv.g hk2
    have hs6 : ∀ k, k < 384 → stO mv k1 k ≤ 6 := fun k hk => ho.o hk1 hk
    have hst : ∀ k, k < 384 → sI ρ (y0 + 5) k = J (stO mv k1 k) := fun k hk => (hG.i (by unfold P228; omega)).trans (hn k hk)
    have hm3 : sI ρ y0 20 = J 0 := (hG.i (by unfold P228; omega)).trans hm
    unfold wave at h0
    refine fst_loop (W := fun q => WP gT (d + 7) B 247 45 [.ref y0, .int (J k1), .int (J k2), .int (J q), .retAddr 0, .retAddr 0, .retAddr 0, .retAddr 0, .retAddr 0, .retAddr 0, .retAddr 0] [] ρ Q) (R := fun o => fstB (fun q => !decide (stO mv k1 (96 * k2 + q) = 0)) 0 96 = o) (b := fun q => !decide (stO mv k1 (96 * k2 + q) = 0)) 96 0 (fun q hq1 hq2 hf hn => ?_) (fun hR => ?_) rfl
    · have hb := hs6 (96 * k2 + q) (by omega)
      refine g_247_45 h3.1 ⟨fun e => ?_, fun _ => ⟨(by simp (disch := omega) only [J_add, J_mul, J_sub, J_cl, vp_J]; omega), ?_⟩⟩
      · exfalso; simp (disch := omega) only [J_add, J_mul, J_sub, J_cl, J_lt, J_le, J_eq, vp_J, n1_ne, n1_lt, n1_le, n1_nlt, n1_nle] at e; omega
      · simp (disch := omega) only [J_mul, J_add, J_cl, hst, J_eq]
        refine ⟨fun e => hn (by simp; exact e), fun e => ⟨fun e2 => (by omega), fun _ => ?_⟩⟩
        have ho2 := hf (by simp; exact e)
        rw [ho2] at h0
        have hz : ∀ a, a < q → stO mv k1 (96 * k2 + a) = 0 := fun a ha => by
          have := fstB_least ho2 a (Nat.zero_le _) ha
          simpa using this
        refine r_fearNow h3.1 hD3 hv ho hc ?_
        exact r_waveU hy hv ho hk2 hs6 (by omega) hz (mv (308 + 7 * k2)) 1 (none, feaS mv (stO mv k1)) ρ (by omega) (by omega) (feaS_le ho _) h3 hFF ht3 hc hm3 hst h0 _ _
    · rw [hR] at h0
      refine g_247_45 h3.1 ⟨fun _ => ⟨fun _ => h0 ρ h3 hFF ht3, fun e => absurd rfl e⟩, fun e => ?_⟩
      exfalso; simp (disch := omega) only [J_add, J_mul, J_sub, J_cl, J_lt, J_le, J_eq, vp_J, n1_ne, n1_lt, n1_le, n1_nlt, n1_nle] at e; omega
  · refine g_247_0 h.1 (fun u hu => ?_)
    have hu1 : u = J 1 := by
      rw [hu]
      by_cases q1 : f_167 σ y0 a1 = J 0
      · rw [if_pos q1]
      rw [if_neg q1]
      by_cases q2 : f_164 σ y0 a2 = J 0
      · rw [if_pos q2]
      rw [if_neg q2]
      exact absurd ⟨Classical.not_not.mp (fun e => q1 ((r167 h.2.1 ho).mpr e)), Classical.not_not.mp (fun e => q2 ((r164 h.2.1 hv).mpr e))⟩ c
    subst hu1
    exact ⟨fun e => absurd e ret1, fun _ => h1 c _ _ h.thr (FRf.th hy) sI_same⟩
