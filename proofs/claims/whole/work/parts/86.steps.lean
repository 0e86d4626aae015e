/-! ===== steps of an opening ===== -/
variable {d : Nat} {B : Nat × Nat} {Q : Out → Sto → Prop} {P : Nat → Nat → Prop} {σ τ : Sto} {x0 y0 : Nat} {mv mv' kv : Mem} {img : Bool} {tp : Mem} {n : Nat} {fl : Option Nat}
def fllS (st : Mem) (g a b v : Nat) : Mem := fun k => if 96 * g + a ≤ k ∧ k < 96 * g + b ∧ k < 96 * g + 96 then v else st k
theorem fllS_le {st : Mem} {g a b v : Nat} (hv : v ≤ 6) (hs : ∀ k, k < 384 → st k ≤ 6) : ∀ k, k < 384 → fllS st g a b v k ≤ 6 := fun k hk => by
  unfold fllS; split
  · exact hv
  · exact hs k hk
theorem c_setSteps {r g a b v : Nat} {st : Mem} (hk : sK σ r = 14) (hz : sZ σ r = 384) (hst : ∀ k, k < 384 → sI σ r k = J (st k)) (hg : g < 4) (ha : a ≤ 200) (hb : b ≤ 400) (hQ : ∀ τ, Fr (fun p _ => p = r) σ τ → (∀ k, k < 384 → sI τ r k = J (fllS st g a b v k)) → Q (.inl none) τ) : WP gT d B 158 0 [.ref r, .int (J g), .int (J a), .int (J b), .int (J v), .retAddr 0] [] σ Q := by
  refine g_158_0 ?_
  have L : ∀ m i τ, a ≤ i → i + m = a + 500 → Fr (fun p _ => p = r) σ τ → (∀ k, k < 384 → sI τ r k = J (fllS st g a (if i ≤ b then i else b) v k)) → i ≤ b ∨ i = a → WP gT d B 158 3 [.ref r, .int (J g), .int (J a), .int (J b), .int (J v), .int (J i)] [] τ Q := by
    intro m
    induction m with
    | zero => intro i τ h1 h2 hF h3 h4; omega
    | succ m ih =>
      intro i τ h1 h2 hF h3 h4
      have fin : b ≤ i ∨ 96 ≤ i → Q (.inl none) τ := fun c => hQ τ hF (fun k hk2 => by
        rw [h3 k hk2]
        congr 1
        unfold fllS
        by_cases c2 : i ≤ b
        · rw [if_pos c2]
          by_cases c3 : 96 * g + a ≤ k ∧ k < 96 * g + i ∧ k < 96 * g + 96
          · rw [if_pos c3, if_pos (by omega)]
          · rw [if_neg c3, if_neg (by omega)]
        · rw [if_neg c2])
      refine g_158_3 (by rw [hF.K]; exact hk) ⟨fun e => ?_, fun e => ⟨fun e2 => ?_, fun e2 => ?_⟩⟩
      · rw [J_le (by omega) (by omega)] at e; exact fin (by omega)
      · rw [J_le (by omega) (by omega)] at e2; exact fin (by omega)
      · rw [J_le (by omega) (by omega)] at e e2
        rw [hF.Z, hz]
        simp (disch := omega) only [J_add, J_mul, J_sub, J_cl, J_lt, J_le, J_eq, vp_J, n1_ne, n1_lt, n1_le, n1_nlt, n1_nle]
        refine ⟨(by omega), ih (i + 1) _ (by omega) (by omega) (hF.setI rfl) (fun k hk2 => ?_) (by omega)⟩
        rw [if_pos (by omega)]
        by_cases c : k = g * 96 + i
        · subst c; rw [sI_same]; unfold fllS; rw [if_pos (by omega)]
        · rw [sI_any (by omega), h3 k hk2, if_pos (by omega)]
          congr 1
          unfold fllS
          by_cases c3 : 96 * g + a ≤ k ∧ k < 96 * g + i ∧ k < 96 * g + 96
          · rw [if_pos c3, if_pos (by omega)]
          · rw [if_neg c3, if_neg (by omega)]
  refine L 500 a σ (Nat.le_refl _) rfl Fr.rf (fun k hk2 => ?_) (Or.inr rfl)
  rw [hst k hk2]; congr 1; unfold fllS; rw [if_neg (by split <;> omega)]
/-- the class: an opening's row is written anew, and its flood forgotten -/
theorem c_forget {o : Nat} {st : Mem} (h : CIv σ x0 mv kv img tp n fl) (h4 : o < mv 4) (hs : ∀ k, k < 384 → st k ≤ 6) (f : Fr (fun p _ => p = x0 + 42 + o) σ τ) (hst : ∀ k, k < 384 → sI τ (x0 + 42 + o) k = J (st k)) (hQ : ∀ ρ, CIv ρ x0 (putO mv o st) kv img tp n fl → FCl σ ρ → Q (.inl none) ρ) : WP gT d B 143 0 [.ref x0, .int (J o)] [] τ Q := by
  have hx := h.x
  have ho := h.mv_.2.1
  have ho1 := ho.s
  have hsc := h.sc
  have h6 : o < 6 := by omega
  have ag : ∀ (S : Nat → Prop), (∀ k, S k → k < 424 ∨ 2728 ≤ k) → AG S mv (putO mv o st) := fun S hS => putO_ag h6 hS
  have key : ∀ (P : Nat → Nat → Prop) ρ, Fr P σ ρ → (∀ p j, P p j → p = x0 + 42 + o ∨ (p = x0 ∧ j = 12)) → (∀ k, k < 384 → sI ρ (x0 + 42 + o) k = J (st k)) → SHw ρ x0 (putO mv o st) → Q (.inl none) ρ := by
    intro P ρ hF1 hP hr hsh
    refine hQ ρ ⟨h.1.chg hF1 (fun p j k => by have := hP _ _ k; unfold SCf; omega) (h.mv_.1.cg (ag gS (fun k hk => by unfold gS at hk; omega))) (putO_V ho h6 hs) ⟨?_, ?_, ?_, ?_, ?_, ?_⟩ (fun j k => by exfalso; have := hP _ _ k; omega), hsh⟩ (FCl.of hx hF1 (fun p j k => by have := hP _ _ k; omega))
    · exact (h.G.fr hF1 (fun i j hi k => by have := hP _ _ k; omega)).cg h.mv_.1 (ag gS (fun k hk => by unfold gS at hk; omega))
    · exact (h.Pp.fr hF1 (fun i j hi k => by have := hP _ _ k; omega)).cg ho (ag pS (fun k hk => by unfold pS at hk; omega))
    · have e : ∀ k, (k < 424 ∨ 2728 ≤ k) → putO mv o st k = mv k := fun k h2 => putO_o (by omega)
      have i1 : ∀ j, sI ρ (x0 + 24) j = sI σ (x0 + 24) j := fun j => hF1.i (fun k => by have := hP _ _ k; omega)
      rw [i1, i1, i1, i1, i1, i1, i1, i1, e _ (by omega), e _ (by omega), e _ (by omega), e _ (by omega), e _ (by omega), e _ (by omega), e _ (by omega), e _ (by omega)]
      exact hsc
    · intro o2 hk k hk2
      rw [putO_o (by omega)] at hk
      by_cases c : o2 = o
      · subst c; unfold stO; rw [putO_k hk2, show x0 + 24 + 18 + o2 = x0 + 42 + o2 by omega]; exact hr k hk2
      · unfold stO; rw [putO_o (by omega), hF1.i (fun k => by have := hP _ _ k; omega)]; exact h.mv_.2.2.2.2.2.1 o2 hk k hk2
    · exact RLg.cg (mv := mv) (fun l hl => by rw [hF1.i (fun k => by have := hP _ _ k; omega), hF1.i (fun k => by have := hP _ _ k; omega), hF1.i (fun k => by have := hP _ _ k; omega)]; exact h.mv_.2.2.2.2.2.2.1 l hl) ho (ag lS (fun k hk => by unfold lS at hk; omega))
    · exact (RRl.fr h.mv_.2.2.2.2.2.2.2 hF1 (fun p j k h9 => by have := hP _ _ k; omega)).cg (ag uS (fun k hk => by unfold uS at hk; omega))
  refine g_143_0 (f.sh h.sh) ?_
  rw [f.i (by omega)]
  refine ⟨fun c => ?_, fun c => ?_⟩
  · exact key (fun p j => p = x0 + 42 + o ∨ (p = x0 ∧ j = 12)) _ ((f.mono (fun p j k => Or.inl k)).setI (Or.inr ⟨rfl, rfl⟩)) (fun p j k => k) (fun k hk => by rw [sI_any (by omega)]; exact hst k hk) (Or.inl sI_same)
  · refine key _ τ f (fun p j k => Or.inl k) hst (h.2.chg h.mv_.1 f (fun p j k => Or.inl (by omega)) hx (ag gS (fun k hk => by unfold gS at hk; omega)) (by rw [putO_o (by omega)]; exact Nat.le_refl _) (fun o2 ho2 e k hk => ?_))
    have hne : o2 ≠ o := fun e2 => c (by rw [e, e2])
    unfold stO; rw [putO_o (by omega)]
theorem IN_step {x : Int32} : f_155 σ x = J 0 ↔ ¬ IN x 0 6 := r162 (σ := σ) (a := 0) (b := 6) (by omega) (by omega)
def stpC1 (mv : Mem) (a1 a2 a3 a4 : Int32) : Prop := IX a1 (mv 4) ∧ IX a2 (mv 1) ∧ IX a3 96 ∧ IX a4 96
def stpC2 (a3 a4 a5 : Int32) : Prop := ¬ a4 < a3 ∧ IN a5 0 6
def rowOf (h : CIv σ x0 mv kv img tp n fl) {k1 : Nat} (hk : k1 < mv 4) : ∀ k, k < 384 → sI σ (x0 + 42 + k1) k = J (stO mv k1 k) := fun k hk2 => by
  rw [show x0 + 42 + k1 = x0 + 24 + 18 + k1 by omega]; exact h.mv_.2.2.2.2.2.1 k1 hk k hk2
theorem cc_step (h : CIv σ x0 mv kv img tp n fl) (hB : 16 ≤ B.1 ∧ 1000 ≤ B.2) {a1 a2 a3 a4 a5 : Int32} (h0 : ∀ k1 k2 k3 k4 k5, k1 < mv 4 → k2 < mv 1 → k3 < 96 → k4 < 96 → k3 ≤ k4 → k5 ≤ 6 → a1 = J k1 → a2 = J k2 → a3 = J k3 → a4 = J k4 → a5 = J k5 → ∀ τ, CIv τ x0 (putO mv k1 (fllS (stO mv k1) k2 k3 (k4 + 1) k5)) kv img tp n fl → FCl σ τ → Q (.inl none) τ) (h1 : ¬ stpC1 mv a1 a2 a3 a4 → Q (.inr 0) σ) (h2 : stpC1 mv a1 a2 a3 a4 → ¬ stpC2 a3 a4 a5 → Q (.inr 1) σ) : WP gT (d + 18) B 101 0 [.ref x0, .int a1, .int a2, .int a3, .int a4, .int a5] [] σ Q := by
  have hx := h.x
  have ho := h.mv_.2.1
  have ho1 := ho.s
  have hs := h.mv_.1.s
  refine g_101_0 h.sh hB ⟨fun c1 => ⟨fun c2 => ⟨fun c3 => ⟨fun c4 => fun u hu => ?_, fun c => h1 (fun k => c (gQ.mpr k.2.2.2))⟩, fun c => h1 (fun k => c (gQ.mpr k.2.2.1))⟩, fun c => h1 (fun k => c (h.gG.mpr k.2.1))⟩, fun c => h1 (fun k => c (h.gO.mpr k.1))⟩
  have C1 : stpC1 mv a1 a2 a3 a4 := ⟨h.gO.mp c1, h.gG.mp c2, gQ.mp c3, gQ.mp c4⟩
  have hu2 : ¬ u = J 0 ↔ stpC2 a3 a4 a5 := by
    rw [hu]; unfold stpC2
    constructor
    · intro c
      refine ⟨fun e => c (by rw [if_pos e]), Classical.not_not.mp (fun e => c ?_)⟩
      rw [if_pos (IN_step.mpr e), ite_self]
    · intro c
      rw [if_neg c.1, if_neg (fun e => IN_step.mp e c.2)]; decide
  refine ⟨fun c => ?_, fun c => h2 C1 (fun k => c (hu2.mpr k))⟩
  obtain ⟨q1, ⟨k5, _, hk5, rfl⟩⟩ := hu2.mp c
  obtain ⟨⟨k1, hk1, rfl⟩, ⟨k2, hk2, rfl⟩, ⟨k3, hk3, rfl⟩, ⟨k4, hk4, rfl⟩⟩ := C1
  rw [J_lt (by omega) (by omega)] at q1
  have hr := op_row (o := k1) h.sh (by omega)
  simp (disch := omega) only [J_add, J_mul, J_sub, J_cl, J_lt, J_le, J_eq, vp_J, n1_ne, n1_lt, n1_le, n1_nlt, n1_nle]
  refine ⟨(by omega), c_setSteps hr.2.1 hr.2.2 (rowOf h hk1) (by omega) (by omega) (by omega) (fun τ hF hst => ⟨hF.sh h.sh, ?_⟩)⟩
  exact c_forget h hk1 (fllS_le hk5 (fun k hk => ho.o hk1 hk)) hF hst (h0 k1 k2 k3 k4 k5 hk1 hk2 hk3 hk4 (by omega) hk5 rfl rfl rfl rfl rfl)
/-- the reference: memory as an opening's steps stand -/
theorem r_putO {o : Nat} {st : Mem} (hy : y0 = 260) (h : RIv σ y0 mv kv img tp n fl) (f : Fr (fun p j => p = y0 + 1 ∨ SRr y0 p j) σ τ) (hm : RMm τ y0 (putO mv o st)) : RIv τ y0 (putO mv o st) kv img tp n fl ∧ FRf σ τ := ⟨h.chg f (fun p j k => k) hm, FRf.of hy f (fun p j k => by unfold SRr at k; omega)⟩
/-- the reference's loop over a gate's quarters: cell by cell -/
theorem putO_set {o k v : Nat} {st st' : Mem} (hm : RMm σ y0 (putO mv o st)) (hk : k < 384) (ho : o < 6) (hst : ∀ i, i < 384 → st' i = if i = k then v else st i) : RMm (setI σ (y0 + 1) (424 + 384 * o + k) (J v)) y0 (putO mv o st') := fun j hj => by
  by_cases e : j = 424 + 384 * o + k
  · subst e; rw [sI_same, putO_k hk, hst k hk, if_pos rfl]
  · rw [sI_any (by omega), hm j hj]
    congr 1
    unfold putO
    by_cases c : 424 + 384 * o ≤ j ∧ j < 424 + 384 * o + 384
    · rw [if_pos c, if_pos c, hst _ (by omega), if_neg (by omega)]
    · rw [if_neg c, if_neg c]
theorem putO_id {o : Nat} (h : RMm σ y0 mv) : RMm σ y0 (putO mv o (stO mv o)) := fun j hj => by
  rw [h j hj]; congr 1; unfold putO stO
  by_cases c : 424 + 384 * o ≤ j ∧ j < 424 + 384 * o + 384
  · rw [if_pos c]; congr 1; omega
  · rw [if_neg c]
theorem putO_eq {o : Nat} {st st' : Mem} (he : ∀ i, i < 384 → st i = st' i) : putO mv o st = putO mv o st' := funext (fun k => by
  unfold putO; split
  · exact he _ (by omega)
  · rfl)
theorem rr_step (hy : y0 = 260) (hv : VG mv) (ho : VOo mv) (h : RIv σ y0 mv kv img tp n fl) {a1 a2 a3 a4 a5 : Int32} (h0 : ∀ k1 k2 k3 k4 k5, k1 < mv 4 → k2 < mv 1 → k3 < 96 → k4 < 96 → k3 ≤ k4 → k5 ≤ 6 → a1 = J k1 → a2 = J k2 → a3 = J k3 → a4 = J k4 → a5 = J k5 → ∀ τ, RIv τ y0 (putO mv k1 (fllS (stO mv k1) k2 k3 (k4 + 1) k5)) kv img tp n fl → FRf σ τ → sI τ y0 0 = J 0 → Q (.inl none) τ) (h1 : ¬ stpC1 mv a1 a2 a3 a4 → ∀ τ, RIv τ y0 mv kv img tp n fl → FRf σ τ → sI τ y0 0 = J 1 → Q (.inl none) τ) (h2 : stpC1 mv a1 a2 a3 a4 → ¬ stpC2 a3 a4 a5 → ∀ τ, RIv τ y0 mv kv img tp n fl → FRf σ τ → sI τ y0 0 = J 2 → Q (.inl none) τ) : WP gT (d + 2) B 209 0 [.ref y0, .int a1, .int a2, .int a3, .int a4, .int a5, .retAddr 0] [] σ Q := by
  have ho1 := ho.s
  have hs := hv.s
  have nn : ∀ {p : Prop}, ¬ ¬ p → p := fun h => Classical.not_not.mp h
  refine g_209_0 h.1 (fun u hu => ?_)
  by_cases c1 : stpC1 mv a1 a2 a3 a4
  · rw [if_neg (fun e => (r167 h.2.1 ho).mp e c1.1), if_neg (fun e => (r164 h.2.1 hv).mp e c1.2.1), if_neg (fun e => r163.mp e c1.2.2.1), if_neg (fun e => r163.mp e c1.2.2.2)] at hu
    by_cases c2 : stpC2 a3 a4 a5
    · rw [if_neg c2.1, if_neg (fun e => (r162 (by omega) (by omega)).mp e c2.2)] at hu
      subst hu
      obtain ⟨q1, ⟨k5, _, hk5, rfl⟩⟩ := c2
      obtain ⟨⟨k1, hk1, rfl⟩, ⟨k2, hk2, rfl⟩, ⟨k3, hk3, rfl⟩, ⟨k4, hk4, rfl⟩⟩ := c1
      rw [J_lt (by omega) (by omega)] at q1
      refine ⟨fun _ => ?_, fun e => absurd ret0 e⟩
      have L : ∀ i τ, i ≤ k4 + 1 - k3 → (Fr (fun p j => p = y0 + 1 ∨ SRr y0 p j) σ τ ∧ sI τ y0 0 = J 0 ∧ RMm τ y0 (putO mv k1 (fllS (stO mv k1) k2 k3 (k3 + i) k5))) → WP gT (d + 2) B 209 72 [.ref y0, .int (J k1), .int (J k2), .int (J k3), .int (J k4), .int (J k5), .int (J (k3 + i))] [] τ Q := by
        refine upto (k4 + 1 - k3) ?_ ?_
        · intro i τ hi hI ih
          obtain ⟨hF, ht, hm⟩ := hI
          refine g_209_72 (hF.sh h.1) ⟨fun e => ?_, fun _ => ?_⟩
          · exfalso; simp (disch := omega) only [J_add, J_mul, J_sub, J_cl, J_lt, J_le, J_eq, vp_J, n1_ne, n1_lt, n1_le, n1_nlt, n1_nle] at e; omega
          · unfold f_208
            simp (disch := omega) only [J_add, J_mul, J_sub, J_cl, J_lt, J_le, J_eq, vp_J, n1_ne, n1_lt, n1_le, n1_nlt, n1_nle]
            refine ⟨(by omega), ih _ ⟨hF.setI (Or.inl rfl), by rw [sI_any (by omega)]; exact ht, ?_⟩⟩
            rw [show 424 + 384 * k1 + 96 * k2 + (k3 + i) = 424 + 384 * k1 + (96 * k2 + (k3 + i)) by omega]
            refine putO_set hm (by omega) (by omega) (fun j hj => ?_)
            unfold fllS
            by_cases e : j = 96 * k2 + (k3 + i)
            · rw [if_pos e, if_pos (by omega)]
            · rw [if_neg e]
              by_cases c : 96 * k2 + k3 ≤ j ∧ j < 96 * k2 + (k3 + i) ∧ j < 96 * k2 + 96
              · rw [if_pos c, if_pos (by omega)]
              · rw [if_neg c, if_neg (by omega)]
        · intro τ hI
          obtain ⟨hF, ht, hm⟩ := hI
          rw [show k3 + (k4 + 1 - k3) = k4 + 1 by omega] at hm
          obtain ⟨r1, r2⟩ := r_putO hy h hF hm
          refine g_209_72 (hF.sh h.1) ⟨fun _ => h0 k1 k2 k3 k4 k5 hk1 hk2 hk3 hk4 (by omega) hk5 rfl rfl rfl rfl rfl τ r1 r2 ht, fun e => ?_⟩
          exfalso; simp (disch := omega) only [J_add, J_mul, J_sub, J_cl, J_lt, J_le, J_eq, vp_J, n1_ne, n1_lt, n1_le, n1_nlt, n1_nle] at e; omega
      refine L 0 _ (Nat.zero_le _) ⟨Fr.rf.setI (Or.inr (by unfold SRr; omega)), sI_same, ?_⟩
      rw [putO_eq (st' := stO mv k1) (fun i hi => by unfold fllS; rw [if_neg (by omega)])]
      exact putO_id h.2.1.th
    · have hu2 : u = J 2 := by
        rw [hu]
        by_cases q1 : a4 < a3
        · rw [if_pos q1]
        rw [if_neg q1]
        by_cases q2 : f_162 σ a5 (J 0) (J 6) = J 0
        · rw [if_pos q2]
        exact absurd ⟨q1, nn (fun e => q2 ((r162 (by omega) (by omega)).mpr e))⟩ c2
      subst hu2
      exact ⟨fun e => absurd e ret2, fun _ => h2 c1 c2 _ h.thr (FRf.th hy) sI_same⟩
  · have hu1 : u = J 1 := by
      rw [hu]
      by_cases q1 : f_167 σ y0 a1 = J 0
      · rw [if_pos q1]
      rw [if_neg q1]
      by_cases q2 : f_164 σ y0 a2 = J 0
      · rw [if_pos q2]
      rw [if_neg q2]
      by_cases q3 : f_163 σ a3 = J 0
      · rw [if_pos q3]
      rw [if_neg q3]
      by_cases q4 : f_163 σ a4 = J 0
      · rw [if_pos q4]
      exact absurd ⟨nn (fun e => q1 ((r167 h.2.1 ho).mpr e)), nn (fun e => q2 ((r164 h.2.1 hv).mpr e)), nn (fun e => q3 (r163.mpr e)), nn (fun e => q4 (r163.mpr e))⟩ c1
    subst hu1
    exact ⟨fun e => absurd e ret1, fun _ => h1 c1 _ h.thr (FRf.th hy) sI_same⟩
