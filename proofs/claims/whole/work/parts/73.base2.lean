/-! ===== the flood that is shown; indices ===== -/
variable {d : Nat} {B : Nat × Nat} {Q : Out → Sto → Prop} {P : Nat → Nat → Prop} {σ τ : Sto} {x0 y0 : Nat} {mv kv : Mem} {img : Bool} {tp : Mem} {n : Nat} {fl : Option Nat}
theorem J_0mul (x : Int32) : J 0 * x = J 0 := by show (0 : Int32) * x = 0; exact Int32.zero_mul
theorem out0 {r : Nat} (w : Nat → Int32) (hw : w r = J 0) : outF mv w r = J 0 := by
  unfold outF; rw [hw, J_0mul, J_div (by omega) (by omega) (by omega), Nat.zero_div]
theorem dp_ok {st : Mem} {more : Nat} (hv : VG mv) (hm : more ≤ 9) : ∀ r, r < mv 2 → dpF mv st more 0 r = J 0 ∧ 0 ≤ (dpF mv st more 1 r).toInt := by
  intro r hr
  have hs := hv.s
  have hrv := hv.r hr
  have hq := hv.q (q := 0) (by omega)
  obtain ⟨b, hb, e⟩ := lft_J (st := st) (q := 0) (a := mv 10) hv (by omega) (mv 1) (Nat.le_refl _)
  have hl : ltF mv st 0 = J (mv 10 - b) := by
    show J (mv 10) - lft mv st 0 (J (mv 10)) (mv 1) = _
    rw [e, J_sub hb]
  have hc : ∃ c, c ≤ 999999 ∧ comF mv (rcF mv st more 0) (ltF mv st 0) r = J c := by
    cases r with
    | zero => exact ⟨mv 10 - b, by omega, hl⟩
    | succ r => exact ⟨0, by omega, out0 _ rfl⟩
  obtain ⟨c, hc1, hc2⟩ := hc
  refine ⟨?_, ?_⟩
  · show J 0 / J (mv (336 + 5 * r)) = J 0
    rw [J_div (by omega) (by omega) (by omega), Nat.zero_div]
  · have hbr : mv (336 + 5 * r + 4) * (mv (116 + 0) + more) ≤ 99 * 18 := Nat.mul_le_mul hrv.2.2.2.2.2 (by omega)
    have hw : rcF mv st more 1 r = J (c + mv (336 + 5 * r + 4) * (mv (116 + 0) + more)) := by
      show J 0 - outF mv (rcF mv st more 0) r + comF mv (rcF mv st more 0) (ltF mv st 0) r + J (mv (336 + 5 * r + 4)) * J (mv (116 + 0) + more) = _
      rw [out0 (rcF mv st more 0) rfl, hc2, J_mul, J_sub (Nat.le_refl _), J_add, J_add, Nat.sub_self, Nat.zero_add]
    unfold dpF
    rw [hw, J_div (by omega) (by omega) (by omega), J_int (Nat.lt_of_le_of_lt (Nat.div_le_self _ _) (by omega))]
    exact Int.natCast_nonneg _
theorem CDd.of {f : Nat} {st : Mem} {more : Nat} (hv : VG mv) (hm : more ≤ 9) (h : CFf σ f mv st more 96) : CDd σ f mv (dpF mv st more) (lkF mv st) := ⟨dp_ok hv hm, fun q hq => ⟨(h q hq).1.1, fun r hr => ((h q hq).2 r hr).2⟩⟩
def FCl (σ τ : Sto) : Prop := Fr (fun p _ => (96 ≤ p ∧ p ≤ 259) ∨ 278 ≤ p) σ τ
def FRf (σ τ : Sto) : Prop := Fr (fun p _ => 260 ≤ p ∧ p ≤ 276) σ τ
theorem FCl.of (hx : x0 = 96) (f : Fr P σ τ) (hP : ∀ p j, P p j → (x0 ≤ p ∧ p ≤ x0 + 163) ∨ 278 ≤ p) : FCl σ τ := f.mono (fun p j k => by have := hP p j k; omega)
theorem FCl.rf : FCl σ σ := Fr.rf
theorem FCl.tr {ρ : Sto} (h : FCl σ τ) (k : FCl τ ρ) : FCl σ ρ := Fr.tr h k
def IX (x : Int32) (n : Nat) : Prop := ∃ k, k < n ∧ x = J k
theorem CIv.mv_ (h : CIv σ x0 mv kv img tp n fl) : VG mv ∧ VOo mv ∧ RYd σ (x0 + 24) mv := h.1.2.2.1
theorem CIv.sh (h : CIv σ x0 mv kv img tp n fl) : S_11 σ x0 := h.1.2.1
theorem CIv.x (h : CIv σ x0 mv kv img tp n fl) : x0 = 96 := h.1.1.1
theorem CIv.G (h : CIv σ x0 mv kv img tp n fl) : RGg σ (x0 + 25) mv := h.mv_.2.2.1
theorem CIv.Pp (h : CIv σ x0 mv kv img tp n fl) : RPp σ (x0 + 48) mv := h.mv_.2.2.2.1
theorem op_row {o : Nat} (h : S_11 σ x0) (ho : o < 6) : sP σ (x0 + 41) o = some (x0 + 42 + o) ∧ sK σ (x0 + 42 + o) = 14 ∧ sZ σ (x0 + 42 + o) = 384 := q2_11_41 h o ho
theorem c_floodOf (h : CIv σ x0 mv kv img tp n fl) {o : Nat} (ho : o < mv 4) (hQ : ∀ τ, CIv τ x0 mv kv img tp n fl → FCl σ τ → S_11 τ x0 → CDd τ (x0 + 98) mv (dpF mv (stO mv o) 0) (lkF mv (stO mv o)) → CFf τ (x0 + 98) mv (stO mv o) 0 96 → Q (.inl (some (.ref (x0 + 98)))) τ) : WP gT (d + 6) B 144 0 [.ref x0, .int (J o)] [] σ Q := by
  have hx := h.x
  have hv := h.mv_.1
  have ho1 := h.mv_.2.1.s
  refine g_144_0 h.sh ⟨fun e => ?_, fun _ => ⟨(by simp (disch := omega) only [J_add, J_mul, J_sub, J_cl, vp_J]; omega), ?_⟩⟩
  · rcases h.2 with e2 | ⟨o2, h1, h2, h3⟩
    · rw [e2] at e; exfalso; rw [n1_ne' (by omega)] at e; exact e
    · rw [h2] at e
      have : o2 = o := J_inj (by omega) (by omega) e
      subst this
      exact hQ σ h FCl.rf h.sh (CDd.of hv (by omega) h3) h3
  · rw [J_cl (by omega)]
    have hr := op_row (o := o) h.sh (by omega)
    have hD := h.mv_.2.2
    refine c_runFrom (st := stO mv o) (mv := mv) (sub_11_98_3 h.sh) (sub_11_25_4 h.sh) (by omega) (by omega) hv h.G hr.2.1 hr.2.2 (fun k hk => ?_) (fun k hk => h.mv_.2.1.o ho hk) (by omega) (by omega) (fun q hq => by omega) (fun τ hF hf => ?_)
    · rw [show x0 + 42 + o = x0 + 24 + 18 + o by omega]; exact hD.2.2.2.1 o ho k hk
    · have h2 := h.1.fr hF (fun p j k => by unfold SCf SCr; omega)
      have hF2 : Fr (SCf x0) τ (setI τ x0 12 (J o)) := Fr.rf.setI (by unfold SCf; omega)
      have hf2 : CFf (setI τ x0 12 (J o)) (x0 + 98) mv (stO mv o) 0 96 := by
        intro q hq
        have := hv.s
        refine ⟨?_, fun r hr => ?_⟩
        · rw [sI_any (by omega), sI_any (by omega), sI_any (by omega)]; exact (hf q hq).1
        · rw [sI_any (by omega), sI_any (by omega)]; exact (hf q hq).2 r hr
      refine ⟨hF.sh h.sh, hQ _ ⟨h2.fr hF2 (fun _ _ k => k), Or.inr ⟨o, ho, sI_same, hf2⟩⟩ ?_ (hF.sh h.sh) (CDd.of hv (by omega) hf2) hf2⟩
      exact FCl.of hx ((hF.mono (P' := fun p j => (x0 ≤ p ∧ p ≤ x0 + 163) ∨ 278 ≤ p) (fun p j k => by omega)).setI (by omega)) (fun _ _ k => k)
theorem c_dangerOf (h : CIv σ x0 mv kv img tp n fl) {o : Nat} (ho : o < mv 4) (hQ : ∀ τ, CIv τ x0 mv kv img tp n fl → FCl σ τ → S_11 τ x0 → CDd τ (x0 + 98) mv (dpF mv (stO mv o) 0) (lkF mv (stO mv o)) → DRr τ (x0 + 120) mv (dpF mv (stO mv o) 0) → Q (.inl (some (.ref (x0 + 120)))) τ) : WP gT (d + 7) B 145 0 [.ref x0, .int (J o)] [] σ Q := by
  have hx := h.x
  have hv := h.mv_.1
  refine g_145_0 h.sh (c_floodOf h ho (fun τ h2 hF hS hC _ => ⟨hS, ?_⟩))
  refine c_look (f := x0 + 98) (g := x0 + 25) (pl := x0 + 48) (D := x0 + 120) (sub_11_120_1 hS) (sub_11_98_3 hS) (sub_11_25_4 hS) (sub_11_48_6 hS) (by omega) (by omega) (by omega) hv h.mv_.2.1 h2.G h2.Pp hC (fun ρ hF2 hR => ⟨hF2.sh hS, hQ ρ (h2.fr hF2 (fun p j k => ?_)) (hF.tr (FCl.of hx hF2 (fun p j k => ?_))) (hF2.sh hS) (hC.fr hv hF2 (fun i j hi k => ?_)) hR⟩)
  · unfold P10 at k; unfold SCr; omega
  · unfold P10 at k; omega
  · unfold P10 at k; omega
/-! the reference's guards -/
theorem sub1 {k : Nat} (hk : k < 1000000) : (J k - J 1).toInt = (k : Int) - 1 := sub_int (by omega) (by omega)
theorem rix {x : Int32} {k : Nat} (hk : k < 1000000) : f_162 σ x (J 0) (J k - J 1) = J 0 ↔ ¬ IX x k := by
  have h0 : (J 0).toInt = 0 := by decide
  unfold f_162 IX
  rw [← okIx_J (by omega)]
  unfold okIx
  simp only [Int32.lt_iff_toInt_lt, sub1 hk, h0, J_int (show k < 2147483648 by omega)]
  by_cases c1 : x.toInt < 0
  · rw [if_pos c1]; constructor
    · intro _; omega
    · intro _; rfl
  · rw [if_neg c1]
    by_cases c2 : (k : Int) - 1 < x.toInt
    · rw [if_pos c2]; constructor
      · intro _; omega
      · intro _; rfl
    · rw [if_neg c2]; constructor
      · intro e; exact absurd e (by decide)
      · intro e; omega
theorem r163 {x : Int32} : f_163 σ x = J 0 ↔ ¬ IX x 96 := rix (k := 96) (by omega)
theorem r164 {x : Int32} (h : RMm σ y0 mv) (hv : VG mv) : f_164 σ y0 x = J 0 ↔ ¬ IX x (mv 1) := by
  have := hv.s; unfold f_164; rw [h.at (by omega)]; exact rix (by omega)
theorem r165 {x : Int32} (h : RMm σ y0 mv) (hv : VG mv) : f_165 σ y0 x = J 0 ↔ ¬ IX x (mv 2) := by
  have := hv.s; unfold f_165; rw [h.at (by omega)]; exact rix (by omega)
theorem r166 {x : Int32} (h : RMm σ y0 mv) (hv : VG mv) : f_166 σ y0 x = J 0 ↔ ¬ IX x (mv 3) := by
  have := hv.s; unfold f_166; rw [h.at (by omega)]; exact rix (by omega)
theorem r167 {x : Int32} (h : RMm σ y0 mv) (ho : VOo mv) : f_167 σ y0 x = J 0 ↔ ¬ IX x (mv 4) := by
  have := ho.s; unfold f_167; rw [h.at (by omega)]; exact rix (by omega)
theorem r168 {x : Int32} (h : RMm σ y0 mv) (ho : VOo mv) : f_168 σ y0 x = J 0 ↔ ¬ IX x (mv 5) := by
  have := ho.s; unfold f_168; rw [h.at (by omega)]; exact rix (by omega)
/-- a number from a to b -/
def IN (x : Int32) (a b : Nat) : Prop := ∃ k, a ≤ k ∧ k ≤ b ∧ x = J k
theorem r162 {x : Int32} {a b : Nat} (ha : a < 2147483648) (hb : b < 2147483648) : f_162 σ x (J a) (J b) = J 0 ↔ ¬ IN x a b := by
  unfold f_162 IN
  rw [← isIn_J ha hb]
  simp only [Int32.lt_iff_toInt_lt, Int32.le_iff_toInt_le]
  by_cases c1 : x.toInt < (J a).toInt
  · rw [if_pos c1]; constructor
    · intro _; omega
    · intro _; rfl
  · rw [if_neg c1]
    by_cases c2 : (J b).toInt < x.toInt
    · rw [if_pos c2]; constructor
      · intro _; omega
      · intro _; rfl
    · rw [if_neg c2]; constructor
      · intro e; exact absurd e (by decide)
      · intro e; omega
/-- the reference's call, as far as its word 'thrown' -/
theorem RIv.thr (h : RIv σ y0 mv kv img tp n fl) {v : Int32} : RIv (setI σ y0 0 v) y0 mv kv img tp n fl := h.fr (P := SRr y0) (Fr.rf.setI (by unfold SRr; omega)) (fun _ _ k _ _ => k)
theorem ret0 : J 0 ≤ J 0 := by decide
theorem ret1 : ¬ J 1 ≤ J 0 := by decide
theorem ret2 : ¬ J 2 ≤ J 0 := by decide
theorem ret3 : ¬ J 3 ≤ J 0 := by decide
/-- a flood in the reference -/
theorem r_run (hy : y0 = 260) (hv : VG mv) (ho : VOo mv) (h : RIv σ y0 mv kv img tp n fl) {o : Nat} (ho2 : o < mv 4) (hQ : ∀ τ, RIv τ y0 mv kv img tp n fl → FRf σ τ → sI τ y0 0 = sI σ y0 0 → RDd τ y0 mv (dpF mv (stO mv o) 0) (lkF mv (stO mv o)) → RFf τ y0 mv (stO mv o) 0 → (∀ k, k < 384 → sI τ (y0 + 5) k = J (stO mv o k)) → sI τ y0 20 = J 0 → Q (.inl none) τ) : WP gT (d + 4) B 202 0 [.ref y0, .int (J o)] [] σ Q := by
  refine r_runsOf h.1 hv ho h.2.1 ho2 (fun τ hF hf hn hm => ?_)
  have h2 := h.fr hF (fun p j k _ _ => by unfold PFf at k; unfold SRr; omega)
  exact hQ τ h2 (hF.mono (fun p j k => by unfold PFf at k; omega)) (hF.i (by unfold PFf; omega)) (RDd.of h2.2.1 hf) hf hn hm
theorem FRf.of (hy : y0 = 260) (f : Fr P σ τ) (hP : ∀ p j, P p j → y0 ≤ p ∧ p ≤ y0 + 16) : FRf σ τ := f.mono (fun p j k => by have := hP p j k; omega)
theorem FRf.tr {ρ : Sto} (h : FRf σ τ) (k : FRf τ ρ) : FRf σ ρ := Fr.tr h k
theorem FRf.th (hy : y0 = 260) {v : Int32} : FRf σ (setI σ y0 0 v) := Fr.setI Fr.rf (by omega)
