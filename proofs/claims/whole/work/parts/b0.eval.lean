/-! ===== the class says what a rule says ===== -/
variable {d : Nat} {B : Nat × Nat} {Q : Out → Sto → Prop} {P : Nat → Nat → Prop} {σ τ : Sto} {r f g s : Nat} {mv stm tx : Mem} {n p q f0 : Nat} {R : List RLn} {e : Env}
def eC (mv stm : Mem) (q : Nat) : Env := envR mv q (lkF mv stm q) (fun r => dpF mv stm 0 q r) (fun k => J (stm k))
/-- what the class's parts are read off -/
def CEv (σ : Sto) (f g s : Nat) (mv stm : Mem) (q : Nat) : Prop := S_3 σ f ∧ S_4 σ g ∧ RGg σ g mv ∧ (sK σ s = 14 ∧ sZ σ s = 384) ∧ (∀ k, k < 384 → sI σ s k = J (stm k)) ∧ CFf σ f mv stm 0 q ∧ q < 96
theorem CEv.fr (h : CEv σ f g s mv stm q) (hv : VG mv) (k : Fr P σ τ) (hP : ∀ p j, P p j → ¬ (f ≤ p ∧ p ≤ f + 21) ∧ ¬ (g ≤ p ∧ p ≤ g + 15) ∧ p ≠ s) : CEv τ f g s mv stm q := by
  obtain ⟨h1, h2, h3, h4, h5, h6, h7⟩ := h
  exact ⟨k.sh h1, k.sh h2, h3.fr k (fun i j hi c => by have := hP _ _ c; omega), by rw [k.K, k.Z]; exact h4, fun a ha => by rw [k.i (fun c => (hP _ _ c).2.2 rfl)]; exact h5 a ha, CFf.fr hv h6 k (fun i j h1 h2 c => by have := hP _ _ c; omega), h7⟩
theorem dpF_0 (hv : VG mv) {a : Nat} (ha : a < mv 2) : dpF mv stm 0 0 a = J 0 := (dp_ok (st := stm) (more := 0) hv (by omega) a ha).1
theorem c_partOf (h : CEv σ f g s mv stm q) (hv : VG mv) {k a : Nat} (hk : k < 8) (hk6 : k ≠ 6) (ha : a ≤ 999999) (hQ : Q (.inl (some (.int (eC mv stm q k a)))) σ) : WP gT (d + 3) B 60 0 [.int (J k), .int (J a), .ref g, .ref f, .int (J q)] [] σ Q := by
  obtain ⟨h1, h2, h3, h4, h5, h6, h7⟩ := h
  have hs := hv.s
  have hgs := h3.s
  have one : ∀ i, i < 8 → J k = J i → k = i := fun i hi e => J_inj (by omega) (by omega) e
  refine g_60_0 h1 h2 ⟨fun c => ?_, fun c => ?_, fun c => ?_, fun c => ?_, fun c => ?_, fun c => ?_, fun c => absurd (one 6 (by omega) c) hk6, fun c => ?_, fun c => ?_⟩
  · have := one 0 (by omega) c; subst this; exact hQ
  · have := one 1 (by omega) c; subst this
    rw [hgs.1]
    have n9 : ¬ J (mv 9) = J 0 := by rw [J_eq (by omega) (by omega)]; omega
    by_cases h0 : q = 0
    · subst h0
      refine ⟨⟨fun c => absurd c (by decide), fun _ => ⟨fun _ => ⟨n9, trivial⟩, trivial⟩⟩, ?_⟩
      have e1 : f_28 σ f g (J 0 - J 1) = eC mv stm 0 1 a := by
        unfold f_28
        rw [if_neg (by decide), cv_44 h3 hv]
        unfold eC
        rw [envR_1, if_pos rfl]
      rw [e1]; exact hQ
    · rw [J_sub (by omega)]
      refine ⟨⟨fun _ => ⟨(by simp (disch := omega) only [J_add, J_mul, J_sub, J_cl, vp_J]; omega), fun _ => ⟨n9, trivial⟩, trivial⟩, fun c => absurd (by rw [J_le (by omega) (by omega)]; omega) c⟩, ?_⟩
      have hq := h6 (q - 1) (by omega)
      have e1 : f_28 σ f g (J (q - 1)) = eC mv stm q 1 a := by
        unfold f_28
        rw [if_pos (by rw [J_le (by omega) (by omega)]; omega), J_cl (by omega), hq.1.1, hgs.1, cv_157 hs.2.2.2.2.1 (by omega), show q - 1 + 1 = q by omega]
        unfold eC
        rw [envR_1, if_neg h0]
      rw [e1]; exact hQ
  · have := one 2 (by omega) c; subst this; rw [hgs.2.2.1]; exact hQ
  · have := one 3 (by omega) c; subst this; exact hQ
  · have := one 4 (by omega) c; subst this
    refine ⟨(by simp (disch := omega) only [J_add, J_mul, J_sub, J_cl, vp_J]; omega), ?_⟩
    rw [J_cl (by omega), (h3.q h7).2.1]; exact hQ
  · have := one 5 (by omega) c; subst this
    rw [hgs.2.2.2.2.2.1]
    refine ⟨fun c1 c2 => ?_, fun u hu => ?_⟩
    · rw [J_le (by omega) (by omega)] at c1 c2
      rw [J_sub (by omega)]
      exact ⟨(by simp (disch := omega) only [J_add, J_mul, J_sub, J_cl, vp_J]; omega), (by simp (disch := omega) only [J_add, J_mul, J_sub, J_cl, vp_J]; omega), trivial⟩
    · have e1 : u = eC mv stm q 5 a := by
        rw [hu]
        unfold eC
        rw [envR_5]
        by_cases c1 : mv 2 ≤ a
        · rw [if_pos (by rw [J_le (by omega) (by omega)]; exact c1), if_neg (by omega)]
        · rw [if_neg (by rw [J_le (by omega) (by omega)]; exact c1), if_pos (show a < mv 2 by omega)]
          by_cases c2 : q = 0
          · subst c2
            rw [if_pos (show J 0 ≤ J 0 by decide), dpF_0 hv (by omega)]
          · rw [if_neg (by rw [J_le (by omega) (by omega)]; omega), J_sub (by omega), J_cl (by omega), J_cl (by omega)]
            have hq := (h6 (q - 1) (by omega)).2 a (by omega)
            rw [hq.2, show q - 1 + 1 = q by omega]
      rw [e1]; exact hQ
  · have := one 7 (by omega) c; subst this
    rw [hgs.2.2.2.2.2.2]
    have rd : a < mv 3 → sI σ (g + 12) a = J (mv (376 + 4 * a)) ∧ sI σ (g + 13) a = J (mv (376 + 4 * a + 1)) := fun h => ⟨(h3.p h).1, (h3.p h).2.1⟩
    refine ⟨fun c1 c2 => ?_, fun u hu => ?_⟩
    · rw [J_le (by omega) (by omega)] at c1 c2
      have hpv := hv.p (p := a) (by omega)
      rw [J_sub (by omega), J_cl (by omega), (rd (by omega)).1]
      exact ⟨(by simp (disch := omega) only [J_add, J_mul, J_sub, J_cl, vp_J]; omega), (by simp (disch := omega) only [J_add, J_mul, J_sub, J_cl, vp_J]; omega), (by simp (disch := omega) only [J_add, J_mul, J_sub, J_cl, vp_J]; omega), trivial⟩
    · have e1 : u = eC mv stm q 7 a := by
        rw [hu]
        unfold eC
        rw [envR_v]
        by_cases c1 : mv 3 ≤ a
        · rw [if_pos (by rw [J_le (by omega) (by omega)]; exact c1), if_neg (by omega)]
        · rw [if_neg (by rw [J_le (by omega) (by omega)]; exact c1)]
          have hpv := hv.p (p := a) (by omega)
          by_cases c2 : q = 0
          · subst c2
            rw [if_pos (by decide), if_neg (by omega)]
          · rw [if_neg (by rw [J_le (by omega) (by omega)]; omega), J_sub (by omega)]
            have hq := (h6 (q - 1) (by omega)).2 (mv (376 + 4 * a)) hpv.1
            have e32 : f_32 σ f g (J a) (J (q - 1)) = if dpF mv stm 0 q (mv (376 + 4 * a)) ≤ J (mv (376 + 4 * a + 1)) then J 0 else J 1 := by
              unfold f_32
              rw [J_cl (by omega), J_cl (by omega), (rd (by omega)).1, (rd (by omega)).2, J_cl (by omega), hq.2, show q - 1 + 1 = q by omega]
            rw [e32]
            by_cases c3 : dpF mv stm 0 q (mv (376 + 4 * a)) ≤ J (mv (376 + 4 * a + 1))
            · rw [if_pos c3, if_pos rfl, if_neg (fun k => k.2.2 c3)]
            · rw [if_neg c3, if_neg (by decide), if_pos ⟨by omega, by omega, c3⟩]
      rw [e1]; exact hQ
  · exfalso; rw [J_int (by omega)] at c; omega
/-! the stack -/
def STK (σ : Sto) (r : Nat) : List Int32 → Prop
  | [] => True
  | x :: st => sI σ (r + 5) st.length = x ∧ STK σ r st
theorem STK.set {v : Int32} {j : Nat} : ∀ {st : List Int32}, STK σ r st → st.length ≤ j → STK (setI σ (r + 5) j v) r st := by
  intro st
  induction st with
  | nil => intro _ _; trivial
  | cons x st ih =>
    intro h hj
    have hj : st.length + 1 ≤ j := hj
    exact ⟨by rw [sI_any (by omega)]; exact h.1, ih h.2 (by omega)⟩
def CEL (σ : Sto) (r : Nat) : Nat → List (Nat × Nat) → Prop
  | _, [] => True
  | i, x :: c => (sI σ (r + 4) i = J (enc x) ∧ x.1 < 16 ∧ x.2 ≤ 999999) ∧ CEL σ r (i + 1) c
theorem CEL.fr (f : Fr (fun p _ => p = r + 5) σ τ) : ∀ {c : List (Nat × Nat)} {i : Nat}, CEL σ r i c → CEL τ r i c := by
  intro c
  induction c with
  | nil => intro i _; trivial
  | cons x c ih => intro i h; exact ⟨⟨by rw [f.i (by omega)]; exact h.1.1, h.1.2⟩, ih h.2⟩
theorem RuleAt.s5 (h : RuleAt σ r R) (f : Fr (fun p _ => p = r + 5) σ τ) : RuleAt τ r R := h.mv_ f.grow (fun j => by rw [f.P]) (fun i j hi => f.i (by omega))
theorem dec_k {k a : Nat} (hk : k < 16) (ha : a ≤ 999999) : J (a * 16 + k) &&& J 15 = J k ∧ J (a * 16 + k) >>> (J 4 &&& 31) = J a := by
  constructor
  · apply Int32.toBitVec_inj.mp
    rw [Int32.toBitVec_and, J_bv, J_bv, J_bv]
    apply BitVec.eq_of_toNat_eq
    rw [BitVec.toNat_and, BitVec.toNat_ofNat, BitVec.toNat_ofNat, BitVec.toNat_ofNat, Nat.mod_eq_of_lt (a := a * 16 + k) (by omega), Nat.mod_eq_of_lt (a := 15) (by omega), Nat.mod_eq_of_lt (a := k) (by omega), show (15 : Nat) = 2 ^ 4 - 1 from rfl, Nat.and_two_pow_sub_one_eq_mod]
    omega
  · have e : (J 4 &&& 31 : Int32) = 4 := by decide
    rw [e]
    apply Int32.toBitVec_inj.mp
    rw [Int32.toBitVec_shiftRight, J_bv, J_bv]
    have e2 : ((4 : Int32).toBitVec.smod 32) = 4#32 := by decide
    rw [e2]
    apply BitVec.eq_of_toInt_eq
    have h1 : (BitVec.ofNat 32 (a * 16 + k)).toInt = ((a * 16 + k : Nat) : Int) := by
      rw [BitVec.toInt_eq_toNat_of_lt (by rw [BitVec.toNat_ofNat]; omega), BitVec.toNat_ofNat, Nat.mod_eq_of_lt (by omega)]
    have h2 : (BitVec.ofNat 32 a).toInt = (a : Int) := by
      rw [BitVec.toInt_eq_toNat_of_lt (by rw [BitVec.toNat_ofNat]; omega), BitVec.toNat_ofNat, Nat.mod_eq_of_lt (by omega)]
    rw [BitVec.sshiftRight_eq', BitVec.toInt_sshiftRight, h1, h2]
    show ((a * 16 + k : Nat) : Int) >>> 4 = _
    rw [Int.shiftRight_eq_div_pow]
    omega
theorem c_joined {k : Nat} {x y : Int32} (hk : 9 ≤ k ∧ k < 16) (hQ : Q (.inl (some (.int (if k = 9 then x + y else if k = 10 then (if x < y then J 1 else J 0) else if k = 11 then (if y < x then J 1 else J 0) else if k = 12 then x &&& y else x ||| y)))) σ) : WP gT d B 62 0 [.int (J k), .int x, .int y] [] σ Q := by
  have one : ∀ i, i < 16 → J k = J i → k = i := fun i hi e => J_inj (by omega) (by omega) e
  refine g_62_0 ⟨fun c => ?_, fun c => ?_, fun c => ?_, fun c => ?_, fun c => ?_⟩
  · have := one 9 (by omega) c; subst this; exact hQ
  · have := one 10 (by omega) c; subst this
    have e1 : (if y ≤ x then J 0 else J 1) = (if x < y then J 1 else J 0) := by
      by_cases c : y ≤ x
      · rw [if_pos c, if_neg (Int32.not_lt.mpr c)]
      · rw [if_neg c, if_pos (Int32.not_le.mp c)]
    rw [e1]; exact hQ
  · have := one 11 (by omega) c; subst this
    have e1 : (if x ≤ y then J 0 else J 1) = (if y < x then J 1 else J 0) := by
      by_cases c : x ≤ y
      · rw [if_pos c, if_neg (Int32.not_lt.mpr c)]
      · rw [if_neg c, if_pos (Int32.not_le.mp c)]
    rw [e1]; exact hQ
  · have := one 12 (by omega) c; subst this; exact hQ
  · rw [J_int (by omega)] at c
    rw [if_neg (by omega), if_neg (by omega), if_neg (by omega), if_neg (by omega)] at hQ
    exact hQ
theorem c_join {k : Nat} {st st' : List Int32} {a : Nat} (hR : RuleAt σ r R) (hk : 8 ≤ k ∧ k < 16) (hst : STK σ r st) (hl : st.length ≤ 24) (hs : stC e (k, a) st = some st') (hQ : ∀ τ, Fr (fun p _ => p = r + 5) σ τ → STK τ r st' → st'.length ≤ 24 → Q (.inl (some (.int (J st'.length)))) τ) : WP gT (d + 1) B 61 0 [.ref r, .int (J k), .int (J st.length)] [] σ Q := by
  obtain ⟨r1, r2, r3, r4, r5, r6, r7, r8⟩ := hR
  have p5 := r3.2.2.2.2
  have k5 := r4.2.2.2.2
  have z5 := r5.2.2.2.2
  unfold stC at hs
  rw [if_neg (by show ¬ k < 8; omega)] at hs
  refine g_61_0 r2 ⟨fun c => ?_, fun c => ?_⟩
  · have hk8 : k = 8 := J_inj (by omega) (by omega) c
    rw [if_pos (show k = 8 from hk8)] at hs
    cases st with
    | nil => cases hs
    | cons x st =>
      cases hs
      have hl : st.length + 1 ≤ 24 := hl
      refine ⟨fun c => ?_, fun _ => ⟨r + 5, p5, k5, r + 5, p5, k5, ?_⟩⟩
      · exfalso
        have c : J (st.length + 1) < J 1 := c
        rw [J_lt (by omega) (by omega)] at c; omega
      · have e1 : J (x :: st).length - J 1 = J st.length := by show J (st.length + 1) - J 1 = _; rw [J_sub (by omega)]; rfl
        rw [e1, J_cl (by omega), z5, hst.1]
        refine ⟨(by simp (disch := omega) only [J_add, J_mul, J_sub, J_cl, vp_J]; omega), (by simp (disch := omega) only [J_add, J_mul, J_sub, J_cl, vp_J]; omega), ?_⟩
        exact hQ _ (Fr.rf.setI rfl) ⟨sI_same, hst.2.set (Nat.le_refl _)⟩ hl
  · have hk9 : ¬ k = 8 := fun h => c (by rw [h])
    rw [if_neg (show ¬ k = 8 from hk9)] at hs
    cases st with
    | nil => cases hs
    | cons y st =>
      cases st with
      | nil => cases hs
      | cons x st =>
        cases hs
        have hl : st.length + 2 ≤ 24 := hl
        have e0 : J (y :: x :: st).length = J (st.length + 2) := rfl
        have e1 : J (st.length + 2) - J 2 = J st.length := by rw [J_sub (by omega)]; rfl
        have e2 : J (st.length + 2) - J 1 = J (st.length + 1) := by rw [J_sub (by omega)]; rfl
        rw [e0, e1, e2, J_cl (by omega), J_cl (by omega)]
        refine ⟨fun _ => ⟨r + 5, p5, k5, r + 5, p5, k5, (by rw [z5]; exact (by simp (disch := omega) only [J_add, J_mul, J_sub, J_cl, vp_J]; omega)), r + 5, p5, k5, (by rw [z5]; exact (by simp (disch := omega) only [J_add, J_mul, J_sub, J_cl, vp_J]; omega)), ?_⟩, fun c => absurd (by rw [J_le (by omega) (by omega)]; omega) c⟩
        have hy : sI σ (r + 5) (st.length + 1) = y := hst.1
        rw [hst.2.1, hy]
        refine c_joined (by omega) ⟨k5, ?_, ?_⟩
        · rw [z5]; exact (by simp (disch := omega) only [J_add, J_mul, J_sub, J_cl, vp_J]; omega)
        · exact hQ _ (Fr.rf.setI rfl) ⟨sI_same, hst.2.2.set (Nat.le_refl _)⟩ (by show st.length + 1 ≤ 24; omega)
def topJ : List Int32 → Int32 → Int32
  | [], _ => J 1
  | _ :: _, v => if v = J 0 then J 0 else J 1
/-- the codes of a line, one by one -/
theorem c_codes (hR : RuleAt σ r R) (hv : VG mv) (hE : CEv σ f g s mv stm q) (hd : ¬ (f ≤ r + 5 ∧ r + 5 ≤ f + 21) ∧ ¬ (g ≤ r + 5 ∧ r + 5 ≤ g + 15) ∧ r + 5 ≠ s) {li ee : Nat} (hli : li < R.length) (hee : sI σ (r + 3) li = J ee) (hee4 : ee ≤ (codes R).length) {stf : List Int32} (hf : stf.length ≤ 24)
    (hQ : ∀ τ, Fr (fun p _ => p = r + 5) σ τ → STK τ r stf → Q (.inl (some (.int (topJ stf (sI τ (r + 5) 0))))) τ) : ∀ (c : List (Nat × Nat)) (i : Nat) (st : List Int32) (τ : Sto) (x8 x9 : Value), i + c.length = ee → CEL σ r i c → Fr (fun p _ => p = r + 5) σ τ → STK τ r st → st.length ≤ 24 → rnC (eC mv stm q) c st = some stf → WP gT (d + 4) B 58 21 [.ref r, .int (J li), .ref g, .ref f, .ref s, .int (J q), .int (J st.length), .int (J i), x8, x9] [] τ Q := by
  have hq := hE.2.2.2.2.2.2
  have h12 := hR.1.2.2.2
  intro c
  induction c with
  | nil =>
    intro i st τ x8 x9 hi hc F hst hl hrn
    have hi : i = ee := hi
    cases hrn
    obtain ⟨r1, r2, r3, r4, r5, r6, r7, r8⟩ := hR.s5 F
    have E := hE.fr hv F (fun p j k => by subst k; exact hd)
    refine g_58_21 r2 E.2.1 E.2.2.2.1.1 ⟨r + 3, r3.2.2.1, r4.2.2.1, ?_, fun _ => ⟨fun c => ?_, fun c => ⟨r + 5, r3.2.2.2.2, r4.2.2.2.2, ?_, ?_⟩⟩, fun c => ?_⟩
    · rw [r5.2.2.1]; exact (by simp (disch := omega) only [J_add, J_mul, J_sub, J_cl, vp_J]; omega)
    · have := hQ τ F hst
      cases stf with
      | nil => exact this
      | cons x st =>
        exfalso
        have hl : st.length + 1 ≤ 24 := hl
        have c : J (st.length + 1) = J 0 := c
        rw [J_eq (by omega) (by omega)] at c; omega
    · rw [r5.2.2.2.2]; exact (by simp (disch := omega) only [J_add, J_mul, J_sub, J_cl, vp_J]; omega)
    · have := hQ τ F hst
      cases stf with
      | nil => exact absurd rfl c
      | cons x st => exact this
    · exfalso
      apply c
      rw [J_cl (by omega), F.i (by omega), hee, hi, J_le (by omega) (by omega)]; exact Nat.le_refl _
  | cons x c ih =>
    intro i st τ x8 x9 hi hc F hst hl hrn
    have hi : i + (c.length + 1) = ee := hi
    obtain ⟨⟨hcell, hx1, hx2⟩, hc2⟩ := hc
    have hR2 := hR.s5 F
    obtain ⟨r1, r2, r3, r4, r5, r6, r7, r8⟩ := hR2
    have E := hE.fr hv F (fun p j k => by subst k; exact hd)
    have hcl : (J i).toNatClampNeg = i := J_cl (by omega)
    have hcellτ : sI τ (r + 4) i = J (x.2 * 16 + x.1) := by rw [F.i (by omega)]; exact hcell
    have dk := dec_k hx1 hx2
    obtain ⟨st1, hst1, hrn1⟩ : ∃ st1, stC (eC mv stm q) x st = some st1 ∧ rnC (eC mv stm q) c st1 = some stf := by
      have hrn : (stC (eC mv stm q) x st).bind (rnC (eC mv stm q) c) = some stf := hrn
      cases h1 : stC (eC mv stm q) x st with
      | none => rw [h1] at hrn; cases hrn
      | some s1 => rw [h1] at hrn; exact ⟨s1, rfl, hrn⟩
    have nle : ¬ sI τ (r + 3) (J li).toNatClampNeg ≤ J i := by
      rw [J_cl (by omega), F.i (by omega), hee, J_le (by omega) (by omega)]; omega
    refine g_58_21 r2 E.2.1 E.2.2.2.1.1 ⟨r + 3, r3.2.2.1, r4.2.2.1, ?_, fun c => absurd c nle, fun _ => ⟨r + 4, r3.2.2.2.1, r4.2.2.2.1, ?_, r + 4, r3.2.2.2.1, r4.2.2.2.1, ?_, ?_⟩⟩
    · rw [r5.2.2.1]; exact (by simp (disch := omega) only [J_add, J_mul, J_sub, J_cl, vp_J]; omega)
    · rw [r5.2.2.2.1]; exact (by simp (disch := omega) only [J_add, J_mul, J_sub, J_cl, vp_J]; omega)
    · rw [r5.2.2.2.1]; exact (by simp (disch := omega) only [J_add, J_mul, J_sub, J_cl, vp_J]; omega)
    rw [hcl, hcellτ, dk.1, dk.2]
    have go : ∀ {τ2 : Sto} {st2 : List Int32}, st2 = st1 → Fr (fun p _ => p = r + 5) σ τ2 → STK τ2 r st2 → st2.length ≤ 24 → WP gT (d + 4) B 58 21 [.ref r, .int (J li), .ref g, .ref f, .ref s, .int (J q), .int (J st2.length), .int (J i + J 1), .int (J x.1), .int (J x.2)] [] τ2 Q := by
      intro τ2 st2 he F2 hs2 hl2
      subst he
      rw [J_add]
      exact ih (i + 1) st2 τ2 _ _ (by omega) hc2 F2 hs2 hl2 hrn1
    refine ⟨fun c8 => ?_, fun c8 => ?_⟩
    · rw [J_lt (by omega) (by omega)] at c8
      have hst1' := hst1
      unfold stC at hst1'
      rw [if_pos c8] at hst1'
      by_cases c24 : st.length < 24
      · rw [if_pos c24] at hst1'
        cases hst1'
        refine ⟨fun c => ?_, fun _ => ⟨r + 5, r3.2.2.2.2, r4.2.2.2.2, fun c6 => ⟨fun c1 c2 => ?_, ?_, ?_⟩, fun c6 => ?_⟩⟩
        · exfalso; rw [J_le (by omega) (by omega)] at c; omega
        · have hgs := E.2.2.1.s
          have hs := hv.s
          rw [hgs.2.2.2.2.1, J_le (by omega) (by omega)] at c1
          rw [J_le (by omega) (by omega)] at c2
          rw [E.2.2.2.1.2, J_mul, J_add, J_sub (by omega)]
          exact ⟨(by simp (disch := omega) only [J_add, J_mul, J_sub, J_cl, vp_J]; omega), trivial⟩
        · rw [r5.2.2.2.2]; exact (by simp (disch := omega) only [J_add, J_mul, J_sub, J_cl, vp_J]; omega)
        · have hx6 : x.1 = 6 := J_inj (by omega) (by omega) c6
          have ev : f_59 τ g s (J x.2) (J q) = eC mv stm q x.1 x.2 := by
            have hgs := E.2.2.1.s
            have hs := hv.s
            unfold f_59 eC
            rw [hx6, envR_6, hgs.2.2.2.2.1]
            by_cases c1 : mv 1 ≤ x.2
            · rw [if_pos (by rw [J_le (by omega) (by omega)]; exact c1), if_neg (by omega)]
            · rw [if_neg (by rw [J_le (by omega) (by omega)]; exact c1)]
              by_cases c2 : q ≤ 0
              · rw [if_pos (by rw [J_le (by omega) (by omega)]; exact c2), if_neg (by omega)]
              · rw [if_neg (by rw [J_le (by omega) (by omega)]; exact c2), if_pos (by omega), J_mul, J_add, J_sub (by omega), J_cl (by omega), E.2.2.2.2.1 _ (by omega), show x.2 * 96 + q - 1 = 96 * x.2 + q - 1 by omega]
          rw [ev, J_cl (by omega), J_add]
          exact go rfl (F.setI rfl) ⟨sI_same, hst.set (Nat.le_refl _)⟩ (by show st.length + 1 ≤ 24; omega)
        · refine c_partOf E hv c8 (fun h => c6 (by rw [h])) hx2 ⟨r4.2.2.2.2, ?_, ?_⟩
          · rw [r5.2.2.2.2]; exact (by simp (disch := omega) only [J_add, J_mul, J_sub, J_cl, vp_J]; omega)
          · rw [J_cl (by omega), J_add]
            exact go rfl (F.setI rfl) ⟨sI_same, hst.set (Nat.le_refl _)⟩ (by show st.length + 1 ≤ 24; omega)
      · rw [if_neg c24] at hst1'; cases hst1'
    · rw [J_lt (by omega) (by omega)] at c8
      exact c_join (hR.s5 F) (by omega) hst hl hst1 (fun τ2 f2 hs2 hl2 => go rfl (F.tr f2) hs2 hl2)
