/-! ===== rows copied, gates moved step by step; trials ===== -/
variable {d : Nat} {B : Nat × Nat} {Q : Out → Sto → Prop} {P : Nat → Nat → Prop} {σ τ : Sto} {x0 y0 : Nat} {mv kv : Mem} {img : Bool} {tp : Mem} {n : Nat} {fl : Option Nat}
theorem sI_row {p : Nat} {f : Nat → Int32} : sI (rowI σ p f) p = f := by show (up (sI σ) p f) p = f; rw [up_eq]
theorem sI_row' {p q : Nat} {f : Nat → Int32} (h : q ≠ p) : sI (rowI σ p f) q = sI σ q := by show (up (sI σ) p f) q = _; rw [up_ne h]
theorem Fr.row {p : Nat} {f : Nat → Int32} (h : Fr P σ τ) (hp : ∀ j, P p j) : Fr P σ (rowI τ p f) :=
  ⟨h.1, h.2.1, h.2.2.1, h.2.2.2.1, fun q j n => by rw [sI_row' (fun e : q = p => n (by rw [e]; exact hp j))]; exact h.2.2.2.2.1 q j n, h.2.2.2.2.2⟩
theorem c_copyRow {a b z : Nat} (ha : sK σ a = 14) (hb : sK σ b = 14) (za : sZ σ a = z) (zb : sZ σ b = z) (hz : z < 1000000) (hab : a ≠ b) (hQ : ∀ τ, Fr (fun p _ => p = b) σ τ → (∀ j, j < z → sI τ b j = sI σ a j) → Q (.inl none) τ) : WP gT (d + 2) B 156 0 [.ref a, .ref b] [] σ Q := by
  have e : (if Int32.ofNat (sZ σ b) < Int32.ofNat (sZ σ a) then Int32.ofNat (sZ σ b) else Int32.ofNat (sZ σ a)) = J z := by rw [za, zb]; split <;> rfl
  have hcl : (J z).toNatClampNeg = z := J_cl (by omega)
  have k1 : WP gT (d + 2) B 156 11 [.ref a, .ref b] [.int (J z), .int (J 0), .ref b, .int (J 0), .ref a] σ Q := by
    refine WP.run 2 (And.intro ⟨hb, ha, by decide, by decide, ?_, ?_, ?_, by omega, dl⟩ ?_)
    · rw [Int32.lt_iff_toInt_lt, J_int (by omega)]; show ¬ (z : Int) < 0; omega
    · rw [hcl, za]; show 0 + z ≤ z; omega
    · rw [hcl, zb]; show 0 + z ≤ z; omega
    · refine hQ _ (Fr.rf.row (fun j => rfl)) (fun j hj => ?_)
      rw [sI_row, hcl]
      show (if 0 ≤ j ∧ j < 0 + z then sI σ a (0 + (j - 0)) else _) = _
      rw [if_pos (by omega)]; congr 1; omega
  exact WP.run 9 (And.intro (len14 ha) (And.intro (len14 hb) (And.intro ⟨by omega, dl⟩ (ctopI e k1))))
/-! a gate that goes by a step -/
def twd (n s : Nat) : Nat := if s < n then s + 1 else if n < s then s - 1 else s
def gsv (n each s0 : Nat) : Nat → Nat
  | 0 => s0
  | i + 1 => if i % each = 0 then twd n (gsv n each s0 i) else gsv n each s0 i
def st0 (st : Mem) (g fr : Nat) : Nat := if fr = 0 then 0 else st (96 * g + fr - 1)
def gstp (st : Mem) (g fr n each : Nat) : Mem := fun k => if 96 * g + fr ≤ k ∧ k < 96 * g + 96 then gsv n each (st0 st g fr) (k - (96 * g + fr) + 1) else st k
theorem gsv_le {n each s0 : Nat} (hn : n ≤ 6) (hs : s0 ≤ 6) : ∀ i, gsv n each s0 i ≤ 6 := by
  intro i
  induction i with
  | zero => exact hs
  | succ i ih =>
    rw [show gsv n each s0 (i + 1) = if i % each = 0 then twd n (gsv n each s0 i) else gsv n each s0 i from rfl]
    unfold twd
    repeat' split
    all_goals omega
theorem gstp_le {st : Mem} {g fr n each : Nat} (hn : n ≤ 6) (hg : g < 4) (hf : fr < 96) (hs : ∀ k, k < 384 → st k ≤ 6) : ∀ k, k < 384 → gstp st g fr n each k ≤ 6 := by
  intro k hk
  unfold gstp
  split
  · refine gsv_le hn ?_ _
    unfold st0; split
    · omega
    · exact hs _ (by omega)
  · exact hs k hk
theorem gstp_gstp {st : Mem} {g fr n m each each' : Nat} : gstp (gstp st g fr m each') g fr n each = gstp st g fr n each := by
  funext k
  have h0 : st0 (gstp st g fr m each') g fr = st0 st g fr := by
    unfold st0
    split
    · rfl
    · unfold gstp; rw [if_neg (by omega)]
  unfold gstp
  by_cases c : 96 * g + fr ≤ k ∧ k < 96 * g + 96
  · rw [if_pos c, if_pos c]
    have h0 : st0 (fun k => if 96 * g + fr ≤ k ∧ k < 96 * g + 96 then gsv m each' (st0 st g fr) (k - (96 * g + fr) + 1) else st k) g fr = st0 st g fr := h0
    rw [h0]
  · rw [if_neg c, if_neg c, if_neg c]
theorem modJ {a b : Nat} (ha : a < 1000) (hb : b < 1000) (h0 : 0 < b) : (J a - J a / J b * J b = J 0) = (a % b = 0) := by
  have h1 := Nat.div_mul_le_self a b
  have h2 := Nat.mod_add_div a b
  rw [J_div (by omega) (by omega) h0, J_mul, J_sub h1, J_eq (by omega) (by omega)]
  rw [Nat.mul_comm b] at h2
  exact propext (by omega)
theorem modJ' {a b : Nat} (ha : a < 1000) (hb : b < 1000) (h0 : 0 < b) : (J a / J b * J b = J a) = (a % b = 0) := by
  have h1 := Nat.div_mul_le_self a b
  have h2 := Nat.mod_add_div a b
  rw [J_div (by omega) (by omega) h0, J_mul, J_eq (by omega) (by omega)]
  rw [Nat.mul_comm b] at h2
  exact propext (by omega)
theorem cmpJ {n s : Nat} (hn : n < 1000) (hs : s < 1000) : J s + f_315 σ (J n) (J s) = J (twd n s) := by
  unfold f_315 twd
  simp (disch := omega) only [J_add, J_mul, J_sub, J_cl, J_lt, J_le, J_eq, vp_J, n1_ne, n1_lt, n1_le, n1_nlt, n1_nle]
  by_cases c1 : n < s
  · have e : J s + -J 1 = J (s - 1) := by rw [← J_sub (by omega), Int32.sub_eq_add_neg]
    simp [c1, show ¬ s < n from by omega, show ¬ s ≤ n from by omega, e, show ¬ n = s from by omega]
  · by_cases c2 : n = s
    · subst c2; simp [J_add]
    · simp [c1, c2, show s < n from by omega, show s ≤ n from by omega, J_add]
theorem c_goStep {a g fr m each : Nat} {st : Mem} (hk : sK σ a = 14) (hz : sZ σ a = 384) (hst : ∀ k, k < 384 → sI σ a k = J (st k)) (hs6 : ∀ k, k < 384 → st k ≤ 6) (hg : g < 4) (hf : fr < 96) (hm : m ≤ 6) (he : 1 ≤ each) (he2 : each ≤ 96)
    (hQ : ∀ τ, Fr (fun p _ => p = a) σ τ → (∀ k, k < 384 → sI τ a k = J (gstp st g fr m each k)) → Q (.inl none) τ) : WP gT (d + 1) B 159 0 [.ref a, .int (J g), .int (J fr), .int (J m), .int (J each), .retAddr 0, .retAddr 0] [] σ Q := by
  have hs0 : st0 st g fr ≤ 6 := by
    unfold st0; split
    · omega
    · exact hs6 _ (by omega)
  refine g_159_0 hk ⟨fun c => ⟨?_, trivial⟩, fun u hu => ?_⟩
  · simp (disch := omega) only [J_add, J_mul, J_sub, J_cl, J_lt, J_le, J_eq, vp_J, n1_ne, n1_lt, n1_le, n1_nlt, n1_nle] at c
    simp (disch := omega) only [J_add, J_mul, J_sub, J_cl, J_lt, J_le, J_eq, vp_J, n1_ne, n1_lt, n1_le, n1_nlt, n1_nle, hz]; omega
  · have hu0 : u = J (gsv m each (st0 st g fr) 0) := by
      rw [hu]
      show _ = J (st0 st g fr)
      unfold st0
      by_cases c : fr = 0
      · rw [if_pos c, if_pos (by rw [c])]
      · rw [if_neg c, if_neg (by rw [J_eq (by omega) (by omega)]; exact c)]
        simp (disch := omega) only [J_add, J_mul, J_sub, J_cl, J_lt, J_le, J_eq, vp_J, n1_ne, n1_lt, n1_le, n1_nlt, n1_nle]
        rw [show g * 96 + fr - 1 = 96 * g + fr - 1 by omega, hst _ (by omega)]
    subst hu0
    have L : ∀ i τ, i ≤ 96 - fr → (Fr (fun p _ => p = a) σ τ ∧ ∀ k, k < 384 → sI τ a k = J (if 96 * g + fr ≤ k ∧ k < 96 * g + fr + i then gsv m each (st0 st g fr) (k - (96 * g + fr) + 1) else st k)) →
        WP gT (d + 1) B 159 23 [.ref a, .int (J g), .int (J fr), .int (J m), .int (J each), .int (J (gsv m each (st0 st g fr) i)), .int (J (fr + i))] [] τ Q := by
      refine upto (96 - fr) ?_ ?_
      · intro i τ hi hI ih
        obtain ⟨hF, h1⟩ := hI
        have hgl := gsv_le (each := each) hm hs0 i
        refine g_159_23 (by rw [hF.K]; exact hk) ⟨fun e => ?_, fun _ => ⟨fun _ => ⟨?_, trivial⟩, fun u2 h2 => ⟨?_, ?_⟩⟩⟩
        · exfalso; simp (disch := omega) only [J_add, J_mul, J_sub, J_cl, J_lt, J_le, J_eq, vp_J, n1_ne, n1_lt, n1_le, n1_nlt, n1_nle] at e; omega
        · rw [J_eq (by omega) (by omega)]; omega
        · rw [hF.Z, hz]; exact (by simp (disch := omega) only [J_add, J_mul, J_sub, J_cl, vp_J]; omega)
        · have e2 : u2 = J (gsv m each (st0 st g fr) (i + 1)) := by
            rw [h2, show gsv m each (st0 st g fr) (i + 1) = if i % each = 0 then twd m (gsv m each (st0 st g fr) i) else gsv m each (st0 st g fr) i from rfl, J_sub (by omega), show fr + i - fr = i by omega, cv_157 he (by omega), cmpJ (by omega) (by omega)]
            simp only [modJ' (show i < 1000 by omega) (show each < 1000 by omega) he]
            split <;> rfl
          rw [e2, J_add, show fr + i + 1 = fr + (i + 1) from rfl]
          simp (disch := omega) only [J_mul, J_add, J_cl]
          refine ih _ ⟨hF.setI rfl, fun k hk2 => ?_⟩
          by_cases c : k = g * 96 + (fr + i)
          · subst c; rw [sI_same, if_pos (by omega), show g * 96 + (fr + i) - (96 * g + fr) + 1 = i + 1 by omega]
          · rw [sI_any (by omega), h1 k hk2]
            by_cases c2 : 96 * g + fr ≤ k ∧ k < 96 * g + fr + i
            · rw [if_pos c2, if_pos (by omega)]
            · rw [if_neg c2, if_neg (by omega)]
      · intro τ hI
        refine g_159_23 (by rw [hI.1.K]; exact hk) ⟨fun _ => hQ τ hI.1 (fun k hk2 => ?_), fun e => ?_⟩
        · rw [hI.2 k hk2]; unfold gstp; rw [show 96 * g + fr + (96 - fr) = 96 * g + 96 by omega]
        · exfalso; simp (disch := omega) only [J_add, J_mul, J_sub, J_cl, J_lt, J_le, J_eq, vp_J, n1_ne, n1_lt, n1_le, n1_nlt, n1_nle] at e; omega
    exact L 0 σ (by omega) ⟨Fr.rf, fun k hk2 => by rw [if_neg (by omega)]; exact hst k hk2⟩
/-! trials -/
theorem tr_10 (h : S_11 σ x0) : S_10 σ (x0 + 130) := sub_11_130_10 h
theorem tr_st (h : S_11 σ x0) : sK σ (x0 + 159) = 14 ∧ sZ σ (x0 + 159) = 384 := h.1 159 (by decide)
theorem c_runT {st : Mem} {more m s : Nat} (h : CIv σ x0 mv kv img tp n fl) (hk : sK σ s = 14) (hz : sZ σ s = 384) (hs : s < x0 + 131 ∨ x0 + 153 ≤ s) (hst : ∀ k, k < 384 → sI σ s k = J (st k)) (hs6 : ∀ k, k < 384 → st k ≤ 6) (hm : more ≤ 9) (hm2 : m ≤ 96) (hf : CFf σ (x0 + 131) mv st more m)
    (hQ : ∀ τ, CIv τ x0 mv kv img tp n fl → Fr (fun p _ => x0 + 132 ≤ p ∧ p ≤ x0 + 152) σ τ → CFf τ (x0 + 131) mv st more 96 → Q (.inl none) τ) : WP gT (d + 5) B 25 0 [.ref (x0 + 131), .ref (x0 + 25), .ref s, .int (J m), .int (J more), .retAddr 0] [] σ Q := by
  have hx := h.x
  refine c_runFrom (sub_11_131_3 h.sh) (sub_11_25_4 h.sh) (by omega) (by omega) h.mv_.1 h.G hk hz hst hs6 hm hm2 hf (fun τ hF hf2 => ?_)
  exact hQ τ (h.fr hF (fun p j k => by unfold SCr; omega)) (hF.mono (fun p j k => by omega)) hf2
def jdg (mv st : Mem) (more : Nat) : Nat := jud mv (dpF mv st more) (lkF mv st) (fea mv (dpF mv st more) (cpM mv) (caM mv) (mv 6) (mv 5))
theorem c_judT {st : Mem} {more : Nat} (h : CIv σ x0 mv kv img tp n fl) (hm : more ≤ 9) (hf : CFf σ (x0 + 131) mv st more 96) (hQ : ∀ τ, CIv τ x0 mv kv img tp n fl → Fr (fun p _ => x0 + 154 ≤ p ∧ p ≤ x0 + 158) σ τ → Q (.inl (some (.int (J (jdg mv st more))))) τ) : WP gT (d + 4) B 23 0 [.ref (x0 + 24), .ref (x0 + 131), .ref (x0 + 153)] [] σ Q := by
  have hx := h.x
  have hD := h.mv_.2.2.2.2.1
  refine c_judged (x0 := x0 + 24) (f := x0 + 131) (D := x0 + 153) (sub_11_24_2 h.sh) (sub_11_131_3 h.sh) (sub_11_153_1 h.sh) (by omega) (by omega) h.mv_.1 h.mv_.2.1 h.G h.Pp ⟨hD.2.2.1, hD.2.2.2.1, hD.2.2.2.2.1⟩ (CDd.of h.mv_.1 hm hf) (fun τ hF => hQ τ (h.fr hF (fun p j k => ?_)) (hF.mono (fun p j k => ?_)))
  · unfold P10 at k; unfold SCr; omega
  · unfold P10 at k; omega
theorem CFf.fr {f : Nat} {st : Mem} {more m : Nat} (hv : VG mv) (h : CFf σ f mv st more m) (k : Fr P σ τ) (hP : ∀ i j, 1 ≤ i → i ≤ 21 → ¬ P (f + i) j) : CFf τ f mv st more m := by
  have hs := hv.s
  intro q hq
  refine ⟨?_, fun r hr => ?_⟩
  · rw [k.i (hP 1 _ (by omega) (by omega)), k.i (hP 2 _ (by omega) (by omega)), k.i (hP 3 _ (by omega) (by omega))]; exact (h q hq).1
  · rw [show f + 5 + r = f + (5 + r) by omega, show f + 14 + r = f + (14 + r) by omega, k.i (hP _ _ (by omega) (by omega)), k.i (hP _ _ (by omega) (by omega)), show f + (5 + r) = f + 5 + r by omega, show f + (14 + r) = f + 14 + r by omega]
    exact (h q hq).2 r hr
/-- the most rain that it bears, of the first m -/
def bs9 (mv st : Mem) : Nat → Int32
  | 0 => -J 1
  | m + 1 => if jdg mv st m = 0 then J m else bs9 mv st m
theorem jdg_le (mv st : Mem) (more : Nat) : jdg mv st more ≤ 4 := jud_le _ _ _ _
theorem Jn1 {q : Nat} : J (q + 1) + -J 1 = J q := by rw [← Int32.sub_eq_add_neg, J_sub (by omega)]; rfl
theorem J01' : J 0 + -J 1 = -J 1 := by decide
theorem cc_bears (h : CIv σ x0 mv kv img tp n fl) (hB : 16 ≤ B.1 ∧ 1000 ≤ B.2) {a1 : Int32}
    (h0 : ∀ k1, k1 < mv 4 → a1 = J k1 → ∀ τ, CIv τ x0 mv kv img tp n fl → FCl σ τ → Q (.inl (some (.int (bs9 mv (stO mv k1) 10)))) τ) (h1 : ¬ (IX a1 (mv 4)) → Q (.inr 0) σ) : WP gT (d + 18) B 126 0 [.ref x0, .int a1] [] σ Q := by
  have hx := h.x
  have hv := h.mv_.1
  have ho := h.mv_.2.1
  have hs := hv.s
  have ho1 := ho.s
  refine g_126_0 h.sh hB ⟨fun c1 => ?_, fun c1 => h1 (fun k => c1 (h.gO.mpr k))⟩
  obtain ⟨k1, hk1, rfl⟩ := h.gO.mp c1
  have h0 := h0 k1 hk1 rfl
  have hr := op_row (o := k1) h.sh (by omega)
  refine ⟨(by simp (disch := omega) only [J_add, J_mul, J_sub, J_cl, vp_J]; omega), ?_⟩
  rw [J_cl (by omega)]
  have hrow : ∀ ρ, CIv ρ x0 mv kv img tp n fl → ∀ k, k < 384 → sI ρ (x0 + 42 + k1) k = J (stO mv k1 k) := fun ρ h2 k hk => by
    rw [show x0 + 42 + k1 = x0 + 24 + 18 + k1 by omega]; exact h2.mv_.2.2.2.2.2.1 k1 hk1 k hk
  refine g_90_0 ?_
  have L := downto (I := fun _ τ => CIv τ x0 mv kv img tp n fl ∧ FCl σ τ) (W := fun m τ => m ≤ 10 → (∀ ρ, CIv ρ x0 mv kv img tp n fl → FCl σ ρ → Q (.inl (some (.int (bs9 mv (stO mv k1) m)))) ρ) → WP gT (d + 17) (0, 0) 90 3 [.ref (x0 + 130), .ref (x0 + 24), .ref (x0 + 42 + k1), .int (J m + -J 1)] [] τ (oI (fun v3 τ4 => Q (.inl (some (.int v3))) τ4) (fun _ _ => False))) (fun m τ hI ih hm hq => ?_) (fun τ hI _ hq => ?_) 10 σ ⟨h, FCl.rf⟩ (by omega) h0
  · exact L
  · rw [Jn1]
    have hc := hI.1
    refine g_90_3 (tr_10 hc.sh) (sub_11_24_2 hc.sh) ⟨fun e => ?_, fun _ => ?_⟩
    · exfalso; simp (disch := omega) only [J_add, J_mul, J_sub, J_cl, J_lt, J_le, J_eq, vp_J, n1_ne, n1_lt, n1_le, n1_nlt, n1_nle] at e; omega
    · refine c_runT (st := stO mv k1) (more := m) (m := 0) hc (op_row (o := k1) hc.sh (by omega)).2.1 (op_row (o := k1) hc.sh (by omega)).2.2 (by omega) (hrow τ hc) (fun k hk => ho.o hk1 hk) (by omega) (by omega) (fun q hq => by omega) (fun ρ h2 hF hf => ⟨tr_10 h2.sh, sub_11_24_2 h2.sh, ?_⟩)
      refine c_judT h2 (by omega) hf (fun χ h3 hG => ?_)
      have hFF : FCl σ χ := (hI.2.tr (FCl.of hx hF (fun p j k => by omega))).tr (FCl.of hx hG (fun p j k => by omega))
      have hjl := jdg_le mv (stO mv k1) m
      dsimp only [oI]
      rw [J_eq (by omega) (by omega)]
      have hq : ∀ ρ, CIv ρ x0 mv kv img tp n fl → FCl σ ρ → Q (.inl (some (.int (if jdg mv (stO mv k1) m = 0 then J m else bs9 mv (stO mv k1) m)))) ρ := hq
      refine ⟨fun e => ?_, fun e => ?_⟩
      · have := hq χ h3 hFF; rw [if_pos e] at this; exact this
      · exact ih χ ⟨h3, hFF⟩ (by omega) (fun ρ a b => by have := hq ρ a b; rw [if_neg e] at this; exact this)
  · rw [J01']
    exact g_90_3 (tr_10 hI.1.sh) (sub_11_24_2 hI.1.sh) ⟨fun _ => hq τ hI.1 hI.2, fun e => absurd (by decide) e⟩
theorem rr_bears (hy : y0 = 260) (hv : VG mv) (ho : VOo mv) (h : RIv σ y0 mv kv img tp n fl) {a1 : Int32}
    (h0 : ∀ k1, k1 < mv 4 → a1 = J k1 → ∀ τ, RIv τ y0 mv kv img tp n fl → FRf σ τ → sI τ y0 0 = J 0 → Q (.inl (some (.int (bs9 mv (stO mv k1) 10)))) τ) (h1 : ¬ (IX a1 (mv 4)) → ∀ τ v, RIv τ y0 mv kv img tp n fl → FRf σ τ → sI τ y0 0 = J 1 → Q (.inl (some (.int v))) τ) : WP gT (d + 8) B 248 0 [.ref y0, .int a1, .retAddr 0, .retAddr 0] [] σ Q := by
  have hs := hv.s
  have ho1 := ho.s
  by_cases c : IX a1 (mv 4)
  · obtain ⟨k1, hk1, rfl⟩ := c
    have t1 : ¬ f_167 σ y0 (J k1) = J 0 := fun e => (r167 h.2.1 ho).mp e ⟨k1, hk1, rfl⟩
    have h0 := h0 k1 hk1 rfl
    refine g_248_0 h.1 ?_
    simp only [if_neg t1]
    refine ⟨fun _ => ?_, fun e => absurd ret0 e⟩
    refine r_takes (mv := mv) h.thr.1 h.thr.2.1 (by omega) (fun τ hF hst hm0 => ?_)
    dsimp only [oV]
    have h2 := h.thr.fr hF (fun p j k _ _ => by unfold SRr; omega)
    refine ⟨h2.1, r_laysCalls h2.1 h2.2.1 ho hv (fun ρ hG hc => ?_)⟩
    have h3 := h2.fr hG (fun p j k _ _ => by unfold P228 at k; unfold SRr; omega)
    have hFF : FRf σ ρ := ((FRf.th hy).tr (FRf.of hy hF (fun p j k => by omega))).tr (FRf.of hy hG (fun p j k => by unfold P228 at k; omega))
    have ht : sI ρ y0 0 = J 0 := (hG.i (by unfold P228; omega)).trans ((hF.i (by omega)).trans sI_same)
    have hst2 : ∀ k, k < 384 → sI ρ (y0 + 5) k = J (stO mv k1 k) := fun k hk => (hG.i (by unfold P228; omega)).trans (hst k hk)
    refine upto (I := fun _ χ => RIv χ y0 mv kv img tp n fl ∧ FRf σ χ ∧ sI χ y0 0 = J 0 ∧ RCc χ y0 (cpM mv) (caM mv) (mv 6) ∧ ∀ k, k < 384 → sI χ (y0 + 5) k = J (stO mv k1 k)) (W := fun m χ => WP gT (d + 8) B 248 39 [.ref y0, .int (J k1), .int (bs9 mv (stO mv k1) m), .int (J m)] [] χ Q) 10 ?_ ?_ 0 ρ (by omega) ⟨h3, hFF, ht, hc, hst2⟩
    · intro m χ hm hI ih
      obtain ⟨i1, i2, i3, i4, i5⟩ := hI
      have hF4 : Fr (fun p j => p = y0 ∧ j = 20) χ (setI χ y0 20 (J m)) := Fr.rf.setI ⟨rfl, rfl⟩
      have i1' := i1.fr hF4 (fun p j k _ _ => by unfold SRr; omega)
      refine g_248_39 i1.1 ⟨fun e => ?_, fun _ => ?_⟩
      · exfalso; simp (disch := omega) only [J_add, J_mul, J_sub, J_cl, J_lt, J_le, J_eq, vp_J, n1_ne, n1_lt, n1_le, n1_nlt, n1_nle] at e; omega
      · refine r_runs (st := stO mv k1) (more := m) i1'.1 hv i1'.2.1 (fun k hk => ?_) (fun k hk => ho.o hk1 hk) sI_same (fun φ hF5 hf => ?_)
        · rw [sI_any (by omega)]; exact i5 k hk
        · have i1'' := i1'.fr hF5 (fun p j k _ _ => by unfold P200 at k; unfold SRr; omega)
          have hc5 := (i4.fr hF4 (fun i j hi k => by omega) (by omega)).fr hF5 (fun i j hi k => by unfold P200 at k; omega) (by unfold P200; omega)
          refine ⟨i1''.1, r_judged i1''.1 (RDd.of i1''.2.1 hf) hv ho hc5 ?_⟩
          have hjl := jdg_le mv (stO mv k1) m
          dsimp only [oI]
          rw [J_add]
          have e : (if J (jud mv (dpF mv (stO mv k1) m) (lkF mv (stO mv k1)) (fea mv (dpF mv (stO mv k1) m) (cpM mv) (caM mv) (mv 6) (mv 5))) = J 0 then J m else bs9 mv (stO mv k1) m) = bs9 mv (stO mv k1) (m + 1) := by
            show (if J (jdg mv (stO mv k1) m) = J 0 then J m else bs9 mv (stO mv k1) m) = if jdg mv (stO mv k1) m = 0 then J m else bs9 mv (stO mv k1) m
            simp (disch := omega) only [J_eq]
          rw [e]
          refine ih φ ⟨i1'', (i2.tr (FRf.of hy hF4 (fun p j k => by omega))).tr (FRf.of hy hF5 (fun p j k => by unfold P200 at k; omega)), ?_, hc5, fun k hk => ?_⟩
          · rw [hF5.i (by unfold P200; omega), sI_any (by omega)]; exact i3
          · rw [hF5.i (by unfold P200; omega), sI_any (by omega)]; exact i5 k hk
    · intro χ hI
      obtain ⟨i1, i2, i3, i4, i5⟩ := hI
      have hF4 : Fr (fun p j => p = y0 ∧ j = 20) χ (setI χ y0 20 (J 0)) := Fr.rf.setI ⟨rfl, rfl⟩
      refine g_248_39 i1.1 ⟨fun _ => h0 _ (i1.fr hF4 (fun p j k _ _ => by unfold SRr; omega)) (i2.tr (FRf.of hy hF4 (fun p j k => by omega))) (by rw [sI_any (by omega)]; exact i3), fun e => ?_⟩
      exfalso; simp (disch := omega) only [J_add, J_mul, J_sub, J_cl, J_lt, J_le, J_eq, vp_J, n1_ne, n1_lt, n1_le, n1_nlt, n1_nle] at e; omega
  · refine g_248_0 h.1 ?_
    have hu1 : (if (f_167 σ y0 a1) = (J 0) then (J 1) else (J 0)) = J 1 := by
      by_cases q1 : f_167 σ y0 a1 = J 0
      · rw [if_pos q1]
      rw [if_neg q1]
      exact absurd (Classical.not_not.mp (fun e => q1 ((r167 h.2.1 ho).mpr e))) c
    rw [hu1]
    exact ⟨fun e => absurd e ret1, fun _ => h1 c _ _ h.thr (FRf.th hy) sI_same⟩
