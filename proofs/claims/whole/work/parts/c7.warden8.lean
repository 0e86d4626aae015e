/-! ===== warden: the class's answer ===== -/
variable {d : Nat} {B : Nat × Nat} {Q : Out → Sto → Prop} {P : Nat → Nat → Prop} {σ τ : Sto} {v i j k t p q X x0 y0 : Nat} {o s mv kv π tp : Mem} {l : List Nat} {img : Bool} {n : Nat} {fl : Option Nat} {r0 q0 pc : Nat} {dp : Nat → Nat → Int32}
def PDg (x0 : Nat) : Nat → Nat → Prop := fun p j => (p = x0 ∧ j = 12) ∨ (x0 + 98 ≤ p ∧ p ≤ x0 + 125)
theorem c_danger2 (h : CIv σ x0 mv kv img tp n fl) {o : Nat} (ho : o < mv 4) (hQ : ∀ τ, CIv τ x0 mv kv img tp n fl → Fr (PDg x0) σ τ → DRr τ (x0 + 120) mv (dpF mv (stO mv o) 0) → Q (.inl (some (.ref (x0 + 120)))) τ) : WP gT (d + 7) B 145 0 [.ref x0, .int (J o)] [] σ Q := by
  have hx := h.x
  have hv := h.mv_.1
  have ho1 := h.mv_.2.1.s
  have key : ∀ {Q : Out → Sto → Prop}, (∀ τ, CIv τ x0 mv kv img tp n fl → Fr (PDg x0) σ τ → S_11 τ x0 → CDd τ (x0 + 98) mv (dpF mv (stO mv o) 0) (lkF mv (stO mv o)) → Q (.inl (some (.ref (x0 + 98)))) τ) → WP gT (d + 6) (0, 0) 144 0 [.ref x0, .int (J o)] [] σ Q := by
    intro Q hQ
    refine g_144_0 h.sh ⟨fun e => ?_, fun _ => ⟨(by simp (disch := omega) only [J_add, J_mul, J_sub, J_cl, vp_J]; omega), ?_⟩⟩
    · rcases h.2 with e2 | ⟨o2, h1, h2, h3⟩
      · rw [e2] at e; exfalso; rw [n1_ne' (by omega)] at e; exact e
      · rw [h2] at e
        have : o2 = o := J_inj (by omega) (by omega) e
        subst this
        exact hQ σ h Fr.rf h.sh (CDd.of hv (by omega) h3)
    · rw [J_cl (by omega)]
      have hr := op_row (o := o) h.sh (by omega)
      have hD := h.mv_.2.2
      refine c_runFrom (st := stO mv o) (mv := mv) (sub_11_98_3 h.sh) (sub_11_25_4 h.sh) (by omega) (by omega) hv h.G hr.2.1 hr.2.2 (fun k hk => ?_) (fun k hk => h.mv_.2.1.o ho hk) (by omega) (by omega) (fun q hq => by omega) (fun τ hF hf => ?_)
      · rw [show x0 + 42 + o = x0 + 24 + 18 + o by omega]; exact hD.2.2.2.1 o ho k hk
      · have h2 := h.1.fr hF (fun p j k => by unfold SCf SCr; omega)
        have hF2 : Fr (SCf x0) τ (setI τ x0 12 (J o)) := Fr.rf.setI (by unfold SCf; omega)
        have hf2 : CFf (setI τ x0 12 (J o)) (x0 + 98) mv (stO mv o) 0 96 := by
          intro q hq
          have := hv.s
          refine ⟨?_, fun r hr => ?_⟩
          · rw [sI_any (by omega), sI_any (by omega), sI_any (by omega)]; exact (hf q hq).1
          · rw [sI_any (by omega), sI_any (by omega)]; exact (hf q hq).2 r hr
        refine ⟨hF.sh h.sh, hQ _ ⟨h2.fr hF2 (fun _ _ k => k), Or.inr ⟨o, ho, sI_same, hf2⟩⟩ ?_ (hF.sh h.sh) (CDd.of hv (by omega) hf2)⟩
        exact (hF.mono (fun p j k => by unfold PDg; omega)).setI (by unfold PDg; omega)
  refine g_145_0 h.sh (key (fun τ h2 hF hS hC => ⟨hS, ?_⟩))
  refine c_look (f := x0 + 98) (g := x0 + 25) (pl := x0 + 48) (D := x0 + 120) (sub_11_120_1 hS) (sub_11_98_3 hS) (sub_11_25_4 hS) (sub_11_48_6 hS) (by omega) (by omega) (by omega) hv h.mv_.2.1 h2.G h2.Pp hC (fun ρ hF2 hR => ⟨hF2.sh hS, hQ ρ (h2.fr hF2 (fun p j k => ?_)) (hF.tr (hF2.mono (fun p j k => ?_))) hR⟩)
  · unfold P10 at k; unfold SCr; omega
  · unfold P10 at k; unfold PDg; omega
/-- the warden's best order, and what is answered -/
def wdB (mv : Mem) (k1 r0 q0 pc : Nat) (x : Int32) : Nat × List Nat := boL (plL mv x).length (feL mv (dpF mv (stO mv k1) 0) (plS mv x) r0 q0 pc (plL mv x).length) 719 (List.range (plL mv x).length) none
def wdV (mv : Mem) (k1 r0 q0 pc : Nat) (x k : Int32) : Int64 := if k = -J 1 then N64 (wdB mv k1 r0 q0 pc x).1 else if J (plL mv x).length ≤ k then Int64.ofInt (-1) else N64 (orO (plS mv x) (wdB mv k1 r0 q0 pc x).2 k.toNatClampNeg)
/-- the list that is the best one is an order -/
theorem bo_ok {fe : List Nat → Nat} : ∀ t l b, chk v t l = true → (∀ bb, b = some bb → okL v bb.2 = true) → okL v (boL v fe t l b).2 = true := by
  intro t
  have pk : ∀ l b, okL v l = true → (∀ bb, b = some bb → okL v bb.2 = true) → okL v (pkB fe l b).2 = true := fun l b h1 h2 => by
    cases b with
    | none => exact h1
    | some bb =>
      show okL v (if fe l < bb.1 then (fe l, l) else bb).2 = true
      split
      · exact h1
      · exact h2 bb rfl
  induction t with
  | zero => intro l b hc hb; exact pk l b (chk_ok _ hc) hb
  | succ t ih =>
    intro l b hc hb
    have k := pk l b (chk_ok _ hc) hb
    show okL v (match nxtL v l with | none => pkB fe l b | some l' => boL v fe t l' (some (pkB fe l b))).2 = true
    cases e : nxtL v l with
    | none => exact k
    | some l' => exact ih l' _ (chk_s hc e) (fun bb hbb => by cases hbb; exact k)
theorem wd_lt {x0' : Int32} (h6 : (plL mv x0').length ≤ 6) (hk : k < (plL mv x0').length) : orO (plS mv x0') (wdB mv i r0 q0 pc x0').2 k < mv 3 := plS_lt ((ok_b (bo_ok 719 _ none (chk_all _ (by omega)) (fun bb e => by cases e))).1 k hk)
theorem k_J {x : Int32} (h : -J 1 ≤ x) (hn : ¬ x = -J 1) : ∃ k, k < 2147483648 ∧ x = J k := by
  have e : (-J 1 : Int32).toInt = -1 := by decide
  rw [Int32.le_iff_toInt_le, e] at h
  have hn2 : ¬ x.toInt = -1 := fun k => hn (Int32.toInt_inj.mp (k.trans e.symm))
  have := Int32.toInt_lt x
  exact ⟨x.toInt.toNat, by omega, J_or (by omega)⟩
theorem cc_warden (h : CIv σ x0 mv kv img tp n fl) (hB : 16 ≤ B.1 ∧ 1000 ≤ B.2) {a1 a2 a3 a4 a5 a6 : Int32}
    (h0 : ∀ k1 r q pc, k1 < mv 4 → r < mv 2 → q < 96 → pc ≤ 9 → (plL mv a5).length ≤ 6 → -J 1 ≤ a6 → a1 = J k1 → a2 = J r → a3 = J q → a4 = J pc → ∀ τ, CIv τ x0 mv kv img tp n fl → FCl σ τ → Q (.inl (some (.long (wdV mv k1 r q pc a5 a6)))) τ)
    (h1 : ¬ (IX a1 (mv 4) ∧ IX a2 (mv 2) ∧ IX a3 96) → Q (.inr 0) σ) (h2 : IX a1 (mv 4) ∧ IX a2 (mv 2) ∧ IX a3 96 → ¬ (IN a4 0 9 ∧ (plL mv a5).length ≤ 6 ∧ -J 1 ≤ a6) → Q (.inr 1) σ) : WP gT (d + 18) B 124 0 [.ref x0, .int a1, .int a2, .int a3, .int a4, .int a5, .int a6, .retAddr 0] [] σ Q := by
  have hx := h.x
  have hv := h.mv_.1
  have ho := h.mv_.2.1
  have hs := hv.s
  have ho1 := ho.s
  have e14 : sI σ (x0 + 25) 14 = J (mv 3) := h.G.s.2.2.2.2.2.2
  have hpop := pop_ (σ := σ) (x := a5) (pl := mv 3) (by omega)
  have hplen : (plL mv a5).length ≤ 12 := by
    obtain ⟨r, e⟩ := gth_add (p := mv 3) (b := bitO a5) 12 (by omega)
    have len12 : ∀ k, (gth (bitO a5) k).length ≤ k := by
      intro k
      induction k with
      | zero => exact Nat.le_refl _
      | succ k ih =>
        rw [gth_1]
        split
        · rw [List.length_append]; show _ + 1 ≤ _; omega
        · omega
    have := len12 (mv 3)
    unfold plL; omega
  refine g_124_0 h.sh hB ⟨fun c1 => ⟨fun c2 => ⟨fun c3 u hu => ?_, fun c => h1 (fun k => c (gQ.mpr k.2.2))⟩, fun c => h1 (fun k => c (h.gR.mpr k.2.1))⟩, fun c => h1 (fun k => c (h.gO.mpr k.1))⟩
  have i1 := h.gO.mp c1
  have i2 := h.gR.mp c2
  have i3 := gQ.mp c3
  rw [e14, hpop] at hu
  by_cases c : IN a4 0 9 ∧ (plL mv a5).length ≤ 6 ∧ -J 1 ≤ a6
  · obtain ⟨⟨pc, _, hpc, rfl⟩, hl6, hk⟩ := c
    obtain ⟨k1, hk1, rfl⟩ := i1
    obtain ⟨r, hr, rfl⟩ := i2
    obtain ⟨q, hq, rfl⟩ := i3
    have hl6' : (gth (bitO a5) (mv 3)).length ≤ 6 := hl6
    have hu1 : u = J 1 := by
      rw [hu, if_neg (by rw [J_lt (by omega) (by omega)]; omega), if_neg (by rw [J_lt (by omega) (by omega)]; omega), if_neg (by rw [J_lt (by omega) (by omega)]; omega), if_neg (Int32.not_lt.mpr hk)]
    clear hu
    subst hu1
    refine ⟨fun _ => ?_, fun e => absurd (by decide) e⟩
    have m := mask_ (mv 3) (by omega)
    rw [e14, m.1]
    refine g_2_0 (sub_11_126_0 h.sh) ?_
    dsimp only [oV]
    have f1 : Fr (fun p j => p = x0 + 126 ∧ 5 ≤ j) σ (setI (setI (setI σ (x0 + 126) 5 (J r)) (x0 + 126) 6 (J q)) (x0 + 126) 7 (J pc)) := ((Fr.rf.setI (by omega)).setI (by omega)).setI (by omega)
    have v5 : sI (setI (setI (setI σ (x0 + 126) 5 (J r)) (x0 + 126) 6 (J q)) (x0 + 126) 7 (J pc)) (x0 + 126) 5 = J r := by rw [sI_any (by omega), sI_any (by omega), sI_same]
    have v6 : sI (setI (setI (setI σ (x0 + 126) 5 (J r)) (x0 + 126) 6 (J q)) (x0 + 126) 7 (J pc)) (x0 + 126) 6 = J q := by rw [sI_any (by omega), sI_same]
    have v7 : sI (setI (setI (setI σ (x0 + 126) 5 (J r)) (x0 + 126) 6 (J q)) (x0 + 126) 7 (J pc)) (x0 + 126) 7 = J pc := sI_same
    generalize setI (setI (setI σ (x0 + 126) 5 (J r)) (x0 + 126) 6 (J q)) (x0 + 126) 7 (J pc) = χ at f1 v5 v6 v7 ⊢
    have hχ := h.fr f1 (fun p j k => by unfold SCr; omega)
    refine ⟨hχ.sh, c_danger2 hχ hk1 (fun τ h3 f3 hR => ⟨h3.sh, ?_⟩)⟩
    have hcut : gth (bitO (a5 &&& J (2 ^ mv 3 - 1))) 12 = plL mv a5 := gth_cut (b := bitO a5) (pl := mv 3) (fun p hp => bit_mask hp) (by omega)
    refine c_seekO (v := (plL mv a5).length) (s := plS mv a5) h3 hl6 hr hq hpc ((f3.i (by unfold PDg; omega)).trans v5) ((f3.i (by unfold PDg; omega)).trans v6) ((f3.i (by unfold PDg; omega)).trans v7) hR (by rw [hcut]) (fun i j hi hj => plS_le hi hj) (fun k hk => plS_lt hk) (fun k hk => by rw [hcut]; rfl) (fun ρ h4 f4 e1 w => ?_)
    have hFF : FCl σ ρ := ((FCl.of hx f1 (fun p j k => by omega)).tr (FCl.of hx f3 (fun p j k => by unfold PDg at k; omega))).tr (FCl.of hx f4 (fun p j k => by unfold PWd at k; omega))
    have h0 := h0 k1 r q pc hk1 hr hq hpc hl6 hk rfl rfl rfl rfl ρ h4 hFF
    unfold wdV at h0
    refine ⟨h4.sh, fun cn => ⟨fun c0 cv => ⟨?_, trivial⟩, trivial⟩, fun u13 h13 => ?_⟩
    · obtain ⟨kk, hkk, rfl⟩ := k_J hk cn
      rw [e1, J_le (by omega) (by omega)] at cv
      exact (by simp (disch := omega) only [J_add, J_mul, J_sub, J_cl, vp_J]; omega)
    · by_cases cn : a6 = -J 1
      · rw [if_pos cn] at h13 h0
        rw [h13, w.1]; exact h0
      · rw [if_neg cn] at h13 h0
        obtain ⟨kk, hkk, rfl⟩ := k_J hk cn
        unfold f_4 at h13
        rw [if_neg (by rw [J_lt (by omega) (by omega)]; omega), e1] at h13
        by_cases cv : (plL mv a5).length ≤ kk
        · rw [if_pos (by rw [J_le (by omega) (by omega)]; exact cv)] at h13 h0
          rw [h13]; exact h0
        · rw [if_neg (by rw [J_le (by omega) (by omega)]; exact cv)] at h13 h0
          have hlt := wd_lt (mv := mv) (i := k1) (r0 := r) (q0 := q) (pc := pc) (k := kk) hl6 (by omega)
          have ew : sI ρ (x0 + 126 + 2) kk = J (orO (plS mv a5) (wdB mv k1 r q pc a5).2 kk) := w.2 kk (by omega)
          rw [J_cl (by omega), ew, N64_J (by omega)] at h13
          rw [J_cl (by omega)] at h0
          rw [h13]; exact h0
  · have hu0 : u = J 0 := by
      rw [hu]
      by_cases q1 : a4 < J 0
      · rw [if_pos q1]
      rw [if_neg q1]
      by_cases q2 : J 9 < a4
      · rw [if_pos q2]
      rw [if_neg q2]
      by_cases q3 : J 6 < J (gth (bitO a5) (mv 3)).length
      · rw [if_pos q3]
      rw [if_neg q3]
      by_cases q4 : a6 < -J 1
      · rw [if_pos q4]
      have hplen' : (gth (bitO a5) (mv 3)).length ≤ 12 := hplen
      rw [J_lt (by omega) (by omega)] at q3
      exact absurd ⟨(isIn_J (by omega) (by omega)).mp ⟨Int32.not_lt.mp q1, Int32.not_lt.mp q2⟩, by show (gth (bitO a5) (mv 3)).length ≤ 6; omega, Int32.not_lt.mp q4⟩ c
    clear hu
    subst hu0
    exact ⟨fun e => absurd rfl e, fun _ => h2 ⟨i1, i2, i3⟩ c⟩
