/-! ===== an opening that follows a rule ===== -/
variable {d : Nat} {B : Nat × Nat} {Q : Out → Sto → Prop} {P : Nat → Nat → Prop} {σ τ : Sto} {x0 y0 r i : Nat} {mv kv st st' : Mem} {img : Bool} {tp : Mem} {n q g : Nat} {fl : Option Nat} {R : List RLn}
theorem eC_cong (he : ∀ g a, g < mv 1 → a < q → st (96 * g + a) = st' (96 * g + a)) : eC mv st q = eC mv st' q := by
  funext k f
  have e1 := lkF_congr (mv := mv) q he
  have e2 : dpF mv st 0 q = dpF mv st' 0 q := by funext r; unfold dpF; rw [rcF_congr q he]
  have e3 : (if f < mv 1 ∧ 0 < q then J (st (96 * f + q - 1)) else J 0) = (if f < mv 1 ∧ 0 < q then J (st' (96 * f + q - 1)) else J 0) := by
    by_cases c : f < mv 1 ∧ 0 < q
    · rw [if_pos c, if_pos c, show 96 * f + q - 1 = 96 * f + (q - 1) by omega, he f (q - 1) c.1 (by omega)]
    · rw [if_neg c, if_neg c]
  unfold eC envR
  simp only [e1, e2, e3]
/-- the steps of the first q quarters, where it follows the rule -/
def folS (mv : Mem) (R : List RLn) : Nat → Mem
  | 0 => fun _ => 0
  | q + 1 => fun k => if k % 96 = q ∧ k / 96 < mv 1 then (match saysR (eC mv (folS mv R q) q) (k / 96) R with | none => if q = 0 then 0 else folS mv R q (k - 1) | some s => s) else folS mv R q k
/-- within quarter q, the first g gates told -/
def folM (mv : Mem) (R : List RLn) (q g : Nat) : Mem := fun k => if k % 96 = q ∧ k / 96 < g then folS mv R (q + 1) k else folS mv R q k
theorem folM_0 : folM mv R q 0 = folS mv R q := by funext k; unfold folM; rw [if_neg (by omega)]
theorem folM_1 : folM mv R q (mv 1) = folS mv R (q + 1) := by
  funext k
  unfold folM
  by_cases c : k % 96 = q ∧ k / 96 < mv 1
  · rw [if_pos c]
  · rw [if_neg c]
    show _ = if k % 96 = q ∧ k / 96 < mv 1 then _ else folS mv R q k
    rw [if_neg c]
theorem folM_lt {a : Nat} (hq : q < 96) (ha : a < q) (gg : Nat) : folM mv R q g (96 * gg + a) = folS mv R q (96 * gg + a) := by
  unfold folM; rw [if_neg (by omega)]
theorem folM_c (gg : Nat) {a : Nat} (hq : q < 96) (ha : a < q) : folS mv R q (96 * gg + a) = folM mv R q g (96 * gg + a) := (folM_lt hq ha gg).symm
theorem folM_e (hq : q < 96) : eC mv (folM mv R q g) q = eC mv (folS mv R q) q := eC_cong (fun gg a _ ha => folM_lt hq ha gg)
theorem saysR_6 {e : Env} (hl : ∀ x, x ∈ R → LNok x) {v : Nat} (h : saysR e g R = some v) : v ≤ 6 := by
  induction R with
  | nil => cases h
  | cons x l ih =>
    have h : (if x.1 = g ∧ ¬ x.2.2.2 e = J 0 then some x.2.1 else saysR e g l) = some v := h
    by_cases c : x.1 = g ∧ ¬ x.2.2.2 e = J 0
    · rw [if_pos c] at h; cases h; exact (hl x (List.mem_cons_self ..)).2.1
    · rw [if_neg c] at h; exact ih (fun y hy => hl y (List.mem_cons_of_mem _ hy)) h
theorem folS_6 (hl : ∀ x, x ∈ R → LNok x) : ∀ q k, folS mv R q k ≤ 6 := by
  intro q
  induction q with
  | zero => intro k; exact Nat.zero_le _
  | succ q ih =>
    intro k
    show (if k % 96 = q ∧ k / 96 < mv 1 then (match saysR (eC mv (folS mv R q) q) (k / 96) R with | none => if q = 0 then 0 else folS mv R q (k - 1) | some s => s) else folS mv R q k) ≤ 6
    by_cases c : k % 96 = q ∧ k / 96 < mv 1
    · rw [if_pos c]
      cases e : saysR (eC mv (folS mv R q) q) (k / 96) R with
      | none =>
        show (if q = 0 then 0 else folS mv R q (k - 1)) ≤ 6
        by_cases c0 : q = 0
        · rw [if_pos c0]; omega
        · rw [if_neg c0]; exact ih _
      | some s => exact saysR_6 hl e
    · rw [if_neg c]; exact ih k
theorem folM_6 (hl : ∀ x, x ∈ R → LNok x) : ∀ k, folM mv R q g k ≤ 6 := by
  intro k
  unfold folM
  by_cases c : k % 96 = q ∧ k / 96 < g
  · rw [if_pos c]; exact folS_6 hl _ _
  · rw [if_neg c]; exact folS_6 hl _ _
/-- the value that is put for gate g -/
theorem folM_s (hq : q < 96) (hg : g < mv 1) : ∀ v : Int32, v = SYf (-J 1) (saysR (eC mv (folS mv R q) q) g R) → (∀ s, saysR (eC mv (folS mv R q) q) g R = some s → s ≤ 6) → (if v = -J 1 then (if q = 0 then J 0 else J (folM mv R q g (96 * g + q - 1))) else v) = J (folS mv R (q + 1) (96 * g + q)) := by
  intro v hv h6
  have e1 : folS mv R (q + 1) (96 * g + q) = (match saysR (eC mv (folS mv R q) q) g R with | none => if q = 0 then 0 else folS mv R q (96 * g + q - 1) | some s => s) := by
    show (if (96 * g + q) % 96 = q ∧ (96 * g + q) / 96 < mv 1 then (match saysR (eC mv (folS mv R q) q) ((96 * g + q) / 96) R with | none => if q = 0 then 0 else folS mv R q (96 * g + q - 1) | some s => s) else _) = _
    rw [show (96 * g + q) / 96 = g by omega, if_pos ⟨by omega, hg⟩]
  rw [e1]
  cases e : saysR (eC mv (folS mv R q) q) g R with
  | none =>
    rw [e] at hv
    have hv : v = -J 1 := hv
    rw [if_pos hv]
    show _ = J (if q = 0 then 0 else folS mv R q (96 * g + q - 1))
    by_cases c : q = 0
    · rw [if_pos c, if_pos c]
    · rw [if_neg c, if_neg c, show 96 * g + q - 1 = 96 * g + (q - 1) by omega, folM_lt hq (by omega)]
  | some s =>
    rw [e] at hv h6
    have hv : v = J s := hv
    have := h6 s rfl
    rw [if_neg (fun c => by rw [hv, n1_ne (by omega)] at c; exact c), hv]
theorem folM_next {k : Nat} (hq : q < 96) (hk : k ≠ 96 * g + q) : folM mv R q (g + 1) k = folM mv R q g k := by
  unfold folM
  by_cases c : k % 96 = q ∧ k / 96 < g
  · rw [if_pos c, if_pos (by omega)]
  · rw [if_neg c, if_neg (by omega)]
theorem folM_at (hq : q < 96) : folM mv R q (g + 1) (96 * g + q) = folS mv R (q + 1) (96 * g + q) := by
  unfold folM; rw [if_pos (by omega)]
def Pob (x0 r : Nat) : Nat → Nat → Prop := fun p _ => (x0 + 132 ≤ p ∧ p ≤ x0 + 152) ∨ p = x0 + 159 ∨ p = r + 5
theorem Pob_S (hx : x0 = 96) (hr : 278 ≤ r ∧ r % 6 = 2) : ∀ p j, Pob x0 r p j → SCr x0 p j := fun p j k => by unfold Pob at k; unfold SCr; omega
theorem c_obey (h : CIv σ x0 mv kv img tp n fl) (hR : RuleAt σ r R) (hl : ∀ x, x ∈ R → LNok x)
    (hQ : ∀ τ, CIv τ x0 mv kv img tp n fl → Fr (Pob x0 r) σ τ → CFf τ (x0 + 131) mv (folS mv R 96) 0 96 → (∀ k, k < 384 → sI τ (x0 + 159) k = J (folS mv R 96 k)) → Q (.inl none) τ) : WP gT (d + 6) B 92 0 [.ref (x0 + 130), .ref (x0 + 24), .ref r, .retAddr 0, .retAddr 0, .retAddr 0, .retAddr 0] [] σ Q := by
  have hx := h.x
  have hv := h.mv_.1
  have hs := hv.s
  have hr := hR.1
  have ht := tr_st h.sh
  refine g_92_0 (tr_10 h.sh) ?_
  rw [show x0 + 130 + 29 = x0 + 159 by omega]
  refine c_fill ht.1 ht.2 (by omega) (fun τ1 f1 z1 => ?_)
  dsimp only [oV]
  have L : ∀ m q τ x4 x5 x6, q + m = 96 → Fr (Pob x0 r) σ τ → CFf τ (x0 + 131) mv (folS mv R q) 0 q → (∀ k, k < 384 → sI τ (x0 + 159) k = J (folS mv R q k)) → WP gT (d + 6) B 92 10 [.ref (x0 + 130), .ref (x0 + 24), .ref r, .int (J q), x4, x5, x6] [] τ Q := by
    intro m
    induction m with
    | zero =>
      intro q τ x4 x5 x6 hq F hf hz
      have hq : q = 96 := by omega
      subst hq
      exact g_92_10 ⟨fun _ => hQ τ (h.fr F (Pob_S hx ⟨hr.1, hr.2.2.1⟩)) F hf hz, fun c => absurd (by decide) c⟩
    | succ m ih =>
      intro q τ x4 x5 x6 hq F hf hz
      refine g_92_10 ⟨fun c => absurd c (by rw [J_le (by omega) (by omega)]; omega), fun _ => ?_⟩
      have G : ∀ m2 g τ x5 x6, g + m2 = mv 1 → Fr (Pob x0 r) σ τ → CFf τ (x0 + 131) mv (folS mv R q) 0 q → (∀ k, k < 384 → sI τ (x0 + 159) k = J (folM mv R q g k)) → WP gT (d + 6) B 92 19 [.ref (x0 + 130), .ref (x0 + 24), .ref r, .int (J q), .int (J g), x5, x6] [] τ Q := by
        intro m2
        induction m2 with
        | zero =>
          intro g τ x5 x6 hg F hf hz
          have hg : g = mv 1 := by omega
          subst hg
          have h2 := h.fr F (Pob_S hx ⟨hr.1, hr.2.2.1⟩)
          have hR2 := hR.mv_ F.grow (fun j => by rw [F.P]) (fun a j ha => F.i (by unfold Pob; omega))
          have ht2 := tr_st h2.sh
          rw [folM_1] at hz
          refine g_92_19 (sub_11_24_2 h2.sh) (tr_10 h2.sh) hR2.2.1 ⟨fun _ => ?_, fun c => ?_⟩
          · refine c_runQuarter (f := x0 + 130 + 1) (g := x0 + 24 + 1) (s := x0 + 130 + 29) (st := folS mv R (q + 1)) (sub_11_131_3 h2.sh) (sub_11_25_4 h2.sh) (by omega) (by omega) hv h2.G ht2.1 ht2.2 hz (fun k _ => folS_6 hl _ _) (by omega) (by omega) ?_ (fun ρ F2 hf2 => ?_)
            · refine hf.cong (fun gg a _ ha => ?_)
              have := folM_lt (mv := mv) (R := R) (g := mv 1) (by omega : q < 96) ha gg
              rw [folM_1] at this
              exact this.symm
            · dsimp only [oV]
              rw [J_add]
              have F3 : Fr (Pob x0 r) σ ρ := F.tr (F2.mono (fun p j k => by unfold P26 at k; unfold Pob; omega))
              exact ih (q + 1) ρ _ _ _ (by omega) F3 hf2 (fun k hk => (F2.i (by unfold P26; omega)).trans (hz k hk))
          · exfalso; apply c
            have := h2.G.s.2.2.2.2.1
            rw [show x0 + 24 + 1 = x0 + 25 by omega, this, J_le (by omega) (by omega)]; exact Nat.le_refl _
        | succ m2 ih2 =>
          intro g τ x5 x6 hg F hf hz
          have h2 := h.fr F (Pob_S hx ⟨hr.1, hr.2.2.1⟩)
          have hR2 := hR.mv_ F.grow (fun j => by rw [F.P]) (fun a j ha => F.i (by unfold Pob; omega))
          have ht2 := tr_st h2.sh
          refine g_92_19 (sub_11_24_2 h2.sh) (tr_10 h2.sh) hR2.2.1 ⟨fun c => ?_, fun _ => ?_⟩
          · exfalso
            have := h2.G.s.2.2.2.2.1
            rw [show x0 + 24 + 1 = x0 + 25 by omega, this, J_le (by omega) (by omega)] at c; omega
          · have E : CEv τ (x0 + 130 + 1) (x0 + 24 + 1) (x0 + 130 + 29) mv (folM mv R q g) q := ⟨sub_11_131_3 h2.sh, sub_11_25_4 h2.sh, h2.G, ht2, hz, hf.cong (fun gg a _ ha => folM_c gg (by omega) ha), by omega⟩
            refine c_stepFor hR2 hl hv E (by omega) (by omega) (fun ρ F2 => ?_)
            rw [folM_e (by omega)]
            have F3 : Fr (Pob x0 r) σ ρ := F.tr (F2.mono (fun p j k => by unfold Pob; omega))
            have h3 := h.fr F3 (Pob_S hx ⟨hr.1, hr.2.2.1⟩)
            have hz3 : ∀ k, k < 384 → sI ρ (x0 + 159) k = J (folM mv R q g k) := fun k hk => (F2.i (by omega)).trans (hz k hk)
            refine ⟨tr_10 h3.sh, fun c => ⟨?_, trivial⟩, fun u hu => ?_⟩
            · have : ¬ q = 0 := fun e => c (by rw [e])
              rw [J_mul, J_add, J_sub (by omega)]; exact (by simp (disch := omega) only [J_add, J_mul, J_sub, J_cl, vp_J]; omega)
            · rw [J_mul, J_add]
              refine ⟨(by simp (disch := omega) only [J_add, J_mul, J_sub, J_cl, vp_J]; omega), ?_⟩
              have hu2 : u = (if q = 0 then J 0 else J (folM mv R q g (96 * g + q - 1))) := by
                rw [hu]
                by_cases c : q = 0
                · rw [if_pos (by rw [c]), if_pos c]
                · rw [if_neg (fun e => c (J_inj (by omega) (by omega) e)), if_neg c, J_mul, J_add, J_sub (by omega), J_cl (by omega), show x0 + 130 + 29 = x0 + 159 by omega, hz3 _ (by omega), show g * 96 + q - 1 = 96 * g + q - 1 by omega]
              have e1 := folM_s (mv := mv) (R := R) (q := q) (g := g) (by omega) (by omega) _ rfl (fun s hs => saysR_6 hl hs)
              rw [hu2, J_cl (by omega), J_add, e1, show x0 + 130 + 29 = x0 + 159 by omega]
              have fs : Fr (fun p _ => p = x0 + 159) ρ (setI ρ (x0 + 159) (g * 96 + q) (J (folS mv R (q + 1) (96 * g + q)))) := Fr.rf.setI rfl
              refine ih2 (g + 1) _ _ _ (by omega) (F3.tr (fs.mono (fun p j k => by unfold Pob; omega))) ?_ (fun k hk => ?_)
              · exact CFf.fr hv (CFf.fr hv hf F2 (fun a j h1 h2 c => by omega)) fs (fun a j h1 h2 c => by omega)
              · by_cases c : k = g * 96 + q
                · rw [c, sI_same, show g * 96 + q = 96 * g + q by omega, folM_at (by omega)]
                · rw [sI_any (by omega), hz3 k hk, folM_next (by omega) (by omega)]
      refine G (mv 1) 0 τ x5 x6 (by omega) F hf (fun k hk => ?_)
      rw [folM_0]; exact hz k hk
  exact L 96 0 τ1 _ _ _ (by omega) (f1.mono (fun p j k => by unfold Pob; omega)) (fun a ha => absurd ha (Nat.not_lt_zero _)) (fun k hk => z1 k hk)
