/-! ===== warden: the reference ===== -/
variable {d : Nat} {B : Nat × Nat} {Q : Out → Sto → Prop} {P : Nat → Nat → Prop} {σ τ : Sto} {v i j k t p q X x0 y0 : Nat} {o s mv kv π tp : Mem} {l : List Nat} {img : Bool} {n : Nat} {fl : Option Nat} {r0 q0 pc : Nat} {dp : Nat → Nat → Int32} {lk : Nat → Int32}
def lvB : Option (Nat × List Nat) → Int64
  | none => Int64.ofInt (-1)
  | some b => N64 b.1
def PWr (y0 : Nat) : Nat → Nat → Prop := fun p j => P228 y0 p j ∨ p = y0 + 12 ∨ p = y0 + 13
theorem rr_warden (hy : y0 = 260) (hv : VG mv) (ho : VOo mv) (h : RIv σ y0 mv kv img tp n fl) {a1 a2 a3 a4 a5 a6 : Int32}
    (h0 : ∀ k1 r q pc, k1 < mv 4 → r < mv 2 → q < 96 → pc ≤ 9 → (plL mv a5).length ≤ 6 → -J 1 ≤ a6 → a1 = J k1 → a2 = J r → a3 = J q → a4 = J pc → ∀ τ, RIv τ y0 mv kv img tp n fl → FRf σ τ → sI τ y0 0 = J 0 → Q (.inl (some (.long (wdV mv k1 r q pc a5 a6)))) τ)
    (h1 : ¬ (IX a1 (mv 4) ∧ IX a2 (mv 2) ∧ IX a3 96) → ∀ τ v, RIv τ y0 mv kv img tp n fl → FRf σ τ → sI τ y0 0 = J 1 → Q (.inl (some (.long v))) τ)
    (h2 : IX a1 (mv 4) ∧ IX a2 (mv 2) ∧ IX a3 96 → ¬ (IN a4 0 9 ∧ (plL mv a5).length ≤ 6 ∧ -J 1 ≤ a6) → ∀ τ v, RIv τ y0 mv kv img tp n fl → FRf σ τ → sI τ y0 0 = J 2 → Q (.inl (some (.long v))) τ) : WP gT (d + 8) B 246 0 [.ref y0, .int a1, .int a2, .int a3, .int a4, .int a5, .int a6, .retAddr 0, .retAddr 0, .retAddr 0, .retAddr 0, .retAddr 0, .retAddr 0, .retAddr 0, .retAddr 0] [] σ Q := by
  have hs := hv.s
  have ho1 := ho.s
  have len12 : ∀ k, (gth (bitO a5) k).length ≤ k := by
    intro k
    induction k with
    | zero => exact Nat.le_refl _
    | succ k ih =>
      rw [gth_1]
      split
      · rw [List.length_append]; show _ + 1 ≤ _; omega
      · omega
  have e3 : sI σ (y0 + 1) 3 = J (mv 3) := h.2.1.at (by omega)
  refine g_246_0 ?_
  have C : ∀ t p, p + t = mv 3 → WP gT (d + 8) B 246 6 [.ref y0, .int a1, .int a2, .int a3, .int a4, .int a5, .int a6, .int (J (gth (bitO a5) p).length), .int (J p), .retAddr 0, .retAddr 0, .retAddr 0, .retAddr 0, .retAddr 0, .retAddr 0] [] σ Q := by
    intro t
    induction t with
    | succ t ih =>
      intro p hp
      have lp := len12 p
      refine g_246_6 h.1 ⟨fun c => ?_, fun _ => ?_⟩
      · exfalso; rw [e3, J_le (by omega) (by omega)] at c; omega
      · rw [sbit (by omega), J_add]
        have e : (J (gth (bitO a5) p).length + if bitO a5 p = true then J 1 else J 0) = J (gth (bitO a5) (p + 1)).length := by
          rw [gth_1]
          by_cases c : bitO a5 p = true
          · rw [if_pos c, if_pos c, J_add, List.length_append]; rfl
          · rw [if_neg c, if_neg c, J_add, Nat.add_zero]
        rw [e]
        exact ih (p + 1) (by omega)
    | zero =>
      intro p hp
      have hp : p = mv 3 := hp
      subst hp
      have lp := len12 (mv 3)
      refine g_246_6 h.1 ⟨fun _ u hu => ?_, fun c => absurd (by rw [e3]; exact Int32.le_refl _) c⟩
      have epl : (gth (bitO a5) (mv 3)).length = (plL mv a5).length := rfl
      rw [epl] at hu lp ⊢
      by_cases ci : IX a1 (mv 4) ∧ IX a2 (mv 2) ∧ IX a3 96
      · obtain ⟨⟨k1, hk1, rfl⟩, ⟨r, hr, rfl⟩, ⟨q, hq, rfl⟩⟩ := ci
        rw [if_neg (fun e => (r167 h.2.1 ho).mp e ⟨k1, hk1, rfl⟩), if_neg (fun e => (r165 h.2.1 hv).mp e ⟨r, hr, rfl⟩), if_neg (fun e => r163.mp e ⟨q, hq, rfl⟩)] at hu
        by_cases c : IN a4 0 9 ∧ (plL mv a5).length ≤ 6 ∧ -J 1 ≤ a6
        · obtain ⟨⟨pc, p0, hpc, rfl⟩, hl6, hk⟩ := c
          rw [if_neg (fun e => (r162 (by omega) (by omega)).mp e ⟨pc, p0, hpc, rfl⟩), if_neg (by rw [J_lt (by omega) (by omega)]; omega), if_pos hk] at hu
          subst hu
          refine ⟨fun _ => ?_, fun e => absurd ret0 e⟩
          refine r_run hy hv ho h.thr hk1 (fun τ h2 hF ht hD hf hn hm => ?_)
          dsimp only [oV]
          have ht : sI τ y0 0 = J 0 := ht.trans sI_same
          have hFF : FRf σ τ := (FRf.th hy).tr hF
          have rv : ∀ {ρ : Sto}, Fr (PWr y0) τ ρ → RIv ρ y0 mv kv img tp n fl ∧ FRf σ ρ ∧ sI ρ y0 0 = J 0 ∧ RDd ρ y0 mv (dpF mv (stO mv k1) 0) (lkF mv (stO mv k1)) := fun f => ⟨h2.fr f (fun p j k _ _ => by unfold PWr P228 at k; unfold SRr; omega), hFF.tr (FRf.of hy f (fun p j k => by unfold PWr P228 at k; omega)), (f.i (by unfold PWr P228; omega)).trans ht, hD.fr f (fun i j hi k => by unfold PWr P228 at k; omega)⟩
          have h0 := h0 k1 r q pc hk1 hr hq hpc hl6 hk rfl rfl rfl rfl
          have hRis : Ris (plL mv a5).length (plS mv a5) := fun i j hi hj => plS_le hi hj
          -- the end
          have E : ∀ ρ x8 x12 x14 bb, Fr (PWr y0) τ ρ → bb = wdB mv k1 r q pc a5 → ARR ρ (y0 + 13) (plL mv a5).length (orO (plS mv a5) bb.2) → WP gT (d + 8) B 246 165 [.ref y0, .int (J k1), .int (J r), .int (J q), .int (J pc), .int a5, .int a6, .int (J (plL mv a5).length), .int x8, .long (N64 bb.1), .retAddr 0, .int (J 0), x12, .retAddr 0, x14] [] ρ Q := by
            intro ρ x8 x12 x14 bb f eb hA
            have R := rv f
            have h0 := h0 ρ R.1 R.2.1 R.2.2.1
            unfold wdV at h0
            refine g_246_165 R.1.1 ⟨fun _ => ⟨fun cn cv => ⟨?_, trivial⟩, fun u2 e2 => ?_⟩, fun c => absurd rfl c⟩
            · obtain ⟨kk, hkk, rfl⟩ := k_J hk cn
              rw [J_le (by omega) (by omega)] at cv
              exact (by simp (disch := omega) only [J_add, J_mul, J_sub, J_cl, vp_J]; omega)
            · by_cases cn : a6 = -J 1
              · rw [if_pos cn] at e2 h0
                rw [e2, eb]; exact h0
              · rw [if_neg cn] at e2 h0
                obtain ⟨kk, hkk, rfl⟩ := k_J hk cn
                by_cases cv : (plL mv a5).length ≤ kk
                · rw [if_pos (by rw [J_le (by omega) (by omega)]; exact cv)] at e2 h0
                  rw [e2]; exact h0
                · rw [if_neg (by rw [J_le (by omega) (by omega)]; exact cv)] at e2 h0
                  have hlt := wd_lt (mv := mv) (i := k1) (r0 := r) (q0 := q) (pc := pc) (k := kk) hl6 (by omega)
                  have ew := hA kk (by omega)
                  rw [eb] at ew
                  rw [J_cl (by omega), ew, N64_J (by omega)] at e2
                  rw [J_cl (by omega)] at h0
                  rw [e2]; exact h0
          have S : ∀ l b ρ x8 x12 x14, okL (plL mv a5).length l = true → Fr (PWr y0) τ ρ → (∀ bb, b = some bb → ARR ρ (y0 + 13) (plL mv a5).length (orO (plS mv a5) bb.2) ∧ bb.1 ≤ 1000000000) → ARR ρ (y0 + 12) (plL mv a5).length (orO (plS mv a5) l) →
              (∀ χ x12 x14, Fr (PWr y0) τ χ → ARR χ (y0 + 13) (plL mv a5).length (orO (plS mv a5) (pkB (feL mv (dpF mv (stO mv k1) 0) (plS mv a5) r q pc (plL mv a5).length) l b).2) → (pkB (feL mv (dpF mv (stO mv k1) 0) (plS mv a5) r q pc (plL mv a5).length) l b).1 ≤ 1000000000 → ARR χ (y0 + 12) (plL mv a5).length (orO (plS mv a5) l) → WP gT (d + 7) (0, 0) 245 0 [.ref y0, .int (J (plL mv a5).length), .retAddr 0, .retAddr 0, .retAddr 0, .retAddr 0, .retAddr 0] [] χ (oI (fun v1 τ2 => WP gT (d + 8) B 246 165 [.ref y0, .int (J k1), .int (J r), .int (J q), .int (J pc), .int a5, .int a6, .int (J (plL mv a5).length), .int x8, .long (N64 (pkB (feL mv (dpF mv (stO mv k1) 0) (plS mv a5) r q pc (plL mv a5).length) l b).1), .retAddr 0, .int v1, x12, .retAddr 0, x14] [] τ2 Q) (fun _ _ => False))) →
              WP gT (d + 8) B 246 165 [.ref y0, .int (J k1), .int (J r), .int (J q), .int (J pc), .int a5, .int a6, .int (J (plL mv a5).length), .int x8, .long (lvB b), .retAddr 0, .int (J 1), x12, .retAddr 0, x14] [] ρ Q := by
            intro l b ρ x8 x12 x14 hok f hb hA hc
            have R := rv f
            have ob := ok_b hok
            have hfl : feL mv (dpF mv (stO mv k1) 0) (plS mv a5) r q pc (plL mv a5).length l ≤ 1000000000 := feO_le ho
            have pinj : ∀ i j, i < (plL mv a5).length → j < (plL mv a5).length → orO (plS mv a5) l i = orO (plS mv a5) l j → i = j := fun i j hi hj e => by
              have a := hRis (lO l i) (lO l j) (ob.1 i hi) (ob.1 j hj)
              have b := hRis (lO l j) (lO l i) (ob.1 j hj) (ob.1 i hi)
              have e : plS mv a5 (lO l i) = plS mv a5 (lO l j) := e
              have := a.mp (by omega)
              have := b.mp (by omega)
              exact ob.2 i j hi hj (by omega)
            refine g_246_165 R.1.1 ⟨fun c => absurd c (by decide), fun _ => ?_⟩
            refine r_wardens (o := orO (plS mv a5) l) hy hv ho R.1 R.2.2.2 hl6 (fun k hk => plS_lt (ob.1 k hk)) pinj hr hq hpc hA (fun χ f1 => ?_)
            dsimp only [oL]
            have F1 : Fr (PWr y0) τ χ := f.tr (f1.mono (fun p j k => Or.inl k))
            have R1 := rv F1
            have hA1 : ARR χ (y0 + 12) (plL mv a5).length (orO (plS mv a5) l) := hA.fr f1 (fun j k => by unfold P228 at k; omega)
            have take : pkB (feL mv (dpF mv (stO mv k1) 0) (plS mv a5) r q pc (plL mv a5).length) l b = (feL mv (dpF mv (stO mv k1) 0) (plS mv a5) r q pc (plL mv a5).length l, l) → WP gT (d + 8) B 246 204 [.ref y0, .int (J k1), .int (J r), .int (J q), .int (J pc), .int a5, .int a6, .int (J (plL mv a5).length), .int x8, .long (N64 (feO mv (dpF mv (stO mv k1) 0) r q pc (plL mv a5).length (orO (plS mv a5) l))), .retAddr 0, .int (J 1), .long (N64 (feO mv (dpF mv (stO mv k1) 0) r q pc (plL mv a5).length (orO (plS mv a5) l))), .retAddr 0, .int (J 0)] [] χ Q := fun e => by
              have T : ∀ t i φ, i + t = (plL mv a5).length → Fr (fun p _ => p = y0 + 13) χ φ → ARR φ (y0 + 13) i (orO (plS mv a5) l) → WP gT (d + 8) B 246 204 [.ref y0, .int (J k1), .int (J r), .int (J q), .int (J pc), .int a5, .int a6, .int (J (plL mv a5).length), .int x8, .long (N64 (feO mv (dpF mv (stO mv k1) 0) r q pc (plL mv a5).length (orO (plS mv a5) l))), .retAddr 0, .int (J 1), .long (N64 (feO mv (dpF mv (stO mv k1) 0) r q pc (plL mv a5).length (orO (plS mv a5) l))), .retAddr 0, .int (J i)] [] φ Q := by
                intro t
                induction t with
                | zero =>
                  intro i φ hi f2 hB
                  have hi : i = (plL mv a5).length := hi
                  subst hi
                  have F2 : Fr (PWr y0) τ φ := F1.tr (f2.mono (fun p j k => by unfold PWr; omega))
                  refine g_246_204 (rv F2).1.1 ⟨fun _ => ?_, fun c => absurd (Int32.le_refl _) c⟩
                  have hc := hc φ (.long (N64 (feO mv (dpF mv (stO mv k1) 0) r q pc (plL mv a5).length (orO (plS mv a5) l)))) (.int (J (plL mv a5).length)) F2
                  rw [e] at hc
                  exact hc hB hfl (hA1.fr f2 (fun j k => by omega))
                | succ t ih =>
                  intro i φ hi f2 hB
                  have F2 : Fr (PWr y0) τ φ := F1.tr (f2.mono (fun p j k => by unfold PWr; omega))
                  refine g_246_204 (rv F2).1.1 ⟨fun c => ?_, fun _ => ⟨(by simp (disch := omega) only [J_add, J_mul, J_sub, J_cl, vp_J]; omega), (by simp (disch := omega) only [J_add, J_mul, J_sub, J_cl, vp_J]; omega), ?_⟩⟩
                  · exfalso; rw [J_le (by omega) (by omega)] at c; omega
                  · rw [J_cl (by omega), J_add, f2.i (by omega), hA1 i (by omega)]
                    refine ih (i + 1) _ (by omega) (f2.setI rfl) (fun k hk => ?_)
                    by_cases ck : k = i
                    · rw [ck, sI_same]
                    · rw [sI_any (by omega)]; exact hB k (by omega)
              exact T (plL mv a5).length 0 χ (by omega) Fr.rf (fun k hk => absurd hk (Nat.not_lt_zero _))
            refine ⟨R1.1.1, fun c => ?_, fun c => ?_⟩
            · cases b with
              | none => exact take rfl
              | some bb =>
                exfalso
                have := (hb bb rfl).2
                have c : lg_cmp (N64 bb.1) (N64 0) < J 0 := c
                rw [N64_cmplt (by omega) (by omega)] at c; omega
            · cases b with
              | none => exact absurd (by decide) c
              | some bb =>
                have w := hb bb rfl
                have hfl' : feO mv (dpF mv (stO mv k1) 0) r q pc (plL mv a5).length (orO (plS mv a5) l) ≤ 1000000000 := hfl
                have ec : (J 0 ≤ lg_cmp (N64 (feO mv (dpF mv (stO mv k1) 0) r q pc (plL mv a5).length (orO (plS mv a5) l))) (lvB (some bb))) = (bb.1 ≤ feL mv (dpF mv (stO mv k1) 0) (plS mv a5) r q pc (plL mv a5).length l) := by
                  show (J 0 ≤ lg_cmp _ (N64 bb.1)) = _
                  rw [N64_cmpge (by omega) (by omega)]; rfl
                rw [ec]
                refine ⟨fun c2 => ?_, fun c2 => ?_⟩
                · have e : pkB (feL mv (dpF mv (stO mv k1) 0) (plS mv a5) r q pc (plL mv a5).length) l (some bb) = bb := by
                    show (if feL mv (dpF mv (stO mv k1) 0) (plS mv a5) r q pc (plL mv a5).length l < bb.1 then _ else bb) = bb
                    rw [if_neg (by omega)]
                  have hc := hc χ (.long (N64 (feO mv (dpF mv (stO mv k1) 0) r q pc (plL mv a5).length (orO (plS mv a5) l)))) x14 F1
                  rw [e] at hc
                  exact hc (w.1.fr f1 (fun j k => by unfold P228 at k; omega)) w.2 hA1
                · refine take ?_
                  show (if feL mv (dpF mv (stO mv k1) 0) (plS mv a5) r q pc (plL mv a5).length l < bb.1 then _ else bb) = _
                  rw [if_pos (by omega)]
          have L : ∀ t l b ρ x8 x12 x14, chk (plL mv a5).length t l = true → Fr (PWr y0) τ ρ → (∀ bb, b = some bb → ARR ρ (y0 + 13) (plL mv a5).length (orO (plS mv a5) bb.2) ∧ bb.1 ≤ 1000000000) → ARR ρ (y0 + 12) (plL mv a5).length (orO (plS mv a5) l) → boL (plL mv a5).length (feL mv (dpF mv (stO mv k1) 0) (plS mv a5) r q pc (plL mv a5).length) t l b = wdB mv k1 r q pc a5 →
              WP gT (d + 8) B 246 165 [.ref y0, .int (J k1), .int (J r), .int (J q), .int (J pc), .int a5, .int a6, .int (J (plL mv a5).length), .int x8, .long (lvB b), .retAddr 0, .int (J 1), x12, .retAddr 0, x14] [] ρ Q := by
            intro t
            induction t with
            | zero =>
              intro l b ρ x8 x12 x14 hck f hb hA hbo
              have hok := chk_ok _ hck
              have ob := (ok_b hok).1
              refine S l b ρ x8 x12 x14 hok f hb hA (fun χ x12 x14 f2 w2 b2 hA2 => ?_)
              have nn := (nxt_or hRis hok).1 (chk_0 hck)
              refine r_next (rv f2).1.1 hl6 (fun k hk => by have := plS_lt (mv := mv) (x := a5) (ob k hk); unfold orO; omega) hA2 (fun _ => ?_) (fun o' e => by rw [nn] at e; cases e)
              exact E χ x8 x12 x14 _ f2 hbo w2
            | succ t ih =>
              intro l b ρ x8 x12 x14 hck f hb hA hbo
              have hok := chk_ok _ hck
              have ob := (ok_b hok).1
              have nx := nxt_or hRis hok
              refine S l b ρ x8 x12 x14 hok f hb hA (fun χ x12 x14 f2 w2 b2 hA2 => ?_)
              have hbo : (match nxtL (plL mv a5).length l with | none => pkB (feL mv (dpF mv (stO mv k1) 0) (plS mv a5) r q pc (plL mv a5).length) l b | some l' => boL (plL mv a5).length (feL mv (dpF mv (stO mv k1) 0) (plS mv a5) r q pc (plL mv a5).length) t l' (some (pkB (feL mv (dpF mv (stO mv k1) 0) (plS mv a5) r q pc (plL mv a5).length) l b))) = wdB mv k1 r q pc a5 := hbo
              cases en : nxtL (plL mv a5).length l with
              | none =>
                rw [en] at hbo
                have nn := nx.1 en
                refine r_next (rv f2).1.1 hl6 (fun k hk => by have := plS_lt (mv := mv) (x := a5) (ob k hk); unfold orO; omega) hA2 (fun _ => ?_) (fun o' e => by rw [nn] at e; cases e)
                exact E χ x8 x12 x14 _ f2 hbo w2
              | some l' =>
                rw [en] at hbo
                obtain ⟨o', e3, e4⟩ := nx.2 l' en
                refine r_next (rv f2).1.1 hl6 (fun k hk => by have := plS_lt (mv := mv) (x := a5) (ob k hk); unfold orO; omega) hA2 (fun e => by rw [e3] at e; cases e) (fun o2 e φ f5 hA5 => ?_)
                rw [e3] at e
                cases e
                dsimp only [oI]
                refine ih l' (some (pkB (feL mv (dpF mv (stO mv k1) 0) (plS mv a5) r q pc (plL mv a5).length) l b)) φ x8 x12 x14 (chk_s hck en) (f2.tr (f5.mono (fun p j k => by unfold PWr; omega))) (fun bb ebb => ?_) (fun k hk => by rw [hA5 k hk, e4 k hk]) hbo
                cases ebb
                exact ⟨w2.fr f5 (fun j k => by omega), b2⟩
          -- which places
          have D : ∀ t p ρ, p + t = mv 3 → Fr (PWr y0) τ ρ → ARR ρ (y0 + 12) (gth (bitO a5) p).length (fun k => (gth (bitO a5) p).getD k 0) → WP gT (d + 8) B 246 115 [.ref y0, .int (J k1), .int (J r), .int (J q), .int (J pc), .int a5, .int a6, .int (J (plL mv a5).length), .int (J (gth (bitO a5) p).length), .int (J p), .retAddr 0, .retAddr 0, .retAddr 0, .retAddr 0, .retAddr 0] [] ρ Q := by
            intro t
            induction t with
            | zero =>
              intro p ρ hp f hA
              have hp : p = mv 3 := hp
              subst hp
              have R := rv f
              refine g_246_115 R.1.1 ⟨fun _ => ?_, fun c => ?_⟩
              · refine L 719 (List.range (plL mv a5).length) none ρ _ _ _ (chk_all _ (by omega)) f (fun bb e => by cases e) (fun k hk => ?_) rfl
                rw [hA k hk]
                show J ((gth (bitO a5) (mv 3)).getD k 0) = J (plS mv a5 ((List.range (plL mv a5).length).getD k 0))
                rw [List.getD_eq_getElem?_getD (l := List.range _), List.getElem?_range hk]; rfl
              · exfalso; apply c; rw [R.1.2.1.at (by omega)]; exact Int32.le_refl _
            | succ t ih =>
              intro p ρ hp f hA
              have R := rv f
              obtain ⟨rr, hrr⟩ := gth_add (p := p + 1) (b := bitO a5) (mv 3) (by omega)
              have hl := congrArg List.length hrr
              rw [List.length_append, epl] at hl
              refine g_246_115 R.1.1 ⟨fun c => ?_, fun _ => ?_⟩
              · exfalso; rw [R.1.2.1.at (by omega), J_le (by omega) (by omega)] at c; omega
              · rw [sbit (by omega), J_add, J_add]
                by_cases cb : bitO a5 p = true
                · have e1 : gth (bitO a5) (p + 1) = gth (bitO a5) p ++ [p] := by rw [gth_1, if_pos cb]
                  have el : (gth (bitO a5) (p + 1)).length = (gth (bitO a5) p).length + 1 := by rw [e1, List.length_append]; rfl
                  rw [if_pos cb]
                  refine ⟨fun c => absurd c (by decide), fun _ => ⟨(by simp (disch := omega) only [J_add, J_mul, J_sub, J_cl, vp_J]; omega), ?_⟩⟩
                  rw [← el, J_cl (by omega)]
                  refine ih (p + 1) _ (by omega) (f.setI (by unfold PWr; omega)) (fun k hk => ?_)
                  rw [el] at hk
                  by_cases ck : k = (gth (bitO a5) p).length
                  · rw [ck, sI_same]
                    show J p = J ((gth (bitO a5) (p + 1)).getD (gth (bitO a5) p).length 0)
                    rw [e1, getD_r]
                  · rw [sI_any (by omega)]
                    show _ = J ((gth (bitO a5) (p + 1)).getD k 0)
                    rw [e1, getD_l (by omega)]; exact hA k (by omega)
                · have e1 : gth (bitO a5) (p + 1) = gth (bitO a5) p := by rw [gth_1, if_neg cb]
                  rw [if_neg cb]
                  have ih := ih (p + 1) ρ (by omega) f
                  rw [e1] at ih
                  exact ⟨fun _ => ih hA, fun c => absurd rfl c⟩
          exact D (mv 3) 0 τ (by omega) Fr.rf (fun k hk => absurd hk (Nat.not_lt_zero _))
        · have hu2 : u = J 2 := by
            rw [hu]
            by_cases q1 : f_162 σ a4 (J 0) (J 9) = J 0
            · rw [if_pos q1]
            rw [if_neg q1]
            by_cases q2 : J 6 < J (plL mv a5).length
            · rw [if_pos q2]
            rw [if_neg q2]
            by_cases q3 : -J 1 ≤ a6
            · rw [J_lt (by omega) (by omega)] at q2
              exact absurd ⟨Classical.not_not.mp (fun e => q1 ((r162 (by omega) (by omega)).mpr e)), by omega, q3⟩ c
            · rw [if_neg q3]
          clear hu
          subst hu2
          exact ⟨fun e => absurd e ret2, fun _ => h2 ⟨⟨k1, hk1, rfl⟩, ⟨r, hr, rfl⟩, ⟨q, hq, rfl⟩⟩ c _ _ h.thr (FRf.th hy) sI_same⟩
      · have hu1 : u = J 1 := by
          rw [hu]
          by_cases q1 : f_167 σ y0 a1 = J 0
          · rw [if_pos q1]
          rw [if_neg q1]
          by_cases q2 : f_165 σ y0 a2 = J 0
          · rw [if_pos q2]
          rw [if_neg q2]
          by_cases q3 : f_163 σ a3 = J 0
          · rw [if_pos q3]
          exact absurd ⟨Classical.not_not.mp (fun e => q1 ((r167 h.2.1 ho).mpr e)), Classical.not_not.mp (fun e => q2 ((r165 h.2.1 hv).mpr e)), Classical.not_not.mp (fun e => q3 (r163.mpr e))⟩ ci
        clear hu
        subst hu1
        exact ⟨fun e => absurd e ret1, fun _ => h1 ci _ _ h.thr (FRf.th hy) sI_same⟩
  exact C (mv 3) 0 (by omega)
