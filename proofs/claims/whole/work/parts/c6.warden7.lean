/-! ===== warden: the class ===== -/
variable {d : Nat} {B : Nat × Nat} {Q : Out → Sto → Prop} {P : Nat → Nat → Prop} {σ τ : Sto} {v i j k t p q X x0 y0 : Nat} {o s mv kv π tp : Mem} {l : List Nat} {img : Bool} {n : Nat} {fl : Option Nat} {r0 q0 pc : Nat} {dp : Nat → Nat → Int32}
/-- the order that a list tells, in the places of a set -/
def orO (s : Mem) (l : List Nat) : Mem := fun k => s (lO l k)
def feL (mv : Mem) (dp : Nat → Nat → Int32) (s : Mem) (r0 q0 pc v : Nat) (l : List Nat) : Nat := feO mv dp r0 q0 pc v (orO s l)
theorem wk_ag {o o' : Mem} (h : Ag v o o') : ∀ i, i ≤ v → wkA mv o r0 i = wkA mv o' r0 i ∧ wkQ mv o r0 q0 pc i = wkQ mv o' r0 q0 pc i ∧ wkC mv o r0 q0 pc i = wkC mv o' r0 q0 pc i := by
  intro i
  induction i with
  | zero => intro _; exact ⟨rfl, rfl, rfl⟩
  | succ i ih =>
    intro hi
    have ih := ih (by omega)
    have e := h i (by omega)
    have eQ : wkQ mv o r0 q0 pc (i + 1) = wkQ mv o' r0 q0 pc (i + 1) := by
      show wkQ mv o r0 q0 pc i + pc * gapN (wkA mv o r0 i) (mv (376 + 4 * o i)) = wkQ mv o' r0 q0 pc i + pc * gapN (wkA mv o' r0 i) (mv (376 + 4 * o' i))
      rw [ih.1, ih.2.1, e]
    refine ⟨by show mv (376 + 4 * o i) = mv (376 + 4 * o' i); rw [e], eQ, ?_⟩
    show (if wkQ mv o r0 q0 pc (i + 1) < 96 ∧ cntP mv (o i) (mv 6) < 4 then (fun p => if p = o i then some (wkQ mv o r0 q0 pc (i + 1)) else wkC mv o r0 q0 pc i p) else wkC mv o r0 q0 pc i) = (if wkQ mv o' r0 q0 pc (i + 1) < 96 ∧ cntP mv (o' i) (mv 6) < 4 then (fun p => if p = o' i then some (wkQ mv o' r0 q0 pc (i + 1)) else wkC mv o' r0 q0 pc i p) else wkC mv o' r0 q0 pc i)
    rw [eQ, e, ih.2.2]
theorem feO_ag {o o' : Mem} (h : Ag v o o') : feO mv dp r0 q0 pc v o = feO mv dp r0 q0 pc v o' := by
  unfold feO; rw [(wk_ag h v (Nat.le_refl _)).2.2]
theorem nxt_or (hs : Ris v s) (hok : okL v l = true) : (nxtL v l = none → nxtF v (orO s l) = none) ∧ ∀ l', nxtL v l = some l' → ∃ o', nxtF v (orO s l) = some o' ∧ ∀ k, k < v → o' k = orO s l' k := by
  by_cases h0 : v = 0
  · subst h0
    refine ⟨fun _ => rfl, fun l' h => ?_⟩
    obtain ⟨o, h1, _⟩ := nxtL_e h
    cases h1
  · have e := nxtF_e hs (ok_b hok).1 (by omega)
    refine ⟨fun h => ?_, fun l' h => ?_⟩
    · show nxtF v (fun k => s (lO l k)) = none
      rw [e, nxtL_n h]; rfl
    · obtain ⟨o, h1, h2⟩ := nxtL_e h
      refine ⟨fun k => s (o k), ?_, fun k hk => ?_⟩
      · show nxtF v (fun k => s (lO l k)) = _
        rw [e, h1]; rfl
      · show s (o k) = s (lO l' k)
        rw [h2 k hk]
theorem chk_ok : ∀ t, chk v t l = true → okL v l = true := by
  intro t
  cases t with
  | zero => intro h; have h : (okL v l && (nxtL v l).isNone) = true := h
            rw [Bool.and_eq_true] at h; exact h.1
  | succ t => intro h; have h : (okL v l && (match nxtL v l with | none => true | some l' => chk v t l')) = true := h
              rw [Bool.and_eq_true] at h; exact h.1
theorem chk_0 (h : chk v 0 l = true) : nxtL v l = none := by
  have h : (okL v l && (nxtL v l).isNone) = true := h
  rw [Bool.and_eq_true] at h
  exact Option.isNone_iff_eq_none.mp h.2
theorem chk_s {l' : List Nat} (h : chk v (t + 1) l = true) (e : nxtL v l = some l') : chk v t l' = true := by
  have h : (okL v l && (match nxtL v l with | none => true | some l' => chk v t l')) = true := h
  rw [Bool.and_eq_true, e] at h
  exact h.2
/-- what the search keeps -/
def WBk (σ : Sto) (X v : Nat) (s : Mem) (b : Nat × List Nat) : Prop := sL σ X 0 = N64 b.1 ∧ ARR σ (X + 2) v (orO s b.2)
def PWd (x0 : Nat) : Nat → Nat → Prop := fun p j => (p = x0 + 126 ∧ j ≤ 1) ∨ (x0 + 127 ≤ p ∧ p ≤ x0 + 129)
theorem c_seekO {x : Int32} (h : CIv σ x0 mv kv img tp n fl) (hv6 : v ≤ 6) (hr : r0 < mv 2) (hq : q0 < 96) (hp : pc ≤ 9) (h5 : sI σ (x0 + 126) 5 = J r0) (h6 : sI σ (x0 + 126) 6 = J q0) (h7 : sI σ (x0 + 126) 7 = J pc) (hR : DRr σ (x0 + 120) mv dp)
    (hlen : (gth (bitO x) 12).length = v) (hs : Ris v s) (hs3 : ∀ k, k < v → s k < mv 3) (hse : ∀ k, k < v → (gth (bitO x) 12).getD k 0 = s k)
    (hQ : ∀ τ, CIv τ x0 mv kv img tp n fl → Fr (PWd x0) σ τ → sI τ (x0 + 126) 1 = J v → WBk τ (x0 + 126) v s (boL v (feL mv dp s r0 q0 pc v) 719 (List.range v) none) → Q (.inl none) τ) : WP gT (d + 3) B 3 0 [.ref (x0 + 126), .ref (x0 + 24), .ref (x0 + 120), .int x, .retAddr 0, .retAddr 0, .retAddr 0, .retAddr 0] [] σ Q := by
  have hx := h.x
  have hv := h.mv_.1
  have ho := h.mv_.2.1
  have hs1 := hv.s
  have n0 := sub_11_126_0 h.sh
  refine g_3_0 n0 ?_
  refine c_gather n0 (by omega) (fun τ f0 e1 hA => ?_)
  dsimp only [oV]
  have f0' : Fr (PWd x0) σ τ := f0.mono (fun p j k => by unfold PWd; omega)
  have hA0 : ARR τ (x0 + 127) v (orO s (List.range v)) := fun k hk => by
    rw [show x0 + 127 = x0 + 126 + 1 by omega, hA k (by omega)]
    show J ((gth (bitO x) 12).getD k 0) = J (s ((List.range v).getD k 0))
    rw [hse k hk, List.getD_eq_getElem?_getD, List.getElem?_range hk]; rfl
  have cv : ∀ {ρ : Sto}, Fr (PWd x0) σ ρ → CIv ρ x0 mv kv img tp n fl := fun f => h.fr f (fun p j k => by unfold PWd at k; unfold SCr; omega)
  have S : ∀ i l b τ x6, i ≤ 719 → okL v l = true → (b = none ↔ i = 0) → Fr (PWd x0) σ τ → sI τ (x0 + 126) 1 = J v → (∀ bb, b = some bb → WBk τ (x0 + 126) v s bb ∧ bb.1 ≤ 1000000000) → ARR τ (x0 + 127) v (orO s l) → (∀ χ x6, Fr (PWd x0) σ χ → sI χ (x0 + 126) 1 = J v → WBk χ (x0 + 126) v s (pkB (feL mv dp s r0 q0 pc v) l b) → (pkB (feL mv dp s r0 q0 pc v) l b).1 ≤ 1000000000 → ARR χ (x0 + 127) v (orO s l) → WP gT (d + 2) (0, 0) 7 0 [.ref (x0 + 126), .retAddr 0, .retAddr 0, .retAddr 0, .retAddr 0] [] χ (oI (fun v7 τ8 => WP gT (d + 3) B 3 11 [.ref (x0 + 126), .ref (x0 + 24), .ref (x0 + 120), .int x, .int v7, .int (J i + J 1), x6, .retAddr 0] [] τ8 Q) (fun _ _ => False))) → WP gT (d + 3) B 3 11 [.ref (x0 + 126), .ref (x0 + 24), .ref (x0 + 120), .int x, .int (J 1), .int (J i), x6, .retAddr 0] [] τ Q := by
    intro i l b τ x6 hi hok hb0 f e1 hb hA hc
    have h2 := cv f
    have n2 := sub_11_126_0 h2.sh
    have ob := (ok_b hok).1
    have hfl : feL mv dp s r0 q0 pc v l ≤ 1000000000 := feO_le ho
    have g5 : sI τ (x0 + 126) 5 = J r0 ∧ sI τ (x0 + 126) 6 = J q0 ∧ sI τ (x0 + 126) 7 = J pc := ⟨(f.i (by unfold PWd; omega)).trans h5, (f.i (by unfold PWd; omega)).trans h6, (f.i (by unfold PWd; omega)).trans h7⟩
    refine g_3_11 n2 ⟨fun c => absurd c (by rw [J_le (by omega) (by omega)]; omega), fun _ => ⟨fun c => absurd c (by decide), fun _ => ?_⟩⟩
    refine c_goRound (o := orO s l) (v := v) h2 n2 hv6 (fun k hk => hs3 _ (ob k hk)) hr hq hp e1 g5.1 g5.2.1 g5.2.2 hA (fun ρ f1 hci => ?_)
    dsimp only [oV]
    have F1 : Fr (PWd x0) σ ρ := f.tr (f1.mono (fun p j k => by unfold PWd; omega))
    have h3 := cv F1
    have n3 := sub_11_126_0 h3.sh
    have hka3 := h3.sh.1 129 (by decide)
    refine ⟨sub_11_24_2 h3.sh, n3, sub_11_120_1 h3.sh, ?_⟩
    refine c_fearWith (ci := wkC mv (orO s l) r0 q0 pc v) (sub_11_120_1 h3.sh) (sub_11_48_6 h3.sh) hka3.1 hka3.2 h3.Pp hv ho (hR.fr F1 (fun i j a b k => by unfold PWd at k; omega)) hci (fun p q e => by have := wkC_b v p q e; omega) ⟨n3, ?_⟩
    show (J i = J 0 → _) ∧ _
    have e1' : sI ρ (x0 + 126) 1 = J v := (f1.i (by omega)).trans e1
    have hA' : ARR ρ (x0 + 127) v (orO s l) := hA.fr f1 (fun j k => by omega)
    have k1 := h3.sh.1 127 (by decide)
    have k2 := h3.sh.1 128 (by decide)
    have take : pkB (feL mv dp s r0 q0 pc v) l b = (feL mv dp s r0 q0 pc v l, l) → WP gT (d + 2) (0, 0) 156 0 [.ref (x0 + 126 + 1), .ref (x0 + 126 + 2)] [] (setL ρ (x0 + 126) 0 (N64 (feaW mv dp (wkC mv (orO s l) r0 q0 pc v) (mv 5)))) (oV (fun τ6 => (S_0 τ6 (x0 + 126) ∧ WP gT (d + 2) (0, 0) 7 0 [.ref (x0 + 126), .retAddr 0, .retAddr 0, .retAddr 0, .retAddr 0] [] τ6 (oI (fun v7 τ8 => WP gT (d + 3) B 3 11 [.ref (x0 + 126), .ref (x0 + 24), .ref (x0 + 120), .int x, .int v7, .int (J i + J 1), .long (N64 (feaW mv dp (wkC mv (orO s l) r0 q0 pc v) (mv 5))), .retAddr 0] [] τ8 Q) (fun _ _ => False)))) (fun _ _ => False)) := fun e => by
      have fL : Fr (PWd x0) ρ (setL ρ (x0 + 126) 0 (N64 (feaW mv dp (wkC mv (orO s l) r0 q0 pc v) (mv 5)))) := Fr.rf.setL (by unfold PWd; omega)
      have vL : sL (setL ρ (x0 + 126) 0 (N64 (feaW mv dp (wkC mv (orO s l) r0 q0 pc v) (mv 5)))) (x0 + 126) 0 = N64 (feaW mv dp (wkC mv (orO s l) r0 q0 pc v) (mv 5)) := sL_same
      have vI : sI (setL ρ (x0 + 126) 0 (N64 (feaW mv dp (wkC mv (orO s l) r0 q0 pc v) (mv 5)))) = sI ρ := rfl
      generalize setL ρ (x0 + 126) 0 (N64 (feaW mv dp (wkC mv (orO s l) r0 q0 pc v) (mv 5))) = χ at fL vL vI ⊢
      refine c_copyRow (z := 6) (by rw [fL.K]; exact k1.1) (by rw [fL.K]; exact k2.1) (by rw [fL.Z]; exact k1.2) (by rw [fL.Z]; exact k2.2) (by omega) (by omega) (fun φ f4 hz => ?_)
      have F4 : Fr (PWd x0) σ φ := (F1.tr fL).tr (f4.mono (fun p j k => by unfold PWd; omega))
      refine ⟨sub_11_126_0 (cv F4).sh, hc φ _ F4 ?_ ?_ ?_ ?_⟩
      · rw [f4.i (by omega), vI]; exact e1'
      · rw [e]
        refine ⟨?_, fun k hk => ?_⟩
        · rw [f4.l (by omega)]; exact vL
        · rw [hz k (by omega), vI]; exact hA' k hk
      · rw [e]; exact hfl
      · intro k hk
        rw [f4.i (by omega), vI]; exact hA' k hk
    refine ⟨fun c => ?_, fun c => ?_⟩
    · have : i = 0 := J_inj (by omega) (by omega) c
      have hbn : b = none := hb0.mpr this
      exact take (by rw [hbn]; rfl)
    · have : ¬ i = 0 := fun e => c (by rw [e])
      obtain ⟨bb, hbb⟩ : ∃ bb, b = some bb := by
        cases b with
        | none => exact absurd (hb0.mp rfl) this
        | some bb => exact ⟨bb, rfl⟩
      have w := hb bb hbb
      have wl : sL ρ (x0 + 126) 0 = N64 bb.1 := (f1.l (by omega)).trans w.1.1
      have ec : (J 0 ≤ lg_cmp (N64 (feaW mv dp (wkC mv (orO s l) r0 q0 pc v) (mv 5))) (sL ρ (x0 + 126) 0)) = (bb.1 ≤ feL mv dp s r0 q0 pc v l) := by
        rw [wl]
        have hfl' : feaW mv dp (wkC mv (orO s l) r0 q0 pc v) (mv 5) ≤ 1000000000 := hfl
        rw [N64_cmpge (by omega) (by omega)]; rfl
      rw [ec]
      refine ⟨fun c2 => ?_, fun c2 => ?_⟩
      · have e : pkB (feL mv dp s r0 q0 pc v) l b = bb := by
          rw [hbb]
          show (if feL mv dp s r0 q0 pc v l < bb.1 then _ else bb) = bb
          rw [if_neg (by omega)]
        refine hc ρ _ F1 e1' ?_ (by rw [e]; exact w.2) hA'
        rw [e]
        exact ⟨wl, w.1.2.fr f1 (fun j k => by omega)⟩
      · refine take ?_
        rw [hbb]
        show (if feL mv dp s r0 q0 pc v l < bb.1 then _ else bb) = _
        rw [if_pos (by omega)]
  have E : ∀ i τ x6, i ≤ 720 → S_0 τ (x0 + 126) → Q (.inl none) τ → WP gT (d + 3) B 3 11 [.ref (x0 + 126), .ref (x0 + 24), .ref (x0 + 120), .int x, .int (J 0), .int (J i), x6, .retAddr 0] [] τ Q := fun i τ x6 hi nn q => g_3_11 nn ⟨fun _ => q, fun _ => ⟨fun _ => q, fun c => absurd rfl c⟩⟩
  have L : ∀ t i l b τ x6, t + i = 719 → chk v t l = true → (b = none ↔ i = 0) → Fr (PWd x0) σ τ → sI τ (x0 + 126) 1 = J v → (∀ bb, b = some bb → WBk τ (x0 + 126) v s bb ∧ bb.1 ≤ 1000000000) → ARR τ (x0 + 127) v (orO s l) → (∀ ρ, CIv ρ x0 mv kv img tp n fl → Fr (PWd x0) σ ρ → sI ρ (x0 + 126) 1 = J v → WBk ρ (x0 + 126) v s (boL v (feL mv dp s r0 q0 pc v) t l b) → Q (.inl none) ρ) → WP gT (d + 3) B 3 11 [.ref (x0 + 126), .ref (x0 + 24), .ref (x0 + 120), .int x, .int (J 1), .int (J i), x6, .retAddr 0] [] τ Q := by
    intro t
    induction t with
    | zero =>
      intro i l b τ x6 hti hck hb0 f e1 hb hA hq
      have hok := chk_ok _ hck
      have ob := (ok_b hok).1
      refine S i l b τ x6 (by omega) hok hb0 f e1 hb hA (fun χ x6 f2 e2 w2 _ hA2 => ?_)
      have nn := (nxt_or hs hok).1 (chk_0 hck)
      refine c_next (d := d + 1) (X := x0 + 126) (sub_11_126_0 (cv f2).sh) hv6 (fun k hk => by have := hs3 _ (ob k hk); unfold orO; omega) e2 hA2 (fun _ => ?_) (fun o' e => by rw [nn] at e; cases e)
      dsimp only [oI]
      rw [J_add]
      exact E (i + 1) χ x6 (by omega) (sub_11_126_0 (cv f2).sh) (hq χ (cv f2) f2 e2 w2)
    | succ t ih =>
      intro i l b τ x6 hti hck hb0 f e1 hb hA hq
      have hok := chk_ok _ hck
      have ob := (ok_b hok).1
      have nx := nxt_or hs hok
      refine S i l b τ x6 (by omega) hok hb0 f e1 hb hA (fun χ x6 f2 e2 w2 b2 hA2 => ?_)
      cases en : nxtL v l with
      | none =>
        have nn := nx.1 en
        refine c_next (d := d + 1) (X := x0 + 126) (sub_11_126_0 (cv f2).sh) hv6 (fun k hk => by have := hs3 _ (ob k hk); unfold orO; omega) e2 hA2 (fun _ => ?_) (fun o' e => by rw [nn] at e; cases e)
        dsimp only [oI]
        rw [J_add]
        refine E (i + 1) χ x6 (by omega) (sub_11_126_0 (cv f2).sh) (hq χ (cv f2) f2 e2 ?_)
        show WBk χ (x0 + 126) v s (match nxtL v l with | none => _ | some l' => _)
        rw [en]; exact w2
      | some l' =>
        obtain ⟨o', e3, e4⟩ := nx.2 l' en
        refine c_next (d := d + 1) (X := x0 + 126) (sub_11_126_0 (cv f2).sh) hv6 (fun k hk => by have := hs3 _ (ob k hk); unfold orO; omega) e2 hA2 (fun e => by rw [e3] at e; cases e) (fun o2 e φ f5 hA5 => ?_)
        rw [e3] at e
        cases e
        dsimp only [oI]
        rw [J_add]
        refine ih (i + 1) l' (some (pkB (feL mv dp s r0 q0 pc v) l b)) φ x6 (by omega) (chk_s hck en) (by simp) (f2.tr (f5.mono (fun p j k => by unfold PWd; omega))) ((f5.i (by omega)).trans e2) (fun bb ebb => ?_) (fun k hk => by rw [show x0 + 127 = x0 + 126 + 1 by omega, hA5 k hk, e4 k hk]) (fun ρ r1 r2 r3 r4 => hq ρ r1 r2 r3 ?_)
        · cases ebb
          exact ⟨⟨(f5.l (by omega)).trans w2.1, w2.2.fr f5 (fun j k => by omega)⟩, b2⟩
        · show WBk ρ (x0 + 126) v s (match nxtL v l with | none => _ | some l' => _)
          rw [en]; exact r4
  exact L 719 0 (List.range v) none τ _ (by omega) (chk_all v (by omega)) (by simp) f0' (by rw [← hlen]; exact e1) (fun bb e => by cases e) hA0 hQ
