/-! ===== the call rule, in the class: the whole ===== -/
variable {d : Nat} {B : Nat × Nat} {Q : Out → Sto → Prop} {P : Nat → Nat → Prop} {σ τ : Sto} {x0 y0 R : Nat} {mv mv' kv : Mem} {img : Bool} {tp tp' tx : Mem} {n n' p q f0 : Nat} {fl fl' : Option Nat} {l : List RLn}
theorem ps11_l : ∀ k, k < 163 → (ps_11.getD k (0, 0, 0)).1 < 164 := by decide +kernel
theorem EX.grow (e : EX σ τ) : Grow σ τ := ⟨e.1, fun p hp => ⟨(e.2 p hp).1, (e.2 p hp).2.1⟩⟩
theorem RYd.ex {dd : Nat} (h : RYd σ dd mv) (h6 : mv 4 ≤ 6) (e : EX σ τ) (hd : dd + 37 ≤ sN σ) : RYd τ dd mv := by
  have n0 : ∀ p j, p < sN σ → sI τ p j = sI σ p j := fun p j hp => by rw [(e.2 p hp).2.2.1]
  obtain ⟨a1, a2, a3, a4, a5, a6⟩ := h
  refine ⟨a1.eqI (fun i j hi => n0 _ _ (by omega)), a2.eqI (fun i j hi => n0 _ _ (by omega)), ?_, fun o ho k hk => by rw [n0 _ _ (by omega)]; exact a4 o ho k hk, fun l hl => ?_, fun i hi => ?_⟩
  · rw [n0 _ _ (by omega), n0 _ _ (by omega), n0 _ _ (by omega), n0 _ _ (by omega), n0 _ _ (by omega), n0 _ _ (by omega), n0 _ _ (by omega), n0 _ _ (by omega)]; exact a3
  · rw [n0 _ _ (by omega), n0 _ _ (by omega), n0 _ _ (by omega)]; exact a5 l hl
  · obtain ⟨h1, R, p, r, h2, h3, h4⟩ := a6 i hi
    have hr := h4.1
    exact ⟨h1, R, p, r, h2, by rw [(e.2 (dd + 33) (by omega)).2.2.2.2]; exact h3, h4.mv_ e.grow (fun j => by rw [(e.2 r (by omega)).2.2.2.2]) (fun a j ha => n0 _ _ (by omega))⟩
theorem BLo.ex {dd : Nat} (h : BLo σ dd) (e : EX σ τ) (hd : dd + 37 ≤ sN σ) : BLo τ dd := by
  refine ⟨fun l hl => by rw [(e.2 (dd + 36) (by omega)).2.2.1]; exact h.1 l hl, fun i r hr => ?_⟩
  rw [(e.2 (dd + 33) (by omega)).2.2.2.2] at hr
  have := h.2 i r hr
  exact ⟨Nat.lt_of_lt_of_le this.1 e.1, (e.2 r this.1).1.trans this.2⟩
theorem CIv.ex (h : CIv σ x0 mv kv img tp n fl) (e : EX σ τ) (h6 : sN τ % 6 = 2) : CIv τ x0 mv kv img tp n fl := by
  obtain ⟨⟨a1, a2, a3, a4, a5, a6, a7, a8, a9, a10⟩, b⟩ := h
  have hs := a3.1.s
  have ho := a3.2.1.s
  have e1 := e.1
  have n0 : ∀ p j, p < 278 → sI τ p j = sI σ p j := fun p j hp => by rw [(e.2 p (by omega)).2.2.1]
  refine ⟨⟨⟨a1.1, by omega, h6⟩, e.sh a2 (by omega) ps11_l, ⟨a3.1, a3.2.1, a3.2.2.ex (by omega) e (by omega)⟩, fun hi => ⟨(a4 hi).1, (a4 hi).2.1, (a4 hi).2.2.ex (a4 hi).2.1.s.1 e (by omega)⟩, ?_, ⟨?_, a6.2.1, fun k hk => ?_⟩, ⟨?_, a7.2⟩, ?_, a9.ex e (by omega), a10.ex e (by omega)⟩, ?_⟩
  · rw [n0 _ _ (by omega)]; exact a5
  · rw [n0 _ _ (by omega)]; exact a6.1
  · rw [n0 _ _ (by omega)]; exact a6.2.2 k hk
  · rw [n0 _ _ (by omega)]; exact a7.1
  · rw [n0 _ _ (by omega)]; exact a8
  · rcases b with e | ⟨o, h3, h4, h5⟩
    · exact Or.inl (by rw [n0 _ _ (by omega)]; exact e)
    · refine Or.inr ⟨o, h3, by rw [n0 _ _ (by omega)]; exact h4, fun q hq => ⟨?_, fun r hr => ?_⟩⟩
      · rw [n0 _ _ (by omega), n0 _ _ (by omega), n0 _ _ (by omega)]; exact (h5 q hq).1
      · rw [n0 _ _ (by omega), n0 _ _ (by omega)]; exact (h5 q hq).2 r hr
theorem RRl.setp {dd i r : Nat} {p0 : Nat} (h : RRl σ dd mv) (hi : dd + 33 = p0 → mv 7 ≤ i) (hp : p0 < 278) : RRl (setP σ p0 i (some r)) dd mv := by
  intro k hk
  obtain ⟨h1, R, p, r2, h2, h3, h4⟩ := h k hk
  have hr := h4.1
  refine ⟨h1, R, p, r2, h2, ?_, h4.mv_ ⟨Nat.le_refl _, fun p _ => ⟨rfl, rfl⟩⟩ (fun j => sP_any (by omega)) (fun a j _ => rfl)⟩
  rw [sP_any (fun e => by have := hi e.1; omega)]; exact h3
theorem CIv.setp {i r : Nat} (h : CIv σ x0 mv kv img tp n fl) (hi : mv 7 ≤ i) (hr : r < sN σ ∧ sK σ r = 8) : CIv (setP σ (x0 + 57) i (some r)) x0 mv kv img tp n fl := by
  obtain ⟨⟨a1, a2, a3, a4, a5, a6, a7, a8, a9, a10⟩, b⟩ := h
  refine ⟨⟨a1, ⟨a2.1, fun k hk => ?_⟩, ⟨a3.1, a3.2.1, ?_⟩, fun hi => ⟨(a4 hi).1, (a4 hi).2.1, ?_⟩, a5, a6, a7, a8, ?_, ?_⟩, b⟩
  · have := ps11_r k hk
    rw [sP_any (by omega)]; exact a2.2 k hk
  · obtain ⟨b1, b2, b3, b4, b5, b6⟩ := a3.2.2
    exact ⟨b1, b2, b3, b4, b5, b6.setp (fun _ => hi) (by omega)⟩
  · obtain ⟨b1, b2, b3, b4, b5, b6⟩ := (a4 hi).2.2
    exact ⟨b1, b2, b3, b4, b5, b6.setp (fun e => by omega) (by omega)⟩
  · refine ⟨a9.1, fun k r2 e => ?_⟩
    by_cases c : k = i
    · subst c
      have e2 : sP (setP σ (x0 + 57) k (some r)) (x0 + 24 + 33) k = some r := sP_same
      rw [e2] at e; cases e; exact hr
    · rw [sP_any (by omega)] at e; exact a9.2 k r2 e
  · refine ⟨a10.1, fun k r2 e => ?_⟩
    rw [sP_any (by omega)] at e; exact a10.2 k r2 e
/-- the memory behind a rule that is told -/
def rulM (mv tp : Mem) (n : Nat) : Mem := fun k => if k = 7 then mv 7 + 1 else if k = 2884 + 401 * mv 7 then n else if 2885 + 401 * mv 7 ≤ k ∧ k < 2885 + 401 * mv 7 + n then tp (k - (2885 + 401 * mv 7)) else mv k
theorem rulM_o {k : Nat} (h1 : k ≠ 7) (h2 : k < 2884 + 401 * mv 7 ∨ 2885 + 401 * mv 7 + n ≤ k) : rulM mv tp n k = mv k := by
  unfold rulM; rw [if_neg h1, if_neg (by omega), if_neg (by omega)]
theorem rulM_7 : rulM mv tp n 7 = mv 7 + 1 := if_pos rfl
theorem rulM_n : rulM mv tp n (2884 + 401 * mv 7) = n := by unfold rulM; rw [if_neg (by omega), if_pos rfl]
/-- the rule's text, as it stands there -/
def rtx (tp : Mem) (n : Nat) : Mem := fun k => if k < n then tp k else 0
theorem rulM_tx : tx_ (rulM mv tp n) (mv 7) = rtx tp n := funext fun k => by
  have e : tn_ (rulM mv tp n) (mv 7) = n := rulM_n
  unfold tx_
  rw [e]
  unfold rtx
  by_cases c : k < n
  · rw [if_pos c, if_pos c]
    unfold rulM
    rw [if_neg (by omega), if_neg (by omega), if_pos (by omega), show 2885 + 401 * mv 7 + k - (2885 + 401 * mv 7) = k by omega]
  · rw [if_neg c, if_neg c]
theorem rulM_ag {S : Nat → Prop} (h7 : ¬ S 7) (hS : ∀ k, S k → k < 2884) : AG S mv (rulM mv tp n) := fun k hk => rulM_o (fun e => h7 (by rw [← e]; exact hk)) (by have := hS k hk; omega)
theorem CB.rt_ {X : Nat} (h : CB σ X tp n) : CB σ X (rtx tp n) n := ⟨h.1, h.2.1, fun k hk => by unfold rtx; rw [if_pos hk]; exact h.2.2 k hk⟩
theorem rule56 (h : CIv σ x0 mv kv img tp n fl) (hB : 16 ≤ B.1 ∧ 1000 ≤ B.2) (h4 : mv 7 < 4) (hl : RLS σ (x0 + 19) l) (hn : n' ≤ 400 ∧ ∀ k, k < n' → tp' k ≤ 255) (hr : rAll (rtx tp' n') n' = .inr (l, q)) (hQ : ∀ τ, CIv τ x0 (rulM mv tp' n') kv img tp n fl → FC2 σ τ → Q (.inl (some (.int (J (mv 7))))) τ) : WP gT (d + 4) B 97 56 [.ref x0] [] σ Q := by
  have hx := h.x
  have hs := h.sh
  have hv := h.mv_.1
  have ho := h.mv_.2.1
  have ho1 := ho.s
  have hN := h.1.1.2
  have k0 : sK σ x0 = 12 := (hs.1 0 (by decide)).1
  have k24 : sK σ (x0 + 24) = 3 := (hs.1 24 (by decide)).1
  have k57 : sK σ (x0 + 57) = 17 ∧ sZ σ (x0 + 57) = 4 := hs.1 57 (by decide)
  have p24 : sP σ x0 3 = some (x0 + 24) := hs.2 23 (by decide)
  have p19 : sP σ x0 2 = some (x0 + 19) := hs.2 18 (by decide)
  have p57 : sP σ (x0 + 24) 10 = some (x0 + 57) := hs.2 56 (by decide)
  have e9 : sI σ (x0 + 24) 9 = J (mv 7) := h.sc.2.2.2.2.2.2.1
  refine WP.run 9 (And.intro k0 (Exists.intro (x0 + 24) (And.intro p24 (And.intro k24 (Exists.intro (x0 + 57) (And.intro p57 (And.intro k0 (Exists.intro (x0 + 24) (And.intro p24 (And.intro k24 (And.intro k0 (Exists.intro (x0 + 19) (And.intro p19 (And.intro rfl (And.intro ⟨dl, dl, dl, (hs.1 19 (by decide)).1⟩ ⟨6, 500, by omega, by omega, oR_use (k := fun v τ => v = sN σ ∧ EX σ τ ∧ sN τ = sN σ + 6 ∧ RuleAt τ (sN σ) l) (x := fun _ _ => False) (c_made (sub_11_19_8 hs) (by omega) hl ⟨dl, dl⟩ (fun τ e1 e2 e3 => ⟨rfl, e1, e2, e3⟩)) (fun v τ hh => ?_) (fun _ _ h => h.elim)⟩)))))))))))))))
  obtain ⟨rfl, e1, e2, e3⟩ := hh
  have h2 := h.ex e1 (by omega)
  have h3 := h2.setp (i := mv 7) (r := sN σ) (Nat.le_refl _) ⟨by omega, e3.2.1⟩
  have e9' : sI τ (x0 + 24) 9 = J (mv 7) := h2.sc.2.2.2.2.2.2.1
  have hs2 := h2.sh
  have hs3 := h3.sh
  have c4 : (J (mv 7)).toNatClampNeg = mv 7 := J_cl (by omega)
  have k57' : sK τ (x0 + 57) = 17 ∧ sZ τ (x0 + 57) = 4 := hs2.1 57 (by decide)
  /- the last steps -/
  have fin : ∀ χ : Sto, χ = setI (setP τ (x0 + 57) (mv 7) (some (sN σ))) (x0 + 24) 9 (J (mv 7 + 1)) → Q (.inl (some (.int (J (mv 7))))) χ := by
    intro χ eχ
    have fF : Fr (fun p j => p = x0 + 24 ∧ j = 9) (setP τ (x0 + 57) (mv 7) (some (sN σ))) χ := by rw [eχ]; exact Fr.rf.setI ⟨rfl, rfl⟩
    have hsc := h3.sc
    have en : ∀ j, j ≠ 9 → sI χ (x0 + 24) j = sI (setP τ (x0 + 57) (mv 7) (some (sN σ))) (x0 + 24) j := fun j hj => fF.i (by omega)
    have m_ : ∀ k, k ≠ 7 → k < 2884 → rulM mv tp' n' k = mv k := fun k a b => rulM_o a (by omega)
    refine hQ χ (h3.chg fF (fun p j k => by omega) (rulM_ag (by unfold gS; omega) (fun k hk => by unfold gS at hk; omega)) (by rw [m_ 4 (by omega) (by omega)]; exact Nat.le_refl _) (fun o h1 _ k hk => by unfold stO; exact m_ _ (by omega) (by omega)) ?_ (h3.p1 fF (fun i j hi k => by omega) (rulM_ag (by unfold pS; omega) (fun k hk => by unfold pS at hk; omega))) ⟨?_, ?_, ?_, ?_, ?_, ?_, ?_, ?_⟩ (h3.p3 fF (fun i j hi k => by omega) (rulM_ag (by unfold oS; omega) (fun k hk => by unfold oS at hk; omega))) (h3.p4 fF (fun i j hi k => by omega) (rulM_ag (by unfold lS; omega) (fun k hk => by unfold lS at hk; omega))) ?_) ?_
    · refine ho.chg (m_ 3 (by omega) (by omega)) ?_ (rulM_ag (by unfold oS; omega) (fun k hk => by unfold oS at hk; omega)) (rulM_ag (by unfold pS; omega) (fun k hk => by unfold pS at hk; omega)) (rulM_ag (by unfold lS; omega) (fun k hk => by unfold lS at hk; omega))
      rw [rulM_7, m_ 13 (by omega) (by omega), m_ 14 (by omega) (by omega), m_ 15 (by omega) (by omega), m_ 16 (by omega) (by omega)]; omega
    · rw [en 0 (by omega), m_ 0 (by omega) (by omega)]; exact hsc.1
    · rw [en 2 (by omega), m_ 4 (by omega) (by omega)]; exact hsc.2.1
    · rw [en 5 (by omega), m_ 14 (by omega) (by omega)]; exact hsc.2.2.1
    · rw [en 6 (by omega), m_ 15 (by omega) (by omega)]; exact hsc.2.2.2.1
    · rw [en 7 (by omega), m_ 16 (by omega) (by omega)]; exact hsc.2.2.2.2.1
    · rw [en 8 (by omega), m_ 13 (by omega) (by omega)]; exact hsc.2.2.2.2.2.1
    · rw [eχ, sI_same, rulM_7]
    · rw [en 11 (by omega), m_ 8 (by omega) (by omega)]; exact hsc.2.2.2.2.2.2.2
    · intro i hi
      rw [rulM_7] at hi
      by_cases c : i = mv 7
      · subst c
        rw [rulM_tx]
        have e1 : tn_ (rulM mv tp' n') (mv 7) = n' := rulM_n
        rw [e1]
        refine ⟨⟨hn.1, fun k hk => by unfold rtx; rw [if_pos hk]; exact hn.2 k hk⟩, l, q, sN σ, hr, ?_, e3.mv_ ⟨?_, fun p hp => ?_⟩ (fun j => ?_) (fun a j ha => ?_)⟩
        · rw [fF.P]; exact sP_same
        · rw [fF.N]; exact Nat.le_refl _
        · rw [fF.K, fF.Z]; exact ⟨rfl, rfl⟩
        · rw [fF.P, sP_any (by omega)]
        · have := e3.1
          rw [fF.i (by omega)]; rfl
      · have hold : RRl (setP τ (x0 + 57) (mv 7) (some (sN σ))) (x0 + 24) mv := h3.mv_.2.2.2.2.2.2.2
        have h5 := RRl.fr hold fF (fun p j k _ => by omega) i (by omega)
        have t1 : tn_ (rulM mv tp' n') i = tn_ mv i := rulM_o (by omega) (by omega)
        have hle : tn_ mv i ≤ 400 := h5.1.1
        have t2 : tx_ (rulM mv tp' n') i = tx_ mv i := funext fun k => by
          unfold tx_
          rw [t1]
          by_cases c : k < tn_ mv i
          · rw [if_pos c, if_pos c]; exact rulM_o (by omega) (by omega)
          · rw [if_neg c, if_neg c]
        rw [t1, t2]; exact h5
    · refine ((FC2.tr (τ := τ) ⟨e1.1, fun p hp => ?_⟩ (FC2.tr (τ := setP τ (x0 + 57) (mv 7) (some (sN σ))) ⟨Nat.le_refl _, fun p hp => ⟨rfl, rfl, funext fun j => sP_any (by omega), rfl, rfl⟩⟩ (FCl.f2 (FCl.of hx fF (fun p j k => by omega))))))
      have := e1.2 p (by omega)
      exact ⟨this.1, this.2.1, this.2.2.2.2, this.2.2.1, this.2.2.2.1⟩
  have k12 : sK (setP τ (x0 + 57) (mv 7) (some (sN σ))) x0 = 12 := (hs3.1 0 (by decide)).1
  have k3 : sK (setP τ (x0 + 57) (mv 7) (some (sN σ))) (x0 + 24) = 3 := (hs3.1 24 (by decide)).1
  have p3 : sP (setP τ (x0 + 57) (mv 7) (some (sN σ))) x0 3 = some (x0 + 24) := hs3.2 23 (by decide)
  have S77 : WP gT (d + 4) (B.1 - 6, B.2 - 500) 97 77 [.ref x0] [.ref (sN σ), .int (J (mv 7)), .ref (x0 + 57)] τ Q := by
    refine WP.run 1 (And.intro ⟨k57'.1, ?_, e3.2.1⟩ ?_)
    · rw [k57'.2]; exact (by simp (disch := omega) only [J_add, J_mul, J_sub, J_cl, vp_J]; omega)
    rw [c4]
    show WP gT (d + 4) (B.1 - 6, B.2 - 500) 97 78 [.ref x0] [] (setP τ (x0 + 57) (mv 7) (some (sN σ))) Q
    have k4 : sI (setP τ (x0 + 57) (mv 7) (some (sN σ))) (x0 + 24) 9 + J 1 = J (mv 7 + 1) := by
      show sI τ (x0 + 24) 9 + J 1 = _
      rw [e9', J_add]
    refine WP.run 7 (And.intro k12 (Exists.intro (x0 + 24) (And.intro p3 (And.intro k3 (And.intro k3 ?_)))))
    show WP gT (d + 4) (B.1 - 6, B.2 - 500) 97 91 [.ref x0] [] (setI (setP τ (x0 + 57) (mv 7) (some (sN σ))) (x0 + 24) 9 (sI (setP τ (x0 + 57) (mv 7) (some (sN σ))) (x0 + 24) 9 + J 1)) Q
    rw [k4]
    have hF := fin _ rfl
    have hv7 : sI (setI (setP τ (x0 + 57) (mv 7) (some (sN σ))) (x0 + 24) 9 (J (mv 7 + 1))) (x0 + 24) 9 - J 1 = J (mv 7) := by rw [sI_same, J_sub (by omega)]; rfl
    rw [← hv7] at hF
    exact WP.run 6 (And.intro k12 (Exists.intro (x0 + 24) (And.intro p3 (And.intro k3 (And.intro ⟨.int, rfl, rfl⟩ hF)))))
  rw [← e9] at S77
  exact S77
theorem cc_rule (h : CIv σ x0 mv kv img tp n fl) (hB : 16 ≤ B.1 ∧ 1000 ≤ B.2) (hw : WRD σ)
    (h0 : ∀ l q, rAll (rtx tp n) n = .inr (l, q) → mv 7 < 4 → ∀ τ, CIv τ x0 (rulM mv tp n) kv img tp 0 none → FC2 σ τ → Q (.inl (some (.int (J (mv 7))))) τ)
    (h1 : ∀ f, rAll (rtx tp n) n = .inl f → ∀ τ, CIv τ x0 mv kv img tp 0 (some f) → FC2 σ τ → Q (.inr 1) τ)
    (h2 : ∀ l q, rAll (rtx tp n) n = .inr (l, q) → ¬ mv 7 < 4 → ∀ τ, CIv τ x0 mv kv img tp 0 none → FC2 σ τ → Q (.inr 2) τ) : WP gT (d + 24) B 97 0 [.ref x0] [] σ Q := by
  have hx := h.x
  have hv := h.mv_.1
  have ho := h.mv_.2.1
  have ho1 := ho.s
  have hcb := h.cb
  rw [show d + 24 = d + 8 + 16 by omega]
  refine g_97_0 h.sh hB (c_rewind (sub_11_1_9 h.sh) hcb.rt_ (fun τ4 f4 c4 => ?_))
  have k4 := h.fr f4 (fun p j k => by unfold PtX at k; unfold SCr; omega)
  have F4 : FCl σ τ4 := FCl.of hx f4 (fun p j k => by unfold PtX at k; omega)
  refine ⟨k4.sh, ?_⟩
  rw [show d + 8 + 15 = d + 16 + 7 by omega]
  refine c_tellR c4 (sub_11_19_8 k4.sh) (by omega) (by omega) (hw.fr F4 (fun p j k => by omega)) (fun τ6 f6 L => ?_)
  have k6 := k4.fr f6 (fun p j k => by unfold Prl at k; unfold SCr; omega)
  have F6 : FCl σ τ6 := F4.tr (FCl.of hx f6 (fun p j k => by unfold Prl at k; omega))
  refine ⟨k6.sh, ?_⟩
  cases e : rAll (rtx tp n) n with
  | inl f =>
    rw [e] at L
    have L : CTb τ6 (x0 + 1) (rtx tp n) n f := L
    have hl := L.le
    obtain ⟨_, _, q, L3⟩ := L
    refine c_close k6 L3.2.2.2.1 (fun q hq => by cases hq; omega) (fun τ8 k8 f8 => ⟨k8.sh, fun _ => ?_, fun c => absurd rfl c⟩)
    exact h1 f e τ8 k8 (F6.tr (FCl.of hx f8 (fun p j k => by omega))).f2
  | inr a =>
    obtain ⟨l, q⟩ := a
    rw [e] at L
    obtain ⟨L1, L2, _⟩ := L
    refine c_close (w := none) k6 L1.2.2.2.2.1 (fun q hq => by cases hq) (fun τ8 k8 f8 => ⟨k8.sh, fun c => absurd c (by decide), fun _ => ?_⟩)
    have F8 : FCl σ τ8 := F6.tr (FCl.of hx f8 (fun p j k => by omega))
    have e7 : sI τ8 (x0 + 24) 9 = J (mv 7) := k8.sc.2.2.2.2.2.2.1
    have L8 : RLS τ8 (x0 + 19) l := by
      refine ⟨L2.1.fr f8 (fun p j k => by omega), by rw [f8.i (by omega)]; exact L2.2.1, L2.2.2.1, fun i hi => ?_⟩
      rw [f8.i (by omega), f8.i (by omega), f8.i (by omega)]; exact L2.2.2.2 i hi
    rw [e7]
    refine ⟨fun c => ?_, fun c => ?_⟩
    · rw [J_lt (by omega) (by omega)] at c
      rw [show d + 8 + 16 = d + 20 + 4 by omega]
      exact rule56 k8 hB c L8 ⟨hcb.2.1, fun k hk => (hcb.2.2 k hk).2⟩ e (fun τ9 k9 f9 => h0 l q e c τ9 k9 (F8.f2.tr f9))
    · rw [J_lt (by omega) (by omega)] at c
      exact h2 l q e c τ8 k8 F8.f2
