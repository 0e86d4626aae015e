/-! ===== the reference: conditions, lines of a rule ===== -/
variable {d : Nat} {B : Nat × Nat} {Q : Out → Sto → Prop} {P : Nat → Nat → Prop} {σ τ : Sto} {y0 : Nat} {mv tx kv : Mem} {img : Bool} {tp : Mem} {n p q f0 : Nat} {fl : Option Nat} {bs : Option Nat} {qn : Nat} {lkv : Int32} {dpv nwv : Nat → Int32}
def T192i (d : Nat) (y0 : Nat) (gv sv : Int32) (Q : Out → Sto → Prop) (σ : Sto) : Prop := (((sI σ y0 10) = (-J 1) → WP gT (d + 5) (0, 0) 178 0 [.ref y0, .ref 64, .retAddr 0, .retAddr 0] [] σ (oI (fun v33 τ34 => (S_12 τ34 y0 ∧ ((v33 = (J 0) → (((sI τ34 y0 10) = (-J 1) → ((gv = (sI τ34 y0 13) → (((sI τ34 y0 14) = (-J 1) → Q (.inl none) (setI τ34 y0 14 sv)) ∧ (¬ ((sI τ34 y0 14) = (-J 1)) → Q (.inl none) τ34))) ∧ (¬ (gv = (sI τ34 y0 13)) → Q (.inl none) τ34))) ∧ (¬ ((sI τ34 y0 10) = (-J 1)) → Q (.inl none) τ34))) ∧ (¬ (v33 = (J 0)) → WP gT (d + 5) (0, 0) 191 0 [.ref y0, .retAddr 0, .retAddr 0] [] τ34 (oI (fun v35 τ36 => (S_12 τ36 y0 ∧ (((if v35 = (J 0) then (J 0) else (J 1)) = (J 0) → Q (.inl none) τ36) ∧ (¬ ((if v35 = (J 0) then (J 0) else (J 1)) = (J 0)) → (((sI τ36 y0 10) = (-J 1) → ((gv = (sI τ36 y0 13) → (((sI τ36 y0 14) = (-J 1) → Q (.inl none) (setI τ36 y0 14 sv)) ∧ (¬ ((sI τ36 y0 14) = (-J 1)) → Q (.inl none) τ36))) ∧ (¬ (gv = (sI τ36 y0 13)) → Q (.inl none) τ36))) ∧ (¬ ((sI τ36 y0 10) = (-J 1)) → Q (.inl none) τ36)))))) (fun _ _ => False)))))) (fun _ _ => False))) ∧ (¬ ((sI σ y0 10) = (-J 1)) → Q (.inl none) σ))
theorem RTg.deep (h : RTg σ y0 tx n bs p) {v : Int32} : RTg (setI σ y0 11 v) y0 tx n bs p := h.fr (P := fun p j => p = y0 ∧ j = 11) (Fr.rf.setI ⟨rfl, rfl⟩) (fun p j k => by omega)
theorem RTb.deep {m : Nat} (h : RTb σ y0 tx n bs f0 m) {v : Int32} : RTb (setI σ y0 11 v) y0 tx n bs f0 m := h.fr (P := fun p j => p = y0 ∧ j = 11) (Fr.rf.setI ⟨rfl, rfl⟩) (fun p j k => by omega)
theorem RTb.inc {m : Nat} (h : RTb σ y0 tx n bs f0 m) (hm : m ≤ 100) : RTb (setI σ y0 9 (sI σ y0 9 + J 1)) y0 tx n bs f0 (m + 1) := by
  obtain ⟨h1, h2, h3, a, h4, h5⟩ := h
  have f : Fr (P9 y0) σ (setI σ y0 9 (sI σ y0 9 + J 1)) := Fr.rf.setI ⟨rfl, rfl⟩
  exact ⟨h1.y (f.mono P9_Y), h2, by rw [sI_any (by omega)]; exact h3, a + 1, by rw [sI_same, h4, J_add], by omega⟩
def AtR (y0 : Nat) (tx : Mem) (n : Nat) (bs : Option Nat) (mv : Mem) (qn : Nat) (lkv : Int32) (dpv nwv : Nat → Int32) (k : Nat) : Prop := ∀ (d : Nat) (B : Nat × Nat) (Q : Out → Sto → Prop) (σ : Sto) (p : Nat), RTg σ y0 tx n bs p → EVr σ y0 mv qn lkv dpv nwv → WRD σ → sI σ y0 11 = J (6 - k) →
  (∀ a q, rAtom tx n k p = .inr (a, q) → ∀ τ, Fr (PYd y0) σ τ → RTg τ y0 tx n bs q → sI τ y0 11 = J (6 - k) → Q (.inl (some (.int (a.2 (envR mv qn lkv dpv nwv))))) τ) →
  (∀ f, rAtom tx n k p = .inl f → ∀ τ v, Fr (PYd y0) σ τ → RTb τ y0 tx n bs f k → (v = J 0 ∨ v = J 1) → Q (.inl (some (.int v))) τ) → WP gT (d + 3 * k + 8) B 189 0 [.ref y0, .retAddr 0, .retAddr 0, .retAddr 0] [] σ Q
def SoR (y0 : Nat) (tx : Mem) (n : Nat) (bs : Option Nat) (mv : Mem) (qn : Nat) (lkv : Int32) (dpv nwv : Nat → Int32) (k : Nat) : Prop := ∀ (d : Nat) (B : Nat × Nat) (Q : Out → Sto → Prop) (σ : Sto) (p : Nat), RTg σ y0 tx n bs p → EVr σ y0 mv qn lkv dpv nwv → WRD σ → sI σ y0 11 = J (6 - k) →
  (∀ a q, rAny tx n (rAtom tx n k) p = .inr (a, q) → ∀ τ, Fr (PYd y0) σ τ → RTg τ y0 tx n bs q → sI τ y0 11 = J (6 - k) → Q (.inl (some (.int (a.2 (envR mv qn lkv dpv nwv))))) τ) →
  (∀ f, rAny tx n (rAtom tx n k) p = .inl f → ∀ τ v, Fr (PYd y0) σ τ → RTb τ y0 tx n bs f k → (v = J 0 ∨ v = J 1) → Q (.inl (some (.int v))) τ) → WP gT (d + 3 * k + 10) B 191 0 [.ref y0, .retAddr 0, .retAddr 0] [] σ Q
def EvR (y0 : Nat) (tx : Mem) (n : Nat) (bs : Option Nat) (mv : Mem) (qn : Nat) (lkv : Int32) (dpv nwv : Nat → Int32) (k : Nat) : Prop := ∀ (d : Nat) (B : Nat × Nat) (Q : Out → Sto → Prop) (σ : Sto) (p : Nat), RTg σ y0 tx n bs p → EVr σ y0 mv qn lkv dpv nwv → WRD σ → sI σ y0 11 = J (6 - k) →
  (∀ a q, rEv tx n (rAtom tx n k) p = .inr (a, q) → ∀ τ, Fr (PYd y0) σ τ → RTg τ y0 tx n bs q → sI τ y0 11 = J (6 - k) → Q (.inl (some (.int (a.2 (envR mv qn lkv dpv nwv))))) τ) →
  (∀ f, rEv tx n (rAtom tx n k) p = .inl f → ∀ τ v, Fr (PYd y0) σ τ → RTb τ y0 tx n bs f k → (v = J 0 ∨ v = J 1) → Q (.inl (some (.int v))) τ) → WP gT (d + 3 * k + 9) B 190 0 [.ref y0, .retAddr 0, .retAddr 0] [] σ Q
theorem PYd.w (hy : y0 = 260) : ∀ p j, PYd y0 p j → 96 ≤ p := fun p j k => by unfold PYd at k; omega
theorem dp9 (f : Fr (P9 y0) σ τ) : sI τ y0 11 = sI σ y0 11 := f.i (by unfold P9; omega)
theorem dpt (f : Fr (PYt y0) σ τ) : sI τ y0 11 = sI σ y0 11 := f.i (by unfold PYt; omega)
theorem and_b {x y : Int32} (hx : x = J 0 ∨ x = J 1) (hy : y = J 0 ∨ y = J 1) : (if x = J 0 then J 0 else if y = J 0 then J 0 else J 1) = x &&& y := by
  rcases hx with rfl | rfl <;> rcases hy with rfl | rfl <;> decide
theorem or_b {x y : Int32} (hx : x = J 0 ∨ x = J 1) (hy : y = J 0 ∨ y = J 1) : (if x = J 0 then (if y = J 0 then J 0 else J 1) else J 1) = x ||| y := by
  rcases hx with rfl | rfl <;> rcases hy with rfl | rfl <;> decide
theorem not_b {x : Int32} (hx : x = J 0 ∨ x = J 1) : (if x = J 0 then J 1 else J 0) = J 1 - x := by
  rcases hx with rfl | rfl <;> decide
theorem evR_of (hy : y0 = 260) (hv : VG mv) {k : Nat} (hk : k ≤ 6) (hA : AtR y0 tx n bs mv qn lkv dpv nwv k) : EvR y0 tx n bs mv qn lkv dpv nwv k := by
  intro d B Q σ p h hE hw hdp h1 h0
  have hl := h.le
  have sA := rAtom_s (tx := tx) (n := n) k hk
  rw [show d + 3 * k + 9 = (d + 3 * k + 4) + 5 by omega]
  generalize hR0 : rEv tx n (rAtom tx n k) p = R0 at h1 h0
  have LOOP : ∀ f (a : CVl) p τ x2, n < p + f → Fr (PYd y0) σ τ → RTg τ y0 tx n bs p → sI τ y0 11 = J (6 - k) → (a.2 (envR mv qn lkv dpv nwv) = J 0 ∨ a.2 (envR mv qn lkv dpv nwv) = J 1) → R0 = rEvL tx n (rAtom tx n k) f a p → WP gT (d + 3 * k + 4 + 5) B 190 5 [.ref y0, .int (a.2 (envR mv qn lkv dpv nwv)), x2] [] τ Q := by
    intro f
    induction f with
    | zero => intro a p τ x2 hf F h hd hb hR; have := h.le; omega
    | succ f ih =>
      intro a p τ x2 hf F h hd hb hR
      have hl := h.le
      have hS : rEvL tx n (rAtom tx n k) (f + 1) a p = if isW tx n p w_and = true then bnd (rAtom tx n k (aftW tx n p)) (fun b p => rEvL tx n (rAtom tx n k) f (a.1 ++ b.1 ++ [(12, 0)], fun e => a.2 e &&& b.2 e) p) else .inr (a, p) := rfl
      rw [hS] at hR
      refine g_190_5 h.1.1 ⟨fun _ => r_has h hy (hw.fr F (PYd.w hy) 82 w_and (by decide)) (fun e τ2 f2 k2 => ⟨k2.1.1, fun c => absurd c (by decide), fun _ => ?_⟩) (fun e τ2 f2 k2 => ⟨k2.1.1, fun _ => ⟨hb, ?_⟩, fun c => absurd rfl c⟩), fun c => absurd h.2.1 c⟩
      · rw [if_pos e] at hR
        have hlen := isW_aft hl.1 e (by decide)
        have F2 := F.tr (f2.mono P9_d)
        rw [show d + 3 * k + 4 + 4 = d + 3 * k + 8 by omega]
        refine hA _ _ _ τ2 _ k2 (hE.dd_ F2) (hw.fr F2 (PYd.w hy)) ((dp9 f2).trans hd) (fun b q eb τ3 f3 k3 d3 => ?_) (fun f0 eb τ3 v f3 k3 hvb => ?_)
        · have b1 := sA _ _ _ k2.le.1 eb
          have bb := b1.2.2 _ (envR_7 (mv := mv) (qn := qn) (lkv := lkv) (dpv := dpv) (nwv := nwv))
          rw [bnd_r eb] at hR
          have hq := b1.2.1.2.2.1
          dsimp only [oI]
          rw [and_b hb bb]
          exact ih (a.1 ++ b.1 ++ [(12, 0)], fun e => a.2 e &&& b.2 e) q τ3 _ (by omega) (F2.tr f3) k3 d3 (and01 hb bb).1 hR
        · rw [bnd_l eb] at hR
          have hxb : (if a.2 (envR mv qn lkv dpv nwv) = J 0 then J 0 else if v = J 0 then J 0 else J 1) = J 0 ∨ (if a.2 (envR mv qn lkv dpv nwv) = J 0 then J 0 else if v = J 0 then J 0 else J 1) = J 1 := by
            rw [and_b hb hvb]; exact (and01 hb hvb).1
          exact g_190_5 k3.1.1 ⟨fun c => absurd c k3.bad, fun _ => ⟨hxb, h0 f0 hR τ3 _ (F2.tr f3) k3 hxb⟩⟩
      · rw [if_neg (by rw [e]; decide)] at hR
        exact h1 _ _ hR τ2 (F.tr (f2.mono P9_d)) k2.g ((dp9 f2).trans hd)
  refine g_190_0 h.1.1 ?_
  rw [show d + 3 * k + 4 + 4 = d + 3 * k + 8 by omega]
  refine hA _ _ _ σ p h hE hw hdp (fun a q ea τ f k2 d2 => ?_) (fun f0 ea τ v f k2 hvb => ?_)
  · have a1 := sA _ _ _ hl.1 ea
    have hq := a1.2.1.2.2.1
    exact LOOP 401 a q τ _ (by omega) f k2 d2 (a1.2.2 _ envR_7) (by rw [← hR0]; unfold rEv; rw [bnd_r ea])
  · exact g_190_5 k2.1.1 ⟨fun c => absurd c k2.bad, fun _ => ⟨hvb, h0 f0 (by rw [← hR0]; unfold rEv; rw [bnd_l ea]) τ _ f k2 hvb⟩⟩
theorem soR_of (hy : y0 = 260) (hv : VG mv) {k : Nat} (hk : k ≤ 6) (hA : AtR y0 tx n bs mv qn lkv dpv nwv k) : SoR y0 tx n bs mv qn lkv dpv nwv k := by
  intro d B Q σ p h hE hw hdp h1 h0
  have hl := h.le
  have hEv := evR_of hy hv hk hA
  have sA := rEv_s (tx := tx) (n := n) (by omega) (rAtom_s (tx := tx) (n := n) k hk)
  rw [show d + 3 * k + 10 = (d + 3 * k + 5) + 5 by omega]
  generalize hR0 : rAny tx n (rAtom tx n k) p = R0 at h1 h0
  have LOOP : ∀ f (a : CVl) p τ x2, n < p + f → Fr (PYd y0) σ τ → RTg τ y0 tx n bs p → sI τ y0 11 = J (6 - k) → (a.2 (envR mv qn lkv dpv nwv) = J 0 ∨ a.2 (envR mv qn lkv dpv nwv) = J 1) → R0 = rSoL tx n (rAtom tx n k) f a p → WP gT (d + 3 * k + 5 + 5) B 191 5 [.ref y0, .int (a.2 (envR mv qn lkv dpv nwv)), x2] [] τ Q := by
    intro f
    induction f with
    | zero => intro a p τ x2 hf F h hd hb hR; have := h.le; omega
    | succ f ih =>
      intro a p τ x2 hf F h hd hb hR
      have hl := h.le
      have hS : rSoL tx n (rAtom tx n k) (f + 1) a p = if isW tx n p w_or = true then bnd (rEv tx n (rAtom tx n k) (aftW tx n p)) (fun b p => rSoL tx n (rAtom tx n k) f (a.1 ++ b.1 ++ [(13, 0)], fun e => a.2 e ||| b.2 e) p) else .inr (a, p) := rfl
      rw [hS] at hR
      refine g_191_5 h.1.1 ⟨fun _ => r_has h hy (hw.fr F (PYd.w hy) 84 w_or (by decide)) (fun e τ2 f2 k2 => ⟨k2.1.1, fun c => absurd c (by decide), fun _ => ?_⟩) (fun e τ2 f2 k2 => ⟨k2.1.1, fun _ => ⟨hb, ?_⟩, fun c => absurd rfl c⟩), fun c => absurd h.2.1 c⟩
      · rw [if_pos e] at hR
        have hlen := isW_aft hl.1 e (by decide)
        have F2 := F.tr (f2.mono P9_d)
        rw [show d + 3 * k + 5 + 4 = d + 3 * k + 9 by omega]
        refine hEv _ _ _ τ2 _ k2 (hE.dd_ F2) (hw.fr F2 (PYd.w hy)) ((dp9 f2).trans hd) (fun b q eb τ3 f3 k3 d3 => ?_) (fun f0 eb τ3 v f3 k3 hvb => ?_)
        · have b1 := sA _ _ _ k2.le.1 eb
          have bb := b1.2.2 _ (envR_7 (mv := mv) (qn := qn) (lkv := lkv) (dpv := dpv) (nwv := nwv))
          rw [bnd_r eb] at hR
          have hq := b1.2.1.2.2.1
          dsimp only [oI]
          rw [or_b hb bb]
          exact ih (a.1 ++ b.1 ++ [(13, 0)], fun e => a.2 e ||| b.2 e) q τ3 _ (by omega) (F2.tr f3) k3 d3 (and01 hb bb).2 hR
        · rw [bnd_l eb] at hR
          have hxb : (if a.2 (envR mv qn lkv dpv nwv) = J 0 then (if v = J 0 then J 0 else J 1) else J 1) = J 0 ∨ (if a.2 (envR mv qn lkv dpv nwv) = J 0 then (if v = J 0 then J 0 else J 1) else J 1) = J 1 := by
            rw [or_b hb hvb]; exact (and01 hb hvb).2
          exact g_191_5 k3.1.1 ⟨fun c => absurd c k3.bad, fun _ => ⟨hxb, h0 f0 hR τ3 _ (F2.tr f3) k3 hxb⟩⟩
      · rw [if_neg (by rw [e]; decide)] at hR
        exact h1 _ _ hR τ2 (F.tr (f2.mono P9_d)) k2.g ((dp9 f2).trans hd)
  refine g_191_0 h.1.1 ?_
  rw [show d + 3 * k + 5 + 4 = d + 3 * k + 9 by omega]
  refine hEv _ _ _ σ p h hE hw hdp (fun a q ea τ f k2 d2 => ?_) (fun f0 ea τ v f k2 hvb => ?_)
  · have a1 := sA _ _ _ hl.1 ea
    have hq := a1.2.1.2.2.1
    exact LOOP 401 a q τ _ (by omega) f k2 d2 (a1.2.2 _ envR_7) (by rw [← hR0]; unfold rAny; rw [bnd_r ea])
  · exact g_191_5 k2.1.1 ⟨fun c => absurd c k2.bad, fun _ => ⟨hvb, h0 f0 (by rw [← hR0]; unfold rAny; rw [bnd_l ea]) τ _ f k2 hvb⟩⟩
theorem atR_0 (hy : y0 = 260) (hv : VG mv) : AtR y0 tx n bs mv qn lkv dpv nwv 0 := by
  intro d B Q σ p h hE hw hdp h1 h0
  have hl := h.le
  show WP gT (d + 8) B 189 0 [.ref y0, .retAddr 0, .retAddr 0, .retAddr 0] [] σ Q
  have bad : ∀ {τ : Sto} {q : Nat}, (isW tx n p w_not = true ∨ isS tx n p 40 = true) → Fr (P9 y0) σ τ → RTg τ y0 tx n bs q → WP gT (d + 7) (0, 0) 179 0 [.ref y0, .int (J p)] [] τ (oV (fun τ11 => Q (.inl (some (.int (J 0)))) τ11) (fun _ _ => False)) := fun e f k =>
    r_wrong_g k hl.1 (fun τ2 f2 k2 => h0 p (by unfold rAtom; rw [if_pos e]) τ2 _ ((f.mono P9_d).tr (f2.mono PY_d)) k2 (Or.inl rfl))
  refine g_189_0 h.1.1 ⟨fun _ => r_skip h (fun τ2 f2 k2 => ⟨k2.1.1, ?_⟩), fun c => absurd h.2.1 c⟩
  rw [k2.2.2.1]
  refine r_has k2.g hy (hw.fr f2 (fun p j k => by unfold P9 at k; omega) 66 w_not (by decide)) (fun e τ4 f4 k4 => ⟨k4.1.1, fun c => absurd c (by decide), fun _ => ⟨fun _ => bad (Or.inl e) (f2.tr f4) k4, fun c => absurd (((dp9 f4).trans (dp9 f2)).trans hdp) c⟩⟩) (fun e1 τ4 f4 k4 => ⟨k4.1.1, fun _ => ?_, fun c => absurd rfl c⟩)
  refine r_isSign k4.g (c := 40) (by omega) (fun τ6 f6 k6 => ⟨k6.1.1, fun c => ?_, fun c => ⟨fun _ => bad (Or.inr ?_) ((f2.tr f4).tr f6) k6.g, fun c2 => absurd ((((dp9 f6).trans (dp9 f4)).trans (dp9 f2)).trans hdp) c2⟩⟩)
  · have e2 : isS tx n p 40 = false := by rw [b01] at c; exact c
    have er : rAtom tx n 0 p = rPlain tx n p := by unfold rAtom; rw [if_neg (by rw [e1, e2]; decide)]
    have F6 := ((f2.tr f4).tr f6).mono P9_d
    refine r_plain hy k6.g (hE.dd_ F6) hv (hw.fr F6 (PYd.w hy)) (fun a q ea τ7 f7 k7 => ⟨(rPlain_s hl.1 ea).2.2 _ envR_7, ?_⟩) (fun f0 ea τ7 v f7 k7 hb => ⟨hb, ?_⟩)
    · exact h1 a q (by rw [er]; exact ea) τ7 (F6.tr (f7.mono PY_d)) k7 ((dpt f7).trans ((((dp9 f6).trans (dp9 f4)).trans (dp9 f2)).trans hdp))
    · exact h0 f0 (by rw [er]; exact ea) τ7 v (F6.tr (f7.mono PY_d)) k7 hb
  · cases h2 : isS tx n p 40 with
    | true => rfl
    | false => rw [h2] at c; exact absurd rfl c
theorem atR_s (hy : y0 = 260) (hv : VG mv) {k : Nat} (hk : k + 1 ≤ 6) (hA : AtR y0 tx n bs mv qn lkv dpv nwv k) (hN : SoR y0 tx n bs mv qn lkv dpv nwv k) : AtR y0 tx n bs mv qn lkv dpv nwv (k + 1) := by
  intro d B Q σ p h hE hw hdp h1 h0
  have hl := h.le
  have sA := rAtom_s (tx := tx) (n := n) k (by omega)
  have sN := rAny_s (tx := tx) (n := n) (by omega) sA
  rw [show d + 3 * (k + 1) + 8 = (d + 3 * k + 3) + 8 by omega]
  have n6 : ¬ J (6 - (k + 1)) = J 6 := by rw [J_eq (by omega) (by omega)]; omega
  have ej : J (6 - (k + 1)) + J 1 = J (6 - k) := by rw [J_add]; congr 1; omega
  have ek : J (6 - k) - J 1 = J (6 - (k + 1)) := by rw [J_sub (by omega)]; congr 1
  have P11 : ∀ {τ : Sto} {v : Int32}, Fr (PYd y0) σ τ → Fr (PYd y0) σ (setI τ y0 11 v) := fun F => F.setI ⟨rfl, Or.inr (Or.inr rfl)⟩
  have P99 : ∀ {τ : Sto} {v : Int32}, Fr (PYd y0) σ τ → Fr (PYd y0) σ (setI τ y0 9 v) := fun F => F.setI ⟨rfl, Or.inl rfl⟩
  refine g_189_0 h.1.1 ⟨fun _ => r_skip h (fun τ2 f2 k2 => ⟨k2.1.1, ?_⟩), fun c => absurd h.2.1 c⟩
  rw [k2.2.2.1]
  refine r_has k2.g hy (hw.fr f2 (fun p j k => by unfold P9 at k; omega) 66 w_not (by decide)) (fun e τ4 f4 k4 => ⟨k4.1.1, fun c => absurd c (by decide), fun _ => ?_⟩) (fun e1 τ4 f4 k4 => ⟨k4.1.1, fun _ => ?_, fun c => absurd rfl c⟩)
  · have d4 : sI τ4 y0 11 = J (6 - (k + 1)) := ((dp9 f4).trans (dp9 f2)).trans hdp
    have er : rAtom tx n (k + 1) p = bnd (rAtom tx n k (aftW tx n p)) (fun a p => .inr ((a.1 ++ [(8, 0)], fun e => J 1 - a.2 e), p)) := if_pos e
    rw [d4]
    refine ⟨fun c => absurd c n6, fun _ => ⟨fun c => absurd c (by decide), fun _ => ?_⟩⟩
    rw [ej, show d + 3 * k + 3 + 7 = (d + 2) + 3 * k + 8 by omega]
    have F4 := (f2.tr f4).mono P9_d
    have F5 : Fr (PYd y0) σ (setI τ4 y0 11 (J (6 - k))) := P11 F4
    refine hA _ _ _ _ _ k4.deep (hE.dd_ F5) (hw.fr F5 (PYd.w hy)) sI_same (fun a q ea τ7 f7 k7 d7 => ⟨k7.1.1, ?_⟩) (fun f0 ea τ7 v f7 k7 hb => ⟨k7.1.1, ?_⟩)
    · rw [d7, ek, not_b ((sA _ _ _ k4.le.1 ea).2.2 _ envR_7)]
      exact h1 _ q (by rw [er, bnd_r ea]) _ (P11 (F5.tr f7)) k7.deep sI_same
    · exact h0 f0 (by rw [er, bnd_l ea]) _ _ (P11 (F5.tr f7)) (k7.deep.up (by omega)) (by
        by_cases c : v = J 0
        · rw [if_pos c]; exact Or.inr rfl
        · rw [if_neg c]; exact Or.inl rfl)
  · refine r_isSign k4.g (c := 40) (by omega) (fun τ6 f6 k6 => ⟨k6.1.1, fun c => ?_, fun c => ?_⟩)
    · have e2 : isS tx n p 40 = false := by rw [b01] at c; exact c
      have er : rAtom tx n (k + 1) p = rPlain tx n p := by unfold rAtom; rw [if_neg (by rw [e1]; decide), if_neg (by rw [e2]; decide)]
      have F6 := ((f2.tr f4).tr f6).mono P9_d
      refine r_plain hy k6.g (hE.dd_ F6) hv (hw.fr F6 (PYd.w hy)) (fun a q ea τ7 f7 k7 => ⟨(rPlain_s hl.1 ea).2.2 _ envR_7, ?_⟩) (fun f0 ea τ7 v f7 k7 hb => ⟨hb, ?_⟩)
      · exact h1 a q (by rw [er]; exact ea) τ7 (F6.tr (f7.mono PY_d)) k7 ((dpt f7).trans ((((dp9 f6).trans (dp9 f4)).trans (dp9 f2)).trans hdp))
      · exact h0 f0 (by rw [er]; exact ea) τ7 v (F6.tr (f7.mono PY_d)) (k7.up (by omega)) hb
    · have ey : isS tx n p 40 = true := by cases h2 : isS tx n p 40 with | true => rfl | false => rw [h2] at c; exact absurd rfl c
      have d6 : sI τ6 y0 11 = J (6 - (k + 1)) := (((dp9 f6).trans (dp9 f4)).trans (dp9 f2)).trans hdp
      have er : rAtom tx n (k + 1) p = bnd (rAny tx n (rAtom tx n k) (aftS tx n p)) (fun a p => if isS tx n p 41 = true then .inr (a, aftS tx n p) else .inl p) := by unfold rAtom; rw [if_neg (by rw [e1]; decide), if_pos ey]
      rw [d6, k6.2.2.1]
      refine ⟨fun c => absurd c n6, fun _ => ⟨fun _ => ?_, fun c => absurd rfl c⟩⟩
      rw [ej, J_add, show d + 3 * k + 3 + 7 = d + 3 * k + 10 by omega]
      have F6 := ((f2.tr f4).tr f6).mono P9_d
      have g1 : RTg (setI τ6 y0 11 (J (6 - k))) y0 tx n bs p := k6.g.deep
      have hi := g1.inc (by rw [sI_any (by omega)]; exact k6.2.2.1) ey
      have F7 : Fr (PYd y0) σ (setI (setI τ6 y0 11 (J (6 - k))) y0 9 (J (p + 1))) := P99 (P11 F6)
      refine hN _ _ _ _ _ hi.2 (hE.dd_ F7) (hw.fr F7 (PYd.w hy)) (by rw [sI_any (by omega), sI_same]) (fun a q ea τ8 f8 k8 d8 => ⟨k8.1.1, fun _ => ?_, fun c => absurd k8.2.1 c⟩) (fun f0 ea τ8 v f8 k8 hb => ⟨k8.1.1, fun c => absurd c k8.bad, fun _ => ⟨hb, ?_⟩⟩)
      · have F8 := F7.tr f8
        have ab := (sN _ _ _ hi.2.le.1 ea).2.2 _ (envR_7 (mv := mv) (qn := qn) (lkv := lkv) (dpv := dpv) (nwv := nwv))
        refine r_isSign k8 (c := 41) (by omega) (fun τ9 f9 k9 => ⟨k9.1.1, fun c2 => ?_, fun c2 => ⟨ab, ?_⟩⟩)
        · have en : isS tx n q 41 = false := by rw [b01] at c2; exact c2
          rw [k9.2.2.1]
          refine r_wrong_g k9.g k8.le.1 (fun τ10 f10 k10 => ⟨k10.1.1, ab, ?_⟩)
          exact h0 q (by rw [er, bnd_r ea, if_neg (by rw [en]; decide)]) _ _ (P11 (P99 ((F8.tr (f9.mono P9_d)).tr (f10.mono PY_d)))) ((k10.inc (by omega)).deep.up (by omega)) ab
        · have ey2 : isS tx n q 41 = true := by cases h2 : isS tx n q 41 with | true => rfl | false => rw [h2] at c2; exact absurd rfl c2
          have hi2 := k9.g.inc k9.2.2.1 ey2
          rw [k9.2.2.1, J_add, (dp9 f9).trans d8, ek]
          exact h1 a _ (by rw [er, bnd_r ea, if_pos ey2]) _ (P11 (P99 (F8.tr (f9.mono P9_d)))) hi2.2.deep sI_same
      · exact h0 f0 (by rw [er, bnd_l ea]) _ _ (P11 (P99 (F7.tr f8))) (k8.inc (by omega)).deep hb
theorem atR_all (hy : y0 = 260) (hv : VG mv) : ∀ k, k ≤ 6 → AtR y0 tx n bs mv qn lkv dpv nwv k := by
  intro k
  induction k with
  | zero => intro _; exact atR_0 hy hv
  | succ k ih => intro hk; exact atR_s hy hv hk (ih (by omega)) (soR_of hy hv (by omega) (ih (by omega)))
theorem r_some (hy : y0 = 260) (hv : VG mv) (h : RTg σ y0 tx n bs p) (hE : EVr σ y0 mv qn lkv dpv nwv) (hw : WRD σ) (hdp : sI σ y0 11 = J 0) (h1 : ∀ a q, rAny tx n (rAtom tx n 6) p = .inr (a, q) → ∀ τ, Fr (PYd y0) σ τ → RTg τ y0 tx n bs q → sI τ y0 11 = J 0 → Q (.inl (some (.int (a.2 (envR mv qn lkv dpv nwv))))) τ)
    (h0 : ∀ f, rAny tx n (rAtom tx n 6) p = .inl f → ∀ τ v, Fr (PYd y0) σ τ → RTb τ y0 tx n bs f 6 → Q (.inl (some (.int v))) τ) : WP gT (d + 28) B 191 0 [.ref y0, .retAddr 0, .retAddr 0] [] σ Q :=
  soR_of hy hv (Nat.le_refl 6) (atR_all hy hv 6 (Nat.le_refl 6)) d B Q σ p h hE hw hdp h1 (fun f e τ v f2 k _ => h0 f e τ v f2 k)
