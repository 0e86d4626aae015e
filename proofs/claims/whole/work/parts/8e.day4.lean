/-! ===== a day takes all from another: the whole ===== -/
variable {d : Nat} {B : Nat × Nat} {Q : Out → Sto → Prop} {P : Nat → Nat → Prop} {σ τ : Sto} {x0 x1 y0 : Nat} {mv mv' kv : Mem} {img : Bool} {tp tp' : Mem} {n n' : Nat} {fl fl' : Option Nat}
def Pdy (x0 : Nat) : Nat → Nat → Prop := fun p _ => x0 ≤ p ∧ p ≤ x0 + 36
theorem c_takeDay (s0 : S_2 σ x0) (s1 : S_2 σ x1) (hd : x0 + 37 ≤ x1 ∨ x1 + 37 ≤ x0) (hx : x0 + 37 ≤ 278 ∧ x1 + 37 ≤ 278) (hv : VG mv) (ho : VOo mv) (h : RYd σ x1 mv) (hb : BLo σ x1)
    (hQ : ∀ τ1 τ3, Fr (Pdy x0) σ τ1 → Fr (Pdy x0) (rulS τ1 x0 x1 4) τ3 → RYd τ3 x0 mv → (∀ l, l < 16 → sI τ3 (x0 + 36) l = J 0 ∨ sI τ3 (x0 + 36) l = J 1) → Q (.inl none) τ3) : WP gT (d + 4) B 20 0 [.ref x0, .ref x1, .retAddr 0] [] σ Q := by
  have ho1 := ho.s
  obtain ⟨a1, a2, a3, a4, a5, a6⟩ := h
  refine g_20_0 s1 s0 ?_
  have f1 : Fr (Pdy x0) σ (setI σ x0 0 (sI σ x1 0)) := Fr.rf.setI (by unfold Pdy; omega)
  refine c_takeG (sub_2_1_4 (f1.sh s0)) (sub_2_1_4 (f1.sh s1)) (by omega) (fun τ2 g2 => ?_)
  have f2 : Fr (Pdy x0) σ τ2 := f1.tr (g2.1.mono (fun p j k => by unfold Pdy; omega))
  have G2 : RGg τ2 (x0 + 1) mv := (a1.fr f1 (fun i j hi k => by unfold Pdy at k; omega)).tk hv g2
  have z2 : sI τ2 x0 0 = J (mv 0) := by rw [g2.1.i (by omega), sI_same]; exact a3.1
  refine ⟨f2.sh s1, f2.sh s0, ?_⟩
  have f3 : Fr (Pdy x0) σ (setI τ2 x0 2 (sI τ2 x1 2)) := f2.setI (by unfold Pdy; omega)
  refine c_rows (f3.sh s0) (f3.sh s1) hd (fun τ4 g4 e4 => ?_)
  have f4 : Fr (Pdy x0) σ τ4 := f3.tr (g4.mono (fun p j k => by unfold Pdy; omega))
  refine g_20_29 (f4.sh s0) (f4.sh s1) ⟨fun _ => ?_, fun c => absurd (by decide) c⟩
  refine c_takeP (sub_2_24_6 (f4.sh s0)) (sub_2_24_6 (f4.sh s1)) (by omega) (fun τ5 g5 => ?_)
  have f5 : Fr (Pdy x0) σ τ5 := f4.tr (g5.1.mono (fun p j k => by unfold Pdy; omega))
  have P5 : RPp τ5 (x0 + 24) mv := (a2.fr f4 (fun i j hi k => by unfold Pdy at k; omega)).tk ho g5
  refine ⟨f5.sh s1, f5.sh s0, ?_⟩
  generalize e6 : setI (setI (setI (setI (setI τ5 x0 5 (sI τ5 x1 5)) x0 6 (sI (setI τ5 x0 5 (sI τ5 x1 5)) x1 6)) x0 7 (sI (setI (setI τ5 x0 5 (sI τ5 x1 5)) x0 6 (sI (setI τ5 x0 5 (sI τ5 x1 5)) x1 6)) x1 7)) x0 8 (sI (setI (setI (setI τ5 x0 5 (sI τ5 x1 5)) x0 6 (sI (setI τ5 x0 5 (sI τ5 x1 5)) x1 6)) x0 7 (sI (setI (setI τ5 x0 5 (sI τ5 x1 5)) x0 6 (sI (setI τ5 x0 5 (sI τ5 x1 5)) x1 6)) x1 7)) x1 8)) x0 9 (sI (setI (setI (setI (setI τ5 x0 5 (sI τ5 x1 5)) x0 6 (sI (setI τ5 x0 5 (sI τ5 x1 5)) x1 6)) x0 7 (sI (setI (setI τ5 x0 5 (sI τ5 x1 5)) x0 6 (sI (setI τ5 x0 5 (sI τ5 x1 5)) x1 6)) x1 7)) x0 8 (sI (setI (setI (setI τ5 x0 5 (sI τ5 x1 5)) x0 6 (sI (setI τ5 x0 5 (sI τ5 x1 5)) x1 6)) x0 7 (sI (setI (setI τ5 x0 5 (sI τ5 x1 5)) x0 6 (sI (setI τ5 x0 5 (sI τ5 x1 5)) x1 6)) x1 7)) x1 8)) x1 9) = σ6
  have g6 : Fr (fun p j => p = x0 ∧ 5 ≤ j ∧ j ≤ 9) τ5 σ6 := by
    rw [← e6]
    exact ((((Fr.rf.setI (by omega)).setI (by omega)).setI (by omega)).setI (by omega)).setI (by omega)
  have b6 : ∀ j, 5 ≤ j → j ≤ 9 → sI σ6 x0 j = sI σ x1 j := by
    intro j h1 h2
    rw [← f5.i (τ := τ5) (p := x1) (j := j) (by unfold Pdy; omega), ← e6]
    rcases (by omega : j = 5 ∨ j = 6 ∨ j = 7 ∨ j = 8 ∨ j = 9) with r | r | r | r | r
    all_goals subst r
    all_goals repeat (first | rw [sI_same] | rw [sI_any (by omega)])
  have f6 : Fr (Pdy x0) σ σ6 := f5.tr (g6.mono (fun p j k => by unfold Pdy; omega))
  have bl1 : ∀ i r, sP σ6 (x1 + 33) i = some r → sK σ6 r = 8 := fun i r hr => by
    rw [f6.P] at hr; rw [f6.K]; exact (hb.2 i r hr).2
  refine c_ruls (f6.sh s0) (f6.sh s1) hd bl1 ?_
  have t0 : S_2 (rulS σ6 x0 x1 4) x0 := rul_sh (f6.sh s0) (by omega) 4
  have t1 : S_2 (rulS σ6 x0 x1 4) x1 := rul_sh (f6.sh s1) (by omega) 4
  have r7 := rul_o (σ := σ6) (x0 := x0) (x1 := x1) 4
  refine g_20_109 t1 t0 ⟨fun _ => ?_, fun c => absurd (by decide) c⟩
  have y7 : ∀ j, j < 4 → sP (rulS σ6 x0 x1 4) (x0 + 33) j = sP σ6 (x1 + 33) j := fun j hj => rul_y 4 hj
  have m7 : ∀ p j, p ≠ x0 + 33 → sP (rulS σ6 x0 x1 4) p j = sP σ6 p j := fun p j hp => rul_n hp 4
  generalize e7 : rulS σ6 x0 x1 4 = σ7 at t0 t1 r7 y7 m7 ⊢
  have n7 : ∀ p j, sI σ7 p j = sI σ6 p j := fun p j => by rw [r7.2.2.2.1]
  have f8 : Fr (Pdy x0) σ7 (setI σ7 x0 11 (sI σ7 x1 11)) := Fr.rf.setI (by unfold Pdy; omega)
  have k0 := (f8.sh t0).1
  have k1 := (f8.sh t1).1
  refine c_copyRow (z := 16) (k1 34 (by omega)).1 (k0 34 (by omega)).1 (k1 34 (by omega)).2 (k0 34 (by omega)).2 (by omega) (by omega) (fun τ9 g9 e9 => ?_)
  have f9 : Fr (Pdy x0) σ7 τ9 := f8.tr (g9.mono (fun p j k => by unfold Pdy; omega))
  refine ⟨f9.sh t1, f9.sh t0, ?_⟩
  have k0 := (f9.sh t0).1
  have k1 := (f9.sh t1).1
  refine c_copyRow (z := 16) (k1 35 (by omega)).1 (k0 35 (by omega)).1 (k1 35 (by omega)).2 (k0 35 (by omega)).2 (by omega) (by omega) (fun τ10 g10 e10 => ?_)
  have f10 : Fr (Pdy x0) σ7 τ10 := f9.tr (g10.mono (fun p j k => by unfold Pdy; omega))
  have src : ∀ {τ : Sto}, Fr (Pdy x0) σ7 τ → ∀ i j, i ≤ 36 → sI τ (x1 + i) j = sI σ (x1 + i) j := fun f i j hi => by
    rw [f.i (by unfold Pdy; omega), n7, f6.i (by unfold Pdy; omega)]
  refine c_logs (f10.sh t0) (f10.sh t1) hd (fun l hl => by rw [src f10 36 l (by omega)]; exact hb.1 l hl) (fun τ11 g11 e11 => ?_)
  have f11 : Fr (Pdy x0) σ7 τ11 := f10.tr (g11.mono (fun p j k => by unfold Pdy; omega))
  /- what stays behind the rules -/
  have b7 : ∀ p j, ¬ (p = x0 ∧ j = 11) → ¬ (x0 + 34 ≤ p ∧ p ≤ x0 + 36) → sI τ11 p j = sI σ6 p j := fun p j h1 h2 => by
    rw [g11.i (by omega), g10.i (by omega), g9.i (by omega), sI_any (by omega), n7]
  have b5 : ∀ p j, ¬ (p = x0 ∧ 5 ≤ j) → ¬ (x0 + 34 ≤ p ∧ p ≤ x0 + 36) → sI τ11 p j = sI τ5 p j := fun p j h1 h2 => by
    rw [b7 p j (by omega) h2, g6.i (by omega)]
  have b2 : ∀ i j, 1 ≤ i → i < 17 → sI τ11 (x0 + i) j = sI τ2 (x0 + i) j := fun i j h1 h2 => by
    rw [b5 _ _ (by omega) (by omega), g5.1.i (by omega), g4.i (by omega), sI_any (by omega)]
  refine hQ σ6 τ11 f6 (by rw [e7]; exact f11) ⟨?_, ?_, ?_, fun o hk k hk2 => ?_, fun l hl => ?_, fun i hi => ?_⟩ (fun l hl => ?_)
  · refine G2.eqI (fun i j hi => ?_)
    rw [show x0 + 1 + i = x0 + (1 + i) by omega]; exact b2 _ _ (by omega) (by omega)
  · refine P5.eqI (fun i j hi => ?_)
    exact b5 _ _ (by omega) (by omega)
  · refine ⟨?_, ?_, ?_, ?_, ?_, ?_, ?_, ?_⟩
    · rw [b5 _ _ (by omega) (by omega), g5.1.i (by omega), g4.i (by omega), sI_any (by omega)]; exact z2
    · rw [b5 _ _ (by omega) (by omega), g5.1.i (by omega), g4.i (by omega), sI_same, f2.i (by unfold Pdy; omega)]; exact a3.2.1
    · rw [b7 _ _ (by omega) (by omega), b6 5 (by omega) (by omega)]; exact a3.2.2.1
    · rw [b7 _ _ (by omega) (by omega), b6 6 (by omega) (by omega)]; exact a3.2.2.2.1
    · rw [b7 _ _ (by omega) (by omega), b6 7 (by omega) (by omega)]; exact a3.2.2.2.2.1
    · rw [b7 _ _ (by omega) (by omega), b6 8 (by omega) (by omega)]; exact a3.2.2.2.2.2.1
    · rw [b7 _ _ (by omega) (by omega), b6 9 (by omega) (by omega)]; exact a3.2.2.2.2.2.2.1
    · rw [g11.i (by omega), g10.i (by omega), g9.i (by omega), sI_same, n7, f6.i (by unfold Pdy; omega)]; exact a3.2.2.2.2.2.2.2
  · rw [b5 _ _ (by omega) (by omega), g5.1.i (by omega), e4 o (by omega) k hk2, sI_any (by omega), show x1 + 18 + o = x1 + (18 + o) by omega, f2.i (by unfold Pdy; omega), show x1 + (18 + o) = x1 + 18 + o by omega]; exact a4 o hk k hk2
  · have ho2 := a5 l hl
    have h16 : l < 16 := by omega
    refine ⟨?_, ?_, ?_⟩
    · rw [g11.i (by omega), g10.i (by omega), e9 l h16, sI_any (by omega), n7, f6.i (by unfold Pdy; omega)]; exact ho2.1
    · rw [g11.i (by omega), e10 l h16, g9.i (by omega), sI_any (by omega), n7, f6.i (by unfold Pdy; omega)]; exact ho2.2.1
    · rw [e11 l h16, src f10 36 l (by omega)]; exact ho2.2.2
  · obtain ⟨h1, R, p, r, h2, h3, h4⟩ := a6 i hi
    have hr := h4.1
    refine ⟨h1, R, p, r, h2, by rw [f11.P, y7 i (by omega), f6.P]; exact h3, h4.mv_ ⟨?_, fun p hp => ?_⟩ (fun j => ?_) (fun a j ha => ?_)⟩
    · rw [f11.N, r7.1, f6.N]; exact Nat.le_refl _
    · rw [f11.K, f11.Z, r7.2.1, r7.2.2.1, f6.K, f6.Z]; exact ⟨rfl, rfl⟩
    · rw [f11.P, m7 _ _ (by omega), f6.P]
    · rw [f11.i (by unfold Pdy; omega), n7, f6.i (by unfold Pdy; omega)]
  · rw [e11 l hl, src f10 36 l (by omega)]; exact hb.1 l hl
/-- what a call of the class leaves of all else -/
def FC2 (σ τ : Sto) : Prop := sN σ ≤ sN τ ∧ ∀ p, (p < 96 ∨ (260 ≤ p ∧ p < 278)) → sK τ p = sK σ p ∧ sZ τ p = sZ σ p ∧ sP τ p = sP σ p ∧ sI τ p = sI σ p ∧ sL τ p = sL σ p
theorem FCl.f2 (h : FCl σ τ) : FC2 σ τ := ⟨by rw [h.N]; exact Nat.le_refl _, fun p hp => ⟨by rw [h.K], by rw [h.Z], by rw [h.P], funext (fun j => h.i (by omega)), funext (fun j => h.l (by omega))⟩⟩
theorem FC2.of1 (hx : x0 + 37 ≤ 260 ∧ 96 ≤ x0) (h : Fr (Pdy x0) σ τ) : FC2 σ τ := ⟨by rw [h.N]; exact Nat.le_refl _, fun p hp => ⟨by rw [h.K], by rw [h.Z], by rw [h.P], funext (fun j => h.i (by unfold Pdy; omega)), funext (fun j => h.l (by unfold Pdy; omega))⟩⟩
theorem FC2.tr {ρ : Sto} (h : FC2 σ τ) (k : FC2 τ ρ) : FC2 σ ρ := ⟨Nat.le_trans h.1 k.1, fun p hp => by
  have a := h.2 p hp
  have b := k.2 p hp
  exact ⟨b.1.trans a.1, b.2.1.trans a.2.1, b.2.2.1.trans a.2.2.1, b.2.2.2.1.trans a.2.2.2.1, b.2.2.2.2.trans a.2.2.2.2⟩⟩
theorem FC2.rul (hx : x0 + 37 ≤ 260 ∧ 96 ≤ x0) : FC2 σ (rulS σ x0 x1 4) := by
  have r := rul_o (σ := σ) (x0 := x0) (x1 := x1) 4
  refine ⟨by rw [r.1]; exact Nat.le_refl _, fun p hp => ⟨by rw [r.2.1], by rw [r.2.2.1], funext (fun j => rul_n (by omega) 4), by rw [r.2.2.2.1], by rw [r.2.2.2.2]⟩⟩
/-- the other day, while the rules are copied -/
theorem RYd.rul {dd : Nat} (h : RYd σ dd mv) (hd : dd + 37 ≤ x0 ∨ x0 + 37 ≤ dd) (hx : x0 + 37 ≤ 278) : RYd (rulS σ x0 x1 4) dd mv := by
  have r := rul_o (σ := σ) (x0 := x0) (x1 := x1) 4
  have n7 : ∀ p j, sI (rulS σ x0 x1 4) p j = sI σ p j := fun p j => by rw [r.2.2.2.1]
  obtain ⟨a1, a2, a3, a4, a5, a6⟩ := h
  refine ⟨a1.eqI (fun i j _ => n7 _ _), a2.eqI (fun i j _ => n7 _ _), ?_, fun o ho k hk => by rw [n7]; exact a4 o ho k hk, fun l hl => ?_, fun i hi => ?_⟩
  · simp only [n7]; exact a3
  · simp only [n7]; exact a5 l hl
  · obtain ⟨h1, R, p, q, h2, h3, h4⟩ := a6 i hi
    have hr := h4.1
    exact ⟨h1, R, p, q, h2, by rw [rul_n (by omega) 4]; exact h3, h4.mv_ ⟨by rw [r.1]; exact Nat.le_refl _, fun p _ => ⟨by rw [r.2.1], by rw [r.2.2.1]⟩⟩ (fun j => rul_n (by omega) 4) (fun a j _ => n7 _ _)⟩
theorem BLo.rul {dd : Nat} (h : BLo σ dd) (hb : BLo σ x1) : BLo (rulS σ x0 x1 4) dd := by
  have r := rul_o (σ := σ) (x0 := x0) (x1 := x1) 4
  refine ⟨fun l hl => by rw [r.2.2.2.1]; exact h.1 l hl, fun i q e => ?_⟩
  rw [r.1, r.2.1]
  by_cases c : dd = x0
  · by_cases c2 : i < 4
    · rw [c, rul_y 4 c2] at e; exact hb.2 i q e
    · have e2 : ∀ m, m ≤ 4 → sP (rulS σ x0 x1 m) (x0 + 33) i = sP σ (x0 + 33) i := by
        intro m
        induction m with
        | zero => intro _; rfl
        | succ m ih => intro hm; exact (sP_any (fun e => by omega)).trans (ih (by omega))
      rw [c, e2 4 (by omega)] at e; exact h.2 i q (by rw [c]; exact e)
  · rw [rul_n (by omega) 4] at e; exact h.2 i q e
theorem ps11_r : ∀ k, k < 163 → (ps_11.getD k (0, 0, 0)).1 ≠ 57 ∧ (ps_11.getD k (0, 0, 0)).1 ≠ 94 := by decide +kernel
theorem S11.rul (s : S_11 σ x0) {a b : Nat} (ha : a = x0 + 24 ∨ a = x0 + 61) : S_11 (rulS σ a b 4) x0 := by
  have r := rul_o (σ := σ) (x0 := a) (x1 := b) 4
  refine ⟨fun k hk => by rw [r.2.1, r.2.2.1]; exact s.1 k hk, fun k hk => ?_⟩
  have := ps11_r k hk
  rw [rul_n (by omega) 4]; exact s.2 k hk
theorem cc_image (h : CIv σ x0 mv kv img tp n fl) (h0 : ∀ τ, CIv τ x0 mv mv true tp n fl → FC2 σ τ → Q (.inl none) τ) : WP gT (d + 5) B 138 0 [.ref x0] [] σ Q := by
  obtain ⟨⟨a1, a2, a3, a4, a5, a6, a7, a8, a9, a10⟩, b⟩ := h
  have hx := a1.1
  have hs := a3.1.s
  have ho1 := a3.2.1.s
  refine g_138_0 a2 (c_takeDay (sub_11_61_2 a2) (sub_11_24_2 a2) (by omega) (by omega) a3.1 a3.2.1 a3.2.2 a9 (fun τ1 τ3 f1 f3 hY hB => ?_))
  have t2 := f3.sh (S11.rul (f1.sh a2) (a := x0 + 61) (b := x0 + 24) (Or.inr rfl))
  refine ⟨t2, ?_⟩
  have r := rul_o (σ := τ1) (x0 := x0 + 61) (x1 := x0 + 24) 4
  have f4 : Fr (fun p j => p = x0 ∧ j = 11) τ3 (setI τ3 x0 11 (J 1)) := Fr.rf.setI ⟨rfl, rfl⟩
  generalize e5 : setI τ3 x0 11 (J 1) = τ5 at f4 ⊢
  have e11 : sI τ5 x0 11 = J 1 := by rw [← e5, sI_same]
  have n5 : ∀ p j, ¬ (x0 + 61 ≤ p ∧ p ≤ x0 + 97) → ¬ (p = x0 ∧ j = 11) → sI τ5 p j = sI σ p j := fun p j h1 h2 => by
    rw [f4.i h2, f3.i (by unfold Pdy; omega), r.2.2.2.1, f1.i (by unfold Pdy; omega)]
  have y1 : RYd τ5 (x0 + 24) mv := ((((a3.2.2.fr (by omega) f1 (fun p j k => by unfold Pdy at k; omega)).rul (x0 := x0 + 61) (x1 := x0 + 24) (by omega) (by omega)).fr (by omega) f3 (fun p j k => by unfold Pdy at k; omega)).fr (by omega) f4 (fun p j k => by omega))
  have y2 : RYd τ5 (x0 + 61) mv := hY.fr (by omega) f4 (fun p j k => by omega)
  have b1 : BLo τ5 (x0 + 24) := (((a9.fr f1 (fun j k => by unfold Pdy at k; omega)).rul (x0 := x0 + 61) (x1 := x0 + 24) (a9.fr f1 (fun j k => by unfold Pdy at k; omega))).fr f3 (fun j k => by unfold Pdy at k; omega)).fr f4 (fun j k => by omega)
  have b2 : BLo τ5 (x0 + 61) := by
    refine ⟨fun l hl => by rw [f4.i (by omega)]; exact hB l hl, fun i q e => ?_⟩
    have c2 : ∀ i q, sP (rulS τ1 (x0 + 61) (x0 + 24) 4) (x0 + 61 + 33) i = some q → q < sN (rulS τ1 (x0 + 61) (x0 + 24) 4) ∧ sK (rulS τ1 (x0 + 61) (x0 + 24) 4) q = 8 := by
      intro i q e
      rw [r.1, r.2.1, f1.N, f1.K]
      by_cases c2 : i < 4
      · rw [rul_y 4 c2, f1.P] at e; exact a9.2 i q e
      · have e2 : ∀ m, m ≤ 4 → sP (rulS τ1 (x0 + 61) (x0 + 24) m) (x0 + 61 + 33) i = sP τ1 (x0 + 61 + 33) i := by
          intro m
          induction m with
          | zero => intro _; rfl
          | succ m ih => intro hm; exact (sP_any (fun e => by omega)).trans (ih (by omega))
        rw [e2 4 (by omega), f1.P] at e; exact a10.2 i q e
    rw [f4.P, f3.P] at e
    rw [f4.N, f4.K, f3.N, f3.K]; exact c2 i q e
  refine h0 τ5 ⟨⟨⟨a1.1, by rw [f4.N, f3.N, r.1, f1.N]; exact a1.2⟩, f4.sh t2, ⟨a3.1, a3.2.1, y1⟩, fun _ => ⟨a3.1, a3.2.1, y2⟩, ?_, ⟨?_, a6.2.1, fun k hk => ?_⟩, ⟨?_, a7.2⟩, ?_, b1, b2⟩, ?_⟩ ?_
  · rw [e11]; rfl
  · rw [n5 _ _ (by omega) (by omega)]; exact a6.1
  · rw [n5 _ _ (by omega) (by omega)]; exact a6.2.2 k hk
  · rw [n5 _ _ (by omega) (by omega)]; exact a7.1
  · rw [n5 _ _ (by omega) (by omega)]; exact a8
  · rcases b with e | ⟨o, h3, h4, h5⟩
    · exact Or.inl (by rw [n5 _ _ (by omega) (by omega)]; exact e)
    · refine Or.inr ⟨o, h3, by rw [n5 _ _ (by omega) (by omega)]; exact h4, fun q hq => ⟨?_, fun r hr => ?_⟩⟩
      · rw [n5 _ _ (by omega) (by omega), n5 _ _ (by omega) (by omega), n5 _ _ (by omega) (by omega)]; exact (h5 q hq).1
      · rw [n5 _ _ (by omega) (by omega), n5 _ _ (by omega) (by omega)]; exact (h5 q hq).2 r hr
  · exact (((FC2.of1 (by omega) f1).tr (FC2.rul (x1 := x0 + 24) (by omega))).tr (FC2.of1 (by omega) f3)).tr (FCl.f2 (FCl.of hx f4 (fun p j k => by omega)))
theorem cc_back (h : CIv σ x0 mv kv img tp n fl) (h0 : img = true → ∀ τ, CIv τ x0 kv kv img tp n fl → FC2 σ τ → Q (.inl (some (.int (J 1)))) τ) (h1 : img = false → Q (.inl (some (.int (J 0)))) σ) : WP gT (d + 5) B 139 0 [.ref x0] [] σ Q := by
  obtain ⟨⟨a1, a2, a3, a4, a5, a6, a7, a8, a9, a10⟩, b⟩ := h
  have hx := a1.1
  cases img with
  | false => exact g_139_0 a2 ⟨fun _ => h1 rfl, fun c => absurd (by rw [a5]; rfl) c⟩
  | true =>
    refine g_139_0 a2 ⟨fun c => by rw [a5] at c; exact absurd c (by decide), fun _ => ?_⟩
    obtain ⟨v1, v2, v3⟩ := a4 rfl
    have hs := v1.s
    have ho1 := v2.s
    have ho2 := a3.2.1.s
    refine c_takeDay (sub_11_24_2 a2) (sub_11_61_2 a2) (by omega) (by omega) v1 v2 v3 a10 (fun τ1 τ3 f1 f3 hY hB => ?_)
    have t2 := f3.sh (S11.rul (f1.sh a2) (a := x0 + 24) (b := x0 + 61) (Or.inl rfl))
    refine ⟨t2, ?_⟩
    have r := rul_o (σ := τ1) (x0 := x0 + 24) (x1 := x0 + 61) 4
    have f4 : Fr (fun p j => p = x0 ∧ j = 12) τ3 (setI τ3 x0 12 (-J 1)) := Fr.rf.setI ⟨rfl, rfl⟩
    generalize e5 : setI τ3 x0 12 (-J 1) = τ5 at f4 ⊢
    have e12 : sI τ5 x0 12 = -J 1 := by rw [← e5, sI_same]
    have n5 : ∀ p j, ¬ (x0 + 24 ≤ p ∧ p ≤ x0 + 60) → ¬ (p = x0 ∧ j = 12) → sI τ5 p j = sI σ p j := fun p j h1 h2 => by
      rw [f4.i h2, f3.i (by unfold Pdy; omega), r.2.2.2.1, f1.i (by unfold Pdy; omega)]
    have y1 : RYd τ5 (x0 + 61) kv := ((((v3.fr (by omega) f1 (fun p j k => by unfold Pdy at k; omega)).rul (x0 := x0 + 24) (x1 := x0 + 61) (by omega) (by omega)).fr (by omega) f3 (fun p j k => by unfold Pdy at k; omega)).fr (by omega) f4 (fun p j k => by omega))
    have y2 : RYd τ5 (x0 + 24) kv := hY.fr (by omega) f4 (fun p j k => by omega)
    have b1 : BLo τ5 (x0 + 61) := (((a10.fr f1 (fun j k => by unfold Pdy at k; omega)).rul (x0 := x0 + 24) (x1 := x0 + 61) (a10.fr f1 (fun j k => by unfold Pdy at k; omega))).fr f3 (fun j k => by unfold Pdy at k; omega)).fr f4 (fun j k => by omega)
    have b2 : BLo τ5 (x0 + 24) := by
      refine ⟨fun l hl => by rw [f4.i (by omega)]; exact hB l hl, fun i q e => ?_⟩
      have c2 : ∀ i q, sP (rulS τ1 (x0 + 24) (x0 + 61) 4) (x0 + 24 + 33) i = some q → q < sN (rulS τ1 (x0 + 24) (x0 + 61) 4) ∧ sK (rulS τ1 (x0 + 24) (x0 + 61) 4) q = 8 := by
        intro i q e
        rw [r.1, r.2.1, f1.N, f1.K]
        by_cases c2 : i < 4
        · rw [rul_y 4 c2, f1.P] at e; exact a10.2 i q e
        · have e2 : ∀ m, m ≤ 4 → sP (rulS τ1 (x0 + 24) (x0 + 61) m) (x0 + 24 + 33) i = sP τ1 (x0 + 24 + 33) i := by
            intro m
            induction m with
            | zero => intro _; rfl
            | succ m ih => intro hm; exact (sP_any (fun e => by omega)).trans (ih (by omega))
          rw [e2 4 (by omega), f1.P] at e; exact a9.2 i q e
      rw [f4.P, f3.P] at e
      rw [f4.N, f4.K, f3.N, f3.K]; exact c2 i q e
    refine h0 rfl τ5 ⟨⟨⟨a1.1, by rw [f4.N, f3.N, r.1, f1.N]; exact a1.2⟩, f4.sh t2, ⟨v1, v2, y2⟩, fun _ => ⟨v1, v2, y1⟩, ?_, ⟨?_, a6.2.1, fun k hk => ?_⟩, ⟨?_, a7.2⟩, ?_, b2, b1⟩, Or.inl e12⟩ ?_
    · rw [n5 _ _ (by omega) (by omega)]; exact a5
    · rw [n5 _ _ (by omega) (by omega)]; exact a6.1
    · rw [n5 _ _ (by omega) (by omega)]; exact a6.2.2 k hk
    · rw [n5 _ _ (by omega) (by omega)]; exact a7.1
    · rw [n5 _ _ (by omega) (by omega)]; exact a8
    · exact (((FC2.of1 (by omega) f1).tr (FC2.rul (x1 := x0 + 61) (by omega))).tr (FC2.of1 (by omega) f3)).tr (FCl.f2 (FCl.of hx f4 (fun p j k => by omega)))
