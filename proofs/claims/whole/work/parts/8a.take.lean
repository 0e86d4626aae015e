/-! ===== one object takes all from another ===== -/
variable {d : Nat} {B : Nat × Nat} {Q : Out → Sto → Prop} {P : Nat → Nat → Prop} {σ τ : Sto} {x0 x1 y0 : Nat} {mv mv' kv : Mem} {img : Bool} {tp tp' : Mem} {n n' : Nat} {fl fl' : Option Nat}
def GC (zs : List (Nat × Nat)) (w : Nat) (σ τ : Sto) (x0 x1 m : Nat) (L : List Nat) : Prop := Fr (fun p _ => x0 ≤ p ∧ p < x0 + w) σ τ ∧ (∀ i, 1 ≤ i → i < m → (zs.getD i (0, 0)).1 = 14 → ∀ j, j < (zs.getD i (0, 0)).2 → sI τ (x0 + i) j = sI σ (x1 + i) j) ∧ ∀ j, j ∈ L → sI τ x0 j = sI σ x1 j
theorem GC.set {zs : List (Nat × Nat)} {w m j : Nat} {L : List Nat} (h : GC zs w σ τ x0 x1 m L) (hw : 0 < w) (hd : x0 + w ≤ x1 ∨ x1 + w ≤ x0) : GC zs w σ (setI τ x0 j (sI τ x1 j)) x0 x1 m (j :: L) := by
  refine ⟨h.1.setI (by omega), fun i h1 h2 h3 k hk => ?_, fun k hk => ?_⟩
  · rw [sI_any (by omega)]; exact h.2.1 i h1 h2 h3 k hk
  · by_cases e : k = j
    · subst e; rw [sI_same]; exact h.1.i (by omega)
    · rw [sI_any (by omega)]
      exact h.2.2 k ((List.mem_cons.mp hk).resolve_left e)
theorem GC.cp {nn np : Nat} {zs : List (Nat × Nat)} {ps : List (Nat × Nat × Nat)} {m z : Nat} {L : List Nat} (s0 : Shp nn np zs ps σ x0) (s1 : Shp nn np zs ps σ x1) (h : GC zs nn σ τ x0 x1 m L) (hm : m < nn) (h1 : 1 ≤ m) (hz : zs.getD m (0, 0) = (14, z)) (hz2 : z < 1000000) (hd : x0 + nn ≤ x1 ∨ x1 + nn ≤ x0) (hQ : ∀ τ', GC zs nn σ τ' x0 x1 (m + 1) L → Shp nn np zs ps τ' x1 → Shp nn np zs ps τ' x0 → Q (.inl none) τ') : WP gT (d + 2) B 156 0 [.ref (x1 + m), .ref (x0 + m)] [] τ Q := by
  have k0 := (h.1.sh s0).1 m hm
  have k1 := (h.1.sh s1).1 m hm
  rw [hz] at k0 k1
  refine c_copyRow k1.1 k0.1 k1.2 k0.2 hz2 (by omega) (fun τ' f e => ?_)
  have g : GC zs nn σ τ' x0 x1 (m + 1) L := by
    refine ⟨h.1.tr (f.mono (fun p j k => by omega)), fun i a b c j hj => ?_, fun j hj => ?_⟩
    · by_cases ei : i = m
      · subst ei
        rw [hz] at hj
        rw [e j hj]; exact h.1.i (by omega)
      · rw [f.i (by omega)]; exact h.2.1 i a (by omega) c j hj
    · rw [f.i (by omega)]; exact h.2.2 j hj
  exact hQ τ' g (g.1.sh s1) (g.1.sh s0)
theorem c_takeG (s0 : S_4 σ x0) (s1 : S_4 σ x1) (hd : x0 + 16 ≤ x1 ∨ x1 + 16 ≤ x0) (hQ : ∀ τ, GC zs_4 16 σ τ x0 x1 16 [14, 8, 5, 3, 2, 1, 0] → Q (.inl none) τ) : WP gT (d + 3) B 36 0 [.ref x0, .ref x1, .retAddr 0] [] σ Q := by
  refine g_36_0 s1 s0 ?_
  have g0 : GC zs_4 16 σ σ x0 x1 2 [] := ⟨Fr.rf, fun i a b c => by rw [show i = 1 by omega] at c; exact absurd c (by decide), fun j hj => absurd hj List.not_mem_nil⟩
  have g1 := (((g0.set (j := 0) (by omega) hd).set (j := 1) (by omega) hd).set (j := 2) (by omega) hd).set (j := 3) (by omega) hd
  have L : ∀ i τ, i ≤ 3 → GC zs_4 16 σ τ x0 x1 (2 + i) [3, 2, 1, 0] → WP gT (d + 3) B 36 34 [.ref x0, .ref x1, .int (J i)] [] τ Q := by
    refine upto 3 ?_ ?_
    · intro i τ hi g ih
      refine g_36_34 (g.1.sh s0) (g.1.sh s1) ⟨fun c => ?_, fun _ => ⟨(by simp (disch := omega) only [J_add, J_mul, J_sub, J_cl, vp_J]; omega), (by simp (disch := omega) only [J_add, J_mul, J_sub, J_cl, vp_J]; omega), ?_⟩⟩
      · exfalso; simp (disch := omega) only [J_add, J_mul, J_sub, J_cl, J_lt, J_le, J_eq, vp_J, n1_ne, n1_lt, n1_le, n1_nlt, n1_nle] at c; omega
      · rw [J_cl (by omega), J_add, Nat.add_assoc, Nat.add_assoc]
        have hz : zs_4.getD (2 + i) (0, 0) = (14, 96) := by
          match i, hi with
          | 0, _ => rfl
          | 1, _ => rfl
          | 2, _ => rfl
        exact GC.cp s0 s1 g (by omega) (by omega) hz (by omega) hd (fun τ' g' _ _ => ih τ' g')
    · intro τ g
      refine g_36_34 (g.1.sh s0) (g.1.sh s1) ⟨fun _ => ?_, fun c => absurd (by decide) c⟩
      refine GC.cp s0 s1 (g.set (j := 5) (by omega) hd) (by omega) (by omega) (z := 4) rfl (by omega) hd (fun τ g k1 k0 => ⟨k1, k0, ?_⟩)
      refine GC.cp s0 s1 g (by omega) (by omega) (z := 28) rfl (by omega) hd (fun τ g k1 k0 => ⟨k1, k0, ?_⟩)
      refine GC.cp s0 s1 (g.set (j := 8) (by omega) hd) (by omega) (by omega) (z := 8) rfl (by omega) hd (fun τ g k1 k0 => ⟨k1, k0, ?_⟩)
      refine GC.cp s0 s1 g (by omega) (by omega) (z := 8) rfl (by omega) hd (fun τ g k1 k0 => ⟨k1, k0, ?_⟩)
      refine GC.cp s0 s1 g (by omega) (by omega) (z := 8) rfl (by omega) hd (fun τ g k1 k0 => ⟨k1, k0, ?_⟩)
      refine GC.cp s0 s1 g (by omega) (by omega) (z := 8) rfl (by omega) hd (fun τ g k1 k0 => ⟨k1, k0, ?_⟩)
      refine GC.cp s0 s1 g (by omega) (by omega) (z := 8) rfl (by omega) hd (fun τ g k1 k0 => ⟨k1, k0, ?_⟩)
      refine GC.cp s0 s1 (g.set (j := 14) (by omega) hd) (by omega) (by omega) (z := 12) rfl (by omega) hd (fun τ g k1 k0 => ⟨k1, k0, ?_⟩)
      refine GC.cp s0 s1 g (by omega) (by omega) (z := 12) rfl (by omega) hd (fun τ g k1 k0 => ⟨k1, k0, ?_⟩)
      refine GC.cp s0 s1 g (by omega) (by omega) (z := 12) rfl (by omega) hd (fun τ g k1 k0 => ⟨k1, k0, ?_⟩)
      exact GC.cp s0 s1 g (by omega) (by omega) (z := 12) rfl (by omega) hd (fun τ g _ _ => hQ τ g)
  exact L 0 _ (by omega) g1
theorem c_takeP (s0 : S_6 σ x0) (s1 : S_6 σ x1) (hd : x0 + 9 ≤ x1 ∨ x1 + 9 ≤ x0) (hQ : ∀ τ, GC zs_6 9 σ τ x0 x1 9 [7, 0] → Q (.inl none) τ) : WP gT (d + 3) B 52 0 [.ref x0, .ref x1] [] σ Q := by
  have g0 : GC zs_6 9 σ σ x0 x1 1 [] := ⟨Fr.rf, fun i a b => by omega, fun j hj => absurd hj List.not_mem_nil⟩
  refine g_52_0 s1 s0 ?_
  refine GC.cp s0 s1 (g0.set (j := 0) (by omega) hd) (by omega) (by omega) (z := 10) rfl (by omega) hd (fun τ g k1 k0 => ⟨k1, k0, ?_⟩)
  refine GC.cp s0 s1 g (by omega) (by omega) (z := 10) rfl (by omega) hd (fun τ g k1 k0 => ⟨k1, k0, ?_⟩)
  refine GC.cp s0 s1 g (by omega) (by omega) (z := 10) rfl (by omega) hd (fun τ g k1 k0 => ⟨k1, k0, ?_⟩)
  refine GC.cp s0 s1 g (by omega) (by omega) (z := 10) rfl (by omega) hd (fun τ g k1 k0 => ⟨k1, k0, ?_⟩)
  refine GC.cp s0 s1 g (by omega) (by omega) (z := 10) rfl (by omega) hd (fun τ g k1 k0 => ⟨k1, k0, ?_⟩)
  refine GC.cp s0 s1 g (by omega) (by omega) (z := 10) rfl (by omega) hd (fun τ g k1 k0 => ⟨k1, k0, ?_⟩)
  refine GC.cp s0 s1 (g.set (j := 7) (by omega) hd) (by omega) (by omega) (z := 24) rfl (by omega) hd (fun τ g k1 k0 => ⟨k1, k0, ?_⟩)
  exact GC.cp s0 s1 g (by omega) (by omega) (z := 24) rfl (by omega) hd (fun τ g _ _ => hQ τ g)
theorem GC.at {w m : Nat} {zs : List (Nat × Nat)} {L : List Nat} (g : GC zs w σ τ x0 x1 m L) (i z : Nat) (hz : zs.getD i (0, 0) = (14, z)) (h1 : 1 ≤ i) (hi : i < m) {j : Nat} (hj : j < z) : sI τ (x0 + i) j = sI σ (x1 + i) j := g.2.1 i h1 hi (by rw [hz]) j (by rw [hz]; exact hj)
theorem RGg.tk (h : RGg σ x1 mv) (hv : VG mv) (g : GC zs_4 16 σ τ x0 x1 16 [14, 8, 5, 3, 2, 1, 0]) : RGg τ x0 mv := by
  obtain ⟨h1, h2, h3, h4, h5, h6⟩ := h
  have hs := hv.s
  have e0 : ∀ j, j ∈ [14, 8, 5, 3, 2, 1, 0] → sI τ x0 j = sI σ x1 j := g.2.2
  refine ⟨?_, fun q hq => ?_, fun i hi => ?_, fun i hi => ⟨?_, fun s a b => ?_⟩, fun r hr => ?_, fun p hp => ?_⟩
  · rw [e0 0 (by decide), e0 1 (by decide), e0 2 (by decide), e0 3 (by decide), e0 5 (by decide), e0 8 (by decide), e0 14 (by decide)]; exact h1
  · rw [g.at 2 96 rfl (by omega) (by omega) hq, g.at 3 96 rfl (by omega) (by omega) hq, g.at 4 96 rfl (by omega) (by omega) hq]; exact h2 q hq
  · rw [g.at 6 28 rfl (by omega) (by omega) (by omega)]; exact h3 i hi
  · rw [g.at 5 4 rfl (by omega) (by omega) (by omega)]; exact (h4 i hi).1
  · have := hv.g hi
    rw [g.at 6 28 rfl (by omega) (by omega) (by omega)]; exact (h4 i hi).2 s a b
  · rw [g.at 7 8 rfl (by omega) (by omega) (by omega), g.at 8 8 rfl (by omega) (by omega) (by omega), g.at 9 8 rfl (by omega) (by omega) (by omega), g.at 10 8 rfl (by omega) (by omega) (by omega), g.at 11 8 rfl (by omega) (by omega) (by omega)]; exact h5 r hr
  · rw [g.at 12 12 rfl (by omega) (by omega) (by omega), g.at 13 12 rfl (by omega) (by omega) (by omega), g.at 14 12 rfl (by omega) (by omega) (by omega), g.at 15 12 rfl (by omega) (by omega) (by omega)]; exact h6 p hp
theorem RPp.tk (h : RPp σ x1 mv) (ho : VOo mv) (g : GC zs_6 9 σ τ x0 x1 9 [7, 0]) : RPp τ x0 mv := by
  have ho1 := ho.s
  refine ⟨by rw [g.2.2 0 (by decide), g.2.2 7 (by decide)]; exact h.1, fun k hk => ?_, fun c hc => ?_⟩
  · rw [g.at 1 10 rfl (by omega) (by omega) (by omega), g.at 2 10 rfl (by omega) (by omega) (by omega), g.at 3 10 rfl (by omega) (by omega) (by omega), g.at 4 10 rfl (by omega) (by omega) (by omega), g.at 5 10 rfl (by omega) (by omega) (by omega), g.at 6 10 rfl (by omega) (by omega) (by omega)]; exact h.2.1 k hk
  · rw [g.at 7 24 rfl (by omega) (by omega) (by omega), g.at 8 24 rfl (by omega) (by omega) (by omega)]; exact h.2.2 c hc
/-! the reference: image and back -/
theorem rr_image (hy : y0 = 260) (h : RIv σ y0 mv kv img tp n fl) (h0 : ∀ τ, RIv τ y0 mv mv true tp n fl → FRf σ τ → sI τ y0 0 = J 0 → Q (.inl none) τ) : WP gT d B 265 0 [.ref y0, .retAddr 0] [] σ Q := by
  obtain ⟨a1, a2, a3, a4, a5, a6⟩ := h
  refine g_265_0 a1 ?_
  have L : ∀ i τ, i ≤ 4488 → (Fr (fun p j => p = y0 + 2 ∨ (p = y0 ∧ j = 0)) σ τ ∧ sI τ y0 0 = J 0 ∧ ∀ k, k < i → sI τ (y0 + 2) k = J (mv k)) → WP gT d B 265 7 [.ref y0, .int (J i)] [] τ Q := by
    refine upto 4488 ?_ ?_
    · intro i τ hi hI ih
      obtain ⟨hF, k0, k1⟩ := hI
      refine g_265_7 (hF.sh a1) ⟨fun c => ?_, fun _ => ⟨(by simp (disch := omega) only [J_add, J_mul, J_sub, J_cl, vp_J]; omega), (by simp (disch := omega) only [J_add, J_mul, J_sub, J_cl, vp_J]; omega), ?_⟩⟩
      · exfalso; simp (disch := omega) only [J_add, J_mul, J_sub, J_cl, J_lt, J_le, J_eq, vp_J, n1_ne, n1_lt, n1_le, n1_nlt, n1_nle] at c; omega
      · rw [J_cl (by omega), J_add, hF.i (by omega), a2 i hi]
        refine ih _ ⟨hF.setI (Or.inl rfl), by rw [sI_any (by omega)]; exact k0, fun k hk => ?_⟩
        by_cases e : k = i
        · rw [e, sI_same]
        · rw [sI_any (by omega)]; exact k1 k (by omega)
    · intro τ hI
      obtain ⟨hF, k0, k1⟩ := hI
      refine g_265_7 (hF.sh a1) ⟨fun _ => ?_, fun c => absurd (by decide) c⟩
      have hF2 : Fr (fun p j => p = y0 + 2 ∨ (p = y0 ∧ (j = 0 ∨ j = 3))) σ (setI τ y0 3 (J 1)) := (hF.mono (fun p j k => by omega)).setI (Or.inr ⟨rfl, Or.inr rfl⟩)
      refine h0 _ ⟨hF2.sh a1, fun k hk => ?_, fun _ k hk => ?_, ?_, ⟨?_, fun k hk => ?_⟩, ?_⟩ (FRf.of hy hF2 (fun p j k => by omega)) (by rw [sI_any (by omega)]; exact k0)
      · rw [hF2.i (by omega)]; exact a2 k hk
      · rw [sI_any (by omega)]; exact k1 k hk
      · rw [sI_same]; rfl
      · rw [hF2.i (by omega)]; exact a5.1
      · rw [hF2.i (by omega)]; exact a5.2 k hk
      · rw [hF2.i (by omega)]; exact a6
  exact L 0 _ (by omega) ⟨Fr.rf.setI (Or.inr ⟨rfl, rfl⟩), sI_same, fun k hk => by omega⟩
theorem rr_back (hy : y0 = 260) (h : RIv σ y0 mv kv img tp n fl) (h0 : img = true → ∀ τ, RIv τ y0 kv kv img tp n fl → FRf σ τ → sI τ y0 0 = J 0 → Q (.inl (some (.int (J 1)))) τ) (h1 : img = false → ∀ τ, RIv τ y0 mv kv img tp n fl → FRf σ τ → sI τ y0 0 = J 0 → Q (.inl (some (.int (J 0)))) τ) : WP gT d B 266 0 [.ref y0, .retAddr 0] [] σ Q := by
  have hh := h
  obtain ⟨a1, a2, a3, a4, a5, a6⟩ := h
  refine g_266_0 a1 ?_
  cases img with
  | false =>
    refine ⟨fun _ => h1 rfl _ hh.thr (FRf.th hy) sI_same, fun c => absurd ?_ c⟩
    rw [a4]; rfl
  | true =>
    refine ⟨fun c => ?_, fun _ => ?_⟩
    · rw [a4] at c; exact absurd c (by decide)
    have L : ∀ i τ, i ≤ 4488 → (Fr (fun p j => p = y0 + 1 ∨ (p = y0 ∧ j = 0)) σ τ ∧ sI τ y0 0 = J 0 ∧ ∀ k, k < i → sI τ (y0 + 1) k = J (kv k)) → WP gT d B 266 16 [.ref y0, .int (J i)] [] τ Q := by
      refine upto 4488 ?_ ?_
      · intro i τ hi hI ih
        obtain ⟨hF, k0, k1⟩ := hI
        refine g_266_16 (hF.sh a1) ⟨fun c => ?_, fun _ => ⟨(by simp (disch := omega) only [J_add, J_mul, J_sub, J_cl, vp_J]; omega), (by simp (disch := omega) only [J_add, J_mul, J_sub, J_cl, vp_J]; omega), ?_⟩⟩
        · exfalso; simp (disch := omega) only [J_add, J_mul, J_sub, J_cl, J_lt, J_le, J_eq, vp_J, n1_ne, n1_lt, n1_le, n1_nlt, n1_nle] at c; omega
        · rw [J_cl (by omega), J_add, hF.i (by omega), a3 rfl i hi]
          refine ih _ ⟨hF.setI (Or.inl rfl), by rw [sI_any (by omega)]; exact k0, fun k hk => ?_⟩
          by_cases e : k = i
          · rw [e, sI_same]
          · rw [sI_any (by omega)]; exact k1 k (by omega)
      · intro τ hI
        obtain ⟨hF, k0, k1⟩ := hI
        refine g_266_16 (hF.sh a1) ⟨fun _ => ?_, fun c => absurd (by decide) c⟩
        exact h0 rfl _ (hh.chg hF (fun p j k => by unfold SRr; omega) k1) (FRf.of hy hF (fun p j k => by omega)) k0
    exact L 0 _ (by omega) ⟨Fr.rf.setI (Or.inr ⟨rfl, rfl⟩), sI_same, fun k hk => by omega⟩
