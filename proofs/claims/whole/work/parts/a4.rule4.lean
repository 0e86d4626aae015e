/-! ===== the call rule, in the class ===== -/
variable {d : Nat} {B : Nat × Nat} {Q : Out → Sto → Prop} {P : Nat → Nat → Prop} {σ τ : Sto} {x0 y0 R : Nat} {mv mv' kv : Mem} {img : Bool} {tp tp' tx : Mem} {n n' p q f0 : Nat} {fl fl' : Option Nat} {l : List RLn}
theorem g_97_0 {d : Nat} {B : Nat × Nat} {σ : Sto} {Q : Out → Sto → Prop} {x0 : Nat} (nx0 : S_11 σ x0) (hB : 16 ≤ B.1 ∧ 1000 ≤ B.2)
    (h : WP gT (d + 15) (0, 0) 73 0 [.ref (x0 + 1)] [] σ (oV (fun τ2 => (S_11 τ2 x0 ∧ WP gT (d + 15) (0, 0) 64 0 [.ref (x0 + 19), .ref (x0 + 1), .retAddr 0, .retAddr 0] [] τ2 (oV (fun τ4 => (S_11 τ4 x0 ∧ WP gT (d + 15) (0, 0) 141 0 [.ref x0] [] τ4 (oI (fun v5 τ6 => (S_11 τ6 x0 ∧ ((v5 = (J 0) → Q (.inr 1) τ6) ∧ (¬ (v5 = (J 0)) → (((sI τ6 (x0 + 24) 9) < (J 4) → WP gT (d + 16) B 97 56 [.ref x0] [] τ6 Q) ∧ (¬ ((sI τ6 (x0 + 24) 9) < (J 4)) → Q (.inr 2) τ6)))))) (fun _ _ => False)))) (fun _ _ => False)))) (fun _ _ => False))) :
    WP gT (d + 16) B 97 0 [.ref x0] [] σ Q :=
  (show WP gT (d + 16) B 97 0 [.ref x0] [] σ Q from WP.run 3 (And.intro (nx0.1 0 (by decide)).1 (Exists.intro (x0 + 1) (And.intro (nx0.2 0 (by decide)) (And.intro (rfl) (And.intro ⟨dl, dl, dl, (nx0.1 1 (by decide)).1⟩ ⟨0, 0, Nat.zero_le _, Nat.zero_le _, oV_use h (fun τ2 hh7 => (have n1_τ2 := hh7.1; (show WP gT (d + 16) B 97 7 [.ref x0] [] τ2 Q from WP.run 5 (And.intro (n1_τ2.1 0 (by decide)).1 (Exists.intro (x0 + 19) (And.intro (n1_τ2.2 18 (by decide)) (And.intro (n1_τ2.1 0 (by decide)).1 (Exists.intro (x0 + 1) (And.intro (n1_τ2.2 0 (by decide)) (And.intro (rfl) (And.intro ⟨dl, dl, dl, (n1_τ2.1 19 (by decide)).1⟩ ⟨0, 0, Nat.zero_le _, Nat.zero_le _, oV_use hh7.2 (fun τ4 hh8 => (have n1_τ4 := hh8.1; (show WP gT (d + 16) B 97 18 [.ref x0] [] τ4 Q from WP.run 2 (And.intro (rfl) (And.intro ⟨dl, dl, dl, (n1_τ4.1 0 (by decide)).1⟩ ⟨0, 0, Nat.zero_le _, Nat.zero_le _, oI_use hh8.2 (fun v5 τ6 hh9 => (have n1_τ6 := hh9.1; (show WP gT (d + 16) B 97 22 [.ref x0] [.int v5] τ6 Q from WP.run 1 (And.intro (fun c_617 => (show WP gT (d + 16) B 97 35 [.ref x0] [] τ6 Q from WP.run 5 (And.intro (n1_τ6.1 0 (by decide)).1 (Exists.intro (x0 + 24) (And.intro (n1_τ6.2 23 (by decide)) (And.intro (n1_τ6.1 24 (by decide)).1 (And.intro (fun c_618 => ((hh9.2.2 c_617).1 c_618)) (fun c_618 => (show WP gT (d + 16) B 97 46 [.ref x0] [] τ6 Q from WP.run 1 (And.intro ⟨by have := hB; omega, by have := hB; omega, by omega, dl⟩ ((hh9.2.2 c_617).2 c_618))))))))))) (fun c_617 => (have c_617 := Decidable.not_not.mp c_617; (show WP gT (d + 16) B 97 25 [.ref x0] [] τ6 Q from WP.run 1 (And.intro ⟨by have := hB; omega, by have := hB; omega, by omega, dl⟩ (hh9.2.1 c_617))))))))) (fun _ _ h => h.elim)⟩))))) (fun _ _ h => h.elim)⟩))))))))))) (fun _ _ h => h.elim)⟩))))))
theorem nN {kd z : Nat} : sN (newO σ kd z) = sN σ + 1 := rfl
theorem nK_s {kd z : Nat} : sK (newO σ kd z) (sN σ) = kd := up_eq
theorem nK_o {kd z p : Nat} (h : p ≠ sN σ) : sK (newO σ kd z) p = sK σ p := up_ne h
theorem nZ_s {kd z : Nat} : sZ (newO σ kd z) (sN σ) = z := up_eq
theorem nZ_o {kd z p : Nat} (h : p ≠ sN σ) : sZ (newO σ kd z) p = sZ σ p := up_ne h
theorem nI_o {kd z p : Nat} (h : p ≠ sN σ) : sI (newO σ kd z) p = sI σ p := up_ne h
theorem nL_o {kd z p : Nat} (h : p ≠ sN σ) : sL (newO σ kd z) p = sL σ p := up_ne h
theorem nP_o {kd z p : Nat} (h : p ≠ sN σ) : sP (newO σ kd z) p = sP σ p := up_ne h
/-- what was there before stands -/
def EX (σ τ : Sto) : Prop := sN σ ≤ sN τ ∧ ∀ p, p < sN σ → sK τ p = sK σ p ∧ sZ τ p = sZ σ p ∧ sI τ p = sI σ p ∧ sL τ p = sL σ p ∧ sP τ p = sP σ p
theorem EX.rf : EX σ σ := ⟨Nat.le_refl _, fun _ _ => ⟨rfl, rfl, rfl, rfl, rfl⟩⟩
theorem EX.tr {ρ : Sto} (h : EX σ τ) (k : EX τ ρ) : EX σ ρ := ⟨Nat.le_trans h.1 k.1, fun p hp => by
  have a := h.2 p hp
  have b := k.2 p (Nat.lt_of_lt_of_le hp h.1)
  exact ⟨b.1.trans a.1, b.2.1.trans a.2.1, b.2.2.1.trans a.2.2.1, b.2.2.2.1.trans a.2.2.2.1, b.2.2.2.2.trans a.2.2.2.2⟩⟩
theorem EX.new {kd z : Nat} : EX σ (newO σ kd z) := ⟨Nat.le_succ _, fun p hp => by
  have h : p ≠ sN σ := by omega
  exact ⟨nK_o h, nZ_o h, nI_o h, nL_o h, nP_o h⟩⟩
theorem EX.row {p : Nat} {f : Nat → Int32} (h : EX σ τ) (hp : sN σ ≤ p) : EX σ (rowI τ p f) := ⟨h.1, fun a ha => by
  have b := h.2 a ha
  exact ⟨b.1, b.2.1, by rw [sI_row' (by omega)]; exact b.2.2.1, b.2.2.2.1, b.2.2.2.2⟩⟩
theorem EX.setI {p j : Nat} {v : Int32} (h : EX σ τ) (hp : sN σ ≤ p) : EX σ (setI τ p j v) := ⟨h.1, fun a ha => by
  have b := h.2 a ha
  exact ⟨b.1, b.2.1, by rw [← b.2.2.1]; exact funext (fun i => sI_any (by omega)), b.2.2.2.1, b.2.2.2.2⟩⟩
theorem EX.setP {p j : Nat} {v : Option Nat} (h : EX σ τ) (hp : sN σ ≤ p) : EX σ (setP τ p j v) := ⟨h.1, fun a ha => by
  have b := h.2 a ha
  exact ⟨b.1, b.2.1, b.2.2.1, b.2.2.2.1, by rw [← b.2.2.2.2]; exact funext (fun i => sP_any (by omega))⟩⟩
theorem EX.sh {nn np : Nat} {zs : List (Nat × Nat)} {ps : List (Nat × Nat × Nat)} {o : Nat} (h : EX σ τ) (k : Shp nn np zs ps σ o) (hn : o + nn ≤ sN σ) (hp : ∀ k, k < np → (ps.getD k (0, 0, 0)).1 < nn) : Shp nn np zs ps τ o := by
  refine ⟨fun i hi => ?_, fun i hi => ?_⟩
  · have a := h.2 (o + i) (by omega)
    rw [a.1, a.2.1]; exact k.1 i hi
  · have := hp i hi
    have a := h.2 (o + (ps.getD i (0, 0, 0)).1) (by omega)
    rw [a.2.2.2.2]; exact k.2 i hi
theorem c_copyOf {a z m : Nat} (ha : sK σ a = 14) (hz : sZ σ a = z) (hm : m ≤ z) (hz2 : z ≤ 1000) (haN : a < sN σ) (hB : 1 ≤ B.1 ∧ z ≤ B.2) (hQ : ∀ τ, EX σ τ → sN τ = sN σ + 1 → sK τ (sN σ) = 14 → sZ τ (sN σ) = m → (∀ j, j < m → sI τ (sN σ) j = sI σ a j) → Q (.inl (some (.ref (sN σ)))) τ) : WP gT (d + 2) B 68 0 [.ref a, .int (J m), .retAddr 0] [] σ Q := by
  have hcl : (J m).toNatClampNeg = m := J_cl (by omega)
  have hN : a ≠ sN σ := by omega
  refine WP.run 4 (And.intro (len14 ha) (And.intro (fun c => ?_) (fun c => ?_)))
  · have e : (if J m < Int32.ofNat (sZ (newO σ 14 m) a) then J m else Int32.ofNat (sZ (newO σ 14 m) a)) = J m := by
      rw [nZ_o hN, hz]
      by_cases c2 : m = z
      · subst c2; split <;> rfl
      · exact if_pos (by show J m < J z; rw [J_lt (by omega) (by omega)]; omega)
    have k1 : WP gT (d + 2) (B.1 - 1, B.2 - m) 68 28 [.ref a, .int (J m), .ref (sN σ)] [.int (J m), .int (J 0), .ref (sN σ), .int (J 0), .ref a] (newO σ 14 m) Q := by
      refine WP.run 3 (And.intro ⟨nK_s, (nK_o hN).trans ha, by decide, by decide, ?_, ?_, ?_, by omega, dl⟩ ?_)
      · rw [Int32.lt_iff_toInt_lt, J_int (by omega)]; show ¬ (m : Int) < 0; omega
      · rw [hcl, nZ_o hN, hz]; show 0 + m ≤ z; omega
      · rw [hcl, nZ_s]; show 0 + m ≤ m; omega
      · refine hQ _ (EX.new.row (Nat.le_refl _)) rfl (nK_s (z := m)) (nZ_s (kd := 14)) (fun j hj => ?_)
        rw [sI_row, hcl]
        show (if 0 ≤ j ∧ j < 0 + m then sI (newO σ 14 m) a (0 + (j - 0)) else _) = _
        rw [if_pos (by omega), nI_o hN]; congr 1; omega
    have k2 : WP gT (d + 2) (B.1 - 1, B.2 - m) 68 17 [.ref a, .int (J m), .retAddr 0] [.ref (sN σ)] (newO σ 14 m) Q := WP.run 9 (And.intro dl (And.intro (len14 ((nK_o hN).trans ha)) (And.intro ⟨by omega, dl⟩ (ctopI e k1))))
    have k3 : WP gT (d + 2) (B.1 - 1, B.2 - (J m).toNatClampNeg) 68 17 [.ref a, .int (J m), .retAddr 0] [.ref (sN σ)] (newO σ 14 (J m).toNatClampNeg) Q := by rw [hcl]; exact k2
    show WP gT (d + 2) B 68 14 [.ref a, .int (J m), .retAddr 0] [] σ Q
    refine WP.run 2 (And.intro ⟨?_, ?_, hB.1, ?_⟩ k3)
    · rw [Int32.lt_iff_toInt_lt, J_int (by omega)]; show ¬ (m : Int) < 0; omega
    · rw [hcl]; omega
    · rw [hcl]; omega
  · have e : J m = J (sZ σ a) := Decidable.not_not.mp c
    rw [hz, J_eq (by omega) (by omega)] at e
    subst e
    show WP gT (d + 2) B 68 6 [.ref a, .int (J m), .retAddr 0] [] σ Q
    refine WP.run 4 (And.intro ⟨ha, hB.1, by rw [hz]; exact hB.2, by omega, dl⟩ (And.intro (nK_s (z := sZ σ a)) ?_))
    exact hQ _ (EX.new.row (Nat.le_refl _)) rfl (nK_s (z := sZ σ a)) ((nZ_s (kd := 14)).trans hz) (fun j hj => by rw [sI_row])
/-- a rule's constructor -/
def rinS (σ : Sto) (r : Nat) (a : Int32) (g s u c : Nat) : Sto := setP (setP (setP (setP (setI (setP (newO σ 14 24) r 5 (some (sN σ))) r 0 a) r 1 (some g)) r 2 (some s)) r 3 (some u)) r 4 (some c)
theorem c_rinit {r g s u c : Nat} {a : Int32} (hr : sK σ r = 8) (hrN : r < sN σ) (hB : 1 ≤ B.1 ∧ 24 ≤ B.2) (hQ : Q (.inl none) (rinS σ r a g s u c)) : WP gT (d + 2) B 56 0 [.ref r, .int a, .ref g, .ref s, .ref u, .ref c] [] σ Q := by
  have k8 : sK (newO σ 14 24) r = 8 := (nK_o (by omega)).trans hr
  have k1 : WP gT (d + 2) (B.1 - 1, B.2 - 24) 56 9 [.ref r, .int a, .ref g, .ref s, .ref u, .ref c] [.ref (sN σ), .ref r] (newO σ 14 24) Q :=
    WP.run 17 (And.intro k8 (And.intro k8 (And.intro k8 (And.intro k8 (And.intro k8 (And.intro k8 hQ))))))
  refine WP.run 2 (And.intro ⟨by omega, dl⟩ ?_)
  show WP gT (d + 2) B 56 4 [.ref r, .int a, .ref g, .ref s, .ref u, .ref c] [] σ Q
  exact WP.run 3 (And.intro ⟨by decide, by decide, hB.1, hB.2⟩ k1)
theorem ps8_l : ∀ k, k < 4 → (ps_8.getD k (0, 0, 0)).1 < 5 := by decide
def MK (σ τ : Sto) (R r i m c : Nat) : Prop := EX σ τ ∧ sN τ = r + 1 + i ∧ sK τ r = 8 ∧ ∀ a, 1 ≤ a → a ≤ i → sK τ (r + a) = 14 ∧ sZ τ (r + a) = (if a = 4 then c else m) ∧ ∀ j, j < (if a = 4 then c else m) → sI τ (r + a) j = sI σ (R + a) j
theorem MK.next {ρ : Sto} {r i m c : Nat} (h : MK σ τ R r i m c) (hr : r = sN σ) (hR : R + 5 ≤ sN σ) (hi : i < 4) (e : EX τ ρ) (n : sN ρ = sN τ + 1) (k : sK ρ (sN τ) = 14) (z : sZ ρ (sN τ) = (if i + 1 = 4 then c else m)) (v : ∀ j, j < (if i + 1 = 4 then c else m) → sI ρ (sN τ) j = sI τ (R + (i + 1)) j) : MK σ ρ R r (i + 1) m c := by
  obtain ⟨h1, h2, h3, h4⟩ := h
  refine ⟨h1.tr e, by omega, ((e.2 r (by omega)).1).trans h3, fun a a1 a2 => ?_⟩
  by_cases c : a = i + 1
  · subst c
    rw [show r + (i + 1) = sN τ by omega]
    refine ⟨k, z, fun j hj => ?_⟩
    rw [v j hj, (h1.2 (R + (i + 1)) (by omega)).2.2.1]
  · have b := e.2 (r + a) (by omega)
    rw [b.1, b.2.1, b.2.2.1]; exact h4 a a1 (by omega)
theorem c_made (n8 : S_8 σ R) (hR : R + 5 ≤ sN σ ∧ sN σ % 6 = 2 ∧ 278 ≤ sN σ) (h : RLS σ R l) (hB : 6 ≤ B.1 ∧ 500 ≤ B.2) (hQ : ∀ τ, EX σ τ → sN τ = sN σ + 6 → RuleAt τ (sN σ) l → Q (.inl (some (.ref (sN σ)))) τ) : WP gT (d + 3) B 65 0 [.ref R] [] σ Q := by
  obtain ⟨⟨h4, hcl, hcd⟩, h0, h12, hln⟩ := h
  generalize hr : sN σ = r at hR hQ
  have M0 : MK σ (newO σ 8 0) R r 0 l.length (codes l).length := ⟨EX.new, by rw [nN, hr], by rw [← hr]; exact nK_s, fun a a1 a2 => by omega⟩
  have S8 : ∀ {i : Nat} {τ : Sto}, MK σ τ R r i l.length (codes l).length → S_8 τ R := fun m => m.1.sh n8 (by omega) ps8_l
  have z_ : ∀ {i : Nat} {τ : Sto}, MK σ τ R r i l.length (codes l).length → sI τ R 0 = J l.length ∧ sI τ R 4 = J (codes l).length := fun m => by
    rw [(m.1.2 R (by omega)).2.2.1]; exact ⟨h0, h4⟩
  /- the constructor -/
  have S5 : ∀ τ, MK σ τ R r 4 l.length (codes l).length → WP gT (d + 3) (B.1 - 1 - 1 - 1 - 1 - 1, B.2 - 32 - 12 - 12 - 12 - 400) 65 52 [.ref R] [.ref (r + 4), .ref (r + 3), .ref (r + 2), .ref (r + 1), .int (J l.length), .ref r, .ref r] τ Q := by
    intro τ m
    have mN := m.2.1
    have hE := m.1
    refine WP.run 1 (And.intro (Or.inl rfl) (And.intro ⟨dl, dl, dl, m.2.2.1⟩ ⟨1, 24, ?_, ?_, oV_use (k := fun τ => Q (.inl (some (.ref r))) τ) (x := fun _ _ => False) (c_rinit m.2.2.1 (by omega) ⟨dl, dl⟩ ?_) (fun τ hh => (show WP gT (d + 3) _ 65 55 [.ref R] [.ref r] τ Q from WP.run 1 hh)) (fun _ _ h => h.elim)⟩))
    · show 1 ≤ B.1 - 1 - 1 - 1 - 1 - 1; omega
    · show 24 ≤ B.2 - 32 - 12 - 12 - 12 - 400; omega
    have e6 : EX σ (rinS τ r (J l.length) (r + 1) (r + 2) (r + 3) (r + 4)) := (((((((hE.tr EX.new).setP (by omega)).setI (by omega)).setP (by omega)).setP (by omega)).setP (by omega)).setP (by omega))
    have kk : ∀ p, p ≠ sN τ → sK (rinS τ r (J l.length) (r + 1) (r + 2) (r + 3) (r + 4)) p = sK τ p := fun p hp => nK_o (z := 24) hp
    have zz : ∀ p, p ≠ sN τ → sZ (rinS τ r (J l.length) (r + 1) (r + 2) (r + 3) (r + 4)) p = sZ τ p := fun p hp => nZ_o (kd := 14) hp
    have ii : ∀ p j, p ≠ sN τ → p ≠ r → sI (rinS τ r (J l.length) (r + 1) (r + 2) (r + 3) (r + 4)) p j = sI τ p j := fun p j hp hpr => by
      show sI (setI (setP (newO τ 14 24) r 5 (some (sN τ))) r 0 (J l.length)) p j = _
      rw [sI_any (by omega)]
      show sI (newO τ 14 24) p j = _
      rw [nI_o (kd := 14) (z := 24) hp]
    have k5 : sK (rinS τ r (J l.length) (r + 1) (r + 2) (r + 3) (r + 4)) (r + 5) = 14 := by
      have : sK (rinS τ r (J l.length) (r + 1) (r + 2) (r + 3) (r + 4)) (sN τ) = 14 := nK_s (z := 24)
      rw [← this, mN]
    have z5 : sZ (rinS τ r (J l.length) (r + 1) (r + 2) (r + 3) (r + 4)) (r + 5) = 24 := by
      have : sZ (rinS τ r (J l.length) (r + 1) (r + 2) (r + 3) (r + 4)) (sN τ) = 24 := nZ_s (kd := 14)
      rw [← this, mN]
    have m1 := m.2.2.2 1 (by omega) (by omega)
    have m2 := m.2.2.2 2 (by omega) (by omega)
    have m3 := m.2.2.2 3 (by omega) (by omega)
    have m4 := m.2.2.2 4 (by omega) (by omega)
    rw [if_neg (by omega)] at m1 m2 m3
    rw [if_pos rfl] at m4
    refine hQ _ e6 (by show sN τ + 1 = r + 6; omega) ⟨⟨by omega, by show r + 6 ≤ sN τ + 1; omega, by omega, h12, hcl⟩, ?_, ⟨?_, ?_, ?_, ?_, ?_⟩, ⟨?_, ?_, ?_, ?_, k5⟩, ⟨?_, ?_, ?_, ?_, z5⟩, ?_, fun i hi => ⟨?_, ?_, ?_⟩, fun j hj => ?_⟩
    · rw [kk _ (by omega)]; exact m.2.2.1
    · unfold rinS; rw [sP_any (by omega), sP_any (by omega), sP_any (by omega), sP_same]
    · unfold rinS; rw [sP_any (by omega), sP_any (by omega), sP_same]
    · unfold rinS; rw [sP_any (by omega), sP_same]
    · unfold rinS; rw [sP_same]
    · unfold rinS; rw [sP_any (by omega), sP_any (by omega), sP_any (by omega), sP_any (by omega)]
      show sP (setP (newO τ 14 24) r 5 (some (sN τ))) r 5 = _
      rw [sP_same, mN]
    · rw [kk _ (by omega)]; exact m1.1
    · rw [kk _ (by omega)]; exact m2.1
    · rw [kk _ (by omega)]; exact m3.1
    · rw [kk _ (by omega)]; exact m4.1
    · rw [zz _ (by omega)]; exact m1.2.1
    · rw [zz _ (by omega)]; exact m2.2.1
    · rw [zz _ (by omega)]; exact m3.2.1
    · rw [zz _ (by omega)]; exact m4.2.1
    · show sI (setI (setP (newO τ 14 24) r 5 (some (sN τ))) r 0 (J l.length)) r 0 = _
      rw [sI_same]
    · rw [ii _ _ (by omega) (by omega), m1.2.2 i hi]; exact (hln i hi).1
    · rw [ii _ _ (by omega) (by omega), m2.2.2 i hi]; exact (hln i hi).2.1
    · rw [ii _ _ (by omega) (by omega), m3.2.2 i hi]; exact (hln i hi).2.2
    · rw [ii _ _ (by omega) (by omega), m4.2.2 j hj]; exact hcd j hj
  have CPY : ∀ {i z mm : Nat} {τ : Sto} {K : Nat → Sto → Prop}, MK σ τ R r i l.length (codes l).length → i < 4 → mm = (if i + 1 = 4 then (codes l).length else l.length) → sK τ (R + (i + 1)) = 14 → sZ τ (R + (i + 1)) = z → mm ≤ z → z ≤ 400 → (∀ ρ, MK σ ρ R r (i + 1) l.length (codes l).length → K (r + 1 + i) ρ) → WP gT (d + 2) (1, z) 68 0 [.ref (R + (i + 1)), .int (J mm), .retAddr 0] [] τ (oR K (fun _ _ => False)) := by
    intro i z mm τ K m hi hmm hk hz hle hz2 hK
    have mN := m.2.1
    have hE := m.1.1
    refine c_copyOf hk hz hle (by omega) (by omega) ⟨Nat.le_refl _, Nat.le_refl _⟩ (fun ρ e n k z2 v => ?_)
    have := hK ρ (m.next hr.symm (by omega) hi e n k (by rw [z2, hmm]) (by rw [← hmm]; exact v))
    rw [mN]; exact this
  have S4 : ∀ τ, MK σ τ R r 3 l.length (codes l).length → WP gT (d + 3) (B.1 - 1 - 1 - 1 - 1, B.2 - 32 - 12 - 12 - 12) 65 41 [.ref R] [.ref (r + 3), .ref (r + 2), .ref (r + 1), .int (J l.length), .ref r, .ref r] τ Q := by
    intro τ m
    have s8 := S8 m
    have zz := z_ m
    refine WP.run 5 (And.intro (s8.1 0 (by decide)).1 (Exists.intro (R + 4) (And.intro (s8.2 3 (by decide)) (And.intro (s8.1 0 (by decide)).1 (And.intro (Or.inl rfl) (And.intro ⟨dl, dl, dl, trivial⟩ ⟨1, 400, ?_, ?_, oR_use (k := fun v ρ => v = r + 4 ∧ MK σ ρ R r 4 l.length (codes l).length) (x := fun _ _ => False) ?_ (fun v ρ hh => ?_) (fun _ _ h => h.elim)⟩))))))
    · show 1 ≤ B.1 - 1 - 1 - 1 - 1; omega
    · show 400 ≤ B.2 - 32 - 12 - 12 - 12; omega
    · rw [zz.2]
      exact CPY m (by omega) (by rw [if_pos rfl]) (s8.1 4 (by decide)).1 (s8.1 4 (by decide)).2 hcl (Nat.le_refl _) (fun ρ k => ⟨by omega, k⟩)
    · obtain ⟨rfl, k⟩ := hh
      exact S5 ρ k
  have S3 : ∀ τ, MK σ τ R r 2 l.length (codes l).length → WP gT (d + 3) (B.1 - 1 - 1 - 1, B.2 - 32 - 12 - 12) 65 30 [.ref R] [.ref (r + 2), .ref (r + 1), .int (J l.length), .ref r, .ref r] τ Q := by
    intro τ m
    have s8 := S8 m
    have zz := z_ m
    refine WP.run 5 (And.intro (s8.1 0 (by decide)).1 (Exists.intro (R + 3) (And.intro (s8.2 2 (by decide)) (And.intro (s8.1 0 (by decide)).1 (And.intro (Or.inl rfl) (And.intro ⟨dl, dl, dl, trivial⟩ ⟨1, 12, ?_, ?_, oR_use (k := fun v ρ => v = r + 3 ∧ MK σ ρ R r 3 l.length (codes l).length) (x := fun _ _ => False) ?_ (fun v ρ hh => ?_) (fun _ _ h => h.elim)⟩))))))
    · show 1 ≤ B.1 - 1 - 1 - 1; omega
    · show 12 ≤ B.2 - 32 - 12 - 12; omega
    · rw [zz.1]
      exact CPY m (by omega) (by rw [if_neg (by omega)]) (s8.1 3 (by decide)).1 (s8.1 3 (by decide)).2 h12 (by omega) (fun ρ k => ⟨by omega, k⟩)
    · obtain ⟨rfl, k⟩ := hh
      exact S4 ρ k
  have S2 : ∀ τ, MK σ τ R r 1 l.length (codes l).length → WP gT (d + 3) (B.1 - 1 - 1, B.2 - 32 - 12) 65 19 [.ref R] [.ref (r + 1), .int (J l.length), .ref r, .ref r] τ Q := by
    intro τ m
    have s8 := S8 m
    have zz := z_ m
    refine WP.run 5 (And.intro (s8.1 0 (by decide)).1 (Exists.intro (R + 2) (And.intro (s8.2 1 (by decide)) (And.intro (s8.1 0 (by decide)).1 (And.intro (Or.inl rfl) (And.intro ⟨dl, dl, dl, trivial⟩ ⟨1, 12, ?_, ?_, oR_use (k := fun v ρ => v = r + 2 ∧ MK σ ρ R r 2 l.length (codes l).length) (x := fun _ _ => False) ?_ (fun v ρ hh => ?_) (fun _ _ h => h.elim)⟩))))))
    · show 1 ≤ B.1 - 1 - 1; omega
    · show 12 ≤ B.2 - 32 - 12; omega
    · rw [zz.1]
      exact CPY m (by omega) (by rw [if_neg (by omega)]) (s8.1 2 (by decide)).1 (s8.1 2 (by decide)).2 h12 (by omega) (fun ρ k => ⟨by omega, k⟩)
    · obtain ⟨rfl, k⟩ := hh
      exact S3 ρ k
  have S1 : WP gT (d + 3) (B.1 - 1, B.2 - 32) 65 3 [.ref R] [.ref r] (newO σ 8 0) Q := by
    have s8 := S8 M0
    have zz := z_ M0
    refine WP.run 8 (And.intro (s8.1 0 (by decide)).1 (And.intro (s8.1 0 (by decide)).1 (Exists.intro (R + 1) (And.intro (s8.2 0 (by decide)) (And.intro (s8.1 0 (by decide)).1 (And.intro (Or.inl rfl) (And.intro ⟨dl, dl, dl, trivial⟩ ⟨1, 12, ?_, ?_, oR_use (k := fun v ρ => v = r + 1 ∧ MK σ ρ R r 1 l.length (codes l).length) (x := fun _ _ => False) ?_ (fun v ρ hh => ?_) (fun _ _ h => h.elim)⟩)))))))
    · show 1 ≤ B.1 - 1; omega
    · show 12 ≤ B.2 - 32; omega
    · rw [zz.1]
      exact CPY M0 (by omega) (by rw [if_neg (by omega)]) (s8.1 1 (by decide)).1 (s8.1 1 (by decide)).2 h12 (by omega) (fun ρ k => ⟨by omega, k⟩)
    · obtain ⟨rfl, k⟩ := hh
      have hS := S2 ρ k
      rw [← zz.1] at hS
      exact hS
  rw [← hr] at S1
  exact WP.run 1 (And.intro ⟨by omega, by omega⟩ S1)
