/-! ===== the class's text: a finger on the next thing ===== -/
variable {d : Nat} {B : Nat × Nat} {Q : Out → Sto → Prop} {P : Nat → Nat → Prop} {σ τ : Sto} {X y0 : Nat} {tx : Mem} {n : Nat}
def PtX (X : Nat) : Nat → Nat → Prop := fun p j => p = X ∧ 2 ≤ j
def CB (σ : Sto) (X : Nat) (tx : Mem) (n : Nat) : Prop := sI σ X 1 = J n ∧ n ≤ 400 ∧ ∀ k, k < n → sI σ (X + 1) k = J (tx k) ∧ tx k ≤ 255
theorem CB.fr (h : CB σ X tx n) (f : Fr P σ τ) (hP : ∀ p j, P p j → (p = X → 2 ≤ j) ∧ p ≠ X + 1) : CB τ X tx n := by
  refine ⟨?_, h.2.1, fun k hk => ?_⟩
  · rw [f.i (fun k => by have := (hP _ _ k).1 rfl; omega)]; exact h.1
  · rw [f.i (fun k => (hP _ _ k).2 rfl)]; exact h.2.2 k hk
def valF (tx : Mem) (p e : Nat) : Int32 := if e - p ≤ 6 then J (numV tx p (e - p)) else -J 1
def TKk (σ : Sto) (X : Nat) (tx : Mem) (n p : Nat) : Prop :=
  (p = n ∧ sI σ X 3 = J 0) ∨ (p < n ∧ isD tx p = true ∧ sI σ X 3 = J 2 ∧ sI σ X 5 = J (dgE tx n p) ∧ sI σ X 6 = valF tx p (dgE tx n p)) ∨
  (p < n ∧ isL tx p = true ∧ sI σ X 3 = J 1 ∧ sI σ X 5 = J (ltE tx n p)) ∨ (p < n ∧ isD tx p = false ∧ isL tx p = false ∧ sI σ X 3 = J 3 ∧ sI σ X 5 = J (p + 1))
def CTw (σ : Sto) (X : Nat) (tx : Mem) (n p : Nat) (w : Option Nat) : Prop := CB σ X tx n ∧ (p ≤ n ∧ skp tx n p = p) ∧ sI σ X 4 = J p ∧ sI σ X 2 = oJ w ∧ TKk σ X tx n p
theorem c_goOn (nX : S_9 σ X) (hb : CB σ X tx n) {b : Nat} {w : Option Nat} (h5 : sI σ X 5 = J b) (hbn : b ≤ n) (h2 : sI σ X 2 = oJ w) (hQ : ∀ τ, Fr (PtX X) σ τ → CTw τ X tx n (skp tx n b) w → Q (.inl none) τ) : WP gT d B 76 0 [.ref X] [] σ Q := by
  have hn := hb.2.1
  have bs := skp_b (tx := tx) hbn
  have hi := skp_idem (tx := tx) hbn
  generalize ep : skp tx n b = p at hQ bs hi
  have CBf : ∀ {τ : Sto}, Fr (PtX X) σ τ → CB τ X tx n := fun f => hb.fr f (fun p j k => by unfold PtX at k; omega)
  have W2 : ∀ {τ : Sto} {j : Nat} {v : Int32}, 2 ≤ j → Fr (PtX X) σ τ → Fr (PtX X) σ (setI τ X j v) := fun hj f => f.setI ⟨rfl, hj⟩
  have by_ : ∀ {τ : Sto} {k : Nat}, Fr (PtX X) σ τ → k < n → sI τ (X + 1) (J k).toNatClampNeg = J (tx k) ∧ tx k ≤ 255 := fun f hk => by
    rw [J_cl (by omega)]; exact (CBf f).2.2 _ hk
  /- behind the letters -/
  have E3 : ∀ e τ, Fr (PtX X) σ τ → sI τ X 2 = oJ w → p ≤ e → e ≤ n → sI τ X 4 = J p → sI τ X 3 = J 1 → sI τ X 5 = J e → (p < n → isD tx p = false) → ltE tx n p = e →
      ((J p < J n → ((J e = J p → Q (.inl none) (setI (setI τ X 3 (J 3)) X 5 (J e + J 1))) ∧ (¬ J e = J p → Q (.inl none) τ))) ∧ (¬ J p < J n → Q (.inl none) (setI τ X 3 (J 0)))) := by
    intro e τ f k2 h1 h2 k4 k3 k5 hd he
    refine ⟨fun c => ⟨fun c2 => ?_, fun c2 => ?_⟩, fun c => ?_⟩
    · rw [J_lt (by omega) (by omega)] at c
      rw [J_eq (by omega) (by omega)] at c2
      subst c2
      refine hQ _ (W2 (by omega) (W2 (by omega) f)) ⟨CBf (W2 (by omega) (W2 (by omega) f)), ⟨by omega, hi⟩, ?_, ?_, Or.inr (Or.inr (Or.inr ⟨c, hd c, ?_, ?_, ?_⟩))⟩
      · rw [sI_any (by omega), sI_any (by omega)]; exact k4
      · rw [sI_any (by omega), sI_any (by omega)]; exact k2
      · cases hl : isL tx e with
        | false => rfl
        | true => have := lt_gt c hl; omega
      · rw [sI_any (by omega), sI_same]
      · rw [sI_same, J_add]
    · rw [J_lt (by omega) (by omega)] at c
      rw [J_eq (by omega) (by omega)] at c2
      refine hQ _ f ⟨CBf f, ⟨by omega, hi⟩, k4, k2, Or.inr (Or.inr (Or.inl ⟨c, ?_, k3, by rw [he]; exact k5⟩))⟩
      cases hl : isL tx p with
      | true => rfl
      | false => have := lt_no (tx := tx) (n := n) (p := p) (by omega) (fun _ => hl); omega
    · rw [J_lt (by omega) (by omega)] at c
      refine hQ _ (W2 (by omega) f) ⟨CBf (W2 (by omega) f), ⟨by omega, hi⟩, by rw [sI_any (by omega)]; exact k4, by rw [sI_any (by omega)]; exact k2, Or.inl ⟨by omega, sI_same⟩⟩
  have L3 : ∀ e, e ≤ n → ∀ τ, Fr (PtX X) σ τ → sI τ X 2 = oJ w → p ≤ e → sI τ X 4 = J p → sI τ X 3 = J 1 → sI τ X 5 = J e → (p < n → isD tx p = false) → (∀ q, p ≤ q → q < e → isL tx q = true) → WP gT d B 76 173 [.ref X] [] τ Q := by
    refine upto0 (W := fun e => ∀ τ, Fr (PtX X) σ τ → sI τ X 2 = oJ w → p ≤ e → sI τ X 4 = J p → sI τ X 3 = J 1 → sI τ X 5 = J e → (p < n → isD tx p = false) → (∀ q, p ≤ q → q < e → isL tx q = true) → WP gT d B 76 173 [.ref X] [] τ Q) n ?_ ?_
    · intro e hen ih τ f k2 hpe k4 k3 k5 hd hl
      have by1 := by_ f hen
      have k1 := (CBf f).1
      refine g_76_173 (f.sh nX) ?_
      rw [k4, k3, k5, k1]
      have stop : isL tx e = false → ltE tx n p = e := fun c => (runE_mid (isL tx) (by omega) hpe hl).trans (lt_no (by omega) (fun _ => c))
      refine ⟨fun _ => ⟨fun c => ?_, fun _ => ⟨(by simp (disch := omega) only [J_add, J_mul, J_sub, J_cl, vp_J]; omega), fun c => ?_, fun c => ⟨(by simp (disch := omega) only [J_add, J_mul, J_sub, J_cl, vp_J]; omega), fun c2 => ?_, fun c2 => ?_⟩⟩⟩, fun c => absurd rfl c⟩
      · exfalso; simp (disch := omega) only [J_add, J_mul, J_sub, J_cl, J_lt, J_le, J_eq, vp_J, n1_ne, n1_lt, n1_le, n1_nlt, n1_nle] at c; omega
      · rw [by1.1, J_lt (by omega) (by omega)] at c
        exact E3 e τ f k2 hpe (by omega) k4 k3 k5 hd (stop (isL_no.mpr (by omega)))
      · rw [by1.1, J_lt (by omega) (by omega)] at c2
        exact E3 e τ f k2 hpe (by omega) k4 k3 k5 hd (stop (isL_no.mpr (by omega)))
      · rw [by1.1, J_lt (by omega) (by omega)] at c c2
        refine ih _ (W2 (by omega) f) (by rw [sI_any (by omega)]; exact k2) (by omega) (by rw [sI_any (by omega)]; exact k4) (by rw [sI_any (by omega)]; exact k3) (by rw [sI_same, J_add]) hd (fun q h1 h2 => ?_)
        by_cases eq : q = e
        · rw [eq]; exact isL_iff.mpr (by omega)
        · exact hl q h1 (by omega)
    · intro τ f k2 hpe k4 k3 k5 hd hl
      have k1 := (CBf f).1
      refine g_76_173 (f.sh nX) ?_
      rw [k4, k3, k5, k1]
      refine ⟨fun _ => ⟨fun _ => ?_, fun c => absurd (by rw [J_le (by omega) (by omega)]; omega) c⟩, fun c => absurd rfl c⟩
      exact E3 n τ f k2 hpe (by omega) k4 k3 k5 hd ((runE_mid (isL tx) (Nat.le_refl _) hpe hl).trans (lt_no (Nat.le_refl _) (fun k => by omega)))
  /- behind the figures -/
  have E2 : ∀ e τ, Fr (PtX X) σ τ → sI τ X 2 = oJ w → p ≤ e → e ≤ n → sI τ X 4 = J p → sI τ X 5 = J e → sI τ X 6 = valF tx p e → (∀ q, p ≤ q → q < e → isD tx q = true) → dgE tx n p = e → WP gT d B 76 173 [.ref X] [] (setI τ X 3 (if J e ≤ J p then J 1 else J 2)) Q := by
    intro e τ f k2 h1 h2 k4 k5 k6 hd he
    by_cases c : e = p
    · rw [if_pos (by rw [J_le (by omega) (by omega)]; omega)]
      refine L3 e h2 _ (W2 (by omega) f) (by rw [sI_any (by omega)]; exact k2) h1 (by rw [sI_any (by omega)]; exact k4) sI_same (by rw [sI_any (by omega)]; exact k5) (fun hp => ?_) (fun q a b => by omega)
      cases hl : isD tx p with
      | false => rfl
      | true => have := dg_gt hp hl; omega
    · rw [if_neg (by rw [J_le (by omega) (by omega)]; omega)]
      have f2 := W2 (j := 3) (v := J 2) (by omega) f
      refine g_76_173 (f2.sh nX) ?_
      have k1 := (CBf f2).1
      rw [k1, sI_same, sI_any (show ¬ (X = X ∧ 4 = 3) by omega), sI_any (show ¬ (X = X ∧ 5 = 3) by omega), k4, k5]
      refine ⟨fun c => absurd c (by decide), fun _ => ⟨fun _ => ⟨fun c2 => ?_, fun _ => ?_⟩, fun c2 => ?_⟩⟩
      · exfalso; rw [J_eq (by omega) (by omega)] at c2; omega
      · exact hQ _ f2 ⟨CBf f2, ⟨by omega, hi⟩, by rw [sI_any (by omega)]; exact k4, by rw [sI_any (by omega)]; exact k2, Or.inr (Or.inl ⟨by omega, hd p (Nat.le_refl _) (by omega), sI_same, by rw [sI_any (by omega), he]; exact k5, by rw [sI_any (by omega), he]; exact k6⟩)⟩
      · exfalso; rw [J_lt (by omega) (by omega)] at c2; omega
  have L2 : ∀ e, e ≤ n → ∀ τ, Fr (PtX X) σ τ → sI τ X 2 = oJ w → p ≤ e → sI τ X 4 = J p → sI τ X 5 = J e → sI τ X 6 = valF tx p e → (∀ q, p ≤ q → q < e → isD tx q = true) → WP gT d B 76 59 [.ref X] [] τ Q := by
    refine upto0 (W := fun e => ∀ τ, Fr (PtX X) σ τ → sI τ X 2 = oJ w → p ≤ e → sI τ X 4 = J p → sI τ X 5 = J e → sI τ X 6 = valF tx p e → (∀ q, p ≤ q → q < e → isD tx q = true) → WP gT d B 76 59 [.ref X] [] τ Q) n ?_ ?_
    · intro e hen ih τ f k2 hpe k4 k5 k6 hd
      have by1 := by_ f hen
      have k1 := (CBf f).1
      refine g_76_59 (f.sh nX) ?_
      rw [k4, k5, k1, k6]
      have stop : isD tx e = false → dgE tx n p = e := fun c => (runE_mid (isD tx) (by omega) hpe hd).trans (dg_no (by omega) (fun _ => c))
      refine ⟨fun c => ?_, fun _ => ⟨(by simp (disch := omega) only [J_add, J_mul, J_sub, J_cl, vp_J]; omega), fun c => ?_, fun c => ⟨(by simp (disch := omega) only [J_add, J_mul, J_sub, J_cl, vp_J]; omega), fun c2 => ?_, fun c2 => ⟨fun _ => ⟨(by simp (disch := omega) only [J_add, J_mul, J_sub, J_cl, vp_J]; omega), trivial⟩, fun u hu => ?_⟩⟩⟩⟩
      · exfalso; simp (disch := omega) only [J_add, J_mul, J_sub, J_cl, J_lt, J_le, J_eq, vp_J, n1_ne, n1_lt, n1_le, n1_nlt, n1_nle] at c; omega
      · rw [by1.1, J_lt (by omega) (by omega)] at c
        exact E2 e τ f k2 hpe (by omega) k4 k5 k6 hd (stop (isD_no.mpr (by omega)))
      · rw [by1.1, J_lt (by omega) (by omega)] at c2
        exact E2 e τ f k2 hpe (by omega) k4 k5 k6 hd (stop (isD_no.mpr (by omega)))
      · rw [by1.1, J_lt (by omega) (by omega)] at c c2
        have hu2 : u = valF tx p (e + 1) := by
          rw [hu, by1.1, J_sub hpe]
          unfold valF
          by_cases c6 : 6 ≤ e - p
          · rw [if_pos (by rw [J_le (by omega) (by omega)]; exact c6), if_neg (by omega)]
          · rw [if_neg (by rw [J_le (by omega) (by omega)]; exact c6), if_pos (by omega), if_pos (by omega), J_mul, J_add, J_sub (by omega), show e + 1 - p = (e - p) + 1 by omega]
            congr 1
            rw [show numV tx p (e - p + 1) = 10 * numV tx p (e - p) + (tx (p + (e - p)) - 48) from rfl, show p + (e - p) = e by omega]
            omega
        refine ih _ (W2 (by omega) (W2 (by omega) f)) (by rw [sI_any (by omega), sI_any (by omega)]; exact k2) (by omega) (by rw [sI_any (by omega), sI_any (by omega)]; exact k4) (by rw [sI_same, J_add]) (by rw [sI_any (by omega), sI_same]; exact hu2) (fun q h1 h2 => ?_)
        by_cases eq : q = e
        · rw [eq]; exact isD_iff.mpr (by omega)
        · exact hd q h1 (by omega)
    · intro τ f k2 hpe k4 k5 k6 hd
      have k1 := (CBf f).1
      refine g_76_59 (f.sh nX) ?_
      rw [k4, k5, k1, k6]
      refine ⟨fun _ => ?_, fun c => absurd (by rw [J_le (by omega) (by omega)]; omega) c⟩
      exact E2 n τ f k2 hpe (by omega) k4 k5 k6 hd ((runE_mid (isD tx) (Nat.le_refl _) hpe hd).trans (dg_no (Nat.le_refl _) (fun k => by omega)))
  have E1 : ∀ τ, Fr (PtX X) σ τ → sI τ X 2 = oJ w → sI τ X 4 = J p → WP gT d B 76 59 [.ref X] [] (setI (setI τ X 5 (J p)) X 6 (J 0)) Q := by
    intro τ f k2 k4
    refine L2 p bs.2 _ (W2 (by omega) (W2 (by omega) f)) (by rw [sI_any (by omega), sI_any (by omega)]; exact k2) (Nat.le_refl _) (by rw [sI_any (by omega), sI_any (by omega)]; exact k4) (by rw [sI_any (by omega), sI_same]) ?_ (fun q a b => by omega)
    rw [sI_same]; unfold valF; rw [Nat.sub_self, if_pos (by omega)]; rfl
  have L1 : ∀ k, k ≤ n → ∀ τ, Fr (PtX X) σ τ → sI τ X 2 = oJ w → sI τ X 4 = J k → skp tx n k = p → WP gT d B 76 8 [.ref X] [] τ Q := by
    refine upto0 (W := fun k => ∀ τ, Fr (PtX X) σ τ → sI τ X 2 = oJ w → sI τ X 4 = J k → skp tx n k = p → WP gT d B 76 8 [.ref X] [] τ Q) n ?_ ?_
    · intro k hk ih τ f k2 k4 hs
      have by1 := by_ f hk
      have k1 := (CBf f).1
      refine g_76_8 (f.sh nX) ?_
      rw [k4, k1]
      refine ⟨fun c => ?_, fun _ => ⟨(by simp (disch := omega) only [J_add, J_mul, J_sub, J_cl, vp_J]; omega), fun c => ?_, fun c => ?_⟩⟩
      · exfalso; simp (disch := omega) only [J_add, J_mul, J_sub, J_cl, J_lt, J_le, J_eq, vp_J, n1_ne, n1_lt, n1_le, n1_nlt, n1_nle] at c; omega
      · rw [by1.1, J_eq (by omega) (by omega)] at c
        exact ih _ (W2 (by omega) f) (by rw [sI_any (by omega)]; exact k2) (by rw [sI_same, J_add]) (by rw [← skp_hit hk c]; exact hs)
      · rw [by1.1, J_eq (by omega) (by omega)] at c
        rw [skp_stop (by omega) (fun _ => c)] at hs
        subst hs
        exact E1 τ f k2 k4
    · intro τ f k2 k4 hs
      have k1 := (CBf f).1
      rw [skp_stop (Nat.le_refl _) (fun h => by omega)] at hs
      subst hs
      refine g_76_8 (f.sh nX) ?_
      rw [k4, k1]
      exact ⟨fun _ => E1 τ f k2 k4, fun c => absurd (by rw [J_le (by omega) (by omega)]; omega) c⟩
  refine g_76_0 nX ?_
  rw [h5]
  exact L1 b hbn _ (W2 (by omega) Fr.rf) (by rw [sI_any (by omega)]; exact h2) sI_same ep
