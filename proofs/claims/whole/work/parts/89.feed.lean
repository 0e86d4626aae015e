/-! ===== feed ===== -/
variable {d : Nat} {B : Nat × Nat} {Q : Out → Sto → Prop} {P : Nat → Nat → Prop} {σ τ : Sto} {x0 y0 : Nat} {mv mv' kv : Mem} {img : Bool} {tp tp' : Mem} {n n' : Nat} {fl fl' : Option Nat}
def bytI (x s : Int32) : Int32 := ((x.toUInt32 >>> (s.toUInt32 &&& Int32.toUInt32 31)).toInt32) &&& (J 255)
def bytN (x s : Int32) : Nat := (bytI x s).toNatClampNeg
theorem and255 (x : Int32) : 0 ≤ (x &&& J 255).toInt ∧ (x &&& J 255).toInt ≤ 255 := by
  have h1 : (x &&& J 255).toBitVec.toNat ≤ 255 := by
    rw [Int32.toBitVec_and, BitVec.toNat_and]
    exact Nat.and_le_right
  have h2 : (x &&& J 255).toInt = (x &&& J 255).toBitVec.toInt := rfl
  rw [h2, BitVec.toInt_eq_toNat_of_lt (by omega)]
  omega
theorem byt_J (x s : Int32) : bytI x s = J (bytN x s) ∧ bytN x s ≤ 255 := by
  have h := and255 ((x.toUInt32 >>> (s.toUInt32 &&& Int32.toUInt32 31)).toInt32)
  have h' : 0 ≤ (bytI x s).toInt ∧ (bytI x s).toInt ≤ 255 := h
  refine ⟨J_or h'.1, ?_⟩
  show (bytI x s).toInt.toNat ≤ 255
  omega
def fedT (tp : Mem) (n : Nat) (a : Nat → Int32) (i : Nat) : Mem := fun k => if n ≤ k ∧ k < n + i then bytN (a ((k - n) / 4)) (J (24 - 8 * ((k - n) % 4))) else tp k
theorem fed_0 {a : Nat → Int32} : fedT tp n a 0 = tp := funext (fun k => if_neg (by omega))
theorem fed_ne {a : Nat → Int32} {i k : Nat} (h : k ≠ n + i) : fedT tp n a (i + 1) k = fedT tp n a i k := by
  unfold fedT
  by_cases c : n ≤ k ∧ k < n + i
  · rw [if_pos c, if_pos (by omega)]
  · rw [if_neg c, if_neg (by omega)]
theorem fed_eq {a : Nat → Int32} {i : Nat} : fedT tp n a (i + 1) (n + i) = bytN (a (i / 4)) (J (24 - 8 * (i % 4))) := by
  unfold fedT; rw [if_pos (by omega), show n + i - n = i by omega]
def CTp (σ : Sto) (x0 : Nat) (T : Mem) (m : Nat) : Prop := sI σ (x0 + 1) 1 = J m ∧ m ≤ 400 ∧ ∀ k, k < m → sI σ (x0 + 2) k = J (T k) ∧ T k ≤ 255
def Pfd (x0 : Nat) : Nat → Nat → Prop := fun p _ => p = x0 + 1 ∨ p = x0 + 2
theorem c_addNumber {a : Nat → Int32} {j : Nat} {x : Int32} (hx : S_11 σ x0) (ha : a j = x) (h : CTp σ x0 (fedT tp n a (4 * j)) (n + 4 * j)) (hn : n + 4 * j + 4 ≤ 400) (hQ : ∀ τ, Fr (Pfd x0) σ τ → CTp τ x0 (fedT tp n a (4 * j + 4)) (n + 4 * j + 4) → Q (.inl none) τ) : WP gT d B 72 0 [.ref (x0 + 1), .int x, .retAddr 0] [] σ Q := by
  refine g_72_0 ?_
  have L : ∀ i τ, i ≤ 3 → (Fr (Pfd x0) σ τ ∧ CTp τ x0 (fedT tp n a (4 * j + i)) (n + 4 * j + i)) → WP gT d B 72 3 [.ref (x0 + 1), .int x, .int (J (24 - 8 * i))] [] τ Q := by
    have S : ∀ i τ, i ≤ 3 → (Fr (Pfd x0) σ τ ∧ CTp τ x0 (fedT tp n a (4 * j + i)) (n + 4 * j + i)) → (∀ τ', Fr (Pfd x0) σ τ' ∧ CTp τ' x0 (fedT tp n a (4 * j + (i + 1))) (n + 4 * j + (i + 1)) → WP gT d B 72 3 [.ref (x0 + 1), .int x, .int (J (24 - 8 * i) + (-J 8))] [] τ' Q) → WP gT d B 72 3 [.ref (x0 + 1), .int x, .int (J (24 - 8 * i))] [] τ Q := by
      intro i τ hi hI ih
      obtain ⟨hF, t1, t2, t3⟩ := hI
      refine g_72_3 (sub_11_1_9 (hF.sh hx)) ⟨fun c => ?_, fun _ => ⟨fun c => ?_, fun _ => ⟨?_, fun u hu => ?_⟩⟩⟩
      · exfalso; simp (disch := omega) only [J_add, J_mul, J_sub, J_cl, J_lt, J_le, J_eq, vp_J, n1_ne, n1_lt, n1_le, n1_nlt, n1_nle] at c; omega
      · exfalso; rw [t1] at c; simp (disch := omega) only [J_add, J_mul, J_sub, J_cl, J_lt, J_le, J_eq, vp_J, n1_ne, n1_lt, n1_le, n1_nlt, n1_nle] at c; omega
      · rw [t1]; simp (disch := omega) only [J_add, J_mul, J_sub, J_cl, J_lt, J_le, J_eq, vp_J, n1_ne, n1_lt, n1_le, n1_nlt, n1_nle]; omega
      · have hu2 : u = J (bytN x (J (24 - 8 * i))) := hu.trans (byt_J x _).1
        rw [t1, J_cl (by omega), J_add]
        refine ih _ ⟨(hF.setI (Or.inr rfl)).setI (Or.inl rfl), ?_, by omega, fun k hk => ?_⟩
        · rw [show n + 4 * j + i + 1 = n + 4 * j + (i + 1) by omega, show (1 : Nat) = 1 from rfl]; exact sI_same
        · rw [sI_any (by omega)]
          by_cases e : k = n + 4 * j + i
          · rw [e, show x0 + 1 + 1 = x0 + 2 by omega, sI_same, show n + 4 * j + i = n + (4 * j + i) by omega, show 4 * j + (i + 1) = (4 * j + i) + 1 by omega, fed_eq, show (4 * j + i) / 4 = j by omega, show (4 * j + i) % 4 = i by omega, ha]
            exact ⟨hu2, (byt_J x _).2⟩
          · rw [sI_any (by omega), show 4 * j + (i + 1) = (4 * j + i) + 1 by omega, fed_ne (by omega)]; exact t3 k (by omega)
    intro i
    have e3 : ∀ τ, (Fr (Pfd x0) σ τ ∧ CTp τ x0 (fedT tp n a (4 * j + 3)) (n + 4 * j + 3)) → WP gT d B 72 3 [.ref (x0 + 1), .int x, .int (J (24 - 8 * 3))] [] τ Q := by
      intro τ hI
      refine S 3 τ (by omega) hI (fun τ' h' => g_72_3 (sub_11_1_9 (h'.1.sh hx)) ⟨fun _ => hQ τ' h'.1 h'.2, fun c => absurd (by decide) c⟩)
    have e2 : ∀ τ, (Fr (Pfd x0) σ τ ∧ CTp τ x0 (fedT tp n a (4 * j + 2)) (n + 4 * j + 2)) → WP gT d B 72 3 [.ref (x0 + 1), .int x, .int (J (24 - 8 * 2))] [] τ Q := fun τ hI => S 2 τ (by omega) hI (fun τ' h' => e3 τ' h')
    have e1 : ∀ τ, (Fr (Pfd x0) σ τ ∧ CTp τ x0 (fedT tp n a (4 * j + 1)) (n + 4 * j + 1)) → WP gT d B 72 3 [.ref (x0 + 1), .int x, .int (J (24 - 8 * 1))] [] τ Q := fun τ hI => S 1 τ (by omega) hI (fun τ' h' => e2 τ' h')
    intro τ hi hI
    match i, hi with
    | 0, _ => exact S 0 τ (by omega) hI (fun τ' h' => e1 τ' h')
    | 1, _ => exact e1 τ hI
    | 2, _ => exact e2 τ hI
    | 3, _ => exact e3 τ hI
  exact L 0 σ (by omega) ⟨Fr.rf, h⟩
def fdA (x1 x2 x3 x4 x5 : Int32) : Nat → Int32 := fun i => match i with
  | 0 => x1
  | 1 => x2
  | 2 => x3
  | 3 => x4
  | _ => x5
theorem cc_feed (h : CIv σ x0 mv kv img tp n fl) {x1 x2 x3 x4 x5 : Int32} (h0 : n + 20 ≤ 400 → ∀ τ, CIv τ x0 mv kv img (fedT tp n (fdA x1 x2 x3 x4 x5) 20) (n + 20) fl → FCl σ τ → Q (.inl (some (.int (J (n + 20))))) τ) (h1 : ¬ n + 20 ≤ 400 → Q (.inl (some (.int (-J 1)))) σ) : WP gT (d + 1) B 94 0 [.ref x0, .int x1, .int x2, .int x3, .int x4, .int x5] [] σ Q := by
  have hx := h.x
  have ht : CTp σ x0 tp n := h.1.2.2.2.2.2.1
  have hn : n ≤ 400 := ht.2.1
  refine g_94_0 h.sh ⟨fun c => ?_, fun c => h1 (fun e => c ?_)⟩
  · rw [ht.1] at c
    simp (disch := omega) only [J_add, J_mul, J_sub, J_cl, J_lt, J_le, J_eq, vp_J, n1_ne, n1_lt, n1_le, n1_nlt, n1_nle] at c
    have t0 : CTp σ x0 (fedT tp n (fdA x1 x2 x3 x4 x5) (4 * 0)) (n + 4 * 0) := by rw [show 4 * 0 = 0 from rfl, fed_0]; exact ht
    refine c_addNumber (j := 0) h.sh rfl t0 (by omega) (fun τ1 f1 t1 => ⟨f1.sh h.sh, ?_⟩)
    refine c_addNumber (j := 1) (f1.sh h.sh) rfl t1 (by omega) (fun τ2 f2 t2 => ⟨(f1.tr f2).sh h.sh, ?_⟩)
    refine c_addNumber (j := 2) ((f1.tr f2).sh h.sh) rfl t2 (by omega) (fun τ3 f3 t3 => ⟨((f1.tr f2).tr f3).sh h.sh, ?_⟩)
    refine c_addNumber (j := 3) (((f1.tr f2).tr f3).sh h.sh) rfl t3 (by omega) (fun τ4 f4 t4 => ⟨(((f1.tr f2).tr f3).tr f4).sh h.sh, ?_⟩)
    refine c_addNumber (j := 4) ((((f1.tr f2).tr f3).tr f4).sh h.sh) rfl t4 (by omega) (fun τ5 f5 t5 => ⟨((((f1.tr f2).tr f3).tr f4).tr f5).sh h.sh, ?_⟩)
    have hF := (((f1.tr f2).tr f3).tr f4).tr f5
    have hf := h.1.2.2.2.2.2.2.1
    rw [t5.1]
    refine h0 c τ5 (h.txt hF (fun p j k => by unfold Pfd at k; omega) t5 ⟨?_, hf.2⟩) (FCl.of hx hF (fun p j k => by unfold Pfd at k; omega))
    rw [hF.i (by unfold Pfd; omega)]; exact hf.1
  · rw [ht.1]; simp (disch := omega) only [J_add, J_mul, J_sub, J_cl, J_lt, J_le, J_eq, vp_J, n1_ne, n1_lt, n1_le, n1_nlt, n1_nle]; omega
theorem rr_feed (hy : y0 = 260) (hn : n ≤ 400) (h : RIv σ y0 mv kv img tp n fl) {x1 x2 x3 x4 x5 : Int32} (h0 : n + 20 ≤ 400 → ∀ τ, RIv τ y0 mv kv img (fedT tp n (fdA x1 x2 x3 x4 x5) 20) (n + 20) fl → FRf σ τ → sI τ y0 0 = J 0 → Q (.inl (some (.int (J (n + 20))))) τ) (h1 : ¬ n + 20 ≤ 400 → ∀ τ, RIv τ y0 mv kv img tp n fl → FRf σ τ → sI τ y0 0 = J 0 → Q (.inl (some (.int (-J 1)))) τ) : WP gT d B 172 0 [.ref y0, .int x1, .int x2, .int x3, .int x4, .int x5, .retAddr 0, .retAddr 0] [] σ Q := by
  obtain ⟨t1, t3⟩ := h.2.2.2.2.1
  refine g_172_0 h.1 ⟨fun c => ?_, fun c => h1 (fun e => c ?_) _ h.thr (FRf.th hy) sI_same⟩
  · rw [t1] at c
    simp (disch := omega) only [J_add, J_mul, J_sub, J_cl, J_lt, J_le, J_eq, vp_J, n1_ne, n1_lt, n1_le, n1_nlt, n1_nle] at c
    have L : ∀ i τ, i ≤ 20 → (Fr (fun p j => p = y0 + 4 ∨ (p = y0 ∧ (j = 0 ∨ j = 6))) σ τ ∧ sI τ y0 0 = J 0 ∧ sI τ y0 6 = J (n + i) ∧ ∀ k, k < n + i → sI τ (y0 + 4) k = J (fedT tp n (fdA x1 x2 x3 x4 x5) i k)) → ∀ v, WP gT d B 172 23 [.ref y0, .int x1, .int x2, .int x3, .int x4, .int x5, .int (J i), v] [] τ Q := by
      refine upto 20 ?_ ?_
      · intro i τ hi hI ih v
        obtain ⟨hF, k0, k1, k3⟩ := hI
        refine g_172_23 (hF.sh h.1) ⟨fun c => ?_, fun _ u1 e1 => ⟨?_, fun u3 e3 => ?_⟩⟩
        · exfalso; simp (disch := omega) only [J_add, J_mul, J_sub, J_cl, J_lt, J_le, J_eq, vp_J, n1_ne, n1_lt, n1_le, n1_nlt, n1_nle] at c; omega
        · rw [k1]; simp (disch := omega) only [J_add, J_mul, J_sub, J_cl, J_lt, J_le, J_eq, vp_J, n1_ne, n1_lt, n1_le, n1_nlt, n1_nle]; omega
        · have ea : u1 = fdA x1 x2 x3 x4 x5 (i / 4) := by
            rw [e1]
            simp (disch := omega) only [J_add, J_mul, J_sub, J_cl, J_lt, J_le, J_eq, vp_J, n1_ne, n1_lt, n1_le, n1_nlt, n1_nle]
            by_cases c4 : 4 ≤ i
            · by_cases c8 : 8 ≤ i
              · by_cases c12 : 12 ≤ i
                · by_cases c16 : 16 ≤ i
                  · rw [if_pos c4, if_pos c8, if_pos c12, if_pos c16, show i / 4 = 4 by omega]; rfl
                  · rw [if_pos c4, if_pos c8, if_pos c12, if_neg c16, show i / 4 = 3 by omega]; rfl
                · rw [if_pos c4, if_pos c8, if_neg c12, show i / 4 = 2 by omega]; rfl
              · rw [if_pos c4, if_neg c8, show i / 4 = 1 by omega]; rfl
            · rw [if_neg c4, show i / 4 = 0 by omega]; rfl
          have eb : (J 24) - ((J 8) * (J i - J i / (J 4) * (J 4))) = J (24 - 8 * (i % 4)) := by
            rw [J_div (by omega) (by omega) (by omega), J_mul, J_sub (by omega), J_mul, J_sub (by omega)]
            congr 1; omega
          have e4 : u3 = J (bytN u1 (J (24 - 8 * (i % 4)))) := by rw [e3, eb]; exact (byt_J u1 _).1
          rw [k1, J_cl (by omega), J_add, J_add, e4, ea]
          refine ih _ ⟨(hF.setI (Or.inl rfl)).setI (Or.inr ⟨rfl, Or.inr rfl⟩), ?_, ?_, fun k hk => ?_⟩ _
          · rw [sI_any (by omega), sI_any (by omega)]; exact k0
          · rw [show n + (i + 1) = n + i + 1 by omega]; exact sI_same
          · rw [sI_any (by omega)]
            by_cases e : k = n + i
            · rw [e, sI_same, fed_eq]
            · rw [sI_any (by omega), fed_ne e]; exact k3 k (by omega)
      · intro τ hI v
        obtain ⟨hF, k0, k1, k3⟩ := hI
        refine g_172_23 (hF.sh h.1) ⟨fun _ => ?_, fun c => absurd (by decide) c⟩
        rw [k1]
        refine h0 c τ (h.txt hF (fun p j k => by unfold SRr; omega) ⟨k1, k3⟩ ?_) (FRf.of hy hF (fun p j k => by omega)) k0
        rw [hF.i (by omega)]; exact h.2.2.2.2.2
    refine L 0 _ (by omega) ⟨Fr.rf.setI (Or.inr ⟨rfl, Or.inl rfl⟩), sI_same, ?_, fun k hk => ?_⟩ _
    · rw [sI_any (by omega)]; exact t1
    · rw [sI_any (by omega), fed_0]; exact t3 k (by omega)
  · rw [t1]; simp (disch := omega) only [J_add, J_mul, J_sub, J_cl, J_lt, J_le, J_eq, vp_J, n1_ne, n1_lt, n1_le, n1_nlt, n1_nle]; omega
