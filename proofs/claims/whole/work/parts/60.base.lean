/-! ===== numbers of the machine that are whole numbers from 0 on ===== -/
theorem J_int {a : Nat} (h : a < 2147483648) : (J a).toInt = a := Int32.toInt_ofInt_of_le (n := (a : Int)) (by omega) (by omega)
theorem J_add (a b : Nat) : J a + J b = J (a + b) := (Int32.ofInt_add (a : Int) (b : Int)).symm
theorem J_mul (a b : Nat) : J a * J b = J (a * b) := by
  show Int32.ofInt (a : Int) * Int32.ofInt (b : Int) = Int32.ofInt ((a * b : Nat) : Int)
  rw [← Int32.ofInt_mul]; rfl
theorem J_sub {a b : Nat} (h : b ≤ a) : J a - J b = J (a - b) := by
  show Int32.ofInt (a : Int) - Int32.ofInt (b : Int) = Int32.ofInt ((a - b : Nat) : Int)
  rw [← Int32.ofInt_sub, Int.ofNat_sub h]
theorem J_cl {a : Nat} (h : a < 2147483648) : (J a).toNatClampNeg = a := by
  show (J a).toInt.toNat = a
  rw [J_int h]; rfl
theorem J_lt {a b : Nat} (ha : a < 2147483648) (hb : b < 2147483648) : (J a < J b) = (a < b) := by
  rw [Int32.lt_iff_toInt_lt, J_int ha, J_int hb]; exact propext (by omega)
theorem J_le {a b : Nat} (ha : a < 2147483648) (hb : b < 2147483648) : (J a ≤ J b) = (a ≤ b) := by
  rw [Int32.le_iff_toInt_le, J_int ha, J_int hb]; exact propext (by omega)
theorem J_eq {a b : Nat} (ha : a < 2147483648) (hb : b < 2147483648) : (J a = J b) = (a = b) := by
  rw [← Int32.toInt_inj, J_int ha, J_int hb]; exact propext (by omega)
theorem J_0 : (0 : Int32) = J 0 := rfl
theorem J_inj {a b : Nat} (ha : a < 2147483648) (hb : b < 2147483648) (h : J a = J b) : a = b := (J_eq ha hb) ▸ h
theorem vp_J {a n : Nat} (h : a < 2147483648) : vp_in (J a) n = (a < n) := by
  rw [vp_in_iff, J_int h]; exact propext (by omega)
theorem J_div {a b : Nat} (ha : a < 2147483648) (hb : b < 2147483648) (h0 : 0 < b) : J a / J b = J (a / b) := by
  apply Int32.toInt_inj.mp
  have h1 : a / b ≤ a := Nat.div_le_self a b
  rw [Int32.toInt_div, J_int ha, J_int hb, J_int (Nat.lt_of_le_of_lt h1 ha), Int.tdiv_eq_ediv_of_nonneg (by omega), ← Int.natCast_ediv]
  generalize a / b = x at h1 ⊢
  rw [Int.bmod_eq_of_le (by omega) (by omega)]
theorem n1_int : (-J 1).toInt = -1 := by decide
theorem n1_ne {a : Nat} (h : a < 2147483648) : (J a = -J 1) = False := by
  rw [← Int32.toInt_inj, J_int h, n1_int]; exact propext ⟨fun h => by omega, False.elim⟩
theorem n1_ne' {a : Nat} (h : a < 2147483648) : (-J 1 = J a) = False := by rw [show (-J 1 = J a) = (J a = -J 1) from propext ⟨Eq.symm, Eq.symm⟩, n1_ne h]
theorem n1_lt {a : Nat} (h : a < 2147483648) : (-J 1 < J a) = True := by
  rw [Int32.lt_iff_toInt_lt, J_int h, n1_int]; exact propext ⟨fun _ => trivial, fun _ => by omega⟩
theorem n1_le {a : Nat} (h : a < 2147483648) : (-J 1 ≤ J a) = True := by
  rw [Int32.le_iff_toInt_le, J_int h, n1_int]; exact propext ⟨fun _ => trivial, fun _ => by omega⟩
theorem n1_nlt {a : Nat} (h : a < 2147483648) : (J a < -J 1) = False := by
  rw [Int32.lt_iff_toInt_lt, J_int h, n1_int]; exact propext ⟨fun h => by omega, False.elim⟩
theorem n1_nle {a : Nat} (h : a < 2147483648) : (J a ≤ -J 1) = False := by
  rw [Int32.le_iff_toInt_le, J_int h, n1_int]; exact propext ⟨fun h => by omega, False.elim⟩
theorem J_or {x : Int32} (h : 0 ≤ x.toInt) : x = J x.toInt.toNat := by
  apply Int32.toInt_inj.mp
  have := Int32.toInt_lt x
  rw [J_int (by omega)]; omega
/-- which numbers lie from 0 on below a bound -/
theorem okIx_J {x : Int32} {n : Nat} (hn : n < 2147483648) : okIx x (J n) ↔ ∃ a, a < n ∧ x = J a := by
  have h0 : (J 0).toInt = 0 := by decide
  unfold okIx
  rw [Int32.lt_iff_toInt_lt, Int32.lt_iff_toInt_lt, J_int hn, h0]
  constructor
  · intro h
    exact ⟨x.toInt.toNat, by omega, J_or (by omega)⟩
  · rintro ⟨a, ha, rfl⟩
    rw [J_int (by omega)]; omega
theorem isIn_J {x : Int32} {a b : Nat} (ha : a < 2147483648) (hb : b < 2147483648) : (J a ≤ x ∧ x ≤ J b) ↔ ∃ k, a ≤ k ∧ k ≤ b ∧ x = J k := by
  rw [Int32.le_iff_toInt_le, Int32.le_iff_toInt_le, J_int ha, J_int hb]
  constructor
  · intro h
    exact ⟨x.toInt.toNat, by omega, by omega, J_or (by omega)⟩
  · rintro ⟨k, h1, h2, rfl⟩
    rw [J_int (by omega)]; omega
/-! ===== reads behind writes ===== -/
theorem sN_I {σ : Sto} {p j : Nat} {v : Int32} : sN (setI σ p j v) = sN σ := rfl
theorem sK_I {σ : Sto} {p j : Nat} {v : Int32} : sK (setI σ p j v) = sK σ := rfl
theorem sZ_I {σ : Sto} {p j : Nat} {v : Int32} : sZ (setI σ p j v) = sZ σ := rfl
theorem sP_I {σ : Sto} {p j : Nat} {v : Int32} : sP (setI σ p j v) = sP σ := rfl
theorem sL_I {σ : Sto} {p j : Nat} {v : Int32} : sL (setI σ p j v) = sL σ := rfl
theorem sI_L {σ : Sto} {p j : Nat} {v : Int64} : sI (setL σ p j v) = sI σ := rfl
theorem sI_P {σ : Sto} {p j : Nat} {v : Option Nat} : sI (setP σ p j v) = sI σ := rfl
theorem sI_any {σ : Sto} {p j q i : Nat} {v : Int32} (h : ¬ (q = p ∧ i = j)) : sI (setI σ p j v) q i = sI σ q i := by
  by_cases e : q = p
  · subst e; exact sI_idx (fun e2 => h ⟨rfl, e2⟩)
  · exact sI_pl e
theorem sL_any {σ : Sto} {p j q i : Nat} {v : Int64} (h : ¬ (q = p ∧ i = j)) : sL (setL σ p j v) q i = sL σ q i := by
  by_cases e : q = p
  · subst e; exact sL_idx (fun e2 => h ⟨rfl, e2⟩)
  · exact sL_pl e
/-! ===== frames: what a run leaves as it was ===== -/
def Fr (P : Nat → Nat → Prop) (σ τ : Sto) : Prop := sN τ = sN σ ∧ sK τ = sK σ ∧ sZ τ = sZ σ ∧ sP τ = sP σ ∧ (∀ p j, ¬ P p j → sI τ p j = sI σ p j) ∧ (∀ p j, ¬ P p j → sL τ p j = sL σ p j)
theorem Fr.rf {P : Nat → Nat → Prop} {σ : Sto} : Fr P σ σ := ⟨rfl, rfl, rfl, rfl, fun _ _ _ => rfl, fun _ _ _ => rfl⟩
theorem Fr.tr {P : Nat → Nat → Prop} {σ τ ρ : Sto} (h : Fr P σ τ) (k : Fr P τ ρ) : Fr P σ ρ :=
  ⟨k.1.trans h.1, k.2.1.trans h.2.1, k.2.2.1.trans h.2.2.1, k.2.2.2.1.trans h.2.2.2.1, fun p j n => (k.2.2.2.2.1 p j n).trans (h.2.2.2.2.1 p j n), fun p j n => (k.2.2.2.2.2 p j n).trans (h.2.2.2.2.2 p j n)⟩
theorem Fr.mono {P P' : Nat → Nat → Prop} {σ τ : Sto} (h : Fr P σ τ) (hP : ∀ p j, P p j → P' p j) : Fr P' σ τ :=
  ⟨h.1, h.2.1, h.2.2.1, h.2.2.2.1, fun p j n => h.2.2.2.2.1 p j (fun k => n (hP p j k)), fun p j n => h.2.2.2.2.2 p j (fun k => n (hP p j k))⟩
theorem Fr.setI {P : Nat → Nat → Prop} {σ τ : Sto} (h : Fr P σ τ) {p j : Nat} {v : Int32} (hp : P p j) : Fr P σ (setI τ p j v) :=
  ⟨h.1, h.2.1, h.2.2.1, h.2.2.2.1, fun q i n => (sI_any (fun e : q = p ∧ i = j => n (by rw [e.1, e.2]; exact hp))).trans (h.2.2.2.2.1 q i n), h.2.2.2.2.2⟩
theorem Fr.setL {P : Nat → Nat → Prop} {σ τ : Sto} (h : Fr P σ τ) {p j : Nat} {v : Int64} (hp : P p j) : Fr P σ (setL τ p j v) :=
  ⟨h.1, h.2.1, h.2.2.1, h.2.2.2.1, h.2.2.2.2.1, fun q i n => (sL_any (fun e : q = p ∧ i = j => n (by rw [e.1, e.2]; exact hp))).trans (h.2.2.2.2.2 q i n)⟩
theorem Fr.i {P : Nat → Nat → Prop} {σ τ : Sto} (h : Fr P σ τ) {p j : Nat} (n : ¬ P p j) : sI τ p j = sI σ p j := h.2.2.2.2.1 p j n
theorem Fr.l {P : Nat → Nat → Prop} {σ τ : Sto} (h : Fr P σ τ) {p j : Nat} (n : ¬ P p j) : sL τ p j = sL σ p j := h.2.2.2.2.2 p j n
theorem Fr.N {P : Nat → Nat → Prop} {σ τ : Sto} (h : Fr P σ τ) : sN τ = sN σ := h.1
theorem Fr.K {P : Nat → Nat → Prop} {σ τ : Sto} (h : Fr P σ τ) : sK τ = sK σ := h.2.1
theorem Fr.Z {P : Nat → Nat → Prop} {σ τ : Sto} (h : Fr P σ τ) : sZ τ = sZ σ := h.2.2.1
theorem Fr.P {P : Nat → Nat → Prop} {σ τ : Sto} (h : Fr P σ τ) : sP τ = sP σ := h.2.2.2.1
theorem Fr.sh {P : Nat → Nat → Prop} {σ τ : Sto} (h : Fr P σ τ) {n np : Nat} {zs : List (Nat × Nat)} {ps : List (Nat × Nat × Nat)} {o : Nat} (k : Shp n np zs ps σ o) : Shp n np zs ps τ o := by
  unfold Shp at k ⊢
  rw [h.K, h.Z, h.P]; exact k
theorem sh_I {σ : Sto} {p j : Nat} {v : Int32} {n np : Nat} {zs : List (Nat × Nat)} {ps : List (Nat × Nat × Nat)} {o : Nat} (k : Shp n np zs ps σ o) : Shp n np zs ps (setI σ p j v) o := k
/-! ===== loops ===== -/
/-- i goes up to n: I what holds, W what is to be shown -/
theorem upto {I W : Nat → Sto → Prop} (n : Nat) (hs : ∀ i σ, i < n → I i σ → (∀ τ, I (i + 1) τ → W (i + 1) τ) → W i σ) (he : ∀ σ, I n σ → W n σ) : ∀ i σ, i ≤ n → I i σ → W i σ := by
  intro i
  induction hk : n - i generalizing i with
  | zero =>
    intro σ hi h
    have : i = n := by omega
    subst this; exact he σ h
  | succ k ih =>
    intro σ hi h
    exact hs i σ (by omega) h (fun τ ht => ih (i + 1) (by omega) τ (by omega) ht)
/-- i goes down to 0: I (i + 1) ahead of the pass of i -/
theorem downto {I W : Nat → Sto → Prop} (hs : ∀ i σ, I (i + 1) σ → (∀ τ, I i τ → W i τ) → W (i + 1) σ) (he : ∀ σ, I 0 σ → W 0 σ) : ∀ i σ, I i σ → W i σ := by
  intro i
  induction i with
  | zero => exact he
  | succ k ih => exact fun σ h => hs k σ h (fun τ ht => ih τ ht)
