/-! ===== what is read off a flood: wet places, people, fear ===== -/
def wetB (mv : Mem) (dp : Nat → Nat → Int32) (p q : Nat) : Bool := !decide (dp (q + 1) (mv (376 + 4 * p)) ≤ J (mv (376 + 4 * p + 1)))
/-- the first of n from a on -/
def fstB (b : Nat → Bool) : Nat → Nat → Option Nat
  | _, 0 => none
  | a, n + 1 => if b a = true then some a else fstB b (a + 1) n
def oJ (o : Option Nat) : Int32 := match o with
  | none => -J 1
  | some q => J q
theorem fst_loop {W : Nat → Prop} {b : Nat → Bool} {R : Option Nat → Prop} : ∀ (n a : Nat), (∀ q, a ≤ q → q < a + n → (b q = true → R (some q)) → (b q = false → W (q + 1)) → W q) → (R none → W (a + n)) → R (fstB b a n) → W a := by
  intro n
  induction n with
  | zero => intro a _ he hR; exact he hR
  | succ n ih =>
    intro a hs he hR
    unfold fstB at hR
    refine hs a (Nat.le_refl _) (by omega) (fun h => ?_) (fun h => ?_)
    · rw [if_pos h] at hR; exact hR
    · rw [if_neg (by rw [h]; decide)] at hR
      exact ih (a + 1) (fun q h1 h2 => hs q (by omega) (by omega)) (fun h => by rw [show a + 1 + n = a + (n + 1) by omega]; exact he h) hR
theorem fstB_some {b : Nat → Bool} : ∀ {n a q : Nat}, fstB b a n = some q → a ≤ q ∧ q < a + n ∧ b q = true := by
  intro n
  induction n with
  | zero => intro a q h; cases h
  | succ n ih =>
    intro a q h
    unfold fstB at h
    split at h
    · cases h; exact ⟨Nat.le_refl _, by omega, by assumption⟩
    · have := ih h; exact ⟨by omega, by omega, this.2.2⟩
theorem fstB_none {b : Nat → Bool} : ∀ {n a : Nat}, fstB b a n = none → ∀ q, a ≤ q → q < a + n → b q = false := by
  intro n
  induction n with
  | zero => intro a _ q h1 h2; omega
  | succ n ih =>
    intro a h q h1 h2
    unfold fstB at h
    split at h
    · cases h
    · by_cases e : q = a
      · subst e; simpa using ‹¬ b q = true›
      · exact ih h q (by omega) (by omega)
theorem fstB_is {b : Nat → Bool} {n a q : Nat} (h1 : a ≤ q) (h2 : q < a + n) (h3 : b q = true) : (fstB b a n).isSome = true := by
  cases h : fstB b a n with
  | none => rw [fstB_none h q h1 h2] at h3; cases h3
  | some _ => rfl
theorem fstB_congr {b b' : Nat → Bool} : ∀ {n a : Nat}, (∀ q, a ≤ q → q < a + n → b q = b' q) → fstB b a n = fstB b' a n := by
  intro n
  induction n with
  | zero => intro a _; rfl
  | succ n ih =>
    intro a h
    unfold fstB
    rw [h a (Nat.le_refl _) (by omega), ih (fun q h1 h2 => h q (by omega) (by omega))]
theorem oJ_none {o : Option Nat} (h : ∀ q, o = some q → q < 2147483648) : (oJ o = -J 1) = (o = none) := by
  cases o with
  | none => exact propext ⟨fun _ => rfl, fun _ => rfl⟩
  | some q => exact propext ⟨fun e => by rw [show oJ (some q) = J q from rfl, n1_ne (h q rfl)] at e; exact e.elim, fun e => by cases e⟩
/-- a loop that leaves the store alone -/
theorem upto0 {W : Nat → Prop} (n : Nat) (hs : ∀ i, i < n → W (i + 1) → W i) (he : W n) : ∀ i, i ≤ n → W i := by
  intro i
  induction hk : n - i generalizing i with
  | zero => intro hi; have : i = n := by omega
            subst this; exact he
  | succ k ih => intro hi; exact hs i (by omega) (ih (i + 1) (by omega) (by omega))
def rs (dp : Nat → Nat → Int32) (r q : Nat) : Int32 := dp (q + 1) r - dp q r
def hrm (mv : Mem) (dp : Nat → Nat → Int32) : Nat → Nat
  | 0 => 0
  | p + 1 => hrm mv dp p + (if (fstB (wetB mv dp p) 0 96).isSome = true then mv (376 + 4 * p + 3) else 0)
theorem hrm_le {mv : Mem} {dp : Nat → Nat → Int32} (hv : VG mv) : ∀ p, p ≤ mv 3 → hrm mv dp p ≤ 999 * p := by
  intro p
  induction p with
  | zero => intro _; exact Nat.le_refl _
  | succ p ih =>
    intro hp
    have h1 := ih (by omega)
    have h2 := hv.p (p := p) (by omega)
    unfold hrm
    split <;> omega
/-- who is caught, and when -/
def cau (mv : Mem) (dp : Nat → Nat → Int32) (k : Nat) : Option Nat := if wetB mv dp (mv (2728 + 6 * k)) (mv (2728 + 6 * k + 1)) = true then none else fstB (wetB mv dp (mv (2728 + 6 * k))) (mv (2728 + 6 * k + 1) + 1) (mv (2728 + 6 * k + 2) - mv (2728 + 6 * k + 1))
theorem cau_lt {mv : Mem} {dp : Nat → Nat → Int32} {k c : Nat} (h1 : mv (2728 + 6 * k + 1) ≤ mv (2728 + 6 * k + 2)) (h2 : mv (2728 + 6 * k + 2) ≤ 95) (h : cau mv dp k = some c) : c ≤ 95 := by
  unfold cau at h
  split at h
  · cases h
  · have := fstB_some h; omega
def inT (mv : Mem) (k q c : Nat) : Bool := decide (mv (2728 + 6 * k + 1) ≤ q) && decide (mv (2728 + 6 * k + 4) ≤ q) && decide (q + mv (376 + 4 * mv (2728 + 6 * k) + 2) ≤ c)
def goB (mv : Mem) (dp : Nat → Nat → Int32) (k c : Nat) : Bool := (fstB (fun q => inT mv k q c && !decide (rs dp (mv (376 + 4 * mv (2728 + 6 * k))) q < J (mv (2728 + 6 * k + 5)))) 0 96).isSome
/-- who stays, and is caught at c -/
def sty (mv : Mem) (dp : Nat → Nat → Int32) (k : Nat) : Option Nat := match cau mv dp k with
  | none => none
  | some c => if goB mv dp k c = true then none else some c
theorem sty_cau {mv : Mem} {dp : Nat → Nat → Int32} {k c : Nat} (h : sty mv dp k = some c) : cau mv dp k = some c ∧ goB mv dp k c = false := by
  unfold sty at h
  split at h
  · cases h
  · split at h
    · cases h
    · cases h; exact ⟨by assumption, by simpa using ‹¬ _ = true›⟩
/-- calls in time, of the first n -/
def cin (mv : Mem) (cp ca : Mem) (k c : Nat) : Nat → Nat
  | 0 => 0
  | n + 1 => cin mv cp ca k c n + (if cp n = mv (2728 + 6 * k) ∧ inT mv k (ca n) c = true then 1 else 0)
theorem cin_le {mv cp ca : Mem} {k c : Nat} : ∀ n, cin mv cp ca k c n ≤ cntC cp (mv (2728 + 6 * k)) n := by
  intro n
  induction n with
  | zero => exact Nat.le_refl _
  | succ n ih =>
    unfold cin cntC
    split
    · rename_i h; rw [if_pos h.1]; omega
    · split <;> omega
theorem cntC_mono {cp : Mem} {p : Nat} : ∀ {m n : Nat}, n ≤ m → cntC cp p n ≤ cntC cp p m := by
  intro m
  induction m with
  | zero => intro n h; obtain rfl : n = 0 := by omega
            exact Nat.le_refl _
  | succ m ih =>
    intro n h
    by_cases e : n = m + 1
    · subst e; exact Nat.le_refl _
    · have := ih (n := n) (by omega)
      show _ ≤ cntC cp p m + _
      omega
def odN (h c : Nat) : Nat := (100 - h) ^ c * 100 ^ (4 - c)
theorem odN_step {h c : Nat} (hc : c < 4) : odN h c * (100 - h) / 100 = odN h (c + 1) := by
  unfold odN
  generalize 100 - h = x
  rw [show 4 - c = (4 - (c + 1)) + 1 by omega, Nat.pow_succ, Nat.pow_succ, show x ^ c * (100 ^ (4 - (c + 1)) * 100) * x = x ^ c * x * 100 ^ (4 - (c + 1)) * 100 by ac_rfl, Nat.mul_div_cancel _ (by omega)]
theorem odN_le {h c : Nat} (hc : c ≤ 4) : odN h c ≤ 100000000 := by
  have h1 : (100 - h) ^ c ≤ 100 ^ c := Nat.pow_le_pow_left (by omega) c
  have h2 : (100 - h) ^ c * 100 ^ (4 - c) ≤ 100 ^ c * 100 ^ (4 - c) := Nat.mul_le_mul_right _ h1
  rw [← Nat.pow_add, show c + (4 - c) = 4 by omega] at h2
  exact Nat.le_trans h2 (by decide)
def odd (mv : Mem) (dp : Nat → Nat → Int32) (cp ca : Mem) (n k : Nat) : Nat := match sty mv dp k with
  | none => 0
  | some c => odN (mv (2728 + 6 * k + 3)) (cin mv cp ca k c n)
def fea (mv : Mem) (dp : Nat → Nat → Int32) (cp ca : Mem) (n : Nat) : Nat → Nat
  | 0 => 0
  | k + 1 => fea mv dp cp ca n k + odd mv dp cp ca n k
/-- no place has more than 4 calls -/
def C4 (cp : Mem) (n : Nat) : Prop := ∀ p, cntC cp p n ≤ 4
theorem odd_le {mv : Mem} {dp : Nat → Nat → Int32} {cp ca : Mem} {n k : Nat} (h : C4 cp n) : odd mv dp cp ca n k ≤ 100000000 := by
  unfold odd
  split
  · omega
  · exact odN_le (Nat.le_trans (cin_le n) (h _))
theorem fea_le {mv : Mem} {dp : Nat → Nat → Int32} {cp ca : Mem} {n : Nat} (h : C4 cp n) : ∀ k, fea mv dp cp ca n k ≤ 100000000 * k := by
  intro k
  induction k with
  | zero => exact Nat.le_refl _
  | succ k ih => have := odd_le (mv := mv) (dp := dp) (ca := ca) (k := k) h; unfold fea; omega
def falR (mv : Mem) (dp : Nat → Nat → Int32) (r : Nat) : Bool := (fstB (fun q => !decide (-(rs dp r q) ≤ J (mv 15))) 0 96).isSome
def falB (mv : Mem) (dp : Nat → Nat → Int32) : Bool := (fstB (falR mv dp) 0 (mv 2)).isSome
def jud (mv : Mem) (dp : Nat → Nat → Int32) (lk : Nat → Int32) (f : Nat) : Nat := if lk (mv 12 + 1) / J (mv 9) ≤ J (mv 11) then (if f ≤ 1000000 * mv 14 then (if falB mv dp = true then 3 else if hrm mv dp (mv 3) ≤ mv 16 then 0 else 4) else 2) else 1
theorem jud_le (mv : Mem) (dp : Nat → Nat → Int32) (lk : Nat → Int32) (f : Nat) : jud mv dp lk f ≤ 4 := by
  unfold jud; repeat' split
  all_goals omega
/-! long numbers from 0 on -/
def N64 (n : Nat) : Int64 := Int64.ofNat n
theorem N64_int {a : Nat} (h : a < 9223372036854775808) : (N64 a).toInt = a := Int64.toInt_ofInt_of_le (n := (a : Int)) (by omega) (by omega)
theorem N64_add (a b : Nat) : N64 a + N64 b = N64 (a + b) := (Int64.ofInt_add (a : Int) (b : Int)).symm
theorem N64_mul (a b : Nat) : N64 a * N64 b = N64 (a * b) := by
  show Int64.ofInt (a : Int) * Int64.ofInt (b : Int) = Int64.ofInt ((a * b : Nat) : Int)
  rw [← Int64.ofInt_mul]; rfl
theorem N64_J {a : Nat} (h : a < 2147483648) : (J a).toInt64 = N64 a := by
  apply Int64.toInt_inj.mp
  rw [J64 h, N64_int (by omega)]
theorem N64_div {a b : Nat} (ha : a < 9223372036854775808) (hb : b < 9223372036854775808) (h0 : 0 < b) : N64 a / N64 b = N64 (a / b) := by
  apply Int64.toInt_inj.mp
  have h1 : a / b ≤ a := Nat.div_le_self a b
  rw [Int64.toInt_div, N64_int ha, N64_int hb, N64_int (Nat.lt_of_le_of_lt h1 ha), Int.tdiv_eq_ediv_of_nonneg (by omega), ← Int.natCast_ediv]
  generalize a / b = x at h1 ⊢
  exact Int.bmod_eq_of_le (by omega) (by omega)
theorem N64_cmp {a b : Nat} (ha : a < 9223372036854775808) (hb : b < 9223372036854775808) : (lg_cmp (N64 a) (N64 b) ≤ J 0) = (a ≤ b) := by
  rw [show J 0 = 0 from rfl, lg_cmp_le, Int64.le_iff_toInt_le, N64_int ha, N64_int hb]; exact propext (by omega)
theorem N64_cmpge {a b : Nat} (ha : a < 9223372036854775808) (hb : b < 9223372036854775808) : (J 0 ≤ lg_cmp (N64 a) (N64 b)) = (b ≤ a) := by
  rw [show J 0 = 0 from rfl, lg_cmp_ge, Int64.le_iff_toInt_le, N64_int ha, N64_int hb]; exact propext (by omega)
theorem N64_cmplt {a b : Nat} (ha : a < 9223372036854775808) (hb : b < 9223372036854775808) : (lg_cmp (N64 a) (N64 b) < J 0) = (a < b) := by
  rw [show J 0 = 0 from rfl, lg_cmp_lt, Int64.lt_iff_toInt_lt, N64_int ha, N64_int hb]; exact propext (by omega)
theorem N64_cmpgt {a b : Nat} (ha : a < 9223372036854775808) (hb : b < 9223372036854775808) : (J 0 < lg_cmp (N64 a) (N64 b)) = (b < a) := by
  rw [show J 0 = 0 from rfl, lg_cmp_gt, Int64.lt_iff_toInt_lt, N64_int ha, N64_int hb]; exact propext (by omega)
theorem N64_eq {a b : Nat} (ha : a < 9223372036854775808) (hb : b < 9223372036854775808) : (N64 a = N64 b) = (a = b) := by
  rw [← Int64.toInt_inj, N64_int ha, N64_int hb]; exact propext (by omega)
