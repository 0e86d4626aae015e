/-! ===== warden: the walk, the orders, the bits ===== -/
variable {d : Nat} {B : Nat × Nat} {Q : Out → Sto → Prop} {P : Nat → Nat → Prop} {σ τ : Sto} {v i j k t p q : Nat} {o s mv : Mem} {l : List Nat} {x : Int32} {b b' : Nat → Bool}
/-! bits -/
def bitO (x : Int32) (p : Nat) : Bool := x.toBitVec.getLsbD p
theorem and31 : ∀ p, p < 12 → (J p &&& 31) = J p ∧ (BitVec.ofNat 32 p).smod 32 = BitVec.ofNat 32 p := by decide
theorem sbit (hp : p < 12) : (x >>> (J p &&& 31)) &&& J 1 = if bitO x p = true then J 1 else J 0 := by
  have h := and31 p hp
  rw [h.1]
  apply Int32.toBitVec_inj.mp
  rw [Int32.toBitVec_and, Int32.toBitVec_shiftRight, J_bv, J_bv, h.2, BitVec.sshiftRight_eq', BitVec.toNat_ofNat, Nat.mod_eq_of_lt (by omega), show BitVec.ofNat 32 1 = 1#32 from rfl, BitVec.and_one_eq_setWidth_ofBool_getLsbD, BitVec.getLsbD_sshiftRight]
  unfold bitO
  have e : (!decide (32 ≤ 0) && if p + 0 < 32 then x.toBitVec.getLsbD (p + 0) else x.toBitVec.msb) = x.toBitVec.getLsbD p := by
    rw [if_pos (by omega)]; simp
  rw [e]
  cases x.toBitVec.getLsbD p
  · rw [if_neg (by decide)]; rfl
  · rw [if_pos rfl]; rfl
theorem gth_ext (h : ∀ p, p < k → b p = b' p) : gth b k = gth b' k := by
  induction k with
  | zero => rfl
  | succ k ih =>
    show (if b k = true then gth b k ++ [k] else gth b k) = if b' k = true then gth b' k ++ [k] else gth b' k
    rw [h k (by omega), ih (fun p hp => h p (by omega))]
theorem gth_cut {pl : Nat} (h : ∀ p, p < k → b' p = (b p && decide (p < pl))) (hk : pl ≤ k) : gth b' k = gth b pl := by
  induction k with
  | zero =>
    have : pl = 0 := by omega
    subst this; rfl
  | succ k ih =>
    by_cases c : pl = k + 1
    · rw [c]
      exact gth_ext (fun p hp => by rw [h p hp, c]; simp [hp])
    · show (if b' k = true then gth b' k ++ [k] else gth b' k) = _
      rw [h k (by omega), if_neg (by simp; intro _; omega)]
      exact ih (fun p hp => h p (by omega)) (by omega)
theorem gth_lt : ∀ k x, x ∈ gth b k → x < k ∧ b x = true := by
  intro k
  induction k with
  | zero => intro x h; cases h
  | succ k ih =>
    intro x h
    have h : x ∈ (if b k = true then gth b k ++ [k] else gth b k) := h
    split at h
    · rename_i c
      rcases List.mem_append.mp h with h | h
      · have := ih x h; exact ⟨by omega, this.2⟩
      · rw [List.mem_singleton.mp h]; exact ⟨by omega, c⟩
    · have := ih x h; exact ⟨by omega, this.2⟩
theorem gD_mem {l : List Nat} {i : Nat} (h : i < l.length) : l.getD i 0 ∈ l := by
  rw [List.getD_eq_getElem?_getD, List.getElem?_eq_getElem h]
  exact List.getElem_mem h
theorem getD_l {l l2 : List Nat} {i : Nat} (h : i < l.length) : (l ++ l2).getD i 0 = l.getD i 0 := by
  rw [List.getD_eq_getElem?_getD, List.getD_eq_getElem?_getD, List.getElem?_append_left h]
theorem getD_r {l : List Nat} {x : Nat} : (l ++ [x]).getD l.length 0 = x := by
  rw [List.getD_eq_getElem?_getD, List.getElem?_append_right (Nat.le_refl _), Nat.sub_self]; rfl
theorem gth_inc : ∀ k i j, i < j → j < (gth b k).length → (gth b k).getD i 0 < (gth b k).getD j 0 := by
  intro k
  induction k with
  | zero => intro i j _ h; exact absurd h (Nat.not_lt_zero _)
  | succ k ih =>
    intro i j hij h
    by_cases c : b k = true
    · have e : gth b (k + 1) = gth b k ++ [k] := by show (if b k = true then gth b k ++ [k] else gth b k) = _; rw [if_pos c]
      rw [e] at h ⊢
      rw [List.length_append] at h
      have h : j < (gth b k).length + 1 := h
      by_cases cj : j = (gth b k).length
      · rw [cj, getD_r, getD_l (by omega)]
        exact (gth_lt k _ (gD_mem (by omega))).1
      · rw [getD_l (by omega), getD_l (by omega)]
        exact ih i j hij (by omega)
    · have e : gth b (k + 1) = gth b k := by show (if b k = true then gth b k ++ [k] else gth b k) = _; rw [if_neg c]
      rw [e] at h ⊢
      exact ih i j hij h
/-- the places of a set -/
def plL (mv : Mem) (x : Int32) : List Nat := gth (bitO x) (mv 3)
def plS (mv : Mem) (x : Int32) : Mem := fun k => (plL mv x).getD k 0
theorem plS_lt (hk : k < (plL mv x).length) : plS mv x k < mv 3 := (gth_lt _ _ (gD_mem hk)).1
theorem plS_le (hi : i < (plL mv x).length) (hj : j < (plL mv x).length) : plS mv x i ≤ plS mv x j ↔ i ≤ j := by
  constructor
  · intro h
    apply Classical.byContradiction
    intro c
    have := gth_inc (b := bitO x) (mv 3) j i (by omega) hi
    unfold plS plL at h; omega
  · intro h
    by_cases c : i = j
    · rw [c]; exact Nat.le_refl _
    · exact Nat.le_of_lt (gth_inc (b := bitO x) (mv 3) i j (by omega) hj)
theorem mask_ : ∀ pl, pl < 13 → ((J 1 <<< (J pl &&& 31)) - J 1) = J (2 ^ pl - 1) ∧ 2 ^ pl - 1 < 4096 := by decide
theorem bit_mask {pl : Nat} (hp : p < 12) : bitO (x &&& J (2 ^ pl - 1)) p = (bitO x p && decide (p < pl)) := by
  unfold bitO
  rw [Int32.toBitVec_and, BitVec.getLsbD_and, J_bv, BitVec.getLsbD_ofNat, Nat.testBit_two_pow_sub_one, decide_eq_true (show p < 32 by omega), Bool.true_and]
theorem pop_ {pl : Nat} (h : pl ≤ 12) : f_316 σ (x &&& ((J 1 <<< (J pl &&& 31)) - J 1)) = J (gth (bitO x) pl).length := by
  have m := mask_ pl (by omega)
  rw [m.1]
  have hn : (x &&& J (2 ^ pl - 1)).toBitVec.toNat < 4096 := by
    rw [Int32.toBitVec_and, BitVec.toNat_and, J_bv, BitVec.toNat_ofNat, Nat.mod_eq_of_lt (by omega)]
    have := Nat.and_le_right (n := x.toBitVec.toNat) (m := 2 ^ pl - 1)
    omega
  have e : x &&& J (2 ^ pl - 1) = J ((x &&& J (2 ^ pl - 1)).toBitVec.toNat) := by
    apply Int32.toBitVec_inj.mp
    rw [J_bv]
    simp
  have hb : ∀ p, p < 12 → bitO (x &&& J (2 ^ pl - 1)) p = (bitO x p && decide (p < pl)) := fun p hp => bit_mask hp
  have hc : ∀ p, (x &&& J (2 ^ pl - 1)).toBitVec.toNat.testBit p = bitO (x &&& J (2 ^ pl - 1)) p := fun p => rfl
  generalize x &&& J (2 ^ pl - 1) = y at hn e hb hc ⊢
  generalize y.toBitVec.toNat = nn at hn e hc
  have k := pop_z (nn / 64) (by omega) (nn % 64) (by omega)
  rw [show 64 * (nn / 64) + nn % 64 = nn by omega] at k
  rw [e]
  show f_316 zSto (J nn) = _
  rw [k, gth_cut (b := bitO x) (pl := pl) (fun p hp => by rw [hc, hb p hp]) h]
