/-! ===== the invariant at the loop's beginning ===== -/
variable {L : Nat} {xs : Nat → Int32} {fm : Option Nat}
def m0 : Mem := fun k => if k = 9 then 1 else if k = 12 then 95 else if k = 15 then 999 else if k = 16 then 99999 else 0
theorem z5_261 : sI (z5 L xs fm) 261 = up (up (up (up (fun _ => 0) 9 1) 12 95) 15 999) 16 99999 := by rfl
set_option maxRecDepth 100000 in
theorem z5_SC : SCt (z5 L xs fm) L xs := ⟨⟨rfl, rfl, fun j => rfl⟩, rfl, rfl⟩
theorem m0_V : VG m0 ∧ VOo m0 := by
  refine ⟨⟨by decide, by decide, fun g hg => absurd hg (Nat.not_lt_zero _), fun g hg => absurd hg (Nat.not_lt_zero _), fun g hg => absurd hg (Nat.not_lt_zero _)⟩, ⟨by decide, fun g hg => absurd hg (Nat.not_lt_zero _), fun g hg => absurd hg (Nat.not_lt_zero _), fun g hg => absurd hg (Nat.not_lt_zero _), fun p => Nat.zero_le _, fun g hg => absurd hg (Nat.not_lt_zero _)⟩⟩
theorem z5_R : RIv (z5 L xs fm) 260 m0 m0 false (fun _ => 0) 0 none := by
  refine ⟨z5_s12, fun k hk => ?_, fun h => by (cases h), rfl, ⟨rfl, fun k hk => absurd hk (Nat.not_lt_zero _)⟩, rfl⟩
  show sI (z5 L xs fm) 261 k = J (m0 k)
  rw [z5_261]
  unfold m0
  by_cases c1 : k = 16
  · subst c1; rfl
  · rw [up_ne c1]
    by_cases c2 : k = 15
    · subst c2; rfl
    · rw [up_ne c2]
      by_cases c3 : k = 12
      · subst c3; rfl
      · rw [up_ne c3]
        by_cases c4 : k = 9
        · subst c4; rfl
        · rw [up_ne c4, if_neg c4, if_neg c3, if_neg c2, if_neg c1]; rfl
theorem m0_0 {k : Nat} (h : k ≠ 9 ∧ k ≠ 12 ∧ k ≠ 15 ∧ k ≠ 16) : m0 k = 0 := by unfold m0; rw [if_neg h.1, if_neg h.2.1, if_neg h.2.2.1, if_neg h.2.2.2]
set_option maxRecDepth 100000 in
theorem z5_B : BLo (z5 L xs fm) 120 ∧ BLo (z5 L xs fm) 157 := ⟨⟨fun l _ => Or.inl rfl, fun i r e => by cases (show none = some r from e)⟩, ⟨fun l _ => Or.inl rfl, fun i r e => by cases (show none = some r from e)⟩⟩
