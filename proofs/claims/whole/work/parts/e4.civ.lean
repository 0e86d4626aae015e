/-! ===== the class at the loop's beginning ===== -/
variable {L : Nat} {xs : Nat → Int32} {fm : Option Nat}
set_option maxRecDepth 100000 in
theorem z5_G : RGg (z5 L xs fm) 121 m0 := by
  refine ⟨⟨rfl, rfl, rfl, rfl, rfl, rfl, rfl⟩, fun q hq => ⟨?_, ?_, ?_⟩, fun i hi => rfl, fun i hi => absurd hi (Nat.not_lt_zero _), fun i hi => absurd hi (Nat.not_lt_zero _), fun i hi => absurd hi (Nat.not_lt_zero _)⟩
  · rw [m0_0 (by omega)]; rfl
  · rw [m0_0 (by omega)]; rfl
  · rw [m0_0 (by omega)]; rfl
set_option maxRecDepth 100000 in
theorem z5_P : RPp (z5 L xs fm) 144 m0 := ⟨⟨rfl, rfl⟩, fun i hi => absurd hi (Nat.not_lt_zero _), fun i hi => absurd hi (Nat.not_lt_zero _)⟩
set_option maxRecDepth 100000 in
theorem z5_Y : RYd (z5 L xs fm) 120 m0 := ⟨z5_G, z5_P, ⟨rfl, rfl, rfl, rfl, rfl, rfl, rfl, rfl⟩, fun i hi => absurd hi (Nat.not_lt_zero _), fun i hi => absurd hi (Nat.not_lt_zero _), fun i hi => absurd hi (Nat.not_lt_zero _)⟩
theorem z5_n : sN (z5 L xs fm) = 278 := rfl
set_option maxRecDepth 100000 in
theorem z5_C : CIv (z5 L xs fm) 96 m0 m0 false (fun _ => 0) 0 none :=
  ⟨⟨⟨rfl, (by rw [z5_n]; omega), (by rw [z5_n])⟩, z5_s11, ⟨m0_V.1, m0_V.2, z5_Y⟩, fun h => by (cases h), rfl, ⟨rfl, by omega, fun k hk => absurd hk (Nat.not_lt_zero _)⟩, ⟨rfl, fun q h => by (cases h)⟩, rfl, z5_B.1, z5_B.2⟩, Or.inl rfl⟩
def swB (σ : Sto) (e : Nat × List Nat) : Bool := (Nat.ble 2 e.1 && Nat.blt e.1 95 && Nat.ble 1 e.2.length && Nat.ble e.2.length 10 && e.2.all (fun x => Nat.ble x 127)) && (Nat.beq (sK σ e.1) 19 && decide (sI σ e.1 1 = J 0) && opB (sP σ e.1 0) (e.1 + 1) && Nat.beq (sK σ (e.1 + 1)) 20 && Nat.beq (sZ σ (e.1 + 1)) e.2.length && (List.range e.2.length).all (fun j => decide (sI σ (e.1 + 1) j = J (e.2.getD j 0))))
set_option maxRecDepth 100000 in
theorem z5_wB : wTab.all (swB (z5 L xs fm)) = true := by rfl
