/-! ===== the shapes at the loop's beginning ===== -/
variable {L : Nat} {xs : Nat → Int32} {fm : Option Nat}
theorem all_lt {n : Nat} {f : Nat → Bool} (h : (List.range n).all f = true) : ∀ i, i < n → f i = true := fun i hi => List.all_eq_true.mp h i (List.mem_range.mpr hi)
theorem z5_12k : (List.range 17).all (fun i => Nat.beq (sK (z5 L xs fm) (260 + i)) (zs_12.getD i (0, 0)).1 && Nat.beq (sZ (z5 L xs fm) (260 + i)) (zs_12.getD i (0, 0)).2) = true := by rfl
def opB (o : Option Nat) (v : Nat) : Bool := match o with
  | some q => Nat.beq q v
  | none => false
theorem opB_e {o : Option Nat} {v : Nat} (h : opB o v = true) : o = some v := by
  cases o with
  | none => cases h
  | some q => exact congrArg some (Nat.eq_of_beq_eq_true h)
theorem z5_12p : (List.range 16).all (fun k => opB (sP (z5 L xs fm) (260 + (ps_12.getD k (0, 0, 0)).1) (ps_12.getD k (0, 0, 0)).2.1) (260 + (ps_12.getD k (0, 0, 0)).2.2)) = true := by rfl
set_option maxRecDepth 1000000 in
theorem z5_11k : (List.range 164).all (fun i => Nat.beq (sK (z5 L xs fm) (96 + i)) (zs_11.getD i (0, 0)).1 && Nat.beq (sZ (z5 L xs fm) (96 + i)) (zs_11.getD i (0, 0)).2) = true := by rfl
set_option maxRecDepth 1000000 in
theorem z5_11p : (List.range 163).all (fun k => opB (sP (z5 L xs fm) (96 + (ps_11.getD k (0, 0, 0)).1) (ps_11.getD k (0, 0, 0)).2.1) (96 + (ps_11.getD k (0, 0, 0)).2.2)) = true := by rfl
theorem shp_b {n np : Nat} {zs : List (Nat × Nat)} {ps : List (Nat × Nat × Nat)} {σ : Sto} {o : Nat} (h1 : (List.range n).all (fun i => Nat.beq (sK σ (o + i)) (zs.getD i (0, 0)).1 && Nat.beq (sZ σ (o + i)) (zs.getD i (0, 0)).2) = true) (h2 : (List.range np).all (fun k => opB (sP σ (o + (ps.getD k (0, 0, 0)).1) (ps.getD k (0, 0, 0)).2.1) (o + (ps.getD k (0, 0, 0)).2.2)) = true) : Shp n np zs ps σ o := by
  refine ⟨fun i hi => ?_, fun k hk => opB_e (all_lt h2 k hk)⟩
  have := all_lt h1 i hi
  rw [Bool.and_eq_true] at this
  exact ⟨Nat.eq_of_beq_eq_true this.1, Nat.eq_of_beq_eq_true this.2⟩
theorem z5_s12 : S_12 (z5 L xs fm) 260 := shp_b z5_12k z5_12p
theorem z5_s11 : S_11 (z5 L xs fm) 96 := shp_b z5_11k z5_11p
