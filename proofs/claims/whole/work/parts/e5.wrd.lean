/-! ===== the words at the loop's beginning; the law ===== -/
variable {L : Nat} {xs : Nat → Int32} {fm : Option Nat}
theorem swW_b {σ : Sto} {i : Nat} {w : List Nat} (h : swB σ (i, w) = true) : SW σ i w := by
  unfold swB at h
  simp only [Bool.and_eq_true, List.all_eq_true, decide_eq_true_eq] at h
  obtain ⟨⟨⟨⟨⟨a1, a2⟩, a3⟩, a4⟩, a5⟩, ⟨⟨⟨⟨⟨b1, b2⟩, b3⟩, b4⟩, b5⟩, b6⟩⟩ := h
  exact ⟨⟨Nat.le_of_ble_eq_true a1, Nat.le_of_ble_eq_true a2, Nat.le_of_ble_eq_true a3, Nat.le_of_ble_eq_true a4, fun j hj => Nat.le_of_ble_eq_true (a5 _ (gD_mem hj))⟩, Nat.eq_of_beq_eq_true b1, b2, opB_e b3, Nat.eq_of_beq_eq_true b4, Nat.eq_of_beq_eq_true b5, fun j hj => b6 j (List.mem_range.mpr hj)⟩
theorem z5_W : WRD (z5 L xs fm) := fun i w h => swW_b (List.all_eq_true.mp (z5_wB (L := L) (xs := xs) (fm := fm)) (i, w) h)
theorem lawRuns : LawRuns := fun L xs fm hL _ => law_start (law_loop hL (fun _ => rfl) 512 0 (600842, 7241600) _ _ _ _ (by omega) (by omega) (by decide) (by decide) ⟨m0, m0, false, fun _ => 0, 0, none, z5_C, z5_R, z5_W, z5_SC⟩)
