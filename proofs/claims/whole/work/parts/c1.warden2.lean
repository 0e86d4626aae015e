/-! ===== warden: which places ===== -/
def zSto : Sto := (0, fun _ => 0, fun _ => 0, fun _ _ => 0, fun _ _ => 0, fun _ _ => none)
theorem pop_z : ∀ a, a < 64 → ∀ b, b < 64 → f_316 zSto (J (64 * a + b)) = J ((gth (fun p => (64 * a + b).testBit p) 12).length) := by decide +kernel
