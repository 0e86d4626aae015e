/-! ===== bytes and instructions of the law ===== -/
theorem ml_102 : ((o_307.drop 102).take 2).all (fun ch => ch.all fun e => ochk 307 e.1 e.2) = true := by decide +kernel
