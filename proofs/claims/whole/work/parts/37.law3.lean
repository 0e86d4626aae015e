/-! ===== bytes and instructions of the law ===== -/
theorem ml_84 : ((o_307.drop 84).take 4).all (fun ch => ch.all fun e => ochk 307 e.1 e.2) = true := by decide +kernel
