/-! ===== bytes and instructions of the law ===== -/
theorem ml_100 : ((o_307.drop 100).take 2).all (fun ch => ch.all fun e => ochk 307 e.1 e.2) = true := by decide +kernel
