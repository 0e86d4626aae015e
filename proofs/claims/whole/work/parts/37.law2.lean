/-! ===== bytes and instructions of the law ===== -/
theorem ml_72 : ((o_307.drop 72).take 4).all (fun ch => ch.all fun e => ochk 307 e.1 e.2) = true := by decide +kernel
theorem ml_76 : ((o_307.drop 76).take 4).all (fun ch => ch.all fun e => ochk 307 e.1 e.2) = true := by decide +kernel
theorem ml_80 : ((o_307.drop 80).take 4).all (fun ch => ch.all fun e => ochk 307 e.1 e.2) = true := by decide +kernel
