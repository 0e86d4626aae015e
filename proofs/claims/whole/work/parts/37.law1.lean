/-! ===== bytes and instructions of the law ===== -/
theorem ml_48 : ((o_307.drop 48).take 4).all (fun ch => ch.all fun e => ochk 307 e.1 e.2) = true := by decide +kernel
theorem ml_52 : ((o_307.drop 52).take 4).all (fun ch => ch.all fun e => ochk 307 e.1 e.2) = true := by decide +kernel
theorem ml_56 : ((o_307.drop 56).take 4).all (fun ch => ch.all fun e => ochk 307 e.1 e.2) = true := by decide +kernel
theorem ml_60 : ((o_307.drop 60).take 4).all (fun ch => ch.all fun e => ochk 307 e.1 e.2) = true := by decide +kernel
theorem ml_64 : ((o_307.drop 64).take 4).all (fun ch => ch.all fun e => ochk 307 e.1 e.2) = true := by decide +kernel
theorem ml_68 : ((o_307.drop 68).take 4).all (fun ch => ch.all fun e => ochk 307 e.1 e.2) = true := by decide +kernel
