/-! ===== bytes and instructions of the law ===== -/
theorem ml_0 : ((o_307.drop 0).take 4).all (fun ch => ch.all fun e => ochk 307 e.1 e.2) = true := by decide +kernel
theorem ml_4 : ((o_307.drop 4).take 4).all (fun ch => ch.all fun e => ochk 307 e.1 e.2) = true := by decide +kernel
theorem ml_8 : ((o_307.drop 8).take 4).all (fun ch => ch.all fun e => ochk 307 e.1 e.2) = true := by decide +kernel
theorem ml_12 : ((o_307.drop 12).take 4).all (fun ch => ch.all fun e => ochk 307 e.1 e.2) = true := by decide +kernel
theorem ml_16 : ((o_307.drop 16).take 4).all (fun ch => ch.all fun e => ochk 307 e.1 e.2) = true := by decide +kernel
theorem ml_20 : ((o_307.drop 20).take 4).all (fun ch => ch.all fun e => ochk 307 e.1 e.2) = true := by decide +kernel
theorem ml_24 : ((o_307.drop 24).take 4).all (fun ch => ch.all fun e => ochk 307 e.1 e.2) = true := by decide +kernel
theorem ml_28 : ((o_307.drop 28).take 4).all (fun ch => ch.all fun e => ochk 307 e.1 e.2) = true := by decide +kernel
theorem ml_32 : ((o_307.drop 32).take 4).all (fun ch => ch.all fun e => ochk 307 e.1 e.2) = true := by decide +kernel
theorem ml_36 : ((o_307.drop 36).take 4).all (fun ch => ch.all fun e => ochk 307 e.1 e.2) = true := by decide +kernel
theorem ml_40 : ((o_307.drop 40).take 4).all (fun ch => ch.all fun e => ochk 307 e.1 e.2) = true := by decide +kernel
theorem ml_44 : ((o_307.drop 44).take 4).all (fun ch => ch.all fun e => ochk 307 e.1 e.2) = true := by decide +kernel
