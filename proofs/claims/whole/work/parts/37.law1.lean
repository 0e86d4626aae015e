/-! ===== bytes and instructions of the law ===== -/
theorem ml_48 : ((o_307.drop 48).take 4).all (fun ch => ch.all fun e => ochk 307 e.1 e.2) = true := by decide +kernel
theorem ml_52 : ((o_307.drop 52).take 4).all (fun ch => ch.all fun e => ochk 307 e.1 e.2) = true := by decide +kernel
theorem ml_56 : ((o_307.drop 56).take 4).all (fun ch => ch.all fun e => ochk 307 e.1 e.2) = true := by decide +kernel
theorem ml_60 : ((o_307.drop 60).take 4).all (fun ch => ch.all fun e => ochk 307 e.1 e.2) = true := by decide +kernel
theorem ml_64 : ((o_307.drop 64).take 4).all (fun ch => ch.all fun e => ochk 307 e.1 e.2) = true := by decide +kernel
theorem ml_68 : ((o_307.drop 68).take 4).all (fun ch => ch.all fun e => ochk 307 e.1 e.2) = true := by decide +kernel
theorem ml_72 : ((o_307.drop 72).take 4).all (fun ch => ch.all fun e => ochk 307 e.1 e.2) = true := by decide +kernel
theorem ml_76 : ((o_307.drop 76).take 4).all (fun ch => ch.all fun e => ochk 307 e.1 e.2) = true := by decide +kernel
theorem ml_80 : ((o_307.drop 80).take 4).all (fun ch => ch.all fun e => ochk 307 e.1 e.2) = true := by decide +kernel
theorem ml_84 : ((o_307.drop 84).take 4).all (fun ch => ch.all fun e => ochk 307 e.1 e.2) = true := by decide +kernel
theorem ml_88 : ((o_307.drop 88).take 4).all (fun ch => ch.all fun e => ochk 307 e.1 e.2) = true := by decide +kernel
theorem ml_92 : ((o_307.drop 92).take 4).all (fun ch => ch.all fun e => ochk 307 e.1 e.2) = true := by decide +kernel
theorem ml_96 : ((o_307.drop 96).take 4).all (fun ch => ch.all fun e => ochk 307 e.1 e.2) = true := by decide +kernel
theorem ml_100 : ((o_307.drop 100).take 4).all (fun ch => ch.all fun e => ochk 307 e.1 e.2) = true := by decide +kernel
