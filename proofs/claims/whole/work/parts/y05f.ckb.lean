/-! The law's own instructions, as the machine has them, second half. -/
set_option maxRecDepth 1000000 in
theorem c262_15 : ((c262.drop 375).take 25).all zch2 = true := by decide +kernel
set_option maxRecDepth 1000000 in
theorem c262_16 : ((c262.drop 400).take 25).all zch2 = true := by decide +kernel
set_option maxRecDepth 1000000 in
theorem c262_17 : ((c262.drop 425).take 25).all zch2 = true := by decide +kernel
set_option maxRecDepth 1000000 in
theorem c262_18 : ((c262.drop 450).take 25).all zch2 = true := by decide +kernel
set_option maxRecDepth 1000000 in
theorem c262_19 : ((c262.drop 475).take 25).all zch2 = true := by decide +kernel
set_option maxRecDepth 1000000 in
theorem c262_20 : ((c262.drop 500).take 25).all zch2 = true := by decide +kernel
set_option maxRecDepth 1000000 in
theorem c262_21 : ((c262.drop 525).take 25).all zch2 = true := by decide +kernel
set_option maxRecDepth 1000000 in
theorem c262_22 : ((c262.drop 550).take 25).all zch2 = true := by decide +kernel
set_option maxRecDepth 1000000 in
theorem c262_23 : ((c262.drop 575).take 25).all zch2 = true := by decide +kernel
set_option maxRecDepth 1000000 in
theorem c262_24 : ((c262.drop 600).take 25).all zch2 = true := by decide +kernel
set_option maxRecDepth 1000000 in
theorem c262_25 : ((c262.drop 625).take 25).all zch2 = true := by decide +kernel
set_option maxRecDepth 1000000 in
theorem c262_26 : ((c262.drop 650).take 25).all zch2 = true := by decide +kernel
set_option maxRecDepth 1000000 in
theorem c262_27 : ((c262.drop 675).take 25).all zch2 = true := by decide +kernel
set_option maxRecDepth 1000000 in
theorem c262_28 : ((c262.drop 700).take 25).all zch2 = true := by decide +kernel
