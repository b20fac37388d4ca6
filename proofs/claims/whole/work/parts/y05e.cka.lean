/-! The law's own instructions, as the machine has them, first half. -/
def zch2 (e1 : zE) : Bool := Nat.beq e1.1 283 || zchk 262 e1
set_option maxRecDepth 1000000 in
theorem c262_0 : ((c262.drop 0).take 25).all zch2 = true := by decide +kernel
set_option maxRecDepth 1000000 in
theorem c262_1 : ((c262.drop 25).take 25).all zch2 = true := by decide +kernel
set_option maxRecDepth 1000000 in
theorem c262_2 : ((c262.drop 50).take 25).all zch2 = true := by decide +kernel
set_option maxRecDepth 1000000 in
theorem c262_3 : ((c262.drop 75).take 25).all zch2 = true := by decide +kernel
set_option maxRecDepth 1000000 in
theorem c262_4 : ((c262.drop 100).take 25).all zch2 = true := by decide +kernel
set_option maxRecDepth 1000000 in
theorem c262_5 : ((c262.drop 125).take 25).all zch2 = true := by decide +kernel
set_option maxRecDepth 1000000 in
theorem c262_6 : ((c262.drop 150).take 25).all zch2 = true := by decide +kernel
set_option maxRecDepth 1000000 in
theorem c262_7 : ((c262.drop 175).take 25).all zch2 = true := by decide +kernel
set_option maxRecDepth 1000000 in
theorem c262_8 : ((c262.drop 200).take 25).all zch2 = true := by decide +kernel
set_option maxRecDepth 1000000 in
theorem c262_9 : ((c262.drop 225).take 25).all zch2 = true := by decide +kernel
set_option maxRecDepth 1000000 in
theorem c262_10 : ((c262.drop 250).take 25).all zch2 = true := by decide +kernel
set_option maxRecDepth 1000000 in
theorem c262_11 : ((c262.drop 275).take 25).all zch2 = true := by decide +kernel
set_option maxRecDepth 1000000 in
theorem c262_12 : ((c262.drop 300).take 25).all zch2 = true := by decide +kernel
set_option maxRecDepth 1000000 in
theorem c262_13 : ((c262.drop 325).take 25).all zch2 = true := by decide +kernel
set_option maxRecDepth 1000000 in
theorem c262_14 : ((c262.drop 350).take 25).all zch2 = true := by decide +kernel
