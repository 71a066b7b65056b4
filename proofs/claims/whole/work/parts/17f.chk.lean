/-! Methods checked -/
set_option maxRecDepth 100000 in
theorem chk_73 : [216, 217, 218].all chkM = true := by decide +kernel
set_option maxRecDepth 100000 in
theorem chk_74 : [219, 220, 221].all chkM = true := by decide +kernel
set_option maxRecDepth 100000 in
theorem chk_75 : [222, 223, 224].all chkM = true := by decide +kernel
set_option maxRecDepth 100000 in
theorem chk_76 : [225, 226, 227].all chkM = true := by decide +kernel
set_option maxRecDepth 100000 in
theorem chk_77 : [228, 229, 230].all chkM = true := by decide +kernel
set_option maxRecDepth 100000 in
theorem chk_78 : [231, 232, 233].all chkM = true := by decide +kernel
set_option maxRecDepth 100000 in
theorem chk_79 : [234, 235, 236].all chkM = true := by decide +kernel
set_option maxRecDepth 100000 in
theorem chk_80 : [237, 238, 239].all chkM = true := by decide +kernel
set_option maxRecDepth 100000 in
theorem chk_81 : [240, 241].all chkM = true := by decide +kernel
