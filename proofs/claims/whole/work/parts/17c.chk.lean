/-! Methods checked -/
set_option maxRecDepth 100000 in
theorem chk_40 : [120, 121, 122].all chkM = true := by decide +kernel
set_option maxRecDepth 100000 in
theorem chk_41 : [123, 124, 125].all chkM = true := by decide +kernel
set_option maxRecDepth 100000 in
theorem chk_42 : [126, 127, 128].all chkM = true := by decide +kernel
set_option maxRecDepth 100000 in
theorem chk_43 : [129, 130, 131].all chkM = true := by decide +kernel
set_option maxRecDepth 100000 in
theorem chk_44 : [132, 133, 134].all chkM = true := by decide +kernel
set_option maxRecDepth 100000 in
theorem chk_45 : [135].all chkM = true := by decide +kernel
