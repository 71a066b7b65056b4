/-! Methods checked -/
set_option maxRecDepth 100000 in
theorem chk_18 : [54, 55, 56].all chkM = true := by decide +kernel
set_option maxRecDepth 100000 in
theorem chk_19 : [57, 58, 59].all chkM = true := by decide +kernel
set_option maxRecDepth 100000 in
theorem chk_20 : [60, 61, 62].all chkM = true := by decide +kernel
set_option maxRecDepth 100000 in
theorem chk_21 : [63, 64, 65].all chkM = true := by decide +kernel
set_option maxRecDepth 100000 in
theorem chk_22 : [66, 67, 68].all chkM = true := by decide +kernel
set_option maxRecDepth 100000 in
theorem chk_23 : [69, 70, 71].all chkM = true := by decide +kernel
set_option maxRecDepth 100000 in
theorem chk_24 : [72, 73, 74].all chkM = true := by decide +kernel
set_option maxRecDepth 100000 in
theorem chk_25 : [75, 76, 77].all chkM = true := by decide +kernel
set_option maxRecDepth 100000 in
theorem chk_26 : [78, 79, 80].all chkM = true := by decide +kernel
set_option maxRecDepth 100000 in
theorem chk_27 : [81, 82, 83].all chkM = true := by decide +kernel
set_option maxRecDepth 100000 in
theorem chk_28 : [84, 85, 86].all chkM = true := by decide +kernel
set_option maxRecDepth 100000 in
theorem chk_29 : [87, 88, 89].all chkM = true := by decide +kernel
set_option maxRecDepth 100000 in
theorem chk_30 : [90, 91, 92].all chkM = true := by decide +kernel
set_option maxRecDepth 100000 in
theorem chk_31 : [93, 94, 95].all chkM = true := by decide +kernel
set_option maxRecDepth 100000 in
theorem chk_32 : [96, 97, 98].all chkM = true := by decide +kernel
set_option maxRecDepth 100000 in
theorem chk_33 : [99, 100, 101].all chkM = true := by decide +kernel
set_option maxRecDepth 100000 in
theorem chk_34 : [102, 103, 104].all chkM = true := by decide +kernel
set_option maxRecDepth 100000 in
theorem chk_35 : [105, 106, 107].all chkM = true := by decide +kernel
set_option maxRecDepth 100000 in
theorem chk_36 : [108, 109, 110].all chkM = true := by decide +kernel
set_option maxRecDepth 100000 in
theorem chk_37 : [111, 112, 113].all chkM = true := by decide +kernel
set_option maxRecDepth 100000 in
theorem chk_38 : [114, 115, 116].all chkM = true := by decide +kernel
set_option maxRecDepth 100000 in
theorem chk_39 : [117, 118, 119].all chkM = true := by decide +kernel
