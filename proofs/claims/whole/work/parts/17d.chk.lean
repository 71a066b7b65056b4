/-! Methods checked -/
set_option maxRecDepth 100000 in
theorem chk_46 : [136, 137, 138].all chkM = true := by decide +kernel
set_option maxRecDepth 100000 in
theorem chk_47 : [139, 140, 141].all chkM = true := by decide +kernel
set_option maxRecDepth 100000 in
theorem chk_48 : [142, 143, 144].all chkM = true := by decide +kernel
set_option maxRecDepth 100000 in
theorem chk_49 : [145, 146, 147].all chkM = true := by decide +kernel
set_option maxRecDepth 100000 in
theorem chk_50 : [148, 149, 150].all chkM = true := by decide +kernel
set_option maxRecDepth 100000 in
theorem chk_51 : [151, 152, 153].all chkM = true := by decide +kernel
set_option maxRecDepth 100000 in
theorem chk_52 : [154, 155, 156].all chkM = true := by decide +kernel
set_option maxRecDepth 100000 in
theorem chk_53 : [157, 158, 159].all chkM = true := by decide +kernel
set_option maxRecDepth 100000 in
theorem chk_54 : [160, 161, 162].all chkM = true := by decide +kernel
set_option maxRecDepth 100000 in
theorem chk_55 : [163, 164, 165].all chkM = true := by decide +kernel
set_option maxRecDepth 100000 in
theorem chk_56 : [166, 167, 168].all chkM = true := by decide +kernel
set_option maxRecDepth 100000 in
theorem chk_57 : [169, 170].all chkM = true := by decide +kernel
