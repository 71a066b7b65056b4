/-! Methods checked -/
set_option maxRecDepth 100000 in
theorem chk_0 : [1, 2, 3].all chkM = true := by decide +kernel
set_option maxRecDepth 100000 in
theorem chk_1 : [4, 5, 6].all chkM = true := by decide +kernel
set_option maxRecDepth 100000 in
theorem chk_2 : [7, 8, 9].all chkM = true := by decide +kernel
set_option maxRecDepth 100000 in
theorem chk_3 : [10, 11, 12].all chkM = true := by decide +kernel
set_option maxRecDepth 100000 in
theorem chk_4 : [13, 14, 15].all chkM = true := by decide +kernel
set_option maxRecDepth 100000 in
theorem chk_5 : [16, 17, 18].all chkM = true := by decide +kernel
set_option maxRecDepth 100000 in
theorem chk_6 : [19, 20, 21].all chkM = true := by decide +kernel
set_option maxRecDepth 100000 in
theorem chk_7 : [22, 23, 24].all chkM = true := by decide +kernel
set_option maxRecDepth 100000 in
theorem chk_8 : [25, 26, 27].all chkM = true := by decide +kernel
set_option maxRecDepth 100000 in
theorem chk_9 : [28, 29, 30].all chkM = true := by decide +kernel
set_option maxRecDepth 100000 in
theorem chk_10 : [31, 32, 33].all chkM = true := by decide +kernel
set_option maxRecDepth 100000 in
theorem chk_11 : [34, 35, 36].all chkM = true := by decide +kernel
set_option maxRecDepth 100000 in
theorem chk_12 : [37, 38, 39].all chkM = true := by decide +kernel
set_option maxRecDepth 100000 in
theorem chk_13 : [40, 41, 42].all chkM = true := by decide +kernel
set_option maxRecDepth 100000 in
theorem chk_14 : [43, 44, 45].all chkM = true := by decide +kernel
set_option maxRecDepth 100000 in
theorem chk_15 : [46, 47, 48].all chkM = true := by decide +kernel
set_option maxRecDepth 100000 in
theorem chk_16 : [49, 50, 51].all chkM = true := by decide +kernel
set_option maxRecDepth 100000 in
theorem chk_17 : [52, 53].all chkM = true := by decide +kernel
