/-! Methods checked -/
set_option maxRecDepth 100000 in
theorem chk_58 : [171, 172, 173].all chkM = true := by decide +kernel
set_option maxRecDepth 100000 in
theorem chk_59 : [174, 175, 176].all chkM = true := by decide +kernel
set_option maxRecDepth 100000 in
theorem chk_60 : [177, 178, 179].all chkM = true := by decide +kernel
set_option maxRecDepth 100000 in
theorem chk_61 : [180, 181, 182].all chkM = true := by decide +kernel
set_option maxRecDepth 100000 in
theorem chk_62 : [183, 184, 185].all chkM = true := by decide +kernel
set_option maxRecDepth 100000 in
theorem chk_63 : [186, 187, 188].all chkM = true := by decide +kernel
set_option maxRecDepth 100000 in
theorem chk_64 : [189, 190, 191].all chkM = true := by decide +kernel
set_option maxRecDepth 100000 in
theorem chk_65 : [192, 193, 194].all chkM = true := by decide +kernel
set_option maxRecDepth 100000 in
theorem chk_66 : [195, 196, 197].all chkM = true := by decide +kernel
set_option maxRecDepth 100000 in
theorem chk_67 : [198, 199, 200].all chkM = true := by decide +kernel
set_option maxRecDepth 100000 in
theorem chk_68 : [201, 202, 203].all chkM = true := by decide +kernel
set_option maxRecDepth 100000 in
theorem chk_69 : [204, 205, 206].all chkM = true := by decide +kernel
set_option maxRecDepth 100000 in
theorem chk_70 : [207, 208, 209].all chkM = true := by decide +kernel
set_option maxRecDepth 100000 in
theorem chk_71 : [210, 211, 212].all chkM = true := by decide +kernel
set_option maxRecDepth 100000 in
theorem chk_72 : [213, 214, 215].all chkM = true := by decide +kernel
