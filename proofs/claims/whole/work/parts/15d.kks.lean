set_option maxRecDepth 100000 in
theorem kks_10 : ((kks.drop 120).take 12).all (fun q => kOk q.1 q.2) = true := by decide +kernel
set_option maxRecDepth 100000 in
theorem kks_11 : ((kks.drop 132).take 12).all (fun q => kOk q.1 q.2) = true := by decide +kernel
set_option maxRecDepth 100000 in
theorem kks_12 : ((kks.drop 144).take 12).all (fun q => kOk q.1 q.2) = true := by decide +kernel
set_option maxRecDepth 100000 in
theorem kks_13 : ((kks.drop 156).take 12).all (fun q => kOk q.1 q.2) = true := by decide +kernel
set_option maxRecDepth 100000 in
theorem kks_14 : ((kks.drop 168).take 12).all (fun q => kOk q.1 q.2) = true := by decide +kernel
